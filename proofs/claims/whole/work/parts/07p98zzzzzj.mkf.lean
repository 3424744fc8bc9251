/-! BUILD, 58: the model: what making keeps; the model as time begins -/
/-- what making leaves of the model; n0 actions stood, m stand -/
def bqM (n0 m : Nat) (Z Y : bZs) : Prop := n0 ≤ m ∧ zU [49, 99, 101, 102, 103, 104, 105, 106, 107, 109] Z Y ∧ (Y.2.1 = Z.2.1 ∧ Y.2.2.1 = Z.2.2.1) ∧ (∀ b, b < (n0 : Int) → Y.2.2.2 b = Z.2.2.2 b) ∧ (∀ b, (n0 : Int) ≤ b → b < (m : Int) → Y.2.2.2 b = none) ∧ ∀ a, 0 ≤ a → a < (n0 : Int) → (∀ c ∈ [101, 102, 103, 104, 105], Y.1 c a = Z.1 c a) ∧ ∀ i, 0 ≤ i → i < 40 → Y.1 106 (40 * a + i) = Z.1 106 (40 * a + i)
/-- the model's start of a build -/
def bqS (σ : bSt) (Z : bZs) : bZs := (fun c j => if c = 49 ∨ (101 ≤ c ∧ c ≤ 106) then Z.1 c j else if c = 109 ∨ c = 139 ∨ c = 141 ∨ c = 305 ∨ c = 306 then 0 else if c = 395 then -1 else if 142 ≤ c ∧ c ≤ 148 ∧ 0 ≤ j ∧ j < 120 then (if c = 147 then 0 else -1) else bi σ c j, Z.2)
/-- what is wanted is what was found -/
def bqA (Z : bZs) : bZs := (fun c j => if c = 140 then Z.1 109 j else Z.1 c j, Z.2)
/-- the model as time begins -/
def bqT (σ : bSt) (n : Nat) (Z : bZs) : bZs := bmWd σ n (bmBy σ 48 (bqA Z))
section
variable {σ s : bSt} {Z Y X Zs : bZs} {x y a b k i : Int} {V W : List Int} {n m n0 z0 : Nat} {rk : Int → Nat}
theorem bqM_refl (h : Z.1 49 0 = n) : bqM n n Z Z := ⟨Nat.le_refl _, zU_refl, ⟨rfl, rfl⟩, fun _ _ => rfl, fun b h1 h2 => by omega, fun _ _ _ => ⟨fun _ _ => rfl, fun _ _ _ => rfl⟩⟩
theorem bmMk_k (h49 : Z.1 49 0 = n) (M : bqM n0 n Zs Z) (hY : bmMk σ x Z = some Y) : ∃ m : Nat, Y.1 49 0 = m ∧ bqM n0 m Zs Y := by
  obtain ⟨M0, M1, M2, M3, M4, M5⟩ := M
  unfold bmMk at hY
  rw [h49, Int.toNat_natCast] at hY
  have tag : ∀ (T : bZs) (a : Int), zU [99, 107, 109] T (bmTg T x a) ∧ (bmTg T x a).2 = T.2 := fun T a => by
    obtain ⟨g0, _, _, _, g2⟩ := bmTg_e (Z := T) (x := x) (a := a)
    exact ⟨fun c hc j => g0 c (fun e => hc (by rw [e]; decide)) (fun e => hc (by rw [e]; decide)) (fun e => hc (by rw [e]; decide)) j, g2⟩
  split at hY
  · have hY := (Option.some.inj hY).symm
    obtain ⟨t1, t2⟩ := tag Z (bmFd σ Z x n)
    rw [← hY] at t1 t2
    refine ⟨n, by rw [t1 49 (by decide)]; exact h49, M0, zU_trans M1 (zU_mono t1 (by decide)), by rw [t2]; exact M2, fun b hb => by rw [t2]; exact M3 b hb, fun b h1 h2 => by rw [t2]; exact M4 b h1 h2, fun a a0 a1 => ⟨fun c hc => ?_, fun i i0 i1 => by rw [t1 106 (by decide)]; exact (M5 a a0 a1).2 i i0 i1⟩⟩
    rw [t1 c (by simp only [List.mem_cons, List.not_mem_nil, or_false] at hc ⊢; omega)]
    exact (M5 a a0 a1).1 c hc
  · split at hY
    · cases hY
    · have hY := (Option.some.inj hY).symm
      obtain ⟨t1, t2⟩ := tag (zw (bmNw σ Z x n) 109 n 0) n
      rw [← hY] at t1 t2
      have wr : ∀ c, c ≠ 106 → ∀ j, (bmNw σ Z x n).1 c j = (zw (zw (zw (zw (zw (zw Z 49 0 ((n : Int) + 1)) 101 n (bi σ 76 (x / 256))) 102 n (bNu σ (x / 256) (x % 256))) 103 n (bVe σ (x / 256) (x % 256))) 104 n (bi σ 75 (x / 256))) 105 n (bmL σ Z x).length).1 c j := fun c hc j => if_neg fun q => hc q.1
      have k2 : ∀ b, Y.2.2.2 b = if b = (n : Int) then none else Z.2.2.2 b := fun b => by rw [t2]; rfl
      refine ⟨n + 1, ?_, by omega, ?_, ?_, fun b hb => ?_, fun b h1 h2 => ?_, fun a a0 a1 => ⟨fun c hc => ?_, fun i i0 i1 => ?_⟩⟩
      · rw [t1 49 (by decide), zw_a (by decide), wr 49 (by decide), zw_a (by decide), zw_a (by decide), zw_a (by decide), zw_a (by decide), zw_a (by decide), zw_e]
        omega
      · intro c hc j
        have hc' := hc
        simp only [List.mem_cons, List.not_mem_nil, or_false, not_or] at hc'
        rw [t1 c (by simp only [List.mem_cons, List.not_mem_nil, or_false]; omega), zw_a (by omega), wr c (by omega), zw_a (by omega), zw_a (by omega), zw_a (by omega), zw_a (by omega), zw_a (by omega), zw_a (by omega)]
        exact M1 c hc j
      · rw [t2]; exact M2
      · rw [k2, if_neg (by omega)]; exact M3 b hb
      · rw [k2]
        by_cases e : b = n
        · rw [if_pos e]
        · rw [if_neg e]; exact M4 b h1 (by omega)
      · have hc' := hc
        simp only [List.mem_cons, List.not_mem_nil, or_false] at hc'
        have na : a ≠ (n : Int) := by omega
        rw [t1 c (by simp only [List.mem_cons, List.not_mem_nil, or_false]; omega), zw_a (by omega), wr c (by omega), zw_i na, zw_i na, zw_i na, zw_i na, zw_i na, zw_a (by omega)]
        exact (M5 a a0 a1).1 c hc
      · rw [t1 106 (by decide), zw_a (by decide)]
        show (if 106 = 106 ∧ 40 * (n : Int) ≤ 40 * a + i ∧ 40 * a + i < 40 * (n : Int) + (bmL σ Z x).length then _ else _) = _
        rw [if_neg (fun q => by omega), zw_a (by decide), zw_a (by decide), zw_a (by decide), zw_a (by decide), zw_a (by decide), zw_a (by decide)]
        exact (M5 a a0 a1).2 i i0 i1
theorem bmAl_k : ∀ (V : List Int) (Z : bZs) (n : Nat), Z.1 49 0 = n → bqM n0 n Zs Z → bmAl σ V Z = some Y → ∃ m : Nat, Y.1 49 0 = m ∧ bqM n0 m Zs Y
  | [], Z, n, h49, M, hY => by
    rw [← Option.some.inj hY]
    exact ⟨n, h49, M⟩
  | x :: V, Z, n, h49, M, hY => by
    have hY : (bmMk σ x Z).bind (bmAl σ V) = some Y := hY
    cases hm : bmMk σ x Z with
    | none => rw [hm] at hY; cases hY
    | some X =>
      rw [hm] at hY
      obtain ⟨m, e, M2⟩ := bmMk_k h49 M hm
      exact bmAl_k V X m e M2 hY
/-- the model's start -/
theorem bqS_e : (∀ c, (c = 49 ∨ (101 ≤ c ∧ c ≤ 106)) → ∀ j, (bqS σ Z).1 c j = Z.1 c j) ∧ (∀ c ∈ [109, 139, 141, 305, 306], ∀ j, (bqS σ Z).1 c j = 0) ∧ (∀ j, (bqS σ Z).1 395 j = -1) ∧ (∀ c, 142 ≤ c → c ≤ 148 → ∀ j, 0 ≤ j → (bqS σ Z).1 c j = if j < 120 then (if c = 147 then 0 else -1) else bi σ c j) ∧ (∀ c ∈ [99, 107, 112, 134, 135, 137, 138, 140], ∀ j, (bqS σ Z).1 c j = bi σ c j) ∧ (bqS σ Z).2 = Z.2 := by
  refine ⟨fun c hc j => if_pos hc, fun c hc j => ?_, fun j => ?_, fun c c0 c1 j j0 => ?_, fun c hc j => ?_, rfl⟩
  · simp only [List.mem_cons, List.not_mem_nil, or_false] at hc
    show (if c = 49 ∨ (101 ≤ c ∧ c ≤ 106) then Z.1 c j else if c = 109 ∨ c = 139 ∨ c = 141 ∨ c = 305 ∨ c = 306 then 0 else _) = 0
    rw [if_neg (by omega), if_pos (by omega)]
  · have go : ∀ c : Nat, c = 395 → (if c = 49 ∨ (101 ≤ c ∧ c ≤ 106) then Z.1 c j else if c = 109 ∨ c = 139 ∨ c = 141 ∨ c = 305 ∨ c = 306 then 0 else if c = 395 then -1 else if 142 ≤ c ∧ c ≤ 148 ∧ 0 ≤ j ∧ j < 120 then (if c = 147 then 0 else -1) else bi σ c j) = -1 := fun c hc => by
      rw [if_neg (by omega), if_neg (by omega), if_pos hc]
    exact go 395 rfl
  · show (if c = 49 ∨ (101 ≤ c ∧ c ≤ 106) then Z.1 c j else if c = 109 ∨ c = 139 ∨ c = 141 ∨ c = 305 ∨ c = 306 then 0 else if c = 395 then -1 else if 142 ≤ c ∧ c ≤ 148 ∧ 0 ≤ j ∧ j < 120 then (if c = 147 then 0 else -1) else bi σ c j) = _
    rw [if_neg (by omega), if_neg (by omega), if_neg (by omega)]
    by_cases q : j < 120
    · rw [if_pos ⟨c0, c1, j0, q⟩, if_pos q]
    · rw [if_neg (fun w => q w.2.2.2), if_neg q]
  · simp only [List.mem_cons, List.not_mem_nil, or_false] at hc
    show (if c = 49 ∨ (101 ≤ c ∧ c ≤ 106) then Z.1 c j else if c = 109 ∨ c = 139 ∨ c = 141 ∨ c = 305 ∨ c = 306 then 0 else if c = 395 then -1 else if 142 ≤ c ∧ c ≤ 148 ∧ 0 ≤ j ∧ j < 120 then (if c = 147 then 0 else -1) else bi σ c j) = _
    rw [if_neg (by omega), if_neg (by omega), if_neg (by omega), if_neg (by omega)]
theorem bqA_e : (∀ c, c ≠ 140 → ∀ j, (bqA Z).1 c j = Z.1 c j) ∧ (∀ j, (bqA Z).1 140 j = Z.1 109 j) ∧ (bqA Z).2 = Z.2 := ⟨fun c hc j => if_neg hc, fun j => rfl, rfl⟩
theorem bmBy_u : ∀ k : Nat, zU [134] Z (bmBy σ k Z) ∧ (bmBy σ k Z).2 = Z.2
  | 0 => ⟨zU_refl, rfl⟩
  | k + 1 => by
    obtain ⟨h1, h2⟩ := bmBy_u k
    unfold bmBy
    split
    · exact ⟨h1, h2⟩
    · exact ⟨zU_trans h1 (zU_w (by decide)), h2⟩
theorem bmBy_01 (h : ∀ x, 0 ≤ x → x < 1000 → Z.1 134 x = 0 ∨ Z.1 134 x = 1) : ∀ k : Nat, ∀ x, 0 ≤ x → x < 1000 → (bmBy σ k Z).1 134 x = 0 ∨ (bmBy σ k Z).1 134 x = 1
  | 0 => h
  | k + 1 => fun x x0 x1 => by
    have ih := bmBy_01 h k x x0 x1
    unfold bmBy
    split
    · exact ih
    · rw [zw_w]
      split
      · exact Or.inr rfl
      · exact ih
theorem bmBy_m (e : ∀ p, bi s 56 p = bi σ 56 p) : ∀ k : Nat, bmBy s k Z = bmBy σ k Z
  | 0 => rfl
  | k + 1 => by
    unfold bmBy
    rw [e, bmBy_m e k]
/-- rows of the model as time begins -/
theorem bqT_u : zU [134, 140, 141] Z (bqT σ n Z) ∧ (∀ j, (bqT σ n Z).1 140 j = Z.1 109 j) ∧ (bqT σ n Z).2 = Z.2 := by
  obtain ⟨w1, w2⟩ := bmWd_u (σ := σ) n (bmBy σ 48 (bqA Z))
  obtain ⟨b1, b2⟩ := bmBy_u (σ := σ) (Z := bqA Z) 48
  obtain ⟨a1, a2, a3⟩ := bqA_e (Z := Z)
  unfold bqT
  refine ⟨fun c hc j => ?_, fun j => by rw [w1 140 (by decide), b1 140 (by decide)]; exact a2 j, by rw [w2, b2, a3]⟩
  simp only [List.mem_cons, List.not_mem_nil, or_false, not_or] at hc
  rw [w1 c (by simp only [List.mem_cons, List.not_mem_nil, or_false]; omega), b1 c (by simp only [List.mem_cons, List.not_mem_nil, or_false]; omega), a1 c (by omega)]
end

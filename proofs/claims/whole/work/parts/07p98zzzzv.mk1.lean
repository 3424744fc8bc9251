/-! BUILD, 44: the model: actions are made -/
/-- the inputs of a node's action -/
def bmL (σ : bSt) (Z : bZs) (x : Int) : List Int := bIl σ (fun y => Z.1 99 y) x (bi σ 85 (x / 256)).toNat
/-- action a is the node's -/
abbrev bmSr (σ : bSt) (Z : bZs) (x a : Int) : Prop := Z.1 101 a = bi σ 76 (x / 256) ∧ Z.1 102 a = bNu σ (x / 256) (x % 256) ∧ Z.1 103 a = bVe σ (x / 256) (x % 256) ∧ Z.1 105 a = (bmL σ Z x).length ∧ (bi σ 76 (x / 256) = 5 → Z.1 104 a = bi σ 75 (x / 256)) ∧ ∀ i : Nat, i < (bmL σ Z x).length → Z.1 106 (40 * a + i) = (bmL σ Z x).getD i 0
/-- the node's action among the first ones; -1: none is -/
def bmFd (σ : bSt) (Z : bZs) (x : Int) : Nat → Int
  | 0 => -1
  | k + 1 => if bmFd σ Z x k = -1 then (if bmSr σ Z x k then k else -1) else bmFd σ Z x k
/-- a new action is described at place n -/
def bmNw (σ : bSt) (Z : bZs) (x n : Int) : bZs := (fun c j => if c = 106 ∧ 40 * n ≤ j ∧ j < 40 * n + (bmL σ Z x).length then (bmL σ Z x).getD (j - 40 * n).toNat 0
  else (zw (zw (zw (zw (zw (zw Z 49 0 (n + 1)) 101 n (bi σ 76 (x / 256))) 102 n (bNu σ (x / 256) (x % 256))) 103 n (bVe σ (x / 256) (x % 256))) 104 n (bi σ 75 (x / 256))) 105 n (bmL σ Z x).length).1 c j, Z.2.1, Z.2.2.1, fun b => if b = n then none else Z.2.2.2 b)
/-- action a was found for node x: the first target to find it now tells how it is run -/
def bmTg (Z : bZs) (x a : Int) : bZs := zw (zw (if Z.1 109 a = 0 then zw Z 107 a (x / 256) else Z) 109 a 1) 99 x a
/-- the action of a node is made; none: there would be too many -/
def bmMk (σ : bSt) (x : Int) (Z : bZs) : Option bZs :=
  if bmFd σ Z x (Z.1 49 0).toNat ≠ -1 then some (bmTg Z x (bmFd σ Z x (Z.1 49 0).toNat))
  else if Z.1 49 0 = 120 then none
  else some (bmTg (zw (bmNw σ Z x (Z.1 49 0)) 109 (Z.1 49 0) 0) x (Z.1 49 0))
/-- the actions of nodes, in their order -/
def bmAl (σ : bSt) : List Int → bZs → Option bZs
  | [], Z => some Z
  | x :: V, Z => (bmMk σ x Z).bind (bmAl σ V)
/-- two actions are the same -/
abbrev bmSm (Z : bZs) (a b : Int) : Prop := Z.1 101 a = Z.1 101 b ∧ Z.1 102 a = Z.1 102 b ∧ Z.1 103 a = Z.1 103 b ∧ Z.1 105 a = Z.1 105 b ∧ (Z.1 101 b = 5 → Z.1 104 a = Z.1 104 b) ∧ ∀ i, 0 ≤ i → i < Z.1 105 b → Z.1 106 (40 * a + i) = Z.1 106 (40 * b + i)
/-- ranks: the least above all inputs' -/
def bmRk (rk : Int → Nat) (n : Nat) (Z : bZs) : Prop := ∀ a, 0 ≤ a → a < (n : Int) → rk a ≤ 15 ∧ (∀ i, 0 ≤ i → i < Z.1 105 a → 100 ≤ Z.1 106 (40 * a + i) → rk (Z.1 106 (40 * a + i) - 100) < rk a) ∧ ∀ r : Nat, (∀ i, 0 ≤ i → i < Z.1 105 a → 100 ≤ Z.1 106 (40 * a + i) → rk (Z.1 106 (40 * a + i) - 100) < r) → rk a ≤ r
/-- what holds of actions between builds -/
def bmI0 (rk : Int → Nat) (n : Nat) (Z : bZs) : Prop := (Z.1 49 0 = n ∧ bzOa n Z) ∧ (∀ a b, 0 ≤ a → a < b → b < (n : Int) → ¬ bmSm Z a b) ∧ bmRk rk n Z
/-- the target of the first node whose action is a -/
def bmFs (M : Int → Int) (a : Int) : List Int → Int
  | [] => 0
  | y :: V => if M y = a then y / 256 else bmFs M a V
/-- what holds of the nodes that are made -/
def bmI1 (σ : bSt) (V : List Int) (rk : Int → Nat) (n : Nat) (Z : bZs) : Prop := (∀ y ∈ V, (0 ≤ y ∧ bTgk σ (y / 256) ∧ bFx σ y = 0) ∧ (0 ≤ Z.1 99 y ∧ Z.1 99 y < (n : Int)) ∧ ((rk (Z.1 99 y) : Int) ≤ y / 256) ∧ bmSr σ Z y (Z.1 99 y)) ∧
  ∀ a, (Z.1 109 a = 0 ∨ Z.1 109 a = 1) ∧ (Z.1 109 a ≠ 0 ↔ ∃ y ∈ V, Z.1 99 y = a) ∧ (Z.1 109 a ≠ 0 → Z.1 107 a = bmFs (fun y => Z.1 99 y) a V)
section
variable {σ s : bSt} {Z Y X : bZs} {x y a b k i : Int} {V W : List Int} {n m : Nat} {rk : Int → Nat}
theorem bmFs_m {M N : Int → Int} {a : Int} : ∀ {V : List Int}, (∀ y ∈ V, N y = M y) → bmFs N a V = bmFs M a V
  | [], _ => rfl
  | y :: V, h => by
    unfold bmFs
    rw [h y List.mem_cons_self, bmFs_m (V := V) fun z hz => h z (List.mem_cons_of_mem _ hz)]
theorem bmFs_a {M : Int → Int} {a : Int} {W : List Int} : ∀ {V : List Int}, ((∃ y ∈ V, M y = a) → bmFs M a (V ++ W) = bmFs M a V) ∧ (¬ (∃ y ∈ V, M y = a) → bmFs M a (V ++ W) = bmFs M a W)
  | [] => ⟨fun ⟨y, h, _⟩ => absurd h List.not_mem_nil, fun _ => rfl⟩
  | y :: V => by
    obtain ⟨h1, h2⟩ := bmFs_a (M := M) (a := a) (W := W) (V := V)
    show ((∃ z ∈ y :: V, M z = a) → (if M y = a then y / 256 else bmFs M a (V ++ W)) = if M y = a then y / 256 else bmFs M a V) ∧ (¬ (∃ z ∈ y :: V, M z = a) → (if M y = a then y / 256 else bmFs M a (V ++ W)) = bmFs M a W)
    by_cases e : M y = a
    · rw [if_pos e, if_pos e]
      exact ⟨fun _ => rfl, fun q => absurd ⟨y, List.mem_cons_self, e⟩ q⟩
    · rw [if_neg e, if_neg e]
      refine ⟨fun ⟨z, hz, ez⟩ => h1 ?_, fun q => h2 fun ⟨z, hz, ez⟩ => q ⟨z, List.mem_cons_of_mem _ hz, ez⟩⟩
      rcases List.mem_cons.1 hz with w | w
      · rw [w] at ez; exact absurd ez e
      · exact ⟨z, w, ez⟩
theorem bmFs_in {M : Int → Int} {a : Int} : ∀ {V : List Int}, (∃ y ∈ V, M y = a) → ∃ y ∈ V, M y = a ∧ bmFs M a V = y / 256
  | [], ⟨y, h, _⟩ => absurd h List.not_mem_nil
  | y :: V, ⟨z, hz, ez⟩ => by
    unfold bmFs
    by_cases e : M y = a
    · rw [if_pos e]; exact ⟨y, List.mem_cons_self, e, rfl⟩
    · rw [if_neg e]
      have : ∃ z ∈ V, M z = a := by
        rcases List.mem_cons.1 hz with w | w
        · rw [w] at ez; exact absurd ez e
        · exact ⟨z, w, ez⟩
      obtain ⟨u, hu, e1, e2⟩ := bmFs_in this
      exact ⟨u, List.mem_cons_of_mem _ hu, e1, e2⟩
theorem bmAl_app : ∀ {V : List Int} {Z : bZs}, bmAl σ (V ++ W) Z = (bmAl σ V Z).bind (bmAl σ W)
  | [], _ => rfl
  | x :: V, Z => by
    show (bmMk σ x Z).bind (bmAl σ (V ++ W)) = ((bmMk σ x Z).bind (bmAl σ V)).bind (bmAl σ W)
    cases bmMk σ x Z with
    | none => rfl
    | some Y => exact bmAl_app (V := V) (Z := Y)
theorem bmFd_at {σ : bSt} {Z : bZs} {x : Int} : ∀ m : Nat, (bmFd σ Z x m = -1 ∧ ∀ a, 0 ≤ a → a < (m : Int) → ¬ bmSr σ Z x a) ∨ ((0 ≤ bmFd σ Z x m ∧ bmFd σ Z x m < (m : Int)) ∧ bmSr σ Z x (bmFd σ Z x m))
  | 0 => Or.inl ⟨rfl, fun a a0 a1 => by omega⟩
  | m + 1 => by
    have ih := bmFd_at (σ := σ) (Z := Z) (x := x) m
    have u : bmFd σ Z x (m + 1) = if bmFd σ Z x m = -1 then (if bmSr σ Z x m then (m : Int) else -1) else bmFd σ Z x m := rfl
    rw [u]
    by_cases h : bmFd σ Z x m = -1
    · rw [if_pos h]
      by_cases h2 : bmSr σ Z x m
      · rw [if_pos h2]; exact Or.inr ⟨⟨by omega, by omega⟩, h2⟩
      · rw [if_neg h2]
        refine Or.inl ⟨rfl, fun a a0 a1 => ?_⟩
        rcases ih with ⟨_, q⟩ | ⟨q, _⟩
        · by_cases e : a = m
          · rw [e]; exact h2
          · exact q a a0 (by omega)
        · omega
    · rw [if_neg h]
      rcases ih with ⟨q, _⟩ | ⟨q, q2⟩
      · exact absurd q h
      · exact Or.inr ⟨⟨q.1, by omega⟩, q2⟩
/-- the one that is the node's is what is found -/
theorem bmSr_u (h : bmI0 rk n Z) (a0 : 0 ≤ a) (a1 : a < (n : Int)) (b0 : 0 ≤ b) (b1 : b < (n : Int)) (ha : bmSr σ Z x a) (hb : bmSr σ Z x b) : a = b := by
  have key : ∀ a b, 0 ≤ a → a < b → b < (n : Int) → bmSr σ Z x a → bmSr σ Z x b → False := fun a b a0 ab b1 ⟨p1, p2, p3, p4, p5, p6⟩ ⟨q1, q2, q3, q4, q5, q6⟩ => by
    refine h.2.1 a b a0 ab b1 ⟨p1.trans q1.symm, p2.trans q2.symm, p3.trans q3.symm, p4.trans q4.symm, fun w => (p5 (q1.symm.trans w)).trans (q5 (q1.symm.trans w)).symm, fun i i0 i1 => ?_⟩
    have e1 := p6 i.toNat (by omega)
    have e2 := q6 i.toNat (by omega)
    rw [show ((i.toNat : Nat) : Int) = i by omega] at e1 e2
    rw [e1, e2]
  rcases Int.lt_trichotomy a b with q | q | q
  · exact (key a b a0 q b1 ha hb).elim
  · exact q
  · exact (key b a b0 q a1 hb ha).elim
theorem bmFd_e (h : bmI0 rk n Z) (a0 : 0 ≤ a) (a1 : a < (n : Int)) (ha : bmSr σ Z x a) : bmFd σ Z x n = a := by
  rcases bmFd_at (σ := σ) (Z := Z) (x := x) n with ⟨_, q⟩ | ⟨q, q2⟩
  · exact absurd ha (q a a0 a1)
  · exact bmSr_u h q.1 q.2 a0 a1 q2 ha
/-- what a node's inputs are -/
theorem bmL_in (hF : bFi σ) (hT : bTg σ) (x0 : 0 ≤ x) (ht : bTgk σ (x / 256)) (hE : bFx σ x = 0) : (bmL σ Z x).length ≤ 40 ∧ ∀ w ∈ bmL σ Z x, (0 ≤ w ∧ w < 48) ∨ ∃ k, 0 ≤ k ∧ k < bi σ 85 (x / 256) ∧ bi σ 86 (6 * (x / 256) + k) = 2 ∧ w = 100 + Z.1 99 (bNod σ x k) := by
  have ic := bIc_at hT ht
  refine ⟨(bIl_40 hT x0 ht hE).1, ?_⟩
  have gl : ∀ (P : Int → Bool) (m : Nat), ∀ w ∈ bGl P m, 0 ≤ w ∧ w < (m : Int) := fun P m => by
    induction m with
    | zero => intro w h; exact absurd h List.not_mem_nil
    | succ m ih =>
      intro w h
      unfold bGl at h
      rcases List.mem_append.1 h with q | q
      · have := ih w q; omega
      · split at q
        · rw [List.mem_singleton.1 q]; omega
        · exact absurd q List.not_mem_nil
  have go : ∀ m : Nat, (m : Int) ≤ bi σ 85 (x / 256) → ∀ w ∈ bIl σ (fun y => Z.1 99 y) x m, (0 ≤ w ∧ w < 48) ∨ ∃ k, 0 ≤ k ∧ k < bi σ 85 (x / 256) ∧ bi σ 86 (6 * (x / 256) + k) = 2 ∧ w = 100 + Z.1 99 (bNod σ x k) := fun m => by
    induction m with
    | zero => intro _ w h; exact absurd h List.not_mem_nil
    | succ m ih =>
      intro hm w h
      unfold bIl at h
      rcases List.mem_append.1 h with q | q
      · exact ih (by omega) w q
      · unfold bIi at q
        have it := (bItm_at hT ht (i := m) (by omega) (by omega)).2
        by_cases k0 : bi σ 86 (6 * (x / 256) + m) = 0
        · rw [if_pos k0] at q
          rw [List.mem_singleton.1 q]
          rcases it with w | w | w <;> omega
        · rw [if_neg k0] at q
          by_cases k2 : bi σ 86 (6 * (x / 256) + m) = 2
          · rw [if_pos k2] at q
            exact Or.inr ⟨m, by omega, by omega, k2, List.mem_singleton.1 q⟩
          · rw [if_neg k2] at q
            exact Or.inl (gl _ 48 w q)
  exact go _ (by omega)
/-- the least rank above a list's -/
def bmMx (rk : Int → Nat) : List Int → Nat
  | [] => 0
  | w :: L => if 100 ≤ w then max (rk (w - 100) + 1) (bmMx rk L) else bmMx rk L
theorem bmMx_gt {rk : Int → Nat} : ∀ {L : List Int}, ∀ w ∈ L, 100 ≤ w → rk (w - 100) < bmMx rk L
  | [], w, h, _ => absurd h List.not_mem_nil
  | v :: L, w, h, hw => by
    unfold bmMx
    rcases List.mem_cons.1 h with q | q
    · rw [← q, if_pos hw]; omega
    · have := bmMx_gt (rk := rk) w q hw
      split <;> omega
theorem bmMx_le {rk : Int → Nat} {r : Nat} : ∀ {L : List Int}, (∀ w ∈ L, 100 ≤ w → rk (w - 100) < r) → bmMx rk L ≤ r
  | [], _ => Nat.zero_le _
  | v :: L, h => by
    have ih := bmMx_le (L := L) (fun w hw => h w (List.mem_cons_of_mem _ hw))
    unfold bmMx
    split
    · have := h v List.mem_cons_self (by assumption)
      omega
    · exact ih
theorem bmTg_e : (∀ c, c ≠ 99 → c ≠ 107 → c ≠ 109 → ∀ j, (bmTg Z x a).1 c j = Z.1 c j) ∧ (∀ j, (bmTg Z x a).1 99 j = if j = x then a else Z.1 99 j) ∧ (∀ j, (bmTg Z x a).1 109 j = if j = a then 1 else Z.1 109 j) ∧ (∀ j, (bmTg Z x a).1 107 j = if j = a ∧ Z.1 109 a = 0 then x / 256 else Z.1 107 j) ∧ (bmTg Z x a).2 = Z.2 := by
  unfold bmTg
  refine ⟨fun c h1 h2 h3 j => ?_, fun j => ?_, fun j => ?_, fun j => ?_, ?_⟩
  · rw [zw_a h1, zw_a h3]
    split
    · exact zw_a h2
    · rfl
  · rw [zw_w]
    simp only [true_and]
    by_cases q : j = x
    · rw [if_pos q, if_pos q]
    · rw [if_neg q, if_neg q, zw_a (by decide)]
      split
      · exact zw_a (by decide)
      · rfl
  · rw [zw_a (by decide), zw_w]
    simp only [true_and]
    by_cases q : j = a
    · rw [if_pos q, if_pos q]
    · rw [if_neg q, if_neg q]
      split
      · exact zw_a (by decide)
      · rfl
  · rw [zw_a (by decide), zw_a (by decide)]
    by_cases q : Z.1 109 a = 0
    · rw [if_pos q, zw_w]
      simp only [true_and, q, and_true]
    · rw [if_neg q, if_neg (fun y => q y.2)]
  · split <;> rfl
/-- inputs are asked of items' nodes alone -/
theorem bmL_m (hT : bTg σ) (ht : bTgk σ (x / 256)) (h : ∀ k, 0 ≤ k → k < bi σ 85 (x / 256) → bi σ 86 (6 * (x / 256) + k) = 2 → Y.1 99 (bNod σ x k) = Z.1 99 (bNod σ x k)) : bmL σ Y x = bmL σ Z x := by
  have ic := bIc_at hT ht
  exact bIl_m bPag_refl hT ht h _ (by omega)
theorem bmSr_m (eL : bmL σ Y x = bmL σ Z x) (e : ∀ c ∈ [101, 102, 103, 104, 105], Y.1 c a = Z.1 c a) (e6 : ∀ i, 0 ≤ i → i < 40 → Y.1 106 (40 * a + i) = Z.1 106 (40 * a + i)) (h40 : (bmL σ Z x).length ≤ 40) : bmSr σ Y x a ↔ bmSr σ Z x a := by
  unfold bmSr
  rw [eL, e 101 (by decide), e 102 (by decide), e 103 (by decide), e 104 (by decide), e 105 (by decide)]
  have : (∀ i : Nat, i < (bmL σ Z x).length → Y.1 106 (40 * a + i) = (bmL σ Z x).getD i 0) ↔ (∀ i : Nat, i < (bmL σ Z x).length → Z.1 106 (40 * a + i) = (bmL σ Z x).getD i 0) := by
    constructor
    · intro h i hi; rw [← e6 i (by omega) (by omega)]; exact h i hi
    · intro h i hi; rw [e6 i (by omega) (by omega)]; exact h i hi
  simp only [this]
end

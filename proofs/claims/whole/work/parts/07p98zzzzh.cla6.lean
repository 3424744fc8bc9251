/-! BUILD, 30: the class: writes; bytes, the crew, an end -/
def bzF0 (s : bSt) (z : Nat) : bSt := bw (bw (bw s z 15 2147483647) z 16 2147483647) z 17 2147483647
/-- an action ends -/
def bzEd (a x v : Int) (s t : bSt) : Prop := t.2 = s.2 ∧ (∀ y, y ≠ bAi a → y ∉ [bKe a, bKe a + 18, bKe a + 19] → ∀ j, bi t y j = bi s y j) ∧
  (∀ j, 0 ≤ j → bi t (bAi a) j = if j = 10 then x else if j = 12 then v else if 15 ≤ j ∧ j ≤ 17 then 2147483647 else bi s (bAi a) j) ∧
  (¬ (0 ≤ x ∧ x ≤ 4) → ∀ y ∈ [bKe a, bKe a + 18, bKe a + 19], ∀ j, bi t y j = bi s y j) ∧
  (0 ≤ x ∧ x ≤ 4 → ∀ K, bKl K → bzEk s (bNe a) K → bzEk t (bKe a) K ∧ bi t (bKe a) 8 = bi s (bNe a) 8)
/-- the worker that is picked, of m from w on -/
def bzPw (Z : bZs) (v : Int) (m : Nat) (w : Int) : Int := if bzWm Z v m w = -1 then bzFr Z m w else bzWm Z v m w
section
variable {d : Nat} {σ s t r : bSt} {f : Int → bSt → Prop} {fv : bSt → Prop} {a b i j k x y v w p : Int} {c e e0 q m n z : Nat} {K M : bKy} {L N F : List bKy} {Z Y X : bZs} {S : List Nat}
theorem bzCG_z (h : bzCG σ n Z s) (u : zU S Z Y) (hS : ∀ c ∈ [134, 135, 137, 138, 139, 305, 306, 395], c ∉ S) : bzCG σ n Y s := by
  refine ⟨h.1, fun p hp i i0 i1 => ?_, fun p hp => ?_⟩
  · rw [u p.1 (hS _ ?_)]
    · exact h.2.1 p hp i i0 i1
    · unfold bzGp at hp
      simp only [List.mem_cons, List.not_mem_nil, or_false] at hp
      rcases hp with rfl | rfl | rfl | rfl | rfl <;> decide
  · rw [u p.1 (hS _ ?_)]
    · exact h.2.2 p hp
    · unfold bzGq at hp
      simp only [List.mem_cons, List.not_mem_nil, or_false] at hp
      rcases hp with rfl | rfl | rfl <;> decide
theorem bzCG_s (h : bzCG σ n Z s) (e : ∀ b ∈ [5, 6, 15, 16, 17, 18, 24, 271], ∀ j, bi t b j = bi s b j) : bzCG σ n Z t := by
  obtain ⟨⟨h1, h2, h3, h4⟩, h5, h6⟩ := h
  refine ⟨⟨by rw [e 6 (by decide)]; exact h1, by rw [e 5 (by decide)]; exact h2, by rw [e 5 (by decide)]; exact h3, fun k k0 k1 => by rw [e 16 (by decide)]; exact h4 k k0 k1⟩, fun p hp i i0 i1 => ?_, fun p hp => by rw [e 5 (by decide)]; exact h6 p hp⟩
  rw [e p.2.1]
  · exact h5 p hp i i0 i1
  · unfold bzGp at hp
    simp only [List.mem_cons, List.not_mem_nil, or_false] at hp
    rcases hp with rfl | rfl | rfl | rfl | rfl <;> decide
theorem bzGp_d : ∀ p ∈ bzGp, ∀ q ∈ bzGp, (p.1 = q.1 → p = q) ∧ (p.2.1 = q.2.1 → p = q) ∧ p.2.1 ≠ 5 ∧ p.2.1 ≠ 6 ∧ p.2.1 ≠ 16 ∧ p.1 ≠ 305 ∧ p.1 ≠ 306 ∧ p.1 ≠ 395 := by decide
theorem bzGq_d : ∀ p ∈ bzGq, ∀ q ∈ bzGq, (p.1 = q.1 → p = q) ∧ (p.2 = q.2 → p = q) ∧ p.2 ≠ 5 ∧ p.2 ≠ 6 ∧ 0 ≤ p.2 ∧ (p.1 = 305 ∨ p.1 = 306 ∨ p.1 = 395) := by decide
theorem bzCG_w {b : Nat} {mx : Int} (h : bzCG σ n Z s) (hp : (c, b, mx) ∈ bzGp) (i0 : 0 ≤ i) (hv : bRg v) : bzCG σ n (zw Z c i v) (bw s b i v) := by
  obtain ⟨⟨h1, h2, h3, h4⟩, h5, h6⟩ := h
  have dd := bzGp_d _ hp _ hp
  refine ⟨⟨by rw [bi_ne (Ne.symm dd.2.2.2.1)]; exact h1, by rw [bi_ne (Ne.symm dd.2.2.1)]; exact h2, by rw [bi_ne (Ne.symm dd.2.2.1)]; exact h3, fun k k0 k1 => by rw [bi_ne (Ne.symm dd.2.2.2.2.1)]; exact h4 k k0 k1⟩, fun p hq j j0 j1 => ?_, fun p hq => ?_⟩
  · have d2 := bzGp_d p hq _ hp
    rw [bi_bw i0 j0 hv, zw_w]
    by_cases y : p.2.1 = b
    · have e := d2.2.1 y
      rw [e]
      by_cases y2 : j = i
      · rw [if_pos ⟨rfl, y2⟩, if_pos ⟨rfl, y2⟩]
      · rw [if_neg (fun q => y2 q.2), if_neg (fun q => y2 q.2)]
        have := h5 p hq j j0 j1
        rw [e] at this
        exact this
    · rw [if_neg (fun q => y q.1), if_neg (fun q => y (by rw [d2.1 q.1]))]
      exact h5 p hq j j0 j1
  · have d2 := bzGq_d p hq p hq
    rw [bi_ne (Ne.symm dd.2.2.1), zw_a (by
      have : c ≠ 305 ∧ c ≠ 306 ∧ c ≠ 395 := dd.2.2.2.2.2
      omega)]
    exact h6 p hq
theorem bzCG_q {o : Int} (h : bzCG σ n Z s) (hp : (c, o) ∈ bzGq) (hv : bRg v) : bzCG σ n (zw Z c 0 v) (bw s 5 o v) := by
  obtain ⟨⟨h1, h2, h3, h4⟩, h5, h6⟩ := h
  have dd : o ≠ 5 ∧ o ≠ 6 ∧ 0 ≤ o ∧ (c = 305 ∨ c = 306 ∨ c = 395) := (bzGq_d _ hp _ hp).2.2
  refine ⟨⟨by rw [bi_ne (by decide)]; exact h1, ?_, ?_, fun k k0 k1 => by rw [bi_ne (by decide)]; exact h4 k k0 k1⟩, fun p hq j j0 j1 => ?_, fun p hq => ?_⟩
  · rw [bi_bw dd.2.2.1 (by decide) hv, if_neg (fun q => dd.1 q.2.symm)]; exact h2
  · rw [bi_bw dd.2.2.1 (by decide) hv, if_neg (fun q => dd.2.1 q.2.symm)]; exact h3
  · have d2 := bzGp_d p hq _ hq
    rw [bi_ne d2.2.2.1, zw_a (by
      have := d2.2.2.2.2.2
      omega)]
    exact h5 p hq j j0 j1
  · have d2 := bzGq_d p hq _ hp
    rw [bi_bw dd.2.2.1 d2.2.2.2.2.1 hv, zw_w]
    by_cases y : p.2 = o
    · have e := d2.2.1 y
      rw [e, if_pos ⟨rfl, rfl⟩, if_pos ⟨rfl, rfl⟩]
    · rw [if_neg (fun q => y q.2), if_neg (fun q => y (by rw [d2.1 q.1]))]
      exact h6 p hq
/-- bytes -/
theorem w20 (hb : z = 1 ∨ z = 257) (x0 : 0 ≤ x) (x1 : x < 1000) (h : f (if bi s (z + 14) x = 0 then 0 else 1) s) : bWp (d + 1) 20 [.ref z, .int (bn x)] s (bRn f) := by
  have e : 256 * (1 * (z / 256) + 0) + 15 = z + 14 ∧ z % 256 = 1 ∧ bTy (z + 14) = 1 ∧ bLen s (z + 14) = 1000 := by
    rcases hb with rfl | rfl
    · exact ⟨rfl, rfl, rfl, rfl⟩
    · exact ⟨rfl, rfl, rfl, rfl⟩
  refine ⟨rfl, fun A hA => sq20_0 (bWp_mono _) hA e.2.1 ⟨by omega, by omega⟩ (bFf (by omega) ?_)⟩
  rw [e.1, e.2.2.1, e.2.2.2]
  exact ⟨by decide, (show bRg ((1000 : Nat) : Int) by decide), bTt (show x < ((1000 : Nat) : Int) by omega) ⟨rfl, ⟨x0, by omega⟩, fun q => bRn_i (by decide) (by rwa [if_pos q] at h), fun q => bRn_i (by decide) (by rwa [if_neg q] at h)⟩⟩
theorem w21 (hb : z = 1 ∨ z = 257) (x0 : -1 ≤ x) (x1 : x < 1000) (h0 : x = -1 → fv s) (h : 0 ≤ x → fv (bw s (z + 14) x 1)) : bWp (d + 1) 21 [.ref z, .int (bn x)] s (bRv fv) := by
  have e : 256 * (1 * (z / 256) + 0) + 15 = z + 14 ∧ z % 256 = 1 ∧ bTy (z + 14) = 1 ∧ bLen s (z + 14) = 1000 ∧ (z + 14) % 256 < 200 := by
    rcases hb with rfl | rfl
    · exact ⟨rfl, rfl, rfl, rfl, by decide⟩
    · exact ⟨rfl, rfl, rfl, rfl, by decide⟩
  refine ⟨rfl, fun A hA => sq21_0 (bWp_mono _) hA e.2.1 ⟨by omega, by omega⟩ ⟨fun q => h0 (by omega), fun q => ?_⟩⟩
  rw [e.1, e.2.2.1, e.2.2.2.1]
  exact ⟨by decide, (show bRg ((1000 : Nat) : Int) by decide), bTt (show x < ((1000 : Nat) : Int) by omega) ⟨rfl, ⟨by omega, by omega⟩, e.2.2.2.2, h (by omega)⟩⟩
/-- what is told -/
theorem w54 (x0 : 0 ≤ x) (x1 : x < 12) (hy : bRg y) (hr : bRg (bi s 24 x + y)) (h : fv (bw s 24 x (bi s 24 x + y))) : bWp (d + 1) 54 [.ref 5, .int (bn x), .int (bn y)] s (bRv fv) :=
  ⟨rfl, fun A hA => sq54_0 (bWp_mono _) hA ⟨by omega, by omega⟩ hy (bFf (by omega) (bTt x1 ⟨⟨x0, x1⟩, hr, h⟩))⟩
/-- the crew -/
theorem w26 (x0 : 0 ≤ x) (x1 : x < 12) (hy : bRg y) (h : f (if bi s 17 x = y then 1 else 0) s) : bWp (d + 1) 26 [.ref 2, .int (bn x), .int (bn y)] s (bRn f) :=
  ⟨rfl, fun A hA => sq26_0 (bWp_mono _) hA ⟨by omega, by omega⟩ hy (bFf (by omega) (bTt x1 ⟨⟨x0, x1⟩, fun q => bRn_i (by decide) (by rwa [if_pos q] at h), fun q => bRn_i (by decide) (by rwa [if_neg q] at h)⟩))⟩
theorem w27 (x0 : 0 ≤ x) (x1 : x < 12) (h : f (if bi s 18 x = 0 then 0 else 1) s) : bWp (d + 1) 27 [.ref 2, .int (bn x)] s (bRn f) :=
  ⟨rfl, fun A hA => sq27_0 (bWp_mono _) hA ⟨by omega, by omega⟩ (bFf (by omega) (bTt x1 ⟨⟨x0, x1⟩, fun q => bRn_i (by decide) (by rwa [if_pos q] at h), fun q => bRn_i (by decide) (by rwa [if_neg q] at h)⟩))⟩
theorem w28 (x0 : 0 ≤ x) (x1 : x < 12) (h : fv (bw s 18 x 1)) : bWp (d + 1) 28 [.ref 2, .int (bn x)] s (bRv fv) :=
  ⟨rfl, fun A hA => sq28_0 (bWp_mono _) hA ⟨by omega, by omega⟩ (bFf (by omega) (bTt x1 ⟨⟨x0, x1⟩, h⟩))⟩
theorem w29 (x0 : -1 ≤ x) (x1 : x < 12) (hy : bRg y) (h0 : x = -1 → fv s) (h : 0 ≤ x → fv (bw (bw s 18 x 0) 17 x y)) : bWp (d + 2) 29 [.ref 2, .int (bn x), .int (bn y)] s (bRv fv) :=
  ⟨rfl, fun A hA => sq29_0 (bWp_mono _) hA ⟨by omega, by omega⟩ hy ⟨fun q => h0 (by omega), fun q => bTt x1 ⟨⟨by omega, x1⟩, w141i (n := 12) hy rfl (by decide) rfl (by decide) (by omega) x1 (h (by omega))⟩⟩⟩
theorem bzFr_at : ∀ (m : Nat) (w : Int), (bzFr Z m w = -1 ∨ (w ≤ bzFr Z m w ∧ bzFr Z m w < w + m))
  | 0, _ => Or.inl rfl
  | m + 1, w => by
    unfold bzFr
    split
    · exact Or.inr ⟨Int.le_refl _, by omega⟩
    · have := bzFr_at m (w + 1)
      omega
theorem bzWm_at : ∀ (m : Nat) (w : Int), 0 ≤ w → (bzWm Z v m w = -1 ∧ (bzFr Z m w ≠ -1 → Z.1 137 (bzFr Z m w) ≠ v) ∨ (w ≤ bzWm Z v m w ∧ bzWm Z v m w < w + m ∧ Z.1 137 (bzWm Z v m w) = v))
  | 0, _, _ => Or.inl ⟨rfl, fun q => absurd rfl q⟩
  | m + 1, w, hw => by
    have ih := bzWm_at m (w + 1) (by omega)
    unfold bzWm bzFr
    by_cases h : Z.1 138 w = 0
    · by_cases h2 : Z.1 137 w = v
      · rw [if_pos ⟨h, h2⟩]; exact Or.inr ⟨Int.le_refl _, by omega, h2⟩
      · rw [if_neg (fun q => h2 q.2), if_pos h]
        rcases ih with ⟨q, _⟩ | q
        · exact Or.inl ⟨q, fun _ => h2⟩
        · exact Or.inr ⟨by omega, by omega, q.2.2⟩
    · rw [if_neg (fun q => h q.1), if_neg h]
      rcases ih with q | q
      · exact Or.inl q
      · exact Or.inr ⟨by omega, by omega, q.2.2⟩
theorem bzPw_s (hw : 0 ≤ w) : bzPw Z v (m + 1) w = if Z.1 138 w = 0 ∧ (bzPw Z v m (w + 1) = -1 ∨ Z.1 137 w = v ∨ Z.1 137 (bzPw Z v m (w + 1)) ≠ v) then w else bzPw Z v m (w + 1) := by
  have a := bzWm_at (Z := Z) (v := v) m (w + 1) (by omega)
  have b := bzFr_at (Z := Z) m (w + 1)
  have uW : bzWm Z v (m + 1) w = if Z.1 138 w = 0 ∧ Z.1 137 w = v then w else bzWm Z v m (w + 1) := rfl
  have uF : bzFr Z (m + 1) w = if Z.1 138 w = 0 then w else bzFr Z m (w + 1) := rfl
  unfold bzPw
  rw [uW, uF]
  generalize bzWm Z v m (w + 1) = x at *
  generalize bzFr Z m (w + 1) = y at *
  by_cases h : Z.1 138 w = 0
  · by_cases h2 : Z.1 137 w = v
    · have hh : Z.1 138 w = 0 ∧ Z.1 137 w = v := ⟨h, h2⟩
      rw [if_pos hh, if_neg (show ¬ w = -1 by omega)]
      generalize (if x = -1 then y else x) = p
      exact (if_pos ⟨h, Or.inr (Or.inl h2)⟩).symm
    · have hh : ¬ (Z.1 138 w = 0 ∧ Z.1 137 w = v) := fun q => h2 q.2
      rw [if_neg hh, if_pos h]
      rcases a with ⟨q, q2⟩ | ⟨q, q2, q3⟩
      · simp only [if_pos q]
        by_cases y1 : y = -1
        · exact (if_pos ⟨h, Or.inl y1⟩).symm
        · exact (if_pos ⟨h, Or.inr (Or.inr (q2 y1))⟩).symm
      · have nx : ¬ x = -1 := by omega
        simp only [if_neg nx]
        refine (if_neg fun z => ?_).symm
        rcases z.2 with z | z | z
        · exact nx z
        · exact h2 z
        · exact z q3
  · have hh : ¬ (Z.1 138 w = 0 ∧ Z.1 137 w = v) := fun q => h q.1
    rw [if_neg hh, if_neg h]
    generalize (if x = -1 then y else x) = p
    exact (if_neg fun q => h q.1).symm
theorem w25 (G : bzCG σ n Z s) (x0 : 0 ≤ x) (x1 : x < 3) (hm : 1 ≤ bi σ 136 x ∧ bi σ 136 x ≤ 4) (hy : bRg y) (h : f (bzPw Z y (bi σ 136 x).toNat (4 * x)) s) : bWp (d + 2) 25 [.ref 2, .int (bn x), .int (bn y)] s (bRn f) := by
  have e17 : ∀ w, 0 ≤ w → w < 12 → bi s 17 w = Z.1 137 w := fun w => G.2.1 (137, 17, 12) (by decide) w
  have e18 : ∀ w, 0 ≤ w → w < 12 → bi s 18 w = Z.1 138 w := fun w => G.2.1 (138, 18, 12) (by decide) w
  refine ⟨rfl, fun A hA => sq25_0 (bWp_mono _) hA ⟨by omega, by omega⟩ hy (w140i (n := 3) rfl rfl (by decide) x0 x1 ?_)⟩
  rw [G.1.2.2.2 x x0 x1]
  generalize bi σ 136 x = mm at *
  refine ⟨⟨by omega, by omega⟩, ?_⟩
  have Lp : ∀ (l : Nat) (v5 v6 : Value), (l : Int) ≤ mm → A (9, [.ref 2, .int (bn x), .int (bn y), .int (bn (bzPw Z y (mm - l).toNat (4 * x + l))), .int (bn ((l : Int) - 1)), v5, v6], [], s) := by
    intro l
    induction l with
    | zero =>
      intro v5 v6 hl
      have e := h
      rw [show mm.toNat = (mm - ((0 : Nat) : Int)).toNat by omega, show 4 * x = 4 * x + ((0 : Nat) : Int) by omega] at e
      have rg : bRg (bzPw Z y (mm - ((0 : Nat) : Int)).toNat (4 * x + ((0 : Nat) : Int))) := by
        have b1 := bzWm_at (Z := Z) (v := y) (mm - ((0 : Nat) : Int)).toNat (4 * x + ((0 : Nat) : Int)) (by omega)
        have b2 := bzFr_at (Z := Z) (mm - ((0 : Nat) : Int)).toNat (4 * x + ((0 : Nat) : Int))
        unfold bzPw
        split <;> exact ⟨by omega, by omega⟩
      exact sq25_9 (bWp_mono _) hA ⟨by omega, by omega⟩ hy rg (by decide) ⟨fun _ => bRn_i rg e, fun z => absurd (by decide) z⟩
    | succ l ih =>
      intro v5 v6 hl
      have nx := fun v5 v6 => ih v5 v6 (by omega)
      have w0 : 4 * x + (l : Int) < 12 := by omega
      have st := bzPw_s (Z := Z) (v := y) (m := (mm - ((l + 1 : Nat) : Int)).toNat) (w := 4 * x + (l : Int)) (by omega)
      rw [show (mm - ((l + 1 : Nat) : Int)).toNat + 1 = (mm - (l : Int)).toNat by omega, show 4 * x + (l : Int) + 1 = 4 * x + ((l + 1 : Nat) : Int) by omega] at st
      rw [st, show (l : Int) - 1 = ((l + 1 : Nat) : Int) - 1 + -1 by omega] at nx
      have b1 := bzWm_at (Z := Z) (v := y) (mm - ((l + 1 : Nat) : Int)).toNat (4 * x + ((l + 1 : Nat) : Int)) (by omega)
      have b2 := bzFr_at (Z := Z) (mm - ((l + 1 : Nat) : Int)).toNat (4 * x + ((l + 1 : Nat) : Int))
      have rp : bzPw Z y (mm - ((l + 1 : Nat) : Int)).toNat (4 * x + ((l + 1 : Nat) : Int)) = -1 ∨ (0 ≤ bzPw Z y (mm - ((l + 1 : Nat) : Int)).toNat (4 * x + ((l + 1 : Nat) : Int)) ∧ bzPw Z y (mm - ((l + 1 : Nat) : Int)).toNat (4 * x + ((l + 1 : Nat) : Int)) < 12) := by
        unfold bzPw
        split <;> omega
      generalize bzPw Z y (mm - ((l + 1 : Nat) : Int)).toNat (4 * x + ((l + 1 : Nat) : Int)) = P at *
      have ew : x * 4 + (((l + 1 : Nat) : Int) - 1) = 4 * x + (l : Int) := by omega
      refine sq25_9 (bWp_mono _) hA ⟨by omega, by omega⟩ hy ⟨by omega, by omega⟩ ⟨by omega, by omega⟩ ⟨fun z => absurd z (by omega), fun _ => ⟨⟨by omega, by omega⟩, ⟨by omega, by omega⟩, ?_⟩⟩
      rw [ew]
      have b17 := e17 (4 * x + l) (by omega) w0
      have b18 := e18 (4 * x + l) (by omega) w0
      -- is it free
      have fin : (P = -1 ∨ Z.1 137 (4 * x + l) = y ∨ Z.1 137 P ≠ y) → ∀ v5 v6, bWp (d + 1) 27 [.ref 2, .int (bn (4 * x + l))] s (bRn (fun r6 s4 => ((r6 = 0 → (bRg ((((l + 1 : Nat) : Int) - 1) + (-1)) ∧ A (9, [.ref 2, .int (bn x), .int (bn y), .int (bn (4 * x + l)), .int (bn ((((l + 1 : Nat) : Int) - 1) + (-1))), v5, v6], [], s4))) ∧ (¬ r6 = 0 → (bRg ((((l + 1 : Nat) : Int) - 1) + (-1)) ∧ A (9, [.ref 2, .int (bn x), .int (bn y), .int (bn P), .int (bn ((((l + 1 : Nat) : Int) - 1) + (-1))), v5, v6], [], s4)))))) := fun hp v5 v6 => by
        refine w27 (by omega) w0 ?_
        rw [b18]
        by_cases q : Z.1 138 (4 * x + l) = 0
        · rw [if_pos q]
          have nx := nx v5 v6
          rw [if_pos ⟨q, hp⟩] at nx
          exact ⟨fun _ => ⟨⟨by omega, by omega⟩, nx⟩, fun z => absurd rfl z⟩
        · rw [if_neg q]
          have nx := nx v5 v6
          rw [if_neg (fun z => q z.1)] at nx
          exact ⟨fun z => absurd z (by decide), fun _ => ⟨⟨by omega, by omega⟩, nx⟩⟩
      refine ⟨fun hp => fin (Or.inl hp) _ _, fun hp => w26 (by omega) w0 hy ?_⟩
      rw [b17]
      by_cases q : Z.1 137 (4 * x + l) = y
      · rw [if_pos q]
        exact ⟨fun z => absurd z (by decide), fun _ => fin (Or.inr (Or.inl q)) _ _⟩
      · rw [if_neg q]
        refine ⟨fun _ => w26 (by omega) (by omega) hy ?_, fun z => absurd rfl z⟩
        rw [e17 P (by omega) (by omega)]
        by_cases q2 : Z.1 137 P = y
        · rw [if_pos q2]
          have nx := nx (.int (bn (4 * x + l))) (.int (bn 0))
          rw [if_neg (fun z => by
            rcases z.2 with z | z | z
            · exact hp z
            · exact q z
            · exact z q2)] at nx
          exact ⟨fun z => absurd z (by decide), fun _ => ⟨⟨by omega, by omega⟩, nx⟩⟩
        · rw [if_neg q2]
          exact ⟨fun _ => fin (Or.inr (Or.inr q2)) _ _, fun z => absurd rfl z⟩
  have := Lp mm.toNat (.float 0) (.float 0) (by omega)
  rw [show (mm - (mm.toNat : Int)).toNat = 0 by omega, show ((mm.toNat : Nat) : Int) = mm by omega] at this
  exact this
/-- an end -/
theorem w9 (hz : z % 256 = 0) (h : fv (bzF0 s z)) : bWp (d + 1) 9 [.ref z] s (bRv fv) := ⟨rfl, fun A hA => sq9_0 (bWp_mono _) hA hz h⟩
theorem bzF0_i (j0 : 0 ≤ j) : bi (bzF0 s z) z j = if 15 ≤ j ∧ j ≤ 17 then 2147483647 else bi s z j := by
  unfold bzF0
  rw [bi_bw (by decide) j0 (by decide), bi_bw (by decide) j0 (by decide), bi_bw (by decide) j0 (by decide)]
  by_cases h1 : j = 17
  · rw [if_pos ⟨rfl, h1⟩, if_pos (by omega)]
  · by_cases h2 : j = 16
    · rw [if_neg (fun q => h1 q.2), if_pos ⟨rfl, h2⟩, if_pos (by omega)]
    · by_cases h3 : j = 15
      · rw [if_neg (fun q => h1 q.2), if_neg (fun q => h2 q.2), if_pos ⟨rfl, h3⟩, if_pos (by omega)]
      · rw [if_neg (fun q => h1 q.2), if_neg (fun q => h2 q.2), if_neg (fun q => h3 q.2), if_neg (by omega)]
theorem bzF0_n {y : Nat} (h : y ≠ z) : bi (bzF0 s z) y j = bi s y j := by
  unfold bzF0
  rw [bi_ne h, bi_ne h, bi_ne h]
theorem w13 (hx : -1 ≤ x) (rx : bRg x) (hv : bRg v) (h7 : 0 ≤ x ∧ x ≤ 4 → bi s (bNe a) 7 = 0 ∨ bi s (bNe a) 7 = 1) (h : ∀ t, bzEd a x v s t → fv t) : bWp (d + 3) 13 [.ref (bAi a), .int (bn x), .int (bn v)] s (bRv fv) := by
  obtain ⟨m0, m1, m2, m3⟩ := bAi_m (q := a)
  have mk : bKe a % 256 = 4 := by unfold bKe; omega
  have e1 : 256 * (2 * (bAi a / 256) + 1) + 4 = bKe a := by rw [m3]; unfold bKe; omega
  have e2 : 256 * (2 * (bAi a / 256) + 0) + 4 = bNe a := by rw [m3]; unfold bNe; omega
  have kn : bKe a ≠ bNe a ∧ bKe a ≠ bNe a + 18 ∧ bKe a ≠ bNe a + 19 ∧ bAi a ≠ bNe a ∧ bAi a ≠ bKe a ∧ bKe a + 18 ≠ bNe a + 18 ∧ bKe a + 19 ≠ bNe a + 19 := by unfold bKe bNe bAi; omega
  refine ⟨rfl, fun A hA => sq13_0 (bWp_mono _) hA m0 rx hv (w9 (d := d + 1) m0 ?_)⟩
  have base : ∀ j, 0 ≤ j → bi (bzF0 (bw (bw s (bAi a) 10 x) (bAi a) 12 v) (bAi a)) (bAi a) j = if j = 10 then x else if j = 12 then v else if 15 ≤ j ∧ j ≤ 17 then 2147483647 else bi s (bAi a) j := fun j j0 => by
    rw [bzF0_i j0, bi_bw (by decide) j0 hv, bi_bw (by decide) j0 rx]
    by_cases h1 : j = 10
    · rw [if_pos h1, if_neg (by omega), if_neg (fun q => by omega), if_pos ⟨rfl, h1⟩]
    · rw [if_neg h1]
      by_cases h2 : j = 12
      · rw [if_pos h2, if_neg (by omega), if_pos ⟨rfl, h2⟩]
      · have n2 : ¬ (bAi a = bAi a ∧ j = 12) := fun q => h2 q.2
        have n1 : ¬ (bAi a = bAi a ∧ j = 10) := fun q => h1 q.2
        rw [if_neg h2, if_neg n2, if_neg n1]
  have other : ∀ y, y ≠ bAi a → ∀ j, bi (bzF0 (bw (bw s (bAi a) 10 x) (bAi a) 12 v) (bAi a)) y j = bi s y j := fun y hy j => by rw [bzF0_n hy, bi_ne hy, bi_ne hy]
  have s2 : (bzF0 (bw (bw s (bAi a) 10 x) (bAi a) 12 v) (bAi a)).2 = s.2 := rfl
  generalize bzF0 (bw (bw s (bAi a) 10 x) (bAi a) 12 v) (bAi a) = u at *
  have b10 : bi u (bAi a) 10 = x := by rw [base 10 (by decide), if_pos rfl]
  refine w10 (d := d + 1) m0 (by rw [b10]; exact hx) (fun q => ?_) fun q => ?_
  · rw [b10] at q
    rw [e1, e2]
    refine ⟨fun y => absurd y (by decide), fun _ => ⟨mk, w44 mk m1 kn.1 (by rw [other _ (Ne.symm kn.2.2.2.1)]; exact h7 q) fun t C => ?_⟩⟩
    refine h t ⟨C.1.trans s2, fun y hy hy2 j => ?_, fun j j0 => ?_, fun y => absurd q y, fun _ K hK E => ?_⟩
    · simp only [List.mem_cons, List.not_mem_nil, or_false, not_or] at hy2
      rw [C.2.1 y hy2.1 hy2.2.1 hy2.2.2, other y hy]
    · rw [C.2.1 (bAi a) kn.2.2.2.2.1 (by omega) (by omega), base j j0]
    · have E2 : bzEk u (bNe a) K := bzEk_m E (fun j _ => other _ (Ne.symm kn.2.2.2.1) j) (fun j _ _ => other _ (by omega) j) (fun j _ _ => other _ (by omega) j) ⟨hK.1, hK.2.1⟩
      exact ⟨bzEk_cp C E2 ⟨hK.1, hK.2.1⟩, by rw [C.2.2.1 8 (by decide), other _ (Ne.symm kn.2.2.2.1)]⟩
  · rw [b10] at q
    refine ⟨fun _ => h u ⟨s2, fun y hy _ j => other y hy j, base, fun _ y hy j => other y (fun e => ?_) j, fun y => absurd y q⟩, fun y => absurd rfl y⟩
    rw [e] at hy
    simp only [List.mem_cons, List.not_mem_nil, or_false] at hy
    omega
end

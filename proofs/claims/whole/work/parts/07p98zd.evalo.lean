/-! RULES' EVALUATION, 24: the class's answers -/
section
variable {d : Nat} {σ s t e r r' : bSt} {fv : bSt → Prop} {f g : Int → bSt → Prop} {g0 : Nat → bSt → Prop} {x y k n m p v w o j l a i : Int}
/-- what the class knows of a file evaluated -/
theorem bEvX_ok (X : bEvX x s) : bEvOk s ∧ (bi s 7 14 = -1 ∨ (1 ≤ bi s 7 14 ∧ bi s 7 14 ≤ 5) ∧ 1 ≤ bi s 7 13) ∧ (0 ≤ bi s 7 13 ∧ bi s 7 13 ≤ 6) ∧ ∀ i, 0 ≤ i → i < bi s 7 13 → (0 ≤ bi s 42 i ∧ bi s 42 i < 6) ∧ 0 ≤ bi s 41 (bi s 42 i) ∧ bi s 41 (bi s 42 i) ≤ 13 := by
  obtain ⟨hx, n, e, u, z, zs, T, c1, c2, c3, c4, c5⟩ := X
  have zI := bEvZ_I z zs
  have I := bEvI_ent zI hx.1 hx.2 (z.2.1 x hx.1 hx.2).1
  have J := bEvZ_J z hx
  have f14 : bi (bEvEnt e x) 7 14 = -1 := by
    unfold bEvEnt
    rw [bi_nj (by decide) (by decide) (by decide), bi_ne (by decide), bi_ne (by decide)]
    exact z.2.2.2.2
  obtain ⟨It, Jt, Ht⟩ := bEvTo_I hx n _ I J T
  have rt := bEvTo_r n (bEvEnt e x) (Or.inl f14) T I
  have SK := bEvStk_of It Jt
  unfold bEvOk
  rw [c3, c4, c5]
  simp only [c2 39 (by decide), c2 43 (by decide), c2 42 (by decide), c2 41 (by decide)]
  exact ⟨It.2.1, rt, SK.2.1, fun i i0 i1 => ⟨(SK.2.2.1 i i0 i1).1, (SK.2.2.1 i i0 i1).2.1⟩⟩
def bEvV (s : bSt) (x y : Int) : Int := if bi s 7 14 = -1 then bi s 39 (x * 8 + y) else -1
theorem w99 (hx : 0 ≤ x ∧ x < 6) (hy : 0 ≤ y ∧ y < 8) (h : g (bEvV s x y) s) : bWp (d + 3) 99 [.ref 7, .int (bn x), .int (bn y)] s (bRn g) := by
  unfold bEvV at h
  refine ⟨rfl, fun A hA => sq99_0 (bWp_mono _) hA ⟨by omega, by omega⟩ ⟨by omega, by omega⟩ ⟨fun q => w100 hx hy (bRn_i (bi_rg _ _ _) (by rwa [if_pos q] at h)), fun q => bRn_i (by decide) (by rwa [if_neg q] at h)⟩⟩
theorem bEvV_b (X : bEvX x s) (hy : 0 ≤ y ∧ y < 8) : -1 ≤ bEvV s x y ∧ bEvV s x y < 1000 + bi s 7 12 := by
  obtain ⟨⟨o1, o2, o3⟩, _⟩ := bEvX_ok X
  have hx := X.1
  unfold bEvV
  by_cases q : bi s 7 14 = -1
  · rw [if_pos q]; exact o1 _ (by omega) (by omega)
  · rw [if_neg q]; omega
theorem w95 (hx : 0 ≤ x ∧ x < 6) (hy : 0 ≤ y ∧ y < 8) (hS : bEvS σ) (hX : x = bi σ 7 15 → bEvX x σ) (h : ∀ t, bSm bEvK σ t → bi t 7 15 = x → bEvX x t → f (if bEvV t x y < 1000 then bEvV t x y else -2) t) : bWp (d + 7) 95 [.ref 7, .int (bn x), .int (bn y)] σ (bRn f) := by
  refine ⟨rfl, fun A hA => sq95_0 (bWp_mono _) hA ⟨by omega, by omega⟩ ⟨by omega, by omega⟩ (w101 hx hS hX fun t a1 a2 a3 => w99 hx hy ?_)⟩
  have b := bEvV_b a3 hy
  have o := (bEvX_ok a3).1.2.1
  have k := h t a1 a2 a3
  exact ⟨fun q => bRn_i ⟨by omega, by omega⟩ (by rwa [if_pos q] at k), fun q => bRn_i (by decide) (by rwa [if_neg q] at k)⟩
def bEvP (s : bSt) (x y p : Int) : Int := if bEvV s x y - 1000 < 0 then -1 else if p < bi s 43 (bEvV s x y - 1000) then bi s 45 ((bEvV s x y - 1000) * 8 + p) else -1
theorem w97 (hx : 0 ≤ x ∧ x < 6) (hy : 0 ≤ y ∧ y < 8) (hp : 0 ≤ p) (hpr : bRg p) (hS : bEvS σ) (hX : x = bi σ 7 15 → bEvX x σ) (h : ∀ t, bSm bEvK σ t → bi t 7 15 = x → bEvX x t → f (bEvP t x y p) t) : bWp (d + 7) 97 [.ref 7, .int (bn x), .int (bn y), .int (bn p)] σ (bRn f) := by
  refine ⟨rfl, fun A hA => sq97_0 (bWp_mono _) hA ⟨by omega, by omega⟩ ⟨by omega, by omega⟩ hpr (w101 hx hS hX fun t a1 a2 a3 => w99 hx hy ?_)⟩
  have b := bEvV_b a3 hy
  obtain ⟨⟨o1, o2, o3⟩, _⟩ := bEvX_ok a3
  have k := h t a1 a2 a3
  unfold bEvP at k
  refine ⟨⟨by omega, by omega⟩, fun q => bRn_i (by decide) (by rwa [if_pos q] at k), fun q => ?_⟩
  rw [if_neg q] at k
  have o4 := o3 (bEvV t x y - 1000) (by omega) (by omega)
  refine w140i (n := 72) rfl rfl (by decide) (by omega) (by omega) ⟨fun q2 => ⟨⟨by omega, by omega⟩, ⟨by omega, by omega⟩, w140i (n := 576) rfl rfl (by decide) (by omega) (by omega) (bRn_i (bi_rg _ _ _) (by rwa [if_pos q2] at k))⟩, fun q2 => bRn_i (by decide) (by rwa [if_neg q2] at k)⟩
def bEvQ (s : bSt) (p : Int) : Int := if bi s 7 14 = -1 then -1 else if p < bi s 7 13 then bi s 42 p * 1000 + bi s 41 (bi s 42 p) * 10 + (if p = bi s 7 13 - 1 then bi s 7 14 else 6) else -1
theorem w98 (hx : 0 ≤ x ∧ x < 6) (hp : 0 ≤ p) (hpr : bRg p) (hS : bEvS σ) (hX : x = bi σ 7 15 → bEvX x σ) (h : ∀ t, bSm bEvK σ t → bi t 7 15 = x → bEvX x t → f (bEvQ t p) t) : bWp (d + 7) 98 [.ref 7, .int (bn x), .int (bn p)] σ (bRn f) := by
  refine ⟨rfl, fun A hA => sq98_0 (bWp_mono _) hA ⟨by omega, by omega⟩ hpr (w101 hx hS hX fun t a1 a2 a3 => ?_)⟩
  obtain ⟨_, o1, o2, o3⟩ := bEvX_ok a3
  have k := h t a1 a2 a3
  unfold bEvQ at k
  refine ⟨fun q => bRn_i (by decide) (by rwa [if_pos q] at k), fun q => ?_⟩
  rw [if_neg q] at k
  have o1 := o1.resolve_left q
  refine ⟨fun q2 => ?_, fun q2 => bRn_i (by decide) (by rwa [if_neg q2] at k)⟩
  rw [if_pos q2] at k
  obtain ⟨o4, o5⟩ := o3 p hp q2
  refine w140i (n := 6) rfl rfl (by decide) hp (by omega) ⟨⟨by omega, by omega⟩, w140i (n := 6) rfl rfl (by decide) o4.1 (by omega) ⟨⟨by omega, by omega⟩, ⟨by omega, by omega⟩, ⟨by omega, by omega⟩, fun q3 => ⟨⟨by omega, by omega⟩, bRn_i ⟨by omega, by omega⟩ (by rwa [if_pos q3] at k)⟩, fun q3 => ⟨⟨by omega, by omega⟩, bRn_i ⟨by omega, by omega⟩ (by rwa [if_neg q3] at k)⟩⟩⟩
theorem w150 (hS : bEvS σ) (hX : bi σ 7 15 = -1 ∨ bEvX (bi σ 7 15) σ) (hx : bRg x) (hy : bRg y) (h1 : ¬ ((0 ≤ x ∧ x < 6) ∧ 0 ≤ y ∧ y < 8) → g0 0 (bC σ 1 6)) (h0 : ((0 ≤ x ∧ x < 6) ∧ 0 ≤ y ∧ y < 8) → ∀ t, bSm bEvK σ t → bi t 7 15 = x → bEvX x t → f (if bEvV t x y < 1000 then bEvV t x y else -2) t) : bWp (d + 8) 150 [.ref 11, .int (bn x), .int (bn y)] σ (bRnx f g0) :=
  ⟨rfl, fun A hA => sq150_0 (bWp_mono _) hA hx hy (w136 hx (by decide) (by omega) (fun qx => w136 hy (by decide) (by omega) (fun qy => w95 qx qy hS (fun e => hX.elim (fun w => absurd (e.trans w) (by omega)) (fun w => by rw [e]; exact w)) fun t a1 a2 a3 => bRnx_i (by
    have b := bEvV_b a3 qy
    have o := (bEvX_ok a3).1.2.1
    by_cases q : bEvV t x y < 1000
    · rw [if_pos q]; exact ⟨by omega, by omega⟩
    · rw [if_neg q]; decide) (h0 ⟨qx, qy⟩ t a1 a2 a3)) (fun qy => h1 fun w => qy w.2)) (fun qx => h1 fun w => qx w.1))⟩
theorem w151 (hS : bEvS σ) (hX : bi σ 7 15 = -1 ∨ bEvX (bi σ 7 15) σ) (hx : bRg x) (hy : bRg y) (hp : bRg p) (h1 : ¬ (((0 ≤ x ∧ x < 6) ∧ 0 ≤ y ∧ y < 8) ∧ 0 ≤ p) → g0 0 (bC σ 1 6)) (h0 : (((0 ≤ x ∧ x < 6) ∧ 0 ≤ y ∧ y < 8) ∧ 0 ≤ p) → ∀ t, bSm bEvK σ t → bi t 7 15 = x → bEvX x t → f (bEvP t x y p) t) : bWp (d + 8) 151 [.ref 11, .int (bn x), .int (bn y), .int (bn p)] σ (bRnx f g0) :=
  ⟨rfl, fun A hA => sq151_0 (bWp_mono _) hA hx hy hp (w136 hx (by decide) (by omega) (fun qx => w136 hy (by decide) (by omega) (fun qy => w137 hp (by omega) (fun qp => w97 qx qy qp hp hS (fun e => hX.elim (fun w => absurd (e.trans w) (by omega)) (fun w => by rw [e]; exact w)) fun t a1 a2 a3 => bRnx_i (by
    unfold bEvP
    split
    · decide
    split
    · exact bi_rg _ _ _
    · decide) (h0 ⟨⟨qx, qy⟩, qp⟩ t a1 a2 a3)) (fun qp => h1 fun w => qp w.2)) (fun qy => h1 fun w => qy w.1.2)) (fun qx => h1 fun w => qx w.1.1))⟩
theorem w152 (hS : bEvS σ) (hX : bi σ 7 15 = -1 ∨ bEvX (bi σ 7 15) σ) (hx : bRg x) (hp : bRg p) (h1 : ¬ ((0 ≤ x ∧ x < 6) ∧ 0 ≤ p) → g0 0 (bC σ 1 6)) (h0 : ((0 ≤ x ∧ x < 6) ∧ 0 ≤ p) → ∀ t, bSm bEvK σ t → bi t 7 15 = x → bEvX x t → f (bEvQ t p) t) : bWp (d + 8) 152 [.ref 11, .int (bn x), .int (bn p)] σ (bRnx f g0) :=
  ⟨rfl, fun A hA => sq152_0 (bWp_mono _) hA hx hp (w136 hx (by decide) (by omega) (fun qx => w137 hp (by omega) (fun qp => w98 qx qp hp hS (fun e => hX.elim (fun w => absurd (e.trans w) (by omega)) (fun w => by rw [e]; exact w)) fun t a1 a2 a3 => bRnx_i (by
    obtain ⟨_, o1, o2, o3⟩ := bEvX_ok a3
    unfold bEvQ
    by_cases q : bi t 7 14 = -1
    · rw [if_pos q]; decide
    · rw [if_neg q]
      have o1 := o1.resolve_left q
      by_cases q2 : p < bi t 7 13
      · rw [if_pos q2]
        obtain ⟨o4, o5⟩ := o3 p qp q2
        by_cases q3 : p = bi t 7 13 - 1
        · rw [if_pos q3]; exact ⟨by omega, by omega⟩
        · rw [if_neg q3]; exact ⟨by omega, by omega⟩
      · rw [if_neg q2]; decide) (h0 ⟨qx, qp⟩ t a1 a2 a3)) (fun qp => h1 fun w => qp w.2)) (fun qx => h1 fun w => qx w.1))⟩
end

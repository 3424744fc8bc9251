/-! RULES' EVALUATION, 26: the cases value, listAt, ruleFailure -/
/-- what evaluating changes on both sides -/
def bEvA : List Nat := [7, 39, 40, 41, 42, 43, 44, 45, 60, 61, 62, 63, 64, 65, 66, 67, 68, 69]
/-- the class's cells are those of a run, or nothing is evaluated -/
def bXe (σ : bSt) : Prop := bEvX (bi σ 7 15) σ
section
variable {d : Nat} {σ s t e r r' : bSt} {fv : bSt → Prop} {f g : Int → bSt → Prop} {x y k n m p v w o j l a i : Int} {R : bSt → Prop} {H : bHp} {L N : Nat}
theorem bXe_un {S : List Nat} {F : List Int} (u : bUn S F σ s) (hS : ∀ k ∈ [7, 34, 35, 36, 37, 38, 39, 40, 41, 42, 43, 44, 45], k ∉ S) (X : bXe σ) : bXe s := by
  have e : ∀ b ∈ [7, 34, 35, 36, 37, 38, 39, 40, 41, 42, 43, 44, 45], ∀ j, bi s b j = bi σ b j := fun b hb j => u.1 b (by
    have := hS b hb
    rwa [Nat.mod_eq_of_lt (by simp at hb; omega)]) (by rw [Nat.mod_eq_of_lt (by simp at hb; omega)]; simp at hb; omega) j
  unfold bXe
  rw [e 7 (by decide)]
  exact bEvX_m X e
theorem bRs_S (h : bRs σ) : bEvS σ := fun x x0 x1 => by
  obtain ⟨⟨g1, g2, g3⟩, g4⟩ := h x x0 x1
  refine ⟨by omega, fun i i0 i1 => ?_⟩
  obtain ⟨⟨q1, q2, q3, q4⟩, q5⟩ := g4 i i0 (by omega)
  rw [show x * 12 + i = 12 * x + i by omega, q1, q2, q3, q4]
  exact q5
theorem bEs_step (hR : ∀ σ s, bUn bEvA [0, 7] σ s → R σ → R s) (hH : ∀ c k σ s, bUn bEvA [0, 7] σ s → H c k σ → H c k s) (h : bI9 (bGs bXe R) H L N σ) (u : bUn bEvA [0, 7] σ s) (hx : bi s 7 15 = -1 ∨ bXe s) (h1 : s.2.2.2.2.1 ≤ σ.2.2.2.2.1 + 1) (h2 : s.2.2.2.2.2 ≤ σ.2.2.2.2.2 + 6) : bI9 (bGs bXe R) H L (N + 1) s := by
  obtain ⟨a1, a2, a3, ⟨b1, b2, b3, b4, b5⟩, c, k, a5, a6, a7⟩ := h
  have e : bT s = bT σ := by unfold bT; rw [u.2.1 22 (by decide) (by decide)]
  exact ⟨(bMid_un u (by decide)).2.trans a1, bFi_un u (by decide) a2, bTl_un u (by decide) (by decide) a3, ⟨bTg_un u (by decide) (by decide) b1, bTst_un u (by decide) (by decide) b2, bRs_un u (by decide) b3, hx, hR _ _ u b5⟩, c, k, by rw [e]; omega, by rw [e]; omega, hH _ _ _ _ u a7⟩
theorem bEs_no (hR : ∀ σ s, bUn bEvA [0, 7] σ s → R σ → R s) (hH : ∀ c k σ s, bUn bEvA [0, 7] σ s → H c k σ → H c k s) (h : bI9 (bGs bXe R) H L N σ) : bI9 (bGs bXe R) H L (N + 1) (bw (bC σ 1 6) 12 0 v) := by
  have u0 : bUn [] [0] σ (bw (bC σ 1 6) 12 0 v) := bUn_f (bUn_C bUn_refl) (by decide) (by decide)
  obtain ⟨b1, b2, b3, b4, b5⟩ := h.2.2.2.1
  exact bEs_step hR hH h (bUn_mono u0 (by decide) (by decide)) (b4.imp (fun w => by rw [bi_ne (by decide)]; exact w) (fun w => bXe_un u0 (by decide) w)) (Nat.le_refl _) (Nat.le_refl _)
/-- behind both sides' evaluation -/
theorem bEs_ok {q : Int64} (hR : ∀ σ s, bUn bEvA [0, 7] σ s → R σ → R s) (hH : ∀ c k σ s, bUn bEvA [0, 7] σ s → H c k σ → H c k s) (h : bI9 (bGs bXe R) H L N σ) (a1 : bSm bEvK σ t) (a2 : bi t 7 15 = x) (a3 : bEvX x t) (M : bRM (bw (bwj t 154 0 q) 12 0 0) r) : bi r 12 0 = 0 ∧ bj r 154 0 = q ∧ bI9 (bGs bXe R) H L (N + 1) r := by
  have ut : bUn bEvA [0, 7] σ (bw (bwj t 154 0 q) 12 0 0) := bUn_f (bUn_o (bUn_S bUn_refl (bSm_mono a1 (by decide)) (by decide))) (by decide) (by decide)
  have u : bUn bEvA [0, 7] σ r := bUn_trans ut (bUn_mono M.2 (by decide) (by decide))
  refine ⟨?_, ?_, bEs_step hR hH h u (Or.inr ?_) ?_ ?_⟩
  · rw [M.2.2.1 0 (by decide) (by decide), bi_eq (by decide)]
  · have e2 : r.2 = (bw (bwj t 154 0 q) 12 0 0).2 := M.1
    have : bj r 154 0 = bj (bw (bwj t 154 0 q) 12 0 0) 154 0 := by unfold bj; rw [e2]
    rw [this]
    exact bj_eq
  · have X2 : bXe (bw (bwj t 154 0 q) 12 0 0) := by
      unfold bXe
      rw [bi_ne (by decide), bi_bwj, a2]
      exact bEvX_f (bEvX_m a3 (fun _ _ _ => rfl))
    exact bXe_un M.2 (by decide) X2
  · rw [show r.2 = (bw (bwj t 154 0 q) 12 0 0).2 from M.1]
    show t.2.2.2.2.1 ≤ _
    rw [a1.1]
    exact Nat.le_add_right _ _
  · rw [show r.2 = (bw (bwj t 154 0 q) 12 0 0).2 from M.1]
    show t.2.2.2.2.2 ≤ _
    rw [a1.1]
    exact Nat.le_add_right _ _
/-- the class's cells behind the reference's evaluation -/
theorem bEs_c {q : Int64} (M : bRM (bw (bwj t 154 0 q) 12 0 0) r) : ∀ b ∈ [7, 39, 41, 42, 43, 45], ∀ j, bi r b j = bi t b j := fun b hb j => by
  have h1 : b % 256 ∉ bRfK ∧ b % 256 ≠ 12 ∧ b ≠ 12 := by
    simp only [List.mem_cons, List.not_mem_nil, or_false] at hb
    rcases hb with rfl | rfl | rfl | rfl | rfl | rfl <;> decide
  rw [M.2.1 b h1.1 h1.2.1, bi_ne h1.2.2, bi_bwj]
theorem bEs_m (h : bI9 (bGs bXe R) H L N σ) (a1 : bSm bEvK σ t) (q : Int64) : bMid σ (bwj t 154 0 q) ∧ bRs (bwj t 154 0 q) := by
  have ut : bUn bEvA [0, 7] σ (bwj t 154 0 q) := bUn_o (bUn_S bUn_refl (bSm_mono a1 (by decide)) (by decide))
  exact ⟨bMid_un ut (by decide), bRs_un ut (by decide) h.2.2.2.1.2.2.1⟩
theorem k7 (hR : ∀ σ s, bUn bEvA [0, 7] σ s → R σ → R s) (hH : ∀ c k σ s, bUn bEvA [0, 7] σ s → H c k σ → H c k s) (h : bI9 (bGs bXe R) H L N σ) : bK7 (bI9 (bGs bXe R) H L (N + 1)) σ := by
  have hs := h.2.2.2.1.2.2.1
  have hX := h.2.2.2.1.2.2.2.1
  refine wk7 fun x y hx hy => w150 (d := 3) (bRs_S hs) hX hx hy (fun q => ?_) (fun q t a1 a2 a3 => ?_)
  · exact ⟨bMid_C, w219 (bRs_un (S := []) (F := []) (bUn_C bUn_refl) (by decide) hs) hx hy (fun w => absurd w q) (fun _ => ⟨bi_eq (by decide), fun w => absurd w (by decide), bEs_no hR hH h⟩) (fun w => absurd w q)⟩
  · obtain ⟨m1, m2⟩ := bEs_m h a1 (bL (if bEvV t x y < 1000 then bEvV t x y else -2))
    refine ⟨m1, w219 m2 hx hy (fun _ => bEvX_m a3 (fun _ _ _ => rfl)) (fun w => absurd q w) (fun _ r M Y => ?_)⟩
    obtain ⟨e1, e2, e3⟩ := bEs_ok hR hH h a1 a2 a3 M
    have C := bEs_c M
    refine ⟨e1, fun _ => ?_, e3⟩
    rw [e2]
    unfold bEvV
    rw [C 7 (by decide), C 39 (by decide)]
theorem k8 (hR : ∀ σ s, bUn bEvA [0, 7] σ s → R σ → R s) (hH : ∀ c k σ s, bUn bEvA [0, 7] σ s → H c k σ → H c k s) (h : bI9 (bGs bXe R) H L N σ) : bK8 (bI9 (bGs bXe R) H L (N + 1)) σ := by
  have hs := h.2.2.2.1.2.2.1
  have hX := h.2.2.2.1.2.2.2.1
  refine wk8 fun x y p hx hy hp => w151 (d := 3) (bRs_S hs) hX hx hy hp (fun q => ?_) (fun q t a1 a2 a3 => ?_)
  · exact ⟨bMid_C, w220 (bRs_un (S := []) (F := []) (bUn_C bUn_refl) (by decide) hs) hx hy hp (fun w => absurd w q) (fun _ => ⟨bi_eq (by decide), fun w => absurd w (by decide), bEs_no hR hH h⟩) (fun w => absurd w q)⟩
  · obtain ⟨m1, m2⟩ := bEs_m h a1 (bL (bEvP t x y p))
    refine ⟨m1, w220 m2 hx hy hp (fun _ => bEvX_m a3 (fun _ _ _ => rfl)) (fun w => absurd q w) (fun _ r M Y => ?_)⟩
    obtain ⟨e1, e2, e3⟩ := bEs_ok hR hH h a1 a2 a3 M
    have C := bEs_c M
    refine ⟨e1, fun _ => ?_, e3⟩
    rw [e2]
    unfold bEvP bEvV
    rw [C 7 (by decide), C 39 (by decide), C 43 (by decide), C 45 (by decide)]
theorem k9 (hR : ∀ σ s, bUn bEvA [0, 7] σ s → R σ → R s) (hH : ∀ c k σ s, bUn bEvA [0, 7] σ s → H c k σ → H c k s) (h : bI9 (bGs bXe R) H L N σ) : bK9 (bI9 (bGs bXe R) H L (N + 1)) σ := by
  have hs := h.2.2.2.1.2.2.1
  have hX := h.2.2.2.1.2.2.2.1
  refine wk9 fun x p hx hp => w152 (d := 3) (bRs_S hs) hX hx hp (fun q => ?_) (fun q t a1 a2 a3 => ?_)
  · exact ⟨bMid_C, w221 (bRs_un (S := []) (F := []) (bUn_C bUn_refl) (by decide) hs) hx hp (fun w => absurd w q) (fun _ => ⟨bi_eq (by decide), fun w => absurd w (by decide), bEs_no hR hH h⟩) (fun w => absurd w q)⟩
  · obtain ⟨m1, m2⟩ := bEs_m h a1 (bL (bEvQ t p))
    refine ⟨m1, w221 m2 hx hp (fun _ => bEvX_m a3 (fun _ _ _ => rfl)) (fun w => absurd q w) (fun _ r M Y => ?_)⟩
    obtain ⟨e1, e2, e3⟩ := bEs_ok hR hH h a1 a2 a3 M
    have C := bEs_c M
    refine ⟨e1, fun _ => ?_, e3⟩
    rw [e2]
    unfold bEvQ
    simp only [C 7 (by decide), C 42 (by decide), C 41 (by decide)]
end

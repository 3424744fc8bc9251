/-! THE CASE targetError, 2 -/
section
variable {d : Nat} {σ s t u e r r' s1 s2 : bSt} {f : Int → bSt → Prop} {x y k n m p v w o j l a i c q : Int} {R : bSt → Prop} {H : bHp} {L N : Nat}
/-- targets, tests, statements, what was evaluated last, marks, the rest -/
def bGp (N : Nat) (R : bSt → Prop) : bSt → Prop := bGs bXe (fun σ => bPm N σ ∧ R σ)
theorem bPl_step (hR : ∀ σ s, bUn bPlK [0, 7] σ s → R σ → R s) (hH : ∀ c k σ s, bUn bPlK [0, 7] σ s → H c k σ → H c k s) (h : bI9 (bGp N R) H L N σ) (u : bUn bPlK [0, 7] σ s) (hT : bTg s) (hX : bi s 7 15 = -1 ∨ bXe s) (hM : bPm (N + 1) s) (h1 : s.2.2.2.2.1 ≤ σ.2.2.2.2.1 + 1) (h2 : s.2.2.2.2.2 ≤ σ.2.2.2.2.2 + 6) : bI9 (bGp (N + 1) R) H L (N + 1) s := by
  obtain ⟨a1, a2, a3, ⟨b1, b2, b3, b4, b5, b6⟩, c, k, a5, a6, a7⟩ := h
  have e : bT s = bT σ := by unfold bT; rw [u.2.1 22 (by decide) (by decide)]
  exact ⟨(bMid_un u (by decide)).2.trans a1, bFi_un u (by decide) a2, bTl_un u (by decide) (by decide) a3, ⟨hT, bTst_un u (by decide) (by decide) b2, bRs_un u (by decide) b3, hX, hM, hR _ _ u b6⟩, c, k, by rw [e]; omega, by rw [e]; omega, hH _ _ _ _ u a7⟩
theorem bPl_no (hR : ∀ σ s, bUn bPlK [0, 7] σ s → R σ → R s) (hH : ∀ c k σ s, bUn bPlK [0, 7] σ s → H c k σ → H c k s) (h : bI9 (bGp N R) H L N σ) : bI9 (bGp (N + 1) R) H L (N + 1) (bw (bC σ 1 6) 12 0 v) := by
  have u0 : bUn [] [0] σ (bw (bC σ 1 6) 12 0 v) := bUn_f (bUn_C bUn_refl) (by decide) (by decide)
  obtain ⟨b1, b2, b3, b4, b5, b6⟩ := h.2.2.2.1
  exact bPl_step hR hH h (bUn_mono u0 (by decide) (by decide)) (bTg_un u0 (by decide) (by decide) b1) (b4.imp (fun w => by rw [bi_ne (by decide)]; exact w) (fun w => bXe_un u0 (by decide) w)) (bPm_up (bPm_un u0 (by decide) (by decide) b5)) (Nat.le_refl _) (Nat.le_refl _)
/-- behind the class's plan and the reference's look, with the answer q between -/
theorem bPl_ok {q : Int64} (hR : ∀ σ s, bUn bPlK [0, 7] σ s → R σ → R s) (hH : ∀ c k σ s, bUn bPlK [0, 7] σ s → H c k σ → H c k s) (h : bI9 (bGp N R) H L N σ) (T : bT68 σ s1) (X : bi s1 7 15 = -1 ∨ bXe s1) (W : bWk s1 s2) (e6 : bi s2 6 10 = bi s1 6 10 + 1) (LK : bLook m (bw (bwj s2 154 0 q) 12 0 0) r) : bi r 12 0 = 0 ∧ bj r 154 0 = q ∧ bI9 (bGp (N + 1) R) H L (N + 1) r := by
  obtain ⟨b1, b2, b3, b4, b5, b6⟩ := h.2.2.2.1
  have u1 : bUn bPlK [0, 7] σ s1 := bUn_mono (bT68_un T) (by decide) (by decide)
  have u2 : bUn bPlK [0, 7] σ (bw (bwj s2 154 0 q) 12 0 0) := bUn_f (bUn_o (bUn_S u1 (bSm_mono W.1 (by decide)) (by decide))) (by decide) (by decide)
  have u : bUn bPlK [0, 7] σ r := bUn_trans u2 (bUn_mono LK.2.1 (by decide) (by decide))
  have T1 := bTg_68 T b1
  have w2 : bUn bWkK [0] s1 (bw (bwj s2 154 0 q) 12 0 0) := bUn_f (bUn_o (bUn_S bUn_refl W.1 (by decide))) (by decide) (by decide)
  have e61 : bi s1 6 10 = bi σ 6 10 := T.2.1 6 (by decide) (by decide) 10
  have k6 : ∀ j, bi r 6 j = bi s2 6 j := fun j => by rw [LK.2.1.1 6 (by decide) (by decide), bi_ne (by decide), bi_bwj]
  have k27 : ∀ j, bi r 27 j = bi s2 27 j := fun j => by rw [LK.2.1.1 27 (by decide) (by decide), bi_ne (by decide), bi_bwj]
  have e2 : r.2 = (bw (bwj s2 154 0 q) 12 0 0).2 := LK.1
  have m10 := b5.1.1
  have m11 := b5.2
  refine ⟨?_, ?_, bPl_step hR hH h u (bTg_un LK.2.1 (by decide) (by decide) (bTg_un w2 (by decide) (by decide) T1)) (X.imp (fun w => ?_) (fun w => ?_)) ⟨⟨?_, fun y y0 y1 => ?_⟩, ?_⟩ ?_ ?_⟩
  · rw [LK.2.1.2.1 0 (by decide) (by decide), bi_eq (by decide)]
  · have : bj r 154 0 = bj (bw (bwj s2 154 0 q) 12 0 0) 154 0 := by unfold bj; rw [e2]
    rw [this]
    exact bj_eq
  · rw [LK.2.1.1 7 (by decide) (by decide), w2.1 7 (by decide) (by decide)]; exact w
  · exact bXe_un LK.2.1 (by decide) (bXe_un w2 (by decide) w)
  · rw [k6, e6, e61]; omega
  · rw [k27, k6]; exact W.2.1.1 y y0 y1
  · rw [k6, e6, e61]; omega
  · rw [e2]
    show s2.2.2.2.2.1 ≤ _
    rw [W.1.1, T.1]
    exact Nat.le_add_right _ _
  · rw [e2]
    show s2.2.2.2.2.2 ≤ _
    rw [W.1.1, T.1]
    exact Nat.le_add_right _ _
/-- what the reference needs behind the class's plan -/
theorem bPl_mid (q : Int64) (h : bI9 (bGp N R) H L N σ) (T : bT68 σ s1) (D : ∀ t, bTgk σ t → bRn1 σ s1 t) (W : bWk s1 s2) : bMid σ (bwj s2 154 0 q) ∧ bFi (bwj s2 154 0 q) ∧ bTl (bwj s2 154 0 q) ∧ bTg (bwj s2 154 0 q) ∧ bRs (bwj s2 154 0 q) ∧ bPag s1 (bwj s2 154 0 q) ∧ (∀ t, bTgk (bwj s2 154 0 q) t → bRn1 (bwj s2 154 0 q) (bwj s2 154 0 q) t) ∧ bi (bwj s2 154 0 q) 12 22 = bi σ 12 22 ∧ bi (bwj s2 154 0 q) 10 0 = bi σ 10 0 := by
  obtain ⟨b1, b2, b3, b4, b5, b6⟩ := h.2.2.2.1
  have u1 : bUn bPlK [0, 7] σ s1 := bUn_mono (bT68_un T) (by decide) (by decide)
  have u2 : bUn bPlK [0, 7] σ (bwj s2 154 0 q) := bUn_o (bUn_S u1 (bSm_mono W.1 (by decide)) (by decide))
  have w2 : bUn bWkK [0] s1 (bwj s2 154 0 q) := bUn_o (bUn_S bUn_refl W.1 (by decide))
  have ag := bWk_pag W.1
  have e22 : bi (bwj s2 154 0 q) 12 22 = bi σ 12 22 := u2.2.1 22 (by decide) (by decide)
  refine ⟨bMid_un u2 (by decide), bFi_un u2 (by decide) h.2.1, bTl_un u2 (by decide) (by decide) h.2.2.1, bTg_un w2 (by decide) (by decide) (bTg_68 T b1), bRs_un u2 (by decide) b3, ag, fun t ht => ?_, e22, u2.1 10 (by decide) (by decide) 0⟩
  refine bRn1_m (D t ⟨ht.1, by rw [← e22]; exact ht.2⟩) (ag.2.2.2 t) (fun b hb j => u2.1 b ?_ ?_ j)
  · simp only [List.mem_cons, List.not_mem_nil, or_false] at hb
    rcases hb with rfl | rfl | rfl | rfl | rfl | rfl | rfl <;> decide
  · simp only [List.mem_cons, List.not_mem_nil, or_false] at hb
    rcases hb with rfl | rfl | rfl | rfl | rfl | rfl | rfl <;> decide
theorem k24 (hR : ∀ σ s, bUn bPlK [0, 7] σ s → R σ → R s) (hH : ∀ c k σ s, bUn bPlK [0, 7] σ s → H c k σ → H c k s) (hN : N ≤ 100000) (h : bI9 (bGp N R) H L N σ) : bK24 (bI9 (bGp (N + 1) R) H L (N + 1)) σ := by
  obtain ⟨b1, b2, b3, b4, b5, b6⟩ := h.2.2.2.1
  have m10 := b5.1.1
  have m11 := b5.2
  refine wk24 fun t q ht hq => w167 (d := 2) h.2.1 h.2.2.1 b1 b3 b4 b5.1 ⟨by omega, by omega⟩ ht hq (fun z => ?_) (fun tk q0 s1 s2 T X D W e => ?_)
  · have u0 : bUn [] [] σ (bC σ 1 6) := bUn_C bUn_refl
    exact ⟨bMid_C, w244 (bFi_un u0 (by decide) h.2.1) (bTl_un u0 (by decide) (by decide) h.2.2.1) (bTg_un u0 (by decide) (by decide) b1) (bRs_un u0 (by decide) b3) (fun w w2 => absurd ⟨w, w2⟩ z) ht hq (fun _ => ⟨bi_eq (by decide), fun w => absurd w (by decide), bPl_no hR hH h⟩) (fun w w2 => absurd ⟨w, w2⟩ z)⟩
  · obtain ⟨p1, p2, p3, p4, p5, p6, p7, p8, p9⟩ := bPl_mid (bL (bErr s1 q.toNat (t * 256 + bi σ 10 0))) h T D W
    refine ⟨p1, w244 p2 p3 p4 p5 (fun _ _ => p7) ht hq (fun w => absurd ⟨⟨tk.1, by rw [p8]; exact tk.2⟩, q0⟩ w) (fun _ _ r LK => ?_)⟩
    obtain ⟨g1, g2, g3⟩ := bPl_ok hR hH h T X W e LK
    refine ⟨g1, fun _ => ?_, g3⟩
    rw [g2, p9, bErr_m p6]
end

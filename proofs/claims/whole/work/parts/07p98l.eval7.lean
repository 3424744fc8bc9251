/-! RULES' EVALUATION, 7: a list is made, a number is pushed -/
theorem bEvI_mk {s : bSt} {f : Int} (h : bEvI s) (hl : bi s 7 12 < 72) (hL : bi s 7 12 + 1 ≤ bSix (bEvL s)) : bEvI (bw (bw (bw s 44 (bi s 7 12) f) 43 (bi s 7 12) 0) 7 12 (bi s 7 12 + 1)) := by
  obtain ⟨h1, h2, h3, h4, h5, h6⟩ := h
  have l0 := h2.2.1.1
  generalize hd : bi s 7 12 = l at *
  generalize hs : bw (bw (bw s 44 l f) 43 l 0) 7 12 (l + 1) = s'
  have ne : ∀ b, b ≠ 44 → b ≠ 43 → b ≠ 7 → ∀ j, bi s' b j = bi s b j := fun b w1 w2 w3 j => by rw [← hs, bi_ne w3, bi_ne w2, bi_ne w1]
  have e12 : bi s' 7 12 = l + 1 := by rw [← hs]; exact bi_eq ⟨by omega, by omega⟩
  have e13 : bi s' 7 13 = bi s 7 13 := by rw [← hs, bi_nj (by decide) (by decide) (by decide), bi_ne (by decide), bi_ne (by decide)]
  have e43 : ∀ k, 0 ≤ k → bi s' 43 k = if k = l then 0 else bi s 43 k := fun k k0 => by
    rw [← hs, bi_ne (by decide), bi_bw l0 k0 (by decide), bi_ne (by decide)]; simp only [true_and]
  refine ⟨fun x x0 x1 => ?_, ⟨fun k k0 k1 => ?_, ?_, fun k k0 k1 => ?_⟩, ?_, ?_, ?_, ?_⟩
  · simp only [ne 34 (by decide) (by decide) (by decide), ne 35 (by decide) (by decide) (by decide), ne 36 (by decide) (by decide) (by decide), ne 37 (by decide) (by decide) (by decide), ne 38 (by decide) (by decide) (by decide)]
    exact h1 x x0 x1
  · rw [ne 39 (by decide) (by decide) (by decide), e12]
    have := h2.1 k k0 k1
    omega
  · rw [e12]; omega
  · rw [e12] at k1
    rw [e43 k k0]
    by_cases w : k = l
    · rw [if_pos w]; decide
    · rw [if_neg w]; exact h2.2.2 k k0 (by omega)
  · simp only [ne 40 (by decide) (by decide) (by decide), ne 41 (by decide) (by decide) (by decide)]; exact h3
  · rw [show bEvD s' = bEvD s from funext fun x => by unfold bEvD; rw [ne 40 (by decide) (by decide) (by decide)], e13]
    exact h4
  · simp only [e13, ne 40 (by decide) (by decide) (by decide), ne 42 (by decide) (by decide) (by decide)]
    exact h5
  · rw [e12, show bEvL s' = bEvL s from funext fun x => by unfold bEvL; rw [ne 41 (by decide) (by decide) (by decide), ne 34 (by decide) (by decide) (by decide)]]
    exact hL
theorem bEvI_ps {s : bSt} {i v l : Int} (h : bEvI s) (l0 : 0 ≤ l) (hl : 0 ≤ bi s 43 l ∧ bi s 43 l < 8) : bEvI (bw (bw s 45 i v) 43 l (bi s 43 l + 1)) := by
  obtain ⟨h1, h2, h3, h4, h5, h6⟩ := h
  generalize hs : bw (bw s 45 i v) 43 l (bi s 43 l + 1) = s'
  have ne : ∀ b, b ≠ 45 → b ≠ 43 → ∀ j, bi s' b j = bi s b j := fun b w1 w2 j => by rw [← hs, bi_ne w2, bi_ne w1]
  have e43 : ∀ k, 0 ≤ k → bi s' 43 k = if k = l then bi s 43 l + 1 else bi s 43 k := fun k k0 => by
    rw [← hs, bi_bw l0 k0 ⟨by omega, by omega⟩, bi_ne (by decide)]; simp only [true_and]
  refine ⟨fun x x0 x1 => ?_, ⟨fun k k0 k1 => ?_, ?_, fun k k0 k1 => ?_⟩, ?_, ?_, ?_, ?_⟩
  · simp only [ne 34 (by decide) (by decide), ne 35 (by decide) (by decide), ne 36 (by decide) (by decide), ne 37 (by decide) (by decide), ne 38 (by decide) (by decide)]
    exact h1 x x0 x1
  · rw [ne 39 (by decide) (by decide), ne 7 (by decide) (by decide)]
    exact h2.1 k k0 k1
  · rw [ne 7 (by decide) (by decide)]; exact h2.2.1
  · rw [ne 7 (by decide) (by decide)] at k1
    rw [e43 k k0]
    by_cases w : k = l
    · rw [if_pos w]; exact ⟨by omega, by omega⟩
    · rw [if_neg w]; exact h2.2.2 k k0 k1
  · simp only [ne 40 (by decide) (by decide), ne 41 (by decide) (by decide)]; exact h3
  · rw [show bEvD s' = bEvD s from funext fun x => by unfold bEvD; rw [ne 40 (by decide) (by decide)], ne 7 (by decide) (by decide)]
    exact h4
  · simp only [ne 7 (by decide) (by decide), ne 40 (by decide) (by decide), ne 42 (by decide) (by decide)]
    exact h5
  · rw [ne 7 (by decide) (by decide), show bEvL s' = bEvL s from funext fun x => by unfold bEvL; rw [ne 41 (by decide) (by decide), ne 34 (by decide) (by decide)]]
    exact h6

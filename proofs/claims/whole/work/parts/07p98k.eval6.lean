/-! RULES' EVALUATION, 6: a place goes on, a name is set -/
theorem bEvI_41 {s : bSt} {f v : Int} (h : bEvI s) (f0 : 0 ≤ f) (f1 : f < 6) (hv : bi s 41 f ≤ v ∧ v ≤ 13) : bEvI (bw s 41 f v) ∧ bSix (bEvL (bw s 41 f v)) = bSix (bEvL s) - bEvL s f + if v < bi s 34 f then v else bi s 34 f := by
  obtain ⟨h1, h2, h3, h4, h5, h6⟩ := h
  have p0 := (h3 f f0 f1).1.1
  generalize hs : bw s 41 f v = s'
  have ne : ∀ b, b ≠ 41 → ∀ j, bi s' b j = bi s b j := fun b w j => by rw [← hs, bi_ne w]
  have e41 : ∀ j, 0 ≤ j → bi s' 41 j = if j = f then v else bi s 41 j := fun j j0 => by
    rw [← hs, bi_bw f0 j0 ⟨by omega, by omega⟩]; simp only [true_and]
  have u := bSix_u (F := bEvL s) (G := bEvL s') f0 f1 (fun j j0 _ w => by unfold bEvL; rw [e41 j j0, if_neg w, ne 34 (by decide)])
  have a : bEvL s' f = if v < bi s 34 f then v else bi s 34 f := by unfold bEvL; rw [e41 f f0, if_pos rfl, ne 34 (by decide)]
  rw [a] at u
  refine ⟨⟨fun x x0 x1 => ?_, ?_, fun x x0 x1 => ?_, ?_, ?_, ?_⟩, u⟩
  · simp only [ne 34 (by decide), ne 35 (by decide), ne 36 (by decide), ne 37 (by decide), ne 38 (by decide)]
    exact h1 x x0 x1
  · unfold bEvOk
    simp only [ne 39 (by decide), ne 7 (by decide), ne 43 (by decide)]
    exact h2
  · rw [ne 40 (by decide), e41 x x0]
    have := h3 x x0 x1
    by_cases w : x = f
    · rw [if_pos w]; exact ⟨⟨by omega, hv.2⟩, this.2⟩
    · rw [if_neg w]; exact this
  · rw [show bEvD s' = bEvD s from funext fun x => by unfold bEvD; rw [ne 40 (by decide)], ne 7 (by decide)]
    exact h4
  · simp only [ne 7 (by decide), ne 40 (by decide), ne 42 (by decide)]
    exact h5
  · rw [u, ne 7 (by decide)]
    have : bEvL s f ≤ if v < bi s 34 f then v else bi s 34 f := by
      unfold bEvL
      by_cases w : bi s 41 f < bi s 34 f
      · rw [if_pos w]
        by_cases w2 : v < bi s 34 f
        · rw [if_pos w2]; exact hv.1
        · rw [if_neg w2]; omega
      · rw [if_neg w, if_neg (by omega)]; exact Int.le_refl _
    omega
theorem bEvI_39 {s : bSt} {j v : Int} (h : bEvI s) (j0 : 0 ≤ j) (hv : -1 ≤ v ∧ v < 1000 + bi s 7 12) : bEvI (bw s 39 j v) := by
  obtain ⟨h1, h2, h3, h4, h5, h6⟩ := h
  have hL := h2.2.1
  generalize hs : bw s 39 j v = s'
  have ne : ∀ b, b ≠ 39 → ∀ j, bi s' b j = bi s b j := fun b w j => by rw [← hs, bi_ne w]
  have e39 : ∀ k, 0 ≤ k → bi s' 39 k = if k = j then v else bi s 39 k := fun k k0 => by
    rw [← hs, bi_bw j0 k0 ⟨by omega, by omega⟩]; simp only [true_and]
  refine ⟨fun x x0 x1 => ?_, ⟨fun k k0 k1 => ?_, ?_, ?_⟩, ?_, ?_, ?_, ?_⟩
  · simp only [ne 34 (by decide), ne 35 (by decide), ne 36 (by decide), ne 37 (by decide), ne 38 (by decide)]
    exact h1 x x0 x1
  · rw [e39 k k0, ne 7 (by decide)]
    by_cases w : k = j
    · rw [if_pos w]; exact hv
    · rw [if_neg w]; exact h2.1 k k0 k1
  · rw [ne 7 (by decide)]; exact h2.2.1
  · simp only [ne 7 (by decide), ne 43 (by decide)]; exact h2.2.2
  · simp only [ne 40 (by decide), ne 41 (by decide)]; exact h3
  · rw [show bEvD s' = bEvD s from funext fun x => by unfold bEvD; rw [ne 40 (by decide)], ne 7 (by decide)]
    exact h4
  · simp only [ne 7 (by decide), ne 40 (by decide), ne 42 (by decide)]
    exact h5
  · rw [ne 7 (by decide), show bEvL s' = bEvL s from funext fun x => by unfold bEvL; rw [ne 41 (by decide), ne 34 (by decide)]]
    exact h6

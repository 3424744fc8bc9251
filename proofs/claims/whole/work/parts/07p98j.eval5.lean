/-! RULES' EVALUATION, 5: a file is entered, a file is done -/
theorem bEvI_ent {s : bSt} {o : Int} (h : bEvI s) (o0 : 0 ≤ o) (o1 : o < 6) (hm : bi s 40 o = 0) : bEvI (bEvEnt s o) := by
  obtain ⟨d0, d1⟩ := bEvI_he h o0 o1 (by omega)
  obtain ⟨h1, h2, h3, h4, h5, h6⟩ := h
  unfold bEvEnt
  generalize hd : bi s 7 13 = d at *
  generalize hs : bw (bw (bw s 40 o 1) 42 d o) 7 13 (d + 1) = s'
  have ne : ∀ b, b ≠ 40 → b ≠ 42 → b ≠ 7 → ∀ j, bi s' b j = bi s b j := fun b w1 w2 w3 j => by rw [← hs, bi_ne w3, bi_ne w2, bi_ne w1]
  have e13 : bi s' 7 13 = d + 1 := by rw [← hs]; exact bi_eq ⟨by omega, by omega⟩
  have e12 : bi s' 7 12 = bi s 7 12 := by rw [← hs, bi_nj (by decide) (by decide) (by decide), bi_ne (by decide), bi_ne (by decide)]
  have e40 : ∀ j, 0 ≤ j → bi s' 40 j = if j = o then 1 else bi s 40 j := fun j j0 => by
    rw [← hs, bi_ne (by decide), bi_ne (by decide), bi_bw o0 j0 (by decide)]; simp only [true_and]
  have e42 : ∀ j, 0 ≤ j → bi s' 42 j = if j = d then o else bi s 42 j := fun j j0 => by
    rw [← hs, bi_ne (by decide), bi_bw d0 j0 ⟨by omega, by omega⟩, bi_ne (by decide)]; simp only [true_and]
  refine ⟨fun x x0 x1 => ?_, ⟨fun j j0 j1 => ?_, ?_, fun l l0 l1 => ?_⟩, fun x x0 x1 => ?_, ?_, fun i i0 i1 => ?_, ?_⟩
  · simp only [ne 34 (by decide) (by decide) (by decide), ne 35 (by decide) (by decide) (by decide), ne 36 (by decide) (by decide) (by decide), ne 37 (by decide) (by decide) (by decide), ne 38 (by decide) (by decide) (by decide)]
    exact h1 x x0 x1
  · rw [ne 39 (by decide) (by decide) (by decide), e12]
    exact h2.1 j j0 j1
  · rw [e12]; exact h2.2.1
  · rw [e12] at l1
    rw [ne 43 (by decide) (by decide) (by decide)]
    exact h2.2.2 l l0 l1
  · rw [ne 41 (by decide) (by decide) (by decide), e40 x x0]
    have := h3 x x0 x1
    by_cases w : x = o
    · rw [if_pos w]; exact ⟨this.1, by decide, by decide⟩
    · rw [if_neg w]; exact this
  · rw [e13, h4]
    have u := bSix_u (F := bEvD s) (G := bEvD s') o0 o1 (fun j j0 _ w => by unfold bEvD; rw [e40 j j0, if_neg w])
    have a : bEvD s o = 0 := if_neg (by omega)
    have b : bEvD s' o = 1 := if_pos (by rw [e40 o o0, if_pos rfl])
    omega
  · rw [e13] at i1
    rw [e42 i i0]
    by_cases w : i = d
    · rw [if_pos w]
      refine ⟨⟨o0, o1⟩, by rw [e40 o o0, if_pos rfl], fun j j0 j1 => ?_⟩
      rw [e42 j j0, if_neg (by omega)]
      have := (h5 j j0 (by omega)).2.1
      intro z
      rw [z] at this
      omega
    · rw [if_neg w]
      obtain ⟨g1, g2, g3⟩ := h5 i i0 (by omega)
      refine ⟨g1, ?_, fun j j0 j1 => ?_⟩
      · rw [e40 _ g1.1]
        by_cases z : bi s 42 i = o
        · rw [if_pos z]
        · rw [if_neg z]; exact g2
      · rw [e42 j j0, if_neg (by omega)]
        exact g3 j j0 j1
  · rw [e12, show bEvL s' = bEvL s from funext fun x => by unfold bEvL; rw [ne 41 (by decide) (by decide) (by decide), ne 34 (by decide) (by decide) (by decide)]]
    exact h6
theorem bEvI_pop {s : bSt} {f : Int} (h : bEvI s) (hd1 : 1 ≤ bi s 7 13) (hf : bi s 42 (bi s 7 13 - 1) = f) : bEvI (bw (bw s 40 f 2) 7 13 (bi s 7 13 - 1)) := by
  obtain ⟨h1, h2, h3, h4, h5, h6⟩ := h
  obtain ⟨⟨f0, f1⟩, fm, fd⟩ := h5 (bi s 7 13 - 1) (by omega) (by omega)
  rw [hf] at f0 f1 fm fd
  have dr : bRg (bi s 7 13) := bi_rg _ _ _
  generalize hd : bi s 7 13 = d at *
  generalize hs : bw (bw s 40 f 2) 7 13 (d - 1) = s'
  have ne : ∀ b, b ≠ 40 → b ≠ 7 → ∀ j, bi s' b j = bi s b j := fun b w1 w3 j => by rw [← hs, bi_ne w3, bi_ne w1]
  have e13 : bi s' 7 13 = d - 1 := by rw [← hs]; exact bi_eq ⟨by omega, by omega⟩
  have e12 : bi s' 7 12 = bi s 7 12 := by rw [← hs, bi_nj (by decide) (by decide) (by decide), bi_ne (by decide)]
  have e40 : ∀ j, 0 ≤ j → bi s' 40 j = if j = f then 2 else bi s 40 j := fun j j0 => by
    rw [← hs, bi_ne (by decide), bi_bw f0 j0 (by decide)]; simp only [true_and]
  refine ⟨fun x x0 x1 => ?_, ⟨fun j j0 j1 => ?_, ?_, fun l l0 l1 => ?_⟩, fun x x0 x1 => ?_, ?_, fun i i0 i1 => ?_, ?_⟩
  · simp only [ne 34 (by decide) (by decide), ne 35 (by decide) (by decide), ne 36 (by decide) (by decide), ne 37 (by decide) (by decide), ne 38 (by decide) (by decide)]
    exact h1 x x0 x1
  · rw [ne 39 (by decide) (by decide), e12]
    exact h2.1 j j0 j1
  · rw [e12]; exact h2.2.1
  · rw [e12] at l1
    rw [ne 43 (by decide) (by decide)]
    exact h2.2.2 l l0 l1
  · rw [ne 41 (by decide) (by decide), e40 x x0]
    have := h3 x x0 x1
    by_cases w : x = f
    · rw [if_pos w]; exact ⟨this.1, by decide, by decide⟩
    · rw [if_neg w]; exact this
  · rw [e13, h4]
    have u := bSix_u (F := bEvD s) (G := bEvD s') f0 f1 (fun j j0 _ w => by unfold bEvD; rw [e40 j j0, if_neg w])
    have a : bEvD s f = 1 := if_pos fm
    have b : bEvD s' f = 0 := if_neg (by rw [e40 f f0, if_pos rfl]; decide)
    omega
  · rw [e13] at i1
    rw [ne 42 (by decide) (by decide)]
    obtain ⟨g1, g2, g3⟩ := h5 i i0 (by omega)
    refine ⟨g1, ?_, fun j j0 j1 => by rw [ne 42 (by decide) (by decide)]; exact g3 j j0 j1⟩
    rw [e40 _ g1.1, if_neg (fd i i0 i1)]
    exact g2
  · rw [e12, show bEvL s' = bEvL s from funext fun x => by unfold bEvL; rw [ne 41 (by decide) (by decide), ne 34 (by decide) (by decide)]]
    exact h6
theorem bEvI_14 {s : bSt} {v : Int} (h : bEvI s) : bEvI (bw s 7 14 v) := by
  obtain ⟨h1, h2, h3, h4, h5, h6⟩ := h
  have ne : ∀ b, b ≠ 7 → ∀ j, bi (bw s 7 14 v) b j = bi s b j := fun b w j => bi_ne w
  have e12 : bi (bw s 7 14 v) 7 12 = bi s 7 12 := bi_nj (by decide) (by decide) (by decide)
  have e13 : bi (bw s 7 14 v) 7 13 = bi s 7 13 := bi_nj (by decide) (by decide) (by decide)
  unfold bEvI bEvS bEvOk
  rw [show bEvD (bw s 7 14 v) = bEvD s from funext fun x => by unfold bEvD; rw [ne 40 (by decide)], show bEvL (bw s 7 14 v) = bEvL s from funext fun x => by unfold bEvL; rw [ne 41 (by decide), ne 34 (by decide)]]
  simp only [ne 34 (by decide), ne 35 (by decide), ne 36 (by decide), ne 37 (by decide), ne 38 (by decide), ne 39 (by decide), ne 40 (by decide), ne 41 (by decide), ne 42 (by decide), ne 43 (by decide), e12, e13]
  exact ⟨h1, h2, h3, h4, h5, h6⟩

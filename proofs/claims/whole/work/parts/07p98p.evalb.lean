/-! RULES' EVALUATION, 11: what a run keeps; where it starts -/
def bEvK : List Nat := [7, 39, 40, 41, 42, 43, 44, 45]
section
variable {s t e : bSt} {f a x y k c o : Int} {n : Nat}
theorem bEvPf_sm : bSm bEvK s (bEvPf s f a) ∧ bi (bEvPf s f a) 7 15 = bi s 7 15 := by
  unfold bEvPf
  split
  · exact ⟨bSm_bw (by decide), by rw [bi_ne (by decide)]⟩
  split
  · exact ⟨bSm_bw (by decide), by rw [bi_ne (by decide)]⟩
  split
  · exact ⟨bSm_bw (by decide), by rw [bi_ne (by decide)]⟩
  split
  · exact ⟨bSm_trans (bSm_trans (bSm_trans (bSm_bw (by decide)) (bSm_bw (by decide))) (bSm_bw (by decide))) (bSm_bw (by decide)), by rw [bi_ne (by decide), bi_nj (by decide) (by decide) (by decide), bi_ne (by decide), bi_ne (by decide)]⟩
  split
  · exact ⟨bSm_trans (bSm_bw (by decide)) (bSm_bw (by decide)), by rw [bi_ne (by decide), bi_ne (by decide)]⟩
  split
  · exact ⟨bSm_bw (by decide), by rw [bi_ne (by decide)]⟩
  · exact ⟨bSm_bw (by decide), by rw [bi_ne (by decide)]⟩
theorem bEvGo_sm : bSm bEvK s (bEvGo s f) ∧ bi (bEvGo s f) 7 15 = bi s 7 15 := by
  refine bEvGo_c s f (P := fun t => bSm bEvK s t ∧ bi t 7 15 = bi s 7 15) (fun _ _ _ => ?_) (fun _ _ _ => ?_) (fun _ _ _ => ?_) (fun _ => ?_)
  · exact ⟨bSm_trans (bSm_trans (bSm_bw (by decide)) (bSm_bw (by decide))) (bSm_bw (by decide)), by unfold bEvEnt; rw [bi_nj (by decide) (by decide) (by decide), bi_ne (by decide), bi_ne (by decide)]⟩
  · exact ⟨bSm_trans (bSm_trans (bSm_bw (by decide)) (bSm_bw (by decide))) bEvPf_sm.1, by rw [bEvPf_sm.2, bi_ne (by decide), bi_nj (by decide) (by decide) (by decide)]⟩
  · exact ⟨bSm_bw (by decide), bi_nj (by decide) (by decide) (by decide)⟩
  · exact ⟨bSm_trans (bSm_bw (by decide)) (bSm_bw (by decide)), by rw [bi_nj (by decide) (by decide) (by decide), bi_ne (by decide)]⟩
theorem bEvTo_sm : ∀ (n : Nat) (s : bSt), bEvTo n s t → bSm bEvK s t ∧ bi t 7 15 = bi s 7 15
  | 0, s, h => by rw [h.2]; exact ⟨bSm_refl, rfl⟩
  | n + 1, s, h => by
    obtain ⟨p, q⟩ := bEvTo_sm n _ h.2
    exact ⟨bSm_trans bEvGo_sm.1 p, q.trans bEvGo_sm.2⟩
theorem bEvNHt (h : ¬ bEvHt s) : 0 < bi s 7 13 ∧ bi s 7 14 = -1 := by
  unfold bEvHt at h
  refine ⟨?_, ?_⟩
  · by_cases w : 0 < bi s 7 13
    · exact w
    · exact absurd (Or.inl w) h
  · by_cases w : bi s 7 14 = -1
    · exact w
    · exact absurd (Or.inr w) h
theorem bEvTo_I (ho : 0 ≤ o ∧ o < 6) : ∀ (n : Nat) (s : bSt), bEvI s → bEvJ o s → bEvTo n s t → bEvI t ∧ bEvJ o t ∧ bEvHt t
  | 0, s, i, j, h => by rw [h.2]; exact ⟨i, j, h.1⟩
  | n + 1, s, i, j, h => by
    obtain ⟨d, r⟩ := bEvNHt h.1
    exact bEvTo_I ho n _ (bEvGo_I i d r).1 (bEvGo_J i j ho d) h.2
/-- before the first file is entered -/
def bEvZ (e : bSt) : Prop := (∀ j, 0 ≤ j → j < 48 → bi e 39 j = -1) ∧ (∀ j, 0 ≤ j → j < 6 → bi e 40 j = 0 ∧ bi e 41 j = 0) ∧ bi e 7 12 = 0 ∧ bi e 7 13 = 0 ∧ bi e 7 14 = -1
theorem bEvZ_I (z : bEvZ e) (h : bEvS e) : bEvI e := by
  obtain ⟨z1, z2, z3, z4, z5⟩ := z
  have m := fun j j0 j1 => (z2 j j0 j1).1
  have p := fun j j0 j1 => (z2 j j0 j1).2
  have hD : ∀ j, 0 ≤ j → j < 6 → bEvD e j = 0 := fun j j0 j1 => if_neg (by rw [m j j0 j1]; decide)
  have hL : ∀ j, 0 ≤ j → j < 6 → 0 ≤ bEvL e j := fun j j0 j1 => by
    have := (h j j0 j1).1.1
    unfold bEvL
    rw [p j j0 j1]
    by_cases w : 0 < bi e 34 j
    · rw [if_pos w]; decide
    · rw [if_neg w]; exact this
  refine ⟨h, ⟨fun j j0 j1 => ?_, ?_, fun l l0 l1 => ?_⟩, fun x x0 x1 => ?_, ?_, fun i i0 i1 => ?_, ?_⟩
  · rw [z1 j j0 j1, z3]; decide
  · rw [z3]; decide
  · rw [z3] at l1; omega
  · rw [m x x0 x1, p x x0 x1]; decide
  · rw [z4]
    unfold bSix
    rw [hD 0 (by decide) (by decide), hD 1 (by decide) (by decide), hD 2 (by decide) (by decide), hD 3 (by decide) (by decide), hD 4 (by decide) (by decide), hD 5 (by decide) (by decide)]
    rfl
  · rw [z4] at i1; omega
  · rw [z3]
    unfold bSix
    have a0 := hL 0 (by decide) (by decide)
    have a1 := hL 1 (by decide) (by decide)
    have a2 := hL 2 (by decide) (by decide)
    have a3 := hL 3 (by decide) (by decide)
    have a4 := hL 4 (by decide) (by decide)
    have a5 := hL 5 (by decide) (by decide)
    omega
theorem bEvZ_J (z : bEvZ e) (ho : 0 ≤ o ∧ o < 6) : bEvJ o (bEvEnt e o) := by
  obtain ⟨z1, z2, z3, z4, z5⟩ := z
  unfold bEvEnt
  rw [z4]
  have e13 : bi (bw (bw (bw e 40 o 1) 42 0 o) 7 13 (0 + 1)) 7 13 = 1 := bi_eq (by decide)
  have e40 : ∀ j, 0 ≤ j → bi (bw (bw (bw e 40 o 1) 42 0 o) 7 13 (0 + 1)) 40 j = if j = o then 1 else bi e 40 j := fun j j0 => by
    rw [bi_ne (by decide), bi_ne (by decide), bi_bw ho.1 j0 (by decide)]; simp only [true_and]
  refine ⟨fun x x0 x1 xm => ?_, fun i i0 i1 => ?_, fun _ => ?_, ?_⟩
  · rw [bi_ne (by decide), bi_ne (by decide), bi_ne (by decide)]
    refine ⟨(z2 x x0 x1).2, fun y y0 y1 => ?_⟩
    rw [bi_ne (by decide), bi_ne (by decide), bi_ne (by decide)]
    exact z1 _ (by omega) (by omega)
  · rw [e13] at i1; omega
  · rw [bi_ne (by decide)]
    exact bi_eq ⟨by omega, by omega⟩
  · rw [e40 o ho.1, if_pos rfl]; decide
/-- the class's cells are those of the run from file x over the statements as they stand -/
def bEvX (x : Int) (t : bSt) : Prop := (0 ≤ x ∧ x < 6) ∧ ∃ (n : Nat) (e u : bSt), bEvZ e ∧ bEvS e ∧ bEvTo n (bEvEnt e x) u ∧ (∀ b ∈ [34, 35, 36, 37, 38], ∀ j, bi t b j = bi e b j) ∧ (∀ b ∈ [39, 40, 41, 42, 43, 44, 45], ∀ j, bi t b j = bi u b j) ∧ bi t 7 12 = bi u 7 12 ∧ bi t 7 13 = bi u 7 13 ∧ bi t 7 14 = bi u 7 14
theorem bEvX_m (h : bEvX x s) (e : ∀ b ∈ [7, 34, 35, 36, 37, 38, 39, 40, 41, 42, 43, 44, 45], ∀ j, bi t b j = bi s b j) : bEvX x t := by
  obtain ⟨hx, n, e0, u, z, zs, r, c1, c2, c3, c4, c5⟩ := h
  refine ⟨hx, n, e0, u, z, zs, r, fun b hb j => ?_, fun b hb j => ?_, ?_, ?_, ?_⟩
  · rw [e b (by revert hb; simp only [List.mem_cons, List.not_mem_nil, or_false]; omega) j]; exact c1 b hb j
  · rw [e b (by revert hb; simp only [List.mem_cons, List.not_mem_nil, or_false]; omega) j]; exact c2 b hb j
  · rw [e 7 (by decide)]; exact c3
  · rw [e 7 (by decide)]; exact c4
  · rw [e 7 (by decide)]; exact c5
end

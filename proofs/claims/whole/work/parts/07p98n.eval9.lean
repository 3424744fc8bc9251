/-! RULES' EVALUATION, 9: the step as a whole; the run -/
section
variable {s : bSt} {f a x y k c o : Int}
/-- the file on top of the stack -/
def bEvTp (s : bSt) : Int := bi s 42 (bi s 7 13 - 1)
/-- how far it has come -/
def bEvMs (s : bSt) : Int := bSix (bi s 40) + bSix (bi s 41)
theorem bSix_m {F G : Int → Int} (h : ∀ x, 0 ≤ x → x < 6 → F x ≤ G x) : bSix F ≤ bSix G := by
  have a0 := h 0 (by decide) (by decide)
  have a1 := h 1 (by decide) (by decide)
  have a2 := h 2 (by decide) (by decide)
  have a3 := h 3 (by decide) (by decide)
  have a4 := h 4 (by decide) (by decide)
  have a5 := h 5 (by decide) (by decide)
  unfold bSix
  omega
theorem bEvI_tp (h : bEvI s) (hd : 0 < bi s 7 13) : (0 ≤ bEvTp s ∧ bEvTp s < 6) ∧ bi s 40 (bEvTp s) = 1 := by
  obtain ⟨p, q, _⟩ := h.2.2.2.2.1 (bi s 7 13 - 1) (by omega) (by omega)
  exact ⟨p, q⟩
/-- what is kept of the files not entered yet, of the stack, of the file asked for -/
def bEvJ (o : Int) (s : bSt) : Prop := (∀ x, 0 ≤ x → x < 6 → bi s 40 x = 0 → bi s 41 x = 0 ∧ ∀ y, 0 ≤ y → y < 8 → bi s 39 (x * 8 + y) = -1) ∧
  (∀ i, 0 ≤ i → i + 1 < bi s 7 13 → bi s 41 (bi s 42 i) < bi s 34 (bi s 42 i) ∧ bi s 35 (bi s 42 i * 12 + bi s 41 (bi s 42 i)) = 1 ∧ bi s 38 (bi s 42 i * 12 + bi s 41 (bi s 42 i)) = bi s 42 (i + 1)) ∧
  (0 < bi s 7 13 → bi s 42 0 = o) ∧ bi s 40 o ≠ 0
/-- the three ways of a step -/
theorem bEvGo_c (s : bSt) (f : Int) {P : bSt → Prop} (h1 : bi s 41 f < bi s 34 f → bi s 35 (f * 12 + bi s 41 f) = 1 → bi s 40 (bi s 38 (f * 12 + bi s 41 f)) = 0 → P (bEvEnt s (bi s 38 (f * 12 + bi s 41 f))))
    (h2 : bi s 41 f < bi s 34 f → ¬ (bi s 35 (f * 12 + bi s 41 f) = 1 ∧ bi s 40 (bi s 38 (f * 12 + bi s 41 f)) = 0) → bEvWh s f (f * 12 + bi s 41 f) = -1 → P (bEvPf (bw (bw s 7 14 (-1)) 41 f (bi s 41 f + 1)) f (f * 12 + bi s 41 f)))
    (h3 : bi s 41 f < bi s 34 f → ¬ (bi s 35 (f * 12 + bi s 41 f) = 1 ∧ bi s 40 (bi s 38 (f * 12 + bi s 41 f)) = 0) → bEvWh s f (f * 12 + bi s 41 f) ≠ -1 → P (bw s 7 14 (bEvWh s f (f * 12 + bi s 41 f))))
    (h4 : ¬ bi s 41 f < bi s 34 f → P (bw (bw s 40 f 2) 7 13 (bi s 7 13 - 1))) : P (bEvGo s f) := by
  unfold bEvGo
  by_cases q : bi s 41 f < bi s 34 f
  · rw [if_pos q]
    by_cases l : bi s 35 (f * 12 + bi s 41 f) = 1 ∧ bi s 40 (bi s 38 (f * 12 + bi s 41 f)) = 0
    · rw [if_pos l]; exact h1 q l.1 l.2
    · rw [if_neg l]
      by_cases w : bEvWh s f (f * 12 + bi s 41 f) = -1
      · rw [if_pos w]; exact h2 q l w
      · rw [if_neg w]; exact h3 q l w
  · rw [if_neg q]; exact h4 q
theorem bEvWh_b : (bEvWh s f a = -1 ∨ bEvWh s f a = 1 ∨ bEvWh s f a = 2 ∨ bEvWh s f a = 3 ∨ bEvWh s f a = 4 ∨ bEvWh s f a = 5) := by
  unfold bEvWh
  repeat' split
  all_goals decide
/-- the state from which a statement is performed -/
theorem bEvGo_s1 (h : bEvI s) (hf : 0 ≤ f ∧ f < 6) (q : bi s 41 f < bi s 34 f) (w : bEvWh s f (f * 12 + bi s 41 f) = -1) : bEvI (bEvPf (bw (bw s 7 14 (-1)) 41 f (bi s 41 f + 1)) f (f * 12 + bi s 41 f)) := by
  obtain ⟨⟨z0, z1⟩, zs⟩ := h.1 f hf.1 hf.2
  obtain ⟨⟨p0, p1⟩, _⟩ := h.2.2.1 f hf.1 hf.2
  have st := zs _ p0 q
  have e41 : bi (bw s 7 14 (-1)) 41 f = bi s 41 f := bi_ne (by decide)
  obtain ⟨i1, i2⟩ := bEvI_41 (v := bi s 41 f + 1) (bEvI_14 (v := -1) h) hf.1 hf.2 ⟨by rw [e41]; omega, by omega⟩
  have e34 : bi (bw s 7 14 (-1)) 34 f = bi s 34 f := bi_ne (by decide)
  have eL : bEvL (bw s 7 14 (-1)) = bEvL s := funext fun x => by unfold bEvL; rw [bi_ne (by decide), bi_ne (by decide)]
  have h6 := h.2.2.2.2.2
  have hl := bEvI_hl h hf.1 hf.2 q
  have eLf : bEvL s f = bi s 41 f := if_pos q
  rw [eL, e34, eLf] at i2
  generalize ha : f * 12 + bi s 41 f = a at st w ⊢
  generalize hs : bw (bw s 7 14 (-1)) 41 f (bi s 41 f + 1) = s1 at i1 i2 ⊢
  have ne : ∀ b, b ≠ 7 → b ≠ 41 → ∀ j, bi s1 b j = bi s b j := fun b w1 w2 j => by rw [← hs, bi_ne w2, bi_ne w1]
  have e12 : bi s1 7 12 = bi s 7 12 := by rw [← hs, bi_ne (by decide), bi_nj (by decide) (by decide) (by decide)]
  have e1 : bi s1 41 f = bi s 41 f + 1 := by rw [← hs]; exact bi_eq ⟨by omega, by omega⟩
  refine bEvPf_I i1 hf ?_ (by omega) ?_ (fun _ => ⟨?_, by omega⟩)
  · rw [ne 35 (by decide) (by decide), ne 36 (by decide) (by decide), ne 37 (by decide) (by decide), ne 38 (by decide) (by decide)]
    exact st
  · rw [← w]
    unfold bEvWh bEvN bEvM
    simp only [ne 35 (by decide) (by decide), ne 36 (by decide) (by decide), ne 37 (by decide) (by decide), ne 38 (by decide) (by decide), ne 39 (by decide) (by decide), ne 40 (by decide) (by decide), ne 43 (by decide) (by decide), ne 44 (by decide) (by decide)]
  · rw [e12, i2]
    by_cases z : bi s 41 f + 1 < bi s 34 f
    · rw [if_pos z]; omega
    · rw [if_neg z]; omega
theorem bEvGo_I (h : bEvI s) (hd : 0 < bi s 7 13) (hr : bi s 7 14 = -1) : bEvI (bEvGo s (bEvTp s)) ∧ (bEvMs s + 1 ≤ bEvMs (bEvGo s (bEvTp s)) ∨ bi (bEvGo s (bEvTp s)) 7 14 ≠ -1) := by
  obtain ⟨hf, m1⟩ := bEvI_tp h hd
  have hd6 := h.2.2.2.1
  generalize hft : bEvTp s = f at *
  refine bEvGo_c s f (P := fun s' => bEvI s' ∧ (bEvMs s + 1 ≤ bEvMs s' ∨ bi s' 7 14 ≠ -1)) (fun q k1 m0 => ?_) (fun q l w => ?_) (fun q l w => ?_) (fun q => ?_)
  · have o0 := (((h.1 f hf.1 hf.2).2 _ (h.2.2.1 f hf.1 hf.2).1.1 q)).2.2.1 k1
    refine ⟨bEvI_ent h o0.1 o0.2 m0, Or.inl ?_⟩
    unfold bEvMs
    generalize hs : bEvEnt s (bi s 38 (f * 12 + bi s 41 f)) = s'
    generalize bi s 38 (f * 12 + bi s 41 f) = o at *
    have e41 : bi s' 41 = bi s 41 := funext fun j => by rw [← hs]; unfold bEvEnt; rw [bi_ne (by decide), bi_ne (by decide), bi_ne (by decide)]
    have e40 : ∀ j, 0 ≤ j → bi s' 40 j = if j = o then 1 else bi s 40 j := fun j j0 => by
      rw [← hs]; unfold bEvEnt; rw [bi_ne (by decide), bi_ne (by decide), bi_bw o0.1 j0 (by decide)]; simp only [true_and]
    have u := bSix_u (F := bi s 40) (G := bi s' 40) o0.1 o0.2 (fun j j0 _ w => by rw [e40 j j0, if_neg w])
    rw [e40 o o0.1, if_pos rfl] at u
    rw [e41]
    omega
  · refine ⟨bEvGo_s1 h hf q w, Or.inl ?_⟩
    obtain ⟨⟨z0, z1⟩, zs⟩ := h.1 f hf.1 hf.2
    obtain ⟨⟨p0, p1⟩, _⟩ := h.2.2.1 f hf.1 hf.2
    have st := zs _ p0 q
    unfold bEvMs
    generalize ha : f * 12 + bi s 41 f = a at st ⊢
    generalize hs : bw (bw s 7 14 (-1)) 41 f (bi s 41 f + 1) = s1
    have n36 : bi s1 36 a = bi s 36 a := by rw [← hs, bi_ne (by decide), bi_ne (by decide)]
    obtain ⟨f1, f2, f3, f4⟩ := bEvPf_fr (s := s1) (f := f) (a := a) hf (by rw [n36]; exact st.1)
    have e41 : ∀ j, 0 ≤ j → bi s1 41 j = if j = f then bi s 41 f + 1 else bi s 41 j := fun j j0 => by
      rw [← hs, bi_bw hf.1 j0 ⟨by omega, by omega⟩, bi_ne (by decide)]; simp only [true_and]
    have e1 : bi s1 41 f = bi s 41 f + 1 := by rw [e41 f hf.1, if_pos rfl]
    have e40 : bi (bEvPf s1 f a) 40 = bi s 40 := funext fun j => by rw [f1 40 (by decide), ← hs, bi_ne (by decide), bi_ne (by decide)]
    have u := bSix_u (F := bi s 41) (G := bi (bEvPf s1 f a) 41) hf.1 hf.2 (fun j j0 _ w => by rw [f2 j j0 w, e41 j j0, if_neg w])
    have g : bi s1 41 f ≤ bi (bEvPf s1 f a) 41 f := by
      unfold bEvPf
      split
      · rw [bi_ne (by decide)]; exact Int.le_refl _
      split
      · rw [bi_ne (by decide)]; exact Int.le_refl _
      split
      · rw [bi_ne (by decide)]; exact Int.le_refl _
      split
      · rw [bi_ne (by decide), bi_ne (by decide), bi_ne (by decide), bi_ne (by decide)]; exact Int.le_refl _
      split
      · rw [bi_ne (by decide), bi_ne (by decide)]; exact Int.le_refl _
      split
      · rw [bi_ne (by decide)]; exact Int.le_refl _
      · rw [bi_eq (by rw [e1]; split <;> exact ⟨by omega, by omega⟩)]
        split <;> omega
    rw [e40]
    omega
  · refine ⟨bEvI_14 h, Or.inr ?_⟩
    rw [bi_eq (by rcases bEvWh_b (s := s) (f := f) (a := f * 12 + bi s 41 f) with w | w | w | w | w | w <;> rw [w] <;> decide)]
    exact w
  · have t : bi s 42 (bi s 7 13 - 1) = f := hft
    refine ⟨bEvI_pop h (by omega) t, Or.inl ?_⟩
    unfold bEvMs
    generalize hs : bw (bw s 40 f 2) 7 13 (bi s 7 13 - 1) = s'
    have e41 : bi s' 41 = bi s 41 := funext fun j => by rw [← hs, bi_ne (by decide), bi_ne (by decide)]
    have e40 : ∀ j, 0 ≤ j → bi s' 40 j = if j = f then 2 else bi s 40 j := fun j j0 => by
      rw [← hs, bi_ne (by decide), bi_bw hf.1 j0 (by decide)]; simp only [true_and]
    have u := bSix_u (F := bi s 40) (G := bi s' 40) hf.1 hf.2 (fun j j0 _ w => by rw [e40 j j0, if_neg w])
    rw [e40 f hf.1, if_pos rfl] at u
    rw [e41]
    omega
end

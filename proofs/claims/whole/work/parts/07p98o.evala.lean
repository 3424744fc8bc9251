/-! RULES' EVALUATION, 10: what is kept of files not entered and of the stack; the run -/
section
variable {s t : bSt} {f a x y k c o : Int}
theorem bEvGo_J (h : bEvI s) (j : bEvJ o s) (ho : 0 ≤ o ∧ o < 6) (hd : 0 < bi s 7 13) : bEvJ o (bEvGo s (bEvTp s)) := by
  obtain ⟨hf, m1⟩ := bEvI_tp h hd
  have h5 := h.2.2.2.2.1
  have he := fun o2 o0 o1 hm => (bEvI_he (o := o2) h o0 o1 hm).2
  have hd6 := bi_rg s 7 13
  obtain ⟨j1, j2, j3, j4⟩ := j
  have ht : bi s 42 (bi s 7 13 - 1) = bEvTp s := rfl
  generalize hft : bEvTp s = f at *
  have dis : ∀ i, 0 ≤ i → i + 1 < bi s 7 13 → bi s 42 i ≠ f := fun i i0 i1 => by
    rw [← ht]
    exact (h5 (bi s 7 13 - 1) (by omega) (by omega)).2.2 i i0 (by omega)
  refine bEvGo_c s f (P := bEvJ o) (fun q k1 m0 => ?_) (fun q l w => ?_) (fun q l w => ?_) (fun q => ?_)
  · have o0 := (((h.1 f hf.1 hf.2).2 _ (h.2.2.1 f hf.1 hf.2).1.1 q)).2.2.1 k1
    have hd7 := he _ o0.1 o0.2 (by omega)
    generalize ho2 : bi s 38 (f * 12 + bi s 41 f) = o2 at *
    generalize hs : bEvEnt s o2 = s'
    unfold bEvEnt at hs
    have ne : ∀ b, b ≠ 40 → b ≠ 42 → b ≠ 7 → ∀ j, bi s' b j = bi s b j := fun b w1 w2 w3 j => by rw [← hs, bi_ne w3, bi_ne w2, bi_ne w1]
    have e13 : bi s' 7 13 = bi s 7 13 + 1 := by rw [← hs]; exact bi_eq ⟨by omega, by omega⟩
    have e40 : ∀ j, 0 ≤ j → bi s' 40 j = if j = o2 then 1 else bi s 40 j := fun j j0 => by
      rw [← hs, bi_ne (by decide), bi_ne (by decide), bi_bw o0.1 j0 (by decide)]; simp only [true_and]
    have e42 : ∀ j, 0 ≤ j → bi s' 42 j = if j = bi s 7 13 then o2 else bi s 42 j := fun j j0 => by
      rw [← hs, bi_ne (by decide), bi_bw (by omega) j0 ⟨by omega, by omega⟩, bi_ne (by decide)]; simp only [true_and]
    refine ⟨fun x x0 x1 xm => ?_, fun i i0 i1 => ?_, fun _ => ?_, ?_⟩
    · rw [e40 x x0] at xm
      by_cases w : x = o2
      · rw [if_pos w] at xm; exact absurd xm (by decide)
      · rw [if_neg w] at xm
        simp only [ne 41 (by decide) (by decide) (by decide), ne 39 (by decide) (by decide) (by decide)]
        exact j1 x x0 x1 xm
    · rw [e13] at i1
      simp only [ne 41 (by decide) (by decide) (by decide), ne 34 (by decide) (by decide) (by decide), ne 35 (by decide) (by decide) (by decide), ne 38 (by decide) (by decide) (by decide)]
      rw [e42 i i0, if_neg (by omega), e42 (i + 1) (by omega)]
      by_cases w : i + 1 = bi s 7 13
      · rw [if_pos w, show bi s 42 i = f by rw [← ht]; congr 1; omega]
        exact ⟨q, k1, ho2⟩
      · rw [if_neg w]
        exact j2 i i0 (by omega)
    · rw [e42 0 (by decide), if_neg (by omega)]
      exact j3 hd
    · rw [e40 o ho.1]
      by_cases w : o = o2
      · rw [if_pos w]; decide
      · rw [if_neg w]; exact j4
  · obtain ⟨⟨z0, z1⟩, zs⟩ := h.1 f hf.1 hf.2
    obtain ⟨⟨p0, p1⟩, _⟩ := h.2.2.1 f hf.1 hf.2
    have st := zs _ p0 q
    generalize ha : f * 12 + bi s 41 f = a at st ⊢
    generalize hs : bw (bw s 7 14 (-1)) 41 f (bi s 41 f + 1) = s1
    have n36 : bi s1 36 a = bi s 36 a := by rw [← hs, bi_ne (by decide), bi_ne (by decide)]
    obtain ⟨f1, f2, f3, f4⟩ := bEvPf_fr (s := s1) (f := f) (a := a) hf (by rw [n36]; exact st.1)
    have ne : ∀ b, b ∉ [39, 41, 43, 44, 45, 7] → ∀ j, bi (bEvPf s1 f a) b j = bi s b j := fun b hb j => by
      rw [f1 b hb j, ← hs]
      simp only [List.mem_cons, List.not_mem_nil, or_false, not_or] at hb
      rw [bi_ne hb.2.1, bi_ne hb.2.2.2.2.2]
    have e41 : ∀ x, 0 ≤ x → x ≠ f → bi (bEvPf s1 f a) 41 x = bi s 41 x := fun x x0 x1 => by
      rw [f2 x x0 x1, ← hs, bi_nj hf.1 x0 x1, bi_ne (by decide)]
    have e13 : bi (bEvPf s1 f a) 7 13 = bi s 7 13 := by rw [f4 13 (by decide) (by decide), ← hs, bi_ne (by decide), bi_nj (by decide) (by decide) (by decide)]
    refine ⟨fun x x0 x1 xm => ?_, fun i i0 i1 => ?_, ?_, ?_⟩
    · rw [ne 40 (by decide)] at xm
      have xf : x ≠ f := fun w => by rw [w] at xm; omega
      rw [e41 x x0 xf]
      refine ⟨(j1 x x0 x1 xm).1, fun y y0 y1 => ?_⟩
      rw [f3 x y x0 xf y0 y1, ← hs, bi_ne (by decide), bi_ne (by decide)]
      exact (j1 x x0 x1 xm).2 y y0 y1
    · rw [e13] at i1
      simp only [ne 42 (by decide), ne 34 (by decide), ne 35 (by decide), ne 38 (by decide)]
      rw [e41 _ (h5 i i0 (by omega)).1.1 (dis i i0 i1)]
      exact j2 i i0 i1
    · rw [e13, ne 42 (by decide)]; exact j3
    · rw [ne 40 (by decide)]; exact j4
  · have ne : ∀ b, b ≠ 7 → ∀ j, bi (bw s 7 14 (bEvWh s f (f * 12 + bi s 41 f))) b j = bi s b j := fun b w j => bi_ne w
    unfold bEvJ
    simp only [ne 34 (by decide), ne 35 (by decide), ne 38 (by decide), ne 39 (by decide), ne 40 (by decide), ne 41 (by decide), ne 42 (by decide), bi_nj (σ := s) (a := 7) (i := 14) (j := 13) (v := bEvWh s f (f * 12 + bi s 41 f)) (by decide) (by decide) (by decide)]
    exact ⟨j1, j2, j3, j4⟩
  · generalize hs : bw (bw s 40 f 2) 7 13 (bi s 7 13 - 1) = s'
    have ne : ∀ b, b ≠ 40 → b ≠ 7 → ∀ j, bi s' b j = bi s b j := fun b w1 w3 j => by rw [← hs, bi_ne w3, bi_ne w1]
    have e13 : bi s' 7 13 = bi s 7 13 - 1 := by rw [← hs]; exact bi_eq ⟨by omega, by omega⟩
    have e40 : ∀ j, 0 ≤ j → bi s' 40 j = if j = f then 2 else bi s 40 j := fun j j0 => by
      rw [← hs, bi_ne (by decide), bi_bw hf.1 j0 (by decide)]; simp only [true_and]
    refine ⟨fun x x0 x1 xm => ?_, fun i i0 i1 => ?_, fun w => ?_, ?_⟩
    · rw [e40 x x0] at xm
      by_cases w : x = f
      · rw [if_pos w] at xm; exact absurd xm (by decide)
      · rw [if_neg w] at xm
        simp only [ne 41 (by decide) (by decide), ne 39 (by decide) (by decide)]
        exact j1 x x0 x1 xm
    · rw [e13] at i1
      simp only [ne 41 (by decide) (by decide), ne 34 (by decide) (by decide), ne 35 (by decide) (by decide), ne 38 (by decide) (by decide), ne 42 (by decide) (by decide)]
      exact j2 i i0 (by omega)
    · rw [ne 42 (by decide) (by decide)]; exact j3 (by omega)
    · rw [e40 o ho.1]
      by_cases w : o = f
      · rw [if_pos w]; decide
      · rw [if_neg w]; exact j4
/-- it stands still: nothing on the stack, or failed -/
def bEvHt (s : bSt) : Prop := ¬ 0 < bi s 7 13 ∨ bi s 7 14 ≠ -1
/-- n steps on from s it stands still at t -/
def bEvTo : Nat → bSt → bSt → Prop
  | 0, s, t => bEvHt s ∧ t = s
  | n + 1, s, t => ¬ bEvHt s ∧ bEvTo n (bEvGo s (bEvTp s)) t
end

/-! RULES' EVALUATION, 8: one step keeps the order, and goes on -/
section
variable {s : bSt} {f a x y k c : Int}
/-- statement's cells are those of a row in order -/
theorem bEvPf_I (h : bEvI s) (hf : 0 ≤ f ∧ f < 6) (hs : bStm (bi s 35 a) (bi s 36 a) (bi s 37 a) (bi s 38 a)) (hp : bi s 41 f ≤ 12) (hw : bEvWh s f a = -1) (hl : bi s 35 a = 3 → bi s 7 12 + 1 ≤ bSix (bEvL s) ∧ bi s 7 12 < 72) : bEvI (bEvPf s f a) := by
  obtain ⟨g1, g2, g4, g5, g6⟩ := bEvWh_ok h.2.1 hs hf hw
  obtain ⟨s1, s2, s3, ⟨s4, s5, s6⟩⟩ := hs
  have hm : bi s 35 a ≠ 0 → 0 ≤ bi s 37 a ∧ bi s 37 a < 8 := fun w => by
    by_cases t : bTks (bi s 35 a)
    · exact s2 t
    · have := s5 t
      rw [if_neg w] at this
      omega
  obtain ⟨o1, o2, o3⟩ := h.2.1
  have eM : bi s 35 a ≠ 0 → -1 ≤ bEvM s f a ∧ bEvM s f a < 1000 + bi s 7 12 := fun w => o1 _ (by have := hm w; omega) (by have := hm w; omega)
  have p0 := (h.2.2.1 f hf.1 hf.2).1.1
  unfold bEvPf
  by_cases k0 : bi s 35 a = 0
  · rw [if_pos k0]
    have := s5 (fun w => by rcases w with w | w | w | w <;> omega)
    rw [if_pos k0] at this
    exact bEvI_39 h (by omega) ⟨by omega, by omega⟩
  rw [if_neg k0]
  by_cases k1 : bi s 35 a = 1
  · rw [if_pos k1]
    have := s3 k1
    have := hm k0
    exact bEvI_39 h (by omega) (o1 _ (by omega) (by omega))
  rw [if_neg k1]
  by_cases k2 : bi s 35 a = 2
  · rw [if_pos k2]
    have := g2 k2
    exact bEvI_39 h (by omega) ⟨by omega, by omega⟩
  rw [if_neg k2]
  by_cases k3 : bi s 35 a = 3
  · rw [if_pos k3]
    have q := hl k3
    refine bEvI_39 (bEvI_mk h q.2 q.1) (by omega) ?_
    rw [bi_eq ⟨by omega, by omega⟩]
    omega
  rw [if_neg k3]
  by_cases k4 : bi s 35 a = 4
  · rw [if_pos k4]
    have := g4 k4
    exact bEvI_ps h (by omega) this.1.2
  rw [if_neg k4]
  by_cases k5 : bi s 35 a = 5
  · rw [if_pos k5]
    exact bEvI_39 h (by omega) (eM k0)
  · rw [if_neg k5]
    refine (bEvI_41 h hf.1 hf.2 ?_).1
    by_cases w : bEvN s f a = 0
    · rw [if_pos w]; omega
    · rw [if_neg w]; omega
/-- what a statement performed leaves -/
theorem bEvPf_fr (hf : 0 ≤ f ∧ f < 6) (hn : 0 ≤ bi s 36 a ∧ bi s 36 a < 8) : (∀ b, b ∉ [39, 41, 43, 44, 45, 7] → ∀ j, bi (bEvPf s f a) b j = bi s b j) ∧ (∀ x, 0 ≤ x → x ≠ f → bi (bEvPf s f a) 41 x = bi s 41 x) ∧ (∀ x y, 0 ≤ x → x ≠ f → 0 ≤ y → y < 8 → bi (bEvPf s f a) 39 (x * 8 + y) = bi s 39 (x * 8 + y)) ∧ ∀ j, 0 ≤ j → j ≠ 12 → bi (bEvPf s f a) 7 j = bi s 7 j := by
  refine ⟨fun b hb j => ?_, fun x x0 x1 => ?_, fun x y x0 x1 y0 y1 => ?_, fun j j0 j1 => ?_⟩
  · simp only [List.mem_cons, List.not_mem_nil, or_false, not_or] at hb
    obtain ⟨b1, b2, b3, b4, b5, b6⟩ := hb
    unfold bEvPf
    split
    · rw [bi_ne b1]
    split
    · rw [bi_ne b1]
    split
    · rw [bi_ne b1]
    split
    · rw [bi_ne b1, bi_ne b6, bi_ne b3, bi_ne b4]
    split
    · rw [bi_ne b3, bi_ne b5]
    split
    · rw [bi_ne b1]
    · rw [bi_ne b2]
  · unfold bEvPf
    split
    · rw [bi_ne (by decide)]
    split
    · rw [bi_ne (by decide)]
    split
    · rw [bi_ne (by decide)]
    split
    · rw [bi_ne (by decide), bi_ne (by decide), bi_ne (by decide), bi_ne (by decide)]
    split
    · rw [bi_ne (by decide), bi_ne (by decide)]
    split
    · rw [bi_ne (by decide)]
    · rw [bi_nj (by omega) (by omega) (by omega)]
  · unfold bEvPf
    split
    · rw [bi_nj (by omega) (by omega) (by omega)]
    split
    · rw [bi_nj (by omega) (by omega) (by omega)]
    split
    · rw [bi_nj (by omega) (by omega) (by omega)]
    split
    · rw [bi_nj (by omega) (by omega) (by omega), bi_ne (by decide), bi_ne (by decide), bi_ne (by decide)]
    split
    · rw [bi_ne (by decide), bi_ne (by decide)]
    split
    · rw [bi_nj (by omega) (by omega) (by omega)]
    · rw [bi_ne (by decide)]
  · unfold bEvPf
    split
    · rw [bi_ne (by decide)]
    split
    · rw [bi_ne (by decide)]
    split
    · rw [bi_ne (by decide)]
    split
    · rw [bi_ne (by decide), bi_nj (by omega) (by omega) (by omega), bi_ne (by decide), bi_ne (by decide)]
    split
    · rw [bi_ne (by decide), bi_ne (by decide)]
    split
    · rw [bi_ne (by decide)]
    · rw [bi_ne (by decide)]
end

/-! RULES' EVALUATION, 2: a statement is performed -/
section
variable {d : Nat} {σ s t : bSt} {g : Int → bSt → Prop} {fv : bSt → Prop} {f a x y k c : Int}
theorem w106 (hf : 0 ≤ f ∧ f < 6) (ha : 0 ≤ a ∧ a < 72) (hs : bStm (bi s 35 a) (bi s 36 a) (bi s 37 a) (bi s 38 a)) (hp : 0 ≤ bi s 41 f ∧ bi s 41 f ≤ 13)
    (h2 : bi s 35 a = 2 → (0 ≤ bEvN s f a ∧ bEvN s f a < 1000) ∧ 0 ≤ bEvM s f a ∧ bEvM s f a < 1000) (h3 : 0 ≤ bi s 7 12 ∧ (bi s 35 a = 3 → bi s 7 12 < 72)) (h4 : bi s 35 a = 4 → (1000 ≤ bEvN s f a ∧ bEvN s f a < 1072) ∧ 0 ≤ bi s 43 (bEvN s f a - 1000) ∧ bi s 43 (bEvN s f a - 1000) < 8)
    (h : fv (bEvPf s f a)) : bWp (d + 4) 106 [.ref 7, .int (bn f), .int (bn a)] s (bRv fv) := by
  obtain ⟨s1, s2, s3, ⟨s4, s5, s6⟩⟩ := hs
  have hm : bi s 35 a ≠ 0 → 0 ≤ bi s 37 a ∧ bi s 37 a < 8 := fun w => by
    by_cases t : bTks (bi s 35 a)
    · exact s2 t
    · have := s5 t
      rw [if_neg w] at this
      omega
  have rd : ∀ {b : Nat} {g : Int → bSt → Prop}, b ∈ [35, 36, 37, 38] → g (bi s b a) s → bWp (d + 3) 140 [.ref b, .int (bn a)] s (bRn g) := fun {b g} hb k => by
    simp only [List.mem_cons, List.not_mem_nil, or_false] at hb
    rcases hb with rfl | rfl | rfl | rfl <;> exact w140i (n := 72) rfl rfl (by decide) ha.1 (by omega) k
  have wr : ∀ {s2 : bSt} {v : Int} {fv : bSt → Prop}, bRg v → fv (bw s2 39 (f * 8 + bi s 36 a) v) → bWp (d + 3) 141 [.ref 39, .int (bn (f * 8 + bi s 36 a)), .int (bn v)] s2 (bRv fv) := fun {s2 v fv} hv k =>
    w141i (n := 48) hv rfl (by decide) rfl (by decide) (by omega) (by omega) k
  have rN : ∀ {g : Int → bSt → Prop}, g (bEvN s f a) s → bWp (d + 3) 140 [.ref 39, .int (bn (f * 8 + bi s 36 a))] s (bRn g) := fun {g} k => w140i (n := 48) rfl rfl (by decide) (by omega) (by omega) k
  unfold bEvPf at h
  refine ⟨rfl, fun A hA => sq106_0 (bWp_mono _) hA ⟨by omega, by omega⟩ ⟨by omega, by omega⟩ ⟨⟨by omega, by omega⟩, rd (by decide) ⟨⟨by omega, by omega⟩, rd (by decide) (rd (by decide) ⟨fun k0 => ?_, fun k0 => ?_⟩)⟩⟩⟩
  · rw [if_pos k0] at h
    exact wr (bi_rg _ _ _) h
  rw [if_neg k0] at h
  have hm2 := hm k0
  refine ⟨fun k1 => ?_, fun k1 => ?_⟩
  · rw [if_pos k1] at h
    exact rd (by decide) (w100 (s3 k1) hm2 (wr (bi_rg _ _ _) h))
  rw [if_neg k1] at h
  refine ⟨fun k2 => ?_, fun k2 => ?_⟩
  · rw [if_pos k2] at h
    obtain ⟨g1, g2⟩ := h2 k2
    exact rN (w100 hf hm2 ⟨by show bRg (bEvN s f a + bEvM s f a); exact ⟨by omega, by omega⟩, by show 0 ≤ bEvN s f a + bEvM s f a; omega, wr (v := (bEvN s f a + bEvM s f a) % 1000) ⟨by omega, by omega⟩ h⟩)
  rw [if_neg k2] at h
  refine ⟨fun k3 => ?_, fun k3 => ?_⟩
  · rw [if_pos k3] at h
    have hl := h3.2 k3
    exact w107 hf ⟨h3.1, hl⟩ ⟨⟨by omega, by omega⟩, wr ⟨by omega, by omega⟩ h⟩
  rw [if_neg k3] at h
  refine ⟨fun k4 => ?_, fun k4 => ?_⟩
  · rw [if_pos k4] at h
    obtain ⟨g1, g2⟩ := h4 k4
    exact rN ⟨⟨by omega, by omega⟩, w100 hf hm2 (w108 ⟨by omega, by omega⟩ (bi_rg _ _ _) g2 h)⟩
  rw [if_neg k4] at h
  refine ⟨fun k5 => ?_, fun k5 => ?_⟩
  · rw [if_pos k5] at h
    exact w100 hf hm2 (wr (bi_rg _ _ _) h)
  · rw [if_neg k5] at h
    refine w140i (n := 6) rfl rfl (by decide) hf.1 (by omega) (rN ⟨fun z => ⟨⟨by omega, by omega⟩, w141i (n := 6) ⟨by omega, by omega⟩ rfl (by decide) rfl (by decide) hf.1 (by omega) ?_⟩, fun z => ⟨⟨by omega, by omega⟩, w141i (n := 6) ⟨by omega, by omega⟩ rfl (by decide) rfl (by decide) hf.1 (by omega) ?_⟩⟩)
    · rwa [if_pos z] at h
    · rwa [if_neg z] at h
end

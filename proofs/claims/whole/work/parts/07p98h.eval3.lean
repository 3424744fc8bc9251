/-! RULES' EVALUATION, 3: one step at the file on top -/
section
variable {d : Nat} {σ s t : bSt} {g : Int → bSt → Prop} {fv : bSt → Prop} {f a x y k c : Int}
/-- what is known of a statement that doesn't fail -/
theorem bEvWh_ok (ok : bEvOk s) (hs : bStm (bi s 35 a) (bi s 36 a) (bi s 37 a) (bi s 38 a)) (hf : 0 ≤ f ∧ f < 6) (h : bEvWh s f a = -1) :
    (bi s 35 a = 1 → bi s 40 (bi s 38 a) ≠ 1 ∧ bi s 39 (bi s 38 a * 8 + bi s 37 a) ≠ -1) ∧ (bi s 35 a = 2 → (0 ≤ bEvN s f a ∧ bEvN s f a < 1000) ∧ 0 ≤ bEvM s f a ∧ bEvM s f a < 1000) ∧
    (bi s 35 a = 4 → ((1000 ≤ bEvN s f a ∧ bEvN s f a < 1000 + bi s 7 12) ∧ 0 ≤ bi s 43 (bEvN s f a - 1000) ∧ bi s 43 (bEvN s f a - 1000) < 8) ∧ (0 ≤ bEvM s f a ∧ bEvM s f a < 1000) ∧ bi s 44 (bEvN s f a - 1000) = f) ∧
    (bi s 35 a = 5 → 0 ≤ bEvM s f a) ∧ (bi s 35 a = 6 → 0 ≤ bEvN s f a ∧ bEvN s f a < 1000) := by
  obtain ⟨s1, s2, s3, ⟨s4, s5, s6⟩⟩ := hs
  obtain ⟨o1, o2, o3⟩ := ok
  have hm : bi s 35 a ≠ 0 → 0 ≤ bi s 37 a ∧ bi s 37 a < 8 := fun w => by
    by_cases t : bTks (bi s 35 a)
    · exact s2 t
    · have := s5 t
      rw [if_neg w] at this
      omega
  have eN : -1 ≤ bEvN s f a ∧ bEvN s f a < 1000 + bi s 7 12 := o1 _ (by omega) (by omega)
  have eM : bi s 35 a ≠ 0 → -1 ≤ bEvM s f a ∧ bEvM s f a < 1000 + bi s 7 12 := fun w => o1 _ (by have := hm w; omega) (by have := hm w; omega)
  unfold bEvWh at h
  refine ⟨fun k => ?_, fun k => ?_, fun k => ?_, fun k => ?_, fun k => ?_⟩
  · rw [if_pos k] at h
    by_cases b : bi s 40 (bi s 38 a) = 1
    · rw [if_pos b] at h; exact absurd h (by decide)
    · rw [if_neg b] at h
      refine ⟨b, fun c => ?_⟩
      rw [if_pos c] at h; exact absurd h (by decide)
  · rw [if_neg (by omega), if_pos k] at h
    have := eM (by omega)
    by_cases b : bEvN s f a = -1 ∨ bEvM s f a = -1
    · rw [if_pos b] at h; exact absurd h (by decide)
    · rw [if_neg b] at h
      by_cases c : bEvN s f a < 1000 ∧ bEvM s f a < 1000
      · omega
      · rw [if_neg c] at h; exact absurd h (by decide)
  · rw [if_neg (by omega), if_neg (by omega), if_pos k] at h
    have := eM (by omega)
    by_cases b : bEvN s f a = -1 ∨ bEvM s f a = -1
    · rw [if_pos b] at h; exact absurd h (by decide)
    rw [if_neg b] at h
    by_cases c : bEvN s f a < 1000 ∨ ¬ bEvM s f a < 1000
    · rw [if_pos c] at h; exact absurd h (by decide)
    rw [if_neg c] at h
    by_cases e : bi s 44 (bEvN s f a - 1000) = f
    · rw [if_pos e] at h
      by_cases e2 : bi s 43 (bEvN s f a - 1000) < 8
      · have := o3 (bEvN s f a - 1000) (by omega) (by omega)
        exact ⟨⟨⟨by omega, eN.2⟩, this.1, e2⟩, ⟨by omega, by omega⟩, e⟩
      · rw [if_neg e2] at h; exact absurd h (by decide)
    · rw [if_neg e] at h; exact absurd h (by decide)
  · rw [if_neg (by omega), if_neg (by omega), if_neg (by omega), if_pos k] at h
    have := eM (by omega)
    by_cases b : bEvM s f a = -1
    · rw [if_pos b] at h; exact absurd h (by decide)
    · omega
  · rw [if_neg (by omega), if_neg (by omega), if_neg (by omega), if_neg (by omega), if_pos k] at h
    by_cases b : bEvN s f a = -1
    · rw [if_pos b] at h; exact absurd h (by decide)
    rw [if_neg b] at h
    by_cases c : bEvN s f a < 1000
    · omega
    · rw [if_neg c] at h; exact absurd h (by decide)
/-- statements in order -/
def bEvS (s : bSt) : Prop := ∀ x, 0 ≤ x → x < 6 → (0 ≤ bi s 34 x ∧ bi s 34 x ≤ 12) ∧ ∀ i, 0 ≤ i → i < bi s 34 x → bStm (bi s 35 (x * 12 + i)) (bi s 36 (x * 12 + i)) (bi s 37 (x * 12 + i)) (bi s 38 (x * 12 + i))
theorem w103 (hf : 0 ≤ f ∧ f < 6) (hS : bEvS s) (ok : bEvOk s) (hp : 0 ≤ bi s 41 f ∧ bi s 41 f ≤ 13) (hd : 1 ≤ bi s 7 13 ∧ bi s 7 13 ≤ 6)
    (he : bi s 41 f < bi s 34 f → bi s 35 (f * 12 + bi s 41 f) = 1 → bi s 40 (bi s 38 (f * 12 + bi s 41 f)) = 0 → bi s 7 13 < 6) (hl : bi s 41 f < bi s 34 f → bi s 7 12 < 72) (h : fv (bEvGo s f)) : bWp (d + 5) 103 [.ref 7, .int (bn f)] s (bRv fv) := by
  obtain ⟨⟨z0, z1⟩, zs⟩ := hS f hf.1 hf.2
  refine ⟨rfl, fun A hA => sq103_0 (bWp_mono _) hA ⟨by omega, by omega⟩ (w140i (n := 6) rfl rfl (by decide) hf.1 (by omega) ⟨⟨by omega, by omega⟩, ⟨by omega, by omega⟩, w140i (n := 6) rfl rfl (by decide) hf.1 (by omega) ⟨fun q => ?_, fun q => ?_⟩⟩)⟩
  · unfold bEvGo at h
    rw [if_pos q] at h
    have st := zs _ hp.1 q
    have hl := hl q
    have he := he q
    generalize ha : f * 12 + bi s 41 f = a at h st he ⊢
    have a0 : 0 ≤ a ∧ a < 72 := by omega
    have rd : ∀ {b : Nat} {g : Int → bSt → Prop}, b ∈ [35, 36, 37, 38] → g (bi s b a) s → bWp (d + 4) 140 [.ref b, .int (bn a)] s (bRn g) := fun {b g} hb k => by
      simp only [List.mem_cons, List.not_mem_nil, or_false] at hb
      rcases hb with rfl | rfl | rfl | rfl <;> exact w140i (n := 72) rfl rfl (by decide) a0.1 (by omega) k
    -- it isn't a load of a fresh file
    have go : ¬ (bi s 35 a = 1 ∧ bi s 40 (bi s 38 a) = 0) → bWp (d + 4) 104 [.ref 7, .int (bn f), .int (bn a)] s (bRn fun r s1 => (r = -1 → bRg (bi s 41 f + 1) ∧ bWp (d + 4) 141 [.ref 41, .int (bn f), .int (bn (bi s 41 f + 1))] (bw s1 7 14 r) (bRv fun s2 => bWp (d + 4) 106 [.ref 7, .int (bn f), .int (bn a)] s2 (bRv fun s3 => fv s3))) ∧ (¬ r = -1 → fv (bw s1 7 14 r))) := fun nl => by
      rw [if_neg nl] at h
      refine w104 hf a0 st ok ⟨fun r => ?_, fun r => by rwa [if_neg r] at h⟩
      rw [if_pos r] at h
      rw [r]
      obtain ⟨g1, g2, g4, g5, g6⟩ := bEvWh_ok ok st hf r
      refine ⟨⟨by omega, by omega⟩, w141i (n := 6) ⟨by omega, by omega⟩ rfl (by decide) rfl (by decide) hf.1 (by omega) ?_⟩
      have ne : ∀ b, b ≠ 7 → b ≠ 41 → ∀ j, bi (bw (bw s 7 14 (-1)) 41 f (bi s 41 f + 1)) b j = bi s b j := fun b w1 w2 j => by rw [bi_ne w2, bi_ne w1]
      have e12 : bi (bw (bw s 7 14 (-1)) 41 f (bi s 41 f + 1)) 7 12 = bi s 7 12 := by rw [bi_ne (by decide), bi_nj (by decide) (by decide) (by decide)]
      have e41 : bi (bw (bw s 7 14 (-1)) 41 f (bi s 41 f + 1)) 41 f = bi s 41 f + 1 := bi_eq ⟨by omega, by omega⟩
      have eN : bEvN (bw (bw s 7 14 (-1)) 41 f (bi s 41 f + 1)) f a = bEvN s f a := by unfold bEvN; rw [ne 36 (by decide) (by decide), ne 39 (by decide) (by decide)]
      have eM : bEvM (bw (bw s 7 14 (-1)) 41 f (bi s 41 f + 1)) f a = bEvM s f a := by unfold bEvM; rw [ne 37 (by decide) (by decide), ne 39 (by decide) (by decide)]
      refine w106 hf a0 ?_ ?_ ?_ ?_ ?_ h
      · rw [ne 35 (by decide) (by decide), ne 36 (by decide) (by decide), ne 37 (by decide) (by decide), ne 38 (by decide) (by decide)]
        exact st
      · rw [e41]; omega
      · rw [eN, eM, ne 35 (by decide) (by decide)]; exact g2
      · rw [e12]; exact ⟨ok.2.1.1, fun _ => hl⟩
      · rw [eN, ne 35 (by decide) (by decide), ne 43 (by decide) (by decide)]
        exact fun w => ⟨⟨(g4 w).1.1.1, by have := (g4 w).1.1.2; omega⟩, (g4 w).1.2⟩
    refine rd (by decide) ⟨fun k1 => rd (by decide) ?_, fun k1 => go fun w => k1 w.1⟩
    have ho := st.2.2.1 k1
    refine w140i (n := 6) rfl rfl (by decide) ho.1 (by omega) ⟨fun m0 => ?_, fun m0 => go fun w => m0 w.2⟩
    rw [if_pos ⟨k1, m0⟩] at h
    exact rd (by decide) (w102 ho ⟨by omega, he k1 m0⟩ h)
  · unfold bEvGo at h
    rw [if_neg q] at h
    refine w141i (n := 6) (by decide) rfl (by decide) rfl (by decide) hf.1 (by omega) ?_
    rw [bi_ne (by decide)]
    exact ⟨⟨by omega, by omega⟩, h⟩
end

/-! RULES' EVALUATION, 15: the reference does a statement -/
section
variable {d lvl : Nat} {σ s t r : bSt} {g : Int → bSt → Prop} {fv : bSt → Prop} {A : bPt → Prop} {f a x y k n m p K M N O : Int}
theorem w218 (hf : 0 ≤ f ∧ f < 6) (hp : 0 ≤ bi r 66 f ∧ bi r 66 f < 12) (ea : a = 4 * (12 * f + bi r 66 f)) (eK : bi r 59 a = K) (eN : bi r 59 (a + 1) = N) (eM : bi r 59 (a + 2) = M) (eO : bi r 59 (a + 3) = O) (hst : bStm K N M O)
    (en : n = 8 * f + N) (em1 : K = 1 → m = 8 * O + M) (em0 : K = 0 → m = 8 * f) (em : K ≠ 0 → K ≠ 1 → m = 8 * f + M)
    (h0 : K = 1 → bi r 65 O = 0 → g O r) (hc : K = 1 → bi r 65 O = 1 → g (-1) (bw (bw (bw r 65 f 3) 67 f 5) 68 f O)) (hl : K = 1 → bi r 65 O ≠ 0 → bi r 65 O ≠ 1 → bi r 65 O ≠ 2 → g (-1) (bw (bw (bw r 65 f 3) 67 f 6) 68 f O))
    (hv : (K = 1 → bi r 65 O = 2) → (bi r 60 n = 2 → 0 ≤ bi r 61 n ∧ bi r 61 n < 72) ∧ 0 ≤ bi r 60 n ∧ bi r 60 n ≤ 2)
    (hF : (K = 1 → bi r 65 O = 2) → ∀ q, bRU K (bi r 60 n) (bi r 60 m) ∧ q = 1 ∨ ¬ bRU K (bi r 60 n) (bi r 60 m) ∧ (bRD K (bi r 60 n) (bi r 60 m) ∧ q = 2 ∨ ¬ bRD K (bi r 60 n) (bi r 60 m) ∧ (K = 4 ∧ bi r 62 (bi r 61 n) ≠ f ∧ q = 3 ∨ K = 4 ∧ bi r 62 (bi r 61 n) = f ∧ bi r 63 (bi r 61 n) = 8 ∧ q = 4)) → g (-1) (bw (bw (bw r 65 f 3) 67 f q) 68 f (-1)))
    (hP : (K = 1 → bi r 65 O = 2) → ¬ bRU K (bi r 60 n) (bi r 60 m) → ¬ bRD K (bi r 60 n) (bi r 60 m) → (K = 4 → bi r 62 (bi r 61 n) = f ∧ bi r 63 (bi r 61 n) ≠ 8) → ∀ q, (K = 6 ∧ bi r 61 n = 0 ∧ q = 2 ∨ ¬ (K = 6 ∧ bi r 61 n = 0) ∧ q = 1) →
      (K = 2 → (0 ≤ bi r 61 n ∧ bi r 61 n < 1000) ∧ 0 ≤ bi r 61 m ∧ bi r 61 m < 1000) ∧ (K = 3 → 0 ≤ bi r 12 7 ∧ bi r 12 7 < 72) ∧ (K = 4 → (0 ≤ bi r 61 n ∧ bi r 61 n < 72) ∧ 0 ≤ bi r 63 (bi r 61 n) ∧ bi r 63 (bi r 61 n) < 8) ∧
      (K = 0 → g (-1) (bw (bw (bw r 66 f (bi r 66 f + q)) 60 n 1) 61 n M)) ∧
      (K = 1 ∨ K = 5 → g (-1) (bw (bw (bw r 66 f (bi r 66 f + q)) 60 n (bi r 60 m)) 61 n (bi r 61 m))) ∧
      (K = 2 → g (-1) (bw (bw r 66 f (bi r 66 f + q)) 61 n ((bi r 61 n + bi r 61 m) % 1000))) ∧
      (K = 3 → g (-1) (bw (bw (bw (bw (bw (bw r 66 f (bi r 66 f + q)) 62 (bi r 12 7) f) 63 (bi r 12 7) 0) 60 n 2) 61 n (bi r 12 7)) 12 7 (bi r 12 7 + 1))) ∧
      (K = 4 → g (-1) (bw (bw (bw r 66 f (bi r 66 f + q)) 64 (8 * bi r 61 n + bi r 63 (bi r 61 n)) (bi r 61 m)) 63 (bi r 61 n) (bi r 63 (bi r 61 n) + 1))) ∧
      (K = 6 → g (-1) (bw r 66 f (bi r 66 f + q)))) : bWp (d + 2) 218 [.ref 12, .int (bn f)] r (bRn g) := by
  refine ⟨rfl, fun A hA => ?_⟩
  obtain ⟨s1, s2, s3, ⟨s4, s5, s6⟩⟩ := hst
  have hM : K ≠ 0 → 0 ≤ M ∧ M < 8 := fun w => by
    by_cases t : bTks K
    · exact s2 t
    · have := s5 t
      rw [if_neg w] at this
      omega
  have hn : 0 ≤ n ∧ n < 48 := by omega
  have hm : 0 ≤ m ∧ m < 48 := by
    by_cases w1 : K = 1
    · have := s3 w1; have := em1 w1; have := hM (by omega); omega
    · by_cases w0 : K = 0
      · have := em0 w0; omega
      · have := em w0 w1; have := hM w0; omega
  have hMr : bRg M := eM ▸ bi_rg _ _ _
  have hOr : bRg O := eO ▸ bi_rg _ _ _
  have c102 : ∀ (v6 v7 v8 v9 v10 : Value) (t0 : Int), (K = 1 → bi r 65 O = 2) → (t0 = 1 ∧ (K = 2 ∨ K = 4 ∨ K = 6) ∨ t0 = 0 ∧ ¬ (K = 2 ∨ K = 4 ∨ K = 6)) → A (102, [.ref 12, .int (bn f), .int (bn a), .int (bn K), .int (bn n), .int (bn m), v6, v7, v8, v9, v10], [.int (bn t0)], r) := fun v6 v7 v8 v9 v10 t0 w => by
    have hv2 := hv w
    refine n218_102 hA hf (by omega) s4 hn hm hv2.1 hv2.2 (hF w) (fun _ _ _ _ _ q u k k4 hq => ?_) v6 v7 v8 v9 v10 t0
    obtain ⟨z1, z2, z3, z4, z5, z6, z7, z8, z9⟩ := hP w u k k4 q hq
    exact n218_242 hA hf (by omega) s4 hn hm (by omega) hp z1 z2 z3 (by rw [eM]; exact z4) z5 z6 z7 z8 z9
  have c40 : ∀ (v5 v6 v7 v8 v9 v10 : Value) (t0 : Int), (K = 0 ∧ t0 = 0 ∨ K ≠ 0 ∧ t0 = M) → A (40, [.ref 12, .int (bn f), .int (bn a), .int (bn K), .int (bn n), v5, v6, v7, v8, v9, v10], [.int (bn t0), .int (bn (8 * f))], r) := by
    intro v5 v6 v7 v8 v9 v10 t0 ht
    have r0 : bRg t0 := by
      rcases ht with ⟨_, e⟩ | ⟨_, e⟩
      · rw [e]; decide
      · rw [e]; exact hMr
    have et : K ≠ 1 → 8 * f + t0 = m := fun w => by
      rcases ht with ⟨z, e⟩ | ⟨z, e⟩
      · have := em0 z; omega
      · have := em z w; omega
    have rt : bRg (8 * f + t0) := by
      rcases ht with ⟨z, e⟩ | ⟨z, e⟩
      · exact ⟨by omega, by omega⟩
      · have := hM z; exact ⟨by omega, by omega⟩
    refine sq218_40 (bWp_mono _) hA ⟨by omega, by omega⟩ ⟨by omega, by omega⟩ ⟨by omega, by omega⟩ ⟨by omega, by omega⟩ r0 ⟨by omega, by omega⟩ ⟨rt, ⟨by omega, by omega⟩, ⟨by omega, by omega⟩, fun k1 => ?_, fun k1 => ?_⟩
    · rw [eO, eM, ← em1 k1]
      have o0 := s3 k1
      have m0 := hM (by omega)
      refine ⟨o0, fun z => bRn_i hOr (h0 k1 z), fun z => ⟨fun z2 => ⟨⟨by omega, by omega⟩, ⟨by omega, by omega⟩, ⟨by omega, by omega⟩, ⟨by omega, by omega⟩, fun w => absurd w (by omega), fun _ => ⟨fun w => absurd w (by omega), fun _ => ⟨fun w => absurd w (by omega), fun _ => c102 _ _ _ _ _ 0 (fun _ => z2) (Or.inr ⟨rfl, by omega⟩)⟩⟩⟩, fun z2 => ⟨fun z1 => w216 hf (by decide) hOr (bRn_i (by decide) (hc k1 z1)), fun z1 => w216 hf (by decide) hOr (bRn_i (by decide) (hl k1 z z1 z2))⟩⟩⟩
    · rw [et k1]
      exact ⟨fun w => c102 _ _ _ _ _ 1 (fun w => absurd w k1) (by omega), fun _ => ⟨fun w => c102 _ _ _ _ _ 1 (fun w => absurd w k1) (by omega), fun _ => ⟨fun w => c102 _ _ _ _ _ 1 (fun w => absurd w k1) (by omega), fun _ => c102 _ _ _ _ _ 0 (fun w => absurd w k1) (by omega)⟩⟩⟩
  refine sq218_0 (bWp_mono _) hA ⟨by omega, by omega⟩ ?_
  rw [← ea, eK, eN, eM, ← en]
  exact ⟨⟨by omega, by omega⟩, hf, ⟨by omega, by omega⟩, ⟨by omega, by omega⟩, ⟨by omega, by omega⟩, ⟨by omega, by omega⟩, ⟨by omega, by omega⟩, ⟨by omega, by omega⟩, ⟨by omega, by omega⟩, fun w => c40 _ _ _ _ _ _ 0 (Or.inl ⟨w, rfl⟩), fun w => ⟨⟨by omega, by omega⟩, ⟨by omega, by omega⟩, c40 _ _ _ _ _ _ M (Or.inr ⟨w, rfl⟩)⟩⟩
end

/-! THE PLAN, 2: the class's error of a configured target -/
section
variable {d : Nat} {σ s : bSt} {f : Int → bSt → Prop} {fv : bSt → Prop} {fj : Int64 → bSt → Prop} {t x y z v k c i q : Int}
theorem bItm_at (hT : bTg σ) (ht : bTgk σ t) (i0 : 0 ≤ i) (i1 : i < bi σ 85 t) : (bi σ 88 (6 * t + i) = 0 ∨ bi σ 88 (6 * t + i) = 1) ∧ ((bi σ 86 (6 * t + i) = 0 ∧ 0 ≤ bi σ 87 (6 * t + i) ∧ bi σ 87 (6 * t + i) < 48 ∧ bi σ (bTi t + 38) i = bi σ 87 (6 * t + i)) ∨ (bi σ 86 (6 * t + i) = 1 ∧ 0 ≤ bi σ 87 (6 * t + i) ∧ bi σ 87 (6 * t + i) < 256 ∧ bi σ (bTi t + 38) i = 1000 + 2 * bi σ 87 (6 * t + i) + bi σ 88 (6 * t + i)) ∨ (bi σ 86 (6 * t + i) = 2 ∧ 0 ≤ bi σ 87 (6 * t + i) ∧ bi σ 87 (6 * t + i) < t ∧ bi σ (bTi t + 38) i = 100 + bi σ 87 (6 * t + i))) :=
  (hT.2.2.2 t ht.1 ht.2).2.2.2.2.2.2.2.2.2.2.2.2.2.2 i i0 i1
theorem bDir_at (hT : bTg σ) (ht : bTgk σ t) : bi σ (bTi t) 0 = bi σ 75 t ∧ 0 ≤ bi σ 75 t ∧ bi σ 75 t < 6 := (hT.2.2.2 t ht.1 ht.2).1
theorem bIc_at (hT : bTg σ) (ht : bTgk σ t) : bi σ (bTi t) 13 = bi σ 85 t ∧ 0 ≤ bi σ 85 t ∧ bi σ 85 t ≤ 6 := (hT.2.2.2 t ht.1 ht.2).2.2.2.2.2.2.2.2.2.2.2.2.1
theorem w77 (hF : bFi σ) (hT : bTg σ) (ht : bTgk σ t) (hp : bi σ 57 (bi σ 75 t) = 1) (i0 : 0 ≤ i) (i1 : i < bi σ 85 t) (hK : bi σ 86 (6 * t + i) = 1) (h : fj (bMk (bFd σ (bi σ 75 t) (bi σ 87 (6 * t + i)) (bi σ 88 (6 * t + i))) 48) σ) : bWp (d + 3) 77 [.ref 6, .ref (bTi t), .int (bn (bi σ (bTi t + 38) i))] σ (bRj fj) := by
  obtain ⟨hD, it⟩ := bItm_at hT ht i0 i1
  obtain ⟨d0, d1, d2⟩ := bDir_at hT ht
  refine ⟨rfl, fun _ hA => sq77_0 (bWp_mono _) hA bTi_m (bi_rg _ _ _) ?_⟩
  rw [d0]
  rcases it with ⟨w, _⟩ | ⟨_, w0, w1, e⟩ | ⟨w, _⟩
  · rw [hK] at w; exact absurd w (by decide)
  · rw [e]
    generalize bi σ 87 (6 * t + i) = W at *
    generalize bi σ 88 (6 * t + i) = D at *
    have e1 : 1000 + 2 * W + D - 1000 = 2 * W + D := by omega
    rw [e1, bAnd_1 (by omega) (by omega), bShr_1 (by omega) (by omega), show (2 * W + D) / 2 = W by omega]
    refine ⟨⟨by omega, by omega⟩, fun z => ?_, fun z => ?_⟩
    · have : D = 1 := by omega
      rw [this] at h
      exact w36 hF d1 d2 hp w0 w1 (by decide) h
    · have : D = 0 := by omega
      rw [this] at h
      exact w36 hF d1 d2 hp w0 w1 (by decide) h
  · rw [hK] at w; exact absurd w (by decide)
/-- what an item's error is, F those below -/
def bIf (σ : bSt) (F : Int → Int) (t c i : Int) : Int := if bi σ 86 (6 * t + i) = 0 then (if bOwn σ (bi σ 87 (6 * t + i) / 8) = bi σ 75 t then (if bi σ 56 (bi σ 87 (6 * t + i)) = -1 then 5 else 0) else 4)
  else if bi σ 86 (6 * t + i) = 2 then (if F (bi σ 87 (6 * t + i) * 256 + bBw σ t c) = 0 then 0 else 6 + (bi σ 87 (6 * t + i) * 256 + bBw σ t c) * 8) else 0
theorem bIf_rg {F : Int → Int} (hT : bTg σ) (ht : bTgk σ t) (hc : 0 ≤ c ∧ c < 256) (i0 : 0 ≤ i) (i1 : i < bi σ 85 t) : 0 ≤ bIf σ F t c i ∧ bIf σ F t c i ≤ 32774 := by
  obtain ⟨hD, it⟩ := bItm_at hT ht i0 i1
  have tc := hT.1.2.1
  have ht2 := ht.2
  unfold bIf
  rcases it with ⟨w, w0, w1, e⟩ | ⟨w, w0, w1, e⟩ | ⟨w, w0, w1, e⟩
  · rw [if_pos w]
    split
    · split <;> decide
    · decide
  · rw [if_neg (by omega), if_neg (by omega)]; decide
  · rw [if_neg (by omega), if_pos w]
    have := bBw_rg hT ht hc
    split
    · decide
    · omega
theorem w76 (hF : bFi σ) (hT : bTg σ) (ht : bTgk σ t) (hx : 0 ≤ x ∧ x < 4096) (i0 : 0 ≤ i) (i1 : i < bi σ 85 t) (h : f (bIf σ (bi σ 29) t (x % 256) i) σ) : bWp (d + 3) 76 [.ref 6, .ref (bTi t), .int (bn x), .int (bn (bi σ (bTi t + 38) i))] σ (bRn f) := by
  obtain ⟨hD, it⟩ := bItm_at hT ht i0 i1
  obtain ⟨d0, d1, d2⟩ := bDir_at hT ht
  have tc := hT.1.2.1
  have ht2 := ht.2
  have br := bBw_rg hT ht (c := x % 256) ⟨by omega, by omega⟩
  refine ⟨rfl, fun _ hA => sq76_0 (bWp_mono _) hA bTi_m ⟨by omega, by omega⟩ (bi_rg _ _ _) ?_⟩
  unfold bIf at h
  have c73 : ∀ {g : Int → bSt → Prop}, g (if bi σ 86 (6 * t + i) = 2 then bi σ 87 (6 * t + i) * 256 + bBw σ t (x % 256) else -1) σ → bWp (d + 2) 73 [.ref 6, .ref (bTi t), .int (bn x), .int (bn (bi σ (bTi t + 38) i))] σ (bRn g) := fun k => w73 hT ht hx i0 i1 k
  rcases it with ⟨w, w0, w1, e⟩ | ⟨w, w0, w1, e⟩ | ⟨w, w0, w1, e⟩
  · rw [if_pos w] at h
    rw [e]
    refine ⟨fun _ => w35 w0 w1 ?_, fun z => absurd w1 (by omega)⟩
    have e21 : bi σ 21 (bi σ 87 (6 * t + i) / 8) = bOwn σ (bi σ 87 (6 * t + i) / 8) := hF.2.2.2.2.1 _ (by omega) (by omega)
    rw [e21, d0]
    refine ⟨fun z => w31i w0 w1 ?_, fun z => bRn_i (by decide) (by rwa [if_neg z] at h)⟩
    rw [(hF.1 _ w0 w1).1]
    rw [if_pos z] at h
    exact ⟨fun q => bRn_i (by decide) (by rwa [if_pos q] at h), fun q => bRn_i (by decide) (by rwa [if_neg q] at h)⟩
  · rw [if_neg (by omega), if_neg (by omega)] at h
    refine ⟨fun z => absurd z (by omega), fun _ => c73 ?_⟩
    rw [if_neg (by omega)]
    exact ⟨fun _ => bRn_i (by decide) h, fun z => absurd rfl z⟩
  · rw [if_neg (by omega), if_pos w] at h
    refine ⟨fun z => absurd z (by omega), fun _ => c73 ?_⟩
    rw [if_pos w]
    refine ⟨fun z => absurd z (by omega), fun _ => w140i (n := 4096) rfl rfl (by decide) (by omega) (by omega) ⟨fun q => bRn_i (by decide) (by rwa [if_pos q] at h), fun q => ⟨⟨by omega, by omega⟩, ⟨by omega, by omega⟩, bRn_i ⟨by omega, by omega⟩ (by rwa [if_neg q] at h)⟩⟩⟩
theorem bFiS_s {F : Int → Int} {m : Nat} : bFiS σ F t c (m + 1) i q = if bIf σ F t c i = 0 then bFiS σ F t c m (i + 1) (q + if bi σ 86 (6 * t + i) = 0 ∨ bi σ 86 (6 * t + i) = 2 then 1 else bCnp (bFd σ (bi σ 75 t) (bi σ 87 (6 * t + i)) (bi σ 88 (6 * t + i))) 48) else bIf σ F t c i := by
  rw [show bFiS σ F t c (m + 1) i q = (if bi σ 86 (6 * t + i) = 0 then (if bOwn σ (bi σ 87 (6 * t + i) / 8) = bi σ 75 t then (if bi σ 56 (bi σ 87 (6 * t + i)) = -1 then 5 else bFiS σ F t c m (i + 1) (q + 1)) else 4) else if bi σ 86 (6 * t + i) = 2 then (if F (bi σ 87 (6 * t + i) * 256 + bBw σ t c) = 0 then bFiS σ F t c m (i + 1) (q + 1) else 6 + (bi σ 87 (6 * t + i) * 256 + bBw σ t c) * 8) else bFiS σ F t c m (i + 1) (q + bCnp (bFd σ (bi σ 75 t) (bi σ 87 (6 * t + i)) (bi σ 88 (6 * t + i))) 48)) from rfl]
  unfold bIf
  by_cases k0 : bi σ 86 (6 * t + i) = 0
  · rw [if_pos k0, if_pos k0, if_pos (Or.inl k0)]
    by_cases k1 : bOwn σ (bi σ 87 (6 * t + i) / 8) = bi σ 75 t
    · rw [if_pos k1, if_pos k1]
      by_cases k2 : bi σ 56 (bi σ 87 (6 * t + i)) = -1
      · rw [if_pos k2, if_pos k2]; rfl
      · rw [if_neg k2, if_neg k2, if_pos rfl]
    · rw [if_neg k1, if_neg k1]; rfl
  · rw [if_neg k0, if_neg k0]
    by_cases k1 : bi σ 86 (6 * t + i) = 2
    · rw [if_pos k1, if_pos k1, if_pos (Or.inr k1)]
      by_cases k2 : F (bi σ 87 (6 * t + i) * 256 + bBw σ t c) = 0
      · rw [if_pos k2, if_pos k2, if_pos rfl]
      · rw [if_neg k2, if_neg k2]
        by_cases k3 : 6 + (bi σ 87 (6 * t + i) * 256 + bBw σ t c) * 8 = 0
        · omega
        · rw [if_neg k3]
    · rw [if_neg k1, if_neg k1, if_pos rfl, if_neg (show ¬ (bi σ 86 (6 * t + i) = 0 ∨ bi σ 86 (6 * t + i) = 2) from fun w => w.elim k0 k1)]
theorem bFiS_rg {F : Int → Int} (hT : bTg σ) (ht : bTgk σ t) (hc : 0 ≤ c ∧ c < 256) : ∀ (m : Nat) (i q : Int), 0 ≤ i → i + m = bi σ 85 t → 0 ≤ bFiS σ F t c m i q ∧ bFiS σ F t c m i q ≤ 32774
  | 0, i, q, _, _ => by
    unfold bFiS
    split <;> decide
  | m + 1, i, q, i0, hi => by
    rw [bFiS_s]
    by_cases w : bIf σ F t c i = 0
    · rw [if_pos w]; exact bFiS_rg hT ht hc m (i + 1) _ (by omega) (by omega)
    · rw [if_neg w]; exact bIf_rg hT ht hc i0 (by omega)
theorem bF1_rg {F : Int → Int} (hT : bTg σ) (hx : bTgk σ (x / 256)) : 0 ≤ bF1 σ F x ∧ bF1 σ F x ≤ 32774 := by
  have ic := bIc_at hT hx
  unfold bF1
  split
  · decide
  split
  · decide
  split
  · decide
  · exact bFiS_rg hT hx ⟨by omega, by omega⟩ _ 0 0 (by decide) (by omega)
/-- the numbers that rules give are in order -/
def bR4 (σ : bSt) : Prop := ∀ t, bTgk σ t → -1 ≤ bi σ (bTi t) 4 ∧ bi σ (bTi t) 4 < 1000
theorem w74 (hF : bFi σ) (hL : bTl σ) (hT : bTg σ) (h4 : bR4 σ) (hx : 0 ≤ x) (ht : bTgk σ (x / 256)) (h : f (bF1 σ (bi σ 29) x) σ) : bWp (d + 4) 74 [.ref 6, .ref (bTi (x / 256)), .int (bn x)] σ (bRn f) := by
  have tc := hT.1.2.1
  have ht2 := ht.2
  have x4 : 0 ≤ x ∧ x < 4096 := by omega
  obtain ⟨d0, d1, d2⟩ := bDir_at hT ht
  have ic := bIc_at hT ht
  have c255 : bAnd x 255 = x % 256 := bAnd_255 hx (by omega)
  have hc : 0 ≤ x % 256 ∧ x % 256 < 256 := by omega
  have nr := bNuS_rg (c := x % 256) hT ht (h4 _ ht) (bi σ 83 (x / 256)).toNat 0 (by decide) (by have := (hT.2.2.2 _ ht.1 ht.2).2.2.2.2.2.2.2.2.2.2.2.1.2.1; omega)
  have vr := bVe_rg hL (t := x / 256) (c := x % 256)
  unfold bF1 at h
  refine ⟨rfl, fun A hA => sq74_0 (bWp_mono _) hA bTi_m ⟨by omega, by omega⟩ ?_⟩
  rw [d0]
  refine w33 d1 d2 ?_
  have pk : bPk σ (bi σ 75 (x / 256)) = 0 ↔ bi σ 57 (bi σ 75 (x / 256)) = 0 := by
    unfold bPk
    by_cases z : bi σ 75 (x / 256) = 0
    · rw [if_pos z, z, hF.2.1]
    · rw [if_neg z, hF.2.2.2.1 _ (by omega) d2]
      by_cases z2 : bi σ 57 (bi σ 75 (x / 256)) = 0
      · rw [if_pos z2]; exact ⟨fun _ => z2, fun _ => rfl⟩
      · rw [if_neg z2]; exact ⟨fun w => absurd w (by decide), fun w => absurd w z2⟩
  refine ⟨fun w => bRn_i (by decide) (by rwa [if_pos (pk.1 w)] at h), fun w => ?_⟩
  have p1 : bi σ 57 (bi σ 75 (x / 256)) = 1 := by
    rcases hF.2.2.1 _ d1 d2 with z | z
    · exact absurd (pk.2 z) w
    · exact z
  rw [if_neg (by omega)] at h
  rw [c255]
  refine w116 hT ht hc (h4 _ ht) ⟨fun w => bRn_i (by decide) (by rwa [if_pos w] at h), fun w => ?_⟩
  rw [if_neg w] at h
  refine w75 hL hT ht x4 ⟨fun w => bRn_i (by decide) (by rwa [if_pos w] at h), fun w => ?_⟩
  rw [if_neg w] at h
  generalize htt : x / 256 = t at *
  have L : ∀ (m : Nat) (i q : Int) (v5 v6 : Value), 0 ≤ i → i + m = bi σ 85 t → 0 ≤ q → q ≤ 48 * i → f (bFiS σ (bi σ 29) t (x % 256) m i q) σ → A (29, [.ref 6, .ref (bTi t), .int (bn x), .int (bn q), .int (bn i), v5, v6], [], σ) := by
    intro m
    induction m with
    | zero =>
      intro i q v5 v6 i0 hi q0 q1 hf
      unfold bFiS at hf
      exact sq74_29 (bWp_mono _) hA ⟨by omega, by omega⟩ ⟨by omega, by omega⟩ ⟨by omega, by omega⟩ ⟨bTi_m, fun w => absurd w (by rw [ic.1]; omega), fun _ => ⟨fun w => bRn_i (by decide) (by rwa [if_pos w] at hf), fun w => bRn_i (by decide) (by rwa [if_neg w] at hf)⟩⟩
    | succ m ih =>
      intro i q v5 v6 i0 hi q0 q1 hf
      rw [bFiS_s] at hf
      have hr := bIf_rg (F := bi σ 29) hT ht hc i0 (by omega)
      refine sq74_29 (bWp_mono _) hA ⟨by omega, by omega⟩ ⟨by omega, by omega⟩ ⟨by omega, by omega⟩ ⟨bTi_m, fun _ => ?_, fun w => absurd (by rw [ic.1]; omega) w⟩
      refine w112 ic.1 i0 (by omega) ic.2.2 (w76 hF hT ht x4 i0 (by omega) ⟨fun z => ?_, fun z => bRn_i ⟨by omega, by omega⟩ (by rwa [if_neg z] at hf)⟩)
      rw [if_pos z] at hf
      obtain ⟨hD, it⟩ := bItm_at hT ht i0 (show i < bi σ 85 t by omega)
      rcases it with ⟨w, w0, w1, e⟩ | ⟨w, w0, w1, e⟩ | ⟨w, w0, w1, e⟩
      · rw [if_pos (Or.inl w)] at hf
        refine ⟨fun _ => ⟨⟨by omega, by omega⟩, ⟨by omega, by omega⟩, ih (i + 1) (q + 1) _ _ (by omega) (by omega) (by omega) (by omega) hf⟩, fun w => absurd (by omega) w⟩
      · rw [if_neg (by omega)] at hf
        have cr := bCn_b (P := bFd σ (bi σ 75 t) (bi σ 87 (6 * t + i)) (bi σ 88 (6 * t + i))) 48
        refine ⟨fun w => absurd w (by omega), fun _ => w77 hF hT ht p1 i0 (by omega) w (w358 ?_)⟩
        rw [(bCn_pop 48 (by decide)).2]
        exact ⟨⟨by omega, by omega⟩, ⟨by omega, by omega⟩, ih (i + 1) _ _ _ (by omega) (by omega) (by omega) (by omega) hf⟩
      · rw [if_pos (Or.inr w)] at hf
        refine ⟨fun _ => ⟨⟨by omega, by omega⟩, ⟨by omega, by omega⟩, ih (i + 1) (q + 1) _ _ (by omega) (by omega) (by omega) (by omega) hf⟩, fun w => absurd (by omega) w⟩
  exact L (bi σ 85 t).toNat 0 0 _ _ (by decide) (by omega) (by decide) (by decide) h
end

/-! TARGETS: the methods of both sides that set them -/
section
variable {d : Nat} {σ : bSt} {f : Int → bSt → Prop} {fv : bSt → Prop} {fa : Nat → bSt → Prop} {g : Nat → bSt → Prop} {X Y : bSt → Prop} {t x y z v k : Int}
theorem rN (hk : bRg k) (h0 : k ≠ 0) (h : Y (bw σ 12 0 k)) : bWp (d + 1) 197 [.ref 12, .int (bn k)] σ (bRn fun r s => (r = 0 → X s) ∧ (¬ r = 0 → Y s)) := w197n hk h0 (bFf (by decide) h)
theorem rY (h : X (bw σ 12 0 0)) : bWp (d + 1) 197 [.ref 12, .int (bn 0)] σ (bRn fun r s => (r = 0 → X s) ∧ (¬ r = 0 → Y s)) := w197z (bTt rfl h)
theorem bTi_46 {t : Int} : 256 * (1 * (bTi t / 256) + 0) + 46 = bTi t + 38 := by unfold bTi; omega
theorem bTi_47 {t : Int} : 256 * (1 * (bTi t / 256) + 0) + 47 = bTi t + 39 := by unfold bTi; omega
theorem bTi_48 {t : Int} : 256 * (1 * (bTi t / 256) + 0) + 48 = bTi t + 40 := by unfold bTi; omega
theorem bTi_49 {t : Int} : 256 * (1 * (bTi t / 256) + 0) + 49 = bTi t + 41 := by unfold bTi; omega
theorem bTi_m {t : Int} : bTi t % 256 = 8 := by unfold bTi; omega
theorem bTi_l {t : Int} (s : bSt) : bLen s (bTi t + 38) = 6 ∧ bLen s (bTi t + 39) = 4 ∧ bLen s (bTi t + 40) = 4 ∧ bLen s (bTi t + 41) = 63 := by
  have := bTi_m (t := t)
  exact ⟨bLen_of (k := 46) (by omega) (by decide) rfl, bLen_of (k := 47) (by omega) (by decide) rfl, bLen_of (k := 48) (by omega) (by decide) rfl, bLen_of (k := 49) (by omega) (by decide) rfl⟩
theorem bTi_t {t : Int} : bTy (bTi t + 38) = 0 ∧ bTy (bTi t + 39) = 0 ∧ bTy (bTi t + 40) = 0 := by
  have := bTi_m (t := t)
  exact ⟨bTy_of (k := 46) (by omega) rfl, bTy_of (k := 47) (by omega) rfl, bTy_of (k := 48) (by omega) rfl⟩
theorem w120 {r : Nat} (hb : br σ 50 t = some r) (h0 : 0 ≤ t) (h1 : t < 16) (h : fa r σ) : bWp (d + 1) 120 [.ref 9, .int (bn t)] σ (bRa fa) :=
  ⟨rfl, fun _ hA => sq120_0 (bWp_mono _) hA ⟨by omega, by omega⟩ (bFf (by omega) (bTt h1 ⟨⟨h0, h1⟩, fun q => absurd (q.symm.trans hb) (by intro z; cases z), fun z q => by cases q.symm.trans hb; exact h⟩))⟩
theorem w110 (c0 : 0 ≤ bi σ (bTi t) 13) (c1 : bi σ (bTi t) 13 < 6) (hx : bRg x) (h : f (bi σ (bTi t) 13 + 1) (bw (bw σ (bTi t + 38) (bi σ (bTi t) 13) x) (bTi t) 13 (bi σ (bTi t) 13 + 1))) : bWp (d + 2) 110 [.ref (bTi t), .int (bn x)] σ (bRn f) := by
  refine ⟨rfl, fun A hA => sq110_0 (bWp_mono _) hA bTi_m hx ?_⟩
  rw [bTi_46]
  have e : bi (bw σ (bTi t + 38) (bi σ (bTi t) 13) x) (bTi t) 13 = bi σ (bTi t) 13 := bi_ne (by omega)
  refine w141i (n := 6) hx bTi_t.1 (by have := bTi_m (t := t); omega) (bTi_l _).1 (by decide) c0 c1 ?_
  rw [e]
  refine ⟨⟨by omega, by omega⟩, ?_⟩
  rw [bi_eq ⟨by omega, by omega⟩]
  exact bRn_i ⟨by omega, by omega⟩ h
theorem w111 (c0 : 0 < bi σ (bTi t) 13) (h : f (bi σ (bTi t) 13 - 1) (bw σ (bTi t) 13 (bi σ (bTi t) 13 - 1))) : bWp (d + 1) 111 [.ref (bTi t)] σ (bRn f) := by
  have := bi_rg σ (bTi t) 13
  refine ⟨rfl, fun A hA => sq111_0 (bWp_mono _) hA bTi_m ⟨⟨by omega, by omega⟩, ?_⟩⟩
  rw [bi_eq ⟨by omega, by omega⟩]
  exact bRn_i ⟨by omega, by omega⟩ h
theorem w113 (c0 : 0 ≤ bi σ (bTi t) 14) (c1 : bi σ (bTi t) 14 < 4) (hx : 0 ≤ x ∧ x < 4) (hy : 0 ≤ y ∧ y < 4) (hz : 0 ≤ z ∧ z < 1000) (h : f (bi σ (bTi t) 14 + 1) (bw (bw σ (bTi t + 39) (bi σ (bTi t) 14) ((x * 4 + y) * 1000 + z)) (bTi t) 14 (bi σ (bTi t) 14 + 1))) : bWp (d + 2) 113 [.ref (bTi t), .int (bn x), .int (bn y), .int (bn z)] σ (bRn f) := by
  refine ⟨rfl, fun A hA => sq113_0 (bWp_mono _) hA bTi_m ⟨by omega, by omega⟩ ⟨by omega, by omega⟩ ⟨by omega, by omega⟩ ?_⟩
  rw [bTi_47]
  have e : bi (bw σ (bTi t + 39) (bi σ (bTi t) 14) ((x * 4 + y) * 1000 + z)) (bTi t) 14 = bi σ (bTi t) 14 := bi_ne (by omega)
  refine ⟨⟨by omega, by omega⟩, ⟨by omega, by omega⟩, ⟨by omega, by omega⟩, ⟨by omega, by omega⟩, w141i (n := 4) ⟨by omega, by omega⟩ bTi_t.2.1 (by have := bTi_m (t := t); omega) (bTi_l _).2.1 (by decide) c0 c1 ?_⟩
  rw [e]
  refine ⟨⟨by omega, by omega⟩, ?_⟩
  rw [bi_eq ⟨by omega, by omega⟩]
  exact bRn_i ⟨by omega, by omega⟩ h
theorem w114 (hx : (x = -1 ∧ 0 ≤ y ∧ y ≤ 0) ∨ (0 ≤ x ∧ x < 4 ∧ 0 ≤ y ∧ y < 4)) (h : fv (bw (bw σ (bTi t) 6 (if x = -1 then 255 else bChg 255 x 0)) (bTi t) 7 (if x = -1 then 0 else bChg 0 x y))) : bWp (d + 2) 114 [.ref (bTi t), .int (bn x), .int (bn y)] σ (bRv fv) := by
  refine ⟨rfl, fun A hA => sq114_0 (bWp_mono _) hA bTi_m ⟨by omega, by omega⟩ ⟨by omega, by omega⟩ ⟨fun e => bTt e (by rwa [if_pos e, if_pos e] at h), fun e => ?_⟩⟩
  rw [if_neg e, if_neg e] at h
  exact w130 (by decide) (by decide) (by omega) (by omega) (by decide) (by decide) (bFf e (w130 (by decide) (by decide) (by omega) (by omega) (by omega) (by omega) h))
theorem w115 (hx : bRg x) (hy : bRg y) (hv : v = 0 ∨ v = 1) (h : fv (bw (bw (bw σ (bTi t) 8 x) (bTi t) 9 y) (bTi t) 10 v)) : bWp (d + 1) 115 [.ref (bTi t), .int (bn x), .int (bn y), .int (bn v)] σ (bRv fv) :=
  ⟨rfl, fun A hA => sq115_0 (bWp_mono _) hA bTi_m hx hy (b01_rg hv) ⟨hv, h⟩⟩
/-- a target's number is in range -/
def bTgk (σ : bSt) (t : Int) : Prop := 0 ≤ t ∧ t < bi σ 12 22
theorem bTk_r {σ : bSt} (h : bTg σ) : bi σ 9 0 = bi σ 12 22 ∧ bi σ 12 22 ≤ 16 ∧ 0 ≤ bi σ 12 22 := ⟨h.1.2.2, h.1.2.1, h.1.1⟩
section

theorem w157 (hT : bTg σ) (hd : 6 ≤ d) (ht : bRg t) (hx : bRg x) (hy : bRg y) (h1 : ¬ (bTgk σ t ∧ (0 ≤ x ∧ x < 6) ∧ 0 ≤ y ∧ y < 8) → g 0 (bC σ 1 6)) (h0 : bTgk σ t → 0 ≤ x ∧ x < 6 → 0 ≤ y ∧ y < 8 → fv (bw σ (bTi t) 3 (x * 8 + y))) : bWp (d + 3) 157 [.ref 11, .int (bn t), .int (bn x), .int (bn y)] σ (bRvx fv g) := by
  obtain ⟨e9, e16, e0⟩ := bTk_r hT
  refine ⟨rfl, fun A hA => sq157_0 (bWp_mono _) hA ht hx hy ?_⟩
  rw [e9]
  refine w136 ht ⟨by omega, by omega⟩ (by omega) (fun q => w136 hx (by decide) (by omega) (fun q2 => w136 hy (by decide) (by omega) (fun q3 => w120 (hT.2.1 t q.1 q.2) q.1 (by omega) ⟨⟨by omega, by omega⟩, ⟨by omega, by omega⟩, bTi_m, h0 q q2 q3⟩) (fun q3 => h1 fun w => q3 w.2.2)) (fun q2 => h1 fun w => q2 w.2.1)) (fun q => h1 fun w => q w.1)
theorem w158 (hT : bTg σ) (hd : 6 ≤ d) (ht : bRg t) (hx : bRg x) (hy : bRg y) (hz : bRg z) (h1 : ¬ (bTgk σ t ∧ 0 ≤ x ∧ x < 4) → g 0 (bC σ 1 6)) (h2 : bTgk σ t → 0 ≤ x ∧ x < 4 → ¬ ((0 ≤ y ∧ y ≤ 3) ∧ 0 ≤ z ∧ z ≤ 999) → g 1 (bC σ 1 6)) (h3 : bTgk σ t → 0 ≤ x ∧ x < 4 → (0 ≤ y ∧ y ≤ 3) ∧ 0 ≤ z ∧ z ≤ 999 → bi σ 83 t = 4 → g 2 (bC σ 1 6))
    (h0 : bTgk σ t → 0 ≤ x ∧ x < 4 → (0 ≤ y ∧ y ≤ 3) ∧ 0 ≤ z ∧ z ≤ 999 → bi σ 83 t < 4 → f (bi σ 83 t + 1) (bw (bw σ (bTi t + 39) (bi σ 83 t) ((x * 4 + y) * 1000 + z)) (bTi t) 14 (bi σ 83 t + 1))) : bWp (d + 3) 158 [.ref 11, .int (bn t), .int (bn x), .int (bn y), .int (bn z)] σ (bRnx f g) := by
  obtain ⟨e9, e16, e0⟩ := bTk_r hT
  refine ⟨rfl, fun A hA => sq158_0 (bWp_mono _) hA ht hx hy hz ?_⟩
  rw [e9]
  refine w136 ht ⟨by omega, by omega⟩ (by omega) (fun q => w136 hx (by decide) (by omega) (fun q2 => w138 hy (by decide) (by decide) (by omega) (fun q3 => w138 hz (by decide) (by decide) (by omega) (fun q4 => w120 (hT.2.1 t q.1 q.2) q.1 (by omega) ⟨bTi_m, ?_⟩) (fun q4 => h2 q q2 fun w => q4 w.2)) (fun q3 => h2 q q2 fun w => q3 w.1)) (fun q2 => h1 fun w => q2 w.2)) (fun q => h1 fun w => q w.1)
  have hc := (hT.2.2.2 t q.1 q.2).2.2.2.2.2.2.2.2.2.2.2.1
  rw [hc.1]
  refine ⟨fun e => w139 (by decide) (by omega) (fun _ => w120 (hT.2.1 t q.1 q.2) q.1 (by omega) ⟨bTi_m, w113 (by rw [hc.1]; exact hc.2.1) (by rw [hc.1]; exact e) q2 ⟨q3.1, by omega⟩ ⟨q4.1, by omega⟩ ?_⟩) (fun w => absurd w (by decide)), fun e => w139 (by decide) (by omega) (fun w => absurd rfl w) (fun _ => h3 q q2 ⟨q3, q4⟩ (by omega))⟩
  rw [hc.1]
  exact bRnx_i ⟨by omega, by omega⟩ (h0 q q2 ⟨q3, q4⟩ e)
theorem w159 (hT : bTg σ) (hd : 6 ≤ d) (ht : bRg t) (hx : bRg x) (h1 : ¬ (bTgk σ t ∧ 0 ≤ x ∧ x < 48) → g 0 (bC σ 1 6)) (h3 : bTgk σ t → 0 ≤ x ∧ x < 48 → bi σ 85 t = 6 → g 2 (bC σ 1 6))
    (h0 : bTgk σ t → 0 ≤ x ∧ x < 48 → bi σ 85 t < 6 → f (bi σ 85 t + 1) (bw (bw σ (bTi t + 38) (bi σ 85 t) x) (bTi t) 13 (bi σ 85 t + 1))) : bWp (d + 3) 159 [.ref 11, .int (bn t), .int (bn x)] σ (bRnx f g) := by
  obtain ⟨e9, e16, e0⟩ := bTk_r hT
  refine ⟨rfl, fun A hA => sq159_0 (bWp_mono _) hA ht hx ?_⟩
  rw [e9]
  refine w136 ht ⟨by omega, by omega⟩ (by omega) (fun q => w136 hx (by decide) (by omega) (fun q2 => w120 (hT.2.1 t q.1 q.2) q.1 (by omega) ⟨bTi_m, ?_⟩) (fun q2 => h1 fun w => q2 w.2)) (fun q => h1 fun w => q w.1)
  have hc := (hT.2.2.2 t q.1 q.2).2.2.2.2.2.2.2.2.2.2.2.2.1
  rw [hc.1]
  refine ⟨fun e => w139 (by decide) (by omega) (fun _ => w120 (hT.2.1 t q.1 q.2) q.1 (by omega) ⟨bTi_m, w110 (by rw [hc.1]; exact hc.2.1) (by rw [hc.1]; exact e) hx ?_⟩) (fun w => absurd w (by decide)), fun e => w139 (by decide) (by omega) (fun w => absurd rfl w) (fun _ => h3 q q2 (by omega))⟩
  rw [hc.1]
  exact bRnx_i ⟨by omega, by omega⟩ (h0 q q2 e)
theorem w160 (hT : bTg σ) (hd : 6 ≤ d) (ht : bRg t) (hx : bRg x) (hv : v = 0 ∨ v = 1) (h1 : ¬ bTgk σ t → g 0 (bC σ 1 6)) (h2 : bTgk σ t → ¬ (0 ≤ x ∧ x ≤ 255) → g 1 (bC σ 1 6)) (h3 : bTgk σ t → 0 ≤ x ∧ x ≤ 255 → bi σ 85 t = 6 → g 2 (bC σ 1 6))
    (h0 : bTgk σ t → 0 ≤ x ∧ x ≤ 255 → bi σ 85 t < 6 → f (bi σ 85 t + 1) (bw (bw σ (bTi t + 38) (bi σ 85 t) (1000 + x * 2 + v)) (bTi t) 13 (bi σ 85 t + 1))) : bWp (d + 3) 160 [.ref 11, .int (bn t), .int (bn x), .int (bn v)] σ (bRnx f g) := by
  obtain ⟨e9, e16, e0⟩ := bTk_r hT
  refine ⟨rfl, fun A hA => sq160_0 (bWp_mono _) hA ht hx (b01_rg hv) ?_⟩
  rw [e9]
  refine w136 ht ⟨by omega, by omega⟩ (by omega) (fun q => w138 hx (by decide) (by decide) (by omega) (fun q2 => w120 (hT.2.1 t q.1 q.2) q.1 (by omega) ⟨bTi_m, ?_⟩) (fun q2 => h2 q q2)) (fun q => h1 q)
  have hc := (hT.2.2.2 t q.1 q.2).2.2.2.2.2.2.2.2.2.2.2.2.1
  rw [hc.1]
  refine ⟨fun e => w139 (by decide) (by omega) (fun _ => w120 (hT.2.1 t q.1 q.2) q.1 (by omega) ⟨⟨by omega, by omega⟩, ⟨by omega, by omega⟩, fun e0 => ⟨⟨by omega, by omega⟩, bTi_m, w110 (by rw [hc.1]; exact hc.2.1) (by rw [hc.1]; exact e) ⟨by omega, by omega⟩ ?_⟩, fun e0 => ⟨⟨by omega, by omega⟩, bTi_m, w110 (by rw [hc.1]; exact hc.2.1) (by rw [hc.1]; exact e) ⟨by omega, by omega⟩ ?_⟩⟩) (fun w => absurd w (by decide)), fun e => w139 (by decide) (by omega) (fun w => absurd rfl w) (fun _ => h3 q q2 (by omega))⟩
  · rw [hc.1]
    have := h0 q q2 e
    rw [e0] at this
    exact bRnx_i ⟨by omega, by omega⟩ this
  · rw [hc.1]
    have := h0 q q2 e
    rw [show v = 1 by omega] at this
    exact bRnx_i ⟨by omega, by omega⟩ this
theorem w161 (hT : bTg σ) (hd : 6 ≤ d) (ht : bRg t) (hx : bRg x) (h1 : ¬ (bTgk σ t ∧ bTgk σ x) → g 0 (bC σ 1 6)) (h2 : bTgk σ t → bTgk σ x → ¬ x < t → g 1 (bC σ 1 6)) (h3 : bTgk σ t → bTgk σ x → x < t → bi σ 85 t = 6 → g 2 (bC σ 1 6))
    (h0 : bTgk σ t → bTgk σ x → x < t → bi σ 85 t < 6 → f (bi σ 85 t + 1) (bw (bw σ (bTi t + 38) (bi σ 85 t) (100 + x)) (bTi t) 13 (bi σ 85 t + 1))) : bWp (d + 3) 161 [.ref 11, .int (bn t), .int (bn x)] σ (bRnx f g) := by
  obtain ⟨e9, e16, e0⟩ := bTk_r hT
  refine ⟨rfl, fun A hA => sq161_0 (bWp_mono _) hA ht hx ?_⟩
  rw [e9]
  refine w136 ht ⟨by omega, by omega⟩ (by omega) (fun q => ?_) (fun q => h1 fun w => q w.1)
  rw [e9]
  refine w136 hx ⟨by omega, by omega⟩ (by omega) (fun q2 => ⟨⟨by omega, by omega⟩, w138 hx (by decide) ⟨by omega, by omega⟩ (by omega) (fun q3 => w120 (hT.2.1 t q.1 q.2) q.1 (by omega) ⟨bTi_m, ?_⟩) (fun q3 => h2 q q2 (by omega))⟩) (fun q2 => h1 fun w => q2 w.2)
  have hc := (hT.2.2.2 t q.1 q.2).2.2.2.2.2.2.2.2.2.2.2.2.1
  rw [hc.1]
  refine ⟨fun e => w139 (by decide) (by omega) (fun _ => w120 (hT.2.1 t q.1 q.2) q.1 (by omega) ⟨⟨by omega, by omega⟩, bTi_m, w110 (by rw [hc.1]; exact hc.2.1) (by rw [hc.1]; exact e) ⟨by omega, by omega⟩ ?_⟩) (fun w => absurd w (by decide)), fun e => w139 (by decide) (by omega) (fun w => absurd rfl w) (fun _ => h3 q q2 (by omega) (by omega))⟩
  rw [hc.1]
  exact bRnx_i ⟨by omega, by omega⟩ (h0 q q2 (by omega) e)
theorem w162 (hT : bTg σ) (hd : 6 ≤ d) (ht : bRg t) (h1 : ¬ bTgk σ t → g 0 (bC σ 1 6)) (h3 : bTgk σ t → bi σ 85 t = 0 → g 2 (bC σ 1 6)) (h0 : bTgk σ t → 0 < bi σ 85 t → f (bi σ 85 t - 1) (bw σ (bTi t) 13 (bi σ 85 t - 1))) : bWp (d + 2) 162 [.ref 11, .int (bn t)] σ (bRnx f g) := by
  obtain ⟨e9, e16, e0⟩ := bTk_r hT
  refine ⟨rfl, fun A hA => sq162_0 (bWp_mono _) hA ht ?_⟩
  rw [e9]
  refine w136 ht ⟨by omega, by omega⟩ (by omega) (fun q => w120 (hT.2.1 t q.1 q.2) q.1 (by omega) ⟨bTi_m, ?_⟩) (fun q => h1 q)
  have hc := (hT.2.2.2 t q.1 q.2).2.2.2.2.2.2.2.2.2.2.2.2.1
  rw [hc.1]
  refine ⟨fun e => w139 (by decide) (by omega) (fun _ => w120 (hT.2.1 t q.1 q.2) q.1 (by omega) ⟨bTi_m, w111 (by rw [hc.1]; exact e) ?_⟩) (fun w => absurd w (by decide)), fun e => w139 (by decide) (by omega) (fun w => absurd rfl w) (fun _ => h3 q (by omega))⟩
  rw [hc.1]
  exact bRnx_i ⟨by omega, by omega⟩ (h0 q e)
theorem w163 (hT : bTg σ) (hd : 6 ≤ d) (ht : bRg t) (hx : bRg x) (h1 : ¬ bTgk σ t → g 0 (bC σ 1 6)) (h2 : bTgk σ t → ¬ (-1 ≤ x ∧ x ≤ 2) → g 1 (bC σ 1 6)) (h0 : bTgk σ t → -1 ≤ x ∧ x ≤ 2 → f (bi σ 80 t) (bw σ (bTi t) 5 x)) : bWp (d + 2) 163 [.ref 11, .int (bn t), .int (bn x)] σ (bRnx f g) := by
  obtain ⟨e9, e16, e0⟩ := bTk_r hT
  refine ⟨rfl, fun A hA => sq163_0 (bWp_mono _) hA ht hx ?_⟩
  rw [e9]
  refine w136 ht ⟨by omega, by omega⟩ (by omega) (fun q => w138 hx (by decide) (by decide) (by omega) (fun q2 => w120 (hT.2.1 t q.1 q.2) q.1 (by omega) ⟨bTi_m, w120 (hT.2.1 t q.1 q.2) q.1 (by omega) ⟨bTi_m, bRnx_i (bi_rg _ _ _) ?_⟩⟩) (fun q2 => h2 q q2)) (fun q => h1 q)
  rw [(hT.2.2.2 t q.1 q.2).2.2.2.2.1.1]
  exact h0 q q2
theorem w164 (hT : bTg σ) (hd : 6 ≤ d) (ht : bRg t) (hx : bRg x) (hy : bRg y) (h1 : ¬ (bTgk σ t ∧ -1 ≤ x ∧ x ≤ 3) → g 0 (bC σ 1 6)) (h2 : bTgk σ t → -1 ≤ x ∧ x ≤ 3 → ¬ (0 ≤ y ∧ y ≤ if x = -1 then 0 else 3) → g 1 (bC σ 1 6))
    (h0 : bTgk σ t → -1 ≤ x ∧ x ≤ 3 → (0 ≤ y ∧ y ≤ if x = -1 then 0 else 3) → fv (bw (bw σ (bTi t) 6 (if x = -1 then 255 else bChg 255 x 0)) (bTi t) 7 (if x = -1 then 0 else bChg 0 x y))) : bWp (d + 3) 164 [.ref 11, .int (bn t), .int (bn x), .int (bn y)] σ (bRvx fv g) := by
  obtain ⟨e9, e16, e0⟩ := bTk_r hT
  refine ⟨rfl, fun A hA => sq164_0 (bWp_mono _) hA ht hx hy ?_⟩
  rw [e9]
  refine w136 ht ⟨by omega, by omega⟩ (by omega) (fun q => ⟨fun e => bTt e (w138 hy (by decide) (by decide) (by omega) (fun q2 => w120 (hT.2.1 t q.1 q.2) q.1 (by omega) ⟨bTi_m, w114 (Or.inl ⟨e, q2⟩) (h0 q (by omega) (by rw [if_pos e]; exact q2))⟩) (fun q2 => h2 q (by omega) (by rw [if_pos e]; exact q2))), fun e => w136 hx (by decide) (by omega) (fun q2 => bFf e (w138 hy (by decide) (by decide) (by omega) (fun q3 => w120 (hT.2.1 t q.1 q.2) q.1 (by omega) ⟨bTi_m, w114 (Or.inr ⟨q2.1, q2.2, q3.1, by omega⟩) (h0 q (by omega) (by rw [if_neg e]; exact q3))⟩) (fun q3 => h2 q (by omega) (by rw [if_neg e]; exact q3)))) (fun q2 => h1 fun w => by have := w.2; omega)⟩) (fun q => h1 fun w => q w.1)
theorem w165 (hT : bTg σ) (hd : 6 ≤ d) (ht : bRg t) (hx : bRg x) (hy : bRg y) (hv : v = 0 ∨ v = 1) (h1 : ¬ (bTgk σ t ∧ 0 ≤ x ∧ x < 3) → g 0 (bC σ 1 6)) (h2 : bTgk σ t → 0 ≤ x ∧ x < 3 → ¬ (1 ≤ y ∧ y ≤ 20) → g 1 (bC σ 1 6)) (h0 : bTgk σ t → 0 ≤ x ∧ x < 3 → 1 ≤ y ∧ y ≤ 20 → fv (bw (bw (bw σ (bTi t) 8 x) (bTi t) 9 y) (bTi t) 10 v)) : bWp (d + 2) 165 [.ref 11, .int (bn t), .int (bn x), .int (bn y), .int (bn v)] σ (bRvx fv g) := by
  obtain ⟨e9, e16, e0⟩ := bTk_r hT
  refine ⟨rfl, fun A hA => sq165_0 (bWp_mono _) hA ht hx hy (b01_rg hv) ?_⟩
  rw [e9]
  exact w136 ht ⟨by omega, by omega⟩ (by omega) (fun q => w136 hx (by decide) (by omega) (fun q2 => w138 hy (by decide) (by decide) (by omega) (fun q3 => w120 (hT.2.1 t q.1 q.2) q.1 (by omega) ⟨bTi_m, w115 hx hy hv (h0 q q2 q3)⟩) (fun q3 => h2 q q2 q3)) (fun q2 => h1 fun w => q2 w.2)) (fun q => h1 fun w => q w.1)
theorem w166 (hT : bTg σ) (hd : 6 ≤ d) (ht : bRg t) (hx : bRg x) (hy : bRg y) (h1 : ¬ bTgk σ t → g 0 (bC σ 1 6)) (h2 : bTgk σ t → ¬ ((0 ≤ x ∧ x ≤ 4) ∧ 0 ≤ y ∧ y ≤ 9) → g 1 (bC σ 1 6)) (h0 : bTgk σ t → (0 ≤ x ∧ x ≤ 4) ∧ 0 ≤ y ∧ y ≤ 9 → fv (bw (bw σ (bTi t) 11 x) (bTi t) 12 y)) : bWp (d + 2) 166 [.ref 11, .int (bn t), .int (bn x), .int (bn y)] σ (bRvx fv g) := by
  obtain ⟨e9, e16, e0⟩ := bTk_r hT
  refine ⟨rfl, fun A hA => sq166_0 (bWp_mono _) hA ht hx hy ?_⟩
  rw [e9]
  exact w136 ht ⟨by omega, by omega⟩ (by omega) (fun q => w138 hx (by decide) (by decide) (by omega) (fun q2 => w138 hy (by decide) (by decide) (by omega) (fun q3 => w120 (hT.2.1 t q.1 q.2) q.1 (by omega) ⟨bTi_m, w120 (hT.2.1 t q.1 q.2) q.1 (by omega) ⟨bTi_m, h0 q ⟨q2, q3⟩⟩⟩) (fun q3 => h2 q fun w => q3 w.2)) (fun q2 => h2 q fun w => q2 w.1)) (fun q => h1 q)
end
end

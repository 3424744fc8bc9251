/-! TESTS: class and reference keep the same -/
section
variable {σ s ρ r : bSt} {t c D N : Int}
theorem bTrs_x {cnt lk c D : Int} {A B : Int → Bool} (c0 : 0 ≤ c) (c1 : c < 1000) (h : ∀ q, 0 ≤ q → q < 4000 → A q = B q) : ∀ n : Nat, n ≤ 4 → bTrs cnt lk c A D n = bTrs cnt lk c B D n
  | 0, _ => rfl
  | n + 1, hn => by
    have ih := bTrs_x (cnt := cnt) (lk := lk) (D := D) c0 c1 h n (by omega)
    unfold bTrs
    rw [ih, h (4 * c + n) (by omega) (by omega)]
theorem bFat_x {cnt lk c D : Int} {A B : Int → Bool} (c0 : 0 ≤ c) (c1 : c < 1000) (h : ∀ q, 0 ≤ q → q < 4000 → A q = B q) (n : Nat) (hn : n ≤ 4) : bFat cnt lk c A D n = bFat cnt lk c B D n := by
  unfold bFat
  rw [bTrs_x c0 c1 h n hn]
theorem bPsd_x {cnt lk c D : Int} {A B : Int → Bool} (c0 : 0 ≤ c) (c1 : c < 1000) (h : ∀ q, 0 ≤ q → q < 4000 → A q = B q) : ∀ n : Nat, n ≤ 4 → bPsd cnt lk c A D n = bPsd cnt lk c B D n
  | 0, _ => rfl
  | n + 1, hn => by
    unfold bPsd
    rw [bPsd_x c0 c1 h n (by omega), bFat_x c0 c1 h n (by omega)]
/-- after the shards of both, what tests keep is the same -/
theorem bTst_go (t0 : 0 ≤ t) (t1 : t < N) (N16 : N ≤ 16) (c0 : 0 ≤ c) (c1 : c < 1000)
    (P1 : ∀ t, 0 ≤ t → t < N → (∀ k, 0 ≤ k → k < 4 → bi σ (bTi t + 40) k = bi σ 151 (4 * t + k)) ∧ ∀ q, 0 ≤ q → q < 4000 → bTbit σ t q = bKbit σ (4000 * t + q))
    (P2 : ∀ t, N ≤ t → t < 16 → (∀ k, 0 ≤ k → k < 4 → bi σ 151 (4 * t + k) = -1) ∧ ∀ q, 0 ≤ q → q < 4000 → bKbit σ (4000 * t + q) = false)
    (hcn : bi σ (bTi t) 11 = bi σ 92 t) (hlk : bi σ (bTi t) 12 = bi σ 93 t) (hD0 : 0 ≤ D) (hD1 : D < 2147483648) (G : bGth t c D 4 σ s)
    (r22 : bi ρ 12 22 = N) (r92 : bi ρ 92 t = bi σ 92 t) (r93 : bi ρ 93 t = bi σ 93 t) (r151 : ∀ j, bi ρ 151 j = bi σ 151 j) (r152 : ∀ j, bi ρ 152 j = bi σ 152 j)
    (c48 : ∀ t k, bi ρ (bTi t + 40) k = bi s (bTi t + 40) k) (c6 : bi ρ 11 6 = bi s 11 6) (c7 : bj ρ 11 7 = bj s 11 7) (c49 : ∀ t k, bj ρ (bTi t + 41) k = bj s (bTi t + 41) k) (G2 : bGtr t c D 4 ρ r) :
    bPsd (bi ρ 92 t) (bi ρ 93 t) c (fun q => bKbit ρ (4000 * t + q)) D 4 = bPsd (bi σ (bTi t) 11) (bi σ (bTi t) 12) c (bTbit σ t) D 4 ∧ bTst r := by
  obtain ⟨g1, g2, g3, g4, g5, g6, g7⟩ := G
  obtain ⟨h1, h2, h3, h4, h5, h6⟩ := G2
  have kb : ∀ p, bKbit ρ p = bKbit σ p := fun p => bKbit_m r152
  have ab : ∀ q, 0 ≤ q → q < 4000 → (fun q => bKbit ρ (4000 * t + q)) q = bTbit σ t q := fun q q0 q1 => by
    show bKbit ρ (4000 * t + q) = _
    rw [kb, (P1 t t0 t1).2 q q0 q1]
  rw [r92, r93, ← hcn, ← hlk] at h2 h3 h4 h6 ⊢
  rw [bTrs_x c0 c1 ab 4 (Nat.le_refl _)] at h2 h3
  have tr := bTrs_rg (cnt := bi σ (bTi t) 11) (lk := bi σ (bTi t) 12) (c := c) (B := bTbit σ t) hD0 hD1 4
  refine ⟨bPsd_x c0 c1 ab 4 (Nat.le_refl _), ?_⟩
  have e22 : bi r 12 22 = N := (h1.2.2 22 (by decide) (by decide) (by decide)).trans r22
  have ne : ∀ t' : Int, bTi t' + 40 ≠ 12 ∧ bTi t' + 40 ≠ 151 ∧ bTi t' + 40 ≠ 152 ∧ bTi t' + 40 ≠ 11 ∧ bTi t' + 41 ≠ 11 := fun t' => by have := bTi_m (t := t'); unfold bTi; omega
  have e48 : ∀ t' k, bi r (bTi t' + 40) k = bi s (bTi t' + 40) k := fun t' k => (h1.2.1 _ (ne t').1 (ne t').2.1 (ne t').2.2.1 k).trans (c48 t' k)
  have ejr : ∀ a j, bj r a j = bj ρ a j := fun a j => by unfold bj; rw [h1.1]
  have e49 : ∀ t' k, bj r (bTi t' + 41) k = bj s (bTi t' + 41) k := fun t' k => (ejr _ _).trans (c49 t' k)
  unfold bTst
  rw [e22]
  refine ⟨fun t' u0 u1 => ?_, fun t' u0 u1 => ⟨fun k k0 k1 => ?_, fun q q0 q1 => ?_⟩, ⟨?_, ?_, ?_⟩, ?_, ?_⟩
  · by_cases e : t' = t
    · rw [e]
      refine ⟨fun k k0 k1 => ?_, fun q q0 q1 => ?_⟩
      · have a := g6 k.toNat (by omega)
        have b := h4 k.toNat (by omega)
        rw [show ((k.toNat : Nat) : Int) = k by omega] at a b
        rw [e48, a, b]
        exact (bFat_x c0 c1 ab _ (by omega)).symm
      · have e2 : bTbit r t q = bTbit s t q := bTbit_m (fun j => e49 t j)
        rw [e2, g7 q q0 q1, h6 _ (by omega), kb]
        unfold bTri bKri
        rw [(P1 t t0 t1).2 q q0 q1]
        congr 1
        by_cases w : bi σ (bTi t) 12 = 0 ∧ 4 * c ≤ q ∧ q < 4 * c + ((4 : Nat) : Int) ∧ q - 4 * c < bi σ (bTi t) 11
        · rw [decide_eq_true w, decide_eq_true ⟨w.1, by omega, by omega, by omega⟩]
        · rw [decide_eq_false w, decide_eq_false (fun v => w ⟨v.1, by omega, by omega, by omega⟩)]
    · have nt : bTi t' ≠ bTi t := by unfold bTi; omega
      have n1 := ne t'
      refine ⟨fun k k0 k1 => ?_, fun q q0 q1 => ?_⟩
      · rw [e48, g2 _ n1.2.2.2.1 (by omega) k, h5 _ (by omega) (by omega), r151]
        exact (P1 t' u0 u1).1 k k0 k1
      · have e2 : bTbit r t' q = bTbit σ t' q := bTbit_m (fun j => (e49 t' j).trans (g3 _ n1.2.2.2.2 (by omega) j))
        rw [e2, h6 _ (by omega), kb, (P1 t' u0 u1).2 q q0 q1]
        unfold bKri
        rw [decide_eq_false (fun v => by omega), Bool.or_false]
  · rw [h5 _ (by omega) (by omega), r151]
    exact (P2 t' u0 u1).1 k k0 k1
  · rw [h6 _ (by omega), kb, (P2 t' u0 u1).2 q q0 q1]
    unfold bKri
    rw [decide_eq_false (fun v => by omega), Bool.or_false]
  · rw [h2, h1.2.1 11 (by decide) (by decide) (by decide), c6, g4]
  · rw [h2]; exact tr.1
  · rw [h2]; have := tr.2.1; omega
  · rw [ejr, c7, h3]
    exact bL_eq ⟨Int.le_trans (by decide) tr.2.2.1, tr.2.2.2⟩ g5
  · rw [h3]; exact tr.2.2.1
end

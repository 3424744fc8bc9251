/-! BUILD, 53: weights -/
/-- action a passes its weight on to its first inputs -/
def bmWi (a : Int) (Z : bZs) : Nat → bZs
  | 0 => Z
  | k + 1 => if Z.1 106 (40 * a + k) < 100 then bmWi a Z k else zw (bmWi a Z k) 141 (Z.1 106 (40 * a + k) - 100) (max ((bmWi a Z k).1 141 (Z.1 106 (40 * a + k) - 100)) ((bmWi a Z k).1 141 a))
def bmWa (σ : bSt) (a : Int) (Z : bZs) : bZs := if Z.1 140 a = 0 then Z else bmWi a (zw Z 141 a (Z.1 141 a + bzDu σ Z a)) (Z.1 105 a).toNat
/-- going down -/
def bmWd (σ : bSt) : Nat → bZs → bZs
  | 0, Z => Z
  | k + 1, Z => bmWd σ k (bmWa σ k Z)
/-- weights alone have changed, in the class -/
def bmWf (n : Nat) (s t : bSt) : Prop := t.2 = s.2 ∧ (∀ b, (∀ a, 0 ≤ a → a < (n : Int) → b ≠ bAi a) → ∀ j, bi t b j = bi s b j) ∧ ∀ a, 0 ≤ a → a < (n : Int) → ∀ j, 0 ≤ j → j ≠ 9 → bi t (bAi a) j = bi s (bAi a) j
/-- what is wanted: its inputs are, and it takes 1 to 20 -/
def bmWc (σ : bSt) (n : Nat) (Z : bZs) : Prop := ∀ a, 0 ≤ a → a < (n : Int) → Z.1 140 a ≠ 0 → (∀ i, 0 ≤ i → i < Z.1 105 a → 100 ≤ Z.1 106 (40 * a + i) → Z.1 140 (Z.1 106 (40 * a + i) - 100) ≠ 0) ∧ 1 ≤ bzDu σ Z a ∧ bzDu σ Z a ≤ 20
/-- weights so far, k still to come -/
def bmWb (n k : Nat) (Z : bZs) : Prop := ∀ a, 0 ≤ a → a < (n : Int) → (a < (k : Int) → 0 ≤ Z.1 141 a ∧ Z.1 141 a ≤ 20 * ((n : Int) - k)) ∧ ((k : Int) ≤ a → Z.1 140 a ≠ 0 → 1 ≤ Z.1 141 a ∧ Z.1 141 a ≤ 2400)
/-- the class has the weights; what is not wanted and still to come has none -/
def bmWr (n k : Nat) (Z : bZs) (t : bSt) : Prop := ∀ a, 0 ≤ a → a < (n : Int) → (Z.1 140 a ≠ 0 → bi t (bAi a) 9 = Z.1 141 a) ∧ (Z.1 140 a = 0 → a < (k : Int) → bi t (bAi a) 9 = 0)
section
variable {d lvl : Nat} {σ s s0 t r s' : bSt} {f : Int → bSt → Prop} {fv : bSt → Prop} {A : bPt → Prop} {Z Y : bZs} {x y v a b i q c : Int} {n n0 m k : Nat}
theorem bmWi_u : ∀ k : Nat, zU [141] Z (bmWi a Z k) ∧ (bmWi a Z k).2 = Z.2
  | 0 => ⟨zU_refl, rfl⟩
  | k + 1 => by
    obtain ⟨h1, h2⟩ := bmWi_u k
    unfold bmWi
    split
    · exact ⟨h1, h2⟩
    · exact ⟨zU_trans h1 (zU_w (by decide)), h2⟩
theorem bmWa_u : zU [141] Z (bmWa σ a Z) ∧ (bmWa σ a Z).2 = Z.2 := by
  unfold bmWa
  split
  · exact ⟨zU_refl, rfl⟩
  · have h := bmWi_u (a := a) (Z := zw Z 141 a (Z.1 141 a + bzDu σ Z a)) (Z.1 105 a).toNat
    exact ⟨zU_trans (zU_w (by decide)) h.1, h.2⟩
theorem bmWd_u {σ : bSt} : ∀ (k : Nat) (Z : bZs), zU [141] Z (bmWd σ k Z) ∧ (bmWd σ k Z).2 = Z.2
  | 0, Z => ⟨zU_refl, rfl⟩
  | k + 1, Z => by
    obtain ⟨h1, h2⟩ := bmWd_u (σ := σ) k (bmWa σ k Z)
    have g := bmWa_u (σ := σ) (a := (k : Int)) (Z := Z)
    exact ⟨zU_trans g.1 h1, h2.trans g.2⟩
theorem w49 (hn : bi s 6 13 = n) (O : bzOa n Z) (hc : bmWc σ n Z) (hA : ∀ a, 0 ≤ a → a < (n : Int) → br s 33 a = some (bAi a) ∧ bi s (bAi a) 1 = Z.1 105 a ∧ (∀ i, 0 ≤ i → i < Z.1 105 a → bi s (bAi a + 13) i = Z.1 106 (40 * a + i)) ∧ bi s (bAi a) 5 = Z.1 140 a ∧ (Z.1 140 a ≠ 0 → bi s (bAi a) 7 = bzDu σ Z a) ∧ bi s (bAi a) 9 = 0 ∧ Z.1 141 a = 0)
    (h : ∀ t, bmWf n s t → bmWr n 0 (bmWd σ n Z) t → bmWb n 0 (bmWd σ n Z) → fv t) : bWp (d + 2) 49 [.ref 5] s (bRv fv) := by
  have n120 := O.1
  refine ⟨rfl, fun A hA' => sq49_0 (bWp_mono _) hA' ?_⟩
  rw [hn]
  refine ⟨⟨by omega, by omega⟩, ?_⟩
  have lo : ∀ b, (b < 256 ∨ b % 256 ≠ 0) → ∀ a, 0 ≤ a → a < (n : Int) → b ≠ bAi a := fun b hb a _ _ e => by unfold bAi at e; omega
  have Lp : ∀ (k : Nat) (Y : bZs) (t : bSt) (v2 v3 v4 v5 : Value), k ≤ n → zU [141] Z Y → bmWf n s t → bmWr n k Y t → bmWb n k Y → (∀ t, bmWf n s t → bmWr n 0 (bmWd σ k Y) t → bmWb n 0 (bmWd σ k Y) → fv t) → A (6, [.ref 5, .int (bn ((k : Int) - 1)), v2, v3, v4, v5], [], t) := by
    intro k
    induction k with
    | zero =>
      intro Y t v2 v3 v4 v5 _ uY Ft Rt Bt K
      exact sq49_6 (bWp_mono _) hA' (by decide) ⟨fun _ => K t Ft Rt Bt, fun y => absurd (by decide) y⟩
    | succ k ih =>
      intro Y t v2 v3 v4 v5 hk uY Ft Rt Bt K
      have k1 : (k : Int) < (n : Int) := by omega
      have nx := fun Y t v2 v3 v4 v5 => ih Y t v2 v3 v4 v5 (by omega)
      have uD : bmWd σ (k + 1) Y = bmWd σ k (bmWa σ k Y) := rfl
      rw [uD] at K
      obtain ⟨h33, h1, h13, h5, h7, h9, h141⟩ := hA k (by omega) k1
      obtain ⟨F1, F2, F3⟩ := Ft
      have t33 : br t 33 k = some (bAi k) := by
        unfold br at h33 ⊢
        rw [F1]; exact h33
      have e105 : Y.1 105 k = Z.1 105 k := uY 105 (by decide) k
      have e140 : ∀ a, Y.1 140 a = Z.1 140 a := uY 140 (by decide)
      have e106 : ∀ j, Y.1 106 j = Z.1 106 j := uY 106 (by decide)
      have eDu : bzDu σ Y k = bzDu σ Z k := by unfold bzDu; rw [uY 107 (by decide)]
      have t5 : bi t (bAi k) 5 = Z.1 140 k := by rw [F3 k (by omega) k1 5 (by decide) (by decide)]; exact h5
      have t7 : bi t (bAi k) 7 = bi s (bAi k) 7 := F3 k (by omega) k1 7 (by decide) (by decide)
      have o := O.2 k (by omega) k1
      have rw9 := Rt k (by omega) k1
      have bb := (Bt k (by omega) k1).1 (by omega)
      rw [show ((k + 1 : Nat) : Int) - 1 = (k : Int) by omega]
      have rk : bRg ((k : Int) + -1) := ⟨by omega, by omega⟩
      refine sq49_6 (bWp_mono _) hA' ⟨by omega, by omega⟩ ⟨fun y => absurd y (by omega), fun _ => w89 t33 (by omega) (by omega) ⟨bAi_0, ?_⟩⟩
      rw [t7]
      have r7 := bi_rg s (bAi k) 7
      by_cases hw : Z.1 140 k = 0
      · -- not wanted
        have z9 := rw9.2 (by rw [e140]; exact hw) (by omega)
        have uA : bmWa σ k Y = Y := by unfold bmWa; rw [if_pos (by rw [e140]; exact hw)]
        rw [uA] at K
        rw [z9, Int.zero_add]
        refine ⟨r7, sq49_22 (bWp_mono _) hA' ⟨by omega, by omega⟩ (by decide) ⟨bAi_0, fun _ => ⟨rk, ?_⟩, fun y => absurd (by rw [bi_bw (by decide) (by decide) r7, if_neg (fun q => absurd q.2 (by decide))]; exact t5.trans hw) y⟩⟩
        rw [show (k : Int) + -1 = (k : Int) - 1 by omega]
        refine nx Y _ _ _ _ _ uY ⟨F1, fun b hb j => by rw [bi_ne (hb k (by omega) k1)]; exact F2 b hb j, fun a a0 a1 j j0 j9 => ?_⟩ (fun a a0 a1 => ?_) (fun a a0 a1 => ?_) K
        · rw [bi_bw (by decide) j0 r7, if_neg (fun q => j9 q.2)]; exact F3 a a0 a1 j j0 j9
        · have g := Rt a a0 a1
          by_cases e : a = k
          · rw [e]
            exact ⟨fun q => absurd (by rw [e140]; exact hw) q, fun _ q => by omega⟩
          · rw [bi_ne (by unfold bAi; omega)]
            exact ⟨g.1, fun q1 q2 => g.2 q1 (by omega)⟩
        · have g := Bt a a0 a1
          refine ⟨fun q => ?_, fun q q2 => ?_⟩
          · have := g.1 (by omega); omega
          · by_cases e : a = k
            · rw [e, e140] at q2; exact absurd hw q2
            · exact g.2 (by omega) q2
      · -- wanted
        obtain ⟨cin, cd⟩ := hc k (by omega) k1 hw
        have v9 := rw9.1 (by rw [e140]; exact hw)
        rw [v9, h7 hw]
        have rv : bRg (Y.1 141 k + bzDu σ Z k) := ⟨by omega, by omega⟩
        refine ⟨rv, ?_⟩
        have uA : bmWa σ k Y = bmWi k (zw Y 141 k (Y.1 141 k + bzDu σ Z k)) (Z.1 105 k).toNat := by
          unfold bmWa
          rw [if_neg (by rw [e140]; exact hw), eDu, e105]
        rw [uA] at K
        have u1 : zU [141] Z (zw Y 141 k (Y.1 141 k + bzDu σ Z k)) := zU_trans uY (zU_w (by decide))
        have In : ∀ (m p : Nat) (t : bSt) (v4 v5 : Value), ((p + m : Nat) : Int) = Z.1 105 k → bmWf n s t → bmWr n k (bmWi k (zw Y 141 k (Y.1 141 k + bzDu σ Z k)) p) t → bmWb n k (bmWi k (zw Y 141 k (Y.1 141 k + bzDu σ Z k)) p) → (bmWi k (zw Y 141 k (Y.1 141 k + bzDu σ Z k)) p).1 141 k = Y.1 141 k + bzDu σ Z k → A (22, [.ref 5, .int (bn k), .ref (bAi k), .int (bn p), v4, v5], [], t) := by
          intro m
          induction m with
          | zero =>
            intro p t v4 v5 hp F R B _
            have ep : (Z.1 105 k).toNat = p := by omega
            rw [ep] at K
            have tt5 : bi t (bAi k) 5 ≠ 0 := by rw [F.2.2 k (by omega) k1 5 (by decide) (by decide), h5]; exact hw
            have tt1 : bi t (bAi k) 1 = Z.1 105 k := by rw [F.2.2 k (by omega) k1 1 (by decide) (by decide)]; exact h1
            refine sq49_22 (bWp_mono _) hA' ⟨by omega, by omega⟩ ⟨by omega, by omega⟩ ⟨bAi_0, fun y => absurd y tt5, fun _ => ⟨fun y => absurd y (by rw [tt1]; omega), fun _ => ⟨rk, ?_⟩⟩⟩
            rw [show (k : Int) + -1 = (k : Int) - 1 by omega]
            exact nx _ t _ _ _ _ (zU_trans u1 (bmWi_u p).1) F R B K
          | succ m ihm =>
            intro p t v4 v5 hp F R B hk9
            have tt5 : bi t (bAi k) 5 ≠ 0 := by rw [F.2.2 k (by omega) k1 5 (by decide) (by decide), h5]; exact hw
            have tt1 : bi t (bAi k) 1 = Z.1 105 k := by rw [F.2.2 k (by omega) k1 1 (by decide) (by decide)]; exact h1
            have t13 : bi t (bAi k + 13) p = Z.1 106 (40 * k + p) := by
              rw [F.2.1 _ (lo _ (Or.inr (by unfold bAi; omega)))]; exact h13 p (by omega) (by omega)
            have oi := o.2.2 p (by omega) (by omega)
            have ci := cin p (by omega) (by omega)
            have nxp := ihm (p + 1)
            have uI : bmWi k (zw Y 141 k (Y.1 141 k + bzDu σ Z k)) (p + 1) = if Z.1 106 (40 * k + p) < 100 then bmWi k (zw Y 141 k (Y.1 141 k + bzDu σ Z k)) p else zw (bmWi k (zw Y 141 k (Y.1 141 k + bzDu σ Z k)) p) 141 (Z.1 106 (40 * k + p) - 100) (max ((bmWi k (zw Y 141 k (Y.1 141 k + bzDu σ Z k)) p).1 141 (Z.1 106 (40 * k + p) - 100)) ((bmWi k (zw Y 141 k (Y.1 141 k + bzDu σ Z k)) p).1 141 k)) := by
              rw [← u1 106 (by decide)]
              rfl
            have uW := zU_trans u1 (bmWi_u (a := (k : Int)) (Z := zw Y 141 k (Y.1 141 k + bzDu σ Z k)) p).1
            rw [uI, show ((p + 1 : Nat) : Int) = (p : Int) + 1 by omega] at nxp
            have nxp := fun t v4 v5 => nxp t v4 v5 (by omega)
            generalize bmWi k (zw Y 141 k (Y.1 141 k + bzDu σ Z k)) p = V at *
            have rp : bRg ((p : Int) + 1) := ⟨by omega, by omega⟩
            refine sq49_22 (bWp_mono _) hA' ⟨by omega, by omega⟩ ⟨by omega, by omega⟩ ⟨bAi_0, fun y => absurd y tt5, fun _ => ⟨fun _ => w5 (d := d) bAi_0 (by omega) (by rw [tt1]; omega) (by rw [tt1]; omega) (by rw [t13]; omega) ?_, fun y => absurd (by rw [tt1]; omega) y⟩⟩
            rw [t13]
            generalize Z.1 106 (40 * k + p) = w at *
            by_cases q : w < 100
            · rw [if_pos q] at nxp
              rw [if_pos q]
              exact ⟨fun _ => ⟨rp, nxp t _ _ F R B hk9⟩, fun y => absurd rfl y⟩
            · rw [if_neg q] at nxp
              rw [if_neg q]
              have w1 : 0 ≤ w - 100 ∧ w - 100 < (k : Int) := by omega
              have wa := hA (w - 100) w1.1 (by omega)
              have w33 : br t 33 (w - 100) = some (bAi (w - 100)) := by
                have := wa.1
                unfold br at this ⊢
                rw [F.1]; exact this
              have eV : ∀ a, V.1 140 a = Z.1 140 a := uW 140 (by decide)
              have wz : V.1 140 (w - 100) ≠ 0 := by rw [eV]; exact ci (by omega)
              have r1 := (R (w - 100) w1.1 (by omega)).1 wz
              have r2 := (R k (by omega) k1).1 (by rw [eV]; exact hw)
              have b1 := (B (w - 100) w1.1 (by omega)).1 w1.2
              refine ⟨fun y => absurd y (by omega), fun _ => w89 w33 w1.1 (by omega) ⟨bAi_0, w359 (bi_rg _ _ _) (bi_rg _ _ _) ⟨rp, ?_⟩⟩⟩
              rw [r1, r2]
              have rm : bRg (max (V.1 141 (w - 100)) (V.1 141 k)) := ⟨by omega, by omega⟩
              refine nxp _ _ _ ⟨F.1, fun b hb j => by rw [bi_ne (hb _ w1.1 (by omega))]; exact F.2.1 b hb j, fun a a0 a1 j j0 j9 => by rw [bi_bw (by decide) j0 rm, if_neg (fun z => j9 z.2)]; exact F.2.2 a a0 a1 j j0 j9⟩ (fun a a0 a1 => ?_) (fun a a0 a1 => ?_) (by rw [zw_i (by omega)]; exact hk9)
              · have g := R a a0 a1
                rw [zw_a (by decide)]
                by_cases e : a = w - 100
                · rw [e, bi_bw (by decide) (by decide) rm, if_pos ⟨rfl, rfl⟩, zw_e]
                  exact ⟨fun _ => rfl, fun z => absurd z wz⟩
                · rw [bi_ne (by unfold bAi; omega), zw_i e]; exact g
              · have g := B a a0 a1
                have e14 : (zw V 141 (w - 100) (max (V.1 141 (w - 100)) (V.1 141 k))).1 140 a = V.1 140 a := zw_a (by decide)
                rw [e14]
                by_cases e : a = w - 100
                · rw [e, zw_e]
                  refine ⟨fun _ => ?_, fun z => by omega⟩
                  omega
                · rw [zw_i e]; exact g
        refine In (Z.1 105 k).toNat 0 _ _ _ (by omega) ⟨F1, fun b hb j => by rw [bi_ne (hb k (by omega) k1)]; exact F2 b hb j, fun a a0 a1 j j0 j9 => by rw [bi_bw (by decide) j0 rv, if_neg (fun z => j9 z.2)]; exact F3 a a0 a1 j j0 j9⟩ (fun a a0 a1 => ?_) (fun a a0 a1 => ?_) zw_e
        · show ((zw Y 141 k (Y.1 141 k + bzDu σ Z k)).1 140 a ≠ 0 → _ = (zw Y 141 k (Y.1 141 k + bzDu σ Z k)).1 141 a) ∧ ((zw Y 141 k (Y.1 141 k + bzDu σ Z k)).1 140 a = 0 → _)
          have g := Rt a a0 a1
          rw [zw_a (by decide)]
          by_cases e : a = k
          · rw [e, bi_bw (by decide) (by decide) rv, if_pos ⟨rfl, rfl⟩, zw_e]
            exact ⟨fun _ => rfl, fun z => absurd (by rw [← e140]; exact z) hw⟩
          · rw [bi_ne (by unfold bAi; omega), zw_i e]
            exact ⟨g.1, fun q1 q2 => g.2 q1 (by omega)⟩
        · show (a < (k : Int) → 0 ≤ (zw Y 141 k (Y.1 141 k + bzDu σ Z k)).1 141 a ∧ (zw Y 141 k (Y.1 141 k + bzDu σ Z k)).1 141 a ≤ _) ∧ ((k : Int) ≤ a → (zw Y 141 k (Y.1 141 k + bzDu σ Z k)).1 140 a ≠ 0 → 1 ≤ (zw Y 141 k (Y.1 141 k + bzDu σ Z k)).1 141 a ∧ (zw Y 141 k (Y.1 141 k + bzDu σ Z k)).1 141 a ≤ 2400)
          have g := Bt a a0 a1
          have e14 : (zw Y 141 k (Y.1 141 k + bzDu σ Z k)).1 140 a = Y.1 140 a := zw_a (by decide)
          rw [e14]
          by_cases e : a = k
          · rw [e, zw_e]
            exact ⟨fun z => by omega, fun _ _ => ⟨by omega, by omega⟩⟩
          · rw [zw_i e]
            refine ⟨fun z => ?_, fun z z2 => g.2 (by omega) z2⟩
            have := g.1 (by omega)
            omega
  exact Lp n Z s _ _ _ _ (Nat.le_refl _) zU_refl ⟨rfl, fun _ _ _ => rfl, fun _ _ _ _ _ _ => rfl⟩ (fun a a0 a1 => ⟨fun _ => by rw [(hA a a0 a1).2.2.2.2.2.1, (hA a a0 a1).2.2.2.2.2.2], fun _ _ => (hA a a0 a1).2.2.2.2.2.1⟩) (fun a a0 a1 => ⟨fun _ => by rw [(hA a a0 a1).2.2.2.2.2.2]; omega, fun q => by omega⟩) h
end

/-! BUILD, 57: the reference marks what is wanted, and weighs -/
/-- what wanting changes -/
def bqWf (s t : bSt) : Prop := t.2 = s.2 ∧ bUn [140, 141] [] s t
section
variable {d lvl : Nat} {σ s s0 t r s' : bSt} {f : Int → bSt → Prop} {fv : bSt → Prop} {A : bPt → Prop} {Z Z0 Y X Zs : bZs} {x y v a b k i q n0 : Int} {V W L : List Int} {n m z0 : Nat} {rk : Int → Nat} {P : Int → Bool} {S : Int → Prop}
theorem bqWf_refl : bqWf s s := ⟨rfl, bUn_refl⟩
theorem bqWf_w {b : Nat} (h : bqWf s t) (hb : b = 140 ∨ b = 141) : bqWf s (bw t b i v) := ⟨h.1, bUn_w h.2 (by rcases hb with rfl | rfl <;> decide) (by rcases hb with rfl | rfl <;> decide)⟩
/-- a set of nodes that holds the roots, and with each node those of its items, holds all of the order -/
theorem bpI_s {more : Int → List Int → List Int} (h : ∀ y V, S y → (∀ z ∈ V, S z) → ∀ z ∈ more y V, S z) (hx : ∀ k : Nat, bi σ 86 (6 * (x / 256) + k) = 2 → (k : Int) < bi σ 85 (x / 256) → S (bNod σ x k)) : ∀ (k : Nat) (V : List Int), (k : Int) ≤ bi σ 85 (x / 256) → (∀ z ∈ V, S z) → ∀ z ∈ bpI σ more x k V, S z
  | 0, V, _, hV => hV
  | k + 1, V, hk, hV => by
    have ih := bpI_s h hx k V (by omega) hV
    show ∀ z ∈ (if bi σ 86 (6 * (x / 256) + (k : Int)) = 2 then more (bNod σ x k) (bpI σ more x k V) else bpI σ more x k V), S z
    split
    · exact h _ _ (hx k (by assumption) (by omega)) ih
    · exact ih
theorem bpO_s (hT : bTg σ) (hS : ∀ x, S x → bTgk σ (x / 256) ∧ ∀ k, 0 ≤ k → k < bi σ 85 (x / 256) → bi σ 86 (6 * (x / 256) + k) = 2 → S (bNod σ x k)) : ∀ (T : Nat) (x : Int) (V : List Int), S x → (∀ z ∈ V, S z) → ∀ z ∈ bpO σ T x V, S z
  | 0, x, V, _, hV => hV
  | T + 1, x, V, hx, hV => by
    have ic := bIc_at hT (hS x hx).1
    unfold bpO
    split
    · exact hV
    · intro z hz
      rcases List.mem_append.1 hz with q | q
      · exact bpI_s (bpO_s hT hS T) (fun k hk k1 => (hS x hx).2 k (by omega) k1 hk) _ V (by omega) hV z q
      · rw [List.mem_singleton.1 q]; exact hx
theorem bmOd_s (hT : bTg σ) (hS : ∀ x, S x → bTgk σ (x / 256) ∧ ∀ k, 0 ≤ k → k < bi σ 85 (x / 256) → bi σ 86 (6 * (x / 256) + k) = 2 → S (bNod σ x k)) (hR : ∀ t, 0 ≤ t → t < 16 → P t = true → S (t * 256 + bi σ 10 0)) : ∀ m : Nat, m ≤ 16 → ∀ z ∈ bmOd σ P m, S z
  | 0, _ => fun z hz => absurd hz List.not_mem_nil
  | m + 1, hm => by
    have ih := bmOd_s hT hS hR m (by omega)
    show ∀ z ∈ (if P m then bpO σ 16 ((m : Int) * 256 + bi σ 10 0) (bmOd σ P m) else bmOd σ P m), S z
    split
    · exact bpO_s hT hS 16 _ _ (hR m (by omega) (by omega) (by assumption)) ih
    · exact ih
/-- what is below a node is among the inputs of its action -/
theorem bmL_has (hT : bTg σ) (ht : bTgk σ (x / 256)) (k0 : 0 ≤ k) (k1 : k < bi σ 85 (x / 256)) (k2 : bi σ 86 (6 * (x / 256) + k) = 2) : ∃ i : Nat, i < (bmL σ Z x).length ∧ (bmL σ Z x).getD i 0 = 100 + Z.1 99 (bNod σ x k) := by
  have ic := bIc_at hT ht
  have go : ∀ m : Nat, k < (m : Int) → 100 + Z.1 99 (bNod σ x k) ∈ bIl σ (fun y => Z.1 99 y) x m := fun m => by
    induction m with
    | zero => intro h; omega
    | succ m ih =>
      intro h
      show _ ∈ bIl σ (fun y => Z.1 99 y) x m ++ bIi σ (fun y => Z.1 99 y) x m
      by_cases e : k = m
      · refine List.mem_append_right _ ?_
        unfold bIi
        rw [e] at k2
        rw [if_neg (by omega), if_pos k2, e]
        exact List.mem_cons_self
      · exact List.mem_append_left _ (ih (by omega))
  obtain ⟨i, hi, e⟩ := List.mem_iff_getElem.1 (go (bi σ 85 (x / 256)).toNat (by omega))
  exact ⟨i, hi, by rw [List.getD_eq_getElem?_getD]; unfold bmL; rw [List.getElem?_eq_getElem hi]; exact e⟩
/-- actions that hold those of the roots, and with each the actions among its inputs, hold those of all nodes -/
theorem bqCl {U : Int → Prop} (hT : bTg σ) (I1 : bmI1 σ V rk n Z) (Cl : bmCl σ V) (hV : V = bmOd σ P 16) (hR : ∀ t, 0 ≤ t → t < 16 → P t = true → t * 256 + bi σ 10 0 ∈ V ∧ U (Z.1 99 (t * 256 + bi σ 10 0))) (hU : ∀ a, 0 ≤ a → a < (n : Int) → U a → ∀ i, 0 ≤ i → i < Z.1 105 a → 100 ≤ Z.1 106 (40 * a + i) → U (Z.1 106 (40 * a + i) - 100)) : ∀ y ∈ V, U (Z.1 99 y) := by
  have key := bmOd_s (σ := σ) (P := P) (S := fun y => y ∈ V ∧ U (Z.1 99 y)) hT (fun x hx => ?_) (fun t t0 t1 tp => hR t t0 t1 tp) 16 (Nat.le_refl _)
  · intro y hy
    rw [hV] at hy
    exact (key y hy).2
  · obtain ⟨⟨x0, tk, hE⟩, it⟩ := Cl x hx.1
    obtain ⟨_, ⟨a0, a1⟩, _, sr⟩ := I1.1 x hx.1
    refine ⟨tk, fun k k0 k1 k2 => ⟨it k k0 k1 k2, ?_⟩⟩
    obtain ⟨i, hi, e⟩ := bmL_has (Z := Z) hT tk k0 k1 k2
    have y0 := (I1.1 _ (it k k0 k1 k2)).2.1
    have e6 := sr.2.2.2.2.2 i hi
    rw [e] at e6
    have := hU _ a0 a1 hx.2 i (by omega) (by rw [sr.2.2.2.1]; omega) (by rw [e6]; omega)
    rw [e6, show 100 + Z.1 99 (bNod σ x k) - 100 = Z.1 99 (bNod σ x k) by omega] at this
    exact this
/-- weights pass on from an action to its first inputs -/
theorem bmWi_b {k : Nat} (O : bzOa n Z) (hc : bmWc σ n Z) (uX : zU [141] Z X) (hk : k + 1 ≤ n) (hw : Z.1 140 (k : Int) ≠ 0) (B : bmWb n (k + 1) X) : ∀ p : Nat, (p : Int) ≤ Z.1 105 (k : Int) → bmWb n k (bmWi (k : Int) (zw X 141 (k : Int) (X.1 141 (k : Int) + bzDu σ Z (k : Int))) p) ∧ (bmWi (k : Int) (zw X 141 (k : Int) (X.1 141 (k : Int) + bzDu σ Z (k : Int))) p).1 141 (k : Int) = X.1 141 (k : Int) + bzDu σ Z (k : Int)
  | 0, _ => by
    have bb := (B k (by omega) (by omega)).1 (by omega)
    obtain ⟨_, cd⟩ := hc k (by omega) (by omega) hw
    refine ⟨fun a a0 a1 => ?_, zw_e⟩
    show (a < (k : Int) → 0 ≤ (zw X 141 k (X.1 141 k + bzDu σ Z k)).1 141 a ∧ (zw X 141 k (X.1 141 k + bzDu σ Z k)).1 141 a ≤ 20 * ((n : Int) - k)) ∧ ((k : Int) ≤ a → (zw X 141 k (X.1 141 k + bzDu σ Z k)).1 140 a ≠ 0 → 1 ≤ (zw X 141 k (X.1 141 k + bzDu σ Z k)).1 141 a ∧ (zw X 141 k (X.1 141 k + bzDu σ Z k)).1 141 a ≤ 2400)
    have g := B a a0 a1
    have n120 := O.1
    rw [zw_a (b := 140) (by decide)]
    by_cases e : a = k
    · rw [e, zw_e]
      exact ⟨fun q => by omega, fun _ _ => ⟨by omega, by omega⟩⟩
    · rw [zw_i e]
      exact ⟨fun q => by have := g.1 (by omega); omega, fun q q2 => g.2 (by omega) q2⟩
  | p + 1, hp => by
    obtain ⟨B1, h1⟩ := bmWi_b O hc uX hk hw B p (by omega)
    have bb := (B k (by omega) (by omega)).1 (by omega)
    have n120 := O.1
    obtain ⟨cin, cd⟩ := hc k (by omega) (by omega) hw
    have oi := (O.2 k (by omega) (by omega)).2.2 p (by omega) (by omega)
    have e6 : (zw X 141 k (X.1 141 k + bzDu σ Z k)).1 106 (40 * (k : Int) + p) = Z.1 106 (40 * (k : Int) + p) := by rw [zw_a (by decide), uX 106 (by decide)]
    unfold bmWi
    rw [e6]
    generalize bmWi (k : Int) (zw X 141 k (X.1 141 k + bzDu σ Z k)) p = U at *
    by_cases q : Z.1 106 (40 * (k : Int) + p) < 100
    · rw [if_pos q]; exact ⟨B1, h1⟩
    · rw [if_neg q]
      generalize Z.1 106 (40 * (k : Int) + p) = w at *
      have b1 := (B1 (w - 100) (by omega) (by omega)).1 (by omega)
      refine ⟨fun a a0 a1 => ?_, by rw [zw_i (by omega)]; exact h1⟩
      have g := B1 a a0 a1
      rw [zw_a (b := 140) (by decide)]
      by_cases e : a = w - 100
      · rw [e, zw_e]
        exact ⟨fun _ => by omega, fun z => by omega⟩
      · rw [zw_i e]; exact g
theorem r287 (hL : bTl s) (tc : 0 ≤ bi s 12 22 ∧ bi s 12 22 ≤ 16) (O : bzOa n Z) (e49 : bi s 12 49 = n) (eR : ∀ a, 0 ≤ a → a < (n : Int) → bi s 105 a = Z.1 105 a ∧ bi s 107 a = Z.1 107 a ∧ ∀ i, 0 ≤ i → i < Z.1 105 a → bi s 106 (40 * a + i) = Z.1 106 (40 * a + i)) (h140 : ∀ a, 0 ≤ a → a < (n : Int) → bi s 140 a = 0) (rx : bRg x)
    (hP : ∀ t, 0 ≤ t → t < 16 → (P t = true ↔ t < bi s 12 22 ∧ bAnd (bShr x t) 1 = 1 ∧ bi s 95 (256 * t + bi s 10 0) = 0)) (hM : ∀ t, 0 ≤ t → t < 16 → P t = true → (0 ≤ bi s 99 (256 * t + bi s 10 0) ∧ bi s 99 (256 * t + bi s 10 0) < (n : Int)) ∧ Z.1 140 (bi s 99 (256 * t + bi s 10 0)) ≠ 0)
    (hZ : ∀ a, 0 ≤ a → a < (n : Int) → (Z.1 140 a = 0 ∨ Z.1 140 a = 1) ∧ Z.1 141 a = 0 ∧ (Z.1 140 a ≠ 0 → 0 ≤ Z.1 107 a ∧ Z.1 107 a < 16)) (hc : bmWc σ n Z) (e90 : ∀ j, bi s 90 j = bi σ 90 j)
    (hU : ∀ T : Int → Prop, (∀ t, 0 ≤ t → t < 16 → P t = true → T (bi s 99 (256 * t + bi s 10 0))) → (∀ a, 0 ≤ a → a < (n : Int) → T a → ∀ i, 0 ≤ i → i < Z.1 105 a → 100 ≤ Z.1 106 (40 * a + i) → T (Z.1 106 (40 * a + i) - 100)) → ∀ a, 0 ≤ a → a < (n : Int) → Z.1 140 a ≠ 0 → T a)
    (h : ∀ t, bqWf s t → (∀ a, 0 ≤ a → a < (n : Int) → bi t 140 a = Z.1 140 a ∧ bi t 141 a = (bmWd σ n Z).1 141 a) → bmWb n 0 (bmWd σ n Z) → fv t) : bWp (d + 2) 287 [.ref 12, .int (bn x)] s (bRv fv) := by
  have n120 := O.1
  have hc' : 0 ≤ bi s 10 0 ∧ bi s 10 0 < 256 := by
    have e := hL.2.2.2
    have a0 := hL.2.2.1 0 (by decide) (by decide)
    have a1 := hL.2.2.1 1 (by decide) (by decide)
    have a2 := hL.2.2.1 2 (by decide) (by decide)
    have a3 := hL.2.2.1 3 (by decide) (by decide)
    omega
  refine ⟨rfl, fun A hA => sq287_0 (bWp_mono _) hA rx ?_⟩
  -- weights
  have L3 : ∀ (k : Nat) (X : bZs) (t : bSt) (v1 v3 v4 : Value), k ≤ n → zU [141] Z X → bqWf s t → (∀ a, 0 ≤ a → a < (n : Int) → bi t 140 a = Z.1 140 a ∧ bi t 141 a = X.1 141 a) → bmWb n k X → (∀ t, bqWf s t → (∀ a, 0 ≤ a → a < (n : Int) → bi t 140 a = Z.1 140 a ∧ bi t 141 a = (bmWd σ k X).1 141 a) → bmWb n 0 (bmWd σ k X) → fv t) → A (91, [.ref 12, v1, .int (bn ((k : Int) - 1)), v3, v4], [], t) := by
    intro k
    induction k with
    | zero =>
      intro X t v1 v3 v4 _ uX F E B K
      exact sq287_91 (bWp_mono _) hA (by decide) ⟨fun _ => K t F E B, fun y => absurd (by decide) y⟩
    | succ k ih =>
      intro X t v1 v3 v4 hk uX F E B K
      have k1 : (k : Int) < (n : Int) := by omega
      have uD : bmWd σ (k + 1) X = bmWd σ k (bmWa σ k X) := rfl
      rw [uD] at K
      have u := F.2
      have t105 : ∀ a, 0 ≤ a → a < (n : Int) → bi t 105 a = Z.1 105 a := fun a a0 a1 => by rw [u.1 105 (by decide) (by decide)]; exact (eR a a0 a1).1
      have t107 : ∀ a, 0 ≤ a → a < (n : Int) → bi t 107 a = Z.1 107 a := fun a a0 a1 => by rw [u.1 107 (by decide) (by decide)]; exact (eR a a0 a1).2.1
      have e140 : ∀ a, X.1 140 a = Z.1 140 a := uX 140 (by decide)
      have rk : bRg ((k : Int) + -1) := ⟨by omega, by omega⟩
      obtain ⟨x0, x1⟩ := E k (by omega) k1
      rw [show ((k + 1 : Nat) : Int) - 1 = (k : Int) by omega]
      refine sq287_91 (bWp_mono _) hA ⟨by omega, by omega⟩ ⟨fun y => absurd y (by omega), fun _ => ⟨⟨by omega, by omega⟩, ?_⟩⟩
      rw [x0, t107 k (by omega) k1, x1, u.1 90 (by decide) (by decide), e90]
      have bb := (B k (by omega) k1).1 (by omega)
      refine ⟨fun hw => ⟨rk, ?_⟩, fun hw => ?_⟩
      · have uA : bmWa σ k X = X := by unfold bmWa; rw [if_pos (by rw [e140]; exact hw)]
        rw [uA] at K
        rw [show (k : Int) + -1 = (k : Int) - 1 by omega]
        refine ih X t _ _ _ (by omega) uX F E (fun a a0 a1 => ?_) K
        have g := B a a0 a1
        refine ⟨fun q => ?_, fun q q2 => ?_⟩
        · have := g.1 (by omega); omega
        · by_cases e : a = k
          · rw [e, e140] at q2; exact absurd hw q2
          · exact g.2 (by omega) q2
      · obtain ⟨cin, cd⟩ := hc k (by omega) k1 hw
        have cd' : 1 ≤ bi σ 90 (Z.1 107 k) ∧ bi σ 90 (Z.1 107 k) ≤ 20 := cd
        have h107 := (hZ k (by omega) k1).2.2 hw
        have eDu : bzDu σ X k = bzDu σ Z k := by unfold bzDu; rw [uX 107 (by decide)]
        have uA : bmWa σ k X = bmWi k (zw X 141 k (X.1 141 k + bzDu σ Z k)) (Z.1 105 k).toNat := by
          unfold bmWa
          rw [if_neg (by rw [e140]; exact hw), eDu, uX 105 (by decide)]
        rw [uA] at K
        have u1 : zU [141] Z (zw X 141 k (X.1 141 k + bzDu σ Z k)) := zU_trans uX (zU_w (by decide))
        have WB := bmWi_b (σ := σ) O hc uX (by omega) hw B
        have o := O.2 k (by omega) k1
        have rv : bRg (X.1 141 k + bi σ 90 (Z.1 107 k)) := ⟨by omega, by omega⟩
        refine ⟨h107, rv, ⟨by omega, by omega⟩, ?_⟩
        have In : ∀ (m p : Nat) (t : bSt) (v1 v4 : Value), ((p + m : Nat) : Int) = Z.1 105 k → bqWf s t → (∀ a, 0 ≤ a → a < (n : Int) → bi t 140 a = Z.1 140 a ∧ bi t 141 a = (bmWi k (zw X 141 k (X.1 141 k + bzDu σ Z k)) p).1 141 a) → A (116, [.ref 12, v1, .int (bn k), .int (bn (40 * (k : Int) + p)), v4], [], t) := by
          intro m
          induction m with
          | zero =>
            intro p t v1 v4 hp F E
            have ep : (Z.1 105 k).toNat = p := by omega
            rw [ep] at K
            have tt : bi t 105 k = Z.1 105 k := by rw [F.2.1 105 (by decide) (by decide)]; exact (eR k (by omega) k1).1
            refine sq287_116 (bWp_mono _) hA ⟨by omega, by omega⟩ ⟨by omega, by omega⟩ ⟨⟨by omega, by omega⟩, ⟨by omega, by omega⟩, ?_⟩
            rw [tt]
            refine ⟨⟨by omega, by omega⟩, fun y => absurd y (by omega), fun _ => ⟨rk, ?_⟩⟩
            rw [show (k : Int) + -1 = (k : Int) - 1 by omega]
            exact ih _ t _ _ _ (by omega) (zU_trans u1 (bmWi_u p).1) F E (WB p (by omega)).1 K
          | succ m ihm =>
            intro p t v1 v4 hp F E
            have tt : bi t 105 k = Z.1 105 k := by rw [F.2.1 105 (by decide) (by decide)]; exact (eR k (by omega) k1).1
            have t6 : bi t 106 (40 * (k : Int) + p) = Z.1 106 (40 * (k : Int) + p) := by rw [F.2.1 106 (by decide) (by decide)]; exact (eR k (by omega) k1).2.2 p (by omega) (by omega)
            have oi := o.2.2 p (by omega) (by omega)
            have nxp := ihm (p + 1)
            have uI : bmWi k (zw X 141 k (X.1 141 k + bzDu σ Z k)) (p + 1) = if Z.1 106 (40 * (k : Int) + p) < 100 then bmWi k (zw X 141 k (X.1 141 k + bzDu σ Z k)) p else zw (bmWi k (zw X 141 k (X.1 141 k + bzDu σ Z k)) p) 141 (Z.1 106 (40 * (k : Int) + p) - 100) (max ((bmWi k (zw X 141 k (X.1 141 k + bzDu σ Z k)) p).1 141 (Z.1 106 (40 * (k : Int) + p) - 100)) ((bmWi k (zw X 141 k (X.1 141 k + bzDu σ Z k)) p).1 141 k)) := by
              rw [← u1 106 (by decide)]
              rfl
            have wb := WB p (by omega)
            rw [uI, show 40 * (k : Int) + ((p + 1 : Nat) : Int) = 40 * (k : Int) + p + 1 by omega] at nxp
            have nxp := fun t v1 v4 => nxp t v1 v4 (by omega)
            generalize bmWi k (zw X 141 k (X.1 141 k + bzDu σ Z k)) p = U at *
            have rp : bRg (40 * (k : Int) + p + 1) := ⟨by omega, by omega⟩
            refine sq287_116 (bWp_mono _) hA ⟨by omega, by omega⟩ ⟨by omega, by omega⟩ ⟨⟨by omega, by omega⟩, ⟨by omega, by omega⟩, ?_⟩
            rw [tt, t6]
            refine ⟨⟨by omega, by omega⟩, fun _ => ⟨⟨by omega, by omega⟩, ?_⟩, fun y => absurd (by omega) y⟩
            generalize Z.1 106 (40 * (k : Int) + p) = w at *
            by_cases q : w < 100
            · rw [if_pos q] at nxp
              exact ⟨fun _ => ⟨rp, nxp t _ _ F E⟩, fun y => absurd q y⟩
            · rw [if_neg q] at nxp
              obtain ⟨i0, i1⟩ := E (w - 100) (by omega) (by omega)
              obtain ⟨j0, j1⟩ := E k (by omega) k1
              have b1 := (wb.1 (w - 100) (by omega) (by omega)).1 (by omega)
              rw [i1, j1]
              have go : ∀ v v1 v4, v = max (U.1 141 (w - 100)) (U.1 141 k) → bRg (40 * (k : Int) + p + 1) ∧ A (116, [.ref 12, v1, .int (bn k), .int (bn (40 * (k : Int) + p + 1)), v4], [], bw t 141 (w - 100) v) := fun v v1 v4 hv => by
                have rm : bRg v := ⟨by omega, by omega⟩
                refine ⟨rp, nxp _ _ _ (bqWf_w F (Or.inr rfl)) fun a a0 a1 => ⟨by rw [bi_ne (by decide)]; exact (E a a0 a1).1, ?_⟩⟩
                rw [bi_bw (by omega) a0 rm]
                simp only [true_and]
                by_cases e : a = w - 100
                · rw [if_pos e, e, zw_e, hv]
                · rw [if_neg e, zw_i e]; exact (E a a0 a1).2
              exact ⟨fun y => absurd y q, fun _ => ⟨⟨by omega, by omega⟩, ⟨by omega, by omega⟩, fun y => go _ _ _ (by omega), fun y => go _ _ _ (by omega)⟩⟩
        have := In (Z.1 105 k).toNat 0 _ v1 v4 (by omega) (bqWf_w F (Or.inr rfl) (v := X.1 141 k + bi σ 90 (Z.1 107 k)) (i := k)) (fun a a0 a1 => ⟨by rw [bi_ne (by decide)]; exact (E a a0 a1).1, by
          rw [bi_bw (by omega) a0 rv]
          simp only [true_and]
          show _ = (zw X 141 k (X.1 141 k + bzDu σ Z k)).1 141 a
          by_cases e : a = k
          · rw [if_pos e, e, zw_e]; rfl
          · rw [if_neg e, zw_i e]; exact (E a a0 a1).2⟩)
        rw [show 40 * (k : Int) + ((0 : Nat) : Int) = 40 * (k : Int) by omega] at this
        exact this
  -- what is below is wanted
  have L2 : ∀ (k : Nat) (t : bSt) (v1 v3 v4 : Value), k ≤ n → bqWf s t → (∀ a, 0 ≤ a → a < (n : Int) → (bi t 140 a = 0 ∨ bi t 140 a = 1) ∧ (bi t 140 a ≠ 0 → Z.1 140 a ≠ 0) ∧ ((k : Int) ≤ a → bi t 141 a = 0 ∧ (bi t 140 a ≠ 0 → ∀ i, 0 ≤ i → i < Z.1 105 a → 100 ≤ Z.1 106 (40 * a + i) → bi t 140 (Z.1 106 (40 * a + i) - 100) ≠ 0))) → (∀ t', 0 ≤ t' → t' < 16 → P t' = true → bi t 140 (bi s 99 (256 * t' + bi s 10 0)) ≠ 0) → A (40, [.ref 12, v1, .int (bn ((k : Int) - 1)), v3, v4], [], t) := by
    intro k
    induction k with
    | zero =>
      intro t v1 v3 v4 _ F D Rt
      have e49' : bi t 12 49 = n := by rw [F.2.2.1 49 (by decide) (by decide)]; exact e49
      refine sq287_40 (bWp_mono _) hA (by decide) ⟨fun _ => ?_, fun y => absurd (by decide) y⟩
      rw [e49']
      refine ⟨⟨by omega, by omega⟩, L3 n Z t _ _ _ (Nat.le_refl _) zU_refl F (fun a a0 a1 => ?_) (fun a a0 a1 => ⟨fun _ => by rw [(hZ a a0 a1).2.1]; omega, fun q => by omega⟩) h⟩
      obtain ⟨d1, d2, d3⟩ := D a a0 a1
      have key := hU (fun a => bi t 140 a ≠ 0) (fun t' t0 t1 tp => Rt t' t0 t1 tp) (fun a a0 a1 ha i i0 i1 i2 => ((D a a0 a1).2.2 (by omega)).2 ha i i0 i1 i2) a a0 a1
      have z1 := (hZ a a0 a1).1
      refine ⟨?_, by rw [(d3 (by omega)).1, (hZ a a0 a1).2.1]⟩
      by_cases e : Z.1 140 a = 0
      · have : bi t 140 a = 0 := Classical.byContradiction fun q => d2 q e
        rw [this, e]
      · have := key e
        omega
    | succ k ih =>
      intro t v1 v3 v4 hk F D Rt
      have k1 : (k : Int) < (n : Int) := by omega
      have rk : bRg ((k : Int) + -1) := ⟨by omega, by omega⟩
      have o := O.2 k (by omega) k1
      rw [show ((k + 1 : Nat) : Int) - 1 = (k : Int) by omega]
      refine sq287_40 (bWp_mono _) hA ⟨by omega, by omega⟩ ⟨fun y => absurd y (by omega), fun _ => ⟨⟨by omega, by omega⟩, ⟨by omega, by omega⟩, ?_⟩⟩
      have In : ∀ (m p : Nat) (t : bSt) (v1 v4 : Value), ((p + m : Nat) : Int) = Z.1 105 k → bqWf s t → (∀ a, 0 ≤ a → a < (n : Int) → (bi t 140 a = 0 ∨ bi t 140 a = 1) ∧ (bi t 140 a ≠ 0 → Z.1 140 a ≠ 0) ∧ ((k : Int) ≤ a → bi t 141 a = 0) ∧ ((k : Int) < a → bi t 140 a ≠ 0 → ∀ i, 0 ≤ i → i < Z.1 105 a → 100 ≤ Z.1 106 (40 * a + i) → bi t 140 (Z.1 106 (40 * a + i) - 100) ≠ 0)) → (bi t 140 k ≠ 0 → ∀ i, 0 ≤ i → i < (p : Int) → 100 ≤ Z.1 106 (40 * (k : Int) + i) → bi t 140 (Z.1 106 (40 * (k : Int) + i) - 100) ≠ 0) → (∀ t', 0 ≤ t' → t' < 16 → P t' = true → bi t 140 (bi s 99 (256 * t' + bi s 10 0)) ≠ 0) → A (51, [.ref 12, v1, .int (bn k), .int (bn (40 * (k : Int) + p)), v4], [], t) := by
        intro m
        induction m with
        | zero =>
          intro p t v1 v4 hp F D Dk Rt
          have tt : bi t 105 k = Z.1 105 k := by rw [F.2.1 105 (by decide) (by decide)]; exact (eR k (by omega) k1).1
          refine sq287_51 (bWp_mono _) hA ⟨by omega, by omega⟩ ⟨by omega, by omega⟩ ⟨⟨by omega, by omega⟩, ⟨by omega, by omega⟩, ?_⟩
          rw [tt]
          refine ⟨⟨by omega, by omega⟩, fun y => absurd y (by omega), fun _ => ⟨rk, ?_⟩⟩
          rw [show (k : Int) + -1 = (k : Int) - 1 by omega]
          refine ih t _ _ _ (by omega) F (fun a a0 a1 => ⟨(D a a0 a1).1, (D a a0 a1).2.1, fun q => ⟨(D a a0 a1).2.2.1 q, fun q2 i i0 i1 => ?_⟩⟩) Rt
          by_cases e : a = k
          · rw [e] at q2 i1 ⊢
            exact Dk q2 i i0 (by omega)
          · exact (D a a0 a1).2.2.2 (by omega) q2 i i0 i1
        | succ m ihm =>
          intro p t v1 v4 hp F D Dk Rt
          have tt : bi t 105 k = Z.1 105 k := by rw [F.2.1 105 (by decide) (by decide)]; exact (eR k (by omega) k1).1
          have t6 : bi t 106 (40 * (k : Int) + p) = Z.1 106 (40 * (k : Int) + p) := by rw [F.2.1 106 (by decide) (by decide)]; exact (eR k (by omega) k1).2.2 p (by omega) (by omega)
          have oi := o.2.2 p (by omega) (by omega)
          have nxp := ihm (p + 1)
          rw [show 40 * (k : Int) + ((p + 1 : Nat) : Int) = 40 * (k : Int) + p + 1 by omega, show ((p + 1 : Nat) : Int) = (p : Int) + 1 by omega] at nxp
          have rp : bRg (40 * (k : Int) + p + 1) := ⟨by omega, by omega⟩
          refine sq287_51 (bWp_mono _) hA ⟨by omega, by omega⟩ ⟨by omega, by omega⟩ ⟨⟨by omega, by omega⟩, ⟨by omega, by omega⟩, ?_⟩
          rw [tt, t6]
          refine ⟨⟨by omega, by omega⟩, fun _ => ⟨fun hw => ⟨rk, ?_⟩, fun hw => ⟨⟨by omega, by omega⟩, fun q => ⟨rp, ?_⟩, fun q => ⟨⟨by omega, by omega⟩, ⟨by omega, by omega⟩, rp, ?_⟩⟩⟩, fun y => absurd (by omega) y⟩
          · rw [show (k : Int) + -1 = (k : Int) - 1 by omega]
            refine ih t _ _ _ (by omega) F (fun a a0 a1 => ⟨(D a a0 a1).1, (D a a0 a1).2.1, fun q => ⟨(D a a0 a1).2.2.1 q, fun q2 i i0 i1 => ?_⟩⟩) Rt
            by_cases e : a = k
            · rw [e] at q2; exact absurd hw q2
            · exact (D a a0 a1).2.2.2 (by omega) q2 i i0 i1
          · refine nxp t _ _ (by omega) F D (fun q2 i i0 i1 i2 => ?_) Rt
            by_cases e : i = p
            · rw [e] at i2; omega
            · exact Dk q2 i i0 (by omega) i2
          · have zk := (D k (by omega) k1).2.1 hw
            have zin := (hc k (by omega) k1 zk).1 p (by omega) (by omega) (by omega)
            have up : ∀ a, 0 ≤ a → bi (bw t 140 (Z.1 106 (40 * (k : Int) + p) - 100) 1) 140 a = if a = Z.1 106 (40 * (k : Int) + p) - 100 then 1 else bi t 140 a := fun a a0 => by
              rw [bi_bw (by omega) a0 (by decide)]; simp only [true_and]
            have mono : ∀ a, 0 ≤ a → bi t 140 a ≠ 0 → bi (bw t 140 (Z.1 106 (40 * (k : Int) + p) - 100) 1) 140 a ≠ 0 := fun a a0 ha => by
              rw [up a a0]
              split
              · decide
              · exact ha
            refine nxp _ _ _ (by omega) (bqWf_w F (Or.inl rfl)) (fun a a0 a1 => ⟨?_, fun q2 => ?_, fun q2 => by rw [bi_ne (by decide)]; exact (D a a0 a1).2.2.1 q2, fun q2 q3 i i0 i1 i2 => ?_⟩) (fun q2 i i0 i1 i2 => ?_) (fun t' t0 t1 tp => mono _ (hM t' t0 t1 tp).1.1 (Rt t' t0 t1 tp))
            · rw [up a a0]
              split
              · exact Or.inr rfl
              · exact (D a a0 a1).1
            · rw [up a a0] at q2
              by_cases e : a = Z.1 106 (40 * (k : Int) + p) - 100
              · rw [e]; exact zin
              · rw [if_neg e] at q2; exact (D a a0 a1).2.1 q2
            · have oa := (O.2 a a0 a1).2.2 i i0 i1
              rw [up a a0, if_neg (by omega)] at q3
              exact mono _ (by omega) ((D a a0 a1).2.2.2 q2 q3 i i0 i1 i2)
            · have oi2 := o.2.2 i i0 (by omega)
              by_cases e : i = p
              · rw [e, up _ (by omega), if_pos rfl]; decide
              · refine mono _ (by omega) (Dk hw i i0 (by omega) i2)
      have := In (Z.1 105 k).toNat 0 (bw t 141 k 0) v1 v4 (by omega) (bqWf_w F (Or.inr rfl)) (fun a a0 a1 => ⟨by rw [bi_ne (by decide)]; exact (D a a0 a1).1, fun q => by rw [bi_ne (by decide)] at q; exact (D a a0 a1).2.1 q, fun q => ?_, fun q q2 i i0 i1 i2 => ?_⟩) (fun _ i i0 i1 => by omega) (fun t' t0 t1 tp => by rw [bi_ne (by decide)]; exact Rt t' t0 t1 tp)
      · rw [show 40 * (k : Int) + ((0 : Nat) : Int) = 40 * (k : Int) by omega] at this
        exact this
      · by_cases e : a = k
        · rw [e]; exact bi_eq (by decide)
        · rw [bi_nj (by omega) a0 e]; exact ((D a a0 a1).2.2 (by omega)).1
      · rw [bi_ne (by decide)] at q2 ⊢
        exact ((D a a0 a1).2.2 (by omega)).2 q2 i i0 i1 i2
  -- the roots are wanted
  have L1 : ∀ (k l : Nat) (t : bSt) (v3 v4 : Value), (l : Int) + k = bi s 12 22 → bqWf s t → (∀ a, 0 ≤ a → a < (n : Int) → (bi t 140 a = 0 ∨ bi t 140 a = 1) ∧ (bi t 140 a ≠ 0 → Z.1 140 a ≠ 0)) → (∀ t', 0 ≤ t' → t' < (l : Int) → P t' = true → bi t 140 (bi s 99 (256 * t' + bi s 10 0)) ≠ 0) → A (2, [.ref 12, .int (bn x), .int (bn l), v3, v4], [], t) := by
    intro k
    induction k with
    | zero =>
      intro l t v3 v4 hl F D Rt
      have u := F.2
      have e49' : bi t 12 49 = n := by rw [u.2.1 49 (by decide) (by decide)]; exact e49
      refine sq287_2 (bWp_mono _) hA rx ⟨by omega, by omega⟩ ⟨fun y => absurd y (by rw [u.2.1 22 (by decide) (by decide)]; omega), fun _ => ?_⟩
      rw [e49']
      exact ⟨⟨by omega, by omega⟩, L2 n t _ _ _ (Nat.le_refl _) F (fun a a0 a1 => ⟨(D a a0 a1).1, (D a a0 a1).2, fun q => by omega⟩) fun t' t0 t1 tp => Rt t' t0 (by have := ((hP t' t0 t1).1 tp).1; omega) tp⟩
    | succ k ih =>
      intro l t v3 v4 hl F D Rt
      have u := F.2
      have l16 : (l : Int) < 16 := by omega
      have e22 : bi t 12 22 = bi s 12 22 := u.2.1 22 (by decide) (by decide)
      have e10 : bi t 10 0 = bi s 10 0 := u.1 10 (by decide) (by decide) 0
      have e95 : ∀ j, bi t 95 j = bi s 95 j := u.1 95 (by decide) (by decide)
      have e99 : ∀ j, bi t 99 j = bi s 99 j := u.1 99 (by decide) (by decide)
      have nx := ih (l + 1)
      rw [show ((l + 1 : Nat) : Int) = (l : Int) + 1 by omega] at nx
      have hp := hP l (by omega) l16
      have rl : bRg ((l : Int) + 1) := ⟨by omega, by omega⟩
      have skip : P l = false → ∀ v3 v4, bRg ((l : Int) + 1) ∧ A (2, [.ref 12, .int (bn x), .int (bn ((l : Int) + 1)), v3, v4], [], t) := fun hf v3 v4 => ⟨rl, nx t v3 v4 (by omega) F D fun t' t0 t1 tp => by
        by_cases e : t' = l
        · rw [e, hf] at tp; cases tp
        · exact Rt t' t0 (by omega) tp⟩
      refine sq287_2 (bWp_mono _) hA rx ⟨by omega, by omega⟩ ⟨fun _ => ⟨⟨by omega, by omega⟩, w238 (d := d) (bTl_un u (by decide) (by decide) hL) ?_⟩, fun y => absurd (by rw [e22]; omega) y⟩
      rw [e10, e95, e99]
      refine ⟨⟨by omega, by omega⟩, fun q => ⟨⟨by omega, by omega⟩, fun z => ?_, fun z => skip (Bool.eq_false_iff.2 fun w => z (hp.1 w).2.2) _ _⟩, fun q => skip (Bool.eq_false_iff.2 fun w => q (hp.1 w).2.1) _ _⟩
      have hp1 : P l = true := hp.2 ⟨by omega, q, z⟩
      obtain ⟨m1, m2⟩ := hM l (by omega) l16 hp1
      generalize hg : bi s 99 (256 * (l : Int) + bi s 10 0) = g at *
      have up : ∀ a, 0 ≤ a → bi (bw t 140 g 1) 140 a = if a = g then 1 else bi t 140 a := fun a a0 => by
        rw [bi_bw m1.1 a0 (by decide)]; simp only [true_and]
      refine ⟨⟨by omega, by omega⟩, rl, nx _ _ _ (by omega) (bqWf_w F (Or.inl rfl)) (fun a a0 a1 => ⟨?_, fun q2 => ?_⟩) fun t' t0 t1 tp => ?_⟩
      · rw [up a a0]
        split
        · exact Or.inr rfl
        · exact (D a a0 a1).1
      · by_cases e : a = g
        · rw [e]; exact m2
        · rw [up a a0, if_neg e] at q2; exact (D a a0 a1).2 q2
      · have m3 := (hM t' t0 (by omega) tp).1
        rw [up _ m3.1]
        split
        · decide
        · rename_i e
          refine Rt t' t0 ?_ tp
          have : t' ≠ l := fun q => e (by rw [q]; exact hg)
          omega
  have := L1 (bi s 12 22).toNat 0 s (.float 0) (.float 0) (by omega) bqWf_refl (fun a a0 a1 => ⟨Or.inl (h140 a a0 a1), fun q => absurd (h140 a a0 a1) q⟩) fun t' t0 t1 => by omega
  exact this
end

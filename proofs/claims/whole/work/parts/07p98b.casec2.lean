/-! THE CRITICAL PATH, 2: the reference's half -/
section
variable {d : Nat} {σ σ0 s t : bSt} {f : Int → bSt → Prop} {x y k c : Int} {z : Nat} {G : bSt → Prop} {H : bHp} {L n : Nat}
theorem w281 (h0 : 0 ≤ x) (h1 : x < 120) (hy : 0 ≤ bi σ 142 x ∧ bi σ 142 x ≤ 4 → f 1 σ) (hn : ¬ (0 ≤ bi σ 142 x ∧ bi σ 142 x ≤ 4) → f 0 σ) : bWp (d + 2) 281 [.ref 12, .int (bn x)] σ (bRn f) :=
  ⟨rfl, fun A hA => sq281_0 (bWp_mono _) hA ⟨by omega, by omega⟩ ⟨⟨h0, h1⟩, w199 (bi_rg _ _ _) (by decide) (by decide) (fun q => ⟨Or.inr rfl, bRn_i (by decide) (hy q)⟩) (fun q => ⟨Or.inl rfl, bRn_i (by decide) (hn q)⟩)⟩⟩
theorem w301 (h0 : 0 ≤ x) (h1 : x < 120) (hy : 0 ≤ bi σ 142 x ∧ bi σ 142 x ≤ 5 → f 1 σ) (hn : ¬ (0 ≤ bi σ 142 x ∧ bi σ 142 x ≤ 5) → f 0 σ) : bWp (d + 3) 301 [.ref 12, .int (bn x)] σ (bRn f) :=
  ⟨rfl, fun A hA => sq301_0 (bWp_mono _) hA ⟨by omega, by omega⟩ (w281 h0 h1 (fun q => bFf (by decide) (bRn_i (by decide) (hy ⟨q.1, by omega⟩))) (fun q => bTt rfl ⟨⟨h0, h1⟩, fun a => bRn_i (by decide) (hy (by omega)), fun a => bRn_i (by decide) (hn (by omega))⟩))⟩
theorem w302 (hA0 : bAq σ0) (e : ∀ a, a ≠ 12 → ∀ j, bi σ a j = bi σ0 a j) (e49 : bi σ 12 49 = bi σ0 12 49) (hx : bRg x) (h1 : x < 0 → f 0 (bw σ 12 0 1)) (h0 : 0 ≤ x → ∀ r, bRg r → (x < 120 → bCh σ0 x.toNat r) → (¬ x < 120 → r = -1) → f r (bw σ 12 0 0)) : bWp (d + 4) 302 [.ref 12, .int (bn x)] σ (bRn f) := by
  obtain ⟨⟨e6, n0, n1⟩, hA1⟩ := id hA0
  refine ⟨rfl, fun A hA => sq302_0 (bWp_mono _) hA hx ⟨fun q => rN (by decide) (by decide) (bRn_i (by decide) (h1 q)), fun q => rY ?_⟩⟩
  have h0 := h0 (by omega)
  have g49 : bi (bw σ 12 0 0) 12 49 = bi σ0 12 49 := by rw [bi_nj (by decide) (by decide) (by decide)]; exact e49
  have g : ∀ a, a ≠ 12 → ∀ j, bi (bw σ 12 0 0) a j = bi σ0 a j := fun a w j => by rw [bi_ne w]; exact e a w j
  generalize bw σ 12 0 0 = s at h0 g49 g ⊢
  rw [g49]
  have fin : ∀ v : Int, bRg v → (x < 120 → bCh σ0 x.toNat v) → (x < 120 → bRn f (.inl (some (.int (bn v)))) s) ∧ (¬ x < 120 → bRn f (.inl (some (.int (bn (-1))))) s) := fun v hv hc =>
    ⟨fun a => bRn_i hv (h0 v hv hc (fun b => absurd a b)), fun a => bRn_i (by decide) (h0 (-1) (by decide) (fun b => absurd b a) (fun _ => rfl))⟩
  have K48 : ∀ (m : Nat) (l v : Int) (v4 v5 v6 v7 : Value), l + m = 120 → 0 ≤ l → l ≤ x → bRg v → bCh σ0 l.toNat v → A (48, [.ref 12, .int (bn x), .int (bn v), .int (bn l), v4, v5, v6, v7], [], s) := by
    intro m
    induction m with
    | zero =>
      intro l v v4 v5 v6 v7 hl l0 lx hv hc
      have stop : (v = -1 ∨ l = x) → (x < 120 → bCh σ0 x.toNat v) := fun _ b => by omega
      refine sq302_48 (bWp_mono _) hA hx hv ⟨by omega, by omega⟩ ⟨fun a => ⟨fun b => fin v hv (stop (Or.inl b)), fun b => bFf (by omega) (fin v hv fun w => by omega)⟩, fun a => fin v hv (stop (Or.inr (by omega)))⟩
    | succ m ih =>
      intro l v v4 v5 v6 v7 hl l0 lx hv hc
      refine sq302_48 (bWp_mono _) hA hx hv ⟨by omega, by omega⟩ ⟨fun a => ⟨fun b => fin v hv fun _ => ?_, fun b => bTt (by omega) ?_⟩, fun a => fin v hv fun _ => ?_⟩
      · rw [b] at hc ⊢
        have := bCh_n hc (x.toNat - l.toNat)
        rwa [show l.toNat + (x.toNat - l.toNat) = x.toNat by omega] at this
      · obtain ⟨cv, cv2⟩ := (bCh_b hA0 hc).resolve_left b
        have v0 := cv.1.1
        have v1 := cv.1.2
        obtain ⟨z, _, ⟨⟨c1, c2, c3⟩, ci⟩, _, g2⟩ := hA1 v v0 v1
        have gI := (g2 cv).2
        have K63 : ∀ (m2 : Nat) (k w : Int) (v6 v7 : Value), k + m2 = bi σ0 105 v → 0 ≤ k → -1 ≤ w → w < 120 → bMx (bInk σ0 v k) (bi σ0 144) w → A (63, [.ref 12, .int (bn x), .int (bn v), .int (bn l), .int (bn w), .int (bn (40 * v + k)), v6, v7], [], s) := by
          intro m2
          induction m2 with
          | zero =>
            intro k w v6 v7 hk k0 w0 w1 hm
            refine sq302_63 (bWp_mono _) hA hx hv ⟨by omega, by omega⟩ ⟨by omega, by omega⟩ ⟨by omega, by omega⟩ ?_
            rw [g 105 (by decide)]
            refine ⟨⟨by omega, by omega⟩, ⟨by omega, by omega⟩, ⟨by omega, by omega⟩, bFf (by omega) ⟨⟨by omega, by omega⟩, ih (l + 1) w _ _ _ _ (by omega) (by omega) (by omega) ⟨by omega, by omega⟩ ?_⟩⟩
            rw [show (l + 1).toNat = l.toNat + 1 by omega]
            rw [show k = bi σ0 105 v by omega] at hm
            exact ⟨v, hc, Or.inr ⟨b, hm⟩⟩
          | succ m2 ih2 =>
            intro k w v6 v7 hk k0 w0 w1 hm
            obtain ⟨_, i2⟩ := ci k k0 (by omega)
            have hr : bRg (bi σ0 106 (40 * v + k)) := bi_rg _ _ _
            refine sq302_63 (bWp_mono _) hA hx hv ⟨by omega, by omega⟩ ⟨by omega, by omega⟩ ⟨by omega, by omega⟩ ?_
            rw [g 105 (by decide), g 106 (by decide)]
            have nx : ∀ (w : Int) (v6 v7 : Value), -1 ≤ w → w < 120 → bMx (bInk σ0 v (k + 1)) (bi σ0 144) w → bRg (40 * v + k + 1) ∧ A (63, [.ref 12, .int (bn x), .int (bn v), .int (bn l), .int (bn w), .int (bn (40 * v + k + 1)), v6, v7], [], s) := fun w v6 v7 a1 a2 a3 => by
              rw [show 40 * v + k + 1 = 40 * v + (k + 1) by omega]
              exact ⟨⟨by omega, by omega⟩, ih2 (k + 1) w v6 v7 (by omega) (by omega) a1 a2 a3⟩
            refine ⟨⟨by omega, by omega⟩, ⟨by omega, by omega⟩, ⟨by omega, by omega⟩, bTt (by omega) ⟨⟨by omega, by omega⟩, ⟨by omega, by omega⟩, ?_⟩⟩
            generalize hp : bi σ0 106 (40 * v + k) - 100 = p
            refine ⟨fun q => nx _ _ _ w0 w1 (bMx_c hm fun j => by rw [bInk_s k0]; exact ⟨fun u => u.elim id (fun u => by omega), Or.inl⟩), fun q => ?_⟩
            have eE : ∀ j, bInk σ0 v (k + 1) j ↔ bInk σ0 v k j ∨ j = p := fun j => by rw [bInk_s k0, hp]; exact or_congr Iff.rfl ⟨fun u => u.2, fun u => ⟨by omega, u⟩⟩
            have cp := (gI p ⟨k, k0, by omega, by omega, by omega⟩).2.1
            have p1 : p < 120 := by have := cp.2; omega
            have ny : ∀ v6 v7, (w = -1 ∨ bi σ0 144 w < bi σ0 144 p ∨ (bi σ0 144 p = bi σ0 144 w ∧ p < w)) → bRg (40 * v + k + 1) ∧ A (63, [.ref 12, .int (bn x), .int (bn v), .int (bn l), .int (bn p), .int (bn (40 * v + k + 1)), v6, v7], [], s) := fun v6 v7 u => nx p v6 v7 (by omega) p1 (bMx_y hm eE (by omega) u)
            refine ⟨fun a2 => ny _ _ (Or.inl a2), fun a2 => ⟨⟨by omega, p1⟩, ⟨by omega, w1⟩, ?_⟩⟩
            rw [g 144 (by decide), g 144 (by decide)]
            exact ⟨fun u => ny _ _ (Or.inr (Or.inl u)), fun u => ⟨fun u2 => ⟨fun u3 => ny _ _ (Or.inr (Or.inr ⟨u2, u3⟩)), fun u3 => nx w _ _ w0 w1 (bMx_n hm eE a2 u (fun t => u3 t.2))⟩, fun u2 => nx w _ _ w0 w1 (bMx_n hm eE a2 u (fun t => u2 t.1))⟩⟩
        have := K63 (bi σ0 105 v).toNat 0 (-1) v6 v7 (by omega) (by decide) (by decide) (by decide) (Or.inl ⟨rfl, fun j => bInk_0⟩)
        rw [show 40 * v + 0 = 40 * v by omega] at this
        exact ⟨⟨by omega, by omega⟩, this⟩
      · rwa [show l = x by omega] at hc
  have K17 : ∀ (m : Nat) (l v : Int) (v4 v5 v6 v7 : Value), l + 1 = m → l < bi σ0 12 49 → -1 ≤ v → v < 120 → bMx (fun j => bCntd σ0 j ∧ l < j) (bi σ0 144) v → A (17, [.ref 12, .int (bn x), .int (bn v), .int (bn l), v4, v5, v6, v7], [], s) := by
    intro m
    induction m with
    | zero =>
      intro l v v4 v5 v6 v7 hl l1 v0 v1 hm
      exact sq302_17 (bWp_mono _) hA hx ⟨by omega, by omega⟩ ⟨by omega, by omega⟩ (bTt (by omega) (K48 120 0 v _ _ _ _ (by omega) (by decide) (by omega) ⟨by omega, by omega⟩ (bMx_c hm fun j => ⟨fun q => ⟨q, by have := q.1.1; omega⟩, fun q => q.1⟩)))
    | succ m ih =>
      intro l v v4 v5 v6 v7 hl l1 v0 v1 hm
      have rl : bRg (l + -1) := ⟨by omega, by omega⟩
      have skip : ¬ bCntd σ0 l → ∀ v4 v5 v6 v7, bRg (l + -1) ∧ A (17, [.ref 12, .int (bn x), .int (bn v), .int (bn (l + -1)), v4, v5, v6, v7], [], s) := fun w v4 v5 v6 v7 => ⟨rl, ih _ v _ _ _ _ (by omega) (by omega) v0 v1 (bMx_c hm fun j => ⟨fun u => ⟨u.1, by
        have := u.2
        by_cases a : j = l
        · exact absurd (a ▸ u.1) w
        · omega⟩, fun u => ⟨u.1, by have := u.2; omega⟩⟩)⟩
      refine sq302_17 (bWp_mono _) hA hx ⟨by omega, by omega⟩ ⟨by omega, by omega⟩ (bFf (by omega) ⟨⟨by omega, by omega⟩, ?_⟩)
      rw [g 140 (by decide)]
      refine ⟨fun a => skip (fun w => w.2.1 a) _ _ _ _, fun a => w301 (by omega) (by omega) (fun b => bFf (by decide) ?_) (fun b => bTt rfl (skip (fun w => b (by rw [g 142 (by decide)]; exact w.2.2)) _ _ _ _))⟩
      rw [g 142 (by decide)] at b
      have cl : bCntd σ0 l := ⟨⟨by omega, l1⟩, a, b⟩
      have eE : ∀ j, (bCntd σ0 j ∧ l + -1 < j) ↔ (bCntd σ0 j ∧ l < j) ∨ j = l := fun j => ⟨fun w => by
        by_cases u : j = l
        · exact Or.inr u
        · exact Or.inl ⟨w.1, by have := w.2; omega⟩, fun w => w.elim (fun w => ⟨w.1, by have := w.2; omega⟩) (fun w => ⟨by rw [w]; exact cl, by omega⟩)⟩
      have lv : v ≠ -1 → l < v := fun w => by
        rcases hm with ⟨a, _⟩ | ⟨_, b, _⟩
        · exact absurd a w
        · exact b.2
      refine ⟨fun a2 => ⟨rl, ih _ l _ _ _ _ (by omega) (by omega) (by omega) (by omega) (bMx_y hm eE (by omega) (Or.inl a2))⟩, fun a2 => ⟨⟨by omega, v1⟩, ?_⟩⟩
      have := lv a2
      rw [g 144 (by decide), g 144 (by decide)]
      exact ⟨fun u => ⟨rl, ih _ v _ _ _ _ (by omega) (by omega) v0 v1 (bMx_n hm eE a2 (by omega) (by omega))⟩, fun u => ⟨rl, ih _ l _ _ _ _ (by omega) (by omega) (by omega) (by omega) (bMx_y hm eE (by omega) (Or.inr (by omega)))⟩⟩
  exact ⟨⟨by omega, by omega⟩, K17 (bi σ0 12 49).toNat _ (-1) _ _ _ _ (by omega) (by omega) (by decide) (by decide) (Or.inl ⟨rfl, fun j w => by have := w.1.1.2; have := w.2; omega⟩)⟩
theorem k34 (hT : ∀ s, G s → bAq s) (hG : ∀ σ s, bUn [] [0] σ s → G σ → G s) (hH : ∀ c k σ s, bUn [] [0] σ s → H c k σ → H c k s) (h : bI9 G H L n σ) : bK34 (bI9 G H L (n + 1)) σ := by
  have hM := hT _ h.2.2.2.1
  refine wk34 fun x hx => ⟨rfl, fun A hA => sq177_0 (bWp_mono _) hA hx (w137 hx (by omega) (fun q => w64 hM hx q fun r hr hc => bRnx_i hr ?_) (fun q => ?_))⟩
  · refine ⟨bMid_un (S := []) (F := []) (bUn_o bUn_refl) (by decide), w302 (σ := bwj σ 154 0 (bL r)) hM (fun _ _ _ => rfl) rfl hx (fun w => by omega) fun _ r' hr' h1 h2 => ⟨bi_eq (by decide), fun _ => ?_, bIr hG hH h⟩⟩
    have e : r = r' := by
      by_cases w : x < 120
      · exact bCh_u hc (h1 w)
      · rw [h2 w]
        rcases bCh_b hM hc with u | u
        · exact u
        · have := u.2; have := u.1.1.1; omega
    show bj (bwj σ 154 0 (bL r)) 154 0 = bL r'
    rw [← e]
    exact bj_eq
  · exact ⟨bMid_C, w302 (σ := bC σ 1 6) hM (fun _ _ _ => rfl) rfl hx (fun _ => ⟨bi_eq (by decide), fun w => absurd w (by decide), bI9_no' hG hH h⟩) fun w => absurd w q⟩
end

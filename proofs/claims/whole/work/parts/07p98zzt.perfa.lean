/-! WHAT AN ACTION GIVES, 10: the reference does all nodes; both get the same -/
def bHn (σ s : bSt) : Prop := s.2 = σ.2 ∧ bUn [100, 119, 120] [70, 72] σ s
section
variable {d lvl : Nat} {σ s t : bSt} {f : Int → bSt → Prop} {fv : bSt → Prop} {A : bPt → Prop} {x y v i k : Int} {M N : Int → Int} {Od Nd : Int → Prop}
theorem bHn_refl : bHn σ σ := ⟨rfl, bUn_refl⟩
theorem bHn_trans (h : bHn σ s) (k : bHn s t) : bHn σ t := ⟨k.1.trans h.1, bUn_trans h.2 k.2⟩
theorem bHn_d (h : bDn σ s) : bHn σ s := ⟨h.1, bUn_mono h.2 (by decide) (by decide)⟩
theorem bHn_w {j : Int} : bHn σ (bw σ 100 j v) := ⟨rfl, bUn_w bUn_refl (by decide) (by decide)⟩
theorem bHn_pag (h : bHn σ s) : bPag σ s := ⟨fun a ha i => h.2.1 a (by
    simp only [List.mem_cons, List.not_mem_nil, or_false] at ha ⊢
    omega) (by
    simp only [List.mem_cons, List.not_mem_nil, or_false] at ha
    omega) i, h.2.2.1 17 (by decide) (by decide), h.2.2.1 22 (by decide) (by decide), fun t => h.2.1 (bTi t) (by rw [bTi_m]; decide) (by rw [bTi_m]; decide) 4⟩
/-- the same from another state that agrees -/
theorem bGkf_b (ag : bPag σ s) (e76 : ∀ j, bi s 76 j = bi σ 76 j) (e68 : bi s 12 68 = bi σ 12 68) (hT : bTg σ) (ht : bTgk σ (x / 256)) : bGkf s M x ↔ bGkf σ M x := by
  have ic := bIc_at hT ht
  have en : ∀ k, bNod s x k = bNod σ x k := fun k => by unfold bNod; rw [ag.1 87 (by decide), bBw_m ag]
  have eL : bIl s M x (bi σ 85 (x / 256)).toNat = bIl σ M x (bi σ 85 (x / 256)).toNat := bIl_m ag hT ht (fun _ _ _ _ => rfl) _ (by omega)
  have ec : ∀ L, bCof s L = bCof σ L := fun L => funext fun i => by unfold bCof; rw [ag.1 56 (by decide)]
  unfold bGkf
  simp only [bFx_m ag, ag.1 85 (by decide), ag.1 86 (by decide), ag.1 75 (by decide), e76, bNu_m ag, bVe_m ag, en, eL, ec, bGiv_m ag e68]
/-- class and reference get the same out of a node -/
theorem bGn_eq (hT : bTg σ) (h : ∀ x, Od x → (0 ≤ x ∧ bTgk σ (x / 256)) ∧ bGkf σ M x ∧ ∀ k, 0 ≤ k → k < bi σ 85 (x / 256) → bi σ 86 (6 * (x / 256) + k) = 2 → Od (bNod σ x k))
    (g : ∀ x, 0 ≤ x → bTgk σ (x / 256) → Nd x → bGkf σ N x ∧ ∀ k, 0 ≤ k → k < bi σ 85 (x / 256) → bi σ 86 (6 * (x / 256) + k) = 2 → Nd (bNod σ x k)) : ∀ (n : Nat) (x : Int), x / 256 < n → Od x → Nd x → M x = N x := by
  intro n
  induction n with
  | zero =>
    intro x hx o _
    have := (h x o).1.2.1
    omega
  | succ n ih =>
    intro x hx o nd
    obtain ⟨⟨x0, xt⟩, ck, cl⟩ := h x o
    obtain ⟨g1, g2⟩ := g x x0 xt nd
    refine bGkf_u ck g1 hT xt (fun _ k k0 k1 hK => ?_)
    obtain ⟨⟨_, y1, _⟩, _⟩ := bNd_at hT xt k0 k1 hK
    exact (ih _ (by omega) (cl k k0 k1 hK) (g2 k k0 k1 hK)).symm
theorem n263 {t : Int} (hA : bClosed lvl bm263 (bWp (d + 7)) (bRn f) A) (hF : bFi σ) (hL : bTl σ) (hT : bTg σ) (h4 : bR4 σ)
    (N1 : ∀ x, 0 ≤ x → bTgk σ (x / 256) → bi σ 94 x ≠ 0 → bi σ 95 x = bFx σ x % 8 ∧ (bFx σ x = 0 → bi σ 97 x = bNu σ (x / 256) (x % 256) ∧ bi σ 98 x = bVe σ (x / 256) (x % 256)) ∧ ∀ k, 0 ≤ k → k < bi σ 85 (x / 256) → bi σ 86 (6 * (x / 256) + k) = 2 → bi σ 94 (bNod σ x k) ≠ 0)
    (ht : bTgk σ t) (h : ∀ s, bHn σ s → (∀ x, 0 ≤ x → bTgk σ (x / 256) → bi σ 94 x ≠ 0 → bGkf σ (bMh s) x) → f (bMh s (256 * t + bi σ 10 0)) s) : A (19, [.ref 12, .int (bn t), .int (bn 0)], [], σ) := by
  have tc := hT.1
  have ht1 := ht.1
  have ht2 := ht.2
  have hc : 0 ≤ bi σ 10 0 ∧ bi σ 10 0 < 256 := by
    have e := hL.2.2.2
    have a0 := hL.2.2.1 0 (by decide) (by decide)
    have a1 := hL.2.2.1 1 (by decide) (by decide)
    have a2 := hL.2.2.1 2 (by decide) (by decide)
    have a3 := hL.2.2.1 3 (by decide) (by decide)
    omega
  have Lp : ∀ (m : Nat) (l : Int) (u : bSt), l + m = 256 * bi σ 12 22 → 0 ≤ l → bHn σ u → (∀ y, 0 ≤ y → y < l → bi σ 94 y ≠ 0 → bGkf σ (bMh u) y ∧ (bi u 100 y = -5 ∨ 0 ≤ bi u 100 y ∧ bi u 100 y < 1000)) → A (19, [.ref 12, .int (bn t), .int (bn l)], [], u) := by
    intro m
    induction m with
    | zero =>
      intro l u hl l0 M D
      have e22 : bi u 12 22 = bi σ 12 22 := M.2.2.1 22 (by decide) (by decide)
      have e10 : bi u 10 0 = bi σ 10 0 := M.2.1 10 (by decide) (by decide) 0
      refine sq263_19 (bWp_mono _) hA ⟨by omega, by omega⟩ ⟨by omega, by omega⟩ ?_
      rw [e22]
      refine ⟨⟨by omega, by omega⟩, fun w => absurd w (by omega), fun _ => ⟨⟨by omega, by omega⟩, w238 (bTl_un M.2 (by decide) (by decide) hL) ?_⟩⟩
      rw [e10]
      have K := h u M (fun x x0 xt n => (D x x0 (by have := xt.2; omega) n).1)
      unfold bMh at K
      refine ⟨⟨by omega, by omega⟩, ⟨by omega, by omega⟩, fun z => bRn_i (by decide) ?_, fun z => bRn_i (bi_rg _ _ _) ?_⟩
      · rwa [if_pos z] at K
      · rwa [if_neg z] at K
    | succ m ih =>
      intro x u hl x0 M D
      have e22 : bi u 12 22 = bi σ 12 22 := M.2.2.1 22 (by decide) (by decide)
      have xt : bTgk σ (x / 256) := ⟨by omega, by omega⟩
      have ic := bIc_at hT xt
      have ag := bHn_pag M
      have nok : ∀ k, 0 ≤ k → k < bi σ 85 (x / 256) → bi σ 86 (6 * (x / 256) + k) = 2 → (0 ≤ bNod σ x k ∧ bNod σ x k < x) := fun k k0 k1 hK => by
        obtain ⟨⟨y0, y1, _⟩, _⟩ := bNd_at hT xt k0 k1 hK
        exact ⟨y0, by omega⟩
      have put : ∀ (u' : bSt) (v : Int), bHn σ u' → (∀ j, bi u' 100 j = bi u 100 j) → (v = -5 ∨ 0 ≤ v ∧ v < 1000) → bGkf σ (bMh (bw u' 100 x v)) x → bRg (x + 1) ∧ A (19, [.ref 12, .int (bn t), .int (bn (x + 1))], [], bw u' 100 x v) := fun u' v M' e100 hv ck => by
        have e2 : ∀ j, 0 ≤ j → bi (bw u' 100 x v) 100 j = if j = x then v else bi u 100 j := fun j j0 => by
          rw [bi_bw x0 j0 ⟨by omega, by omega⟩, e100]; simp only [true_and]
        refine ⟨⟨by omega, by omega⟩, ih (x + 1) _ (by omega) (by omega) (bHn_trans M' bHn_w) (fun y y0 y1 n => ?_)⟩
        by_cases z : y = x
        · rw [z, e2 x x0, if_pos rfl]
          exact ⟨ck, hv⟩
        · have yt : bTgk σ (y / 256) := ⟨by omega, by omega⟩
          obtain ⟨d1, d2⟩ := D y y0 (by omega) n
          rw [e2 y y0, if_neg z]
          refine ⟨bGkf_c hT yt d1 ?_ (fun k k0 k1 hK => ?_), d2⟩
          · unfold bMh
            rw [e2 y y0, if_neg z]
          · obtain ⟨⟨w0, w1, _⟩, _⟩ := bNd_at hT yt k0 k1 hK
            unfold bMh
            rw [e2 _ w0, if_neg (show ¬ bNod σ y k = x by omega)]
      have e94 : bi u 94 x = bi σ 94 x := M.2.1 94 (by decide) (by decide) x
      have e95 : bi u 95 x = bi σ 95 x := M.2.1 95 (by decide) (by decide) x
      have e97 : bi u 97 x = bi σ 97 x := M.2.1 97 (by decide) (by decide) x
      have e98 : bi u 98 x = bi σ 98 x := M.2.1 98 (by decide) (by decide) x
      refine sq263_19 (bWp_mono _) hA ⟨by omega, by omega⟩ ⟨by omega, by omega⟩ ?_
      rw [e22, e94, e95]
      refine ⟨⟨by omega, by omega⟩, fun _ => ⟨⟨x0, by omega⟩, fun w => ⟨⟨by omega, by omega⟩, ih (x + 1) u (by omega) (by omega) M (fun y y0 y1 n => ?_)⟩, fun w => ?_⟩, fun w => absurd (show x < 256 * bi σ 12 22 by omega) w⟩
      · by_cases z : y = x
        · rw [z] at n; exact absurd w n
        · exact D y y0 (by omega) n
      obtain ⟨n1, n2, n3⟩ := N1 x x0 xt w
      refine ⟨fun z => ?_, fun z => put u (-5) M (fun _ => rfl) (Or.inl rfl) (Or.inl ⟨fun e => z (by rw [n1, e]; rfl), ?_⟩)⟩
      · have fz : bFx σ x = 0 := bFx_z hT x0 xt (by rw [← n1]; exact z)
        obtain ⟨_, _, f40, _, nuN, veN⟩ := bIl_40 (G := fun _ => 0) hT x0 xt fz
        obtain ⟨n97, n98⟩ := n2 fz
        have TG := hT.2.2.2 _ xt.1 xt.2
        have nr := bNuS_rg (c := x % 256) hT xt (h4 _ xt) (bi σ 83 (x / 256)).toNat 0 (by decide) (by have := TG.2.2.2.2.2.2.2.2.2.2.2.1.2; omega)
        have vr := bVe_rg hL (t := x / 256) (c := x % 256)
        have eNu : bNu σ (x / 256) (x % 256) = bNuS σ (x / 256) (x % 256) (bi σ 83 (x / 256)).toNat 0 := rfl
        have en : ∀ k, bNod u x k = bNod σ x k := fun k => by unfold bNod; rw [ag.1 87 (by decide), bBw_m ag]
        have tu := bTg_un M.2 (by decide) (by decide) hT
        have e76 : ∀ j, bi u 76 j = bi σ 76 j := M.2.1 76 (by decide) (by decide)
        have e68 : bi u 12 68 = bi σ 12 68 := M.2.2.1 68 (by decide) (by decide)
        have bel : ∀ k, 0 ≤ k → k < bi σ 85 (x / 256) → bi σ 86 (6 * (x / 256) + k) = 2 → bi u 100 (bNod σ x k) = -5 ∨ 0 ≤ bi u 100 (bNod σ x k) ∧ bi u 100 (bNod σ x k) < 1000 := fun k k0 k1 hK => (D _ (nok k k0 k1 hK).1 (nok k k0 k1 hK).2 (n3 k k0 k1 hK)).2
        refine w264 (bFi_un M.2 (by decide) hF) tu x0 ⟨xt.1, by rw [e22]; exact xt.2⟩ (by rw [bFx_m ag]; exact fz) (by rw [bNu_m ag, e97]; exact n97) (by rw [bVe_m ag, e98]; exact n98) (by rw [bNu_m ag, bVe_m ag]; omega) (fun k k0 k1 hK => ?_) (fun ⟨k, k0, k1, k2, k3⟩ s4 M4 => ?_) (fun nk v hv s4 M4 => ?_)
        · rw [en]
          exact bel k k0 (by rw [← ag.1 85 (by decide)]; exact k1) (by rw [← ag.1 86 (by decide)]; exact hK)
        · rw [ag.1 85 (by decide)] at k1
          rw [ag.1 86 (by decide)] at k2
          rw [en] at k3
          have e100 : ∀ j, bi s4 100 j = bi u 100 j := M4.2.1 100 (by decide) (by decide)
          refine put s4 (-5) (bHn_trans M (bHn_d M4)) e100 (Or.inl rfl) (Or.inr ⟨fz, Or.inl ⟨⟨k, k0, k1, k2, ?_⟩, ?_⟩⟩)
          · unfold bMh
            rw [bi_nj x0 (nok k k0 k1 k2).1 (by have := (nok k k0 k1 k2).2; omega), e100, k3, if_pos rfl]
          · unfold bMh
            rw [bi_eq (by decide), if_pos rfl]
        · have e100 : ∀ j, bi s4 100 j = bi u 100 j := M4.2.1 100 (by decide) (by decide)
          have nk2 : ∀ k, 0 ≤ k → k < bi σ 85 (x / 256) → bi σ 86 (6 * (x / 256) + k) = 2 → bi u 100 (bNod σ x k) ≠ -5 := fun k k0 k1 hK => by
            rw [← en]
            exact nk k k0 (by rw [ag.1 85 (by decide)]; exact k1) (by rw [ag.1 86 (by decide)]; exact hK)
          have uL : bIl u (bMh u) x (bi σ 85 (x / 256)).toNat = bIl σ (bMh u) x (bi σ 85 (x / 256)).toNat := bIl_m ag hT xt (fun _ _ _ _ => rfl) _ (by omega)
          have ec : ∀ L, bCof u L = bCof σ L := fun L => funext fun i => by unfold bCof; rw [ag.1 56 (by decide)]
          rw [bGiv_m ag e68, e76, bNu_m ag, bVe_m ag, ag.1 75 (by decide), ag.1 85 (by decide), uL, ec] at hv
          have lok : bLok σ (bIl σ (bMh u) x (bi σ 85 (x / 256)).toNat) := bIl_ok hF hT x0 xt fz (fun k k0 k1 hK => by
            have b := bel k k0 k1 hK
            have d5 := nk2 k k0 k1 hK
            unfold bMh
            rw [if_neg d5]
            omega) _ (by omega)
          have len := (bIl_40 (G := bMh u) hT x0 xt fz).1
          have rg := bGiv_rg (op := bi σ 76 (x / 256)) (ho := bi σ 75 (x / 256)) (c := bCof σ (bIl σ (bMh u) x (bi σ 85 (x / 256)).toNat)) (m := (bIl σ (bMh u) x (bi σ 85 (x / 256)).toNat).length) (n := bNu σ (x / 256) (x % 256) + bVe σ (x / 256) (x % 256)) hF (by omega) (fun i i0 i1 => (bLok_at hF lok i0 i1).2) len
          rw [← hv] at rg
          have wv : ∀ w : Int, w = (if v = -1 then -5 else v) → (w = -5 ∨ 0 ≤ w ∧ w < 1000) ∧ (if w = -5 then -1 else w) = v := fun w hw => by
            by_cases z : v = -1
            · rw [if_pos z] at hw
              rw [hw, if_pos rfl]
              exact ⟨Or.inl rfl, z.symm⟩
            · rw [if_neg z] at hw
              rw [hw, if_neg (by omega)]
              exact ⟨Or.inr (by omega), rfl⟩
          obtain ⟨w1, w2⟩ := wv _ rfl
          generalize (if v = -1 then -5 else v) = w0 at *
          have em : ∀ k, 0 ≤ k → k < bi σ 85 (x / 256) → bi σ 86 (6 * (x / 256) + k) = 2 → bMh (bw s4 100 x w0) (bNod σ x k) = bMh u (bNod σ x k) := fun k k0 k1 hK => by
            unfold bMh
            rw [bi_nj x0 (nok k k0 k1 hK).1 (by have := (nok k k0 k1 hK).2; omega), e100]
          have eL : bIl σ (bMh (bw s4 100 x w0)) x (bi σ 85 (x / 256)).toNat = bIl σ (bMh u) x (bi σ 85 (x / 256)).toNat := bIl_m bPag_refl hT xt em _ (by omega)
          refine put s4 w0 (bHn_trans M (bHn_d M4)) e100 w1 (Or.inr ⟨fz, Or.inr ⟨fun k k0 k1 hK => ?_, ?_⟩⟩)
          · rw [em k k0 k1 hK]
            have b := bel k k0 k1 hK
            have d5 := nk2 k k0 k1 hK
            unfold bMh
            rw [if_neg d5]
            omega
          · rw [eL, ← hv]
            unfold bMh
            rw [bi_eq ⟨by omega, by omega⟩]
            exact w2
      · unfold bMh
        rw [bi_eq (by decide), if_pos rfl]
  exact Lp (256 * bi σ 12 22).toNat 0 σ (by omega) (by decide) bHn_refl (fun y y0 y1 => by omega)
end

/-! BUILD, 56: the reference makes the actions of a node and all below it; of all targets -/
section
variable {d lvl : Nat} {σ s s0 t r s' : bSt} {f : Int → bSt → Prop} {fv : bSt → Prop} {A : bPt → Prop} {Z Z0 Y X Zs : bZs} {x y v a b k i q n0 : Int} {V W L : List Int} {n m z0 : Nat} {rk : Int → Nat} {P : Int → Bool}
theorem bpI_x {σ : bSt} {more : Int → List Int → List Int} {x : Int} (h : ∀ y V, ∃ W, more y V = V ++ W) : ∀ (j k : Nat) (V : List Int), ∃ W, bpI σ more x (k + j) V = bpI σ more x k V ++ W
  | 0, k, V => ⟨[], (List.append_nil _).symm⟩
  | j + 1, k, V => by
    obtain ⟨W, e⟩ := bpI_x h j k V
    show ∃ W, (if bi σ 86 (6 * (x / 256) + ((k + j : Nat) : Int)) = 2 then more (bNod σ x ((k + j : Nat) : Int)) (bpI σ more x (k + j) V) else bpI σ more x (k + j) V) = _ ++ W
    split
    · obtain ⟨W2, e2⟩ := h (bNod σ x ((k + j : Nat) : Int)) (bpI σ more x (k + j) V)
      exact ⟨W ++ W2, by rw [e2, e, List.append_assoc]⟩
    · exact ⟨W, e⟩
theorem bpO_x : ∀ (T : Nat) (x : Int) (V : List Int), ∃ W, bpO σ T x V = V ++ W
  | 0, x, V => ⟨[], (List.append_nil _).symm⟩
  | T + 1, x, V => by
    unfold bpO
    split
    · exact ⟨[], (List.append_nil _).symm⟩
    · obtain ⟨W, e⟩ := bpI_x (σ := σ) (x := x) (bpO_x T) (bi σ 85 (x / 256)).toNat 0 V
      rw [Nat.zero_add] at e
      exact ⟨W ++ [x], by rw [e]; show V ++ W ++ [x] = _; rw [List.append_assoc]⟩
theorem bmAl_no (h : bmAl σ V Z = none) : bmAl σ (V ++ W) Z = none := by rw [bmAl_app, h]; rfl
theorem bmR_w {b : Nat} {j : Int} (h : bmR n0 V Z n σ s) (hb : b = 117 ∨ b = 118) (j0 : 0 ≤ j) : bmR n0 V Z n σ (bw s b j v) := by
  obtain ⟨h1, h2, h3, h4, h5, h6⟩ := h
  have e : ∀ c, c ≠ b → ∀ j', bi (bw s b j v) c j' = bi s c j' := fun c hc j' => bi_ne hc
  refine ⟨bmRf_w h1 j0 (by rcases hb with rfl | rfl <;> decide) (fun q => absurd q (by rcases hb with rfl | rfl <;> decide)) (fun q => by omega), by rw [e 12 (by omega)]; exact h2, fun a a0 a1 => ⟨fun c hc => ?_, fun i i0 i1 => by rw [e 106 (by omega)]; exact (h3 a a0 a1).2.1 i i0 i1, fun q => by rw [e 110 (by omega), e 111 (by omega)]; exact (h3 a a0 a1).2.2 q⟩, fun a a0 a1 => by rw [e 107 (by omega), e 109 (by omega)]; exact h4 a a0 a1, fun y hy => by rw [e 99 (by omega)]; exact h5 y hy, fun y y0 y1 hy => by rw [e 99 (by omega)]; exact h6 y y0 y1 hy⟩
  rw [e c (by simp only [List.mem_cons, List.not_mem_nil, or_false] at hc; omega)]
  exact (h3 a a0 a1).1 c hc
theorem n250 (hF : bFi σ) (hL : bTl σ) (hT : bTg σ) (h4 : bR4 σ) (LK : ∀ x, 0 ≤ x → bTgk σ (x / 256) → bFx σ x = 0 → bi σ 94 x ≠ 0 → bi σ 97 x = bNu σ (x / 256) (x % 256) ∧ bi σ 98 x = bVe σ (x / 256) (x % 256)) (LN : ∀ x, 0 ≤ x → bTgk σ (x / 256) → bi σ 94 x ≠ 0 → ∀ k, 0 ≤ k → k < bi σ 85 (x / 256) → bi σ 86 (6 * (x / 256) + k) = 2 → bi σ 94 (bNod σ x k) ≠ 0) (hA : bClosed lvl bm250 (bWp (d + 5)) (bRn f) A) : ∀ (T : Nat) (x : Int), 0 ≤ x → x / 256 < T → bTgk σ (x / 256) → bFx σ x = 0 → bi σ 94 x ≠ 0 → ∀ (n : Nat) (p : Int) (s : bSt) (v1 v6 : Value) (dd : Int) (V0 Vc : List Int) (Z : bZs) (m : Nat) (rk : Int → Nat), Vc = bpI σ (bpO σ (T - 1)) x p.toNat V0 → x ∉ V0 → p + n = bi σ 85 (x / 256) → 0 ≤ p → bmI0 rk m Z → bmI1 σ Vc rk m Z → bmCl σ Vc → z0 ≤ m → bmR z0 Vc Z m σ s → bmAl σ Vc Zs = some Z → Vc.Nodup → (∃ W, Vc = V0 ++ W ∧ ∀ w ∈ W, w / 256 < x / 256) → 0 ≤ dd → dd + x / 256 < 16 → bi s 117 dd = x → bi s 118 dd = p → (∀ k, 0 ≤ k → k < p → bi σ 86 (6 * (x / 256) + k) = 2 → bNod σ x k ∈ Vc) →
    (∀ s' v1' v3' v4' v5' v6' Z' m' rk', bmAl σ (bpI σ (bpO σ (T - 1)) x (bi σ 85 (x / 256)).toNat V0 ++ [x]) Zs = some Z' → bmI0 rk' m' Z' → bmI1 σ (bpI σ (bpO σ (T - 1)) x (bi σ 85 (x / 256)).toNat V0 ++ [x]) rk' m' Z' → bmCl σ (bpI σ (bpO σ (T - 1)) x (bi σ 85 (x / 256)).toNat V0 ++ [x]) → z0 ≤ m' → bmR z0 (bpI σ (bpO σ (T - 1)) x (bi σ 85 (x / 256)).toNat V0 ++ [x]) Z' m' σ s' → (bpI σ (bpO σ (T - 1)) x (bi σ 85 (x / 256)).toNat V0 ++ [x]).Nodup → (∃ W, bpI σ (bpO σ (T - 1)) x (bi σ 85 (x / 256)).toNat V0 ++ [x] = V0 ++ W ∧ ∀ w ∈ W, w / 256 ≤ x / 256) → (∀ j, 0 ≤ j → j < dd → bi s' 117 j = bi s 117 j ∧ bi s' 118 j = bi s 118 j) → A (12, [.ref 12, v1', .int (bn (dd - 1)), v3', v4', v5', v6'], [], s')) →
    (bmAl σ (bpI σ (bpO σ (T - 1)) x (bi σ 85 (x / 256)).toNat V0 ++ [x]) Zs = none → ∀ t, bmRf z0 σ t → f 0 t) → A (25, [.ref 12, v1, .int (bn dd), .int (bn x), .int (bn (x / 256)), .int (bn (-9)), v6], [], s) := by
  intro T
  induction T with
  | zero => intro x x0 xT; omega
  | succ T IH =>
    intro x x0 xT ht hE hn n
    have tc := hT.1
    have ht1 := ht.1
    have ht2 := ht.2
    have ic := bIc_at hT ht
    have rx : bRg x := ⟨by omega, by omega⟩
    have rx2 : bRg (x / 256) := ⟨by omega, by omega⟩
    have f40 := (bIl_40 (G := fun _ => 0) hT x0 ht hE).2.2.1
    induction n with
    | zero =>
      intro p s v1 v6 dd V0 Vc Z m rk hV hx hp p0 I0 I1 Cl nn R hZ Nd ⟨W, eW, hW⟩ dd0 dd1 e117 e118 PI K1 K0
      have rd : bRg dd := ⟨by omega, by omega⟩
      have u := R.1.2.1
      have e85 : bi s 85 (x / 256) = bi σ 85 (x / 256) := u.1 85 (by decide) (by decide) _
      have xV : x ∉ Vc := fun h => by
        rw [eW] at h
        rcases List.mem_append.1 h with q | q
        · exact hx q
        · have := hW x q; omega
      have e99 : bi s 99 x = -9 := R.2.2.2.2.2 x x0 (by omega) xV
      have ep : (bi σ 85 (x / 256)).toNat = p.toNat := by omega
      rw [ep, ← hV] at K1 K0
      have W2 : ∃ W, Vc ++ [x] = V0 ++ W ∧ ∀ w ∈ W, w / 256 ≤ x / 256 := ⟨W ++ [x], by rw [eW, List.append_assoc], fun w hw => by
        rcases List.mem_append.1 hw with q | q
        · have := hW w q; omega
        · rw [List.mem_singleton.1 q]; exact Int.le_refl _⟩
      have Nd2 : (Vc ++ [x]).Nodup := by
        rw [List.nodup_append]
        exact ⟨Nd, by simp, fun y hy z hz => by rw [List.mem_singleton.1 hz]; exact fun e => xV (by rw [← e]; exact hy)⟩
      refine sq250_25 (bWp_mono _) hA rd rx rx2 (by decide) ⟨⟨x0, by omega⟩, fun _ => ⟨fun _ => ⟨⟨dd0, by omega⟩, ⟨ht1, by omega⟩, ?_⟩, fun q => absurd rfl q⟩, fun q => absurd e99 q⟩
      rw [e118, e85]
      refine ⟨fun q => absurd q (by omega), fun _ => ⟨fun _ => ⟨fun _ => ?_, fun q => absurd e99 q⟩, fun q => absurd rfl q⟩⟩
      refine r251 (d := d) (z0 := z0) hF hL hT h4 I0 I1 Cl nn R (LK x x0 ht hE hn) x0 ht hE xV (fun k k0 k1 k2 => PI k k0 (by omega) k2) (fun Y t rk' m' hY J0 J1 Cl2 nn2 R2 fr => ⟨fun q => absurd q (by decide), fun _ => ⟨⟨by omega, by omega⟩, ?_⟩⟩) fun hY t Rt => ⟨fun _ => bRn_i (by decide) (K0 (by rw [bmAl_app, hZ]; show (bmMk σ x Z).bind (bmAl σ []) = _; rw [hY]; rfl) t Rt), fun q => absurd rfl q⟩
      have := K1 t (bUnl v1) (.int (bn x)) (.int (bn (x / 256))) (.int (bn (-9))) v6 Y m' rk' (by rw [bmAl_app, hZ]; show (bmMk σ x Z).bind (bmAl σ []) = _; rw [hY]; rfl) J0 J1 Cl2 nn2 R2 Nd2 W2 fun j _ _ => ⟨fr 117 (by decide) j, fr 118 (by decide) j⟩
      exact this
    | succ n ih =>
      intro p s v1 v6 dd V0 Vc Z m rk hV hx hp p0 I0 I1 Cl nn R hZ Nd ⟨W, eW, hW⟩ dd0 dd1 e117 e118 PI K1 K0
      have rd : bRg dd := ⟨by omega, by omega⟩
      have u := R.1.2.1
      have e85 : bi s 85 (x / 256) = bi σ 85 (x / 256) := u.1 85 (by decide) (by decide) _
      have e86 : ∀ j, bi s 86 j = bi σ 86 j := u.1 86 (by decide) (by decide)
      have xV : x ∉ Vc := fun h => by
        rw [eW] at h
        rcases List.mem_append.1 h with q | q
        · exact hx q
        · have := hW x q; omega
      have e99 : bi s 99 x = -9 := R.2.2.2.2.2 x x0 (by omega) xV
      have pl : p < bi σ 85 (x / 256) := by omega
      have uP : bpI σ (bpO σ (T + 1 - 1)) x (p + 1).toNat V0 = if bi σ 86 (6 * (x / 256) + p) = 2 then bpO σ T (bNod σ x p) Vc else Vc := by
        rw [show (p + 1).toNat = p.toNat + 1 by omega, hV]
        show (if bi σ 86 (6 * (x / 256) + ((p.toNat : Nat) : Int)) = 2 then bpO σ T (bNod σ x ((p.toNat : Nat) : Int)) (bpI σ (bpO σ (T + 1 - 1)) x p.toNat V0) else bpI σ (bpO σ (T + 1 - 1)) x p.toNat V0) = _
        rw [show ((p.toNat : Nat) : Int) = p by omega]
      -- on with the next item
      have go : ∀ (s2 : bSt) (v1' v6' : Value) (V2 : List Int) (Z2 : bZs) (m2 : Nat) (rk2 : Int → Nat), V2 = bpI σ (bpO σ (T + 1 - 1)) x (p + 1).toNat V0 → bmI0 rk2 m2 Z2 → bmI1 σ V2 rk2 m2 Z2 → bmCl σ V2 → z0 ≤ m2 → bmR z0 V2 Z2 m2 σ s2 → bmAl σ V2 Zs = some Z2 → V2.Nodup → (∃ W, V2 = Vc ++ W ∧ ∀ w ∈ W, w / 256 < x / 256) → bi s2 117 dd = x → bi s2 118 dd = p + 1 → (∀ j, 0 ≤ j → j < dd → bi s2 117 j = bi s 117 j ∧ bi s2 118 j = bi s 118 j) → (bi σ 86 (6 * (x / 256) + p) = 2 → bNod σ x p ∈ V2) → A (25, [.ref 12, v1', .int (bn dd), .int (bn x), .int (bn (x / 256)), .int (bn (-9)), v6'], [], s2) := fun s2 v1' v6' V2 Z2 m2 rk2 hV2 J0 J1 Cl2 nn2 R2 hZ2 Nd2 ⟨W2, eW2, hW2⟩ f117 f118 fr hin => by
        refine ih (p + 1) s2 v1' v6' dd V0 V2 Z2 m2 rk2 hV2 hx (by omega) (by omega) J0 J1 Cl2 nn2 R2 hZ2 Nd2 ⟨W ++ W2, by rw [eW2, eW, List.append_assoc], fun w hw => ?_⟩ dd0 dd1 f117 f118 (fun k k0 k1 k2 => ?_) (fun s' v1' v3' v4' v5' v6' Z' m' rk' a1 a2 a3 a4 a5 a6 a7 a8 a9 => K1 s' v1' v3' v4' v5' v6' Z' m' rk' a1 a2 a3 a4 a5 a6 a7 a8 fun j j0 j1 => ?_) K0
        · rcases List.mem_append.1 hw with q | q
          · exact hW w q
          · exact hW2 w q
        · by_cases e : k = p
          · rw [e] at k2 ⊢; exact hin k2
          · rw [eW2]; exact List.mem_append_left _ (PI k k0 (by omega) k2)
        · have h1 := a9 j j0 j1
          have h2 := fr j j0 j1
          exact ⟨h1.1.trans h2.1, h1.2.trans h2.2⟩
      refine sq250_25 (bWp_mono _) hA rd rx rx2 (by decide) ⟨⟨x0, by omega⟩, fun _ => ⟨fun _ => ⟨⟨dd0, by omega⟩, ⟨ht1, by omega⟩, ?_⟩, fun q => absurd rfl q⟩, fun q => absurd e99 q⟩
      rw [e118, e85, e86]
      refine ⟨fun _ => ⟨⟨by omega, by omega⟩, ⟨by omega, by omega⟩, ⟨by omega, by omega⟩, ⟨by omega, by omega⟩, fun hK => ?_, fun hK => ?_⟩, fun q => absurd pl q⟩
      · -- a target
        have R1 : bmR z0 Vc Z m σ (bw s 118 dd (p + 1)) := bmR_w R (Or.inr rfl) dd0
        have f117 : ∀ j, bi (bw s 118 dd (p + 1)) 117 j = bi s 117 j := fun j => bi_ne (by decide)
        have f118 : ∀ j, 0 ≤ j → bi (bw s 118 dd (p + 1)) 118 j = if j = dd then p + 1 else bi s 118 j := fun j j0 => by
          rw [bi_bw dd0 j0 ⟨by omega, by omega⟩]; simp only [true_and]
        generalize bw s 118 dd (p + 1) = s1 at *
        have u1 := R1.1.2.1
        have ag1 : bPag σ s1 := bmUn_pagR u1 (by decide) (by decide)
        have T1 := bTg_un u1 (by decide) (by decide) hT
        have en : bNod s1 x p = bNod σ x p := by unfold bNod; rw [ag1.1 87 (by decide), bBw_m ag1]
        obtain ⟨⟨y0, y1, y2⟩, _⟩ := bNd_at hT ht p0 pl hK
        have yE := f40 p p0 pl hK
        have yn := LN x x0 ht hn p p0 pl hK
        have C : ∀ {g : Int → bSt → Prop}, g (bNod σ x p) s1 → bWp (d + 5) 240 [.ref 12, .int (bn x), .int (bn (6 * (x / 256) + p))] s1 (bRn g) := fun {g} hg => w240 (d := d + 3) T1 x0 ⟨ht1, by rw [ag1.2.2.1]; exact ht2⟩ p0 (by rw [ag1.1 85 (by decide)]; exact pl) (by rw [ag1.1 86 (by decide)]; exact hK) (by rw [en]; exact hg)
        generalize hy : bNod σ x p = y at *
        have y22 := y2.2
        refine C ⟨⟨y0, by omega⟩, fun q => C ?_, fun q => ?_⟩
        · -- one that is not known yet
          have yV : y ∉ Vc := fun h => by
            have := (I1.1 y h).2.1
            rw [R1.2.2.2.2.1 y h] at q
            omega
          have ry : bRg y := ⟨by omega, by omega⟩
          have e99' : bi s1 99 x = -9 := R1.2.2.2.2.2 x x0 (by omega) xV
          refine sq250_25 (bWp_mono _) hA rd rx rx2 ry ⟨⟨x0, by omega⟩, fun _ => ⟨fun q => by omega, fun _ => ⟨fun q => by omega, fun _ => ⟨⟨by omega, by omega⟩, ⟨by omega, by omega⟩, ?_⟩⟩⟩, fun q => absurd e99' q⟩
          have R2 : bmR z0 Vc Z m σ (bw (bw s1 117 (dd + 1) y) 118 (dd + 1) 0) := bmR_w (bmR_w R1 (Or.inl rfl) (by omega)) (Or.inr rfl) (by omega)
          have g117 : ∀ j, 0 ≤ j → bi (bw (bw s1 117 (dd + 1) y) 118 (dd + 1) 0) 117 j = if j = dd + 1 then y else bi s 117 j := fun j j0 => by
            rw [bi_ne (by decide), bi_bw (by omega) j0 ry, f117]; simp only [true_and]
          have g118 : ∀ j, 0 ≤ j → bi (bw (bw s1 117 (dd + 1) y) 118 (dd + 1) 0) 118 j = if j = dd + 1 then 0 else bi s1 118 j := fun j j0 => by
            rw [bi_bw (by omega) j0 (by decide), bi_ne (by decide)]; simp only [true_and]
          generalize bw (bw s1 117 (dd + 1) y) 118 (dd + 1) 0 = s2 at *
          refine sq250_12 (bWp_mono _) hA ⟨by omega, by omega⟩ ⟨fun q => by omega, fun _ => ⟨⟨by omega, by omega⟩, ?_⟩⟩
          rw [g117 (dd + 1) (by omega), if_pos rfl]
          refine ⟨y0, ?_⟩
          have icy := bIc_at hT y2
          obtain ⟨T', eT⟩ : ∃ T', T = T' + 1 := ⟨T - 1, by omega⟩
          have eO : bpO σ T y Vc = bpI σ (bpO σ (T - 1)) y (bi σ 85 (y / 256)).toNat Vc ++ [y] := by
            rw [eT]
            show (if y ∈ Vc then Vc else _) = _
            rw [if_neg yV]
            rfl
          have eP : bpI σ (bpO σ (T + 1 - 1)) x (p + 1).toNat V0 = bpI σ (bpO σ (T - 1)) y (bi σ 85 (y / 256)).toNat Vc ++ [y] := by
            rw [uP, if_pos hK, eO]
          obtain ⟨WF, eF⟩ := bpI_x (σ := σ) (x := x) (bpO_x (σ := σ) (T + 1 - 1)) (bi σ 85 (x / 256) - (p + 1)).toNat (p + 1).toNat V0
          rw [show (p + 1).toNat + (bi σ 85 (x / 256) - (p + 1)).toNat = (bi σ 85 (x / 256)).toNat by omega, eP] at eF
          refine IH y y0 (by omega) y2 yE yn (bi σ 85 (y / 256)).toNat 0 s2 _ _ (dd + 1) Vc Vc Z m rk rfl yV (by omega) (by decide) I0 I1 Cl nn R2 hZ Nd ⟨[], (List.append_nil _).symm, fun w hw => absurd hw List.not_mem_nil⟩ (by omega) (by omega) (by rw [g117 _ (by omega), if_pos rfl]) (by rw [g118 _ (by omega), if_pos rfl]) (fun k k0 k1 => by omega) (fun s3 v1' v3' v4' v5' v6' Z' m' rk' a1 a2 a3 a4 a5 a6 a7 a8 a9 => ?_) (fun hN t Rt => K0 ?_ t Rt)
          · have h1 := a9 dd dd0 (by omega)
            rw [show dd + 1 - 1 = dd by omega]
            refine sq250_12 (bWp_mono _) hA rd ⟨fun q => by omega, fun _ => ⟨⟨dd0, by omega⟩, ?_⟩⟩
            rw [h1.1, g117 dd dd0, if_neg (by omega), e117]
            refine ⟨x0, go s3 _ _ _ Z' m' rk' eP.symm a2 a3 a4 a5 a6 a1 a7 ?_ ?_ ?_ (fun j j0 j1 => ?_) (fun _ => List.mem_append_right _ List.mem_cons_self)⟩
            · obtain ⟨W3, eW3, hW3⟩ := a8
              exact ⟨W3, eW3, fun w hw => by have := hW3 w hw; omega⟩
            · rw [h1.1, g117 dd dd0, if_neg (by omega), e117]
            · rw [h1.2, g118 dd dd0, if_neg (by omega), f118 dd dd0, if_pos rfl]
            · have h2 := a9 j j0 (by omega)
              rw [h2.1, h2.2, g117 j j0, g118 j j0, if_neg (by omega), if_neg (by omega), f118 j j0, if_neg (by omega)]
              exact ⟨rfl, rfl⟩
          · rw [eF, List.append_assoc]
            exact bmAl_no hN
        · -- one that is known
          have yV : y ∈ Vc := Classical.byContradiction fun h => q (R1.2.2.2.2.2 y y0 (by omega) h)
          have eP : Vc = bpI σ (bpO σ (T + 1 - 1)) x (p + 1).toNat V0 := by rw [uP, if_pos hK, bpO_in yV]
          exact go s1 _ _ Vc Z m rk eP I0 I1 Cl nn R1 hZ Nd ⟨[], (List.append_nil _).symm, fun w hw => absurd hw List.not_mem_nil⟩ (by rw [f117]; exact e117) (by rw [f118 dd dd0, if_pos rfl]) (fun j j0 j1 => ⟨f117 j, by rw [f118 j j0, if_neg (by omega)]⟩) (fun _ => yV)
      · -- no target
        have eP : Vc = bpI σ (bpO σ (T + 1 - 1)) x (p + 1).toNat V0 := by rw [uP, if_neg hK]
        exact go _ _ _ Vc Z m rk eP I0 I1 Cl nn (bmR_w R (Or.inr rfl) dd0) hZ Nd ⟨[], (List.append_nil _).symm, fun w hw => absurd hw List.not_mem_nil⟩ (by rw [bi_ne (by decide)]; exact e117) (by rw [bi_eq ⟨by omega, by omega⟩]) (fun j j0 j1 => ⟨bi_ne (by decide), bi_nj dd0 j0 (by omega)⟩) (fun q => absurd q hK)
theorem r250 (hF : bFi σ) (hL : bTl σ) (hT : bTg σ) (h4 : bR4 σ) (LK : ∀ x, 0 ≤ x → bTgk σ (x / 256) → bFx σ x = 0 → bi σ 94 x ≠ 0 → bi σ 97 x = bNu σ (x / 256) (x % 256) ∧ bi σ 98 x = bVe σ (x / 256) (x % 256)) (LN : ∀ x, 0 ≤ x → bTgk σ (x / 256) → bi σ 94 x ≠ 0 → ∀ k, 0 ≤ k → k < bi σ 85 (x / 256) → bi σ 86 (6 * (x / 256) + k) = 2 → bi σ 94 (bNod σ x k) ≠ 0) (x0 : 0 ≤ x) (ht : bTgk σ (x / 256)) (hE : bFx σ x = 0) (hn : bi σ 94 x ≠ 0) (I0 : bmI0 rk m Z) (I1 : bmI1 σ V rk m Z) (Cl : bmCl σ V) (nn : z0 ≤ m) (R : bmR z0 V Z m σ s) (hZ : bmAl σ V Zs = some Z) (Nd : V.Nodup)
    (K1 : ∀ t Z m rk, bmAl σ (bpO σ 16 x V) Zs = some Z → bmI0 rk m Z → bmI1 σ (bpO σ 16 x V) rk m Z → bmCl σ (bpO σ 16 x V) → z0 ≤ m → bmR z0 (bpO σ 16 x V) Z m σ t → (bpO σ 16 x V).Nodup → f 1 t) (K0 : bmAl σ (bpO σ 16 x V) Zs = none → ∀ t, bmRf z0 σ t → f 0 t) : bWp (d + 6) 250 [.ref 12, .int (bn x)] s (bRn f) := by
  have tc := hT.1
  have ht2 := ht.2
  have ic := bIc_at hT ht
  have rx : bRg x := ⟨by omega, by omega⟩
  have rx2 : bRg (x / 256) := ⟨by omega, by omega⟩
  refine ⟨rfl, fun A hA => sq250_0 (bWp_mono _) hA rx ?_⟩
  have R2 : bmR z0 V Z m σ (bw (bw s 117 0 x) 118 0 0) := bmR_w (bmR_w R (Or.inl rfl) (Int.le_refl _)) (Or.inr rfl) (Int.le_refl _)
  have e117 : bi (bw (bw s 117 0 x) 118 0 0) 117 0 = x := by rw [bi_ne (by decide), bi_eq rx]
  have e118 : bi (bw (bw s 117 0 x) 118 0 0) 118 0 = 0 := bi_eq (by decide)
  generalize bw (bw s 117 0 x) 118 0 0 = s2 at *
  refine sq250_12 (bWp_mono _) hA (by decide) ⟨fun q => absurd q (by decide), fun _ => ⟨⟨by decide, by decide⟩, ?_⟩⟩
  rw [e117]
  refine ⟨x0, ?_⟩
  have fin : ∀ t v1 v3 v4 v5 v6, f 1 t → A (12, [.ref 12, v1, .int (bn (-1)), v3, v4, v5, v6], [], t) := fun t v1 v3 v4 v5 v6 h => sq250_12 (bWp_mono _) hA (by decide) ⟨fun _ => bRn_i (by decide) h, fun q => absurd (by decide) q⟩
  by_cases hx : x ∈ V
  · have eO : bpO σ 16 x V = V := bpO_in hx
    rw [eO] at K1
    have e99 : bi s2 99 x ≠ -9 := by
      rw [R2.2.2.2.2.1 x hx]
      have := (I1.1 x hx).2.1
      omega
    exact sq250_25 (bWp_mono _) hA (by decide) rx rx2 (by decide) ⟨⟨x0, by omega⟩, fun q => absurd q e99, fun _ => ⟨fun _ => ⟨fun q => absurd q e99, fun _ => ⟨by decide, fin _ _ _ _ _ _ (K1 s2 Z m rk hZ I0 I1 Cl nn R2 Nd)⟩⟩, fun q => absurd rfl q⟩⟩
  · have eO : bpO σ 16 x V = bpI σ (bpO σ 15) x (bi σ 85 (x / 256)).toNat V ++ [x] := by
      show (if x ∈ V then V else _) = _
      rw [if_neg hx]
    rw [eO] at K1 K0
    exact n250 (d := d) (z0 := z0) (Zs := Zs) hF hL hT h4 LK LN hA 16 x x0 (by omega) ht hE hn (bi σ 85 (x / 256)).toNat 0 s2 _ _ 0 V V Z m rk rfl hx (by omega) (by decide) I0 I1 Cl nn R2 hZ Nd ⟨[], (List.append_nil _).symm, fun w hw => absurd hw List.not_mem_nil⟩ (by decide) (by omega) e117 e118 (fun k k0 k1 => by omega) (fun s' v1' v3' v4' v5' v6' Z' m' rk' a1 a2 a3 a4 a5 a6 a7 a8 a9 => fin s' _ _ _ _ _ (K1 s' Z' m' rk' a1 a2 a3 a4 a5 a6 a7)) K0
theorem bmOd_x : ∀ (j k : Nat), ∃ W, bmOd σ P (k + j) = bmOd σ P k ++ W
  | 0, k => ⟨[], (List.append_nil _).symm⟩
  | j + 1, k => by
    obtain ⟨W, e⟩ := bmOd_x j k
    show ∃ W, (if P ((k + j : Nat) : Int) then bpO σ 16 (((k + j : Nat) : Int) * 256 + bi σ 10 0) (bmOd σ P (k + j)) else bmOd σ P (k + j)) = _ ++ W
    split
    · obtain ⟨W2, e2⟩ := bpO_x (σ := σ) 16 (((k + j : Nat) : Int) * 256 + bi σ 10 0) (bmOd σ P (k + j))
      exact ⟨W ++ W2, by rw [e2, e, List.append_assoc]⟩
    · exact ⟨W, e⟩
theorem bmOd_c (h : ∀ t : Int, (k.toNat : Int) ≤ t → t < 16 → P t = false) : ∀ j : Nat, k.toNat + j ≤ 16 → bmOd σ P (k.toNat + j) = bmOd σ P k.toNat
  | 0, _ => rfl
  | j + 1, hj => by
    show (if P ((k.toNat + j : Nat) : Int) then _ else bmOd σ P (k.toNat + j)) = _
    rw [h _ (by omega) (by omega)]
    exact bmOd_c h j (by omega)
theorem r283 (hF : bFi σ) (hL : bTl σ) (hT : bTg σ) (h4 : bR4 σ) (LK : ∀ x, 0 ≤ x → bTgk σ (x / 256) → bFx σ x = 0 → bi σ 94 x ≠ 0 → bi σ 97 x = bNu σ (x / 256) (x % 256) ∧ bi σ 98 x = bVe σ (x / 256) (x % 256)) (LN : ∀ x, 0 ≤ x → bTgk σ (x / 256) → bi σ 94 x ≠ 0 → ∀ k, 0 ≤ k → k < bi σ 85 (x / 256) → bi σ 86 (6 * (x / 256) + k) = 2 → bi σ 94 (bNod σ x k) ≠ 0) (rx : bRg x) (hB : ∀ t, 0 ≤ t → t < 16 → bAnd (bShr x t) 1 = 0 ∨ bAnd (bShr x t) 1 = 1)
    (hP : ∀ t, 0 ≤ t → t < 16 → (P t = true ↔ t < bi σ 12 22 ∧ bAnd (bShr x t) 1 = 1 ∧ bi σ 95 (256 * t + bi σ 10 0) = 0)) (hS : ∀ t, 0 ≤ t → t < 16 → P t = true → bFx σ (256 * t + bi σ 10 0) = 0 ∧ bi σ 94 (256 * t + bi σ 10 0) ≠ 0)
    (I0 : bmI0 rk z0 Zs) (I1 : bmI1 σ [] rk z0 Zs) (R0 : ∀ a, 0 ≤ a → a < (z0 : Int) → (∀ b ∈ [101, 102, 103, 104, 105], bi σ b a = Zs.1 b a) ∧ (∀ i, 0 ≤ i → i < Zs.1 105 a → bi σ 106 (40 * a + i) = Zs.1 106 (40 * a + i))) (e49 : bi σ 12 49 = z0) (R7 : ∀ a, 0 ≤ a → a < 120 → bi σ 107 a = Zs.1 107 a ∧ Zs.1 109 a = 0) (e99 : ∀ y, 0 ≤ y → y < 4096 → bi σ 99 y = -9)
    (K1 : ∀ t Z m rk, bmAl σ (bmOd σ P 16) Zs = some Z → bmI0 rk m Z → bmI1 σ (bmOd σ P 16) rk m Z → bmCl σ (bmOd σ P 16) → z0 ≤ m → bmR z0 (bmOd σ P 16) Z m σ t → (bmOd σ P 16).Nodup → f 1 t) (K0 : bmAl σ (bmOd σ P 16) Zs = none → ∀ t, bmRf z0 σ t → bi t 12 49 = z0 → f 0 t) : bWp (d + 7) 283 [.ref 12, .int (bn x)] σ (bRn f) := by
  have tc := hT.1
  have n120 := I0.1.2.1
  have hc : 0 ≤ bi σ 10 0 ∧ bi σ 10 0 < 256 := by
    have e := hL.2.2.2
    have a0 := hL.2.2.1 0 (by decide) (by decide)
    have a1 := hL.2.2.1 1 (by decide) (by decide)
    have a2 := hL.2.2.1 2 (by decide) (by decide)
    have a3 := hL.2.2.1 3 (by decide) (by decide)
    omega
  have rn : bRg (z0 : Int) := ⟨by omega, by omega⟩
  have w16 : bmOd σ P (bi σ 12 22).toNat = bmOd σ P 16 := by
    have := bmOd_c (σ := σ) (P := P) (k := bi σ 12 22) (fun t h1 h2 => Bool.eq_false_iff.2 fun w => by
      have := ((hP t (by omega) h2).1 w).1
      omega) (16 - (bi σ 12 22).toNat) (by omega)
    rw [show (bi σ 12 22).toNat + (16 - (bi σ 12 22).toNat) = 16 by omega] at this
    exact this.symm
  refine ⟨rfl, fun A hA => sq283_0 (bWp_mono _) hA rx ?_⟩
  rw [e49]
  -- finders are given back
  have L3 : ∀ (k l : Nat) (t : bSt) (v5 : Value), l + k = 120 → bmAl σ (bmOd σ P 16) Zs = none → bmRf z0 σ t → bi t 12 49 = z0 → A (68, [.ref 12, .int (bn x), .int (bn z0), .int (bn 0), .int (bn l), v5], [], t) := by
    intro k
    induction k with
    | zero =>
      intro l t v5 hl hN Rt t49
      have el : l = 120 := by omega
      subst el
      exact sq283_68 (bWp_mono _) hA (by decide) (by decide) ⟨fun q => absurd q (by decide), fun _ => ⟨Or.inl rfl, bRn_i (by decide) (K0 hN t Rt t49)⟩⟩
    | succ k ih =>
      intro l t v5 hl hN Rt t49
      have nx := ih (l + 1)
      rw [show ((l + 1 : Nat) : Int) = (l : Int) + 1 by omega] at nx
      refine sq283_68 (bWp_mono _) hA (by decide) ⟨by omega, by omega⟩ ⟨fun _ => ⟨⟨by omega, by omega⟩, ⟨by omega, by omega⟩, nx _ _ (by omega) hN (bmRf_w Rt (by omega) (by decide) (fun q => absurd q (by decide)) (fun q => absurd q (by decide))) ?_⟩, fun q => absurd (by omega) q⟩
      rw [bi_ne (by decide)]; exact t49
  have stop : ∀ (l : Nat) (t : bSt) (v5 : Value), (l : Int) ≤ bi σ 12 22 → bmAl σ (bmOd σ P 16) Zs = none → bmRf z0 σ t → A (27, [.ref 12, .int (bn x), .int (bn z0), .int (bn 0), .int (bn l), v5], [], t) := fun l t v5 hl hN Rt => by
    have go : A (68, [.ref 12, .int (bn x), .int (bn z0), .int (bn 0), .int (bn 0), v5], [], bw t 12 49 z0) := by
      have := L3 120 0 (bw t 12 49 z0) v5 (by decide) hN (bmRf_c Rt) (bi_eq rn)
      exact this
    exact sq283_27 (bWp_mono _) hA rx rn (by decide) ⟨by omega, by omega⟩ ⟨fun _ => ⟨fun _ => ⟨fun _ => go, fun q => absurd rfl q⟩, fun q => absurd rfl q⟩, fun _ => ⟨fun _ => go, fun q => absurd rfl q⟩⟩
  -- the targets
  have L2 : ∀ (k l : Nat) (t : bSt) (v5 : Value) (Z : bZs) (m : Nat) (rk : Int → Nat), (l : Int) + k = bi σ 12 22 → bmAl σ (bmOd σ P l) Zs = some Z → bmI0 rk m Z → bmI1 σ (bmOd σ P l) rk m Z → bmCl σ (bmOd σ P l) → z0 ≤ m → bmR z0 (bmOd σ P l) Z m σ t → (bmOd σ P l).Nodup → A (27, [.ref 12, .int (bn x), .int (bn z0), .int (bn 1), .int (bn l), v5], [], t) := by
    intro k
    induction k with
    | zero =>
      intro l t v5 Z m rk hl hZ J0 J1 Cl nn R Nd
      have el : l = (bi σ 12 22).toNat := by omega
      have e22 : bi t 12 22 = bi σ 12 22 := R.1.2.1.2.1 22 (by decide) (by decide)
      subst el
      rw [w16] at hZ J1 Cl R Nd
      refine sq283_27 (bWp_mono _) hA rx rn (by decide) ⟨by omega, by omega⟩ ⟨fun q => absurd q (by rw [e22]; omega), fun _ => ⟨fun q => absurd q (by decide), fun _ => ⟨Or.inr rfl, bRn_i (by decide) (K1 t Z m rk hZ J0 J1 Cl nn R Nd)⟩⟩⟩
    | succ k ih =>
      intro l t v5 Z m rk hl hZ J0 J1 Cl nn R Nd
      have u := R.1.2.1
      have e22 : bi t 12 22 = bi σ 12 22 := u.2.1 22 (by decide) (by decide)
      have e95 : ∀ j, bi t 95 j = bi σ 95 j := u.1 95 (by decide) (by decide)
      have e10 : bi t 10 0 = bi σ 10 0 := u.1 10 (by decide) (by decide) 0
      have nx := ih (l + 1)
      have l16 : (l : Int) < 16 := by omega
      have uO : bmOd σ P (l + 1) = if P l then bpO σ 16 ((l : Int) * 256 + bi σ 10 0) (bmOd σ P l) else bmOd σ P l := rfl
      rw [uO, show ((l + 1 : Nat) : Int) = (l : Int) + 1 by omega] at nx
      have hp := hP l (by omega) l16
      have rl : bRg ((l : Int) + 1) := ⟨by omega, by omega⟩
      have skip : P l = false → ∀ v5, bRg ((l : Int) + 1) ∧ A (27, [.ref 12, .int (bn x), .int (bn z0), .int (bn 1), .int (bn ((l : Int) + 1)), v5], [], t) := fun hf v5 => by
        rw [if_neg (by rw [hf]; decide)] at nx
        exact ⟨rl, nx t v5 Z m rk (by omega) hZ J0 J1 Cl nn R Nd⟩
      refine sq283_27 (bWp_mono _) hA rx rn (by decide) ⟨by omega, by omega⟩ ⟨fun _ => ⟨fun q => absurd q (by decide), fun _ => ⟨⟨by omega, by omega⟩, w238 (d := d + 5) (bTl_un u (by decide) (by decide) hL) ?_⟩⟩, fun q => absurd (by rw [e22]; omega) q⟩
      rw [e10, e95]
      refine ⟨⟨by omega, by omega⟩, fun q => skip (Bool.eq_false_iff.2 fun w => by have := (hp.1 w).2.1; omega) _, fun q => ⟨⟨by omega, by omega⟩, fun z => ?_, fun z => skip (Bool.eq_false_iff.2 fun w => z (hp.1 w).2.2) _⟩⟩
      have hp1 : P l = true := hp.2 ⟨by omega, (hB l (by omega) l16).resolve_left q, z⟩
      rw [if_pos hp1] at nx uO
      obtain ⟨hE, hn⟩ := hS l (by omega) l16 hp1
      rw [show (l : Int) * 256 + bi σ 10 0 = 256 * (l : Int) + bi σ 10 0 by omega] at nx uO
      have e256 : (256 * (l : Int) + bi σ 10 0) / 256 = l := by omega
      refine r250 (d := d) (z0 := z0) (Zs := Zs) hF hL hT h4 LK LN (by omega) (by rw [e256]; exact ⟨by omega, by omega⟩) hE hn J0 J1 Cl nn R hZ Nd (fun t2 Z2 m2 rk2 a1 a2 a3 a4 a5 a6 a7 => ⟨fun y => absurd y (by decide), fun _ => ⟨rl, nx t2 _ Z2 m2 rk2 (by omega) a1 a2 a3 a4 a5 a6 a7⟩⟩) fun hN t2 Rt => ⟨fun _ => ⟨rl, ?_⟩, fun y => absurd rfl y⟩
      have := stop (l + 1) t2 (.int (bn (256 * (l : Int) + bi σ 10 0))) (by omega) (by
        obtain ⟨W, e⟩ := bmOd_x (σ := σ) (P := P) (16 - (l + 1)) (l + 1)
        rw [show l + 1 + (16 - (l + 1)) = 16 by omega, uO] at e
        rw [e]
        exact bmAl_no hN) Rt
      rw [show ((l + 1 : Nat) : Int) = (l : Int) + 1 by omega] at this
      exact this
  -- finders are put by
  have L1 : ∀ (k l : Nat) (t : bSt), l + k = 120 → bmRf z0 σ t → bi t 12 49 = z0 → (∀ b, b ≠ 108 → b ≠ 109 → ∀ j, bi t b j = bi σ b j) → (∀ a, 0 ≤ a → a < (l : Int) → bi t 109 a = 0) → A (5, [.ref 12, .int (bn x), .int (bn z0), .int (bn l), .float 0, .float 0], [], t) := by
    intro k
    induction k with
    | zero =>
      intro l t hl Rt t49 tn t109
      have el : l = 120 := by omega
      subst el
      refine sq283_5 (bWp_mono _) hA rx rn (by decide) ⟨fun q => absurd q (by decide), fun _ => ?_⟩
      have := L2 (bi σ 12 22).toNat 0 t (.float 0) Zs z0 rk (by omega) rfl I0 I1 (fun y hy => absurd hy List.not_mem_nil) (Nat.le_refl _) ⟨Rt, t49, fun a a0 a1 => ⟨fun b hb => ?_, fun i i0 i1 => ?_, fun q => by omega⟩, fun a a0 a1 => ⟨?_, ?_⟩, fun y hy => absurd hy List.not_mem_nil, fun y y0 y1 _ => ?_⟩ List.nodup_nil
      · exact this
      · rw [tn b (by simp only [List.mem_cons, List.not_mem_nil, or_false] at hb; omega) (by simp only [List.mem_cons, List.not_mem_nil, or_false] at hb; omega)]
        exact (R0 a a0 a1).1 b hb
      · rw [tn 106 (by decide) (by decide)]; exact (R0 a a0 a1).2 i i0 i1
      · rw [tn 107 (by decide) (by decide)]; exact (R7 a a0 a1).1
      · rw [t109 a a0 a1, (R7 a a0 a1).2]
      · rw [tn 99 (by decide) (by decide)]; exact e99 y y0 y1
    | succ k ih =>
      intro l t hl Rt t49 tn t109
      have nx := ih (l + 1)
      rw [show ((l + 1 : Nat) : Int) = (l : Int) + 1 by omega] at nx
      refine sq283_5 (bWp_mono _) hA rx rn ⟨by omega, by omega⟩ ⟨fun _ => ⟨⟨by omega, by omega⟩, ⟨by omega, by omega⟩, nx _ (by omega) (bmRf_w (bmRf_w Rt (by omega) (by decide) (fun q => absurd q (by decide)) (fun q => absurd q (by decide))) (by omega) (by decide) (fun q => absurd q (by decide)) (fun q => absurd q (by decide))) ?_ (fun b b1 b2 j => ?_) (fun a a0 a1 => ?_)⟩, fun q => absurd (by omega) q⟩
      · rw [bi_ne (by decide), bi_ne (by decide)]; exact t49
      · rw [bi_ne b2, bi_ne b1]; exact tn b b1 b2 j
      · rw [bi_bw (by omega) a0 (by decide)]
        simp only [true_and]
        by_cases e : a = l
        · rw [if_pos e]
        · rw [if_neg e, bi_ne (by decide)]; exact t109 a a0 (by omega)
  have := L1 120 0 σ (by decide) bmRf_refl e49 (fun _ _ _ _ => rfl) (fun a a0 a1 => by omega)
  exact this
end

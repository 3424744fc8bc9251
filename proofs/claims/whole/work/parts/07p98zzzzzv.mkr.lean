/-! BUILD, 70: a build that was done, in the reference, and on to the next call -/
section
variable {d lvl : Nat} {σ σ0 σr β s s0 s1 t t1 r r1 r2 r3 s' : bSt} {f : Int → bSt → Prop} {fv : bSt → Prop} {Z Z0 Y X Zs Zr T ZE W : bZs} {x y v a b k i q g l : Int} {n n0 m z0 N μ L : Nat} {rk rk0 : Int → Nat} {S : List Nat} {F : List Int} {P : Int → Bool} {Q : Int → Prop}
theorem bzKf_un (h : bzKf (bzPa n) s t) : bUn [0, 1, 4, 5, 14, 15, 17, 18, 22, 23, 24, 25, 26] [] s t := by
  have off : ∀ b, b % 256 ∉ [0, 1, 4, 5, 14, 15, 17, 18, 22, 23, 24, 25, 26] → ¬ bzTb b ∧ ¬ bzPa n b := fun b hb => by
    simp only [List.mem_cons, List.not_mem_nil, or_false, not_or] at hb
    refine ⟨fun q => ?_, bzPa_n (Or.inr (by omega))⟩
    unfold bzTb bzTc at q
    simp only [List.mem_cons, List.not_mem_nil, or_false] at q
    omega
  have g := fun b hb => h.1 b (off b hb).1 (off b hb).2
  exact ⟨fun a q1 _ j => (g a q1).1 j, fun j _ _ => (g 12 (by decide)).1 j, fun a _ q1 j => (g a q1).2.1 j, fun a q1 j => (g a q1).2.2.1 j, fun a q1 => (g a q1).2.2.2⟩
theorem rYb (h : bI9 (bqG N μ) bqH L N σ) (hN : N ≤ 2000) (c49 : bi σ 12 49 = n) (T : bT68 σ s1) (X1 : bi s1 7 15 = -1 ∨ bXe s1) (hF1 : bFi s1) (hL1 : bTl s1) (hT1 : bTg s1) (W : bWk s1 s) (W0 : bWk s s0) (e10 : bi s0 6 10 = bi s1 6 10 + 2) (J0 : bmI0 rk m Z) (J1 : bmI1 s1 (bmOd s1 P 16) rk m Z) (Cl : bmCl s1 (bmOd s1 P 16)) (Mq : bqM n m (bqS s1 Zr) Z) (Cb : bmC n (bmOd s1 P 16) Z m β) (Fr : bmFr n s0 β) (Cr : bqCr m Z β) (BI : bzI β m (bqT β m Z)) (BR : bzRn0 rk m (bqT β m Z)) (Wc : bmWc β m (bmBy β 48 (bqA Z))) (C6 : bzCC β m (bzAl β m g l (bqT β m Z)) t) (ng : ∀ b, 0 ≤ b → b < (m : Int) → ¬ bzG (bzLp β m g l 122 (bqT β m Z)) b) (Rσ : bqR σ rk0 n Zr)
    (S1 : bqTs t t1) (LK : bqLk P x t1 r1) (R : bmR n (bmOd s1 P 16) Z m r1 r2) (S2 : bqTs r2 r3) (rx : bRg x) (rg : bRg g) (l0 : 0 ≤ l ∧ l < 1000) (hPs : ∀ t', 0 ≤ t' → t' < 16 → P t' = true → bTgk s1 t' ∧ bFx s1 (t' * 256 + bi s1 10 0) = 0)
    (K : ∀ r, (bI9 (bqGx (N + 1) (1000 + t.2.2.2.2.1)) bqH L (N + 1) r) → bqRf m r3 r → bzR0 β m (bzAl β m g l (bqT β m Z)) r → f (bCnp (fun t' => P t' && decide (bzD (bzAl β m g l (bqT β m Z)) (Z.1 99 (t' * 256 + bi s1 10 0)))) 16) r) : bWp (d + 11) 286 [.ref 12, .int (bn x), .int (bn 0), .int (bn g), .int (bn l)] r3 (bRn f) := by
  obtain ⟨b1, b2, b3, b4, b5, b6, b7, b8⟩ := h.2.2.2.1
  obtain ⟨⟨l1, l2⟩, l3, l4, l5, l6, l7⟩ := LK
  have us : bUn bWkK [] s1 s := bUn_S bUn_refl W.1 (by decide)
  have us0 : bUn bWkK [] s s0 := bUn_S bUn_refl W0.1 (by decide)
  have ut := bmFr_un Fr
  have uk := bzKf_un C6.1
  have u1 := bqTs_un S1
  have u3 := R.1.2.1
  have u4 := bqTs_un S2
  have u0 := bT68_un T
  have uβ : bUn [0, 4, 6, 13, 22, 23, 27, 28, 29, 30, 31, 32, 33] [] s1 β := bUn_trans (bUn_trans (bUn_mono us (by decide) (by decide)) (bUn_mono us0 (by decide) (by decide))) (bUn_mono ut (by decide) (by decide))
  have uc : bUn ([0, 1, 4, 5, 11, 14, 15, 17, 18, 22, 23, 24, 25, 26, 48, 49] ++ bLk2) [0, 7, 111] β r1 := bUn_trans (bUn_trans (bUn_mono uk (by decide) (by decide)) (bUn_mono u1 (by decide) (by decide))) (bUn_mono l2 (by decide) (by decide))
  have u13 : bUn ([11, 48, 49] ++ bmRK) [0, 49, 111] r1 r3 := bUn_trans (bUn_mono u3 (by decide) (by decide)) (bUn_mono u4 (by decide) (by decide))
  have uβ3 : bUn ([0, 1, 4, 5, 11, 14, 15, 17, 18, 22, 23, 24, 25, 26, 48, 49] ++ bLk2 ++ bmRK) [0, 7, 49, 111] β r3 := bUn_trans (bUn_mono uc (by decide) (by decide)) (bUn_mono u13 (by decide) (by decide))
  have us1r1 : bUn ([0, 1, 4, 5, 6, 11, 13, 14, 15, 17, 18, 22, 23, 24, 25, 26, 27, 28, 29, 30, 31, 32, 33, 48, 49] ++ bLk2) [0, 7, 111] s1 r1 := bUn_trans (bUn_mono uβ (by decide) (by decide)) (bUn_mono uc (by decide) (by decide))
  have us13 : bUn ([0, 1, 4, 5, 6, 11, 13, 14, 15, 17, 18, 22, 23, 24, 25, 26, 27, 28, 29, 30, 31, 32, 33, 48, 49] ++ bLk2 ++ bmRK) [0, 7, 49, 111] s1 r3 := bUn_trans (bUn_mono us1r1 (by decide) (by decide)) (bUn_mono u13 (by decide) (by decide))
  -- marks and rows of references
  have er3 : r3.2.2 = t.2.2 := by rw [S2.1, R.1.1, l1, S1.1]
  have es0 : s0.2.2 = σ.2.2 := by rw [W0.1.1, W.1.1, T.1]
  have agβ : bPag s1 β := bmUn_pag uβ
  have eβ76 : ∀ j, bi β 76 j = bi s1 76 j := uβ.1 76 (by decide) (by decide)
  have eβ10 : bi β 10 0 = bi s1 10 0 := uβ.1 10 (by decide) (by decide) 0
  have eOβ : bmOd β P 16 = bmOd s1 P 16 := bmOd_g agβ eβ10 16
  have Fβ := bFi_un uβ (by decide) hF1
  have Lβ := bTl_un uβ (by decide) (by decide) hL1
  have Tβ := bTg_un uβ (by decide) (by decide) hT1
  have J1β : bmI1 β (bmOd s1 P 16) rk m Z := bmI1_g agβ eβ76 J1
  have Clβ : bmCl β (bmOd s1 P 16) := bmCl_g agβ Cl
  have E1 : bqE s1 := bqE_u u0 (by decide) (by decide) b8.1
  have Eβ : bqE β := bqE_u uβ (by decide) (by decide) E1
  have m120 := J0.1.2.1
  -- what is kept, in the reference
  obtain ⟨⟨I0, Ik, Jc⟩, ⟨A1, Ch⟩, ⟨_, rows, Rk, Rc⟩, rng⟩ := Rσ
  have n120 := I0.1.2.1
  have c13 : ∀ c, c % 256 ∉ [0, 1, 4, 5, 6, 8, 11, 12, 13, 14, 15, 17, 18, 22, 23, 24, 25, 26, 27, 28, 29, 30, 31, 32, 33, 48, 49] ++ bLk2 ++ bmRK ++ bEvK → ∀ j, bi r3 c j = bi σ c j := fun c hc j => by
    simp only [List.mem_append, not_or] at hc
    obtain ⟨⟨⟨h0, hl⟩, hr⟩, he⟩ := hc
    simp only [List.mem_cons, List.not_mem_nil, or_false, not_or] at h0
    rw [us13.1 c (by simp only [List.mem_append, List.mem_cons, List.not_mem_nil, or_false, not_or]; exact ⟨⟨by omega, hl⟩, hr⟩) (by omega)]
    exact u0.1 c (by simp only [List.mem_cons, not_or]; exact ⟨by omega, he⟩) (by omega) j
  have d1 : ∀ c, c % 256 ∉ [0, 1, 4, 5, 6, 8, 11, 12, 13, 14, 15, 17, 18, 22, 23, 24, 25, 26, 27, 28, 29, 30, 31, 32, 33, 48, 49] ++ bLk2 ++ bEvK → ∀ j, bi r1 c j = bi σ c j := fun c hc j => by
    simp only [List.mem_append, not_or] at hc
    obtain ⟨⟨h0, hl⟩, he⟩ := hc
    simp only [List.mem_cons, List.not_mem_nil, or_false, not_or] at h0
    rw [us1r1.1 c (by simp only [List.mem_append, List.mem_cons, List.not_mem_nil, or_false, not_or]; exact ⟨by omega, hl⟩) (by omega)]
    exact u0.1 c (by simp only [List.mem_cons, not_or]; exact ⟨by omega, he⟩) (by omega) j
  have low : ∀ c ∈ [112, 113, 114, 115, 121, 122, 123, 124, 125, 126, 127, 128, 129, 134, 135, 136, 137, 138, 139, 142, 143, 144, 145, 146, 147, 148], ∀ j, bi r3 c j = bi σ c j := fun c hc => c13 c (by
    unfold bLk2 bmRK bEvK
    simp only [List.mem_append, List.mem_cons, List.not_mem_nil, or_false, not_or] at hc ⊢
    omega)
  have f12 : ∀ k, 0 ≤ k → k ∉ ([0, 7, 49, 111] : List Int) → bi r3 12 k = bi σ 12 k := fun k k0 hk => (us13.2.1 k k0 hk).trans (u0.2.1 k k0 List.not_mem_nil)
  have Rk3 : bzRk n Zr r3 := fun a a0 a1 => by
    obtain ⟨q1, q2⟩ := Rk a a0 a1
    have w : ∀ c ∈ [110, 111], bi r3 c a = bi σ c a := fun c hc => by
      have hc' := hc
      simp only [List.mem_cons, List.not_mem_nil, or_false] at hc'
      rw [u4.1 c (by simp only [List.mem_cons, List.not_mem_nil, or_false, not_or]; omega) (by omega), (R.1.2.2 a a0 a1).1 c (by simp only [List.mem_cons, List.not_mem_nil, or_false]; omega)]
      exact d1 c (by unfold bLk2 bEvK; simp only [List.mem_append, List.mem_cons, List.not_mem_nil, or_false, not_or]; omega) a
    rw [w 110 (by decide), w 111 (by decide), low 114 (by decide)]
    exact ⟨q1, fun K hK => by
      obtain ⟨z1, z2, z3, z4, z5⟩ := q2 K hK
      exact ⟨z1, z2, fun i hi => by rw [low 113 (by decide)]; exact z3 i hi, z4, fun i hi => by rw [low 115 (by decide)]; exact z5 i hi⟩⟩
  have Rc3 : bzRc Zr r3 := bzRc_u Rc (fun b hb => low b (by unfold bPuK at hb; simp only [List.mem_cons, List.not_mem_nil, or_false] at hb ⊢; omega)) (f12 73 (by decide) (by decide)) rfl rfl
  have Ab : bzA β r3 := ⟨bmUn_pagR uβ3 (by decide) (by decide), fun b hb j => uβ3.1 b (by
    unfold bLk2 bmRK
    simp only [List.mem_append, List.mem_cons, List.not_mem_nil, or_false, not_or] at hb ⊢
    omega) (by
    simp only [List.mem_cons, List.not_mem_nil, or_false] at hb
    omega) j, uβ3.2.1 68 (by decide) (by decide), uβ3.2.1 87 (by decide) (by decide), uβ3.2.1 88 (by decide) (by decide)⟩
  have L3 := bTl_un uβ3 (by decide) (by decide) Lβ
  have F3 := bFi_un uβ3 (by decide) Fβ
  have s2c : ∀ c, c % 256 ∉ [11, 48, 49] → c % 256 ≠ 12 → ∀ j, bi r3 c j = bi r2 c j := u4.1
  have R3 : bmR n (bmOd s1 P 16) Z m r3 r3 := by
    obtain ⟨_, q2, q3, q4, q5, q6⟩ := R
    refine ⟨bmRf_refl, by rw [u4.2.1 49 (by decide) (by decide)]; exact q2, fun a a0 a1 => ⟨fun c hc => ?_, fun i i0 i1 => by rw [s2c 106 (by decide) (by decide)]; exact (q3 a a0 a1).2.1 i i0 i1, fun q => by rw [s2c 110 (by decide) (by decide), s2c 111 (by decide) (by decide)]; exact (q3 a a0 a1).2.2 q⟩, fun a a0 a1 => by rw [s2c 107 (by decide) (by decide), s2c 109 (by decide) (by decide)]; exact q4 a a0 a1, fun y hy => by rw [s2c 99 (by decide) (by decide)]; exact q5 y hy, fun y y0 y1 hy => by rw [s2c 99 (by decide) (by decide)]; exact q6 y y0 y1 hy⟩
    rw [s2c c (by simp only [List.mem_cons, List.not_mem_nil, or_false, not_or] at hc ⊢; omega) (by simp only [List.mem_cons, List.not_mem_nil, or_false] at hc; omega)]
    exact (q3 a a0 a1).1 c hc
  have e22 : bi r3 12 22 = bi r1 12 22 := u13.2.1 22 (by decide) (by decide)
  have e10r : bi r3 10 0 = bi r1 10 0 := u13.1 10 (by decide) (by decide) 0
  have e95 : ∀ j, bi r3 95 j = bi r1 95 j := u13.1 95 (by decide) (by decide)
  have tcβ := Tβ.1
  have e22β : bi r3 12 22 = bi β 12 22 := uβ3.2.1 22 (by decide) (by decide)
  have m10 := b5.1.1
  have m11 := b5.2
  have e61 : bi s1 6 10 = bi σ 6 10 := T.2.1 6 (by decide) (by decide) 10
  refine r286 (d := d) (σ0 := s1) (Zr := Zr) (z0 := n) (V := bmOd s1 P 16) (P := P) (rk := rk) (B := 400 * N) L3 F3 (by rw [e22β]; exact ⟨tcβ.1, tcβ.2.1⟩) Ab Fβ R3 J0 J1β Clβ Tβ eOβ.symm Mq BI BR Wc (fun c hc j => us13.1 c ?_ ?_ j) (uβ3.1 10 (by decide) (by decide) 0) (fun j hj => by rw [low 139 (by decide)]; exact b8.1.2.2.2.2.2.2 j hj) Rk3 Rc3 (fun a a0 a1 => by rw [low 114 (by decide)]; exact (rng a a0 a1).2) (by rw [f12 73 (by decide) (by decide)]; have := b8.2.2.2.2.2; omega) (by omega) rx (fun t' t0 t1' => by rw [e22, e10r, e95]; exact l6 t' t0 t1') (fun t' t0 t1' tp => ?_) Lβ rg l0 fun r R0 Rf c73 => ?_
  · unfold bLk2 bmRK
    simp only [List.mem_append, List.mem_cons, List.not_mem_nil, or_false, not_or] at hc ⊢
    omega
  · simp only [List.mem_cons, List.not_mem_nil, or_false] at hc
    omega
  · obtain ⟨q1, q2⟩ := hPs t' t0 t1' tp
    rw [bFx_m agβ, eβ10]
    exact ⟨(bTgk_g agβ).2 q1, q2⟩
  · rw [eβ10]
    refine K r ?_ Rf R0
    have er : r.2.2 = t.2.2 := by rw [Rf.1, er3]
    have utr : bUn bqKr (111 :: bqFs) t r := bUn_trans (bUn_trans (bUn_trans (bUn_trans (bUn_mono u1 (by decide) (by decide)) (bUn_mono l2 (by decide) (by decide))) (bUn_mono u3 (by decide) (by decide))) (bUn_mono u4 (by decide) (by decide))) (bUn_mono Rf.2.1 (by decide) (by decide))
    have r3r : ∀ c, c % 256 ∉ 140 :: 141 :: bRzK → c % 256 ≠ 12 → ∀ j, bi r c j = bi r3 c j := Rf.2.1.1
    have key : bqZ (N + 1) (1000 + t.2.2.2.2.1) r ∧ bAk r ∧ bMr r := by
      refine bqEnd (N := N + 1) (rk := rk) (Z := Z) BI BR (fun w w0 w1 q => ?_) rg l0 Cr C6 ng R0 utr (by rw [er]) J0 (fun a a0 a1 => ⟨fun c hc => ?_, fun i i0 i1 => ?_⟩) Eβ (fun a h1 h2 => ?_) (by omega)
      · have e138 : (bqT β m Z).1 138 w = bi s1 138 w := by
          rw [(bqT_u (σ := β) (n := m) (Z := Z)).1 138 (by decide), Mq.2.1 138 (by decide), bqS_e.2.2.2.2.1 138 (by decide)]
        exact absurd (e138.trans (E1.2.2.2.2.1 w w0 w1).2.1) q
      · have hc' := hc
        simp only [List.mem_cons, List.not_mem_nil, or_false] at hc'
        rw [r3r c (by unfold bRzK; simp only [List.mem_cons, List.not_mem_nil, or_false, not_or]; omega) (by omega)]
        exact (R3.2.2.1 a a0 a1).1 c hc
      · rw [r3r 106 (by decide) (by decide)]
        exact (R3.2.2.1 a a0 a1).2.1 i i0 i1
      · obtain ⟨q1, q2⟩ := Rf.2.2 a (by omega) h1
        rw [q1, q2, low 112 (by decide), low 114 (by decide)]
        exact rng a (by omega) h2
    obtain ⟨Zq, Akq, Mrq⟩ := key
    obtain ⟨n1, n2, n3⟩ := bmFr_N Fr
    have a1 : bmN s0 = bmN σ := by unfold bmN br; rw [es0]
    have a2 : bzSo s0 = bzSo σ := by unfold bzSo bzSm br; rw [es0]
    have a3 : bmN r = bmN t := by unfold bmN br; rw [er]
    have a4 : bzSo r = bzSo t := by unfold bzSo bzSm br; rw [er]
    have a5 : bmN t = bmN β := by
      have := (bzKf_s C6.1).2
      unfold bmN
      simp only [this]
    obtain ⟨k1, k2, _⟩ := C6.1.2
    have t10 : bi t 6 10 = bi β 6 10 := uk.1 6 (by decide) (by decide) 10
    have t27 : ∀ j, bi t 27 j = bi β 27 j := uk.1 27 (by decide) (by decide)
    have β10 : bi β 6 10 = bi s0 6 10 := Fr.2.1.1 10 (by decide) (by decide)
    have β27 : ∀ j, bi β 27 j = bi s0 27 j := ut.1 27 (by decide) (by decide)
    have r6 : bi r 6 10 = bi s0 6 10 := (utr.1 6 (by decide) (by decide) 10).trans (t10.trans β10)
    have r27 : ∀ j, bi r 27 j = bi s0 27 j := fun j => (utr.1 27 (by decide) (by decide) j).trans ((t27 j).trans (β27 j))
    refine bqFin2 h T X1 (bUn_trans (bUn_mono us13 (by decide) (by decide)) (bUn_mono Rf.2.1 (by decide) (by decide))) (fun b hb => ?_) ⟨⟨?_, fun y y0 y1 => ?_⟩, ?_⟩ Akq Mrq Zq ?_
    · rw [er, uk.2.2.2.2 b (by simp only [List.mem_cons, List.not_mem_nil, or_false, not_or] at hb ⊢; omega)]
      exact uβ.2.2.2.2 b (by simp only [List.mem_cons, List.not_mem_nil, or_false, not_or] at hb ⊢; omega)
    · rw [r6]; omega
    · rw [r6, r27]; exact W0.2.1.1 y y0 y1
    · rw [r6]; omega
    · unfold bqN
      rw [a3, a4, a5, er]
      rw [n1, a2] at k1 k2
      rw [a1, es0] at n2 n3
      omega
end

/-! BUILD, 73: the case build -/
section
variable {d lvl : Nat} {σ σ0 σr β s s0 s1 t t1 r r1 r2 r3 s' : bSt} {f : Int → bSt → Prop} {fv : bSt → Prop} {Z Z0 Y X Zs Zr T ZE W : bZs} {x y v a b k i q g l dn : Int} {n n0 m z0 N N' μ L : Nat} {rk rk0 : Int → Nat} {S : List Nat} {F : List Int} {P QB : Int → Bool} {Q : Int → Prop}
theorem bqZ_n (h : bqZ N μ σ) (hN : N ≤ N') : bqZ N' μ σ := by
  obtain ⟨z1, z2, z3, z4, z5, z6⟩ := h
  exact ⟨z1, z2, z3, z4, z5, by omega⟩
theorem bqZ_un (u : bUn S F σ s) (hS : ∀ k ∈ [0, 1, 3, 4, 5, 6, 13, 14, 15, 16, 17, 18, 22, 23, 24, 33, 101, 102, 103, 104, 105, 106, 110, 111, 112, 113, 114, 115, 121, 122, 123, 124, 125, 126, 127, 128, 129, 134, 135, 136, 137, 138, 139, 140, 142, 143, 144], k ∉ S) (hF : ∀ k ∈ [49, 68, 73, 87, 88, 95], k ∉ F) (h : bqZ N μ σ) : bqZ N μ s := by
  obtain ⟨_, _, _, _, ⟨rk, n, Z, R⟩, _⟩ := id h
  exact bqZ_st (bqSt_u u hS hF) R.2.2.1.1 h
theorem bAk_un (u : bUn S F σ s) (hS : ∀ k ∈ [0, 4, 6, 13, 22, 23, 33, 101, 102, 103, 104, 105, 106], k ∉ S) (hF : 49 ∉ F) (h : bAk σ) : bAk s := by
  refine bAk_m h (fun b hb => u.1 b (hS _ ?_) ?_) (u.1 6 (hS 6 (by decide)) (by decide) 13) (u.2.1 49 (by decide) hF) (u.2.2.2.1 33 (hS 33 (by decide))) fun a b hb => u.2.2.2.2 b (hS _ ?_)
  · simp only [List.mem_cons, List.not_mem_nil, or_false] at hb ⊢; omega
  · simp only [List.mem_cons, List.not_mem_nil, or_false] at hb; omega
  · unfold bAd bAid at hb; simp only [List.mem_cons, List.not_mem_nil, or_false] at hb ⊢; omega
theorem bMr_un (u : bUn S F σ s) (hS : 30 ∉ S) (h : bMr σ) : bMr s := fun y y0 y1 => by rw [u.1 30 hS (by decide)]; exact h y y0 y1
theorem bqH_e {c k : Nat} (e : ∀ x ∈ [33, 14, 270], ∀ j, br s x j = br σ x j) (h : bqH c k σ) : bqH c k s := by
  have e1 : bmN s = bmN σ := by unfold bmN; simp only [e 33 (by decide)]
  have e2 : bzSo s = bzSo σ := by unfold bzSo bzSm; simp only [e 14 (by decide), e 270 (by decide)]
  unfold bqH at h ⊢
  rw [e1, e2]
  exact h
theorem bqH_un {c k : Nat} (u : bUn S F σ s) (hS : ∀ k ∈ [33, 14], k ∉ S) (h : bqH c k σ) : bqH c k s := bqH_e (fun x hx j => u.2.2.2.1 x (by
  simp only [List.mem_cons, List.not_mem_nil, or_false] at hx
  rcases hx with rfl | rfl | rfl
  · exact hS 33 (by decide)
  · exact hS 14 (by decide)
  · exact hS 14 (by decide)) j) h
/-- nothing but the answer is changed -/
theorem bqG_0 (hN : N ≤ N') (u : bUn [] [0] σ s) (h : bqG N μ σ) : bqG N' μ s := by
  obtain ⟨b1, b2, b3, b4, b5, b6, b7, b8⟩ := h
  have p := bPm_un u (by decide) (by decide) b5
  exact ⟨bTg_un u (by decide) (by decide) b1, bTst_un u (by decide) (by decide) b2, bRs_un u (by decide) b3, b4.imp (fun w => by rw [u.1 7 (by decide) (by decide)]; exact w) (fun w => bXe_un u (by decide) w), ⟨p.1, by have := p.2; omega⟩, bAk_un u (by decide) (by decide) b6, bMr_un u (by decide) b7, bqZ_n (bqZ_un u (by decide) (by decide) b8) hN⟩
theorem bqI_no {v : Int} (h : bI9 (bqG N μ) bqH L N σ) : bI9 (bqG (N + 1) μ) bqH L (N + 1) (bw (bC σ 1 6) 12 0 v) := by
  have u : bUn [] [0] σ (bw (bC σ 1 6) 12 0 v) := bUn_f (bUn_C bUn_refl) (by decide) (by decide)
  obtain ⟨a1, a2, a3, a4, c, k, a5, a6, a7⟩ := h
  have w := bI9_no' (G := fun _ => True) (H := bqH) (n := N) (L := L) (σ := σ) (v := v) (fun _ _ _ _ => trivial) (fun c k σ s u w => bqH_un u (by decide) w) ⟨a1, a2, a3, trivial, c, k, a5, a6, a7⟩
  exact ⟨w.1, w.2.1, w.2.2.1, bqG_0 (Nat.le_succ _) u a4, w.2.2.2.2⟩
/-- what the build has changed, on the class's side -/
theorem bqOut_un (hO : bqOut n Zr QB g l s1 t dn) : bUn bqKs bqFs s1 t ∧ ∀ b, b % 256 ∈ [48, 49] → t.2.2.2.1 b = s1.2.2.2.1 b := by
  have key : bUn [0, 1, 4, 5, 6, 13, 14, 15, 17, 18, 22, 23, 24, 25, 26, 27, 28, 29, 30, 31, 32, 33] [] s1 t := by
    rcases hO with ⟨_, _, s, W, _, _, Fg⟩ | ⟨_, _, _, s, s0, W, W0, _, Fr, _⟩ | ⟨_, Z, rk, m, s, s0, β, _, _, _, _, _, W, W0, _, _, Fr, _, _, _, _, C6, _⟩
    · exact bUn_trans (bUn_mono (bUn_S (S := bWkK) (F := []) bUn_refl W.1 (by decide)) (by decide) (by decide)) (bUn_mono (bmFg_un Fg) (by decide) (by decide))
    · exact bUn_trans (bUn_trans (bUn_mono (bUn_S (S := bWkK) (F := []) bUn_refl W.1 (by decide)) (by decide) (by decide)) (bUn_mono (bUn_S (S := bWkK) (F := []) bUn_refl W0.1 (by decide)) (by decide) (by decide))) (bUn_mono (bmFr_un Fr) (by decide) (by decide))
    · exact bUn_trans (bUn_trans (bUn_trans (bUn_mono (bUn_S (S := bWkK) (F := []) bUn_refl W.1 (by decide)) (by decide) (by decide)) (bUn_mono (bUn_S (S := bWkK) (F := []) bUn_refl W0.1 (by decide)) (by decide) (by decide))) (bUn_mono (bmFr_un Fr) (by decide) (by decide))) (bUn_mono (bzKf_un C6.1) (by decide) (by decide))
  exact ⟨bUn_mono key (by decide) (by decide), fun b hb => key.2.2.2.2 b (by simp only [List.mem_cons, List.not_mem_nil, or_false, not_or] at hb ⊢; omega)⟩
theorem bqOut_rg (hO : bqOut n Zr QB g l s1 t dn) : bRg dn := by
  rcases hO with ⟨e, _⟩ | ⟨e, _⟩ | ⟨_, Z, rk, m, s, s0, β, _, _, _, _, _, _, _, _, _, _, _, _, _, _, _, _, e⟩
  · rw [e]; decide
  · rw [e]; decide
  · have := bCn_b (P := fun t' => bqP QB s1 t' && decide (bzD (bzAl β m g l (bqT β m Z)) (Z.1 99 (t' * 256 + bi s1 10 0)))) 16
    exact ⟨by omega, by omega⟩
theorem bqOut_E (hO : bqOut n Zr QB g l s1 t dn) (c : g = 0 ∧ ¬ bqCo QB s1) : dn = -1 := by
  rcases hO with ⟨e, _⟩ | ⟨_, c', _⟩ | ⟨c', _⟩
  · exact e
  · exact absurd c (fun w => c'.elim (fun q => q w.1) fun q => w.2 q)
  · exact absurd c (fun w => c'.elim (fun q => q w.1) fun q => w.2 q)
theorem bW32_1 (h : bRg x) : ((0 ≤ bW32 (x - 1) ∧ bW32 (x - 1) < b - 1) ↔ (0 < x ∧ x < b)) ∨ ¬ b ≤ 65536 := by
  by_cases hb : b ≤ 65536
  · left
    by_cases e : x = -2147483648
    · subst e
      have : bW32 (-2147483648 - 1) = 2147483647 := by decide +kernel
      rw [this]
      omega
    · have : bW32 (x - 1) = x - 1 := bn_toInt ⟨by have := h.1; omega, by have := h.2; omega⟩
      rw [this]
      omega
  · exact Or.inr hb
/-- the targets of a mask -/
theorem bMs_mask (hT : bTg σ) (x0 : 0 < x) (x1 : x < bShl 1 (bi σ 12 22)) : bMs (fun t => bBit x t.toNat = true) x ∧ ∀ t, 0 ≤ t → t < 16 → bBit x t.toNat = true → bTgk σ t := by
  obtain ⟨c1, c2, c3⟩ := bShl_c hT
  have tc := hT.1
  refine ⟨⟨⟨by omega, by omega⟩, fun i _ _ => Iff.rfl⟩, fun t t0 t1 hb => ⟨t0, ?_⟩⟩
  have h1 : 2 ^ t.toNat ≤ x.toNat := Nat.ge_two_pow_of_testBit hb
  have h2 : x.toNat < 2 ^ (bi σ 12 22).toNat := by omega
  have h3 : t.toNat < (bi σ 12 22).toNat := by
    by_cases q : t.toNat < (bi σ 12 22).toNat
    · exact q
    · have := Nat.pow_le_pow_right (show 0 < 2 by decide) (show (bi σ 12 22).toNat ≤ t.toNat by omega)
      omega
  omega
/-- the reference behind the class's build, and what is compared -/
theorem rB (h : bI9 (bqG N μ) bqH L N σ) (hN : N ≤ 2000) (hμ : μ ≤ 1000 + σ.2.2.2.2.1) (R : bqR σ rk0 n Zr) (x0 : 0 < x) (x1 : x < bShl 1 (bi σ 12 22)) (g01 : g = 0 ∨ g = 1) (l0 : 0 ≤ l ∧ l < 1000) (T : bT68 σ s1) (X1 : bi s1 7 15 = -1 ∨ bXe s1) (D : ∀ t, bTgk σ t → bRn1 σ s1 t) (F1 : bFi s1) (L1 : bTl s1) (T1 : bTg s1) (R4 : bR4 s1) (hO : bqOut n Zr (fun t => bBit x t.toNat) g l s1 t dn) (le : bLe σ t) {c0 k0 : Nat} (hc : (dn ≠ -2 → c0 = 0 ∧ k0 = 0) ∧ c0 ≤ 1 ∧ k0 ≤ 6) (S1 : bqTs (bC t c0 k0) t1) (u01 : bUn bqKs bqFs s1 t1) (hk : (dn = -2 → k = 3) ∧ (dn ≠ -2 → k = 0 ∧ bj t1 154 0 = bL dn)) : bAf31 (fun s => ∃ μ', μ' ≤ 1000 + s.2.2.2.2.1 ∧ bI9 (bqG (N + 1) μ') bqH L (N + 1) s) σ x g l k t1 := by
  obtain ⟨b1, b2, b3, b4, b5, b6, b7, b8⟩ := h.2.2.2.1
  obtain ⟨Xm, hQ⟩ := bMs_mask b1 x0 x1
  have u1 : bUn bqKt bqFt s1 t1 := bUn_mono u01 (by decide) (by decide)
  have et1 : t1.2.2 = (bC t c0 k0).2.2 := S1.1
  have hm1 : ∀ b, b % 256 ∈ [48, 49] → t1.2.2.2.1 b = s1.2.2.2.1 b := fun b hb => by
    rw [et1]; exact (bqOut_un hO).2 b hb
  have le1 : bLe σ t1 := ⟨by rw [et1]; exact Nat.le_trans le.1 (Nat.le_add_right _ _), by rw [et1]; exact Nat.le_trans le.2 (Nat.le_add_right _ _)⟩
  obtain ⟨m1, m2, m3, m4, m5, ag, m7, m8, m9⟩ := bqMid h T D u1 hm1
  have u0 := bT68_un T
  have e22 : bi t1 12 22 = bi σ 12 22 := ag.2.2.1.trans (T.2.1 12 (by decide) (by decide) 22)
  have rx : bRg x := ⟨by have := Xm.1.1; omega, by have := Xm.1.2; omega⟩
  have rl : bRg l := ⟨by omega, by omega⟩
  have tst1 : bTst t1 := bTst_un u01 (by decide) (by decide) (bTst_un u0 (by decide) (by decide) b2)
  refine ⟨m1, r285n (d := 0) m4 rx (b01_rg g01) rl (fun w => absurd ⟨x0, by rw [e22]; exact x1⟩ w) (fun _ w => absurd ⟨l0.1, by omega⟩ w) fun _ _ => ?_⟩
  have hP : ∀ t', 0 ≤ t' → t' < 16 → (bqP (fun t => bBit x t.toNat) s1 t' = true ↔ bBit x t'.toNat = true ∧ bFx t1 (t' * 256 + bi t1 10 0) = 0) := fun t' _ _ => by
    unfold bqP
    rw [Bool.and_eq_true, decide_eq_true_eq, bFx_m ag, m9]
  -- behind the look
  have find : ∀ r1, (g ≠ 0 ∨ bqCo (fun t => bBit x t.toNat) s1) → bqLk (bqP (fun t => bBit x t.toNat) s1) x t1 r1 → bWp 11 283 [.ref 12, .int (bn x)] r1 (bRn fun q2 r2 => (q2 = 0 → bi (bw r2 12 0 3) 12 0 = k ∧ (k = 0 → bj (bw r2 12 0 3) 154 0 = bL 0) ∧ ∃ μ', μ' ≤ 1000 + (bw r2 12 0 3).2.2.2.2.1 ∧ bI9 (bqG (N + 1) μ') bqH L (N + 1) (bw r2 12 0 3)) ∧ (q2 ≠ 0 → bWp 11 286 [.ref 12, .int (bn x), .int (bn 0), .int (bn g), .int (bn l)] (bw r2 12 0 0) (bRn fun b s2 => bi s2 12 0 = k ∧ (k = 0 → bj s2 154 0 = bL b) ∧ ∃ μ', μ' ≤ 1000 + s2.2.2.2.2.1 ∧ bI9 (bqG (N + 1) μ') bqH L (N + 1) s2))) := fun r1 cond LK => by
    have tst2 : bTst r1 := bTst_un LK.1.2 (by decide) (by decide) tst1
    refine oF (d := 4) (d2 := 0) h hN R T X1 D F1 L1 T1 R4 Xm hQ hO cond hc S1 ⟨m2, m3, m4, ag, m8, m9⟩ u1 LK (b01_rg g01) l0 (fun r2 e2 hI Rf => ⟨fun _ => ⟨?_, fun w => ?_, μ, ?_, bqGx_t (hI _ bqTs_0) ?_⟩, fun w => absurd rfl w⟩) fun r2 KK Rf => ⟨fun w => absurd w (by decide), fun _ => KK _ bqTs_0 _ fun r hI er ur ⟨Z, m, β, _, _, _, _, edn⟩ => ?_⟩
    · rw [hk.1 e2]; exact bi_eq (by decide)
    · rw [hk.1 e2] at w; exact absurd w (by decide)
    · have e : (bw r2 12 0 3).2.2.2.2.1 = t1.2.2.2.2.1 := by
        show r2.2.2.2.2.1 = _
        rw [Rf.1, LK.1.1]
      rw [e]
      have := le1.1
      omega
    · have tst3 : bTst r2 := bTst_un Rf.2.1 (by decide) (by decide) tst2
      exact bTst_un (bUn_f (S := []) (F := [0]) bUn_refl (by decide) (by decide)) (by decide) (by decide) tst3
    · have ne : dn ≠ -2 := by rw [edn]; have := (bCn_b (P := fun t' => bqP (fun t => bBit x t.toNat) s1 t' && decide (bzD (bzAl β m g l (bqT β m Z)) (Z.1 99 (t' * 256 + bi s1 10 0)))) 16).1; omega
      obtain ⟨k1, k2⟩ := hk.2 ne
      have e2 : r.2 = t1.2 := by
        rw [er]
        show r2.2 = _
        rw [Rf.1, LK.1.1]
      refine ⟨?_, fun _ => ?_, 1000 + t.2.2.2.2.1, ?_, bqGx_t hI ?_⟩
      · rw [ur.2.1 0 (by decide) (by decide), k1]; exact bi_eq (by decide)
      · have : bj r 154 0 = bj t1 154 0 := by unfold bj; rw [e2]
        rw [this, k2]
      · rw [e2, et1]
        exact Nat.add_le_add_left (Nat.le_add_right _ _) _
      · exact bTst_un ur (by decide) (by decide) (bTst_un (bUn_f (S := []) (F := [0]) bUn_refl (by decide) (by decide)) (by decide) (by decide) (bTst_un Rf.2.1 (by decide) (by decide) tst2))
  refine rLk (d := 5) (P := bqP (fun t => bBit x t.toNat) s1) m2 m3 m4 m5 m7 Xm (fun t' t0 t1' q => ?_) hP (fun co r1 LK => ⟨fun _ => find r1 (Or.inr fun t' t0 t1' q => co t' t0 t1' q) LK, fun w => absurd rfl w.1⟩) fun nc r1 LK => ⟨fun w => find r1 (Or.inl (w.resolve_left (by decide))) LK, fun w => ?_⟩
  · have := hQ t' t0 t1' q
    exact ⟨this.1, by rw [e22]; exact this.2⟩
  · have cond : g = 0 ∧ ¬ bqCo (fun t => bBit x t.toNat) s1 := ⟨w.2, fun co => nc fun t' t0 t1' q => co t' t0 t1' q⟩
    have edn := bqOut_E hO cond
    obtain ⟨hc1, hc2⟩ := hc.1 (by omega)
    subst hc1 hc2
    replace S1 : bqTs t t1 := S1
    obtain ⟨k1, k2⟩ := hk.2 (by omega)
    refine oE (d := 9) h R T X1 hO cond S1 LK bqTs_0 rx (b01_rg g01) rl (by decide) (by decide) fun r e hI er U e3 => ⟨?_, fun _ => ?_, μ, ?_, bqGx_t hI ?_⟩
    · rw [U.2.1 0 (by decide) (by decide), k1]; exact bi_eq (by decide)
    · have : bj r 154 0 = bj t1 154 0 := by
        unfold bj
        rw [er]
        show r1.2.1 154 _ = _
        rw [LK.1.1]
      rw [this, k2, edn]
    · have : r.2.2.2.2.1 = t1.2.2.2.2.1 := by
        rw [er]
        show r1.2.2.2.2.1 = _
        rw [LK.1.1]
      rw [this]
      have := le1.1
      omega
    · have tst2 : bTst r1 := bTst_un LK.1.2 (by decide) (by decide) tst1
      exact bTst_un U (by decide) (by decide) (bTst_un (bUn_f (S := []) (F := [0]) bUn_refl (by decide) (by decide)) (by decide) (by decide) tst2)
/-- build -/
theorem k31 (h : bI9 (bqG N μ) bqH L N σ) (hN : N ≤ 2000) (hμ : μ ≤ 1000 + σ.2.2.2.2.1) : bK31 (fun s => ∃ μ', μ' ≤ 1000 + s.2.2.2.2.1 ∧ bI9 (bqG (N + 1) μ') bqH L (N + 1) s) σ := by
  obtain ⟨b1, b2, b3, b4, b5, b6, b7, b8⟩ := h.2.2.2.1
  obtain ⟨_, _, _, _, ⟨rk0, n, Zr, R⟩, _⟩ := id b8
  obtain ⟨c1, c2, _⟩ := bShl_c b1
  have tc := b1.1
  have u0 : bUn [] [] σ (bC σ 1 6) := bUn_C bUn_refl
  have T0 := bTg_un u0 (by decide) (by decide) b1
  have no : ∀ v : Int, ∃ μ', μ' ≤ 1000 + (bw (bC σ 1 6) 12 0 v).2.2.2.2.1 ∧ bI9 (bqG (N + 1) μ') bqH L (N + 1) (bw (bC σ 1 6) 12 0 v) := fun v => ⟨μ, by
    have : (bw (bC σ 1 6) 12 0 v).2.2.2.2.1 = σ.2.2.2.2.1 + 1 := rfl
    omega, bqI_no h⟩
  refine wk31 fun x g l hx hg hl => ?_
  have iw : (0 ≤ bW32 (x - 1) ∧ bW32 (x - 1) < bShl 1 (bi σ 12 22) - 1) ↔ (0 < x ∧ x < bShl 1 (bi σ 12 22)) := (bW32_1 hx).resolve_right (by omega)
  refine ⟨rfl, fun A hA => sq174_0 (bWp_mono _) hA hx (b01_rg hg) hl ?_⟩
  rw [tc.2.2]
  refine ⟨⟨by omega, by omega⟩, w136 (bRgI _) ⟨by omega, by omega⟩ (by decide) (fun q => ?_) fun q => ?_⟩
  · have q := iw.1 q
    refine w138 hl (by decide) (by decide) (by decide) (fun q2 => ?_) fun q2 => ?_
    · obtain ⟨Xm, hQ⟩ := bMs_mask b1 q.1 q.2
      refine wB (d := 0) h hN hμ R Xm hQ hg ⟨q2.1, by omega⟩ fun s1 t dn T X1 D F1 L1 T1 R4 hO le => ?_
      obtain ⟨uO, _⟩ := bqOut_un hO
      refine ⟨fun e => w139 (by decide) (by decide) (fun w => absurd rfl w) fun _ => ?_, fun e => w139 (by decide) (by decide) (fun _ => bRnx_i ?_ ?_) fun w => absurd w (by decide)⟩
      · exact rB h hN hμ R q.1 q.2 hg ⟨q2.1, by omega⟩ T X1 D F1 L1 T1 R4 hO le (c0 := 1) (k0 := 6) ⟨fun w => absurd e w, by decide, by decide⟩ bqTs_refl (bUn_C uO) ⟨fun _ => rfl, fun w => absurd e w⟩
      · exact bqOut_rg hO
      · exact rB h hN hμ R q.1 q.2 hg ⟨q2.1, by omega⟩ T X1 D F1 L1 T1 R4 hO le (c0 := 0) (k0 := 0) ⟨fun _ => ⟨rfl, rfl⟩, by decide, by decide⟩ bqTs_o (bUn_o uO) ⟨fun w => absurd w e, fun _ => ⟨rfl, bj_eq⟩⟩
    · exact ⟨bMid_C, r285n (d := 0) T0 hx (b01_rg hg) hl (fun w => absurd q w) (fun _ _ => ⟨bi_eq (by decide), fun w => absurd w (by decide), no 2⟩) (fun _ w => absurd ⟨w.1, w.2⟩ q2)⟩
  · exact ⟨bMid_C, r285n (d := 0) T0 hx (b01_rg hg) hl (fun _ => ⟨bi_eq (by decide), fun w => absurd w (by decide), no 1⟩) (fun w => absurd (iw.2 w) q) (fun w => absurd (iw.2 w) q)⟩
end

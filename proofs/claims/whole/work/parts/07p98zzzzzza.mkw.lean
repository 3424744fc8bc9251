/-! BUILD, 75: the build of a test, on both sides -/
def bqK4 : List Nat := bLk2 ++ bmRK ++ bOblK ++ 140 :: 141 :: bRzK
def bqF4 : List Int := [0, 7, 49, 95, 105, 106, 111] ++ bRzF
theorem bCnp_f {P : Int → Bool} : ∀ n : Nat, (∀ k : Int, 0 ≤ k → k < (n : Int) → P k = false) → bCnp P n = 0
  | 0, _ => rfl
  | n + 1, h => by
    have h1 := h n (by omega) (by omega)
    have h2 := bCnp_f n fun k k0 k1 => h k k0 (by omega)
    unfold bCnp
    rw [h1, h2]
    rfl
section
variable {d lvl : Nat} {σ σ0 σr β s s0 s1 t t1 r r1 r2 r3 s' : bSt} {f : Int → bSt → Prop} {fv : bSt → Prop} {Z Z0 Y X Zs Zr T ZE W : bZs} {x y v a b k i q g l dn τ : Int} {n n0 m z0 N N' μ L : Nat} {rk rk0 : Int → Nat} {S : List Nat} {F : List Int} {P QB : Int → Bool} {Q : Int → Prop}
theorem bCnp_1 {P D : Int → Bool} (h : ∀ t', 0 ≤ t' → t' < 16 → t' ≠ τ → P t' = false) (e : bCnp (fun t' => P t' && D t') 16 = 1) : P τ = true ∧ D τ = true := by
  by_cases q : (P τ && D τ) = true
  · exact (Bool.and_eq_true _ _).mp q
  · rw [bCnp_f (P := fun t' => P t' && D t') 16 fun k k0 k1 => by
      by_cases ek : k = τ
      · rw [ek]; exact Bool.eq_false_iff.2 q
      · show (P k && D k) = false
        rw [h k k0 k1 ek]
        rfl] at e
    exact absurd e (by decide)
/-- what a done action gives -/
theorem bqKv (BI : bzI β m W) (C6 : bzCC β m (bzCo m W) t) (a0 : 0 ≤ a) (a1 : a < (m : Int)) (hD : bzD (bzCo m W) a) : bi t (bNe a) 8 = (bzCo m W).1 112 a ∧ 0 ≤ bi t (bNe a) 8 ∧ bi t (bNe a) 8 < 1000 := by
  obtain ⟨c1, c2, _, c4, _⟩ := bzCo_e (n := m) (fun a a0 am => (BI.2.2.1 a a0 am).1) BI.2.2.2.2.2.2.2.2.2.2.2.2.2 m (Nat.le_refl _)
  have e142 := c4 a a0 a1
  have dW : bzD W a := by
    unfold bzD at hD ⊢
    by_cases q : W.1 140 a ≠ 0 ∧ W.1 142 a = -1
    · rw [if_pos q] at e142; omega
    · rw [if_neg q] at e142; omega
  obtain ⟨_, j2, _, j4⟩ := BI.2.2.1 a a0 a1
  have k := j4 dW
  obtain ⟨g, _, _, e112⟩ := BI.2.1 a a0 a1 _ k
  have n143 : (bzCo m W).1 143 a ≠ -1 := by
    rw [c1 143 (by decide)]
    exact j2 (by have := dW.1; omega)
  have ad := (C6.2.2.2 a a0 a1).2
  have kv := (ad.2.2.2.2.1 (ad.2.2.2.2.2.1 n143)).2.2.1
  have eV : bzV β (bzCo m W) a = bzV β W a := (bzK_m (σ := β) (Y := bzCo m W) (Z := W) (b := a) (fun c hc => c1 c (by
    simp only [List.mem_cons, List.not_mem_nil, or_false] at hc ⊢
    omega) a) fun i i0 i1 => ⟨c1 106 (by decide) _, Or.inr (c1 112 (by decide) _)⟩).2.1
  rw [kv, eV, bzV_k BI.1.1.1, c1 112 (by decide) a, e112]
  exact ⟨rfl, g.2.2.2.2.2.2.2.2⟩
/-- a mask of one target -/
theorem bMs_one (t0 : 0 ≤ τ) (t1 : τ < 16) : bShl 1 τ = ((2 ^ τ.toNat : Nat) : Int) ∧ ∀ t', 0 ≤ t' → (bBit (bShl 1 τ) t'.toNat = true ↔ t' = τ) := by
  have e := bShl_one t0 (by omega)
  refine ⟨e, fun t' t0' => ?_⟩
  unfold bBit
  rw [e, Int.toNat_natCast, Nat.testBit_two_pow, decide_eq_true_eq]
  omega
theorem bqOut_1 (L1 : bTl s1) (T1 : bTg s1) (tk : bTgk s1 τ) (hO : bqOut n Zr (fun t => bBit (bShl 1 τ) t.toNat) g l s1 t dn) (l0 : 0 ≤ l) (e : dn = 1) : ∃ a, (0 ≤ a ∧ a < 120) ∧ bi t 30 (τ * 256 + bi s1 10 0) = a ∧ br t 33 a = some (bAi a) ∧ 0 ≤ bi t (bNe a) 8 ∧ bi t (bNe a) 8 < 1000 := by
  have tc := T1.1
  have t16 : τ < 16 := by have := tk.2; omega
  have t0 := tk.1
  obtain ⟨_, one⟩ := bMs_one t0 t16
  have hw : ∀ t', 0 ≤ t' → t' < 16 → bqP (fun t => bBit (bShl 1 τ) t.toNat) s1 t' = true → bTgk s1 t' ∧ bFx s1 (t' * 256 + bi s1 10 0) = 0 := fun t' q0 q1 tp => by
    unfold bqP at tp
    rw [Bool.and_eq_true, decide_eq_true_eq, one t' q0] at tp
    exact ⟨by rw [tp.1]; exact tk, tp.2⟩
  rcases hO with ⟨w, _⟩ | ⟨w, _⟩ | ⟨_, Z, rk, m, s, s0, β, a1, a2, a3, a4, a5, W, W0, e10, Cb, Fr, Cr, BI, BR, Wc, C6, ng, edn⟩
  · omega
  · omega
  · rw [e] at edn
    obtain ⟨p1, p2⟩ := bCnp_1 (τ := τ) (P := bqP (fun t => bBit (bShl 1 τ) t.toNat) s1) (D := fun t' => decide (bzD (bzAl β m g l (bqT β m Z)) (Z.1 99 (t' * 256 + bi s1 10 0)))) (fun t' q0 q1 ne => by
      by_cases w : bqP (fun t => bBit (bShl 1 τ) t.toNat) s1 t' = true
      · unfold bqP at w
        rw [Bool.and_eq_true, one t' q0] at w
        exact absurd w.1 ne
      · exact Bool.eq_false_iff.2 w) edn.symm
    rw [decide_eq_true_eq] at p2
    obtain ⟨_, _, inV⟩ := bmOd_w (σ := s1) (P := bqP (fun t => bBit (bShl 1 τ) t.toNat) s1) L1 T1 hw 16 (Nat.le_refl _)
    have hy := inV τ t0 t16 p1
    obtain ⟨_, my, _⟩ := a3.1 _ hy
    have m120 := a2.1.2.1
    refine ⟨_, ⟨my.1, by omega⟩, ?_, (C6.2.2.2 _ my.1 my.2).1.1, (bqKv (bzI_lp l0 122 _ BI BR) C6 my.1 my.2 p2).2⟩
    rw [(bzKf_un C6.1).1 30 (by decide) (by decide)]
    exact Cb.2.2.2.1 _ hy
/-- the reference behind the class's build -/
theorem r42 (h : bI9 (bqG N μ) bqH L N σ) (hN : N ≤ 2000) (R : bqR σ rk0 n Zr) (tk : bTgk σ τ) (p : 0 < bi σ 92 τ) (T : bT68 σ s1) (X1 : bi s1 7 15 = -1 ∨ bXe s1) (D : ∀ t, bTgk σ t → bRn1 σ s1 t) (F1 : bFi s1) (L1 : bTl s1) (T1 : bTg s1) (R4 : bR4 s1) (hO : bqOut n Zr (fun t => bBit (bShl 1 τ) t.toNat) 0 0 s1 t dn) {c0 k0 : Nat} (hc : (dn ≠ -2 → c0 = 0 ∧ k0 = 0) ∧ c0 ≤ 1 ∧ k0 ≤ 6) (S1 : bqTs (bC t c0 k0) t1) (u1 : bUn bqKt bqFt s1 t1)
    (KO : dn = -2 → ∀ r, bI9 (bqGx (N + 1) μ) bqH L (N + 1) r → r.2 = t1.2 → bUn bqK4 [0, 7, 49] t1 r → bi r 12 0 = 2 → f 0 r)
    (KN : dn ≠ -2 → dn ≠ 1 → ∀ μ' r, (μ' = μ ∨ μ' = 1000 + t.2.2.2.2.1) → bI9 (bqGx (N + 1) μ') bqH L (N + 1) r → r.2 = t1.2 → bUn bqK4 bqF4 t1 r → bi r 12 0 = 0 → bi r 12 111 = 0 → f (-1) r)
    (KY : dn = 1 → ∀ a r, bI9 (bqGx (N + 1) (1000 + t.2.2.2.2.1)) bqH L (N + 1) r → r.2 = t1.2 → bUn bqK4 bqF4 t1 r → bi r 12 0 = 0 → bi r 12 111 = 0 → bi r 99 (256 * τ + bi r 10 0) = a → bi t 30 (τ * 256 + bi s1 10 0) = a → (0 ≤ a ∧ a < 120) → bi r 112 a = bi t (bNe a) 8 → (0 ≤ bi r 112 a ∧ bi r 112 a < 1000) → 0 ≤ bi r 12 112 ∧ ∀ r', bGtr τ (bi r 112 a) (bi r 12 112) 4 r r' → f (bPsd (bi r 92 τ) (bi r 93 τ) (bi r 112 a) (fun q => bKbit r (4000 * τ + q)) (bi r 12 112) 4) r') : bMid σ t1 ∧ bWp 12 304 [.ref 12, .int (bn τ)] t1 (bRn f) := by
  obtain ⟨b1, b2, b3, b4, b5, b6, b7, b8⟩ := h.2.2.2.1
  have tc := b1.1
  have t0 := tk.1
  have t16 : τ < 16 := by have := tk.2; omega
  obtain ⟨e2, one⟩ := bMs_one t0 t16
  obtain ⟨_, _, cc⟩ := bShl_c b1
  have x1 : bShl 1 τ < bShl 1 (bi σ 12 22) := by
    rw [e2, cc]
    have : 2 ^ τ.toNat < 2 ^ (bi σ 12 22).toNat := Nat.pow_lt_pow_right (by decide) (by have := tk.2; omega)
    omega
  have x0 : 0 < bShl 1 τ := by
    rw [e2]
    have := Nat.one_le_two_pow (n := τ.toNat)
    omega
  obtain ⟨Xm, hQ⟩ := bMs_mask b1 x0 x1
  have et1 : t1.2.2 = (bC t c0 k0).2.2 := S1.1
  have hm1 : ∀ b, b % 256 ∈ [48, 49] → t1.2.2.2.1 b = s1.2.2.2.1 b := fun b hb => by
    rw [et1]; exact (bqOut_un hO).2 b hb
  obtain ⟨m1, m2, m3, m4, m5, ag, m7, m8, m9⟩ := bqMid h T D u1 hm1
  have u0 := bT68_un T
  have e22 : bi t1 12 22 = bi σ 12 22 := ag.2.2.1.trans (T.2.1 12 (by decide) (by decide) 22)
  have e92 : bi t1 92 τ = bi σ 92 τ := (u1.1 92 (by decide) (by decide) τ).trans (u0.1 92 (by decide) (by decide) τ)
  have rx : bRg (bShl 1 τ) := ⟨by omega, by have := Xm.1.2; omega⟩
  have rτ : bRg τ := ⟨by omega, by omega⟩
  have hP : ∀ t', 0 ≤ t' → t' < 16 → (bqP (fun t => bBit (bShl 1 τ) t.toNat) s1 t' = true ↔ bBit (bShl 1 τ) t'.toNat = true ∧ bFx t1 (t' * 256 + bi t1 10 0) = 0) := fun t' _ _ => by
    unfold bqP
    rw [Bool.and_eq_true, decide_eq_true_eq, bFx_m ag, m9]
  have e0 : ∀ u : bSt, bi (bw (bw u 12 0 0) 12 111 0) 12 0 = 0 ∧ bi (bw (bw u 12 0 0) 12 111 0) 12 111 = 0 ∧ bqTs u (bw (bw u 12 0 0) 12 111 0) ∧ (bw (bw u 12 0 0) 12 111 0).2 = u.2 ∧ bUn [] [0, 111] u (bw (bw u 12 0 0) 12 111 0) := fun u => ⟨by rw [bi_nj (by decide) (by decide) (by decide)]; exact bi_eq (by decide), bi_eq (by decide), bqTs_trans bqTs_0 bqTs_111, rfl, bUn_f (bUn_f bUn_refl (by decide) (by decide)) (by decide) (by decide)⟩
  -- behind the look
  have find : ∀ r1, ((0 : Int) ≠ 0 ∨ bqCo (fun t => bBit (bShl 1 τ) t.toNat) s1) → bqLk (bqP (fun t => bBit (bShl 1 τ) t.toNat) s1) (bShl 1 τ) t1 r1 → bWp 11 283 [.ref 12, .int (bn (bShl 1 τ))] r1 (bRn fun q2 r2 => (q2 = 0 → f 0 (bw r2 12 0 2)) ∧ (q2 ≠ 0 → bWp 11 286 [.ref 12, .int (bn (bShl 1 τ)), .int (bn 0), .int (bn 0), .int (bn 0)] (bw (bw r2 12 0 0) 12 111 0) (bRn (bqFg τ f)))) := fun r1 cond LK => by
    refine oF (d := 4) (d2 := 0) h hN R T X1 D F1 L1 T1 R4 Xm hQ hO cond hc S1 ⟨m2, m3, m4, ag, m8, m9⟩ u1 LK (by decide) ⟨by decide, by decide⟩ (fun r2 e2' hI Rf => ⟨fun _ => ?_, fun w => absurd rfl w⟩) fun r2 KK Rf => ⟨fun w => absurd w (by decide), fun _ => ?_⟩
    · refine KO e2' _ (hI _ bqTs_0) ?_ ?_ (bi_eq (by decide))
      · show r2.2 = _
        rw [Rf.1, LK.1.1]
      · exact bUn_f (bUn_trans (bUn_mono LK.1.2 (by decide) (by decide)) (bUn_mono Rf.2.1 (by decide) (by decide))) (by decide) (by decide)
    · obtain ⟨z0, z111, zs, z2, zu⟩ := e0 r2
      refine KK _ zs _ fun r hI er ur ⟨Z, m, β, hA, R0, BL, C6, edn⟩ => ?_
      have e2' : r.2 = t1.2 := by rw [er, z2, Rf.1, LK.1.1]
      have ne2 : dn ≠ -2 := by rw [edn]; have := (bCn_b (P := fun t' => bqP (fun t => bBit (bShl 1 τ) t.toNat) s1 t' && decide (bzD (bzAl β m 0 0 (bqT β m Z)) (Z.1 99 (t' * 256 + bi s1 10 0)))) 16).1; omega
      have ur1 : bUn bqK4 bqF4 t1 r := bUn_trans (bUn_trans (bUn_trans (bUn_mono LK.1.2 (by decide) (by decide)) (bUn_mono Rf.2.1 (by decide) (by decide))) (bUn_mono zu (by decide) (by decide))) (bUn_mono ur (by decide) (by decide))
      have r0 : bi r 12 0 = 0 := (ur.2.1 0 (by decide) (by decide)).trans z0
      have r111 : bi r 12 111 = 0 := (ur.2.1 111 (by decide) (by decide)).trans z111
      refine ⟨fun e1 => ?_, fun n1 => KN ne2 n1 _ r (Or.inr rfl) hI e2' ur1 r0 r111⟩
      rw [e1] at edn
      obtain ⟨p1, p2⟩ := bCnp_1 (τ := τ) (P := bqP (fun t => bBit (bShl 1 τ) t.toNat) s1) (D := fun t' => decide (bzD (bzAl β m 0 0 (bqT β m Z)) (Z.1 99 (t' * 256 + bi s1 10 0)))) (fun t' q0 q1 ne => by
        by_cases w : bqP (fun t => bBit (bShl 1 τ) t.toNat) s1 t' = true
        · unfold bqP at w
          rw [Bool.and_eq_true, one t' q0] at w
          exact absurd w.1 ne
        · exact Bool.eq_false_iff.2 w) edn.symm
      rw [decide_eq_true_eq] at p2
      obtain ⟨a, ea, ⟨a0, a1, am⟩, g1, g2, _⟩ := hA τ t0 t16 p1
      rw [← ea] at p2
      have e10 : bi r 10 0 = bi s1 10 0 := (ur1.1 10 (by decide) (by decide) 0).trans m9
      have e99 : bi r 99 (256 * τ + bi r 10 0) = a := by
        rw [e10, ur.1 99 (by decide) (by decide)]; exact g1
      obtain ⟨v1, v2, v3⟩ := bqKv BL C6 a0 a1 p2
      have e112 : bi r 112 a = bi t (bNe a) 8 := ((R0.1.2.2.2 a a0 a1).1 112 (by decide)).trans v1.symm
      have rc : 0 ≤ bi r 112 a ∧ bi r 112 a < 1000 := by rw [e112]; exact ⟨v2, v3⟩
      obtain ⟨k1, k2⟩ := KY e1 a r hI e2' ur1 r0 r111 e99 g2 ⟨a0, by omega⟩ e112 rc
      rw [e99]
      exact ⟨hI.2.2.1, ⟨a0, by omega⟩, rc, r111, k1, k2⟩
  refine ⟨m1, r304n (d := 0) m4 rτ rfl (fun w => absurd (show bTgk t1 τ from ⟨t0, by rw [e22]; exact tk.2⟩) w) (fun _ w => absurd (by rw [e92]; exact p) w) fun _ _ => ?_⟩
  refine rLk (d := 5) (P := bqP (fun t => bBit (bShl 1 τ) t.toNat) s1) m2 m3 m4 m5 m7 Xm (fun t' t0 t1' q => ?_) hP (fun co r1 LK => ⟨fun _ => find r1 (Or.inr fun t' t0 t1' q => co t' t0 t1' q) LK, fun w => absurd rfl w⟩) fun nc r1 LK => ⟨fun w => absurd w (by decide), fun _ => ?_⟩
  · have := hQ t' t0 t1' q
    exact ⟨this.1, by rw [e22]; exact this.2⟩
  · have cond : (0 : Int) = 0 ∧ ¬ bqCo (fun t => bBit (bShl 1 τ) t.toNat) s1 := ⟨rfl, fun co => nc fun t' t0 t1' q => co t' t0 t1' q⟩
    have edn := bqOut_E hO cond
    obtain ⟨hc1, hc2⟩ := hc.1 (by omega)
    subst hc1 hc2
    replace S1 : bqTs t t1 := S1
    obtain ⟨z0, z111, zs, z2, zu⟩ := e0 r1
    refine oE (d := 9) h R T X1 hO cond S1 LK zs rx (by decide) (by decide) (by decide) (by decide) fun r e hI er U e3 => ⟨fun w => absurd w (by decide), fun _ => KN (by omega) (by omega) μ r (Or.inl rfl) hI ?_ ?_ ?_ ?_⟩
    · rw [er, z2, LK.1.1]
    · exact bUn_trans (bUn_trans (bUn_mono LK.1.2 (by decide) (by decide)) (bUn_mono zu (by decide) (by decide))) (bUn_mono U (by decide) (by decide))
    · exact (U.2.1 0 (by decide) (by decide)).trans z0
    · exact (U.2.1 111 (by decide) (by decide)).trans z111
end

/-! BUILD, 72: what a build comes to, on both sides -/
/-- the sound ones of some targets -/
def bqP (QB : Int → Bool) (s1 : bSt) (t : Int) : Bool := QB t && decide (bFx s1 (t * 256 + bi s1 10 0) = 0)
abbrev bqCo (QB : Int → Bool) (s1 : bSt) : Prop := ∀ t, 0 ≤ t → t < 16 → QB t = true → bqP QB s1 t = true
/-- how the class's build has come out -/
def bqOut (n : Nat) (Zr : bZs) (QB : Int → Bool) (g l : Int) (s1 t : bSt) (dn : Int) : Prop :=
  (dn = -1 ∧ (g = 0 ∧ ¬ bqCo QB s1) ∧ ∃ s, bWk s1 s ∧ bi s 6 10 = bi s1 6 10 + 1 ∧ bi s 6 13 = n ∧ bmFg n s t) ∨
  (dn = -2 ∧ (g ≠ 0 ∨ bqCo QB s1) ∧ bmAl s1 (bmOd s1 (bqP QB s1) 16) (bqS s1 Zr) = none ∧ ∃ s s0, bWk s1 s ∧ bWk s s0 ∧ bi s0 6 10 = bi s1 6 10 + 2 ∧ bmFr n s0 t ∧ bi t 6 13 = n ∧ (∀ a, (n : Int) ≤ a → a ≤ 120 → bAm1 t a) ∧ bMr t) ∨
  ((g ≠ 0 ∨ bqCo QB s1) ∧ ∃ (Z : bZs) (rk : Int → Nat) (m : Nat) (s s0 β : bSt), bmAl s1 (bmOd s1 (bqP QB s1) 16) (bqS s1 Zr) = some Z ∧ bmI0 rk m Z ∧ bmI1 s1 (bmOd s1 (bqP QB s1) 16) rk m Z ∧ bmCl s1 (bmOd s1 (bqP QB s1) 16) ∧ bqM n m (bqS s1 Zr) Z ∧ bWk s1 s ∧ bWk s s0 ∧ bi s0 6 10 = bi s1 6 10 + 2 ∧ bmC n (bmOd s1 (bqP QB s1) 16) Z m β ∧ bmFr n s0 β ∧ bqCr m Z β ∧ bzI β m (bqT β m Z) ∧ bzRn0 rk m (bqT β m Z) ∧ bmWc β m (bmBy β 48 (bqA Z)) ∧ bzCC β m (bzAl β m g l (bqT β m Z)) t ∧ (∀ b, 0 ≤ b → b < (m : Int) → ¬ bzG (bzLp β m g l 122 (bqT β m Z)) b) ∧ dn = bCnp (fun t' => bqP QB s1 t' && decide (bzD (bzAl β m g l (bqT β m Z)) (Z.1 99 (t' * 256 + bi s1 10 0)))) 16)
theorem bCnp_0 {P : Int → Bool} : ∀ n : Nat, 0 ≤ bCnp P n
  | 0 => Int.le_refl 0
  | n + 1 => by have := bCnp_0 (P := P) n; unfold bCnp; split <;> omega
section
variable {d lvl : Nat} {σ σ0 σr β s s0 s1 t t1 r r1 r2 r3 s' : bSt} {f : Int → bSt → Prop} {fv : bSt → Prop} {Z Z0 Y X Zs Zr T ZE W : bZs} {x y v a b k i q g l dn : Int} {n n0 m z0 N μ L : Nat} {rk rk0 : Int → Nat} {S : List Nat} {F : List Int} {P QB : Int → Bool} {Q : Int → Prop}
/-- the class: rules' numbers, then the build -/
theorem wB (h : bI9 (bqG N μ) bqH L N σ) (hN : N ≤ 2000) (hμ : μ ≤ 1000 + σ.2.2.2.2.1) (R : bqR σ rk0 n Zr) (Xm : bMs (fun t => QB t = true) x) (hQ : ∀ t, 0 ≤ t → t < 16 → QB t = true → bTgk σ t) (g01 : g = 0 ∨ g = 1) (l0 : 0 ≤ l ∧ l < 1000)
    (K : ∀ s1 t dn, bT68 σ s1 → (bi s1 7 15 = -1 ∨ bXe s1) → (∀ t, bTgk σ t → bRn1 σ s1 t) → bFi s1 → bTl s1 → bTg s1 → bR4 s1 → bqOut n Zr QB g l s1 t dn → bLe σ t → f dn t) : bWp (d + 10) 68 [.ref 6] σ (bRv fun s1 => bWp (d + 10) 46 [.ref 5, .int (bn x), .int (bn g), .int (bn l)] s1 (bRn f)) := by
  obtain ⟨b1, b2, b3, b4, b5, b6, b7, b8⟩ := h.2.2.2.1
  refine w68 (d := d + 2) b1 (bRs_S b3) b4 fun s1 T X1 D => ?_
  have u0 := bT68_un T
  have F1 := bFi_un u0 (by decide) h.2.1
  have L1 := bTl_un u0 (by decide) (by decide) h.2.2.1
  have T1 := bTg_68 T b1
  have e22 : bi s1 12 22 = bi σ 12 22 := T.2.1 12 (by decide) (by decide) 22
  have tk1 : ∀ t, bTgk s1 t ↔ bTgk σ t := fun t => by unfold bTgk; rw [e22]
  have R4 : bR4 s1 := fun t ht => (D t ((tk1 t).1 ht)).2.2
  have e61 : bi s1 6 10 = bi σ 6 10 := T.2.1 6 (by decide) (by decide) 10
  have M1 : bMks s1 := by
    unfold bMks
    simp only [T.2.1 6 (by decide) (by decide), T.2.1 27 (by decide) (by decide)]
    exact b5.1
  have m10 := b5.1.1
  have m11 := b5.2
  have St : bqSt n σ s1 := bqSt_u u0 (by decide) (by decide)
  have R1 := bqR_st St R
  obtain ⟨⟨I0, Ik, Jc⟩, ⟨A1, Ch⟩, ⟨c49, rows, _, _⟩, rng⟩ := R1
  have Fr := b8.2.2.2.1
  have n120 := I0.1.2.1
  have c49σ := R.2.2.1.1
  have C : bqCr n Zr s1 := ⟨by rw [T.2.1 6 (by decide) (by decide)]; exact b6.1.1.trans c49σ, A1, bqCh_of (μ := μ) Ch ⟨Fr.1, fun x hx hx2 => by rw [T.1]; exact Fr.2 x hx hx2⟩ (by rw [T.1]; exact hμ), fun a h1 h2 => bAm1_o (b6.2.2.2 a (by omega) h2) (fun b hb j => u0.1 b (by
    unfold bAi bKe at hb
    unfold bEvK
    simp only [List.mem_cons, List.not_mem_nil, or_false, not_or] at hb ⊢
    omega) (by
    unfold bAi bKe at hb
    simp only [List.mem_cons, List.not_mem_nil, or_false] at hb
    omega) j) (u0.2.2.2.1 33 (by decide) a) (fun b _ => by rw [T.1]), fun y y0 y1 => by rw [T.2.1 30 (by decide) (by decide)]; exact b7 y y0 y1⟩
  refine bWp_n (f := fun dn t => bqOut n Zr QB g l s1 t dn) ?_ fun dn t hO le => K s1 t dn T X1 D F1 L1 T1 R4 hO (by
    have e : bLe σ s1 := ⟨by rw [T.1]; exact Nat.le_refl _, by rw [T.1]; exact Nat.le_refl _⟩
    exact e.tr le)
  refine w46 (d := d + 1) (f := fun dn t => bqOut n Zr QB g l s1 t dn) (Q := fun t => QB t = true) (P := bqP QB s1) (rk := rk0) F1 L1 T1 R4 M1 ⟨by omega, by omega⟩ Xm (fun t t0 t1 q => (tk1 t).2 (hQ t t0 t1 q)) (bqE_u u0 (by decide) (by decide) b8.1) I0 Ik Jc C g01 l0 (fun a a0 a1 => (rows a a0 a1).1 112 (by decide)) (fun a a0 a1 => (rng a a0 a1).1) (fun t t0 t1 => ?_) (fun e1 e2 s t W e10 e13 Fg => show bqOut n Zr QB g l s1 t (-1) from Or.inl ⟨rfl, ⟨e1, e2⟩, s, W, e10, e13, Fg⟩) (fun e1 e2 s s0 t W W0 e10 Fr e13 Am Mr _ => show bqOut n Zr QB g l s1 t (-2) from Or.inr (Or.inl ⟨rfl, e1, e2, s, s0, W, W0, e10, Fr, e13, Am, Mr⟩)) fun e1 Z rk m a1 a2 a3 a4 a5 s s0 β t W W0 e10 Cb Fr _ Cr BI BR Wc C6 ng _ => show bqOut n Zr QB g l s1 t _ from Or.inr (Or.inr ⟨e1, Z, rk, m, s, s0, β, a1, a2, a3, a4, a5, W, W0, e10, Cb, Fr, Cr, BI, BR, Wc, C6, ng, rfl⟩)
  unfold bqP
  rw [Bool.and_eq_true, decide_eq_true_eq]
/-- the reference: an error -/
theorem oE (h : bI9 (bqG N μ) bqH L N σ) (R : bqR σ rk0 n Zr) (T : bT68 σ s1) (X1 : bi s1 7 15 = -1 ∨ bXe s1) (hO : bqOut n Zr QB g l s1 t dn) (cond : g = 0 ∧ ¬ bqCo QB s1) (S1 : bqTs t t1) (LK : bqLk P x t1 r1) (S2 : bqTs r1 r2) (rx : bRg x) (rg : bRg g) (rl : bRg l) (hk : k ≠ 0) (rk' : bRg k)
    (K : ∀ r, dn = -1 → (bI9 (bqGx (N + 1) μ) bqH L (N + 1) r) → r.2 = r2.2 → bUn bOblK [95, 105, 106] r2 r → r.2.2 = σ.2.2 → f (-1) r) : bWp (d + 2) 286 [.ref 12, .int (bn x), .int (bn k), .int (bn g), .int (bn l)] r2 (bRn f) := by
  rcases hO with ⟨e0, _, s, W, e10, e13, Fg⟩ | ⟨_, c, _⟩ | ⟨c, _⟩
  · refine r286w rx rg rl hk rk' fun r h1 h2 h3 h4 h5 h6 => K r e0 (finE h R.2.2.1.1 T X1 W e10 e13 Fg S1 LK.1 S2 h1 h2 h3 h4 h5 h6) h1 h2 ?_
    rw [h1, S2.1, LK.1.1, S1.1, Fg.1, W.1.1, T.1]
  · exact absurd cond (fun w => c.elim (fun q => q w.1) fun q => w.2 q)
  · exact absurd cond (fun w => c.elim (fun q => q w.1) fun q => w.2 q)
/-- the reference: what is found; what is done -/
theorem oF (h : bI9 (bqG N μ) bqH L N σ) (hN : N ≤ 2000) (R : bqR σ rk0 n Zr) (T : bT68 σ s1) (X1 : bi s1 7 15 = -1 ∨ bXe s1) (D : ∀ t, bTgk σ t → bRn1 σ s1 t) (hF1 : bFi s1) (hL1 : bTl s1) (hT1 : bTg s1) (hR4 : bR4 s1) (Xm : bMs (fun t => QB t = true) x) (hQ : ∀ t, 0 ≤ t → t < 16 → QB t = true → bTgk σ t) {d2 : Nat} (hO : bqOut n Zr QB g l s1 t dn) (cond : g ≠ 0 ∨ bqCo QB s1) {c0 k0 : Nat} (hc : (dn ≠ -2 → c0 = 0 ∧ k0 = 0) ∧ c0 ≤ 1 ∧ k0 ≤ 6) (S1 : bqTs (bC t c0 k0) t1) (hT2 : bFi t1 ∧ bTl t1 ∧ bTg t1 ∧ bPag s1 t1 ∧ (∀ j, bi t1 76 j = bi s1 76 j) ∧ bi t1 10 0 = bi s1 10 0) (us1 : bUn bqKt bqFt s1 t1) (LK : bqLk (bqP QB s1) x t1 r1) (rg : bRg g) (l0 : 0 ≤ l ∧ l < 1000)
    (KO : ∀ r2, dn = -2 → (∀ r, bqTs r2 r → bI9 (bqGx (N + 1) μ) bqH L (N + 1) r) → bmRf n r1 r2 → f 0 r2) (KY : ∀ r2, (∀ r3, bqTs r2 r3 → ∀ f' : Int → bSt → Prop, (∀ r, (bI9 (bqGx (N + 1) (1000 + t.2.2.2.2.1)) bqH L (N + 1) r) → r.2 = r3.2 → bUn (140 :: 141 :: bRzK) bRzF r3 r → (∃ (Z : bZs) (m : Nat) (β : bSt), (∀ t', 0 ≤ t' → t' < 16 → bqP QB s1 t' = true → ∃ a, a = Z.1 99 (t' * 256 + bi s1 10 0) ∧ (0 ≤ a ∧ a < (m : Int) ∧ m ≤ 120) ∧ bi r3 99 (256 * t' + bi s1 10 0) = a ∧ bi t 30 (t' * 256 + bi s1 10 0) = a ∧ br t 33 a = some (bAi a)) ∧ bzR0 β m (bzAl β m g l (bqT β m Z)) r ∧ bzI β m (bzLp β m g l 122 (bqT β m Z)) ∧ bzCC β m (bzAl β m g l (bqT β m Z)) t ∧ dn = bCnp (fun t' => bqP QB s1 t' && decide (bzD (bzAl β m g l (bqT β m Z)) (Z.1 99 (t' * 256 + bi s1 10 0)))) 16) → f' dn r) → bWp (d2 + 11) 286 [.ref 12, .int (bn x), .int (bn 0), .int (bn g), .int (bn l)] r3 (bRn f')) → bmRf n r1 r2 → f 1 r2) : bWp (d + 7) 283 [.ref 12, .int (bn x)] r1 (bRn f) := by
  obtain ⟨q1, q2, q3, ag, e76, e10c⟩ := hT2
  have rx : bRg x := ⟨by have := Xm.1.1; omega, by have := Xm.1.2; omega⟩
  have u0 := bT68_un T
  have St : bqSt n σ s1 := bqSt_u u0 (by decide) (by decide)
  have R1 := bqR_st St R
  obtain ⟨⟨I0, Ik, Jc⟩, _, ⟨c49, rows, _, _⟩, _⟩ := id R1
  have n120 := I0.1.2.1
  have eO : bmOd t1 (bqP QB s1) 16 = bmOd s1 (bqP QB s1) 16 := bmOd_g ag e10c 16
  have eA : ∀ V Z, bmAl t1 V Z = bmAl s1 V Z := bmAl_g ag e76
  have e22 : bi s1 12 22 = bi σ 12 22 := T.2.1 12 (by decide) (by decide) 22
  have ts : ∀ c, c % 256 ∉ bqKt → c % 256 ≠ 12 → ∀ j, bi t1 c j = bi s1 c j := us1.1
  obtain ⟨sS1, sS2, sS3, sS4, sS5, sS6⟩ := bqS_e (σ := s1) (Z := Zr)
  have u1 : bUn [11, 48, 49] [0, 111] t t1 := by have h := bqTs_un S1; exact h
  -- the reference's rows have not been touched
  have ref : ∀ c ∈ [101, 102, 103, 104, 105, 106, 107], ∀ j, bi t1 c j = bi s1 c j := fun c hc j => by
    simp only [List.mem_cons, List.not_mem_nil, or_false] at hc
    rcases hO with ⟨_, _, s, W, _, _, Fg⟩ | ⟨_, _, _, s, s0, W, W0, _, Fr, _⟩ | ⟨_, Z, rk, m, s, s0, β, _, _, _, _, _, W, W0, _, _, Fr, _, _, _, _, C6, _⟩
    · rw [u1.1 c (by simp only [List.mem_cons, List.not_mem_nil, or_false, not_or]; omega) (by omega), (bmFg_un Fg).1 c (by simp only [List.mem_cons, List.not_mem_nil, or_false, not_or]; omega) (by omega)]
      exact W.1.2 c (by unfold bWkK; simp only [List.mem_cons, List.not_mem_nil, or_false, not_or]; omega) j
    · rw [u1.1 c (by simp only [List.mem_cons, List.not_mem_nil, or_false, not_or]; omega) (by omega), (bmFr_un Fr).1 c (by simp only [List.mem_cons, List.not_mem_nil, or_false, not_or]; omega) (by omega), W0.1.2 c (by unfold bWkK; simp only [List.mem_cons, List.not_mem_nil, or_false, not_or]; omega)]
      exact W.1.2 c (by unfold bWkK; simp only [List.mem_cons, List.not_mem_nil, or_false, not_or]; omega) j
    · rw [u1.1 c (by simp only [List.mem_cons, List.not_mem_nil, or_false, not_or]; omega) (by omega), (bzKf_un C6.1).1 c (by simp only [List.mem_cons, List.not_mem_nil, or_false, not_or]; omega) (by omega), (bmFr_un Fr).1 c (by simp only [List.mem_cons, List.not_mem_nil, or_false, not_or]; omega) (by omega), W0.1.2 c (by unfold bWkK; simp only [List.mem_cons, List.not_mem_nil, or_false, not_or]; omega)]
      exact W.1.2 c (by unfold bWkK; simp only [List.mem_cons, List.not_mem_nil, or_false, not_or]; omega) j
  have r49 : bi t1 12 49 = bi s1 12 49 := by
    rcases hO with ⟨_, _, s, W, _, _, Fg⟩ | ⟨_, _, _, s, s0, W, W0, _, Fr, _⟩ | ⟨_, Z, rk, m, s, s0, β, _, _, _, _, _, W, W0, _, _, Fr, _, _, _, _, C6, _⟩
    · rw [u1.2.1 49 (by decide) (by decide), (bmFg_un Fg).2.1 49 (by decide) (by decide)]
      exact W.1.2 12 (by decide) 49
    · rw [u1.2.1 49 (by decide) (by decide), (bmFr_un Fr).2.1 49 (by decide) (by decide), W0.1.2 12 (by decide)]
      exact W.1.2 12 (by decide) 49
    · rw [u1.2.1 49 (by decide) (by decide), (bzKf_un C6.1).2.1 49 (by decide) (by decide), (bmFr_un Fr).2.1 49 (by decide) (by decide), W0.1.2 12 (by decide)]
      exact W.1.2 12 (by decide) 49
  refine rFd (d := d) (t := t1) (Q := fun t => QB t = true) (rk := rk0) (z0 := n) (Zs := bqS s1 Zr) q1 q2 q3 (fun t' ht => by rw [ag.2.2.2]; exact hR4 t' ((bTgk_g ag).1 ht)) Xm LK (bmI0_S I0) bmI1_S (fun a a0 a1 => ⟨fun b hb => ?_, fun i i0 i1 => ?_⟩) (r49.trans c49) (fun a a0 a1 => ⟨?_, sS2 109 (by decide) a⟩) (fun r2 Z m rk hZ J0 nm Rm => ?_) fun hNone r2 Rf c49r => ?_
  · rw [ref b (by simp only [List.mem_cons, List.not_mem_nil, or_false] at hb ⊢; omega) a, sS1 b (by simp only [List.mem_cons, List.not_mem_nil, or_false] at hb; omega)]
    exact (rows a a0 a1).1 b (by simp only [List.mem_cons, List.not_mem_nil, or_false] at hb ⊢; omega)
  · rw [sS1 105 (by decide)] at i1
    rw [ref 106 (by decide) _, sS1 106 (by decide)]
    exact (rows a a0 a1).2 i i0 i1
  · rw [ref 107 (by decide) _, sS5 107 (by decide)]
  · rw [eO, eA] at hZ
    rw [eO] at Rm
    rcases hO with ⟨_, c, _⟩ | ⟨_, _, c, _⟩ | ⟨_, Z', rk', m', s, s0, β, a1, a2, a3, a4, a5, W, W0, e10, Cb, Fr, Cr, BI, BR, Wc, C6, ng, edn⟩
    · exact absurd c (fun w => cond.elim (fun q => q w.1) fun q => w.2 q)
    · rw [c] at hZ; cases hZ
    rw [a1] at hZ
    have eZ := Option.some.inj hZ
    subst eZ
    have em : m' = m := by have h1 := a2.1.1; have h2 := J0.1.1; omega
    subst em
    have n2 : dn ≠ -2 := by have := bCnp_0 (P := fun t' => bqP QB s1 t' && decide (bzD (bzAl β m' g l (bqT β m' Z')) (Z'.1 99 (t' * 256 + bi s1 10 0)))) 16; omega
    obtain ⟨hc1, hc2⟩ := hc.1 n2
    subst hc1 hc2
    replace S1 : bqTs t t1 := S1
    refine KY r2 (fun r3 S2 f' K' => ?_) Rm.1
    refine rYb (d := d2) (rk0 := rk0) (P := bqP QB s1) (Z := Z') (s := s) h hN R.2.2.1.1 T X1 hF1 hL1 hT1 W W0 e10 a2 a3 a4 a5 Cb Fr Cr BI BR Wc C6 ng R S1 LK Rm S2 rx rg l0 (fun t' t0 t1' tp => ?_) fun r hI Rf R0 => ?_
    · unfold bqP at tp
      rw [Bool.and_eq_true, decide_eq_true_eq] at tp
      have := hQ t' t0 t1' tp.1
      exact ⟨⟨this.1, by rw [e22]; exact this.2⟩, tp.2⟩
    · rw [← edn]
      refine K' r hI Rf.1 Rf.2.1 ⟨Z', m', β, fun t' t0 t1' tp => ?_, R0, bzI_lp l0.1 122 _ BI BR, C6, edn⟩
      have tpp := tp
      unfold bqP at tp
      rw [Bool.and_eq_true, decide_eq_true_eq] at tp
      obtain ⟨_, _, inV⟩ := bmOd_w (σ := s1) (P := bqP QB s1) hL1 hT1 (fun t' t0 t1' tp => by
        unfold bqP at tp
        rw [Bool.and_eq_true, decide_eq_true_eq] at tp
        have := hQ t' t0 t1' tp.1
        exact ⟨⟨this.1, by rw [e22]; exact this.2⟩, tp.2⟩) 16 (Nat.le_refl _)
      have hy := inV t' t0 t1' tpp
      obtain ⟨_, my, _⟩ := a3.1 _ hy
      refine ⟨_, rfl, ⟨my.1, my.2, a2.1.2.1⟩, ?_, ?_, (C6.2.2.2 _ my.1 my.2).1.1⟩
      · rw [(bqTs_un S2).1 99 (by decide) (by decide), show 256 * t' + bi s1 10 0 = t' * 256 + bi s1 10 0 by omega]
        exact Rm.2.2.2.2.1 _ hy
      · rw [(bzKf_un C6.1).1 30 (by decide) (by decide)]
        exact Cb.2.2.2.1 _ hy
  · rw [eO, eA] at hNone
    rcases hO with ⟨_, c, _⟩ | ⟨edn, _, c, s, s0, W, W0, e10, Fr, e13, Am, Mr⟩ | ⟨_, Z', rk', m', s, s0, β, a1, _⟩
    · exact absurd c (fun w => cond.elim (fun q => q w.1) fun q => w.2 q)
    · exact KO r2 edn (fun r S2 => finO h R.2.2.1.1 T X1 W W0 e10 Fr e13 Am Mr hc.2 S1 LK.1 Rf c49r S2) Rf
    · rw [a1] at hNone; cases hNone
end

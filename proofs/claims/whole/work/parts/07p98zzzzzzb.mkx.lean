/-! BUILD, 76: the case test -/
section
variable {d lvl : Nat} {σ σ0 σr β s s0 s1 t t1 r r1 r2 r3 r' s' : bSt} {f : Int → bSt → Prop} {fv : bSt → Prop} {Z Z0 Y X Zs Zr T ZE W : bZs} {x y v a b k i q g l dn τ c : Int} {n n0 m z0 N N' μ L : Nat} {rk rk0 : Int → Nat} {S : List Nat} {F : List Int} {P QB : Int → Bool} {Q : Int → Prop}
theorem bL_toInt (h : bRg x) : (bL x).toInt = x := by unfold bL; rw [Int32.toInt_toInt64]; exact bn_toInt h
theorem bqGx_un (u : bUn [151, 152] [0, 111, 112] r r') (e : r'.2.2 = r.2.2) (h : bI9 (bqGx N μ) bqH L n r) : bI9 (bqGx N μ) bqH L n r' := by
  obtain ⟨a1, a2, a3, ⟨b1, b3, b4, b5, b6, b7, b8⟩, c, k, a5, a6, a7⟩ := h
  have eT : bT r' = bT r := by unfold bT; rw [u.2.1 22 (by decide) (by decide)]
  exact ⟨(bMid_un u (by decide)).2.trans a1, bFi_un u (by decide) a2, bTl_un u (by decide) (by decide) a3, ⟨bTg_un u (by decide) (by decide) b1, bRs_un u (by decide) b3, b4.imp (fun w => by rw [u.1 7 (by decide) (by decide)]; exact w) (fun w => bXe_un u (by decide) w), bPm_un u (by decide) (by decide) b5, bAk_un u (by decide) (by decide) b6, bMr_un u (by decide) b7, bqZ_un u (by decide) (by decide) b8⟩, c, k, by rw [eT, e]; exact a5, by rw [eT, e]; exact a6, bqH_un u (by decide) a7⟩
theorem bqTs_gth (G : bGth τ c v 4 (bw t 11 6 0) s) {w : Int64} : bqTs t (bwj s 154 0 w) := by
  refine ⟨G.1, fun b hb j => ?_, fun j j0 _ _ => ?_, fun b h1 hb j => ?_⟩
  · simp only [List.mem_cons, List.not_mem_nil, or_false, not_or] at hb
    have m := bTi_m (t := τ)
    rw [bi_bwj, G.2.1 b (by omega) (by omega) j, bi_ne (by omega)]
  · have m := bTi_m (t := τ)
    rw [bi_bwj, G.2.1 12 (by decide) (by omega) j, bi_ne (by decide)]
  · simp only [List.mem_cons, List.not_mem_nil, or_false, not_or] at hb
    have m := bTi_m (t := τ)
    rw [bj_ne h1, G.2.2.1 b (by omega) (by omega) j]
    rfl
/-- tests, where nothing was tried -/
theorem bTst_0 (h : bTst t) (e22 : bi r 12 22 = bi t 12 22) (e : ∀ b, b % 256 = 48 ∨ b = 151 ∨ b = 152 → ∀ j, bi r b j = bi t b j) (ej : ∀ b, b % 256 = 49 ∨ b = 11 → ∀ j, bj r b j = bj t b j) (e112 : bi r 12 112 = bi t 12 112) (z1 : bi r 11 6 = 0) (z2 : bi r 12 111 = 0) : bTst r := by
  obtain ⟨h1, h2, h3, h4, h5⟩ := h
  have m := fun t' => bTi_m (t := t')
  have kb : ∀ p, bKbit r p = bKbit t p := fun p => bKbit_m (e 152 (Or.inr (Or.inr rfl)))
  have tb : ∀ t' q, bTbit r t' q = bTbit t t' q := fun t' q => bTbit_m (ej _ (Or.inl (by have := m t'; omega)))
  refine ⟨fun t' q0 q1 => ?_, fun t' q0 q1 => ?_, ⟨by rw [z1, z2], by omega, by omega⟩, ?_, by rw [e112]; exact h5⟩
  · rw [e22] at q1
    exact ⟨fun k k0 k1 => by rw [e _ (Or.inl (by have := m t'; omega)), e 151 (Or.inr (Or.inl rfl))]; exact (h1 t' q0 q1).1 k k0 k1, fun q p0 p1 => by rw [kb, tb]; exact (h1 t' q0 q1).2 q p0 p1⟩
  · rw [e22] at q0
    exact ⟨fun k k0 k1 => by rw [e 151 (Or.inr (Or.inl rfl))]; exact (h2 t' q0 q1).1 k k0 k1, fun q p0 p1 => by rw [kb]; exact (h2 t' q0 q1).2 q p0 p1⟩
  · rw [ej 11 (Or.inr rfl), e112]; exact h4
/-- test -/
theorem k42 (h : bI9 (bqG N μ) bqH L N σ) (hN : N ≤ 2000) (hμ : μ ≤ 1000 + σ.2.2.2.2.1) : bK42 (fun s => ∃ μ', μ' ≤ 1000 + s.2.2.2.2.1 ∧ bI9 (bqG (N + 1) μ') bqH L (N + 1) s) σ := by
  obtain ⟨b1, b2, b3, b4, b5, b6, b7, b8⟩ := h.2.2.2.1
  obtain ⟨_, _, _, _, ⟨rk0, n, Zr, R⟩, _⟩ := id b8
  obtain ⟨c1, c2, cc⟩ := bShl_c b1
  have tc := b1.1
  have u00 : bUn [] [] σ (bC σ 1 6) := bUn_C bUn_refl
  have T0 := bTg_un u00 (by decide) (by decide) b1
  have no : ∀ v : Int, ∃ μ', μ' ≤ 1000 + (bw (bC σ 1 6) 12 0 v).2.2.2.2.1 ∧ bI9 (bqG (N + 1) μ') bqH L (N + 1) (bw (bC σ 1 6) 12 0 v) := fun v => ⟨μ, by
    have : (bw (bC σ 1 6) 12 0 v).2.2.2.2.1 = σ.2.2.2.2.1 + 1 := rfl
    omega, bqI_no h⟩
  refine wk42 fun τ hτ => ⟨rfl, fun A hA => sq185_0 (bWp_mono _) hA hτ ?_⟩
  rw [tc.2.2]
  refine w136 hτ ⟨by omega, by omega⟩ (by decide) (fun tk => ?_) fun q => ⟨bMid_C, r304n (d := 0) T0 hτ rfl (fun _ => ⟨bi_eq (by decide), fun w => absurd w (by decide), no 1⟩) (fun w => absurd w q) (fun w => absurd w q)⟩
  have t0 := tk.1
  have t16 : τ < 16 := by have := tk.2; omega
  have tg1 := b1.2.2.2 τ tk.1 tk.2
  have e92 : bi σ (bTi τ) 11 = bi σ 92 τ := tg1.2.2.2.2.2.2.2.2.2.1.1
  have e93 : bi σ (bTi τ) 12 = bi σ 93 τ := tg1.2.2.2.2.2.2.2.2.2.2.1.1
  refine w120 (b1.2.1 τ tk.1 tk.2) t0 t16 ⟨bTi_m, fun p => ?_, fun p => ?_⟩
  rotate_left
  · refine sq185_16 (bWp_mono _) hA hτ (by decide) (w139 (by decide) (by decide) (fun w => absurd rfl w) fun _ => ?_)
    exact ⟨bMid_C, r304n (d := 0) T0 hτ rfl (fun w => absurd tk w) (fun _ _ => ⟨bi_eq (by decide), fun w => absurd w (by decide), no 2⟩) (fun _ w => absurd (by rw [e92]; exact w) p)⟩
  rw [e92] at p
  obtain ⟨e2, one⟩ := bMs_one t0 t16
  have x1 : bShl 1 τ < bShl 1 (bi σ 12 22) := by
    rw [e2, cc]
    have : 2 ^ τ.toNat < 2 ^ (bi σ 12 22).toNat := Nat.pow_lt_pow_right (by decide) (by have := tk.2; omega)
    omega
  have x0 : 0 < bShl 1 τ := by
    rw [e2]
    have := Nat.one_le_two_pow (n := τ.toNat)
    omega
  obtain ⟨Xm, hQ⟩ := bMs_mask b1 x0 x1
  refine sq185_16 (bWp_mono _) hA hτ (by decide) (w139 (by decide) (by decide) (fun _ => ?_) fun w => absurd w (by decide))
  refine wB (d := 0) h hN hμ R Xm hQ (Or.inl rfl) ⟨by decide, by decide⟩ fun s1 t dn T X1 D F1 L1 T1 R4 hO le => ?_
  have u0 := bT68_un T
  obtain ⟨uO, _⟩ := bqOut_un hO
  have uT : bUn bqKt bqFt s1 t := bUn_mono uO (by decide) (by decide)
  have e22 : bi t 12 22 = bi σ 12 22 := (uO.2.1 22 (by decide) (by decide)).trans (T.2.1 12 (by decide) (by decide) 22)
  have e112 : bi t 12 112 = bi σ 12 112 := (uO.2.1 112 (by decide) (by decide)).trans (T.2.1 12 (by decide) (by decide) 112)
  have tst : bTst t := bTst_un uO (by decide) (by decide) (bTst_un u0 (by decide) (by decide) b2)
  have tk1 : bTgk s1 τ := ⟨t0, by rw [T.2.1 12 (by decide) (by decide) 22]; exact tk.2⟩
  refine ⟨fun e => w139 (by decide) (by decide) (fun w => absurd rfl w) fun _ => ?_, fun e => w139 (by decide) (by decide) (fun _ => ⟨fun e1 => ?_, fun n1 => bRnx_i (by decide) ?_⟩) fun w => absurd w (by decide)⟩
  · -- too many actions
    refine r42 h hN R tk p T X1 D F1 L1 T1 R4 hO (c0 := 1) (k0 := 6) ⟨fun w => absurd e w, by decide, by decide⟩ bqTs_refl (bUn_C uT) (fun _ r hI er ur r0 => ⟨r0, fun w => absurd w (by decide), μ, ?_, bqGx_t hI ?_⟩) (fun w => absurd e w) (fun w => absurd (e.symm.trans w) (by decide))
    · rw [er]
      have := le.1
      show μ ≤ 1000 + (t.2.2.2.2.1 + 1)
      omega
    · exact bTst_un ur (by decide) (by decide) (bTst_un (bUn_C (S := []) (F := []) bUn_refl) (by decide) (by decide) tst)
  · -- it is built
    obtain ⟨a, ⟨a0, a1⟩, ha, hz, v0, v1⟩ := bqOut_1 L1 T1 tk1 hO (by decide) e1
    have hc := bCfg L1
    have e10 : bi (bw t 11 6 0) 10 0 = bi s1 10 0 := by rw [bi_ne (by decide)]; exact uT.1 10 (by decide) (by decide) 0
    have ek : 256 * (2 * (bAi a / 256) + 0) + 4 = bNe a := by unfold bAi bNe; omega
    refine w82 (d := 8) ⟨t0, t16⟩ (by rw [e10]; exact hc) (a := a) (by rw [e10, bi_ne (by decide)]; exact ha) a0 (by omega) hz ⟨bAi_0, by omega, ?_⟩
    rw [ek, bi_ne (show bNe a ≠ 11 by unfold bNe; omega)]
    have hb2 := b2
    obtain ⟨h1, h2, h3, h4, h5⟩ := tst
    have hD : (bj (bw t 11 6 0) 11 7).toInt = bi σ 12 112 := by
      show (bj t 11 7).toInt = _
      rw [h4, e112]
      exact bL_toInt (bi_rg _ _ _)
    have D1 := (bi_rg σ 12 112).2
    have D0 : 0 ≤ bi σ 12 112 := by rw [← e112]; exact h5
    refine w186 (d := 6) v0 v1 (bi_eq (by decide)) hD D0 D1 fun s G => bRnx_i ?_ ?_
    · have := bPsd_rg (cnt := bi (bw t 11 6 0) (bTi τ) 11) (lk := bi (bw t 11 6 0) (bTi τ) 12) (c := bi t (bNe a) 8) (B := bTbit (bw t 11 6 0) τ) (D := bi σ 12 112) 4
      exact ⟨by omega, by omega⟩
    have S1 : bqTs t (bwj s 154 0 (bL (bPsd (bi (bw t 11 6 0) (bTi τ) 11) (bi (bw t 11 6 0) (bTi τ) 12) (bi t (bNe a) 8) (bTbit (bw t 11 6 0) τ) (bi σ 12 112) 4))) := bqTs_gth G
    refine r42 h hN R tk p T X1 D F1 L1 T1 R4 hO (c0 := 0) (k0 := 0) ⟨fun _ => ⟨rfl, rfl⟩, by decide, by decide⟩ S1 (bUn_trans uT (bUn_mono (bqTs_un S1) (by decide) (by decide))) (fun w => absurd w e) (fun _ w => absurd e1 w) fun _ a' r hI er ur r0 r111 e99 e30 ar e112' rc => ?_
    rw [ha] at e30
    subst e30
    have m := fun t' => bTi_m (t := t')
    have tb : ∀ b, b % 256 ∉ bqK4 → b ≠ 11 → b % 256 ≠ 12 → b ≠ bTi τ + 40 → ∀ j, bi r b j = bi (bw t 11 6 0) b j := fun b q1 q2 q3 q4 j => by
      rw [ur.1 b q1 q3 j, bi_bwj]
      exact G.2.1 b q2 q4 j
    have r12 : ∀ j, 0 ≤ j → j ∉ bqF4 → bi r 12 j = bi t 12 j := fun j j0 hj => by
      rw [ur.2.1 j j0 hj, bi_bwj, G.2.1 12 (by decide) (by have := m τ; omega) j, bi_ne (by decide)]
    have erj : ∀ b j, b ≠ 154 → bj r b j = bj s b j := fun b j hb => by
      have : bj r b j = bj (bwj s 154 0 (bL (bPsd (bi (bw t 11 6 0) (bTi τ) 11) (bi (bw t 11 6 0) (bTi τ) 12) (bi t (bNe a) 8) (bTbit (bw t 11 6 0) τ) (bi σ 12 112) 4))) b j := by unfold bj; rw [er]
      rw [this, bj_ne hb]
    have d112 : bi r 12 112 = bi σ 12 112 := (r12 112 (by decide) (by decide)).trans e112
    have tgt := bTg_un2 uT (by decide) (by decide) (fun b hb => (bqOut_un hO).2 b hb) (bTg_68 T b1)
    have tg2 := tgt.2.2.2 τ t0 (by rw [e22]; exact tk.2)
    have ne8 : bTi τ ≠ 11 := by have := m τ; omega
    rw [e112', d112]
    refine ⟨D0, fun r' G2 => ?_⟩
    have key := bTst_go (σ := bw t 11 6 0) (s := s) (ρ := r) (r := r') (t := τ) (N := bi σ 12 22) (c := bi t (bNe a) 8) (D := bi σ 12 112) t0 tk.2 tc.2.1 v0 v1 (fun t' q0 q1 => ⟨fun k k0 k1 => ?_, fun q p0 p1 => ?_⟩) (fun t' q0 q1 => ⟨fun k k0 k1 => ?_, fun q p0 p1 => ?_⟩) ?_ ?_ D0 D1 G ?_ ?_ ?_ ?_ ?_ ?_ ?_ ?_ ?_ G2
    · obtain ⟨ep, tr⟩ := key
      have ur' : bUn [151, 152] [0, 111, 112] r r' := ⟨fun b q1 q2 j => G2.1.2.1 b (fun e => q2 (by rw [e])) (fun e => q1 (by rw [e]; decide)) (fun e => q1 (by rw [e]; decide)) j, fun j j0 hj => G2.1.2.2 j j0 (fun e => hj (by rw [e]; decide)) (fun e => hj (by rw [e]; decide)), fun b _ _ j => by unfold bj; rw [G2.1.1], fun b _ j => by unfold br; rw [G2.1.1], fun b _ => by rw [G2.1.1]⟩
      refine ⟨(G2.1.2.2 0 (by decide) (by decide) (by decide)).trans r0, fun _ => ?_, 1000 + t.2.2.2.2.1, ?_, bqGx_t (bqGx_un ur' (by rw [G2.1.1]) hI) tr⟩
      · rw [ep]
        have : bj r' 154 0 = bj (bwj s 154 0 (bL (bPsd (bi (bw t 11 6 0) (bTi τ) 11) (bi (bw t 11 6 0) (bTi τ) 12) (bi t (bNe a) 8) (bTbit (bw t 11 6 0) τ) (bi σ 12 112) 4))) 154 0 := by unfold bj; rw [G2.1.1, er]
        rw [this]
        exact bj_eq
      · rw [G2.1.1, er]
        show _ ≤ 1000 + s.2.2.2.2.1
        rw [G.1]
        exact Nat.le_refl _
    · rw [bi_ne (by have := m t'; omega), bi_ne (by decide)]
      exact (h1 t' q0 (by rw [e22]; exact q1)).1 k k0 k1
    · rw [bKbit_m (s := bw t 11 6 0) (σ := t) fun j => bi_ne (by decide)]
      exact (h1 t' q0 (by rw [e22]; exact q1)).2 q p0 p1
    · rw [bi_ne (by decide)]
      exact (h2 t' (by rw [e22]; exact q0) q1).1 k k0 k1
    · rw [bKbit_m (s := bw t 11 6 0) (σ := t) fun j => bi_ne (by decide)]
      exact (h2 t' (by rw [e22]; exact q0) q1).2 q p0 p1
    · rw [bi_ne ne8, bi_ne (by decide)]
      exact tg2.2.2.2.2.2.2.2.2.2.1.1
    · rw [bi_ne ne8, bi_ne (by decide)]
      exact tg2.2.2.2.2.2.2.2.2.2.2.1.1
    · exact (r12 22 (by decide) (by decide)).trans e22
    · exact tb 92 (by decide) (by decide) (by decide) (by have := m τ; omega) τ
    · exact tb 93 (by decide) (by decide) (by decide) (by have := m τ; omega) τ
    · exact tb 151 (by decide) (by decide) (by decide) (by have := m τ; omega)
    · exact tb 152 (by decide) (by decide) (by decide) (by have := m τ; omega)
    · intro t' k
      rw [ur.1 (bTi t' + 40) (by rw [show (bTi t' + 40) % 256 = 48 by have := m t'; omega]; decide) (by have := m t'; omega) k, bi_bwj]
    · rw [ur.1 11 (by decide) (by decide) 6, bi_bwj]
    · exact erj 11 7 (by decide)
    · exact fun t' k => erj _ k (by have := m t'; omega)
  · -- it is not
    have S1 : bqTs t (bwj (bw t 11 6 0) 154 0 (bL (-1))) := bqTs_trans bqTs_11 bqTs_o
    refine r42 h hN R tk p T X1 D F1 L1 T1 R4 hO (c0 := 0) (k0 := 0) ⟨fun _ => ⟨rfl, rfl⟩, by decide, by decide⟩ S1 (bUn_trans uT (bUn_mono (bqTs_un S1) (by decide) (by decide))) (fun w => absurd w e) (fun _ _ μ' r hμ' hI er ur r0 r111 => ⟨r0, fun _ => ?_, μ', ?_, bqGx_t hI ?_⟩) (fun w => absurd w n1)
    · have : bj r 154 0 = bj (bwj (bw t 11 6 0) 154 0 (bL (-1))) 154 0 := by unfold bj; rw [er]
      rw [this]
      exact bj_eq
    · rw [er]
      show μ' ≤ 1000 + t.2.2.2.2.1
      have := le.1
      omega
    · have ri : ∀ b, b % 256 ∉ bqK4 → b % 256 ≠ 12 → b ≠ 11 → ∀ j, bi r b j = bi t b j := fun b q1 q2 q3 j => by rw [ur.1 b q1 q2 j, bi_bwj, bi_ne q3]
      refine bTst_0 tst ?_ (fun b hb j => ri b ?_ (by omega) (by omega) j) (fun b hb j => ?_) ?_ ?_ r111
      · rw [ur.2.1 22 (by decide) (by decide), bi_bwj, bi_ne (by decide)]
      · unfold bqK4 bLk2 bmRK bOblK bRzK
        simp only [List.cons_append, List.nil_append, List.mem_cons, List.not_mem_nil, or_false, not_or]
        omega
      · have : bj r b j = bj (bwj (bw t 11 6 0) 154 0 (bL (-1))) b j := by unfold bj; rw [er]
        rw [this, bj_ne (by omega)]
        rfl
      · rw [ur.2.1 112 (by decide) (by decide), bi_bwj, bi_ne (by decide)]
      · rw [ur.1 11 (by decide) (by decide), bi_bwj]
        exact bi_eq (by decide)
end

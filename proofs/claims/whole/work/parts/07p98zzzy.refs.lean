/-! BUILD, 21: the reference: an action begins -/
section
variable {d : Nat} {σ s t r : bSt} {f : Int → bSt → Prop} {fv : bSt → Prop} {Z Y : bZs} {a b e g i j k x v w lo hi : Int} {n c : Nat} {rk : Int → Nat} {K : bKy} {P : List (Int × bKy)}
theorem r268 (R : bzR0 σ n Z s) (a0 : 0 ≤ a) (a1 : a < 120) (e0 : 0 ≤ e) (e1 : e < 80) (S : bzSk s e K) (lK : K.2.2.2.2.length ≤ 48) (k : ∀ t, bzR0 σ n Z t → bzRf s t → bzWl t a K → bzWo a s t → (∀ b, b ∉ [130, 131, 132] → ∀ j, bi t b j = bi s b j) → fv t) : bWp (d + 1) 268 [.ref 12, .int (bn a), .int (bn e)] s (bRv fv) := by
  obtain ⟨S1, S2, S3, S4, S5, S6, S7, S8⟩ := S
  refine ⟨rfl, fun A hA => sq268_0 (bWp_mono _) hA ⟨by omega, by omega⟩ ⟨by omega, by omega⟩ ⟨⟨e0, e1⟩, ⟨a0, a1⟩, ?_⟩⟩
  rw [S8, S6]
  have rv : bRg (bKv K) := by rw [← S8]; exact bi_rg _ _ _
  have Lp : ∀ (m q : Nat) (t : bSt), q + m = K.2.2.2.2.length → bzR0 σ n Z t → bzRf s t → bzWo a s t → (∀ b, b ∉ [130, 131, 132] → ∀ j, bi t b j = bi s b j) → bi t 130 a = bKv K → bi t 131 a = K.2.2.2.2.length → (∀ i : Nat, i < q → bi t 132 (48 * a + i) = K.2.2.2.2.getD i 0) → A (18, [.ref 12, .int (bn a), .int (bn e), .int (bn q)], [], t) := by
    intro m
    induction m with
    | zero =>
      intro q t hq Rt Ft Wt ut w0 w1 w2
      have t127 : bi t 127 e = K.2.2.2.2.length := (ut 127 (by decide) e).trans S6
      exact sq268_18 (bWp_mono _) hA ⟨by omega, by omega⟩ ⟨by omega, by omega⟩ ⟨by omega, by omega⟩ ⟨⟨e0, e1⟩, fun z => absurd z (by rw [t127]; omega), fun _ => k t Rt Ft ⟨w0, w1, fun i hi => w2 i (by omega)⟩ Wt ut⟩
    | succ m ih =>
      intro q t hq Rt Ft Wt ut w0 w1 w2
      have t127 : bi t 127 e = K.2.2.2.2.length := (ut 127 (by decide) e).trans S6
      have t128 : bi t 128 (48 * e + q) = K.2.2.2.2.getD q 0 := (ut 128 (by decide) _).trans (S7 q (by omega))
      have nx := ih (q + 1) (bw t 132 (48 * a + q) (bi t 128 (48 * e + q))) (by omega) (bzR0_n Rt (by decide)) (bzRf_trans Ft (bzRf_w (by decide))) (bzWo_trans Wt ⟨fun b _ _ => ⟨bi_ne (by decide), bi_ne (by decide), bi_ne (by decide)⟩, fun j j0 jn => bi_nj (by omega) j0 (by omega)⟩) (fun b hb j => by rw [bi_ne (fun y => hb (by rw [y]; decide))]; exact ut b hb j) (by rw [bi_ne (by decide)]; exact w0) (by rw [bi_ne (by decide)]; exact w1) (fun i hi => by
        rw [bi_bw (by omega) (by omega) (bi_rg _ _ _)]
        by_cases y : i = q
        · rw [if_pos ⟨rfl, by omega⟩, y]; exact t128
        · rw [if_neg (fun z => y (by omega))]; exact w2 i (by omega))
      rw [show ((q + 1 : Nat) : Int) = (q : Int) + 1 by omega] at nx
      exact sq268_18 (bWp_mono _) hA ⟨by omega, by omega⟩ ⟨by omega, by omega⟩ ⟨by omega, by omega⟩ ⟨⟨e0, e1⟩, fun _ => ⟨⟨by omega, by omega⟩, ⟨by omega, by omega⟩, ⟨by omega, by omega⟩, ⟨by omega, by omega⟩, ⟨by omega, by omega⟩, ⟨by omega, by omega⟩, ⟨by omega, by omega⟩, nx⟩, fun z => absurd (show (q : Int) < bi t 127 e by rw [t127]; omega) z⟩
  refine Lp K.2.2.2.2.length 0 _ (by omega) (bzR0_n (bzR0_n R (by decide)) (by decide)) (bzRf_trans (bzRf_w (by decide)) (bzRf_w (by decide))) ⟨fun b b0 bn => ⟨?_, ?_, ?_⟩, fun j _ _ => ?_⟩ (fun b hb j => ?_) ?_ ?_ (fun i hi => absurd hi (Nat.not_lt_zero _))
  · rw [bi_ne (by decide), bi_nj a0 b0 bn]
  · rw [bi_nj a0 b0 bn, bi_ne (by decide)]
  · rw [bi_ne (by decide), bi_ne (by decide)]
  · rw [bi_ne (by decide), bi_ne (by decide)]
  · rw [bi_ne (fun y => hb (by rw [y]; decide)), bi_ne (fun y => hb (by rw [y]; decide))]
  · rw [bi_ne (by decide), bi_eq rv]
  · rw [bi_eq ⟨by omega, by omega⟩]
theorem r294 (I : bzI σ n Z) (hr : bzRn0 rk n Z) (R : bzR0 σ n Z s) (Rw : bzRw σ n Z s) (a0 : 0 ≤ a) (a1 : a < (n : Int)) (rd : bzRd Z a) (cn : bzCn σ Z a) (r73 : bi s 12 73 < 1700000) (k : ∀ t, bzR0 σ n (bzSt σ Z a) t → bzRw σ n (bzSt σ Z a) t → bzRf s t → bi t 12 73 ≤ bi s 12 73 + 1 → fv t) : bWp (d + 8) 294 [.ref 12, .int (bn a)] s (bRv fv) := by
  obtain ⟨O, Ik, J1, J2, ⟨C1, C2⟩, J4⟩ := id I
  have n120 := O.2.1.1
  have now := J4.1
  have nbz := bzNb_b (n := n) (Z := Z)
  have lat := O.1.2.2
  have z2 := (J2 a a0 a1).2.2.1 rd.2.1
  have se := bzSt_se I hr rd cn a0 a1
  have Ka := bzSe_K se I rd.2.1 a0 a1 (Or.inr rfl) a0 a1
  have z142 : Z.1 142 a = -1 := Classical.byContradiction fun q => (J1 a a0 a1).2.1 q rd.2.1
  -- what comes of all
  have fin : ∀ t, bzWo a s t → (bzG (bzSt σ Z a) a → (bi t 130 a = (if bzV σ Z a = -1 then -5 else bzV σ Z a) ∧ bi t 131 a = (bzF σ Z a).length ∧ bHl t 132 (48 * a) (bzF σ Z a)) ∧ ((bzSt σ Z a).1 147 a = 0 → bi t 133 a = bzX σ Z a)) → bzRw σ n (bzSt σ Z a) t := fun t W own b b0 b1 hb => by
    by_cases y : b = a
    · rw [y] at hb ⊢
      rw [Ka.2.1, Ka.2.2.1, Ka.2.2.2]
      exact own hb
    · have ob := (se.2.1 b y).1
      have gZ : bzG Z b := ⟨by rw [← se.1 140 (by decide) b]; exact hb.1, by rw [← ob 143 (by decide)]; exact hb.2.1, by rw [← ob 142 (by decide)]; exact hb.2.2⟩
      obtain ⟨m1, m2, m3, m4⟩ := bzSe_K se I rd.2.1 b0 b1 (Or.inl gZ.2.1) a0 a1
      obtain ⟨q1, q2⟩ := Rw b b0 b1 gZ
      obtain ⟨p1, p2, p3⟩ := W.1 b b0 y
      rw [m2, m3, m4, ob 147 (by decide), p1, p2, p3]
      exact ⟨⟨q1.1, q1.2.1, fun i hi => by
        have l48 := bFok_len (bzF_ok (Z := Z) (a := b) O.1.1)
        rw [W.2 _ (by omega) (by omega)]
        exact q1.2.2 i hi⟩, q2⟩
  have R1 : bzR0 σ n (bzBe Z a) (bw s 143 a (Z.1 305 0)) := bzR0_w R (by decide) a0 ⟨by omega, by omega⟩
  have zB : zU [143] Z (bzBe Z a) := zU_w (by decide)
  obtain ⟨hB, mB⟩ := bzEnv O zB (by decide)
  have eKB := (mB a).1
  have eB : ∀ c, c ≠ 143 → ∀ j, (bzBe Z a).1 c j = Z.1 c j := fun c hc j => zw_a hc
  have wB : (bzBe Z a).1 140 a ≠ 0 := by rw [eB 140 (by decide)]; exact rd.1
  have IkB : bzIk n (bzBe Z a) := fun b b0 b1 K hK => by
    rw [eB 101 (by decide), eB 102 (by decide), eB 103 (by decide), eB 105 (by decide), eB 112 (by decide)]
    exact Ik b b0 b1 K hK
  have F1 : bzRf s (bw s 143 a (Z.1 305 0)) := bzRf_w (by decide)
  have W1 : bzWo a s (bw s 143 a (Z.1 305 0)) := bzWo_u fun b hb j => bi_ne (by simp only [List.mem_cons, List.not_mem_nil, or_false] at hb; omega)
  have c1 : bi (bw s 143 a (Z.1 305 0)) 12 73 = bi s 12 73 := bi_ne (by decide)
  have e105 : bi s 12 105 = Z.1 305 0 := R.2.2.1.2.1
  refine ⟨rfl, fun A hA => sq294_0 (bWp_mono _) hA ⟨by omega, by omega⟩ ⟨⟨a0, by omega⟩, ?_⟩⟩
  rw [e105]
  generalize bw s 143 a (Z.1 305 0) = s1 at *
  have e87 : bi s1 12 87 = bi σ 12 87 := R1.1.1.2.2.2.1
  -- fresh
  have fresh : Z.2.2.2 a = some (bzK σ Z a) → bWp (d + 7) 295 [.ref 12, .int (bn a), .int (bn 0)] s1 (bRv fun s33 => bRv fv (.inl none) s33) := fun q => by
    have eS : bzSt σ Z a = bzE (bzBe Z a) a 0 := by unfold bzSt; rw [if_pos q]
    refine r295 (d := d + 6) R1 a0 (by omega) (by decide) fun t R2 F2 u2 => ?_
    rw [← eS] at R2
    refine k t R2 (fin t (bzWo_trans W1 (bzWo_u fun b hb j => u2 b (by simp only [List.mem_cons, List.not_mem_nil, or_false] at hb; omega) (by simp only [List.mem_cons, List.not_mem_nil, or_false] at hb; omega) j)) fun hg => ?_) (bzRf_trans F1 F2) (by rw [u2 12 (by decide) (by decide), c1]; omega)
    have := hg.2.2
    rw [eS] at this
    unfold bzE at this
    rw [zw_a (by decide), zw_e] at this
    exact absurd this (by decide)
  -- run
  have run : Z.2.2.2 a ≠ some (bzK σ Z a) → bzK σ Z a ∉ Z.2.1 → ¬ (bi σ 12 87 ≠ 0 ∧ bzK σ Z a ∈ Z.2.2.1) → bWp (d + 7) 296 [.ref 12, .int (bn a)] s1 (bRv fun s12 => bRv fv (.inl none) s12) := fun q1 q2 q3 => by
    have eS : bzSt σ Z a = bzRun σ (bzBe Z a) a := by unfold bzSt; rw [if_neg q1, if_neg q2, if_neg q3]
    have ph := bzPh_b (Z := bzBe Z a) (m := n)
    have tl := J4.2.2.2.2.2.1
    refine r296 (d := d) (rk := rk) hB (fun b b0 b1 => by simp only [eB 105 (by decide), eB 106 (by decide)]; exact hr b b0 b1) R1 a0 a1 wB (by rw [eB 139 (by decide), eB 139 (by decide)]; omega) (by rw [eB 305 (by decide)]; omega) fun t R2 F2 WR WO c2 => ?_
    rw [← eS] at R2
    obtain ⟨m1, m2, m3, m4⟩ := mB a
    unfold bzWr at WR
    rw [m2, m3, m4] at WR
    exact k t R2 (fin t (bzWo_trans W1 WO) fun _ => ⟨WR.1, fun _ => WR.2⟩) (bzRf_trans F1 F2) (by omega)
  obtain ⟨⟨s0, s9⟩, ⟨P, p1, p2⟩, Q, q1, q2⟩ := R1.2.2.2
  have p1' : P.map (fun p => p.2) = Z.2.1 := p1
  have q1' : Q.map (fun p => p.2) = Z.2.2.1 := q1
  refine r267 (d := d + 1) hB R1.1 a0 a1 wB (Or.inl ⟨rfl, rfl, rfl⟩) p2 (fun k' k0 k1 m => ?_) (fun m => ?_)
  · -- near
    rw [eKB] at m
    have inN : bzK σ Z a ∈ Z.2.1 := by rw [← p1']; exact List.mem_map.2 ⟨_, m, rfl⟩
    refine r271 (d := d + 1) hB IkB R1.1 R1.2.1 a0 a1 wB ?_
    rw [eKB]
    by_cases fr : Z.2.2.2 a = some (bzK σ Z a)
    · rw [if_pos (show (bzBe Z a).2.2.2 a = some (bzK σ Z a) from fr)]
      exact ⟨fun z => absurd z (by decide), fun _ => fresh fr⟩
    · rw [if_neg (show ¬ (bzBe Z a).2.2.2 a = some (bzK σ Z a) from fr)]
      refine ⟨fun _ => ⟨fun z => absurd z (by omega), fun _ => ?_⟩, fun z => absurd rfl z⟩
      have pp := p2.1 _ m
      have gK := C1.2.2 _ inN
      have ll := bKg_l gK
      refine r268 (d := d + 6) R1 a0 (by omega) (by omega) (by omega) pp.2.2.1 ll.2 fun t R2 F2 WL WO u2 => ?_
      have t73 : bi t 12 73 = bi s1 12 73 := u2 12 (by decide) 73
      refine ⟨⟨by omega, by omega⟩, ⟨by omega, by omega⟩, ?_⟩
      -- it becomes the latest
      have st : ∀ b, b ≠ 12 → b ≠ 121 → ∀ j, bi (bw (bw t 12 73 (bi t 12 73 + 1)) 121 k' (bi t 12 73 + 1)) b j = bi t b j := fun b h1 h2 j => by rw [bi_ne h2, bi_ne h1]
      have R3 : bzR0 σ n (bzMv (bzBe Z a) (bzK σ Z a)) (bw (bw t 12 73 (bi t 12 73 + 1)) 121 k' (bi t 12 73 + 1)) := by
        obtain ⟨E, Rk, Ry, _, ⟨P3, x1, x2⟩, Q3, y1, y2⟩ := R2
        have U : bUn [121] [73] t (bw (bw t 12 73 (bi t 12 73 + 1)) 121 k' (bi t 12 73 + 1)) := bUn_w (bUn_f bUn_refl (by decide) (by decide)) (by decide) (by decide)
        have g73 : bi (bw (bw t 12 73 (bi t 12 73 + 1)) 121 k' (bi t 12 73 + 1)) 12 73 = bi t 12 73 + 1 := by rw [bi_ne (by decide), bi_eq ⟨by omega, by omega⟩]
        have other : ∀ j, 0 ≤ j → j ≠ k' → bzSs t (bw (bw t 12 73 (bi t 12 73 + 1)) 121 k' (bi t 12 73 + 1)) j := fun j j0 jn => ⟨fun b hb => by
          simp only [List.mem_cons, List.not_mem_nil, or_false] at hb
          by_cases y : b = 121
          · rw [y, bi_nj (by omega) j0 jn, bi_ne (by decide)]
          · exact st b (by omega) y j, fun i _ _ => st 126 (by decide) (by decide) _, fun i _ _ => st 128 (by decide) (by decide) _⟩
        have m3 : (k', bzK σ Z a) ∈ P := m
        -- the slot is the same in the list that the state has now
        have P2t : bzSP 0 32 P t := bzSP_m p2 (fun j j0 j1 => ⟨fun b hb => u2 b (by simp only [List.mem_cons, List.not_mem_nil, or_false] at hb ⊢; omega) j, fun i _ _ => u2 126 (by decide) _, fun i _ _ => u2 128 (by decide) _⟩) (by omega)
        have skt : bzSk t k' (bzK σ Z a) := (P2t.1 _ m3).2.2.1
        refine ⟨bzRe_u E U (by decide) (by decide), bzRk_u Rk (fun b hb => st b (by unfold bRkK at hb; simp only [List.mem_cons, List.not_mem_nil, or_false] at hb; omega) (by unfold bRkK at hb; simp only [List.mem_cons, List.not_mem_nil, or_false] at hb; omega)) rfl, ⟨fun b hb j j0 => ?_, ?_, ?_, ?_⟩, ⟨by omega, by omega⟩, ⟨P.filter (fun p => !decide (p.2 = bzK σ Z a)) ++ [(k', bzK σ Z a)], ?_, ?_⟩, Q3, y1, bzSP_m y2 (fun j j0 j1 => other j (by omega) (by omega)) (by omega)⟩
        · have hb2 := hb
          simp only [List.mem_cons, List.not_mem_nil, or_false] at hb2
          rw [st b (by omega) (by omega)]; exact Ry.1 b hb j j0
        · rw [bi_ne (by decide), bi_nj (by decide) (by decide) (by decide)]; exact Ry.2.1
        · rw [bi_ne (by decide), bi_nj (by decide) (by decide) (by decide)]; exact Ry.2.2.1
        · rw [bi_ne (by decide), bi_nj (by decide) (by decide) (by decide)]; exact Ry.2.2.2
        · rw [List.map_append, bzRm_P, p1']; rfl
        · refine bzSP_put P2t List.filter_sublist (fun p hp y => List.mem_filter.2 ⟨hp, ?_⟩) (fun p hp => ?_) ⟨k0, k1⟩ (fun j j0 j1 jn => other j j0 jn) (bi_eq ⟨by omega, by omega⟩) g73 ?_ gK (by omega)
          · show (!decide (p.2 = bzK σ Z a)) = true
            rw [decide_eq_false (fun e2 => y (congrArg Prod.fst (bNd_u P2t.2.2.1 hp m3 e2)))]
            rfl
          · obtain ⟨z1, z2⟩ := List.mem_filter.1 hp
            have z3 : ¬ p.2 = bzK σ Z a := fun e => by
              rw [decide_eq_true e] at z2
              exact absurd z2 (by decide)
            exact ⟨fun e => z3 (bSP_one P2t.2.1 (k := k') (by rw [← e]; exact z1) m3), z3⟩
          · obtain ⟨g1, g2, g3, g4, g5, g6, g7, g8⟩ := skt
            exact ⟨by rw [st 122 (by decide) (by decide)]; exact g1, by rw [st 123 (by decide) (by decide)]; exact g2, by rw [st 124 (by decide) (by decide)]; exact g3, by rw [st 125 (by decide) (by decide)]; exact g4, fun i hi => by rw [st 126 (by decide) (by decide)]; exact g5 i hi, by rw [st 127 (by decide) (by decide)]; exact g6, fun i hi => by rw [st 128 (by decide) (by decide)]; exact g7 i hi, by rw [st 129 (by decide) (by decide)]; exact g8⟩
      have F3 : bzRf s (bw (bw t 12 73 (bi t 12 73 + 1)) 121 k' (bi t 12 73 + 1)) := bzRf_trans (bzRf_trans (bzRf_trans F1 F2) (bzRf_f (by decide) (by decide))) (bzRf_w (by decide))
      have W3 : bzWo a s (bw (bw t 12 73 (bi t 12 73 + 1)) 121 k' (bi t 12 73 + 1)) := bzWo_trans (bzWo_trans W1 WO) (bzWo_u fun b hb j => st b (by simp only [List.mem_cons, List.not_mem_nil, or_false] at hb; omega) (by simp only [List.mem_cons, List.not_mem_nil, or_false] at hb; omega) j)
      have WL3 : bzWl (bw (bw t 12 73 (bi t 12 73 + 1)) 121 k' (bi t 12 73 + 1)) a (bzK σ Z a) := bzWl_u WL (fun b hb j => st b (by simp only [List.mem_cons, List.not_mem_nil, or_false] at hb; omega) (by simp only [List.mem_cons, List.not_mem_nil, or_false] at hb; omega) j)
      have c3 : bi (bw (bw t 12 73 (bi t 12 73 + 1)) 121 k' (bi t 12 73 + 1)) 12 73 = bi s 12 73 + 1 := by rw [bi_ne (by decide), bi_eq ⟨by omega, by omega⟩]; omega
      generalize bw (bw t 12 73 (bi t 12 73 + 1)) 121 k' (bi t 12 73 + 1) = s3 at *
      refine r295 (d := d + 6) R3 a0 (by omega) (by decide) fun t4 R4 F4 u4 => ?_
      have zM : zU [142, 144] (bzBe Z a) (bzE (bzMv (bzBe Z a) (bzK σ Z a)) a 1) := fun c hc j => by
        simp only [List.mem_cons, List.not_mem_nil, or_false, not_or] at hc
        unfold bzE
        rw [zw_a hc.2, zw_a hc.1]
        rfl
      obtain ⟨hM, mM⟩ := bzEnv hB zM (by decide)
      have eKM : bzK σ (bzE (bzMv (bzBe Z a) (bzK σ Z a)) a 1) a = bzK σ Z a := (mM a).1.trans eKB
      have hv : bzV σ Z a ≠ -1 := by
        rw [bzV_k O.1.1]
        have := gK.2.2.2.2.2.2.2.2.1
        omega
      have IkM : bzIk n (bzE (bzMv (bzBe Z a) (bzK σ Z a)) a 1) := fun b b0 b1 K hK => by
        rw [zM 101 (by decide), zM 102 (by decide), zM 103 (by decide), zM 105 (by decide), zM 112 (by decide)]
        exact IkB b b0 b1 K hK
      have u4b : ∀ b ∈ [130, 131, 132, 133], ∀ j, bi t4 b j = bi s3 b j := fun b hb j => u4 b (by simp only [List.mem_cons, List.not_mem_nil, or_false] at hb; omega) (by simp only [List.mem_cons, List.not_mem_nil, or_false] at hb; omega) j
      refine r272 (d := d + 5) hM IkM R4 a0 a1 (by rw [zM 140 (by decide)]; exact wB) (by rw [(mM a).2.1, (mB a).2.1]; exact hv) (by rw [eKM]; exact bzWl_u WL3 (fun b hb j => u4b b (by simp only [List.mem_cons, List.not_mem_nil, or_false] at hb ⊢; omega) j)) fun t5 R5 F5 u5 => ?_
      rw [eKM] at R5
      have eS : bzSt σ Z a = bzH (bzE (bzMv (bzBe Z a) (bzK σ Z a)) a 1) a (bzK σ Z a) := by unfold bzSt; rw [if_neg fr, if_pos inN]
      rw [← eS] at R5
      refine k t5 R5 (fin t5 (bzWo_trans (bzWo_trans W3 (bzWo_u u4b)) (bzWo_u fun b hb j => u5 b (by unfold bRkK; simp only [List.mem_cons, List.not_mem_nil, or_false] at hb ⊢; omega) (by simp only [List.mem_cons, List.not_mem_nil, or_false] at hb; omega) j)) fun hg => ?_) (bzRf_trans (bzRf_trans F3 F4) F5) (by rw [u5 12 (by decide) (by decide), u4 12 (by decide) (by decide)]; omega)
      have := hg.2.2
      rw [eS] at this
      have e2 : (bzH (bzE (bzMv (bzBe Z a) (bzK σ Z a)) a 1) a (bzK σ Z a)).1 142 a = 1 := by
        show (zw (bzE (bzMv (bzBe Z a) (bzK σ Z a)) a 1) 112 a (bKv (bzK σ Z a))).1 142 a = 1
        rw [zw_a (by decide)]
        unfold bzE
        rw [zw_a (by decide), zw_e]
      rw [e2] at this
      exact absurd this (by decide)
  · -- not near
    rw [eKB, p1'] at m
    refine r271 (d := d + 1) hB IkB R1.1 R1.2.1 a0 a1 wB ?_
    rw [eKB]
    by_cases fr : Z.2.2.2 a = some (bzK σ Z a)
    · rw [if_pos (show (bzBe Z a).2.2.2 a = some (bzK σ Z a) from fr)]
      exact ⟨fun z => absurd z (by decide), fun _ => fresh fr⟩
    · rw [if_neg (show ¬ (bzBe Z a).2.2.2 a = some (bzK σ Z a) from fr), e87]
      refine ⟨fun _ => ⟨fun _ => ⟨fun y => run fr m (fun q => q.1 y), fun y => ?_⟩, fun z => absurd rfl z⟩, fun z => absurd rfl z⟩
      refine r267 (d := d + 1) hB R1.1 a0 a1 wB (Or.inr ⟨rfl, rfl, rfl⟩) q2 (fun k' k0 k1 mf => ?_) (fun mf => ?_)
      · -- far
        rw [eKB] at mf
        have inF : bzK σ Z a ∈ Z.2.2.1 := by rw [← q1']; exact List.mem_map.2 ⟨_, mf, rfl⟩
        refine ⟨fun z => absurd z (by omega), fun _ => r267 (d := d + 1) hB R1.1 a0 a1 wB (Or.inr ⟨rfl, rfl, rfl⟩) q2 (fun k2 k20 k21 mf2 => ?_) (fun mf2 => absurd ?_ mf2)⟩
        · rw [eKB] at mf2
          have gK := C2.2.2 _ inF
          have ll := bKg_l gK
          refine r268 (d := d + 6) R1 a0 (by omega) (by omega) k21 (q2.1 _ mf2).2.2.1 ll.2 fun t R2 F2 WL WO u2 => ?_
          have t105 : bi t 12 105 = Z.1 305 0 := by rw [R2.2.2.1.2.1]; exact eB 305 (by decide) 0
          have t88 : bi t 12 88 = bi σ 12 88 := R2.1.1.2.2.2.2
          rw [t105, t88]
          have eS : bzSt σ Z a = zw (zw (bzBe Z a) 147 a 1) 146 a (Z.1 305 0 + bi σ 12 88) := by unfold bzSt; rw [if_neg fr, if_neg m, if_pos ⟨y, inF⟩]
          have R3 : bzR0 σ n (bzSt σ Z a) (bw (bw t 147 a 1) 146 a (Z.1 305 0 + bi σ 12 88)) := by
            rw [eS]
            exact bzR0_w (bzR0_w R2 (by decide) a0 (by decide)) (by decide) a0 ⟨by omega, by omega⟩
          have st : ∀ b ∈ [130, 131, 132, 133], ∀ j, bi (bw (bw t 147 a 1) 146 a (Z.1 305 0 + bi σ 12 88)) b j = bi t b j := fun b hb j => by
            simp only [List.mem_cons, List.not_mem_nil, or_false] at hb
            rw [bi_ne (by omega), bi_ne (by omega)]
          have hv : bzV σ Z a ≠ -1 := by
            rw [bzV_k O.1.1]
            have := gK.2.2.2.2.2.2.2.2.1
            omega
          refine ⟨⟨by omega, by omega⟩, k _ R3 (fin _ (bzWo_trans (bzWo_trans W1 WO) (bzWo_u st)) fun _ => ⟨⟨?_, ?_, fun i hi => ?_⟩, fun z => ?_⟩) (bzRf_trans (bzRf_trans (bzRf_trans F1 F2) (bzRf_w (by decide))) (bzRf_w (by decide))) ?_⟩
          · rw [st 130 (by decide), WL.1, if_neg hv]; exact (bzV_k O.1.1).symm
          · rw [st 131 (by decide)]; exact WL.2.1
          · rw [st 132 (by decide)]; exact WL.2.2 i hi
          · rw [eS, zw_a (by decide), zw_e] at z; exact absurd z (by decide)
          · rw [bi_ne (by decide), bi_ne (by decide), u2 12 (by decide)]; omega
        · rw [eKB, q1']; exact inF
      · -- not far
        rw [eKB, q1'] at mf
        exact ⟨fun _ => run fr m (fun q => mf q.2), fun z => absurd rfl z⟩
end

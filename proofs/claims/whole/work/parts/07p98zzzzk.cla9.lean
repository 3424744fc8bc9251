/-! BUILD, 33: the class: those that end now -/
section
variable {d : Nat} {σ s t r u : bSt} {f : Int → bSt → Prop} {fa : Nat → bSt → Prop} {fv : bSt → Prop} {a b g i j k x y v w p : Int} {c e e0 q m n z : Nat} {K M : bKy} {L N F : List bKy} {Z Y X W : bZs} {S : List Nat} {T U : Int → Bool}
theorem bzCG_eq (h : bzCG σ n Z s) (e : ∀ c ∈ [134, 135, 137, 138, 139, 305, 306, 395], ∀ j, Y.1 c j = Z.1 c j) : bzCG σ n Y s := by
  refine ⟨h.1, fun p hp i i0 i1 => ?_, fun p hp => ?_⟩
  · rw [e p.1]
    · exact h.2.1 p hp i i0 i1
    · unfold bzGp at hp
      simp only [List.mem_cons, List.not_mem_nil, or_false] at hp
      rcases hp with rfl | rfl | rfl | rfl | rfl <;> decide
  · rw [e p.1]
    · exact h.2.2 p hp
    · unfold bzGq at hp
      simp only [List.mem_cons, List.not_mem_nil, or_false] at hp
      rcases hp with rfl | rfl | rfl <;> decide
theorem bzCf_cg (h : bzCf s t) (G : bzCG σ n Z s) : bzCG σ n Z t := bzCG_s G fun b hb j => (h.1 b (by
  unfold bzTc
  simp only [List.mem_cons, List.not_mem_nil, or_false] at hb ⊢
  omega)).1 j (by
  simp only [List.mem_cons, List.not_mem_nil, or_false] at hb
  omega)
theorem bAi_n (a : Int) : 256 * (2 * (bAi a / 256) + 0) + 4 = bNe a := by unfold bAi bNe; omega
theorem bNe_4 (a : Int) : bNe a % 256 = 4 := by unfold bNe; omega
theorem bNe_lt (h : a ≤ 120) : bNe a < 256000 := by unfold bNe; omega
theorem bzLv_e : (∀ c, c ≠ 137 → c ≠ 138 → c ≠ 148 → ∀ j, (bzLv Z a v).1 c j = Z.1 c j) ∧ (bzLv Z a v).2 = Z.2 := by
  unfold bzLv
  by_cases q : Z.1 148 a = -1
  · rw [if_pos q]; exact ⟨fun _ _ _ _ _ => rfl, rfl⟩
  · rw [if_neg q]; exact ⟨fun c h1 h2 h3 j => by rw [zw_a h3, zw_a h1, zw_a h2], rfl⟩
/-- a run has ended -/
theorem w53 (I : bzI σ n Z) (R : bzCC σ n Z s) (hg : bzG Z a) (a0 : 0 ≤ a) (a1 : a < (n : Int)) (hx : x = 0 ∨ x = 1)
    (h5 : bzV σ Z a = -1 → ∀ u t, bzK0 s u → bzEd a 5 (Z.1 305 0) u t → bzCG σ n (bzQ σ Z a (if x = 1 then Z.1 103 a else -1)) t → bzCh t Z.2.1 Z.2.2.1 → fv t)
    (hd : bzV σ Z a ≠ -1 → ∀ u t r, bzK0 s u → bzEd a (if x = 1 then 3 else 4) (Z.1 305 0) u t → bzK0 t r → bzCG σ n (bzRn σ (bzQ σ Z a (if x = 1 then Z.1 103 a else -1)) a x (bzX σ Z a) (bzK σ Z a)) r → bzCh r (bzRn σ (bzQ σ Z a (if x = 1 then Z.1 103 a else -1)) a x (bzX σ Z a) (bzK σ Z a)).2.1 (bzRn σ (bzQ σ Z a (if x = 1 then Z.1 103 a else -1)) a x (bzX σ Z a) (bzK σ Z a)).2.2.1 → fv r) : bWp (d + 6) 53 [.ref 5, .ref (bAi a), .int (bn x)] s (bRv fv) := by
  have n120 := I.1.2.1.1
  have a2 : a ≤ 120 := by omega
  obtain ⟨As, Ad⟩ := R.2.2.2 a a0 a1
  obtain ⟨hN, hF⟩ := bzN_l I
  have l := bzKl_z (σ := σ) I.1.1.1 I.1.2.1 a0 a1
  have T := Ad.2.2.2.2.1 (Ad.2.2.2.2.2.1 hg.2.1)
  have o := I.1.2.1.2 a a0 a1
  have vr := bzV_rg I.1 a0 a1 hg.1
  have x01 := bzX_01 (σ := σ) (Z := Z) (a := a)
  have j4 := I.2.2.2.2.2
  have nw := j4.1
  have j11 := j4.2.2.2.2.2.2.1
  have j11b := j4.2.2.2.2.2.2.2.1
  have nbz := bzNb_b (n := n) (Z := Z)
  have nez := bzNe_b (n := n) (Z := Z)
  have ver : bi s (bNe a) 2 = Z.1 103 a := As.2.2.2.1.2.2
  have kV : bKv (bzK σ Z a) = bzV σ Z a := (bzV_k I.1.1.1).symm
  refine ⟨rfl, fun A hA => sq53_0 (bWp_mono _) hA bAi_0 (by rcases hx with rfl | rfl <;> decide) ?_⟩
  rw [bAi_n, ver]
  have body : ∀ v, (v = if x = 1 then Z.1 103 a else -1) → A (13, [.ref 5, .ref (bAi a), .int (bn x), .ref (bNe a)], [.int (bn v), .int (bn (bi s (bAi a) 14)), .ref 2], s) := fun v hv => by
    rw [← hv] at h5 hd
    have rv : -1 ≤ v ∧ v < 1000 := by rw [hv]; split <;> omega
    have m148 := (I.2.2.2.1 a a0 a1).2.1
    have b14 : bRg (bi s (bAi a) 14) := bi_rg _ _ _
    refine sq53_13 (bWp_mono _) hA (by rcases hx with rfl | rfl <;> decide) ⟨by omega, by omega⟩ b14 (w29z (d := d + 3) R I a0 a1 hg.2.2 rv fun u1 F1 G1 C1 => ⟨bNe_4 a, ?_⟩)
    have f1 := (bzK0_a F1 a2).1
    have n1 : ∀ j, bi u1 (bNe a) j = bi s (bNe a) j := f1 _ (by simp [bzTa])
    have e24 : bi u1 24 11 = Z.1 139 11 := by rw [G1.2.1 (139, 24, 12) (by decide) 11 (by decide) (by decide)]; exact bzLv_e.1 139 (by decide) (by decide) (by decide) 11
    rw [n1 7, T.2.2.2]
    -- what it looked at is counted
    have cnt : ∀ Q : bSt → Prop, (∀ u2, bzK0 s u2 → bzCG σ n (bzQ σ Z a v) u2 → bzCh u2 Z.2.1 Z.2.2.1 → Q u2) → bWp (d + 5) 54 [.ref 5, .int (bn 11), .int (bn (bzX σ Z a))] u1 (bRv Q) := fun Q hQ => by
      refine w54 (by decide) (by decide) ⟨by omega, by omega⟩ (by rw [e24]; exact ⟨by omega, by omega⟩) (hQ _ (bzKf_trans F1 (bzKf_w (Or.inl (bzTb_s (by decide))))) ?_ (bzCh_w C1 (by decide) (by decide) (by decide) hN hF))
      rw [e24]
      exact bzCG_w G1 (b := 24) (mx := 12) (by decide) (by decide) ⟨by omega, by omega⟩
    have rest : ∀ u2, bzK0 s u2 → bzCG σ n (bzQ σ Z a v) u2 → bzCh u2 Z.2.1 Z.2.2.1 → ((bi u2 (bNe a) 8 = -1 → (bAi a % 256 = 0 ∧ bWp (d + 5) 13 [.ref (bAi a), .int (bn 5), .int (bn (bi u2 5 9))] u2 (bRv (fun s7 => bRv fv (.inl none) s7)))) ∧ (¬ bi u2 (bNe a) 8 = -1 → ((x = 0 → A (39, [.ref 5, .ref (bAi a), .int (bn x), .ref (bNe a)], [.int (bn 4), .ref (bAi a)], u2)) ∧ (¬ x = 0 → A (39, [.ref 5, .ref (bAi a), .int (bn x), .ref (bNe a)], [.int (bn 3), .ref (bAi a)], u2))))) := fun u2 F2 G2 C2 => by
      have f2 := (bzK0_a F2 a2).1
      have n2 : ∀ j, bi u2 (bNe a) j = bi s (bNe a) j := f2 _ (by simp [bzTa])
      have e59 : bi u2 5 9 = Z.1 305 0 := by
        rw [G2.2.2 (305, 9) (by decide)]
        show (bzQ σ Z a v).1 305 0 = _
        unfold bzQ
        rw [zw_a (by decide)]
        exact bzLv_e.1 305 (by decide) (by decide) (by decide) 0
      have q2 : (bzQ σ Z a v).2 = Z.2 := bzLv_e.2
      rw [n2 8, T.2.2.1, e59]
      refine ⟨fun q => ⟨bAi_0, w13 (d := d + 2) (by decide) (by decide) ⟨by omega, by omega⟩ (fun q => absurd q (by decide)) fun t E => h5 q u2 t F2 E (bzEd_cg E G2) (bzEd_ch E a2 C2 hN hF)⟩, fun q => ?_⟩
      have hdd := hd q
      have main : ∀ st, (st = if x = 1 then 3 else 4) → A (39, [.ref 5, .ref (bAi a), .int (bn x), .ref (bNe a)], [.int (bn st), .ref (bAi a)], u2) := fun st hst => by
        rw [← hst] at hdd
        have sr : st = 3 ∨ st = 4 := by rw [hst]; split <;> omega
        refine sq53_39 (bWp_mono _) hA (by rcases hx with rfl | rfl <;> decide) (by rcases sr with rfl | rfl <;> decide) ⟨bAi_0, ?_⟩
        rw [e59]
        refine w13 (d := d + 2) (by omega) ⟨by omega, by omega⟩ ⟨by omega, by omega⟩ (fun _ => by rw [n2, T.2.2.2]; exact x01) fun t E => ?_
        have G3 := bzEd_cg E G2
        have C3 := bzEd_ch E a2 C2 hN hF
        have hd3 := hdd u2 t
        have n3 : ∀ y ∈ [bNe a, bNe a + 18, bNe a + 19], ∀ j, bi t y j = bi s y j := fun y hy j => by
          have my : y ∈ bAi a :: (bAi a + 13) :: bzTa a := by
            unfold bzTa
            simp only [List.mem_cons, List.not_mem_nil, or_false] at hy ⊢
            omega
          rw [E.2.1 y (by
            unfold bAi bNe at *
            simp only [List.mem_cons, List.not_mem_nil, or_false] at hy
            omega) (by
            unfold bNe bKe at *
            simp only [List.mem_cons, List.not_mem_nil, or_false, not_or] at hy ⊢
            omega), f2 y my]
        have K3 : bzEk t (bNe a) (bzK σ Z a) := bzEk_m T.2.1 (fun j _ => n3 _ (by simp) j) (fun j _ _ => n3 _ (by simp) j) (fun j _ _ => n3 _ (by simp) j) ⟨l.1, l.2.1⟩
        -- put near, then far
        have far : ∀ t3, bzK0 t t3 → (∀ X, X.1 = (bzQ σ Z a v).1 ∧ x = 0 ∨ X.1 = (zw (bzQ σ Z a v) 134 (bzV σ Z a) 1).1 ∧ x ≠ 0 → bzCG σ n X t3) → bzCh t3 Z.2.1 Z.2.2.1 → bWp (d + 5) 17 [.ref 1, .ref (bNe a)] t3 (bRv (fun s4 => (bi s4 5 5 = 0 → fv s4) ∧ (¬ bi s4 5 5 = 0 → (bi s4 (bNe a) 7 = 0 → bWp (d + 5) 17 [.ref 257, .ref (bNe a)] s4 (bRv (fun s8 => bWp (d + 5) 21 [.ref 257, .int (bn (bi s8 (bNe a) 8))] s8 (bRv (fun s10 => fv s10))))) ∧ (¬ bi s4 (bNe a) 7 = 0 → fv s4)))) := fun t3 F3 G4 C4 => by
          refine w17n (d := d + 1) C4 hN hF I.2.2.2.2.1.1.1 (bNe_4 a) (bNe_lt a2) ((bzK0_ek F3 a2 l).1 K3) l (by rw [(bzK0_a F3 a2).1 _ (by simp [bzTa]), n3 _ (by simp), T.2.2.2]; exact x01) fun t4 B4 C5 => ?_
          have F5 : bzK0 t t4 := bzKf_trans F3 (bzKf_cf B4)
          have G5 : ∀ X, X.1 = (bzQ σ Z a v).1 ∧ x = 0 ∨ X.1 = (zw (bzQ σ Z a v) 134 (bzV σ Z a) 1).1 ∧ x ≠ 0 → bzCG σ n X t4 := fun X hX => bzCf_cg B4 (G4 X hX)
          have n5 : ∀ j, bi t4 (bNe a) j = bi s (bNe a) j := fun j => by rw [(bzK0_a F5 a2).1 _ (by simp [bzTa]), n3 _ (by simp)]
          have e55 : bi t4 5 5 = bi σ 12 87 := by
            by_cases hx0 : x = 0
            · exact (G5 (bzQ σ Z a v) (Or.inl ⟨rfl, hx0⟩)).1.2.1
            · exact (G5 (zw (bzQ σ Z a v) 134 (bzV σ Z a) 1) (Or.inr ⟨rfl, hx0⟩)).1.2.1
          rw [e55, n5 7, T.2.2.2]
          have hd5 := fun r => hd3 r F2 E
          -- the model's four forms
          have dn : ∀ W : bZs, W.2 = Z.2 → ∀ st, (bzDn W a st (bzK σ Z a)).2.1 = bzPut 24 Z.2.1 (bzK σ Z a) ∧ (bzDn W a st (bzK σ Z a)).2.2.1 = Z.2.2.1 ∧ ∀ c, c ∉ [112, 142, 144] → ∀ j, (bzDn W a st (bzK σ Z a)).1 c j = W.1 c j := fun W hW st => by
            obtain ⟨q1, _, _, _, _, q6, q7⟩ := bzDn_e (Z := W) (a := a) (v := st) (K := bzK σ Z a)
            rw [hW] at q6 q7
            exact ⟨q6, q7, q1⟩
          have stop : (¬ (bi σ 12 87 ≠ 0 ∧ bzX σ Z a = 0)) → fv t4 := fun hc => by
            refine hd5 t4 F5 ?_ ?_
            · unfold bzRn
              rw [if_neg hc]
              by_cases hx1 : x = 1
              · rw [if_pos hx1]
                refine bzCG_eq (G5 (zw (bzQ σ Z a v) 134 (bzV σ Z a) 1) (Or.inr ⟨rfl, by omega⟩)) fun c hc j => ?_
                rw [zw_w, zw_w, (dn _ q2 3).2.2 c (by
                  simp only [List.mem_cons, List.not_mem_nil, or_false, not_or] at hc ⊢
                  omega), kV]
              · rw [if_neg hx1]
                refine bzCG_eq (G5 (bzQ σ Z a v) (Or.inl ⟨rfl, by omega⟩)) fun c hc j => ?_
                rw [(dn _ q2 4).2.2 c (by
                  simp only [List.mem_cons, List.not_mem_nil, or_false, not_or] at hc ⊢
                  omega)]
            · unfold bzRn
              rw [if_neg hc]
              by_cases hx1 : x = 1
              · rw [if_pos hx1]
                show bzCh t4 (bzDn (bzQ σ Z a v) a 3 (bzK σ Z a)).2.1 (bzDn (bzQ σ Z a v) a 3 (bzK σ Z a)).2.2.1
                rw [(dn _ q2 3).1, (dn _ q2 3).2.1]; exact C5
              · rw [if_neg hx1, (dn _ q2 4).1, (dn _ q2 4).2.1]; exact C5
          refine ⟨fun y => stop fun w => w.1 y, fun y => ⟨fun y2 => ?_, fun y2 => stop fun w => y2 w.2⟩⟩
          have Kg := bzK_g I.1 a0 a1 hg.1 q
          have I2 : (∀ K ∈ bzPut 24 Z.2.1 (bzK σ Z a), bKl K) := fun K hK => bzKl ((bzPut_c I.2.2.2.2.1.1 (by decide) Kg).2.2 K hK)
          refine w17f (d := d + 1) C5 I2 hF I.2.2.2.2.1.2.1 (bNe_4 a) (bNe_lt a2) ((bzK0_ek F5 a2 l).1 K3) l (by rw [n5, T.2.2.2]; exact x01) fun t6 B6 C6 => ?_
          have F6 : bzK0 t t6 := bzKf_trans F5 (bzKf_cf B6)
          have n6 : bi t6 (bNe a) 8 = bzV σ Z a := by rw [(bzK0_a F6 a2).1 _ (by simp [bzTa]), n3 _ (by simp), T.2.2.1]
          rw [n6]
          have I3 : (∀ K ∈ bzPut 40 Z.2.2.1 (bzK σ Z a), bKl K) := fun K hK => bzKl ((bzPut_c I.2.2.2.2.1.2 (by decide) Kg).2.2 K hK)
          refine w21 (d := d + 4) (Or.inr rfl) (by omega) (by omega) (fun w => absurd w q) fun _ => hd5 _ (bzKf_trans F6 (bzKf_w (Or.inl (bzTb_s (by decide))))) ?_ ?_
          · unfold bzRn
            rw [if_pos ⟨y, y2⟩]
            by_cases hx1 : x = 1
            · rw [if_pos hx1]
              have G7 := bzCG_w (bzCf_cg B6 (G5 (zw (bzQ σ Z a v) 134 (bzV σ Z a) 1) (Or.inr ⟨rfl, by omega⟩))) (c := 135) (b := 271) (mx := 1000) (i := bzV σ Z a) (v := 1) (by decide) (by omega) (by decide)
              refine bzCG_eq G7 fun c hc j => ?_
              have e : (bzPf (bzDn (bzQ σ Z a v) a 3 (bzK σ Z a)) (bzK σ Z a)).1 c j = (bzQ σ Z a v).1 c j := (dn _ q2 3).2.2 c (by
                simp only [List.mem_cons, List.not_mem_nil, or_false, not_or] at hc ⊢
                omega) j
              rw [zw_w, zw_w, zw_w, zw_w, e, kV]
              split
              · rename_i w; rw [if_neg (fun z => by omega)]
              · rfl
            · rw [if_neg hx1]
              have G7 := bzCG_w (bzCf_cg B6 (G5 (bzQ σ Z a v) (Or.inl ⟨rfl, by omega⟩))) (c := 135) (b := 271) (mx := 1000) (i := bzV σ Z a) (v := 1) (by decide) (by omega) (by decide)
              refine bzCG_eq G7 fun c hc j => ?_
              have e : (bzPf (bzDn (bzQ σ Z a v) a 4 (bzK σ Z a)) (bzK σ Z a)).1 c j = (bzQ σ Z a v).1 c j := (dn _ q2 4).2.2 c (by
                simp only [List.mem_cons, List.not_mem_nil, or_false, not_or] at hc ⊢
                omega) j
              rw [zw_w, zw_w, e, kV]
          · have C7 := bzCh_w (v := 1) (i := bzV σ Z a) C6 (b := 271) (by decide) (by decide) (by decide) I2 I3
            unfold bzRn
            rw [if_pos ⟨y, y2⟩]
            have pf : ∀ W : bZs, W.2.2.1 = Z.2.2.1 → (bzPf W (bzK σ Z a)).2.2.1 = bzPut 40 Z.2.2.1 (bzK σ Z a) := fun W hW => by
              show bzPut 40 W.2.2.1 _ = _
              rw [hW]
            by_cases hx1 : x = 1
            · rw [if_pos hx1]
              show bzCh _ (bzDn (bzQ σ Z a v) a 3 (bzK σ Z a)).2.1 (bzPf (bzDn (bzQ σ Z a v) a 3 (bzK σ Z a)) (bzK σ Z a)).2.2.1
              rw [(dn _ q2 3).1, pf _ (dn _ q2 3).2.1]; exact C7
            · rw [if_neg hx1]
              show bzCh _ (bzDn (bzQ σ Z a v) a 4 (bzK σ Z a)).2.1 (bzPf (bzDn (bzQ σ Z a v) a 4 (bzK σ Z a)) (bzK σ Z a)).2.2.1
              rw [(dn _ q2 4).1, pf _ (dn _ q2 4).2.1]; exact C7
        have n38 : bi t (bNe a) 8 = bzV σ Z a := by rw [n3 _ (by simp), T.2.2.1]
        refine ⟨fun hx0 => ?_, fun hx0 => ⟨bNe_4 a, ?_⟩⟩
        · refine bWp_mono _ _ _ _ _ _ (bRv_e fun s4 k => ?_) (far t bzKf_refl (fun X hX => ?_) C3)
          · exact ⟨k.1, fun y => ⟨bNe_4 a, k.2 y⟩⟩
          · rcases hX with ⟨w, _⟩ | ⟨_, w⟩
            · exact bzCG_eq G3 fun c _ j => by rw [w]
            · exact absurd hx0 w
        · rw [n38]
          refine w21 (d := d + 4) (Or.inl rfl) (by omega) (by omega) (fun w => absurd w q) fun _ => ?_
          have G4 := bzCG_w G3 (c := 134) (b := 15) (mx := 1000) (i := bzV σ Z a) (v := 1) (by decide) (by omega) (by decide)
          refine bWp_mono _ _ _ _ _ _ (bRv_e fun s4 k => ?_) (far (bw t 15 (bzV σ Z a) 1) (bzKf_w (Or.inl (bzTb_s (by decide)))) (fun X hX => ?_) (bzCh_w C3 (by decide) (by decide) (by decide) hN hF))
          · exact ⟨k.1, fun y => k.2 y⟩
          · rcases hX with ⟨_, w⟩ | ⟨w, _⟩
            · exact absurd w hx0
            · exact bzCG_eq G4 fun c _ j => by rw [w]
      exact ⟨fun hx0 => main 4 (by rw [if_neg (by omega)]), fun hx0 => main 3 (by rw [if_pos (by omega)])⟩
    refine ⟨fun q => ?_, fun q => ?_⟩
    · have := cnt _ rest
      rw [q] at this
      exact this
    · have := cnt _ rest
      rw [show bzX σ Z a = 1 by omega] at this
      exact this
  rcases hx with rfl | rfl
  · exact ⟨fun _ => body _ (by rw [if_neg (by decide)]), fun y => absurd rfl y⟩
  · exact ⟨fun y => absurd y (by decide), fun _ => ⟨bNe_4 a, body _ (by rw [if_pos rfl])⟩⟩
end

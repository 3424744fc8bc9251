/-! BUILD, 38: the class: a run begins, 2 -/
section
variable {d : Nat} {σ s t r u : bSt} {f : Int → bSt → Prop} {fa : Nat → bSt → Prop} {fv : bSt → Prop} {a b g i j k x y v w p st : Int} {c e e0 q m n z : Nat} {K M : bKy} {L N F : List bKy} {Z Y X W : bZs} {S : List Nat} {T U : Int → Bool} {rk : Int → Nat}
theorem bzB_u {σ : bSt} : ∀ (f : Nat) (Z : bZs) (a : Int), zU [134, 139] Z (bzB σ f Z a).1 ∧ (bzB σ f Z a).1.2 = Z.2 := by
  intro f
  induction f with
  | zero => intro Z a; exact ⟨zU_refl, rfl⟩
  | succ f ih =>
    intro Z a
    have P : ∀ k : Nat, zU [134, 139] Z (bzBp σ (bzB σ f) a k Z).1 ∧ (bzBp σ (bzB σ f) a k Z).1.2 = Z.2 := by
      intro k
      induction k with
      | zero => exact ⟨zU_refl, rfl⟩
      | succ k ihk =>
        unfold bzBp
        generalize bzBp σ (bzB σ f) a k Z = r at *
        obtain ⟨V, x⟩ := r
        dsimp only at *
        generalize Z.1 106 (40 * a + k) = w at *
        by_cases c1 : w < 100
        · rw [if_pos c1]; exact ihk
        rw [if_neg c1]
        by_cases c2 : V.1 134 (Z.1 112 (w - 100)) ≠ 0
        · rw [if_pos c2]; exact ihk
        rw [if_neg c2]
        by_cases c3 : bi σ 12 87 ≠ 0 ∧ V.1 135 (Z.1 112 (w - 100)) ≠ 0
        · rw [if_pos c3]
          exact ⟨zU_trans ihk.1 (zU_trans (zU_w (by decide)) (zU_w (by decide))), ihk.2⟩
        · rw [if_neg c3]
          obtain ⟨g1, g2⟩ := ih V (w - 100)
          exact ⟨zU_trans ihk.1 (zU_trans g1 (zU_trans (zU_w (by decide)) (zU_w (by decide)))), g2.trans ihk.2⟩
    unfold bzB
    exact P _
theorem bzFr_c (h : ∀ j, Y.1 138 j = Z.1 138 j) : ∀ (m : Nat) (w : Int), bzFr Y m w = bzFr Z m w
  | 0, _ => rfl
  | m + 1, w => by unfold bzFr; rw [h, bzFr_c h m]
theorem bzWm_c (h : ∀ j, Y.1 138 j = Z.1 138 j) (h2 : ∀ j, Y.1 137 j = Z.1 137 j) : ∀ (m : Nat) (w : Int), bzWm Y v m w = bzWm Z v m w
  | 0, _ => rfl
  | m + 1, w => by unfold bzWm; rw [h, h2, bzWm_c h h2 m]
theorem bzPk_c (h : ∀ c ∈ [103, 107, 137, 138], ∀ j, Y.1 c j = Z.1 c j) : bzPk σ Y a = bzPk σ Z a := by
  unfold bzPk bzKd
  rw [h 103 (by decide), h 107 (by decide)]
  simp only [bzWm_c (h 138 (by decide)) (h 137 (by decide)), bzFr_c (h 138 (by decide))]
theorem bzPk_r (hk : 0 ≤ bzKd σ Z a ∧ bzKd σ Z a < 3) (hm : 1 ≤ bi σ 136 (bzKd σ Z a) ∧ bi σ 136 (bzKd σ Z a) ≤ 4) : bzPk σ Z a = -1 ∨ (0 ≤ bzPk σ Z a ∧ bzPk σ Z a < 12) := by
  have a1 := bzWm_at (Z := Z) (v := Z.1 103 a) (bi σ 136 (bzKd σ Z a)).toNat (4 * bzKd σ Z a) (by omega)
  have a2 := bzFr_at (Z := Z) (bi σ 136 (bzKd σ Z a)).toNat (4 * bzKd σ Z a)
  unfold bzPk
  split <;> omega
theorem w61 (I : bzI σ n Z) (hr : bzRn0 rk n Z) (R : bzCC σ n Z s) (rd : bzRd Z a) (a0 : 0 ≤ a) (a1 : a < (n : Int)) (h13 : bi s (bAi a) 13 ≠ -1) (h0 : ¬ bzBo σ Z a → bzPk σ Z a = -1 → fv s)
    (hD : (bzBo σ Z a ∨ bzPk σ Z a ≠ -1) → bzDx a Z (bzRun σ (bzBe Z a) a)) (h1 : (bzBo σ Z a ∨ bzPk σ Z a ≠ -1) → ∀ t, bzCC σ n (bzRun σ (bzBe Z a) a) t → (∀ b, 0 ≤ b → b < (n : Int) → bi t (bAi b) 13 = bi s (bAi b) 13) → fv t) : bWp (d + 4) 61 [.ref 5, .ref (bAi a), .int (bn a)] s (bRv fv) := by
  have n120 := I.1.2.1.1
  have a2 : a ≤ 120 := by omega
  obtain ⟨As, Ad⟩ := R.2.2.2 a a0 a1
  obtain ⟨hN, hF⟩ := bzN_l I
  have o := I.1.2.1.2 a a0 a1
  have ow := I.1.2.2.1 a a0 a1 rd.1
  have j2 := I.2.2.2.1 a a0 a1
  have z2 := j2.2.2.1 rd.2.1
  have j4 := I.2.2.2.2.2
  have nw := j4.1
  have nbz := bzNb_b (n := n) (Z := Z)
  have lat := I.1.1.2.2
  have z142 : Z.1 142 a = -1 := Classical.byContradiction fun q => (I.2.2.1 a a0 a1).2.1 q rd.2.1
  have ng : ¬ bzG Z a := fun q => q.2.1 rd.2.1
  have cnt := I.1.1.2.1 (bzKd σ Z a) ow.2.2.2.1.1 ow.2.2.2.1.2
  have pkr := bzPk_r (σ := σ) (Z := Z) (a := a) ow.2.2.2.1 cnt
  have e59 : bi s 5 9 = Z.1 305 0 := R.2.1.2.2 (305, 9) (by decide)
  have e55 : bi s 5 5 = bi σ 12 87 := R.2.1.1.2.1
  have e56 : bi s 5 6 = bi σ 12 88 := R.2.1.1.2.2.1
  obtain ⟨b6, b7, b8, b9⟩ := As.2.2.2.2.2 rd.1
  have ver : bi s (bNe a) 2 = Z.1 103 a := As.2.2.2.1.2.2
  have s15 : bi s (bAi a) 15 = 2147483647 := by rw [Ad.2.1.1, if_neg (fun q => ng q.1)]
  have s17 : bi s (bAi a) 17 = 2147483647 := by rw [Ad.2.1.2.2, if_neg (fun q => ng q.1)]
  have s14 : bi s (bAi a) 14 = -1 := by rw [Ad.2.2.1 z142]; exact z2.2.2.2
  have s16 : bi s (bAi a) 16 = 2147483647 := by rw [Ad.2.1.2.1, if_neg (fun q => ng q.1)]
  have du := ow.2.2.2.2.1
  have e1 : ∀ c, c ≠ 143 → ∀ j, (bzBe Z a).1 c j = Z.1 c j := fun c hc j => zw_a hc
  have e143 : (bzBe Z a).1 143 a = Z.1 305 0 := zw_e
  have rA : bRg (Z.1 305 0) := ⟨by omega, by omega⟩
  have lo : bAi a ≠ 5 ∧ bAi a ≠ 18 ∧ bAi a ≠ bNe a := by unfold bAi bNe; omega
  -- the state with its begin
  have s3n : ∀ y, y ≠ bAi a → ∀ j, bi (bw s (bAi a) 11 (Z.1 305 0)) y j = bi s y j := fun y hy j => bi_ne hy
  have s3a : ∀ j, 0 ≤ j → bi (bw s (bAi a) 11 (Z.1 305 0)) (bAi a) j = if j = 11 then Z.1 305 0 else bi s (bAi a) j := fun j j0 => by
    rw [bi_bw (by decide) j0 rA]; simp only [true_and]
  have g1 := s3n 5 (Ne.symm lo.1) 9
  have g3 := s3n 5 (Ne.symm lo.1) 6
  have g4 := s3n (bNe a) (Ne.symm lo.2.2) 2
  have g2 := s3a 7 (by decide)
  rw [if_neg (by decide)] at g2
  rw [e59] at g1
  rw [e56] at g3
  rw [ver] at g4
  rw [b7] at g2
  have s3G : bzCG σ n (bzBe Z a) (bw s (bAi a) 11 (Z.1 305 0)) := bzCG_s (bzCG_z R.2.1 (zU_w (S := [143]) (by decide)) (by decide)) fun b hb j => s3n b (fun e => by
    rw [e] at hb
    unfold bAi at hb
    simp only [List.mem_cons, List.not_mem_nil, or_false] at hb
    omega) j
  have s3C : bzCh (bw s (bAi a) 11 (Z.1 305 0)) Z.2.1 Z.2.2.1 := bzCh_w R.2.2.1 (by unfold bAi; omega) (by unfold bAi; omega) (by unfold bzTc bAi; omega) hN hF
  have s3F : bzKf (fun y => y = bAi a) s (bw s (bAi a) 11 (Z.1 305 0)) := bzKf_w (Or.inr rfl)
  have s3r : ∀ b, br (bw s (bAi a) 11 (Z.1 305 0)) 33 b = br s 33 b := fun _ => rfl
  have uR : bzRun σ (bzBe Z a) a = if bzBo σ Z a then zw (bzR1 σ (bzBe Z a) a) 146 a (Z.1 305 0 + bzDu σ Z a + bi σ 12 88) else bzR1 σ (bzBe Z a) a := by
    unfold bzRun bzBo bzDu
    rw [e1 107 (by decide), e1 305 (by decide)]
  have uPk : bzPk σ (bzBe Z a) a = bzPk σ Z a := bzPk_c fun c hc j => e1 c (by
    simp only [List.mem_cons, List.not_mem_nil, or_false] at hc
    omega) j
  generalize hs3 : bw s (bAi a) 11 (Z.1 305 0) = s3 at *
  have fin : ∀ (t : bSt) (Y : bZs), Y = bzRun σ (bzBe Z a) a → (bzBo σ Z a ∨ bzPk σ Z a ≠ -1) → Y.1 142 a = -1 → Y.1 144 a = Z.1 144 a → Y.2 = Z.2 → Y.1 143 a = Z.1 305 0 → Y.1 147 a = 0 → bzKf (fun y => y = bAi a) s3 t → (∀ j ∈ ([0, 1, 5, 6, 7, 8, 9, 10, 11, 12, 13, 15] : List Int), bi t (bAi a) j = bi s3 (bAi a) j) → bi t (bAi a) 14 = Y.1 148 a → bi t (bAi a) 16 = bzNv (Y.1 145 a) → bi t (bAi a) 17 = bzNv (Y.1 146 a) → bzCG σ n Y t → bzCh t Z.2.1 Z.2.2.1 → fv t := fun t Y hY hc c142 c144 c2 c143 c147 F f0 f14 f16 f17 G C => by
    have D := hD hc
    have k := h1 hc
    rw [← hY] at D k
    have := bzCC_r I R rd a0 a1 h13 D c142 c144 (by rw [c2]) (bzKf_trans s3F F) (fun j hj => by
      rw [f0 j (by
        simp only [List.mem_cons, List.not_mem_nil, or_false] at hj ⊢
        omega), s3a j (by
        simp only [List.mem_cons, List.not_mem_nil, or_false] at hj
        omega), if_neg (by
        simp only [List.mem_cons, List.not_mem_nil, or_false] at hj
        omega)]) (by rw [f0 11 (by decide), s3a 11 (by decide), if_pos rfl, c143]) f14 (by rw [f0 15 (by decide), s3a 15 (by decide), if_neg (by decide), s15, if_neg (fun y => y c147)]) (by rw [if_pos c147]; exact f16) (by rw [if_pos c147]; exact f17) (by rw [c143]; omega) G (by rw [c2]; exact C)
    exact k t this.1 this.2
  refine ⟨rfl, fun A hA => sq61_0 (bWp_mono _) hA bAi_0 ⟨by omega, by omega⟩ ?_⟩
  rw [b8, b6, bAi_n, ver, e55]
  have pick : ∀ Q : Int → bSt → Prop, Q (bzPk σ Z a) s → bWp (d + 3) 25 [.ref 2, .int (bn (bzKd σ Z a)), .int (bn (Z.1 103 a))] s (bRn Q) := fun Q hQ => w25 (d := d + 1) R.2.1 ow.2.2.2.1.1 ow.2.2.2.1.2 cnt ⟨by omega, by omega⟩ hQ
  have nv : ∀ x, 0 ≤ x → bzNv x = x := fun x hx => by unfold bzNv; rw [if_neg (by omega)]
  have nv1 : bzNv (-1) = 2147483647 := rfl
  have body : ∀ x, (x = if bzBo σ Z a then 1 else 0) → (x = 1 ∨ bzPk σ Z a ≠ -1) → ∀ v5, A (25, [.ref 5, .ref (bAi a), .int (bn a), .int (bn x), .int (bn (bzPk σ Z a)), v5], [], s) := fun x hx hc v5 => by
    have x01 : x = 0 ∨ x = 1 := by rw [hx]; split <;> omega
    have xb : x = 1 ↔ bzBo σ Z a := by
      rw [hx]
      by_cases q : bzBo σ Z a
      · rw [if_pos q]; exact ⟨fun _ => q, fun _ => rfl⟩
      · rw [if_neg q]; exact ⟨fun y => absurd y (by decide), fun y => absurd y q⟩
    have hc2 : bzBo σ Z a ∨ bzPk σ Z a ≠ -1 := hc.imp_left xb.1
    refine sq61_25 (bWp_mono _) hA ⟨by omega, by omega⟩ ⟨by omega, by omega⟩ ⟨by omega, by omega⟩ ⟨bAi_0, ?_⟩
    rw [e59, hs3, g1, g2, g3, bAi_n, g4]
    refine ⟨fun z => ⟨fun y => ?_, fun y => ⟨⟨by omega, by omega⟩, ⟨by omega, by omega⟩, ?_⟩⟩, fun z => ⟨bNe_4 a, ?_⟩⟩
    · rcases hc with w | w
      · omega
      · exact absurd z w
    · -- away alone
      have bo := xb.1 (by omega)
      have u1 : bzR1 σ (bzBe Z a) a = bzBe Z a := by unfold bzR1; rw [uPk, if_pos z]
      have rT : bRg (Z.1 305 0 + bzDu σ Z a + bi σ 12 88) := ⟨by omega, by omega⟩
      have ta : ∀ j, 0 ≤ j → bi (bw s3 (bAi a) 17 (Z.1 305 0 + bzDu σ Z a + bi σ 12 88)) (bAi a) j = if j = 17 then Z.1 305 0 + bzDu σ Z a + bi σ 12 88 else bi s3 (bAi a) j := fun j j0 => by
        rw [bi_bw (by decide) j0 rT]; simp only [true_and]
      refine fin _ (zw (bzBe Z a) 146 a (Z.1 305 0 + bzDu σ Z a + bi σ 12 88)) (by rw [uR, if_pos bo, u1]) (Or.inl bo) ?_ ?_ rfl ?_ ?_ (bzKf_w (Or.inr rfl)) (fun j hj => ?_) ?_ ?_ ?_ (bzCG_s (bzCG_z s3G (zU_w (S := [146]) (by decide)) (by decide)) fun b hb j => bi_ne (fun e => ?_)) (bzCh_w s3C (by unfold bAi; omega) (by unfold bAi; omega) (by unfold bzTc bAi; omega) hN hF)
      · rw [zw_a (by decide), e1 142 (by decide)]; exact z142
      · rw [zw_a (by decide), e1 144 (by decide)]
      · rw [zw_a (by decide)]; exact e143
      · rw [zw_a (by decide), e1 147 (by decide)]; exact z2.2.2.1
      · rw [ta j (by
          simp only [List.mem_cons, List.not_mem_nil, or_false] at hj
          omega), if_neg (by
          simp only [List.mem_cons, List.not_mem_nil, or_false] at hj
          omega)]
      · rw [ta 14 (by decide), if_neg (by decide), s3a 14 (by decide), if_neg (by decide), s14, zw_a (by decide), e1 148 (by decide), z2.2.2.2]
      · rw [ta 16 (by decide), if_neg (by decide), s3a 16 (by decide), if_neg (by decide), s16, zw_a (by decide), e1 145 (by decide), z2.1]; rfl
      · rw [ta 17 (by decide), if_pos rfl, zw_e]; exact (nv _ (by omega)).symm
      · rw [e] at hb
        unfold bAi at hb
        simp only [List.mem_cons, List.not_mem_nil, or_false] at hb
        omega
    · -- here, perhaps away too
      have pk0 : 0 ≤ bzPk σ Z a ∧ bzPk σ Z a < 12 := by omega
      have u1 : bzR1 σ (bzBe Z a) a = zw (bzB σ 17 (bzTk (bzBe Z a) a (bzPk σ Z a)) a).1 145 a (Z.1 305 0 + (if Z.1 137 (bzPk σ Z a) = Z.1 103 a then (bzDu σ Z a + 1) / 2 else bzDu σ Z a) + (bzB σ 17 (bzTk (bzBe Z a) a (bzPk σ Z a)) a).2) := by
        unfold bzR1
        rw [uPk, if_neg z]
        unfold bzRh bzTm bzDu
        rw [e1 305 (by decide), e1 137 (by decide), e1 103 (by decide), e1 107 (by decide)]
      generalize bzPk σ Z a = pk at *
      have bc := bzB_c (σ := σ) 17 (bzBe Z a) (bzTk (bzBe Z a) a pk) a (fun c hc j => by
        unfold bzTk
        simp only [List.mem_cons, List.not_mem_nil, or_false] at hc
        rw [zw_a (by omega), zw_a (by omega)])
      have bu1 := bzB_u (σ := σ) 17 (bzTk (bzBe Z a) a pk) a
      have bu0 := bzB_u (σ := σ) 17 (bzBe Z a) a
      rw [bc.1] at u1
      have adr : 0 ≤ (bzB σ 17 (bzBe Z a) a).2 ∧ (bzB σ 17 (bzBe Z a) a).2 ≤ 2400 := by
        have uZ : ∀ c, c ≠ 143 → ∀ j, (bzBe Z a).1 c j = Z.1 c j := e1
        have O1 : bzOz σ n (bzBe Z a) := by
          refine ⟨⟨n120, fun b b0 b1 => ?_⟩, fun b b0 b1 => ?_⟩
          · simp only [e1 101 (by decide), e1 102 (by decide), e1 103 (by decide), e1 104 (by decide), e1 105 (by decide), e1 106 (by decide)]
            exact I.1.2.1.2 b b0 b1
          · unfold bzKd bzDu
            simp only [e1 101 (by decide), e1 104 (by decide), e1 105 (by decide), e1 106 (by decide), e1 107 (by decide), e1 140 (by decide), e1 141 (by decide)]
            exact I.1.2.2.1 b b0 b1
        have xc := (bzB_e (σ := σ) (n := n) (rk := rk) 17 (bzBe Z a) a O1 (fun b b0 b1 => by simp only [e1 105 (by decide), e1 106 (by decide)]; exact hr b b0 b1) a0 a1 (by rw [e1 140 (by decide)]; exact rd.1)).1
        obtain ⟨_, _, _, _, y5, y6, y7⟩ := xc
        have q1 := y7 n (by omega)
        have q2 := bzPh_b (Z := bzBe Z a) (m := n)
        have q3 := bzPh_b (Z := (bzB σ 17 (bzBe Z a) a).1) (m := n)
        omega
      have run : ∀ T, (T = Z.1 305 0 + (if Z.1 137 pk = Z.1 103 a then (bzDu σ Z a + 1) / 2 else bzDu σ Z a)) → bWp (d + 3) 62 [.ref 5, .int (bn a)] s3 (bRn (fun r10 s8 => (bRg (T + r10) ∧ bWp (d + 3) 28 [.ref 2, .int (bn pk)] (bw (bw s8 (bAi a) 16 (T + r10)) (bAi a) 14 pk) (bRv (fun s12 => ((x = 0 → fv s12) ∧ (¬ x = 0 → (bRg ((bi s12 5 9) + (bi s12 (bAi a) 7)) ∧ (bRg (((bi s12 5 9) + (bi s12 (bAi a) 7)) + (bi s12 5 6)) ∧ fv (bw s12 (bAi a) 17 (((bi s12 5 9) + (bi s12 (bAi a) 7)) + (bi s12 5 6)))))))))))) := fun T hT => by
        have rT : 0 ≤ T ∧ T ≤ Z.1 305 0 + 20 := by rw [hT]; split <;> omega
        have dD : ∀ b, bzD (bzBe Z a) b ↔ bzD Z b := fun b => by unfold bzD; rw [e1 142 (by decide)]
        have dI : ∀ b, (bzIn (bzBe Z a) b ((bzBe Z a).1 105 b).toNat = true) ↔ (bzIn Z b (Z.1 105 b).toNat = true) := fun b => by
          rw [bzIn_at, bzIn_at, e1 105 (by decide)]
          simp only [e1 106 (by decide), dD]
        refine w62 (d := d) (rk := rk) (n := n) (N := Z.2.1) (F := Z.2.2.1) ⟨⟨n120, fun b b0 b1 => ?_⟩, fun b b0 b1 => ?_⟩ (fun b b0 b1 => by rw [e1 112 (by decide)]; exact I.1.2.2.2 b b0 b1) (fun b b0 b1 => by simp only [e1 105 (by decide), e1 106 (by decide)]; exact hr b b0 b1) (fun b b0 b1 => ?_) (fun b b0 b1 hd => ?_) a0 a1 ((dI a).2 rd.2.2) (by rw [e1 140 (by decide)]; exact rd.1) s3G s3C hN hF (by rw [e1 139 (by decide), e1 139 (by decide)]; have := j4.2.2.2.2.2.1; omega) fun t8 F8 G8 C8 => ?_
        · simp only [e1 101 (by decide), e1 102 (by decide), e1 103 (by decide), e1 104 (by decide), e1 105 (by decide), e1 106 (by decide)]
          exact I.1.2.1.2 b b0 b1
        · unfold bzKd bzDu
          simp only [e1 101 (by decide), e1 104 (by decide), e1 105 (by decide), e1 106 (by decide), e1 107 (by decide), e1 140 (by decide), e1 141 (by decide)]
          exact I.1.2.2.1 b b0 b1
        · have Ab := (R.2.2.2 b b0 b1).1
          refine bzAs_x (x := a) Ab ⟨zU_w (by decide), fun b hb => ⟨fun c hc => zw_i hb, rfl⟩, by rw [e1 305 (by decide)]; exact Int.le_refl _⟩ (s3r b) (fun j hj => ?_) (fun j => s3n _ (by unfold bAi; omega) j) (fun j _ => s3n _ (by unfold bAi bNe; omega) j)
          by_cases y : b = a
          · rw [y, s3a j (by
              simp only [List.mem_cons, List.not_mem_nil, or_false] at hj
              omega), if_neg (by
              simp only [List.mem_cons, List.not_mem_nil, or_false] at hj
              omega)]
          · exact s3n _ (by unfold bAi; omega) j
        · have hd := (dD b).1 hd
          have jb := I.2.2.1 b b0 b1
          have bg := jb.2.2.1 (jb.2.1 (by unfold bzD at hd; omega))
          refine ⟨by rw [e1 112 (by decide), s3n _ (by unfold bAi bNe; omega)]; exact bzD_8 I R b0 b1 hd, by rw [e1 140 (by decide)]; exact bg.1, (dI b).2 bg.2⟩
        · have ad0 := adr
          have eB : ∀ c, c ∉ [134, 139] → ∀ j, (bzB σ 17 (bzBe Z a) a).1.1 c j = (bzBe Z a).1 c j := bu0.1
          have eB1 : ∀ c, c ∉ [134, 139] → ∀ j, (bzB σ 17 (bzTk (bzBe Z a) a pk) a).1.1 c j = (bzTk (bzBe Z a) a pk).1 c j := bu1.1
          have bc2 := bc.2
          have bu2 : (bzB σ 17 (bzTk (bzBe Z a) a pk) a).1.2 = Z.2 := bu1.2
          have t59 : bi t8 5 9 = Z.1 305 0 := by rw [G8.2.2 (305, 9) (by decide), eB 305 (by decide), e1 305 (by decide)]
          have t56 : bi t8 5 6 = bi σ 12 88 := G8.1.2.2.1
          generalize (bzB σ 17 (bzBe Z a) a).2 = ad at *
          generalize (bzB σ 17 (bzTk (bzBe Z a) a pk) a).1 = B1 at *
          generalize (bzB σ 17 (bzBe Z a) a).1 = B0 at *
          have t8a : ∀ j, bi t8 (bAi a) j = bi s3 (bAi a) j := (bzK0_a F8 a2).1 _ List.mem_cons_self
          have rTa : bRg (T + ad) := ⟨by omega, by omega⟩
          refine ⟨rTa, w28 (d := d + 2) pk0.1 pk0.2 ?_⟩
          have rpk : bRg pk := ⟨by omega, by omega⟩
          have u12a : ∀ j, 0 ≤ j → bi (bw (bw (bw t8 (bAi a) 16 (T + ad)) (bAi a) 14 pk) 18 pk 1) (bAi a) j = if j = 14 then pk else if j = 16 then T + ad else bi s3 (bAi a) j := fun j j0 => by
            rw [bi_ne lo.2.1, bi_bw (by decide) j0 rpk, bi_bw (by decide) j0 rTa, t8a]; simp only [true_and]
          have u12n : ∀ y, y ≠ bAi a → y ≠ 18 → ∀ j, bi (bw (bw (bw t8 (bAi a) 16 (T + ad)) (bAi a) 14 pk) 18 pk 1) y j = bi t8 y j := fun y h1 h2 j => by rw [bi_ne h2, bi_ne h1, bi_ne h1]
          have nl : ∀ b ∈ [5, 6, 15, 16, 17, 18, 24, 271], b ≠ bAi a := fun b hb e => by
            rw [e] at hb
            unfold bAi at hb
            simp only [List.mem_cons, List.not_mem_nil, or_false] at hb
            omega
          have G12 : bzCG σ n (zw B0 138 pk 1) (bw (bw (bw t8 (bAi a) 16 (T + ad)) (bAi a) 14 pk) 18 pk 1) := bzCG_w (bzCG_s G8 fun b hb j => by rw [bi_ne (nl b hb), bi_ne (nl b hb)]) (b := 18) (mx := 12) (by decide) pk0.1 (by decide)
          have C12 : bzCh (bw (bw (bw t8 (bAi a) 16 (T + ad)) (bAi a) 14 pk) 18 pk 1) Z.2.1 Z.2.2.1 := bzCh_w (bzCh_w (bzCh_w C8 (by unfold bAi; omega) (by unfold bAi; omega) (by unfold bzTc bAi; omega) hN hF) (by unfold bAi; omega) (by unfold bAi; omega) (by unfold bzTc bAi; omega) hN hF) (by decide) (by decide) (by decide) hN hF
          have F12 : bzKf (fun y => y = bAi a) s3 (bw (bw (bw t8 (bAi a) 16 (T + ad)) (bAi a) 14 pk) 18 pk 1) := bzKf_trans (bzKf_mono F8 fun _ w => w.elim) (bzKf_trans (bzKf_w (Or.inr rfl)) (bzKf_trans (bzKf_w (Or.inr rfl)) (bzKf_w (Or.inl (bzTb_s (by decide))))))
          have v59 := u12n 5 (Ne.symm lo.1) (by decide) 9
          have v56 := u12n 5 (Ne.symm lo.1) (by decide) 6
          have v7 := u12a 7 (by decide)
          rw [t59] at v59
          rw [t56] at v56
          rw [if_neg (by decide), if_neg (by decide), g2] at v7
          generalize bw (bw (bw t8 (bAi a) 16 (T + ad)) (bAi a) 14 pk) 18 pk 1 = s12 at *
          rw [v59, v56, v7]
          -- the model
          have tk : ∀ c, c ≠ 138 → c ≠ 148 → c ≠ 143 → c ≠ 134 → c ≠ 139 → ∀ j, B1.1 c j = Z.1 c j := fun c h1 h2 h3 h4 h5 j => by
            rw [eB1 c (by simp only [List.mem_cons, List.not_mem_nil, or_false, not_or]; exact ⟨h4, h5⟩)]
            unfold bzTk
            rw [zw_a h1, zw_a h2, e1 c h3]
          have k148 : B1.1 148 a = pk := by rw [eB1 148 (by decide)]; unfold bzTk; rw [zw_a (by decide), zw_e]
          have k143 : B1.1 143 a = Z.1 305 0 := by rw [eB1 143 (by decide)]; unfold bzTk; rw [zw_a (by decide), zw_a (by decide)]; exact e143
          have k138 : ∀ j, B1.1 138 j = if j = pk then 1 else Z.1 138 j := fun j => by
            rw [eB1 138 (by decide)]
            unfold bzTk
            rw [zw_w]
            by_cases q : j = pk
            · rw [if_pos ⟨rfl, q⟩, if_pos q]
            · rw [if_neg (fun y => q y.2), if_neg q, zw_a (by decide), e1 138 (by decide)]
          have GB : ∀ c ∈ [134, 135, 137, 138, 139, 305, 306, 395], ∀ j, B1.1 c j = (zw B0 138 pk 1).1 c j := fun c hc j => by
            rw [zw_w]
            by_cases q : c = 138
            · rw [q, k138]
              by_cases q2 : j = pk
              · rw [if_pos q2, if_pos ⟨rfl, q2⟩]
              · rw [if_neg q2, if_neg (fun y => q2 y.2), eB 138 (by decide), e1 138 (by decide)]
            · rw [if_neg (fun y => q y.1)]
              by_cases q3 : c = 134 ∨ c = 139
              · rcases q3 with rfl | rfl
                · exact bc2 134 (by decide) j
                · exact bc2 139 (by decide) j
              · have hc2 := hc
                simp only [List.mem_cons, List.not_mem_nil, or_false] at hc2
                rw [tk c q (by omega) (by omega) (by omega) (by omega), eB c (by simp only [List.mem_cons, List.not_mem_nil, or_false]; exact q3), e1 c (by omega)]
          rw [← hT] at u1
          have hY : ∀ j ∈ ([0, 1, 5, 6, 7, 8, 9, 10, 11, 12, 13, 15] : List Int), bi s12 (bAi a) j = bi s3 (bAi a) j := fun j hj => by
            simp only [List.mem_cons, List.not_mem_nil, or_false] at hj
            rw [u12a j (by omega), if_neg (by omega), if_neg (by omega)]
          have V16 : bzNv (T + ad) = T + ad := nv _ (by omega)
          refine ⟨fun x0 => ?_, fun x0 => ⟨⟨by omega, by omega⟩, ⟨by omega, by omega⟩, ?_⟩⟩
          · have nb : ¬ bzBo σ Z a := fun q => by have := xb.2 q; omega
            rw [if_neg nb, u1] at uR
            refine fin s12 _ uR.symm (Or.inr z) ?_ ?_ bu2 ?_ ?_ F12 hY ?_ ?_ ?_ (bzCG_eq G12 fun c hc j => ?_) C12
            · rw [zw_a (by decide), tk 142 (by decide) (by decide) (by decide) (by decide) (by decide)]; exact z142
            · rw [zw_a (by decide), tk 144 (by decide) (by decide) (by decide) (by decide) (by decide)]
            · rw [zw_a (by decide)]; exact k143
            · rw [zw_a (by decide), tk 147 (by decide) (by decide) (by decide) (by decide) (by decide)]; exact z2.2.2.1
            · rw [u12a 14 (by decide), if_pos rfl, zw_a (by decide)]; exact k148.symm
            · rw [u12a 16 (by decide), if_neg (by decide), if_pos rfl, zw_e]; exact V16.symm
            · rw [u12a 17 (by decide), if_neg (by decide), if_neg (by decide), s3a 17 (by decide), if_neg (by decide), s17, zw_a (by decide), tk 146 (by decide) (by decide) (by decide) (by decide) (by decide), z2.2.1]; rfl
            · rw [zw_a (by
                simp only [List.mem_cons, List.not_mem_nil, or_false] at hc
                omega)]
              exact GB c hc j
          · have bo := xb.1 (by omega)
            rw [if_pos bo, u1] at uR
            have rT2 : bRg (Z.1 305 0 + bzDu σ Z a + bi σ 12 88) := ⟨by omega, by omega⟩
            have ta : ∀ j, 0 ≤ j → bi (bw s12 (bAi a) 17 (Z.1 305 0 + bzDu σ Z a + bi σ 12 88)) (bAi a) j = if j = 17 then Z.1 305 0 + bzDu σ Z a + bi σ 12 88 else bi s12 (bAi a) j := fun j j0 => by
              rw [bi_bw (by decide) j0 rT2]; simp only [true_and]
            refine fin _ _ uR.symm (Or.inr z) ?_ ?_ bu2 ?_ ?_ (bzKf_trans F12 (bzKf_w (Or.inr rfl))) (fun j hj => ?_) ?_ ?_ ?_ (bzCG_s (bzCG_eq G12 fun c hc j => ?_) fun b hb j => bi_ne (nl b hb)) (bzCh_w C12 (by unfold bAi; omega) (by unfold bAi; omega) (by unfold bzTc bAi; omega) hN hF)
            · rw [zw_a (by decide), zw_a (by decide), tk 142 (by decide) (by decide) (by decide) (by decide) (by decide)]; exact z142
            · rw [zw_a (by decide), zw_a (by decide), tk 144 (by decide) (by decide) (by decide) (by decide) (by decide)]
            · rw [zw_a (by decide), zw_a (by decide)]; exact k143
            · rw [zw_a (by decide), zw_a (by decide), tk 147 (by decide) (by decide) (by decide) (by decide) (by decide)]; exact z2.2.2.1
            · rw [ta j (by
                simp only [List.mem_cons, List.not_mem_nil, or_false] at hj
                omega), if_neg (by
                simp only [List.mem_cons, List.not_mem_nil, or_false] at hj
                omega)]
              exact hY j hj
            · rw [ta 14 (by decide), if_neg (by decide), u12a 14 (by decide), if_pos rfl, zw_a (by decide), zw_a (by decide)]; exact k148.symm
            · rw [ta 16 (by decide), if_neg (by decide), u12a 16 (by decide), if_neg (by decide), if_pos rfl, zw_a (by decide), zw_e]; exact V16.symm
            · rw [ta 17 (by decide), if_pos rfl, zw_e]; exact (nv _ (by omega)).symm
            · rw [zw_a (by
                simp only [List.mem_cons, List.not_mem_nil, or_false] at hc
                omega), zw_a (by
                simp only [List.mem_cons, List.not_mem_nil, or_false] at hc
                omega)]
              exact GB c hc j
      refine w26 (d := d + 2) pk0.1 pk0.2 ⟨by omega, by omega⟩ ?_
      have e17 : bi s3 17 pk = Z.1 137 pk := by rw [s3G.2.1 (137, 17, 12) (by decide) pk pk0.1 pk0.2, e1 137 (by decide)]
      rw [e17, g1, g2]
      by_cases q : Z.1 137 pk = Z.1 103 a
      · rw [if_pos q]
        rw [if_pos q] at run
        exact ⟨fun y => absurd y (by decide), fun _ => ⟨⟨by omega, by omega⟩, by omega, ⟨by omega, by omega⟩, run _ rfl⟩⟩
      · rw [if_neg q]
        rw [if_neg q] at run
        exact ⟨fun _ => ⟨⟨by omega, by omega⟩, run _ rfl⟩, fun y => absurd rfl y⟩
  refine ⟨fun y => ⟨bNe_4 a, pick _ ⟨fun z => h0 (fun q => q.1 y) z, fun z => body 0 (by rw [if_neg (fun q => q.1 y)]) (Or.inr z) _⟩⟩, fun y => ⟨fun y2 => ⟨bNe_4 a, pick _ ⟨fun z => h0 (fun q => q.2 y2) z, fun z => body 0 (by rw [if_neg (fun q => q.2 y2)]) (Or.inr z) _⟩⟩, fun y2 => ⟨bNe_4 a, pick _ ⟨fun z => body 1 (by rw [if_pos ⟨y, y2⟩]) (Or.inl rfl) _, fun z => body 1 (by rw [if_pos ⟨y, y2⟩]) (Or.inl rfl) _⟩⟩⟩⟩
end

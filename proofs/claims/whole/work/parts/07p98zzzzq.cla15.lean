/-! BUILD, 39: the class: an action begins -/
section
variable {d : Nat} {σ s t r u : bSt} {f : Int → bSt → Prop} {fa : Nat → bSt → Prop} {fv : bSt → Prop} {a b g i j k x y v w p st : Int} {c e e0 q m n z : Nat} {K M : bKy} {L N F : List bKy} {Z Y X W : bZs} {S : List Nat} {T U : Int → Bool} {rk : Int → Nat}
theorem bzSe_dx (h : bzSe σ a Z Y) : bzDx a Z Y := ⟨zU_mono h.1 (by decide), fun b hb => ⟨fun c hc => (h.2.1 b hb).1 c hc, (h.2.1 b hb).2⟩, by rw [h.1 305 (by decide)]; exact Int.le_refl _⟩
theorem w60 (I : bzI σ n Z) (hr : bzRn0 rk n Z) (R : bzCC σ n Z s) (rd : bzRd Z a) (a0 : 0 ≤ a) (a1 : a < (n : Int)) (h13 : bi s (bAi a) 13 ≠ -1) (hn : ¬ bzCn σ Z a → fv s) (hc : bzCn σ Z a → ∀ t, bzCC σ n (bzSt σ Z a) t → (∀ b, 0 ≤ b → b < (n : Int) → bi t (bAi b) 13 = bi s (bAi b) 13) → fv t) : bWp (d + 5) 60 [.ref 5, .ref (bAi a), .int (bn a)] s (bRv fv) := by
  have n120 := I.1.2.1.1
  have a2 : a ≤ 120 := by omega
  obtain ⟨As, Ad⟩ := R.2.2.2 a a0 a1
  obtain ⟨hN, hF⟩ := bzN_l I
  have o := I.1.2.1.2 a a0 a1
  have j2 := I.2.2.2.1 a a0 a1
  have z2 := j2.2.2.1 rd.2.1
  have nw := I.2.2.2.2.2.1
  have nbz := bzNb_b (n := n) (Z := Z)
  have lat := I.1.1.2.2
  have z142 : Z.1 142 a = -1 := Classical.byContradiction fun q => (I.2.2.1 a a0 a1).2.1 q rd.2.1
  have ng : ¬ bzG Z a := fun q => q.2.1 rd.2.1
  have T := Ad.2.2.2.2.1 h13
  have l := bzKl_z (σ := σ) I.1.1.1 I.1.2.1 a0 a1
  have x01 := bzX_01 (σ := σ) (Z := Z) (a := a)
  have h7 : bi s (bNe a) 7 = 0 ∨ bi s (bNe a) 7 = 1 := by rw [T.2.2.2]; exact x01
  have e59 : bi s 5 9 = Z.1 305 0 := R.2.1.2.2 (305, 9) (by decide)
  have e55 : bi s 5 5 = bi σ 12 87 := R.2.1.1.2.1
  have e56 : bi s 5 6 = bi σ 12 88 := R.2.1.1.2.2.1
  have rA : bRg (Z.1 305 0) := ⟨by omega, by omega⟩
  have lo : bAi a ≠ 5 ∧ bAi a ≠ bNe a := by unfold bAi bNe; omega
  have k4 : bKe a % 256 = 4 := by unfold bKe; omega
  have eK4 : 256 * (2 * (bAi a / 256) + 1) + 4 = bKe a := by unfold bAi bKe; omega
  have SE := fun cn => bzSt_se I hr rd cn a0 a1
  have uS : bzSt σ Z a = if Z.2.2.2 a = some (bzK σ Z a) then bzE (bzBe Z a) a 0
      else if bzK σ Z a ∈ Z.2.1 then bzH (bzE (bzMv (bzBe Z a) (bzK σ Z a)) a 1) a (bzK σ Z a)
      else if bi σ 12 87 ≠ 0 ∧ bzK σ Z a ∈ Z.2.2.1 then zw (zw (bzBe Z a) 147 a 1) 146 a (Z.1 305 0 + bi σ 12 88)
      else bzRun σ (bzBe Z a) a := rfl
  have ez : bzCn σ Z a ↔ (Z.2.2.2 a = some (bzK σ Z a) ∨ bzK σ Z a ∈ Z.2.1 ∨ (bi σ 12 87 ≠ 0 ∧ bzK σ Z a ∈ Z.2.2.1) ∨ bzBo σ Z a ∨ bzPk σ Z a ≠ -1) := by
    unfold bzCn bzCb bzEz
    simp only [Bool.or_eq_true, decide_eq_true_eq]
    constructor
    · rintro (((q | q) | q) | q)
      · rcases q with q | q
        · exact Or.inl q
        · exact Or.inr (Or.inl q)
      · exact Or.inr (Or.inr (Or.inl q))
      · exact Or.inr (Or.inr (Or.inr (Or.inl q)))
      · exact Or.inr (Or.inr (Or.inr (Or.inr q)))
    · rintro (q | q | q | q | q)
      · exact Or.inl (Or.inl (Or.inl (Or.inl q)))
      · exact Or.inl (Or.inl (Or.inl (Or.inr q)))
      · exact Or.inl (Or.inl (Or.inr q))
      · exact Or.inl (Or.inr q)
      · exact Or.inr q
  have nl : ∀ b ∈ [5, 6, 15, 16, 17, 18, 24, 271], b ≠ bAi a := fun b hb e => by
    rw [e] at hb
    unfold bAi at hb
    simp only [List.mem_cons, List.not_mem_nil, or_false] at hb
    omega
  refine ⟨rfl, fun A hA => sq60_0 (bWp_mono _) hA bAi_0 ⟨by omega, by omega⟩ ?_⟩
  rw [eK4, bAi_n]
  refine ⟨k4, ?_⟩
  -- is it as it was kept
  have alike : ∀ Q : Int → bSt → Prop, (Z.2.2.2 a = some (bzK σ Z a) → Q 1 s) → (Z.2.2.2 a ≠ some (bzK σ Z a) → Q 0 s) → bWp (d + 4) 43 [.ref (bKe a), .ref (bNe a)] s (bRn Q) := fun Q q1 q0 => by
    cases hk : Z.2.2.2 a with
    | none =>
      refine w43x (d := d + 2) k4 (bNe_4 a) ?_ (q0 (by rw [hk]; simp))
      rw [(Ad.2.2.2.1.1 hk).1, As.2.2.2.1.1]
      omega
    | some K0 =>
      have lK := bzKl (I.2.1 a a0 a1 K0 hk).1
      refine w43 (d := d + 2) k4 (bNe_4 a) (Ad.2.2.2.1.2 K0 hk).1 T.2.1 lK l ?_
      by_cases q : K0 = bzK σ Z a
      · rw [if_pos q]; exact q1 (by rw [hk, q])
      · rw [if_neg q]; exact q0 (by rw [hk]; exact fun y => q (Option.some.inj y))
  refine alike _ (fun q => ⟨fun y => absurd y (by decide), fun _ => ?_⟩) fun q => ⟨fun _ => ?_, fun y => absurd rfl y⟩
  · -- up to date
    have cn := ez.2 (Or.inl q)
    have hc := hc cn
    have D := bzSe_dx (SE cn)
    rw [uS, if_pos q] at hc D
    rw [e59, bi_ne (Ne.symm lo.1), e59]
    refine w13 (d := d + 1) (by decide) (by decide) rA (fun _ => by rw [bi_ne (Ne.symm lo.2)]; exact h7) fun t E => ?_
    have := bzCC_d (st := 0) (v := Z.1 305 0) (u := s) (t := t) I R rd a0 a1 h13 D (by unfold bzE; rw [zw_a (by decide), zw_e]) (by decide) (by unfold bzE; rw [zw_a (by decide), zw_a (by decide)]; exact zw_e) ⟨rA, nw.1⟩ (by unfold bzE; rw [zw_e]; exact zw_a (by decide)) q bzKf_refl E (bzEd_cg E (bzCG_s (bzCG_z R.2.1 (zU_trans (zU_w (S := [142, 143, 144]) (by decide)) (zU_trans (zU_w (by decide)) (zU_w (by decide)))) (by decide)) fun b hb j => bi_ne (nl b hb))) (bzEd_ch E a2 (bzCh_w R.2.2.1 (by unfold bAi; omega) (by unfold bAi; omega) (by unfold bzTc bAi; omega) hN hF) hN hF)
    exact hc t this.1 this.2
  refine w16n (d := d + 1) R.2.2.1 hN (bNe_4 a) T.2.1 l (fun p hp => ⟨fun y => by omega, fun _ => ?_⟩) fun q2 => ⟨fun _ => ?_, fun y => absurd rfl y⟩
  · -- near
    have mem := List.mem_of_getElem? hp
    have cn := ez.2 (Or.inr (Or.inl mem))
    have hc := hc cn
    have D := bzSe_dx (SE cn)
    rw [uS, if_neg q, if_pos mem] at hc D
    refine w18n (d := d + 1) R.2.2.1 hN hF I.2.2.2.2.1.1.1 hp (bNe_4 a) (bNe_lt a2) T.2.1 l h7 fun t1 B1 C1 => ?_
    have F1 : bzK0 s t1 := bzKf_cf B1
    have G1 := bzCf_cg B1 R.2.1
    have t59 : bi t1 5 9 = Z.1 305 0 := G1.2.2 (305, 9) (by decide)
    have t7 : bi t1 (bNe a) 7 = bi s (bNe a) 7 := (bzK0_a F1 a2).1 _ (by simp [bzTa]) 7
    rw [t59, bi_ne (Ne.symm lo.1), t59]
    have hN1 : ∀ K ∈ bzRm Z.2.1 (bzK σ Z a) ++ [bzK σ Z a], bKl K := fun K hK => bzKl ((bzRm_c I.2.2.2.2.1.1 mem).2.2 K hK)
    refine w13 (d := d + 1) (by decide) (by decide) rA (fun _ => by rw [bi_ne (Ne.symm lo.2), t7]; exact h7) fun t E => ?_
    have y1 : ∀ c, c ≠ 112 → c ≠ 142 → c ≠ 144 → c ≠ 143 → ∀ j, (bzH (bzE (bzMv (bzBe Z a) (bzK σ Z a)) a 1) a (bzK σ Z a)).1 c j = Z.1 c j := fun c h1 h2 h3 h4 j => by
      show (zw (bzE (bzMv (bzBe Z a) (bzK σ Z a)) a 1) 112 a (bKv (bzK σ Z a))).1 c j = _
      rw [zw_a h1]
      unfold bzE
      rw [zw_a h3, zw_a h2]
      exact zw_a h4
    have z0 : ∀ c, c ≠ 112 → ∀ j, (bzH (bzE (bzMv (bzBe Z a) (bzK σ Z a)) a 1) a (bzK σ Z a)).1 c j = (bzE (bzMv (bzBe Z a) (bzK σ Z a)) a 1).1 c j := fun c h1 j => by
      show (zw (bzE (bzMv (bzBe Z a) (bzK σ Z a)) a 1) 112 a (bKv (bzK σ Z a))).1 c j = _
      rw [zw_a h1]
    have n305' : (bzBe Z a).1 305 0 = Z.1 305 0 := zw_a (by decide)
    have n305 : (bzMv (bzBe Z a) (bzK σ Z a)).1 305 0 = Z.1 305 0 := n305'
    have := bzCC_d (st := 1) (v := Z.1 305 0) (u := t1) (t := t) I R rd a0 a1 h13 D (by rw [z0 142 (by decide)]; unfold bzE; rw [zw_a (by decide), zw_e]) (by decide) (by
      rw [z0 143 (by decide)]
      unfold bzE
      rw [zw_a (by decide), zw_a (by decide)]
      exact zw_e) ⟨rA, nw.1⟩ (by rw [z0 144 (by decide)]; unfold bzE; rw [zw_e]; exact n305) (by show (if a = a then some (bzK σ Z a) else _) = _; rw [if_pos rfl]) F1 E (bzEd_cg E (bzCG_s (bzCG_eq G1 fun c hc j => y1 c (by
        simp only [List.mem_cons, List.not_mem_nil, or_false] at hc
        omega) (by
        simp only [List.mem_cons, List.not_mem_nil, or_false] at hc
        omega) (by
        simp only [List.mem_cons, List.not_mem_nil, or_false] at hc
        omega) (by
        simp only [List.mem_cons, List.not_mem_nil, or_false] at hc
        omega) j) fun b hb j => bi_ne (nl b hb))) (bzEd_ch E a2 (bzCh_w C1 (by unfold bAi; omega) (by unfold bAi; omega) (by unfold bzTc bAi; omega) hN1 hF) hN1 hF)
    exact hc t this.1 this.2
  rw [e55]
  -- far, or a run
  have runs : ¬ (bi σ 12 87 ≠ 0 ∧ bzK σ Z a ∈ Z.2.2.1) → bWp (d + 4) 61 [.ref 5, .ref (bAi a), .int (bn a)] s (bRv fv) := fun q3 => by
    have cnr : bzBo σ Z a ∨ bzPk σ Z a ≠ -1 → bzCn σ Z a := fun y => ez.2 (Or.inr (Or.inr (Or.inr y)))
    have eS : bzSt σ Z a = bzRun σ (bzBe Z a) a := by rw [uS, if_neg q, if_neg q2, if_neg q3]
    refine w61 (d := d) I hr R rd a0 a1 h13 (fun y1 y2 => hn fun cn => ?_) (fun y => ?_) fun y t Rt k => ?_
    · rcases ez.1 cn with w | w | w | w | w
      · exact q w
      · exact q2 w
      · exact q3 w
      · exact y1 w
      · exact w y2
    · rw [← eS]; exact bzSe_dx (SE (cnr y))
    · rw [← eS] at Rt
      exact hc (cnr y) t Rt k
  refine ⟨fun y => bWp_mono _ _ _ _ _ _ (bRv_e fun t k => k) (runs fun w => w.1 y), fun y => w16f (d := d + 1) R.2.2.1 hF (bNe_4 a) T.2.1 l (fun p hp => ⟨fun z => by omega, fun _ => ?_⟩) fun q3 => ⟨fun _ => bWp_mono _ _ _ _ _ _ (bRv_e fun t k => k) (runs fun w => q3 w.2), fun z => absurd rfl z⟩⟩
  have mem := List.mem_of_getElem? hp
  have cn := ez.2 (Or.inr (Or.inr (Or.inl ⟨y, mem⟩)))
  have hc := hc cn
  have D := bzSe_dx (SE cn)
  rw [uS, if_neg q, if_neg q2, if_pos ⟨y, mem⟩] at hc D
  rw [e59, bi_ne (Ne.symm lo.1), bi_ne (Ne.symm lo.1), e59, e56]
  have rT : bRg (Z.1 305 0 + bi σ 12 88) := ⟨by omega, by omega⟩
  have ta : ∀ j, 0 ≤ j → bi (bw (bw s (bAi a) 11 (Z.1 305 0)) (bAi a) 15 (Z.1 305 0 + bi σ 12 88)) (bAi a) j = if j = 15 then Z.1 305 0 + bi σ 12 88 else if j = 11 then Z.1 305 0 else bi s (bAi a) j := fun j j0 => by
    rw [bi_bw (by decide) j0 rT, bi_bw (by decide) j0 rA]; simp only [true_and]
  have y1 : ∀ c, c ≠ 146 → c ≠ 147 → c ≠ 143 → ∀ j, (zw (zw (bzBe Z a) 147 a 1) 146 a (Z.1 305 0 + bi σ 12 88)).1 c j = Z.1 c j := fun c h1 h2 h3 j => by rw [zw_a h1, zw_a h2]; exact zw_a h3
  have e147 : (zw (zw (bzBe Z a) 147 a 1) 146 a (Z.1 305 0 + bi σ 12 88)).1 147 a = 1 := by rw [zw_a (by decide), zw_e]
  have e143 : (zw (zw (bzBe Z a) 147 a 1) 146 a (Z.1 305 0 + bi σ 12 88)).1 143 a = Z.1 305 0 := by rw [zw_a (by decide), zw_a (by decide)]; exact zw_e
  have := bzCC_r (t := bw (bw s (bAi a) 11 (Z.1 305 0)) (bAi a) 15 (Z.1 305 0 + bi σ 12 88)) I R rd a0 a1 h13 D (by rw [y1 142 (by decide) (by decide) (by decide)]; exact z142) (y1 144 (by decide) (by decide) (by decide) a) rfl (bzKf_trans (bzKf_w (Or.inr rfl)) (bzKf_w (Or.inr rfl))) (fun j hj => by
    rw [ta j (by
      simp only [List.mem_cons, List.not_mem_nil, or_false] at hj
      omega), if_neg (by
      simp only [List.mem_cons, List.not_mem_nil, or_false] at hj
      omega), if_neg (by
      simp only [List.mem_cons, List.not_mem_nil, or_false] at hj
      omega)]) (by rw [ta 11 (by decide), if_neg (by decide), if_pos rfl, e143]) (by rw [ta 14 (by decide), if_neg (by decide), if_neg (by decide), y1 148 (by decide) (by decide) (by decide)]; exact Ad.2.2.1 z142) (by rw [ta 15 (by decide), if_pos rfl, if_pos (by rw [e147]; decide), zw_e]) (by rw [ta 16 (by decide), if_neg (by decide), if_neg (by decide), if_neg (by rw [e147]; decide), Ad.2.1.2.1, if_neg (fun w => ng w.1)]) (by rw [ta 17 (by decide), if_neg (by decide), if_neg (by decide), if_neg (by rw [e147]; decide), Ad.2.1.2.2, if_neg (fun w => ng w.1)]) (by rw [e143]; omega) (bzCG_s (bzCG_eq R.2.1 fun c hc j => y1 c (by
      simp only [List.mem_cons, List.not_mem_nil, or_false] at hc
      omega) (by
      simp only [List.mem_cons, List.not_mem_nil, or_false] at hc
      omega) (by
      simp only [List.mem_cons, List.not_mem_nil, or_false] at hc
      omega) j) fun b hb j => by rw [bi_ne (nl b hb), bi_ne (nl b hb)]) (bzCh_w (bzCh_w R.2.2.1 (by unfold bAi; omega) (by unfold bAi; omega) (by unfold bzTc bAi; omega) hN hF) (by unfold bAi; omega) (by unfold bAi; omega) (by unfold bzTc bAi; omega) hN hF)
  exact ⟨rT, hc _ this.1 this.2⟩
end

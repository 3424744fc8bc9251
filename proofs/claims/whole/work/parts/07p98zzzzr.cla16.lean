/-! BUILD, 40: the class: all that begin at a time -/
section
variable {d : Nat} {σ s t r u : bSt} {f : Int → bSt → Prop} {fa : Nat → bSt → Prop} {fv : bSt → Prop} {a b g i j k x y v w p st : Int} {c e e0 q m n z : Nat} {K M : bKy} {L N F : List bKy} {Z Y X W : bZs} {S : List Nat} {T U : Int → Bool} {rk : Int → Nat}
theorem bCnp_z {P : Int → Bool} : ∀ n : Nat, bCnp P n = 0 → ∀ k, 0 ≤ k → k < (n : Int) → P k = false
  | 0, _, k, k0, k1 => by omega
  | n + 1, h, k, k0, k1 => by
    have b := bCn_b (P := P) n
    unfold bCnp at h
    by_cases q : P n = true
    · rw [if_pos q] at h; omega
    · rw [if_neg q] at h
      by_cases e : k = n
      · rw [e]; exact Bool.eq_false_iff.2 q
      · exact bCnp_z n (by omega) k k0 (by omega)
theorem bzFr_n (hw : 0 ≤ w) : bzFr Z m w = -1 ↔ ∀ i : Int, 0 ≤ i → i < (m : Int) → Z.1 138 (w + i) ≠ 0 := by
  induction m generalizing w with
  | zero => exact ⟨fun _ i i0 i1 => by omega, fun _ => rfl⟩
  | succ m ih =>
    have u : bzFr Z (m + 1) w = if Z.1 138 w = 0 then w else bzFr Z m (w + 1) := rfl
    rw [u]
    by_cases h : Z.1 138 w = 0
    · rw [if_pos h]
      refine ⟨fun q => by omega, fun q => absurd h ?_⟩
      have := q 0 (by decide) (by omega)
      rwa [Int.add_zero] at this
    · rw [if_neg h, ih (by omega)]
      refine ⟨fun q i i0 i1 => ?_, fun q i i0 i1 => ?_⟩
      · by_cases y : i = 0
        · rw [y, Int.add_zero]; exact h
        · have := q (i - 1) (by omega) (by omega)
          rwa [show w + 1 + (i - 1) = w + i by omega] at this
      · have := q (i + 1) (by omega) (by omega)
        rwa [show w + (i + 1) = w + 1 + i by omega] at this
theorem bzWm_n : bzFr Z m w = -1 → 0 ≤ w → bzWm Z v m w = -1 := by
  induction m generalizing w with
  | zero => exact fun _ _ => rfl
  | succ m ih =>
    intro h hw
    have u : bzFr Z (m + 1) w = if Z.1 138 w = 0 then w else bzFr Z m (w + 1) := rfl
    have u2 : bzWm Z v (m + 1) w = if Z.1 138 w = 0 ∧ Z.1 137 w = v then w else bzWm Z v m (w + 1) := rfl
    rw [u] at h
    by_cases q : Z.1 138 w = 0
    · rw [if_pos q] at h; omega
    · rw [if_neg q] at h
      rw [u2, if_neg (fun y => q y.1)]
      exact ih h (by omega)
theorem bzPk_n (hk : 0 ≤ bzKd σ Z a) : bzPk σ Z a = -1 ↔ bzFr Z (bi σ 136 (bzKd σ Z a)).toNat (4 * bzKd σ Z a) = -1 := by
  have a1 := bzWm_at (Z := Z) (v := Z.1 103 a) (bi σ 136 (bzKd σ Z a)).toNat (4 * bzKd σ Z a) (by omega)
  have a3 := bzWm_n (Z := Z) (v := Z.1 103 a) (m := (bi σ 136 (bzKd σ Z a)).toNat) (w := 4 * bzKd σ Z a)
  unfold bzPk
  by_cases q : bzWm Z (Z.1 103 a) (bi σ 136 (bzKd σ Z a)).toNat (4 * bzKd σ Z a) = -1
  · rw [if_pos q]
  · rw [if_neg q]
    exact ⟨fun y => absurd y q, fun y => absurd (a3 y (by omega)) q⟩
/-- what could not begin cannot when another has begun -/
theorem bzCn_se (I : bzI σ n Z) (ra : bzRd Z a) (h : bzSe σ a Z Y) (rb : bzRd Z b) (b0 : 0 ≤ b) (b1 : b < (n : Int)) (hb : b ≠ a) (a0 : 0 ≤ a) (a1 : a < (n : Int)) (hc : ¬ bzCn σ Z b) : bzRd Y b ∧ ¬ bzCn σ Y b := by
  have D := bzSe_dx h
  have z142 : Z.1 142 a = -1 := Classical.byContradiction fun q => (I.2.2.1 a a0 a1).2.1 q ra.2.1
  have nd : ¬ bzD Z a := fun q => by unfold bzD at q; omega
  obtain ⟨m, m2⟩ := bzDx_K (σ := σ) I.1.2.1 D (fun _ => nd) b0 b1 rb.2.2
  have ow := I.1.2.2.1 b b0 b1 rb.1
  have kd : bzKd σ Y b = bzKd σ Z b := by unfold bzKd; rw [D.1 107 (by decide)]
  refine ⟨⟨by rw [D.1 140 (by decide)]; exact rb.1, by rw [(D.2.1 b hb).1 143 (by decide)]; exact rb.2.1, m2⟩, fun q => hc ?_⟩
  unfold bzCn bzCb bzEz at q ⊢
  simp only [Bool.or_eq_true, decide_eq_true_eq] at q ⊢
  rw [m.1, (D.2.1 b hb).2, h.2.2.2.2.2.1] at q
  rcases q with (((q | q) | q) | q) | q
  · exact Or.inl (Or.inl (Or.inl (Or.inl q)))
  · refine Or.inl (Or.inl (Or.inl (Or.inr ?_)))
    rcases h.2.2.2.2.1 with w | ⟨w, w2⟩
    · rw [w] at q; exact q
    · rw [w2] at q
      rcases List.mem_append.1 q with y | y
      · exact (List.mem_filter.1 y).1
      · rw [List.mem_singleton.1 y]; exact w
  · exact Or.inl (Or.inl (Or.inr q))
  · refine Or.inl (Or.inr ?_)
    unfold bzBo at q ⊢
    rw [D.1 107 (by decide)] at q
    exact q
  · refine Or.inr fun y => q ?_
    rw [bzPk_n (by rw [kd]; exact ow.2.2.2.1.1), kd]
    rw [bzPk_n ow.2.2.2.1.1] at y
    rw [bzFr_n (by omega)] at y ⊢
    intro i i0 i1
    rcases h.2.2.2.2.2.2.1 (4 * bzKd σ Z b + i) with w | w
    · rw [w]; exact y i i0 i1
    · rw [w]; decide
/-- an action is tried now -/
theorem bzCC_t (I : bzI σ n Z) (R : bzCC σ n Z s) (rd : bzRd Z a) (a0 : 0 ≤ a) (a1 : a < (n : Int)) (h : bzPp σ Z a s t ∨ t = s ∧ bi s (bAi a) 13 ≠ -1) : bzCC σ n Z (bw t (bAi a) 13 (Z.1 305 0)) ∧ ∀ b, 0 ≤ b → b < (n : Int) → bi (bw t (bAi a) 13 (Z.1 305 0)) (bAi b) 13 = if b = a then Z.1 305 0 else bi s (bAi b) 13 := by
  have n120 := I.1.2.1.1
  have nw := I.2.2.2.2.2.1
  have nbz := bzNb_b (n := n) (Z := Z)
  have rA : bRg (Z.1 305 0) := ⟨by omega, by omega⟩
  obtain ⟨hN, hF⟩ := bzN_l I
  obtain ⟨As, Ad⟩ := R.2.2.2 a a0 a1
  have l := bzKl_z (σ := σ) I.1.1.1 I.1.2.1 a0 a1
  have Tt : t.2 = s.2 ∧ (∀ y, y ≠ bNe a → y ≠ bNe a + 18 → y ≠ bNe a + 19 → ∀ j, bi t y j = bi s y j) ∧ (∀ j ∈ ([0, 1, 2] : List Int), bi t (bNe a) j = bi s (bNe a) j) ∧ bzEk t (bNe a) (bzK σ Z a) ∧ bi t (bNe a) 8 = bzV σ Z a ∧ bi t (bNe a) 7 = bzX σ Z a := by
    rcases h with h | ⟨rfl, h⟩
    · exact h
    · have T := Ad.2.2.2.2.1 h
      exact ⟨rfl, fun _ _ _ _ _ => rfl, fun _ _ => rfl, T.2⟩
  obtain ⟨t2, W, e02, E, e8, e7⟩ := Tt
  have lo : bAi a ≠ bNe a ∧ bAi a ≠ bNe a + 18 ∧ bAi a ≠ bNe a + 19 ∧ 256 ≤ bAi a ∧ bAi a % 256 = 0 ∧ bAi a + 13 ≠ bAi a ∧ bKe a ≠ bAi a ∧ bKe a ≠ bNe a ∧ bKe a ≠ bNe a + 18 ∧ bKe a ≠ bNe a + 19 := by unfold bAi bNe bKe; omega
  have ta : ∀ j, 0 ≤ j → bi (bw t (bAi a) 13 (Z.1 305 0)) (bAi a) j = if j = 13 then Z.1 305 0 else bi s (bAi a) j := fun j j0 => by
    rw [bi_bw (by decide) j0 rA, W _ lo.1 lo.2.1 lo.2.2.1]; simp only [true_and]
  have tn : ∀ y, y ≠ bAi a → ∀ j, bi (bw t (bAi a) 13 (Z.1 305 0)) y j = bi t y j := fun y hy j => bi_ne hy
  have F : bzKf (bzPx a) s (bw t (bAi a) 13 (Z.1 305 0)) := bzKf_trans (bzKf_of (l := [bNe a, bNe a + 18, bNe a + 19]) (fun b hb => Or.inr ⟨a0, by
    unfold bzTa
    simp only [List.mem_cons, List.not_mem_nil, or_false] at hb ⊢
    omega⟩) (fun b hb => by
    simp only [List.mem_cons, List.not_mem_nil, or_false, not_or] at hb
    exact W b hb.1 hb.2.1 hb.2.2) t2) (bzKf_w (Or.inr ⟨a0, List.mem_cons_self⟩))
  have D : bzDx a Z Z := ⟨zU_refl, fun _ _ => ⟨fun _ _ => rfl, rfl⟩, Int.le_refl _⟩
  have z142 : Z.1 142 a = -1 := Classical.byContradiction fun q => (I.2.2.1 a a0 a1).2.1 q rd.2.1
  have nd : ¬ bzD Z a := fun q => by unfold bzD at q; omega
  have low : ∀ b, (b < 256 ∨ 256000 ≤ b ∨ b = 257 ∨ b = 271) → b ≠ bAi a ∧ b ≠ bNe a ∧ b ≠ bNe a + 18 ∧ b ≠ bNe a + 19 := fun b hb => by unfold bAi bNe; omega
  refine ⟨bzCC_x I R D (fun _ => nd) a1 F (bzCG_s R.2.1 fun b hb j => ?_) (bzCh_of R.2.2.1 t2 (fun x hx j => ?_) ?_ ?_ hN hF) fun _ => ⟨bzAs_x As D (by unfold br; rw [show (bw t (bAi a) 13 (Z.1 305 0)).2 = t.2 from rfl, t2]) (fun j hj => ?_) (fun j => ?_) (fun j hj => ?_), ⟨?_, ?_, ?_⟩, ⟨?_, ?_, ?_⟩, fun _ => ?_, ⟨fun q => ?_, fun K q => ?_⟩, fun _ => ⟨rd.2.2, ?_, ?_, ?_⟩, fun _ => ?_, ?_⟩, fun b b0 b1 => ?_⟩
  · have := low b (by
      simp only [List.mem_cons, List.not_mem_nil, or_false] at hb
      omega)
    rw [tn b this.1, W b this.2.1 this.2.2.1 this.2.2.2]
  · have := low x (Or.inr (Or.inl hx.1))
    rw [tn x this.1, W x this.2.1 this.2.2.1 this.2.2.2]
  · have := low 1 (by decide)
    rw [tn 1 this.1, W 1 this.2.1 this.2.2.1 this.2.2.2]
  · have := low 257 (by decide)
    rw [tn 257 this.1, W 257 this.2.1 this.2.2.1 this.2.2.2]
  · simp only [List.mem_cons, List.not_mem_nil, or_false] at hj
    rw [ta j (by omega), if_neg (by omega)]
  · rw [tn _ lo.2.2.2.2.2.1, W _ (by unfold bAi bNe; omega) (by unfold bAi bNe; omega) (by unfold bAi bNe; omega)]
  · rw [tn _ (Ne.symm lo.1)]; exact e02 j hj
  · rw [ta 10 (by decide), if_neg (by decide)]; exact Ad.1.1
  · rw [ta 11 (by decide), if_neg (by decide)]; exact Ad.1.2.1
  · rw [ta 12 (by decide), if_neg (by decide)]; exact Ad.1.2.2
  · rw [ta 15 (by decide), if_neg (by decide)]; exact Ad.2.1.1
  · rw [ta 16 (by decide), if_neg (by decide)]; exact Ad.2.1.2.1
  · rw [ta 17 (by decide), if_neg (by decide)]; exact Ad.2.1.2.2
  · rw [ta 14 (by decide), if_neg (by decide)]; exact Ad.2.2.1 z142
  · have eK : ∀ j, _ = _ := fun j => (tn _ lo.2.2.2.2.2.2.1 j).trans (W _ lo.2.2.2.2.2.2.2.1 lo.2.2.2.2.2.2.2.2.1 lo.2.2.2.2.2.2.2.2.2 j)
    rw [eK, eK, eK]; exact Ad.2.2.2.1.1 q
  · have lK := bzKl (I.2.1 a a0 a1 K q).1
    have kk := Ad.2.2.2.1.2 K q
    have same : ∀ y ∈ [bKe a, bKe a + 18, bKe a + 19], ∀ j, bi (bw t (bAi a) 13 (Z.1 305 0)) y j = bi s y j := fun y hy j => by
      have : y ≠ bAi a ∧ y ≠ bNe a ∧ y ≠ bNe a + 18 ∧ y ≠ bNe a + 19 := by
        unfold bKe at hy
        unfold bAi bNe
        simp only [List.mem_cons, List.not_mem_nil, or_false] at hy
        omega
      rw [tn y this.1, W y this.2.1 this.2.2.1 this.2.2.2]
    exact ⟨bzEk_m kk.1 (fun j _ => same _ (by simp) j) (fun j _ _ => same _ (by simp) j) (fun j _ _ => same _ (by simp) j) ⟨lK.1, lK.2.1⟩, by rw [same _ (by simp)]; exact kk.2⟩
  · exact bzEk_m E (fun j _ => tn _ (Ne.symm lo.1) j) (fun j _ _ => tn _ (Ne.symm lo.2.1) j) (fun j _ _ => tn _ (Ne.symm lo.2.2.1) j) ⟨l.1, l.2.1⟩
  · rw [tn _ (Ne.symm lo.1)]; exact e8
  · rw [tn _ (Ne.symm lo.1)]; exact e7
  · rw [ta 13 (by decide), if_pos rfl]; omega
  · rw [ta 13 (by decide), if_pos rfl]; exact Int.le_refl _
  · by_cases y : b = a
    · rw [y, ta 13 (by decide), if_pos rfl, if_pos rfl]
    · rw [if_neg y]
      have : bAi b ≠ bAi a ∧ bAi b ≠ bNe a ∧ bAi b ≠ bNe a + 18 ∧ bAi b ≠ bNe a + 19 := by unfold bAi bNe; omega
      rw [tn _ this.1, W _ this.2.1 this.2.2.1 this.2.2.2]
theorem w56 (I : bzI σ n Z) (hr : bzRn0 rk n Z) (R : bzCC σ n Z s) (hsb : bi σ 3 3 = bi σ 12 68 ∧ (bi σ 12 68 = 0 ∨ bi σ 12 68 = 1)) (H13 : ∀ b, 0 ≤ b → b < (n : Int) → bi s (bAi b) 13 < Z.1 305 0) (h : ∀ t, bzCC σ n (bzBgs σ n n Z) t → fv t) : bWp (d + 6) 56 [.ref 5] s (bRv fv) := by
  have n120 := I.1.2.1.1
  refine ⟨rfl, fun A hA => sq56_0 (bWp_mono _) hA ?_⟩
  -- how many are not tried yet
  have Lp : ∀ (U : Nat) (q : Nat) (W : bZs) (t : bSt) (st : Int) (v2 v3 : Value), bzI σ n W → bzRn0 rk n W → bzCC σ n W t → (∀ b, 0 ≤ b → b < (n : Int) → bi t (bAi b) 13 = W.1 305 0 → W.1 143 b = -1 → bzRd W b ∧ ¬ bzCn σ W b) → bCnp (fun b => decide (bi t (bAi b) 13 ≠ W.1 305 0)) n = U → 0 ≤ st → st + U ≤ 120 → (n : Int) - bzNb n W ≤ q → (∀ t, bzCC σ n (bzBgs σ n q W) t → fv t) → A (2, [.ref 5, .int (bn st), v2, v3], [], t) := by
    intro U
    induction U with
    | zero =>
      intro q W t st v2 v3 IW hrW RW Tn hU hst hU2 hq K
      refine sq56_2 (bWp_mono _) hA ⟨by omega, by omega⟩ ⟨fun y => absurd y (by omega), fun _ => w57 (d := d + 2) IW RW ?_⟩
      have none : bzNy W (fun b => decide (bi t (bAi b) 13 = W.1 305 0)) n = -1 := by
        rcases bzNy_at (Z := W) (T := fun b => decide (bi t (bAi b) 13 = W.1 305 0)) n with ⟨z, _⟩ | ⟨z, z2, _⟩
        · exact z
        · exfalso
          have := bCnp_z n hU _ z.1 z.2
          simp only [decide_eq_false_iff_not] at z2
          simp only [decide_eq_false_iff_not, ne_eq, Classical.not_not] at this
          exact z2.2 this
      have nx := (bzNy_u (Z := W) (T := fun b => decide (bi t (bAi b) 13 = W.1 305 0)) (U := fun b => !bzCb σ W b) (m := n) (fun b b0 b1 rb hb => by
        have := (Tn b b0 b1 (of_decide_eq_true hb) rb.2.1).2
        simp only [bzCn, Bool.not_eq_true] at this
        simp [this])).1 none
      rw [← bzNx_y] at nx
      refine ⟨fun _ => K t ?_, fun y => absurd none y⟩
      cases q with
      | zero => exact RW
      | succ q =>
        have u : bzBgs σ n (q + 1) W = if bzNx σ W n = -1 then W else bzBgs σ n q (bzSt σ W (bzNx σ W n)) := rfl
        rw [u, if_pos nx]; exact RW
    | succ U ih =>
      intro q W t st v2 v3 IW hrW RW Tn hU hst hU2 hq K
      refine sq56_2 (bWp_mono _) hA ⟨by omega, by omega⟩ ⟨fun y => absurd y (by omega), fun _ => w57 (d := d + 2) IW RW ?_⟩
      have nw := IW.2.2.2.2.2.1
      have e59 : bi t 5 9 = W.1 305 0 := RW.2.1.2.2 (305, 9) (by decide)
      have sub := bzNy_u (Z := W) (T := fun b => decide (bi t (bAi b) 13 = W.1 305 0)) (U := fun b => !bzCb σ W b) (m := n) (fun b b0 b1 rb hb => by
        have := (Tn b b0 b1 (of_decide_eq_true hb) rb.2.1).2
        simp only [bzCn, Bool.not_eq_true] at this
        simp [this])
      rw [← bzNx_y] at sub
      have at' := bzNy_at (Z := W) (T := fun b => decide (bi t (bAi b) 13 = W.1 305 0)) n
      generalize bzNy W (fun b => decide (bi t (bAi b) 13 = W.1 305 0)) n = y at *
      rcases at' with ⟨z, _⟩ | ⟨z, ⟨rd, z2⟩, _⟩
      · have nx := sub.1 z
        refine ⟨fun _ => K t ?_, fun y => absurd z y⟩
        cases q with
        | zero => exact RW
        | succ q =>
          have u : bzBgs σ n (q + 1) W = if bzNx σ W n = -1 then W else bzBgs σ n q (bzSt σ W (bzNx σ W n)) := rfl
          rw [u, if_pos nx]; exact RW
      · have z2 : bi t (bAi y) 13 ≠ W.1 305 0 := of_decide_eq_false z2
        obtain ⟨As, Ad⟩ := RW.2.2.2 y z.1 z.2
        have rs : bRg (st + 1) := ⟨by omega, by omega⟩
        -- behind its trial
        have go : ∀ t2, (bzPp σ W y t t2 ∨ t2 = t ∧ bi t (bAi y) 13 ≠ -1) → bWp (d + 5) 60 [.ref 5, .ref (bAi y), .int (bn y)] (bw t2 (bAi y) 13 (W.1 305 0)) (bRv (fun s13 => bRg (st + 1) ∧ A (2, [.ref 5, .int (bn (st + 1)), .int (bn y), .ref (bAi y)], [], s13))) := fun t2 ht2 => by
          obtain ⟨R2, H2⟩ := bzCC_t IW RW rd z.1 z.2 ht2
          generalize bw t2 (bAi y) 13 (W.1 305 0) = t3 at *
          have h3 : bi t3 (bAi y) 13 = W.1 305 0 := by rw [H2 y z.1 z.2, if_pos rfl]
          have cnt : bCnp (fun b => decide (bi t3 (bAi b) 13 ≠ W.1 305 0)) n = U := by
            have := bCn_a (P := fun b => decide (bi t3 (bAi b) 13 ≠ W.1 305 0)) (Q := fun b => decide (bi t (bAi b) 13 ≠ W.1 305 0)) (y := y) n z.1 z.2 (fun k k0 k1 kn => by rw [H2 k k0 k1, if_neg kn]) (decide_eq_false (fun q => q h3)) (decide_eq_true z2)
            omega
          refine w60 (d := d) IW hrW R2 rd z.1 z.2 (by rw [h3]; omega) (fun nc => ⟨rs, ?_⟩) fun cn t4 R4 H4 => ⟨rs, ?_⟩
          · refine ih q W t3 (st + 1) _ _ IW hrW R2 (fun b b0 b1 hb hb2 => ?_) cnt (by omega) (by omega) hq K
            by_cases e : b = y
            · rw [e]; exact ⟨rd, nc⟩
            · rw [H2 b b0 b1, if_neg e] at hb
              exact Tn b b0 b1 hb hb2
          · have se := bzSt_se IW hrW rd cn z.1 z.2
            obtain ⟨i1, i2, i3, i4, i5⟩ := bzI_st IW hrW rd cn z.1 z.2
            have ex : bzNx σ W n = y := sub.2 (by omega) (by
              have : bzCb σ W y = true := cn
              simp [this])
            cases q with
            | zero =>
              have nb := bzNb_b (n := n) (Z := W)
              have := bCnp_full n (show bCnp (fun a => decide (W.1 143 a ≠ -1)) n = n by show bzNb n W = n; omega) _ z.1 z.2
              exact absurd rd.2.1 (of_decide_eq_true this)
            | succ q =>
              have u : bzBgs σ n (q + 1) W = if bzNx σ W n = -1 then W else bzBgs σ n q (bzSt σ W (bzNx σ W n)) := rfl
              rw [u, ex, if_neg (by omega)] at K
              refine ih q _ t4 (st + 1) _ _ i1 i2 R4 (fun b b0 b1 hb hb2 => ?_) ?_ (by omega) (by omega) (by omega) K
              · rw [H4 b b0 b1, H2 b b0 b1, i5] at hb
                have ne : b ≠ y := fun e => by
                  rw [e, se.2.2.1] at hb2
                  omega
                rw [if_neg ne] at hb
                rw [(se.2.1 b ne).1 143 (by decide)] at hb2
                obtain ⟨r1, r2⟩ := Tn b b0 b1 hb hb2
                exact bzCn_se IW rd se r1 b0 b1 ne z.1 z.2 r2
              · rw [i5, ← cnt]
                exact bCn_x n fun k k0 k1 => by rw [H4 k k0 k1]
        refine ⟨fun w => by omega, fun _ => w89r As z.1 (by omega) ⟨bAi_0, ?_⟩⟩
        rw [e59]
        refine ⟨fun w => w59 (d := d + 1) IW RW hsb rd z.1 z.2 fun t2 P2 => ?_, fun w => go t (Or.inr ⟨rfl, w⟩)⟩
        have e592 : bi t2 5 9 = W.1 305 0 := by rw [P2.2.1 5 (by unfold bNe; omega) (by unfold bNe; omega) (by unfold bNe; omega)]; exact e59
        rw [e592]
        exact go t2 (Or.inl P2)
  have cb := bCn_b (P := fun b => decide (bi s (bAi b) 13 ≠ Z.1 305 0)) n
  have nb := bzNb_b (n := n) (Z := Z)
  refine Lp (bCnp (fun b => decide (bi s (bAi b) 13 ≠ Z.1 305 0)) n).toNat n Z s 0 _ _ I hr R (fun b b0 b1 hb _ => absurd hb (by have := H13 b b0 b1; omega)) (by omega) (Int.le_refl _) (by omega) (by omega) h
end

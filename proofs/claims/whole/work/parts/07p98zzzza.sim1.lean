/-! BUILD, 23: the reference: time passes -/
section
variable {d : Nat} {σ s t r : bSt} {f : Int → bSt → Prop} {fv : bSt → Prop} {Z Y : bZs} {a b e g i j l k x v w lo hi : Int} {n c B : Nat} {rk : Int → Nat}
/-- all of the reference, and the stamps' bound -/
def bzRR (B : Nat) (σ : bSt) (n : Nat) (Z : bZs) (s : bSt) : Prop := bzR0 σ n Z s ∧ bzRw σ n Z s ∧ bi s 12 73 ≤ B + 2 * bzNe n Z + bzNb n Z
theorem bzRw_cancel (I : bzI σ n Z) (hg : bzG Z a) (Rw : bzRw σ n Z s) (a0 : 0 ≤ a) (a1 : a < (n : Int)) (e : ∀ b ∈ [130, 131, 132, 133], ∀ j, bi t b j = bi s b j) : bzRw σ n (bzE (bzLv Z a (-1)) a 7) t := fun b b0 b1 hb => by
  have fe := bzLv_fe (σ := σ) (n := n) (Z := Z) (a := a)
  have ne : b ≠ a := fun y => by
    have := hb.2.2
    rw [y] at this
    rcases fe.2.2.1 with ⟨q, _⟩ | ⟨q, _⟩ <;> omega
  have gZ : bzG Z b := ⟨by rw [← fe.1 140 (by decide) b]; exact hb.1, by rw [← fe.1 143 (by decide) b]; exact hb.2.1, by rw [← (fe.2.1 b ne).1.2.1]; exact hb.2.2⟩
  obtain ⟨m1, m2, m3, m4⟩ := bzFe_K fe I hg b0 b1 gZ.2.1
  obtain ⟨q1, q2⟩ := Rw b b0 b1 gZ
  rw [m2, m3, m4, fe.1 147 (by decide), e 130 (by decide), e 131 (by decide), e 133 (by decide)]
  exact ⟨⟨q1.1, q1.2.1, fun i hi => by rw [e 132 (by decide)]; exact q1.2.2 i hi⟩, q2⟩
theorem r290 (I : bzI σ n Z) (R : bzRR B σ n Z s) (k : ∀ t, bzRR B σ n (bzCcl n Z) t → bzRf s t → fv t) : bWp (d + 3) 290 [.ref 12] s (bRv fv) := by
  have n120 := I.1.2.1.1
  refine ⟨rfl, fun A hA => sq290_0 (bWp_mono _) hA ?_⟩
  have Lp : ∀ (m j : Nat) (t : bSt), j + m = n → bzRR B σ n (bzCcl j Z) t → bzRf s t → A (2, [.ref 12, .int (bn j)], [], t) := by
    intro m
    induction m with
    | zero =>
      intro j t hj Rt Ft
      have ej : j = n := by omega
      subst ej
      refine sq290_2 (bWp_mono _) hA ⟨by omega, by omega⟩ ?_
      rw [Rt.1.1.2.2.1]
      exact ⟨fun z => absurd z (Int.lt_irrefl _), fun _ => k t Rt Ft⟩
    | succ m ih =>
      intro j t hj Rt Ft
      have Ij := bzI_ccl I j (by omega)
      have nx := ih (j + 1)
      rw [show ((j + 1 : Nat) : Int) = (j : Int) + 1 by omega] at nx
      have uC : bzCcl (j + 1) Z = if bzG (bzCcl j Z) j then bzE (bzLv (bzCcl j Z) j (-1)) j 7 else bzCcl j Z := rfl
      rw [uC] at nx
      generalize bzCcl j Z = W at *
      have j1 : (j : Int) < (n : Int) := by omega
      refine sq290_2 (bWp_mono _) hA ⟨by omega, by omega⟩ ?_
      rw [Rt.1.1.2.2.1]
      refine ⟨fun _ => r282 (d := d + 1) Rt.1.1.2.2 Rt.1.2.2.1 (by omega) j1 n120 ?_, fun z => absurd j1 z⟩
      by_cases z : bzG W j
      · rw [if_pos z]
        rw [if_pos z] at nx
        refine ⟨fun y => absurd y (by decide), fun _ => ⟨⟨by omega, by omega⟩, ?_⟩⟩
        have e105 : bi t 12 105 = W.1 305 0 := Rt.1.2.2.1.2.1
        rw [e105]
        have R1 : bzR0 σ n (bzE W j 7) (bw (bw t 142 j 7) 144 j (W.1 305 0)) := by
          have nw := Ij.2.2.2.2.2.1
          have nbz := bzNb_b (n := n) (Z := W)
          exact bzR0_w (bzR0_w Rt.1 (by decide) (by omega) (by decide)) (by decide) (by omega) ⟨by omega, by omega⟩
        have e148 : (bzE W j 7).1 148 j = W.1 148 j := by unfold bzE; rw [zw_a (by decide), zw_a (by decide)]
        have jr := (Ij.2.2.2.1 j (by omega) j1).2.1
        refine r291 (d := d + 1) R1 (by omega) (by omega) (by rw [e148]; exact jr) (by decide) fun t2 R2 F2 u2 => ⟨⟨by omega, by omega⟩, nx t2 (by omega) ⟨?_, ?_, ?_⟩ (bzRf_trans (bzRf_trans (bzRf_trans Ft (bzRf_w (by decide))) (bzRf_w (by decide))) F2)⟩
        · have e : bzLv (bzE W j 7) j (-1) = bzE (bzLv W j (-1)) j 7 := by
            have e305 : (bzLv W j (-1)).1 305 0 = W.1 305 0 := by
              unfold bzLv
              by_cases y : W.1 148 j = -1
              · rw [if_pos y]
              · rw [if_neg y, zw_a (by decide), zw_a (by decide), zw_a (by decide)]
            show (if (bzE W j 7).1 148 j = -1 then bzE W j 7 else zw (zw (zw (bzE W j 7) 138 ((bzE W j 7).1 148 j) 0) 137 ((bzE W j 7).1 148 j) (-1)) 148 j (-1)) = zw (zw (bzLv W j (-1)) 142 j 7) 144 j ((bzLv W j (-1)).1 305 0)
            rw [e148, e305]
            unfold bzLv
            by_cases y : W.1 148 j = -1
            · rw [if_pos y, if_pos y]; rfl
            · rw [if_neg y, if_neg y]
              unfold bzE
              have cm := fun (Z : bZs) (c c' : Nat) (i j v w : Int) (h : c ≠ c') => zw_cm (Z := Z) (i := i) (j := j) (v := v) (w := w) h
              rw [cm _ 144 138 _ _ _ _ (by decide), cm _ 142 138 _ _ _ _ (by decide), cm _ 144 137 _ _ _ _ (by decide), cm _ 142 137 _ _ _ _ (by decide), cm _ 144 148 _ _ _ _ (by decide), cm _ 142 148 _ _ _ _ (by decide)]
          rw [← e]
          exact R2
        · exact bzRw_cancel Ij z Rt.2.1 (by omega) j1 fun b hb j => by
            simp only [List.mem_cons, List.not_mem_nil, or_false] at hb
            rw [u2 b (by omega) (by omega) (by omega), bi_ne (by omega), bi_ne (by omega)]
        · have fe := bzLv_fe (σ := σ) (n := n) (Z := W) (a := j)
          have ne := bzNe_1 (n := n) (Y := bzE (bzLv W j (-1)) j 7) (Z := W) (a := j) (by omega) j1 (fun b q => (fe.2.1 b q).1.2.1) z.2.2 (by rcases fe.2.2.1 with ⟨q, _⟩ | ⟨q, _⟩ <;> omega)
          have nb := bzNb_m (n := n) (Y := bzE (bzLv W j (-1)) j 7) (Z := W) fun a _ _ => fe.1 143 (by decide) a
          rw [u2 12 (by decide) (by decide) (by decide), bi_ne (by decide), bi_ne (by decide), ne, nb]
          have := Rt.2.2
          omega
      · rw [if_neg z]
        rw [if_neg z] at nx
        exact ⟨fun _ => ⟨⟨by omega, by omega⟩, nx t (by omega) Rt Ft⟩, fun y => absurd rfl y⟩
  exact Lp n 0 s (by omega) R bzRf_refl
/-- time passes, from the head of the loop -/
theorem r288L {lvl : Nat} {A : bPt → Prop} (hA : bClosed lvl bm288 (bWp (d + 9)) (bRv fv) A) (hB : B ≤ 1000000) (g0 : bRg g) (l0 : 0 ≤ l ∧ l < 1000) : ∀ (k : Nat) (Z : bZs) (s : bSt) (v4 v5 v6 v7 : Value), bzI σ n Z → bzRn0 rk n Z → bzRR B σ n Z s → ((n : Int) - bzNe n Z < k ∨ ((n : Int) - bzNe n Z ≤ k ∧ ∃ a, 0 ≤ a ∧ a < (n : Int) ∧ bzG Z a ∧ (Z.1 145 a = Z.1 305 0 ∨ Z.1 146 a = Z.1 305 0)) ∨ (0 < l ∧ Z.1 305 0 = l ∧ 1 ≤ k)) → bUnl v5 = v5 →
    (∀ t v4 v5 v6 v7, bzRR B σ n (bzLp σ n g l k Z) t → bzRf s t → bUnl v5 = v5 → A (2, [.ref 12, .int (bn g), .int (bn l), .int (bn 0), v4, v5, v6, v7], [], t)) → A (2, [.ref 12, .int (bn g), .int (bn l), .int (bn 1), v4, v5, v6, v7], [], s) := by
  intro k
  induction k with
  | zero =>
    intro Z s v4 v5 v6 v7 I hr R hk hu K
    have nb := bzNe_b (n := n) (Z := Z)
    rcases hk with h | ⟨h, a, a0, a1, a2, _⟩ | h
    · omega
    · have : bzNe n Z < n := by
        refine Classical.byContradiction fun q => ?_
        have := bCnp_full n (show bCnp (fun a => decide (Z.1 142 a ≠ -1)) n = n by show bzNe n Z = n; omega) a a0 a1
        exact absurd a2.2.2 (of_decide_eq_true this)
      omega
    · omega
  | succ k ih =>
    intro Z s v4 v5 v6 v7 I hr R hk hu K
    have n120 := I.1.2.1.1
    have uL : bzLp σ n g l (k + 1) Z = if 0 < l ∧ Z.1 305 0 = l then bzCcl n (bzEnds σ g n Z)
      else if bzSn (bzBg σ n (bzEnds σ g n Z)) n = -1 then bzBg σ n (bzEnds σ g n Z) else bzLp σ n g l k (bzTi l (bzBg σ n (bzEnds σ g n Z)) (bzSn (bzBg σ n (bzEnds σ g n Z)) n)) := rfl
    rw [uL] at K
    have IE := bzI_ends (g := g) I n (Nat.le_refl _)
    have hrE := bzRn0_ends (g := g) hr I n (Nat.le_refl _)
    obtain ⟨_, rE2, rE3, _⟩ := bzEnds_r (g := g) n I (Nat.le_refl _)
    have more : (∃ a, 0 ≤ a ∧ a < (n : Int) ∧ bzG Z a ∧ (Z.1 145 a = Z.1 305 0 ∨ Z.1 146 a = Z.1 305 0)) → bzNe n Z + 1 ≤ bzNe n (bzEnds σ g n Z) := fun ⟨a, a0, a1, a2, a3⟩ => bzEnds_1 I a0 a1 a2 a3 n a1 (Nat.le_refl _)
    -- behind all that begins: when the next one ends
    have tail : ∀ (W : bZs) (t : bSt) (v3 v4 v5 v6 v7 : Value), bzI σ n W → bzRR B σ n W t → bzRf s t → bUnl v5 = v5 → (bzSn W n = -1 → ∀ t v5 v6 v7, bzRR B σ n W t → bzRf s t → bUnl v5 = v5 → A (2, [.ref 12, .int (bn g), .int (bn l), .int (bn 0), v4, v5, v6, v7], [], t)) → (bzSn W n ≠ -1 → ∀ t v5 v6 v7, bzRR B σ n (bzTi l W (bzSn W n)) t → bzRf s t → bUnl v5 = v5 → A (2, [.ref 12, .int (bn g), .int (bn l), .int (bn 1), v4, v5, v6, v7], [], t)) → A (72, [.ref 12, .int (bn g), .int (bn l), v3, v4, v5, .int (bn (-1)), .int (bn 0)], [], t) := fun W t v3 v4 v5 v6 v7 IW RW FW hu5 K0 K1 => by
      have nbW := bzNb_b (n := n) (Z := W)
      have Lp : ∀ (m j : Nat), j + m = n → A (72, [.ref 12, .int (bn g), .int (bn l), v3, v4, v5, .int (bn (bzSn W j)), .int (bn j)], [], t) := by
        intro m
        induction m with
        | zero =>
          intro j hj
          have ej : j = n := by omega
          rw [ej]
          have at' := bzSn_at IW n (Nat.le_refl _)
          have rs : bRg (bzSn W n) := by
            rcases at' with ⟨q, _⟩ | ⟨_, a, a0, a1, a2, a3⟩
            · rw [q]; decide
            · have j := IW.2.2.2.1 a a0 a1
              exact ⟨by omega, by omega⟩
          refine sq288_72 (bWp_mono _) hA g0 ⟨by omega, by omega⟩ rs ⟨by omega, by omega⟩ ?_
          rw [RW.1.1.2.2.1]
          have wr : ∀ x : Int, bRg x → x = (if 0 < l ∧ l < bzSn W n then l else bzSn W n) → bzRR B σ n (bzTi l W (bzSn W n)) (bw t 12 105 x) := fun x rx hx => by
            have e : bzTi l W (bzSn W n) = zw W 305 0 x := by unfold bzTi; rw [hx]
            rw [e]
            have u : zU [305] W (zw W 305 0 x) := zU_w (by decide)
            have m := (bzEnv IW.1 u (by decide)).2
            refine ⟨bzR0_f RW.1 (Or.inl ⟨rfl, rfl⟩) rx, fun b b0 b1 hb => ?_, ?_⟩
            · have gW : bzG W b := ⟨by rw [← u 140 (by decide) b]; exact hb.1, by rw [← u 143 (by decide) b]; exact hb.2.1, by rw [← u 142 (by decide) b]; exact hb.2.2⟩
              obtain ⟨q1, q2⟩ := RW.2.1 b b0 b1 gW
              obtain ⟨m1, m2, m3, m4⟩ := m b
              rw [m2, m3, m4, u 147 (by decide), bi_ne (by decide), bi_ne (by decide), bi_ne (by decide)]
              exact ⟨⟨q1.1, q1.2.1, fun i hi => by rw [bi_ne (by decide)]; exact q1.2.2 i hi⟩, q2⟩
            · rw [bi_nj (by decide) (by decide) (by decide), bzNe_m (Y := zw W 305 0 x) (Z := W) fun b _ _ => u 142 (by decide) b, bzNb_m (Y := zw W 305 0 x) (Z := W) fun b _ _ => u 143 (by decide) b]
              exact RW.2.2
          have fw : ∀ x, bzRf s (bw t 12 105 x) := fun x => bzRf_trans FW (bzRf_f (by decide) (by decide))
          refine ⟨fun z => absurd z (Int.lt_irrefl _), fun _ => ⟨fun z => ?_, fun z => ⟨fun c1 => ⟨fun c2 => ?_, fun c2 => ?_⟩, fun c1 => ?_⟩⟩⟩
          · rw [bw_id]
            exact K0 z t v5 _ _ RW FW hu5
          · exact K1 z _ v5 _ _ (wr l ⟨by omega, by omega⟩ (by rw [if_pos ⟨c1, c2⟩])) (fw l) hu5
          · exact K1 z _ v5 _ _ (wr _ rs (by rw [if_neg fun y => c2 y.2])) (fw _) hu5
          · exact K1 z _ v5 _ _ (wr _ rs (by rw [if_neg fun y => c1 y.1])) (fw _) hu5
        | succ m ihm =>
          intro j hj
          have j1 : (j : Int) < (n : Int) := by omega
          have rs : bRg (bzSn W j) := by
            rcases bzSn_at IW j (by omega) with ⟨q, _⟩ | ⟨_, a, a0, a1, a2, a3⟩
            · rw [q]; decide
            · have j := IW.2.2.2.1 a a0 (by omega)
              exact ⟨by omega, by omega⟩
          have nx := ihm (j + 1) (by omega)
          have uS : bzSn W (j + 1) = if bzG W j then bzSr (bzSn W j) (bzSr (W.1 145 j) (W.1 146 j)) else bzSn W j := rfl
          rw [uS, show ((j + 1 : Nat) : Int) = (j : Int) + 1 by omega] at nx
          have jj := IW.2.2.2.1 j (by omega) j1
          refine sq288_72 (bWp_mono _) hA g0 ⟨by omega, by omega⟩ rs ⟨by omega, by omega⟩ ?_
          rw [RW.1.1.2.2.1]
          refine ⟨fun _ => r282 (d := d + 8) RW.1.1.2.2 RW.1.2.2.1 (by omega) j1 n120 ?_, fun z => absurd j1 z⟩
          by_cases z : bzG W j
          · rw [if_pos z] at nx
            rw [if_pos z, RW.1.2.2.1.1 145 (by decide) j (by omega), RW.1.2.2.1.1 146 (by decide) j (by omega), hu5]
            refine ⟨fun y => absurd y (by decide), fun _ => ⟨⟨by omega, by omega⟩, w289 ⟨by omega, by omega⟩ ⟨by omega, by omega⟩ (w289 rs ?_ ⟨⟨by omega, by omega⟩, nx⟩)⟩⟩
            split
            · exact ⟨by omega, by omega⟩
            · split <;> exact ⟨by omega, by omega⟩
          · rw [if_neg z] at nx
            rw [if_neg z, hu5]
            exact ⟨fun _ => ⟨⟨by omega, by omega⟩, nx⟩, fun y => absurd rfl y⟩
      exact Lp n 0 (by omega)
    -- those that begin
    have begins : ∀ (q : Nat) (W : bZs) (t : bSt) (v3 v4 v6 v7 : Value), bUnl v4 = v4 → bzI σ n W → bzRn0 rk n W → bzRR B σ n W t → bzRf s t → (n : Int) - bzNb n W ≤ q → (∀ t v3 v5, bzRR B σ n (bzBgs σ n q W) t → bzRf s t → bUnl v5 = v5 → A (72, [.ref 12, .int (bn g), .int (bn l), v3, v4, v5, .int (bn (-1)), .int (bn 0)], [], t)) → A (58, [.ref 12, .int (bn g), .int (bn l), v3, v4, .int (bn (bzNx σ W n)), v6, v7], [], t) := by
      intro q
      induction q with
      | zero =>
        intro W t v3 v4 v6 v7 hu4 IW hrW RW FW hq K2
        have r := bzNx_rg (σ := σ) (Z := W) n
        have z : bzNx σ W n = -1 := by
          rcases r with z | ⟨z0, z1, z2, _⟩
          · exact z
          · have nb := bzNb_b (n := n) (Z := W)
            have := bCnp_full n (show bCnp (fun a => decide (W.1 143 a ≠ -1)) n = n by show bzNb n W = n; omega) _ z0 z1
            exact absurd z2.2.1 (of_decide_eq_true this)
        rw [z]
        exact sq288_58 (bWp_mono _) hA g0 ⟨by omega, by omega⟩ (by decide) ⟨fun _ => K2 t v3 _ RW FW rfl, fun y => absurd rfl y⟩
      | succ q ihq =>
        intro W t v3 v4 v6 v7 hu4 IW hrW RW FW hq K2
        have r := bzNx_rg (σ := σ) (Z := W) n
        have rb : bRg (bzNx σ W n) := by rcases r with z | z <;> exact ⟨by omega, by omega⟩
        have uB : bzBgs σ n (q + 1) W = if bzNx σ W n = -1 then W else bzBgs σ n q (bzSt σ W (bzNx σ W n)) := rfl
        rw [uB] at K2
        refine sq288_58 (bWp_mono _) hA g0 ⟨by omega, by omega⟩ rb ⟨fun z => ?_, fun z => ?_⟩
        · rw [if_pos z] at K2
          rw [z]
          exact K2 t v3 _ RW FW rfl
        · rw [if_neg z] at K2
          have r2 := r.resolve_left z
          obtain ⟨i1, i2, i3, i4, i5⟩ := bzI_st IW hrW r2.2.2.1 r2.2.2.2 r2.1 r2.2.1
          have nbW := bzNb_b (n := n) (Z := W)
          have neW := bzNe_b (n := n) (Z := W)
          refine r294 (d := d + 1) IW hrW RW.1 RW.2.1 r2.1 r2.2.1 r2.2.2.1 r2.2.2.2 (by have := RW.2.2; omega) fun t2 R2 Rw2 F2 c2 => ?_
          have RR2 : bzRR B σ n (bzSt σ W (bzNx σ W n)) t2 := ⟨R2, Rw2, by have := RW.2.2; omega⟩
          refine r292 (d := d + 1) i1.1 i1.2.1 R2 ?_
          rw [hu4]
          exact ihq _ t2 v3 v4 _ _ hu4 i1 i2 RR2 (bzRf_trans FW F2) (by omega) K2
    -- those that end
    have ends : ∀ (m j : Nat) (t : bSt) (v3 v5 v6 v7 : Value), bUnl v3 = v3 → bUnl v5 = v5 → j + m = n → bzRR B σ n (bzEnds σ g j Z) t → bzRf s t → A (6, [.ref 12, .int (bn g), .int (bn l), v3, .int (bn j), v5, v6, v7], [], t) := by
      intro m
      induction m with
      | zero =>
        intro j t v3 v5 v6 v7 hu3 hu5 hj RW FW
        have ej : j = n := by omega
        subst ej
        have e105 : bi t 12 105 = Z.1 305 0 := by rw [RW.1.2.2.1.2.1]; exact rE2
        have e106 : bi t 12 106 = (bzEnds σ g j Z).1 306 0 := RW.1.2.2.1.2.2.1
        refine sq288_6 (bWp_mono _) hA g0 ⟨by omega, by omega⟩ ⟨by omega, by omega⟩ ?_
        rw [RW.1.1.2.2.1, e105, e106]
        -- without the limit
        have go : ¬ (0 < l ∧ Z.1 305 0 = l) → ((bzEnds σ g j Z).1 306 0 = 0 → bWp (d + 9) 292 [.ref 12] t (bRn fun r24 s22 => A (58, [.ref 12, .int (bn g), .int (bn l), (bUnl v3), .int (bn 0), .int (bn r24), v6, v7], [], s22))) ∧ (¬ (bzEnds σ g j Z).1 306 0 = 0 → A (58, [.ref 12, .int (bn g), .int (bn l), (bUnl v3), .int (bn 0), .int (bn (-1)), v6, v7], [], t)) := fun nl => by
          rw [if_neg nl] at K
          obtain ⟨b1, b2, b3, b4⟩ := bzI_bg IE hrE
          have nxt : ∀ (W : bZs), W = bzBg σ j (bzEnds σ g j Z) → ∀ t v3 v5, bzRR B σ j W t → bzRf s t → bUnl v5 = v5 → A (72, [.ref 12, .int (bn g), .int (bn l), v3, .int (bn 0), v5, .int (bn (-1)), .int (bn 0)], [], t) := fun W hW t v3 v5 RW2 FW2 hu5 => by
            rw [← hW] at K b1 b2 b3 b4
            refine tail W t v3 _ v5 v6 v7 b1 RW2 FW2 hu5 (fun z t v5 v6 v7 R3 F3 hu => ?_) (fun z t v5 v6 v7 R3 F3 hu => ?_)
            · rw [if_pos z] at K
              exact K t _ v5 v6 v7 R3 F3 hu
            · rw [if_neg z] at K
              obtain ⟨t1, a, a0, a1, a2, a3⟩ := bzI_ti b1 l0.1 z
              have uT : zU [305] W (bzTi l W (bzSn W j)) := zU_w (by decide)
              have eNe : bzNe j (bzTi l W (bzSn W j)) = bzNe j W := bzNe_m fun b _ _ => uT 142 (by decide) b
              have lt : bzNe j W < j := by
                refine Classical.byContradiction fun q => ?_
                have nb := bzNe_b (n := j) (Z := W)
                have := bCnp_full j (show bCnp (fun a => decide (W.1 142 a ≠ -1)) j = j by show bzNe j W = j; omega) a a0 a1
                exact absurd a2.2.2 (of_decide_eq_true this)
              have nk : (j : Int) - bzNe j W ≤ k := by
                rcases hk with h | ⟨h, h2⟩ | h
                · omega
                · have := more h2; omega
                · exact absurd ⟨h.1, h.2.1⟩ nl
              refine ih _ t _ v5 v6 v7 t1 (fun b b0 b1 => by simp only [uT 105 (by decide), uT 106 (by decide)]; exact b2 b b0 b1) R3 ?_ hu (fun t' v4 v5 v6 v7 R4 F4 hu' => K t' v4 v5 v6 v7 R4 (bzRf_trans F3 F4) hu')
              have e305 : (bzTi l W (bzSn W j)).1 305 0 = if 0 < l ∧ l < bzSn W j then l else bzSn W j := zw_e
              by_cases c : 0 < l ∧ l < bzSn W j
              · rw [if_pos c] at e305
                exact Or.inr (Or.inr ⟨c.1, e305, by omega⟩)
              · rw [if_neg c] at e305
                refine Or.inr (Or.inl ⟨by omega, a, a0, a1, ⟨?_, ?_, ?_⟩, ?_⟩)
                · rw [uT 140 (by decide)]; exact a2.1
                · rw [uT 143 (by decide)]; exact a2.2.1
                · rw [uT 142 (by decide)]; exact a2.2.2
                · rw [e305, uT 145 (by decide), uT 146 (by decide)]; exact a3
          refine ⟨fun z => r292 (d := d + 1) IE.1 IE.2.1 RW.1 ?_, fun z => ?_⟩
          · have eB : bzBgs σ j j (bzEnds σ g j Z) = bzBg σ j (bzEnds σ g j Z) := by unfold bzBg; rw [if_pos z]
            have nb := bzNb_b (n := j) (Z := bzEnds σ g j Z)
            rw [hu3]
            exact begins j _ t v3 _ _ _ rfl IE hrE RW FW (by omega) (nxt _ eB)
          · have eB : bzEnds σ g j Z = bzBg σ j (bzEnds σ g j Z) := by unfold bzBg; rw [if_neg z]
            exact sq288_58 (bWp_mono _) hA g0 ⟨by omega, by omega⟩ (by decide) ⟨fun _ => nxt _ eB t _ _ RW FW rfl, fun y => absurd rfl y⟩
        refine ⟨fun z => absurd z (Int.lt_irrefl _), fun _ => ⟨fun c1 => ⟨fun c2 => ?_, fun c2 => go fun y => c2 y.2⟩, fun c1 => go fun y => c1 y.1⟩⟩
        -- the limit
        rw [if_pos ⟨c1, c2⟩] at K
        refine r290 (d := d + 6) IE RW fun t2 R2 F2 => ?_
        have Ic := bzI_ccl IE j (Nat.le_refl _)
        have none := bzSn_0 (bzCcl_n σ j j (Z := bzEnds σ g j Z)).2 j (Nat.le_refl _)
        refine sq288_58 (bWp_mono _) hA g0 ⟨by omega, by omega⟩ (by decide) ⟨fun _ => tail _ t2 _ _ _ v6 v7 Ic R2 (bzRf_trans FW F2) rfl (fun _ t v5 v6 v7 R3 F3 hu => ?_) (fun z => absurd none z), fun y => absurd rfl y⟩
        exact K t _ v5 v6 v7 R3 F3 hu
      | succ m ihm =>
        intro j t v3 v5 v6 v7 hu3 hu5 hj RW FW
        have j1 : (j : Int) < (n : Int) := by omega
        have Ij := bzI_ends (g := g) I j (by omega)
        have nx := fun t => ihm (j + 1) t v3 v5 v6 v7 hu3 hu5 (by omega)
        have uE : bzEnds σ g (j + 1) Z = if bzG (bzEnds σ g j Z) j ∧ ((bzEnds σ g j Z).1 145 j = (bzEnds σ g j Z).1 305 0 ∨ (bzEnds σ g j Z).1 146 j = (bzEnds σ g j Z).1 305 0) then bzFin σ g (bzEnds σ g j Z) j else bzEnds σ g j Z := rfl
        rw [uE, show ((j + 1 : Nat) : Int) = (j : Int) + 1 by omega] at nx
        generalize bzEnds σ g j Z = W at *
        refine sq288_6 (bWp_mono _) hA g0 ⟨by omega, by omega⟩ ⟨by omega, by omega⟩ ?_
        rw [RW.1.1.2.2.1, hu3]
        refine ⟨fun _ => r282 (d := d + 8) RW.1.1.2.2 RW.1.2.2.1 (by omega) j1 n120 ?_, fun z => absurd j1 z⟩
        rw [RW.1.2.2.1.1 145 (by decide) j (by omega), RW.1.2.2.1.1 146 (by decide) j (by omega), RW.1.2.2.1.2.1]
        by_cases z : bzG W j
        · rw [if_pos z]
          have fin : (W.1 145 j = W.1 305 0 ∨ W.1 146 j = W.1 305 0) → bWp (d + 9) 298 [.ref 12, .int (bn j), .int (bn g)] t (bRv fun s8 => bRg ((j : Int) + 1) ∧ A (6, [.ref 12, .int (bn g), .int (bn l), v3, .int (bn ((j : Int) + 1)), v5, v6, v7], [], s8)) := fun he => by
            rw [if_pos ⟨z, he⟩] at nx
            have nbW := bzNb_b (n := n) (Z := W)
            have neW := bzNe_b (n := n) (Z := W)
            refine r298 (d := d + 2) Ij RW.1 RW.2.1 (by omega) j1 z g0 (by have := RW.2.2; omega) fun t2 R2 Rw2 F2 c2 => ⟨⟨by omega, by omega⟩, nx t2 ⟨R2, Rw2, ?_⟩ (bzRf_trans FW F2)⟩
            have fe := bzFin_fe (g := g) Ij z (by omega) j1
            have ne := bzNe_1 (n := n) (Y := bzFin σ g W j) (Z := W) (a := j) (by omega) j1 (fun b q => (fe.2.1 b q).1.2.1) z.2.2 (by rcases fe.2.2.1 with ⟨q, _⟩ | ⟨q, _⟩ <;> omega)
            have nb := bzNb_m (n := n) (Y := bzFin σ g W j) (Z := W) fun a _ _ => fe.1 143 (by decide) a
            have := RW.2.2
            omega
          refine ⟨fun y => absurd y (by decide), fun _ => ⟨⟨by omega, by omega⟩, fun c1 => fin (Or.inl c1), fun c1 => ⟨fun c2 => fin (Or.inr c2), fun c2 => ⟨⟨by omega, by omega⟩, ?_⟩⟩⟩⟩
          rw [if_neg (fun y => y.2.elim c1 c2)] at nx
          exact nx t RW FW
        · rw [if_neg z]
          rw [if_neg (fun y => z y.1)] at nx
          exact ⟨fun _ => ⟨⟨by omega, by omega⟩, nx t RW FW⟩, fun y => absurd rfl y⟩
    exact sq288_2 (bWp_mono _) hA g0 ⟨by omega, by omega⟩ (by decide) ⟨fun y => absurd y (by decide), fun _ => ends n 0 s _ v5 v6 v7 rfl hu (by omega) R bzRf_refl⟩
end

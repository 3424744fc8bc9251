/-! BUILD, 42: the class: the loop of time; what became of all is counted -/
section
variable {d : Nat} {σ s t r u : bSt} {f : Int → bSt → Prop} {fa : Nat → bSt → Prop} {fv : bSt → Prop} {a b g i j k l x y v w p st : Int} {c e e0 q m n z : Nat} {K M : bKy} {L N F : List bKy} {Z Y X W : bZs} {S : List Nat} {T U : Int → Bool} {rk : Int → Nat}
theorem bzCC_q {o : Int} (I : bzI σ n Z) (R : bzCC σ n Z s) (hp : (c, o) ∈ bzGq) (hv : bRg v) (h : c = 305 → Z.1 305 0 ≤ v) : bzCC σ n (zw Z c 0 v) (bw s 5 o v) := by
  obtain ⟨hN, hF⟩ := bzN_l I
  have cc : c = 305 ∨ c = 306 ∨ c = 395 := (bzGq_d _ hp _ hp).2.2.2.2.2
  refine bzCC_x (x := -1) I R ⟨zU_w (by rcases cc with rfl | rfl | rfl <;> decide), fun b _ => ⟨fun e he => zw_a (by
    simp only [List.mem_cons, List.not_mem_nil, or_false] at he
    omega), rfl⟩, ?_⟩ (fun y => by omega) (by omega) (bzKf_w (Or.inl (bzTb_s (by decide)))) (bzCG_q R.2.1 hp hv) (bzCh_w R.2.2.1 (by decide) (by decide) (by decide) hN hF) (fun y => by omega)
  by_cases e : c = 305
  · rw [e, zw_e]; exact h e
  · rw [zw_a (by omega)]; exact Int.le_refl _
theorem w50L {lvl : Nat} {A : bPt → Prop} (hA : bClosed lvl bm50 (bWp (d + 7)) (bRv fv) A) (hsb : bi σ 3 3 = bi σ 12 68 ∧ (bi σ 12 68 = 0 ∨ bi σ 12 68 = 1)) (g0 : bRg g) (l0 : 0 ≤ l ∧ l < 1000) : ∀ (k : Nat) (Z : bZs) (s : bSt) (st : Int) (v4 : Value), bzI σ n Z → bzRn0 rk n Z → bzCC σ n Z s → bzLa n Z 0 → (0 < l → Z.1 305 0 ≤ l) → (∀ b, 0 ≤ b → b < (n : Int) → bi s (bAi b) 13 < Z.1 305 0) → ((n : Int) - bzNe n Z < k ∨ ((n : Int) - bzNe n Z ≤ k ∧ ∃ a, 0 ≤ a ∧ a < (n : Int) ∧ bzG Z a ∧ (Z.1 145 a = Z.1 305 0 ∨ Z.1 146 a = Z.1 305 0)) ∨ (0 < l ∧ Z.1 305 0 = l ∧ 1 ≤ k)) → 0 ≤ st → st + k ≤ 1000 → (∀ t, bzCC σ n (bzLp σ n g l k Z) t → (∀ b, 0 ≤ b → b < (n : Int) → ¬ bzG (bzLp σ n g l k Z) b) → fv t) → A (2, [.ref 5, .int (bn g), .int (bn l), .int (bn st), v4], [], s) := by
  intro k
  induction k with
  | zero =>
    intro Z s st v4 I hr R La Ll H13 hk hst hst2 K
    have nb := bzNe_b (n := n) (Z := Z)
    rcases hk with h | ⟨h, a, a0, a1, a2, _⟩ | h
    · omega
    · have : bzNe n Z < n := by
        refine Classical.byContradiction fun q => ?_
        have := bCnp_full n (show bCnp (fun a => decide (Z.1 142 a ≠ -1)) n = n by show bzNe n Z = n; omega) a a0 a1
        exact absurd a2.2.2 (of_decide_eq_true this)
      omega
    · omega
  | succ k ih =>
    intro Z s st v4 I hr R La Ll H13 hk hst hst2 K
    have n120 := I.1.2.1.1
    have uL : bzLp σ n g l (k + 1) Z = if 0 < l ∧ Z.1 305 0 = l then bzCcl n (bzEnds σ g n Z)
      else if bzSn (bzBg σ n (bzEnds σ g n Z)) n = -1 then bzBg σ n (bzEnds σ g n Z) else bzLp σ n g l k (bzTi l (bzBg σ n (bzEnds σ g n Z)) (bzSn (bzBg σ n (bzEnds σ g n Z)) n)) := rfl
    rw [uL] at K
    have IE := bzI_ends (g := g) I n (Nat.le_refl _)
    have hrE := bzRn0_ends (g := g) hr I n (Nat.le_refl _)
    obtain ⟨_, rE2, rE3, _⟩ := bzEnds_r (g := g) n I (Nat.le_refl _)
    have more : (∃ a, 0 ≤ a ∧ a < (n : Int) ∧ bzG Z a ∧ (Z.1 145 a = Z.1 305 0 ∨ Z.1 146 a = Z.1 305 0)) → bzNe n Z + 1 ≤ bzNe n (bzEnds σ g n Z) := fun ⟨a, a0, a1, a2, a3⟩ => bzEnds_1 I a0 a1 a2 a3 n a1 (Nat.le_refl _)
    have LE := bzLa_e1 (g := g) I La
    obtain ⟨b1, b2, b3, b4⟩ := bzI_bg IE hrE
    have LB : bzLa n (bzBg σ n (bzEnds σ g n Z)) 1 := by
      unfold bzBg
      by_cases z : (bzEnds σ g n Z).1 306 0 = 0
      · rw [if_pos z]; exact bzLa_bgs n _ IE hrE LE
      · rw [if_neg z]; exact LE
    have nw := I.2.2.2.2.2.1
    have nbz := bzNb_b (n := n) (Z := Z)
    refine sq50_2 (bWp_mono _) hA g0 ⟨by omega, by omega⟩ ⟨by omega, by omega⟩ ⟨fun _ => w52 (d := d) I R g0 fun s2 R2 H2 => ?_, fun y => absurd (show st < 100000 by omega) y⟩
    have e59 : bi s2 5 9 = Z.1 305 0 := by rw [R2.2.1.2.2 (305, 9) (by decide)]; exact rE2
    have e510 : bi s2 5 10 = (bzEnds σ g n Z).1 306 0 := R2.2.1.2.2 (306, 10) (by decide)
    rw [e59]
    -- without the limit
    have go : ¬ (0 < l ∧ Z.1 305 0 = l) → ∀ v4, A (17, [.ref 5, .int (bn g), .int (bn l), .int (bn st), v4], [], s2) := fun nl v4 => by
      rw [if_neg nl] at K
      -- behind all that begins
      have tail : ∀ (W : bZs) (t : bSt), W = bzBg σ n (bzEnds σ g n Z) → bzCC σ n W t → bWp (d + 7) 51 [.ref 5] t (bRn fun r6 s4 => (r6 = 2147483647 → fv s4) ∧ (¬ r6 = 2147483647 →
          (l = 0 → bRg (st + 1) ∧ A (2, [.ref 5, .int (bn g), .int (bn l), .int (bn (st + 1)), .int (bn r6)], [], bw s4 5 9 r6)) ∧
          (¬ l = 0 → (l < r6 → bRg (st + 1) ∧ A (2, [.ref 5, .int (bn g), .int (bn l), .int (bn (st + 1)), .int (bn r6)], [], bw s4 5 9 l)) ∧ (¬ l < r6 → bRg (st + 1) ∧ A (2, [.ref 5, .int (bn g), .int (bn l), .int (bn (st + 1)), .int (bn r6)], [], bw s4 5 9 r6))))) := fun W t hW RW => by
        rw [← hW] at K b1 b2 b3 b4 LB
        refine w51 (d := d + 4) b1 RW ?_
        have sl := fun hs => bzLa_sn b1 LB hs
        by_cases z : bzSn W n = -1
        · rw [if_pos z] at K
          rw [z]
          refine ⟨fun _ => K t RW fun b b0 b1' q => ?_, fun y => absurd rfl y⟩
          exact (bzSn_le b1 n (Nat.le_refl _) b b0 b1' q).1 z
        · rw [if_neg z] at K
          have sl := sl z
          have nv : bzNv (bzSn W n) = bzSn W n := by unfold bzNv; rw [if_neg z]
          rw [nv]
          have nx : ∀ v v4, (v = if 0 < l ∧ l < bzSn W n then l else bzSn W n) → bRg (st + 1) ∧ A (2, [.ref 5, .int (bn g), .int (bn l), .int (bn (st + 1)), v4], [], (bw t 5 9 v)) := fun v v4 hv => by
            obtain ⟨t1, a, a0, a1, a2, a3⟩ := bzI_ti b1 l0.1 z
            have eT : bzTi l W (bzSn W n) = zw W 305 0 v := by unfold bzTi; rw [hv]
            rw [eT] at K t1
            have rv : W.1 305 0 + 1 ≤ v ∧ v ≤ 300000 := by
              rw [hv]
              split
              · rename_i hc
                have := Ll hc.1
                have : W.1 305 0 ≠ l := fun e => nl ⟨hc.1, by omega⟩
                omega
              · omega
            have uT : zU [305] W (zw W 305 0 v) := zU_w (by decide)
            have eNe : bzNe n (zw W 305 0 v) = bzNe n W := bzNe_m fun b _ _ => uT 142 (by decide) b
            have n305 : (zw W 305 0 v).1 305 0 = v := zw_e
            have lt : bzNe n W < n := by
              refine Classical.byContradiction fun q => ?_
              have nb := bzNe_b (n := n) (Z := W)
              have := bCnp_full n (show bCnp (fun a => decide (W.1 142 a ≠ -1)) n = n by show bzNe n W = n; omega) a a0 a1
              exact absurd a2.2.2 (of_decide_eq_true this)
            have nk : (n : Int) - bzNe n W ≤ k := by
              rcases hk with h | ⟨h, h2⟩ | h
              · omega
              · have := more h2; omega
              · exact absurd ⟨h.1, h.2.1⟩ nl
            have gz : ∀ b, bzG (zw W 305 0 v) b → bzG W b := fun b q => ⟨by rw [← uT 140 (by decide)]; exact q.1, by rw [← uT 143 (by decide)]; exact q.2.1, by rw [← uT 142 (by decide)]; exact q.2.2⟩
            refine ⟨⟨by omega, by omega⟩, ih _ (bw t 5 9 v) (st + 1) v4 t1 (fun b b0 b1 => by simp only [uT 105 (by decide), uT 106 (by decide)]; exact b2 b b0 b1) (bzCC_q b1 RW (by decide) ⟨by omega, by omega⟩ (fun _ => by omega)) (fun b b0 b1' q => ?_) (fun l1 => ?_) (fun b b0 b1' => ?_) ?_ (by omega) (by omega) K⟩
            · have sb := bzSn_le b1 n (Nat.le_refl _) b b0 b1' (gz b q)
              rw [n305, uT 145 (by decide), uT 146 (by decide)]
              have : v ≤ bzSn W n := by rw [hv]; split <;> omega
              omega
            · rw [n305, hv]
              by_cases c : 0 < l ∧ l < bzSn W n
              · rw [if_pos c]; exact Int.le_refl _
              · rw [if_neg c]; omega
            · rw [n305, bi_ne (by unfold bAi; omega)]
              have := (RW.2.2.2 b b0 b1').2.2.2.2.2.2.2
              omega
            · rw [eNe, n305]
              by_cases c : 0 < l ∧ l < bzSn W n
              · rw [if_pos c] at hv
                exact Or.inr (Or.inr ⟨c.1, hv, by omega⟩)
              · rw [if_neg c] at hv
                refine Or.inr (Or.inl ⟨nk, a, a0, a1, ⟨?_, ?_, ?_⟩, ?_⟩)
                · rw [uT 140 (by decide)]; exact a2.1
                · rw [uT 143 (by decide)]; exact a2.2.1
                · rw [uT 142 (by decide)]; exact a2.2.2
                · rw [uT 145 (by decide), uT 146 (by decide), hv]; exact a3
          exact ⟨fun y => by omega, fun _ => ⟨fun y => nx _ _ (by rw [if_neg (by omega)]), fun y => ⟨fun y2 => nx _ _ (by rw [if_pos ⟨by omega, y2⟩]), fun y2 => nx _ _ (by rw [if_neg (fun q => y2 q.2)])⟩⟩⟩
      refine sq50_17 (bWp_mono _) hA g0 ⟨by omega, by omega⟩ ⟨by omega, by omega⟩ ?_
      rw [e510]
      refine ⟨fun z => w56 (d := d + 1) (rk := rk) IE hrE R2 hsb (fun b b0 b1 => by rw [H2 b b0 b1, rE2]; exact H13 b b0 b1) fun s3 R3 => tail _ s3 (by unfold bzBg; rw [if_pos z]) R3, fun z => tail _ s2 (by unfold bzBg; rw [if_neg z]) R2⟩
    refine ⟨fun z => go (fun y => by omega) v4, fun z => ⟨fun y => go (fun w => by omega) v4, fun y => ?_⟩⟩
    have lm : 0 < l ∧ Z.1 305 0 = l := ⟨by omega, by have := Ll (by omega); omega⟩
    rw [if_pos lm] at K
    exact w55 (d := d + 3) IE R2 fun t Rt => K t Rt (bzCcl_n σ n n).2
theorem w50 (I : bzI σ n Z) (hr : bzRn0 rk n Z) (R : bzCC σ n Z s) (hsb : bi σ 3 3 = bi σ 12 68 ∧ (bi σ 12 68 = 0 ∨ bi σ 12 68 = 1)) (g0 : bRg g) (l0 : 0 ≤ l ∧ l < 1000) (h305 : Z.1 305 0 = 0) (hg : ∀ a, 0 ≤ a → a < (n : Int) → Z.1 143 a = -1) (H13 : ∀ b, 0 ≤ b → b < (n : Int) → bi s (bAi b) 13 < 0) (h : ∀ t, bzCC σ n (bzLp σ n g l 122 Z) t → (∀ b, 0 ≤ b → b < (n : Int) → ¬ bzG (bzLp σ n g l 122 Z) b) → fv t) : bWp (d + 8) 50 [.ref 5, .int (bn g), .int (bn l)] s (bRv fv) := by
  have n120 := I.1.2.1.1
  have neZ := bzNe_b (n := n) (Z := Z)
  refine ⟨rfl, fun A hA => sq50_0 (bWp_mono _) hA g0 ⟨by omega, by omega⟩ ?_⟩
  exact w50L (d := d) (rk := rk) hA hsb g0 l0 122 Z s 0 _ I hr R (fun a a0 a1 q => absurd (hg a a0 a1) q.2.1) (fun y => by omega) (fun b b0 b1 => by rw [h305]; exact H13 b b0 b1) (Or.inl (by omega)) (Int.le_refl _) (by omega) h
/-- a step of one action, of what is needed alone -/
theorem bzCC_y (hF : bFi σ) (O : bzOa n Z) (hk : ∀ b, 0 ≤ b → b < (n : Int) → ∀ K, Z.2.2.2 b = some K → bKl K) (R : bzCC σ n Z s) (D : bzDx x Z Y) (hx : 0 ≤ x → ¬ bzD Z x) (x1 : x < (n : Int)) (F : bzKf (bzPx x) s t) (G : bzCG σ n Y t) (C : bzCh t Y.2.1 Y.2.2.1) (h : 0 ≤ x → bzAs σ Y t x ∧ bzAd σ Y t x) : bzCC σ n Y t :=
  ⟨bzKf_trans R.1 (bzKf_mono F (bzPx_a x1)), G, C, fun b b0 b1 => by
    by_cases y : b = x
    · rw [y] at b0 ⊢; exact h b0
    · exact bzA_o hF O D hx b0 b1 y (fun K q => hk b b0 b1 K q) F (R.2.2.2 b b0 b1)⟩
theorem w63 (I : bzI σ n Z) (R : bzCC σ n Z s) (ng : ∀ b, 0 ≤ b → b < (n : Int) → ¬ bzG Z b) (h : ∀ t, bzCC σ n (bzCo n Z) t → fv t) : bWp (d + 4) 63 [.ref 5] s (bRv fv) := by
  have n120 := I.1.2.1.1
  have nw := I.2.2.2.2.2.1
  have nbz := bzNb_b (n := n) (Z := Z)
  have nez := bzNe_b (n := n) (Z := Z)
  have hF : bFi σ := I.1.1.1
  obtain ⟨hN, hFr⟩ := bzN_l I
  have j9 := I.2.2.2.2.2.2.2.2.2.2.2.2
  have j142 : ∀ a, 0 ≤ a → a < (n : Int) → (-1 ≤ Z.1 142 a ∧ Z.1 142 a ≤ 7) := fun a a0 a1 => (I.2.2.1 a a0 a1).1
  have e59 : bi s 5 9 = Z.1 305 0 := R.2.1.2.2 (305, 9) (by decide)
  have eT : ∀ k : Nat, k ≤ n → zU [139, 142] Z (bzCo k Z) ∧ (bzCo k Z).2 = Z.2 ∧ (∀ b : Int, (k : Int) ≤ b → (bzCo k Z).1 142 b = Z.1 142 b) ∧ ∀ b : Int, 0 ≤ b → b < (k : Int) → (bzCo k Z).1 142 b = if Z.1 140 b ≠ 0 ∧ Z.1 142 b = -1 then 6 else Z.1 142 b := fun k hk => by
    have := bzCo_e j142 j9.2 k hk
    exact ⟨this.1, this.2.1, this.2.2.1, this.2.2.2.1⟩
  -- a write to what is told
  have tell : ∀ (W : bZs) (t : bSt) (i v : Int), zU [139, 142] Z W → W.2 = Z.2 → bzCC σ n W t → 0 ≤ i → i < 12 → bRg v → bzCC σ n (zw W 139 i v) (bw t 24 i v) := fun W t i v uW w2 RW i0 i1 hv => by
    refine bzCC_y (x := -1) hF ⟨n120, fun b b0 b1 => ?_⟩ (fun b b0 b1 K q => bzKl (I.2.1 b b0 b1 K (by rw [← w2]; exact q)).1) RW ⟨zU_w (by decide), fun b _ => ⟨fun e he => zw_a (by
      simp only [List.mem_cons, List.not_mem_nil, or_false] at he
      omega), rfl⟩, by rw [zw_a (by decide)]; exact Int.le_refl _⟩ (fun y => by omega) (by omega) (bzKf_w (Or.inl (bzTb_s (by decide)))) (bzCG_w RW.2.1 (b := 24) (mx := 12) (by decide) i0 hv) (bzCh_w RW.2.2.1 (by decide) (by decide) (by decide) (fun K q => hN K (by rw [← w2]; exact q)) (fun K q => hFr K (by rw [← w2]; exact q))) (fun y => by omega)
    simp only [uW 101 (by decide), uW 102 (by decide), uW 103 (by decide), uW 104 (by decide), uW 105 (by decide), uW 106 (by decide)]
    exact I.1.2.1.2 b b0 b1
  refine ⟨rfl, fun A hA => sq63_0 (bWp_mono _) hA (w141i (n := 12) (bi_rg _ _ _) rfl (by decide) rfl (by decide) (by decide) (by decide) ?_)⟩
  have Lp : ∀ (m k : Nat) (t : bSt) (v2 : Value), k + m = n → bzCC σ n (bzCo k Z) t → A (8, [.ref 5, .int (bn k), v2], [], t) := by
    intro m
    induction m with
    | zero =>
      intro k t v2 hk Rt
      have ek : k = n := by omega
      subst ek
      exact sq63_8 (bWp_mono _) hA ⟨by omega, by omega⟩ ⟨fun y => absurd y (by rw [Rt.2.1.1.1]; omega), fun _ => h t Rt⟩
    | succ m ih =>
      intro k t v2 hk Rt
      have k1 : (k : Int) < (n : Int) := by omega
      have nx := fun t v2 => ih (k + 1) t v2 (by omega)
      have uC : bzCo (k + 1) Z = if (bzCo k Z).1 140 k = 0 then bzCo k Z
        else if (bzCo k Z).1 142 k = -1 then zw (zw (bzCo k Z) 142 k 6) 139 7 ((bzCo k Z).1 139 7 + 1) else zw (bzCo k Z) 139 (1 + (bzCo k Z).1 142 k) ((bzCo k Z).1 139 (1 + (bzCo k Z).1 142 k) + 1) := rfl
      rw [show ((k + 1 : Nat) : Int) = (k : Int) + 1 by omega, uC] at nx
      obtain ⟨uW, w2, c3, c4⟩ := eT k (by omega)
      have hr := (bzCo_e j142 j9.2 k (by omega)).2.2.2.2.2
      have wk := c3 k (Int.le_refl _)
      have jk := j142 k (by omega) k1
      have ngk := ng k (by omega) k1
      generalize bzCo k Z = W at *
      obtain ⟨As, Ad⟩ := Rt.2.2.2 k (by omega) k1
      have e24 : ∀ x, 0 ≤ x → x < 12 → bi t 24 x = W.1 139 x := fun x => Rt.2.1.2.1 (139, 24, 12) (by decide) x
      have e140 : W.1 140 k = Z.1 140 k := uW 140 (by decide) k
      have ngW : ¬ bzG W k := fun q => ngk ⟨by rw [← e140]; exact q.1, by rw [← uW 143 (by decide)]; exact q.2.1, by rw [← wk]; exact q.2.2⟩
      have rk : bRg ((k : Int) + 1) := ⟨by omega, by omega⟩
      refine sq63_8 (bWp_mono _) hA ⟨by omega, by omega⟩ ⟨fun _ => w89r As (by omega) (by omega) ⟨bAi_0, ?_⟩, fun y => absurd (by rw [Rt.2.1.1.1]; omega) y⟩
      have e10 := Ad.1.1
      have id10 : bw t (bAi k) 10 (W.1 142 k) = t := by rw [← e10]; exact bw_id _
      have n10 : bi (bw t (bAi k) 10 6) (bAi k) 10 = 6 := by rw [bi_bw (by decide) (by decide) (by decide), if_pos ⟨rfl, rfl⟩]
      rw [As.2.2.2.2.1, e10, id10, n10, e10]
      refine ⟨fun z => ?_, fun z => ⟨fun z2 => ⟨by decide, ?_⟩, fun z2 => ?_⟩⟩
      · rw [if_pos z] at nx
        exact ⟨rk, nx t _ Rt⟩
      · rw [if_neg z, if_pos z2] at nx
        have b24 : bi (bw t (bAi k) 10 6) 24 (1 + 6) = W.1 139 7 := by rw [bi_ne (by unfold bAi; omega)]; exact e24 7 (by decide) (by decide)
        have r7 := hr 7 (by decide) (by decide)
        refine w54 (d := d + 2) (by decide) (by decide) (by decide) (by rw [b24]; exact ⟨by omega, by omega⟩) ⟨rk, ?_⟩
        rw [b24]
        have R1 : bzCC σ n (zw W 142 k 6) (bw t (bAi k) 10 6) := by
          have nA : ∀ y, y ≠ bAi k → ∀ j, bi (bw t (bAi k) 10 6) y j = bi t y j := fun y hy j => bi_ne hy
          have eA : ∀ j, 0 ≤ j → bi (bw t (bAi k) 10 6) (bAi k) j = if j = 10 then 6 else bi t (bAi k) j := fun j j0 => by rw [bi_bw (by decide) j0 (by decide)]; simp only [true_and]
          have D : bzDx k W (zw W 142 k 6) := ⟨zU_w (by decide), fun b hb => ⟨fun c hc => zw_i hb, rfl⟩, by rw [zw_a (by decide)]; exact Int.le_refl _⟩
          have O : bzOa n W := by
            refine ⟨n120, fun b b0 b1 => ?_⟩
            simp only [uW 101 (by decide), uW 102 (by decide), uW 103 (by decide), uW 104 (by decide), uW 105 (by decide), uW 106 (by decide)]
            exact I.1.2.1.2 b b0 b1
          have nd : ¬ bzD W k := fun q => by unfold bzD at q; omega
          have ng2 : ¬ bzG (zw W 142 k 6) k := fun q => by have := q.2.2; rw [zw_e] at this; omega
          refine bzCC_y (x := k) hF O (fun b b0 b1 K q => bzKl (I.2.1 b b0 b1 K (by rw [← w2]; exact q)).1) Rt D (fun _ => nd) k1 (bzKf_w (Or.inr ⟨by omega, List.mem_cons_self⟩)) (bzCG_s (bzCG_z Rt.2.1 (zU_w (S := [142]) (by decide)) (by decide)) fun b hb j => nA b (fun e => ?_) j) (bzCh_w Rt.2.2.1 (by unfold bAi; omega) (by unfold bAi; omega) (by unfold bzTc bAi; omega) (fun K q => hN K (by rw [← w2]; exact q)) (fun K q => hFr K (by rw [← w2]; exact q))) fun _ => ⟨bzAs_x As D rfl (fun j hj => ?_) (fun j => nA _ (by unfold bAi; omega) j) (fun j _ => nA _ (by unfold bAi bNe; omega) j), ⟨?_, ?_, ?_⟩, ⟨?_, ?_, ?_⟩, fun q => ?_, ⟨fun q => ?_, fun K q => ?_⟩, fun q => ?_, fun q => ?_, ?_⟩
          · rw [e] at hb
            unfold bAi at hb
            simp only [List.mem_cons, List.not_mem_nil, or_false] at hb
            omega
          · simp only [List.mem_cons, List.not_mem_nil, or_false] at hj
            rw [eA j (by omega), if_neg (by omega)]
          · rw [eA 10 (by decide), if_pos rfl, zw_e]
          · rw [eA 11 (by decide), if_neg (by decide), zw_a (by decide)]; exact Ad.1.2.1
          · rw [eA 12 (by decide), if_neg (by decide), zw_a (by decide)]; exact Ad.1.2.2
          · rw [eA 15 (by decide), if_neg (by decide), if_neg (fun q => ng2 q.1), Ad.2.1.1, if_neg (fun q => ngW q.1)]
          · rw [eA 16 (by decide), if_neg (by decide), if_neg (fun q => ng2 q.1), Ad.2.1.2.1, if_neg (fun q => ngW q.1)]
          · rw [eA 17 (by decide), if_neg (by decide), if_neg (fun q => ng2 q.1), Ad.2.1.2.2, if_neg (fun q => ngW q.1)]
          · rw [zw_e] at q; omega
          · rw [nA _ (by unfold bAi bKe; omega), nA _ (by unfold bAi bKe; omega), nA _ (by unfold bAi bKe; omega)]; exact Ad.2.2.2.1.1 q
          · have kk := Ad.2.2.2.1.2 K q
            have lK := bzKl (I.2.1 k (by omega) k1 K (by rw [← w2]; exact q)).1
            exact ⟨bzEk_m kk.1 (fun j _ => nA _ (by unfold bAi bKe; omega) j) (fun j _ _ => nA _ (by unfold bAi bKe; omega) j) (fun j _ _ => nA _ (by unfold bAi bKe; omega) j) ⟨lK.1, lK.2.1⟩, by rw [nA _ (by unfold bAi bKe; omega)]; exact kk.2⟩
          · rw [eA 13 (by decide), if_neg (by decide)] at q
            have T := Ad.2.2.2.2.1 q
            have l := bzKl_z (σ := σ) hF O (by omega : 0 ≤ (k : Int)) k1
            obtain ⟨m1, m2⟩ := bzDx_K (σ := σ) O D (fun _ => nd) (by omega : 0 ≤ (k : Int)) k1 T.1
            refine ⟨m2, ?_, ?_, ?_⟩
            · rw [m1.1]
              exact bzEk_m T.2.1 (fun j _ => nA _ (by unfold bAi bNe; omega) j) (fun j _ _ => nA _ (by unfold bAi bNe; omega) j) (fun j _ _ => nA _ (by unfold bAi bNe; omega) j) ⟨l.1, l.2.1⟩
            · rw [nA _ (by unfold bAi bNe; omega), m1.2.1]; exact T.2.2.1
            · rw [nA _ (by unfold bAi bNe; omega), m1.2.2.1]; exact T.2.2.2
          · rw [eA 13 (by decide), if_neg (by decide)]
            rw [zw_a (by decide)] at q
            exact Ad.2.2.2.2.2.1 q
          · rw [eA 13 (by decide), if_neg (by decide), zw_a (by decide)]; exact Ad.2.2.2.2.2.2
        have e7 : (zw W 142 k 6).1 139 7 = W.1 139 7 := zw_a (by decide)
        exact nx _ _ (tell _ _ 7 _ (zU_trans uW (zU_w (by decide))) w2 R1 (by decide) (by decide) ⟨by omega, by omega⟩)
      · rw [if_neg z, if_neg z2] at nx
        have b24 : bi t 24 (1 + W.1 142 k) = W.1 139 (1 + W.1 142 k) := e24 _ (by omega) (by omega)
        have r7 := hr (1 + W.1 142 k) (by omega) (by omega)
        refine ⟨⟨by omega, by omega⟩, w54 (d := d + 2) (by omega) (by omega) (by decide) (by rw [b24]; exact ⟨by omega, by omega⟩) ⟨rk, ?_⟩⟩
        rw [b24]
        exact nx _ _ (tell _ _ _ _ uW w2 Rt (by omega) (by omega) ⟨by omega, by omega⟩)
  rw [e59]
  exact Lp n 0 _ _ (by omega) (tell Z s 0 _ zU_refl rfl R (by decide) (by decide) ⟨by omega, by omega⟩)
end

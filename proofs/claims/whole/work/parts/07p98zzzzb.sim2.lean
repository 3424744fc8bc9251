/-! BUILD, 24: the reference: time passes, as a whole; what became of all is counted -/
/-- the model of a build's time: the loop, the count -/
def bzAl (σ : bSt) (n : Nat) (g l : Int) (Z : bZs) : bZs := bzCo n (bzLp σ n g l 122 Z)
section
variable {d : Nat} {σ s t r : bSt} {f : Int → bSt → Prop} {fv : bSt → Prop} {Z Y : bZs} {a b e g i j l x v w lo hi : Int} {n c B : Nat} {rk : Int → Nat}
/-- what counting changes -/
theorem bzCo_e (h : ∀ a, 0 ≤ a → a < (n : Int) → (-1 ≤ Z.1 142 a ∧ Z.1 142 a ≤ 7)) (h9 : ∀ x, x ≠ 9 → x ≠ 10 → x ≠ 11 → Z.1 139 x = 0) : ∀ k : Nat, k ≤ n → zU [139, 142] Z (bzCo k Z) ∧ (bzCo k Z).2 = Z.2 ∧ (∀ b : Int, (k : Int) ≤ b → (bzCo k Z).1 142 b = Z.1 142 b) ∧ (∀ b : Int, 0 ≤ b → b < (k : Int) → (bzCo k Z).1 142 b = if Z.1 140 b ≠ 0 ∧ Z.1 142 b = -1 then 6 else Z.1 142 b) ∧ (∀ x, 9 ≤ x → (bzCo k Z).1 139 x = Z.1 139 x) ∧ (∀ x, 1 ≤ x → x ≤ 8 → 0 ≤ (bzCo k Z).1 139 x ∧ (bzCo k Z).1 139 x ≤ k)
  | 0, _ => by
    unfold bzCo
    refine ⟨zU_w (by decide), rfl, fun b _ => zw_a (by decide), fun b b0 b1 => by omega, fun x hx => zw_i (by omega), fun x x0 x1 => ?_⟩
    rw [zw_i (by omega), h9 x (by omega) (by omega) (by omega)]
    omega
  | k + 1, hk => by
    obtain ⟨h1, h2, h3, h4, h5, h6⟩ := bzCo_e h h9 k (by omega)
    have e140 : (bzCo k Z).1 140 k = Z.1 140 k := h1 140 (by decide) k
    have e142 : (bzCo k Z).1 142 k = Z.1 142 k := h3 k (Int.le_refl _)
    have hr := h k (by omega) (by omega)
    unfold bzCo
    generalize bzCo k Z = W at *
    by_cases z : W.1 140 k = 0
    · rw [if_pos z]
      refine ⟨h1, h2, fun b hb => h3 b (by omega), fun b b0 b1 => ?_, h5, fun x x0 x1 => by have := h6 x x0 x1; omega⟩
      by_cases y : b = k
      · rw [y, e142, if_neg (fun q => q.1 (by rw [← e140]; exact z))]
      · exact h4 b b0 (by omega)
    · rw [if_neg z]
      by_cases z2 : W.1 142 k = -1
      · rw [if_pos z2]
        refine ⟨zU_trans h1 (zU_trans (zU_w (by decide)) (zU_w (by decide))), h2, fun b hb => ?_, fun b b0 b1 => ?_, fun x hx => ?_, fun x x0 x1 => ?_⟩
        · rw [zw_a (by decide), zw_i (by omega)]; exact h3 b (by omega)
        · by_cases y : b = k
          · rw [y, zw_a (by decide), zw_e, if_pos ⟨by rw [← e140]; exact z, by rw [← e142]; exact z2⟩]
          · rw [zw_a (by decide), zw_i y]; exact h4 b b0 (by omega)
        · rw [zw_i (by omega), zw_a (by decide)]; exact h5 x hx
        · have := h6 x x0 x1
          by_cases y : x = 7
          · rw [y, zw_e]; rw [y] at this; omega
          · rw [zw_i y, zw_a (by decide)]; omega
      · rw [if_neg z2]
        refine ⟨zU_trans h1 (zU_w (by decide)), h2, fun b hb => ?_, fun b b0 b1 => ?_, fun x hx => ?_, fun x x0 x1 => ?_⟩
        · rw [zw_a (by decide)]; exact h3 b (by omega)
        · rw [zw_a (by decide)]
          by_cases y : b = k
          · rw [y, e142, if_neg (fun q => z2 (by rw [e142]; exact q.2))]
          · exact h4 b b0 (by omega)
        · rw [zw_i (by omega)]; exact h5 x hx
        · have := h6 x x0 x1
          by_cases y : x = 1 + W.1 142 k
          · rw [y, zw_e]; rw [y] at this; omega
          · rw [zw_i y]; omega
/-- the loop keeps what holds -/
theorem bzI_lp (l0 : 0 ≤ l) : ∀ (k : Nat) (Z : bZs), bzI σ n Z → bzRn0 rk n Z → bzI σ n (bzLp σ n g l k Z)
  | 0, Z, I, _ => I
  | k + 1, Z, I, hr => by
    have IE := bzI_ends (g := g) I n (Nat.le_refl _)
    have hrE := bzRn0_ends (g := g) hr I n (Nat.le_refl _)
    obtain ⟨b1, b2, _, _⟩ := bzI_bg IE hrE
    unfold bzLp
    by_cases z : 0 < l ∧ Z.1 305 0 = l
    · rw [if_pos z]; exact bzI_ccl IE n (Nat.le_refl _)
    · rw [if_neg z]
      by_cases z2 : bzSn (bzBg σ n (bzEnds σ g n Z)) n = -1
      · rw [if_pos z2]; exact b1
      · rw [if_neg z2]
        have uT : zU [305] (bzBg σ n (bzEnds σ g n Z)) (bzTi l (bzBg σ n (bzEnds σ g n Z)) (bzSn (bzBg σ n (bzEnds σ g n Z)) n)) := zU_w (by decide)
        exact bzI_lp l0 k _ (bzI_ti b1 l0 z2).1 (fun b b0 b1 => by simp only [uT 105 (by decide), uT 106 (by decide)]; exact b2 b b0 b1)
theorem r288 (I : bzI σ n Z) (hr : bzRn0 rk n Z) (R : bzRR B σ n Z s) (hB : B ≤ 1000000) (g0 : bRg g) (l0 : 0 ≤ l ∧ l < 1000) (k : ∀ t, bzR0 σ n (bzAl σ n g l Z) t → bzRf s t → bi t 12 73 ≤ B + 360 → fv t) : bWp (d + 10) 288 [.ref 12, .int (bn g), .int (bn l)] s (bRv fv) := by
  have n120 := I.1.2.1.1
  have neZ := bzNe_b (n := n) (Z := Z)
  refine ⟨rfl, fun A hA => sq288_0 (bWp_mono _) hA g0 ⟨by omega, by omega⟩ ?_⟩
  refine r288L (d := d) (rk := rk) hA hB g0 l0 122 Z s _ _ _ _ I hr R (Or.inl (by omega)) rfl fun t v4 v5 v6 v7 R1 F1 hu => ?_
  have I1 := bzI_lp (g := g) l0.1 122 Z I hr
  have kk := k
  unfold bzAl at kk
  generalize bzLp σ n g l 122 Z = W at *
  have neW := bzNe_b (n := n) (Z := W)
  have nbW := bzNb_b (n := n) (Z := W)
  have j142 : ∀ a, 0 ≤ a → a < (n : Int) → (-1 ≤ W.1 142 a ∧ W.1 142 a ≤ 7) := fun a a0 a1 => (I1.2.2.1 a a0 a1).1
  have j9 := I1.2.2.2.2.2.2.2.2.2.2.2.2.2
  have now := I1.2.2.2.2.2.1
  refine sq288_2 (bWp_mono _) hA g0 ⟨by omega, by omega⟩ (by decide) ⟨fun _ => ?_, fun y => absurd rfl y⟩
  have e105 : bi t 12 105 = W.1 305 0 := R1.1.2.2.1.2.1
  rw [e105]
  have Lp : ∀ (m j : Nat) (t2 : bSt) (v5 v6 v7 : Value), bUnl v5 = v5 → j + m = n → bzR0 σ n (bzCo j W) t2 → bzRf s t2 → bi t2 12 73 = bi t 12 73 → A (127, [.ref 12, .int (bn g), .int (bn l), .int (bn 0), .int (bn j), v5, v6, v7], [], t2) := by
    intro m
    induction m with
    | zero =>
      intro j t2 v5 v6 v7 hu hj R2 F2 c2
      have ej : j = n := by omega
      subst ej
      refine sq288_127 (bWp_mono _) hA ⟨by omega, by omega⟩ ?_
      rw [R2.1.2.2.1]
      exact ⟨fun z => absurd z (Int.lt_irrefl _), fun _ => kk t2 R2 F2 (by have := R1.2.2; omega)⟩
    | succ m ih =>
      intro j t2 v5 v6 v7 hu hj R2 F2 c2
      have j1 : (j : Int) < (n : Int) := by omega
      obtain ⟨h1, h2, h3, h4, h5, h6⟩ := bzCo_e j142 j9 j (by omega)
      have hjr := j142 j (by omega) j1
      have x142 : (bzCo j W).1 142 j = W.1 142 j := h3 j (Int.le_refl _)
      have nx := fun t2 => ih (j + 1) t2 v5 v6 v7 hu (by omega)
      have uC : bzCo (j + 1) W = if (bzCo j W).1 140 j = 0 then bzCo j W
        else if (bzCo j W).1 142 j = -1 then zw (zw (bzCo j W) 142 j 6) 139 7 ((bzCo j W).1 139 7 + 1) else zw (bzCo j W) 139 (1 + (bzCo j W).1 142 j) ((bzCo j W).1 139 (1 + (bzCo j W).1 142 j) + 1) := rfl
      rw [uC, show ((j + 1 : Nat) : Int) = (j : Int) + 1 by omega] at nx
      have x7 := h6 7 (by decide) (by decide)
      have xs := fun (h : W.1 142 j ≠ -1) => h6 (1 + W.1 142 j) (by omega) (by omega)
      rw [← x142] at xs hjr
      generalize bzCo j W = V at *
      have e140 : bi t2 140 j = V.1 140 j := (R2.1.2.2.2 j (by omega) j1).1 140 (by decide)
      have e142 : bi t2 142 j = V.1 142 j := R2.2.2.1.1 142 (by decide) j (by omega)
      have id142 : bw t2 142 j (V.1 142 j) = t2 := by rw [← e142]; exact bw_id _
      have e9 : ∀ x, 0 ≤ x → bi t2 139 x = V.1 139 x := fun x x0 => R2.2.2.1.1 139 (by decide) x x0
      refine sq288_127 (bWp_mono _) hA ⟨by omega, by omega⟩ ?_
      rw [R2.1.2.2.1, e140, e142, e9 7 (by decide), id142]
      refine ⟨fun _ => ⟨⟨by omega, by omega⟩, fun z => ⟨fun _ => ⟨⟨by omega, by omega⟩, ?_⟩, fun y => absurd z y⟩, fun z => ⟨fun z2 => ⟨fun y => absurd y z, fun _ => ⟨⟨by omega, by omega⟩, ⟨by omega, by omega⟩, ?_⟩⟩, fun z2 => ⟨fun y => absurd y z, fun _ => ?_⟩⟩⟩, fun z => absurd j1 z⟩
      · rw [if_pos z] at nx
        exact nx t2 R2 F2 c2
      · rw [if_neg z, if_pos z2] at nx
        exact nx _ (bzR0_w (bzR0_w R2 (by decide) (by omega) (by decide)) (by decide) (by decide) ⟨by omega, by omega⟩) (bzRf_trans (bzRf_trans F2 (bzRf_w (by decide))) (bzRf_w (by decide))) (by rw [bi_ne (by decide), bi_ne (by decide)]; exact c2)
      · rw [if_neg z, if_neg z2] at nx
        have q := xs z2
        rw [e9 _ (by omega)]
        exact ⟨⟨by omega, by omega⟩, ⟨by omega, by omega⟩, ⟨by omega, by omega⟩, ⟨by omega, by omega⟩, nx _ (bzR0_w R2 (by decide) (by omega) ⟨by omega, by omega⟩) (bzRf_trans F2 (bzRf_w (by decide))) (by rw [bi_ne (by decide)]; exact c2)⟩
  exact Lp n 0 _ v5 v6 v7 hu (by omega) (bzR0_w R1.1 (by decide) (by decide) ⟨by omega, by omega⟩) (bzRf_trans F1 (bzRf_w (by decide))) (bi_ne (by decide))
end

/-! BUILD, 52: the model: a worker runs only while its run goes on -/
def bzWk (n : Nat) (Z : bZs) : Prop := ∀ w, 0 ≤ w → w < 12 → Z.1 138 w ≠ 0 → ∃ a, 0 ≤ a ∧ a < (n : Int) ∧ bzG Z a ∧ Z.1 148 a = w
section
variable {σ : bSt} {Z Y X W : bZs} {a b g i j k l w v x : Int} {n m : Nat} {rk : Int → Nat} {K : bKy}
theorem bzLv_w (h : Z.1 148 a ≠ -1) : (bzLv Z a v).1 138 (Z.1 148 a) = 0 := by
  unfold bzLv
  rw [if_neg h, zw_a (by decide), zw_a (by decide), zw_e]
theorem bzFin_w (I : bzI σ n Z) (hg : bzG Z a) (a0 : 0 ≤ a) (a1 : a < (n : Int)) (h : Z.1 148 a ≠ -1) : (bzFin σ g Z a).1 138 (Z.1 148 a) = 0 := by
  have j := I.2.2.2.1 a a0 a1
  unfold bzFin
  by_cases h7 : Z.1 147 a ≠ 0
  · exact absurd (j.2.2.2.1 h7).2.1 h
  rw [if_neg h7]
  have run : ∀ v y, (if bzV σ Z a = -1 then bzFl g (bzQ σ Z a v) a else bzRn σ (bzQ σ Z a v) a y (bzX σ Z a) (bzK σ Z a)).1 138 (Z.1 148 a) = 0 := fun v y => by
    have q : (bzQ σ Z a v).1 138 (Z.1 148 a) = 0 := by
      unfold bzQ
      rw [zw_a (by decide)]
      exact bzLv_w h
    generalize bzQ σ Z a v = V at *
    by_cases hv : bzV σ Z a = -1
    · rw [if_pos hv, (bzFl_e (g := g) (Z := V) (a := a)).1 138 (by decide)]
      unfold bzE
      rw [zw_a (by decide), zw_a (by decide)]
      exact q
    · rw [if_neg hv]
      have dn : ∀ st, (bzDn V a st (bzK σ Z a)).1 138 (Z.1 148 a) = 0 := fun st => by
        rw [(bzDn_e (Z := V) (a := a) (v := st) (K := bzK σ Z a)).1 138 (by decide)]
        exact q
      have pf : ∀ (X : bZs) c j, (bzPf X (bzK σ Z a)).1 c j = X.1 c j := fun _ _ _ => rfl
      unfold bzRn
      by_cases c1 : bi σ 12 87 ≠ 0 ∧ bzX σ Z a = 0
      · rw [if_pos c1]
        by_cases c2 : y = 1
        · rw [if_pos c2, zw_a (by decide), zw_a (by decide), pf]; exact dn 3
        · rw [if_neg c2, zw_a (by decide), pf]; exact dn 4
      · rw [if_neg c1]
        by_cases c2 : y = 1
        · rw [if_pos c2, zw_a (by decide)]; exact dn 3
        · rw [if_neg c2]; exact dn 4
  by_cases h2 : Z.1 145 a = Z.1 305 0
  · rw [if_pos h2]; exact run _ _
  · rw [if_neg h2]; exact run _ _
/-- an end keeps it -/
theorem bzWk_fe (h : bzWk n Z) (fe : bzFe σ n a Z Y) (hw : Z.1 148 a ≠ -1 → Y.1 138 (Z.1 148 a) = 0) : bzWk n Y := fun w w0 w1 hy => by
  have hz : Z.1 138 w ≠ 0 := by
    rcases (fe.2.2.2.2.1 w).1 with q | q
    · rw [← q]; exact hy
    · exact absurd q hy
  obtain ⟨b, b0, b1, gb, eb⟩ := h w w0 w1 hz
  by_cases e : b = a
  · rw [e] at eb
    exact absurd (by rw [← eb]; exact hw (by omega)) hy
  · have D := bzFe_dx fe
    exact ⟨b, b0, b1, ⟨by rw [D.1 140 (by decide)]; exact gb.1, by rw [(D.2.1 b e).1 143 (by decide)]; exact gb.2.1, by rw [(D.2.1 b e).1 142 (by decide)]; exact gb.2.2⟩, by rw [(D.2.1 b e).1 148 (by decide)]; exact eb⟩
theorem bzWk_ends (I : bzI σ n Z) (h : bzWk n Z) : ∀ k : Nat, k ≤ n → bzWk n (bzEnds σ g k Z)
  | 0, _ => h
  | k + 1, hk => by
    have ih := bzWk_ends I h k (by omega)
    have Ik := bzI_ends (g := g) I k (by omega)
    unfold bzEnds
    generalize bzEnds σ g k Z = W at *
    by_cases z : bzG W k ∧ (W.1 145 k = W.1 305 0 ∨ W.1 146 k = W.1 305 0)
    · rw [if_pos z]
      exact bzWk_fe ih (bzFin_fe (g := g) Ik z.1 (by omega) (by omega)) (bzFin_w Ik z.1 (by omega) (by omega))
    · rw [if_neg z]; exact ih
theorem bzWk_ccl (I : bzI σ n Z) (h : bzWk n Z) : ∀ k : Nat, k ≤ n → bzWk n (bzCcl k Z)
  | 0, _ => h
  | k + 1, hk => by
    have ih := bzWk_ccl I h k (by omega)
    unfold bzCcl
    generalize bzCcl k Z = W at *
    by_cases z : bzG W k
    · rw [if_pos z]
      refine bzWk_fe (σ := σ) ih bzLv_fe fun hw => ?_
      unfold bzE
      rw [zw_a (by decide), zw_a (by decide)]
      exact bzLv_w hw
    · rw [if_neg z]; exact ih
/-- a beginning takes its own worker alone -/
theorem bzSt_w (rd : bzRd Z a) (h142 : Z.1 142 a = -1) (n0 : 0 ≤ Z.1 305 0) : ∀ w, (bzSt σ Z a).1 138 w = Z.1 138 w ∨ (w = (bzSt σ Z a).1 148 a ∧ bzG (bzSt σ Z a) a) := by
  intro w
  have e1 : ∀ c, c ≠ 143 → ∀ j, (bzBe Z a).1 c j = Z.1 c j := fun c hc j => zw_a hc
  unfold bzSt
  by_cases q1 : Z.2.2.2 a = some (bzK σ Z a)
  · rw [if_pos q1]
    unfold bzE
    rw [zw_a (by decide), zw_a (by decide), e1 138 (by decide)]
    exact Or.inl rfl
  rw [if_neg q1]
  by_cases q2 : bzK σ Z a ∈ Z.2.1
  · rw [if_pos q2]
    have e : (bzH (bzE (bzMv (bzBe Z a) (bzK σ Z a)) a 1) a (bzK σ Z a)).1 138 w = Z.1 138 w := by
      show (zw (bzE (bzMv (bzBe Z a) (bzK σ Z a)) a 1) 112 a (bKv (bzK σ Z a))).1 138 w = _
      rw [zw_a (by decide)]
      unfold bzE
      rw [zw_a (by decide), zw_a (by decide)]
      exact e1 138 (by decide) w
    exact Or.inl e
  rw [if_neg q2]
  by_cases q3 : bi σ 12 87 ≠ 0 ∧ bzK σ Z a ∈ Z.2.2.1
  · rw [if_pos q3, zw_a (by decide), zw_a (by decide), e1 138 (by decide)]
    exact Or.inl rfl
  rw [if_neg q3]
  have r1 : ∀ V, V = bzR1 σ (bzBe Z a) a → V.1 138 w = Z.1 138 w ∨ (w = V.1 148 a ∧ V.1 140 a = Z.1 140 a ∧ V.1 143 a = Z.1 305 0 ∧ V.1 142 a = Z.1 142 a) := fun V hV => by
    unfold bzR1 at hV
    by_cases pk : bzPk σ (bzBe Z a) a = -1
    · rw [if_pos pk] at hV
      rw [hV]; exact Or.inl (e1 138 (by decide) w)
    · rw [if_neg pk] at hV
      generalize bzPk σ (bzBe Z a) a = p at *
      unfold bzRh at hV
      have bu := (bzB_u (σ := σ) 17 (bzTk (bzBe Z a) a p) a).1
      rw [hV, zw_a (by decide), bu 138 (by decide), zw_a (by decide), bu 148 (by decide), zw_a (by decide), bu 140 (by decide), zw_a (by decide), bu 143 (by decide), zw_a (by decide), bu 142 (by decide)]
      unfold bzTk
      rw [zw_w]
      by_cases e : w = p
      · refine Or.inr ⟨by rw [e, zw_a (by decide), zw_e], ?_, ?_, ?_⟩
        · rw [zw_a (by decide), zw_a (by decide), e1 140 (by decide)]
        · rw [zw_a (by decide), zw_a (by decide)]; exact zw_e
        · rw [zw_a (by decide), zw_a (by decide), e1 142 (by decide)]
      · rw [if_neg (fun y => e y.2), zw_a (by decide), e1 138 (by decide)]
        exact Or.inl rfl
  have k := r1 _ rfl
  unfold bzRun
  have go : ∀ V, V = bzR1 σ (bzBe Z a) a → bzG V a ∨ True := fun _ _ => Or.inr trivial
  by_cases bo : bzBo σ (bzBe Z a) a
  · rw [if_pos bo, zw_a (by decide), zw_a (by decide)]
    rcases k with k | ⟨k1, k2, k3, k4⟩
    · exact Or.inl k
    · exact Or.inr ⟨k1, by rw [zw_a (by decide), k2]; exact rd.1, by rw [zw_a (by decide), k3]; omega, by rw [zw_a (by decide), k4]; exact h142⟩
  · rw [if_neg bo]
    rcases k with k | ⟨k1, k2, k3, k4⟩
    · exact Or.inl k
    · exact Or.inr ⟨k1, by rw [k2]; exact rd.1, by rw [k3]; omega, by rw [k4]; exact h142⟩
theorem bzWk_st (I : bzI σ n Z) (hr : bzRn0 rk n Z) (rd : bzRd Z a) (cn : bzCn σ Z a) (a0 : 0 ≤ a) (a1 : a < (n : Int)) (h : bzWk n Z) : bzWk n (bzSt σ Z a) := fun w w0 w1 hy => by
  have z142 : Z.1 142 a = -1 := Classical.byContradiction fun q => (I.2.2.1 a a0 a1).2.1 q rd.2.1
  have nw := I.2.2.2.2.2.1
  rcases bzSt_w (σ := σ) rd z142 nw.1 w with q | ⟨q, q2⟩
  · rw [q] at hy
    obtain ⟨b, b0, b1, gb, eb⟩ := h w w0 w1 hy
    have e : b ≠ a := fun e => by rw [e] at gb; exact gb.2.1 rd.2.1
    have D := bzSe_dx (bzSt_se I hr rd cn a0 a1)
    exact ⟨b, b0, b1, ⟨by rw [D.1 140 (by decide)]; exact gb.1, by rw [(D.2.1 b e).1 143 (by decide)]; exact gb.2.1, by rw [(D.2.1 b e).1 142 (by decide)]; exact gb.2.2⟩, by rw [(D.2.1 b e).1 148 (by decide)]; exact eb⟩
  · exact ⟨a, a0, a1, q2, q.symm⟩
theorem bzWk_bgs {σ : bSt} {n : Nat} {rk : Int → Nat} : ∀ (k : Nat) (Z : bZs), bzI σ n Z → bzRn0 rk n Z → bzWk n Z → bzWk n (bzBgs σ n k Z)
  | 0, Z, _, _, h => h
  | k + 1, Z, I, hr, h => by
    unfold bzBgs
    by_cases z : bzNx σ Z n = -1
    · rw [if_pos z]; exact h
    · rw [if_neg z]
      have q := (bzNx_rg (σ := σ) (Z := Z) n).resolve_left z
      obtain ⟨i1, i2, _⟩ := bzI_st I hr q.2.2.1 q.2.2.2 q.1 q.2.1
      exact bzWk_bgs k _ i1 i2 (bzWk_st I hr q.2.2.1 q.2.2.2 q.1 q.2.1 h)
/-- at the end of all none is busy whose run does not go on -/
theorem bzWk_lp {σ : bSt} {n : Nat} {rk : Int → Nat} {g l : Int} (l0 : 0 ≤ l) : ∀ (k : Nat) (Z : bZs), bzI σ n Z → bzRn0 rk n Z → bzWk n Z → bzWk n (bzLp σ n g l k Z)
  | 0, Z, _, _, h => h
  | k + 1, Z, I, hr, h => by
    have IE := bzI_ends (g := g) I n (Nat.le_refl _)
    have hrE := bzRn0_ends (g := g) hr I n (Nat.le_refl _)
    have WE := bzWk_ends (g := g) I h n (Nat.le_refl _)
    obtain ⟨b1, b2, _, _⟩ := bzI_bg IE hrE
    have WB : bzWk n (bzBg σ n (bzEnds σ g n Z)) := by
      unfold bzBg
      by_cases z : (bzEnds σ g n Z).1 306 0 = 0
      · rw [if_pos z]; exact bzWk_bgs n _ IE hrE WE
      · rw [if_neg z]; exact WE
    unfold bzLp
    by_cases z : 0 < l ∧ Z.1 305 0 = l
    · rw [if_pos z]; exact bzWk_ccl IE WE n (Nat.le_refl _)
    · rw [if_neg z]
      by_cases z2 : bzSn (bzBg σ n (bzEnds σ g n Z)) n = -1
      · rw [if_pos z2]; exact WB
      · rw [if_neg z2]
        have uT : zU [305] (bzBg σ n (bzEnds σ g n Z)) (bzTi l (bzBg σ n (bzEnds σ g n Z)) (bzSn (bzBg σ n (bzEnds σ g n Z)) n)) := zU_w (by decide)
        refine bzWk_lp l0 k _ (bzI_ti b1 l0 z2).1 (fun b b0 b1 => by simp only [uT 105 (by decide), uT 106 (by decide)]; exact b2 b b0 b1) fun w w0 w1 hy => ?_
        rw [uT 138 (by decide)] at hy
        obtain ⟨b, b0, b1', gb, eb⟩ := WB w w0 w1 hy
        exact ⟨b, b0, b1', ⟨by rw [uT 140 (by decide)]; exact gb.1, by rw [uT 143 (by decide)]; exact gb.2.1, by rw [uT 142 (by decide)]; exact gb.2.2⟩, by rw [uT 148 (by decide)]; exact eb⟩
end

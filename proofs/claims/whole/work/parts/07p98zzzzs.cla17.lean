/-! BUILD, 41: the class: time passes, as a whole -/
/-- ends lie ahead -/
def bzLa (n : Nat) (Z : bZs) (c : Int) : Prop := ∀ a, 0 ≤ a → a < (n : Int) → bzG Z a → (Z.1 145 a = -1 ∨ Z.1 305 0 + c ≤ Z.1 145 a) ∧ (Z.1 146 a = -1 ∨ Z.1 305 0 + c ≤ Z.1 146 a)
section
variable {d : Nat} {σ s t r u : bSt} {f : Int → bSt → Prop} {fa : Nat → bSt → Prop} {fv : bSt → Prop} {a b g i j k l x y v w p st : Int} {c e e0 q m n z : Nat} {K M : bKy} {L N F : List bKy} {Z Y X W : bZs} {S : List Nat} {T U : Int → Bool} {rk : Int → Nat}
theorem bzLa_ends (I : bzI σ n Z) (h : bzLa n Z 0) : ∀ k : Nat, k ≤ n → bzLa n (bzEnds σ g k Z) 0 ∧ ∀ b : Int, 0 ≤ b → b < (k : Int) → bzG (bzEnds σ g k Z) b → (bzEnds σ g k Z).1 145 b ≠ (bzEnds σ g k Z).1 305 0 ∧ (bzEnds σ g k Z).1 146 b ≠ (bzEnds σ g k Z).1 305 0
  | 0, _ => ⟨h, fun b b0 b1 => by omega⟩
  | k + 1, hk => by
    obtain ⟨h1, h2⟩ := bzLa_ends I h k (by omega)
    have Ik := bzI_ends (g := g) I k (by omega)
    unfold bzEnds
    generalize bzEnds σ g k Z = W at *
    by_cases z : bzG W k ∧ (W.1 145 k = W.1 305 0 ∨ W.1 146 k = W.1 305 0)
    · rw [if_pos z]
      have fe := bzFin_fe (g := g) Ik z.1 (by omega) (by omega)
      have D := bzFe_dx fe
      have e305 := fe.1 305 (by decide) 0
      have ng : ¬ bzG (bzFin σ g W k) k := fun q => by
        have := q.2.2
        rcases fe.2.2.1 with ⟨w, _⟩ | ⟨w, _⟩ <;> omega
      have gz : ∀ b : Int, b ≠ k → bzG (bzFin σ g W k) b → bzG W b := fun b hb q => ⟨by rw [← D.1 140 (by decide)]; exact q.1, by rw [← (D.2.1 b hb).1 143 (by decide)]; exact q.2.1, by rw [← (D.2.1 b hb).1 142 (by decide)]; exact q.2.2⟩
      refine ⟨fun b b0 b1 q => ?_, fun b b0 b1 q => ?_⟩
      · by_cases y : b = k
        · rw [y] at q; exact absurd q ng
        · rw [e305, (D.2.1 b y).1 145 (by decide), (D.2.1 b y).1 146 (by decide)]
          exact h1 b b0 b1 (gz b y q)
      · by_cases y : b = k
        · rw [y] at q; exact absurd q ng
        · rw [e305, (D.2.1 b y).1 145 (by decide), (D.2.1 b y).1 146 (by decide)]
          exact h2 b b0 (by omega) (gz b y q)
    · rw [if_neg z]
      refine ⟨h1, fun b b0 b1 q => ?_⟩
      by_cases y : b = k
      · rw [y] at q ⊢
        exact ⟨fun w => z ⟨q, Or.inl w⟩, fun w => z ⟨q, Or.inr w⟩⟩
      · exact h2 b b0 (by omega) q
theorem bzLa_e1 (I : bzI σ n Z) (h : bzLa n Z 0) : bzLa n (bzEnds σ g n Z) 1 := fun b b0 b1 q => by
  obtain ⟨h1, h2⟩ := bzLa_ends (g := g) I h n (Nat.le_refl _)
  have a1 := h1 b b0 b1 q
  have a2 := h2 b b0 b1 q
  omega
theorem bzLa_st (I : bzI σ n Z) (hr : bzRn0 rk n Z) (rd : bzRd Z a) (cn : bzCn σ Z a) (a0 : 0 ≤ a) (a1 : a < (n : Int)) (h : bzLa n Z 1) : bzLa n (bzSt σ Z a) 1 := by
  have se := bzSt_se I hr rd cn a0 a1
  have D := bzSe_dx se
  have e305 : (bzSt σ Z a).1 305 0 = Z.1 305 0 := se.1 305 (by decide) 0
  intro b b0 b1 q
  by_cases y : b = a
  · rw [y] at q ⊢
    rw [e305]
    have z2 := (I.2.2.2.1 a a0 a1).2.2.1 rd.2.1
    have lat := I.1.1.2.2
    have du := (I.1.2.2.1 a a0 a1 rd.1).2.2.2.2.1
    have e1 : ∀ c, c ≠ 143 → ∀ j, (bzBe Z a).1 c j = Z.1 c j := fun c hc j => zw_a hc
    unfold bzSt at q ⊢
    by_cases q1 : Z.2.2.2 a = some (bzK σ Z a)
    · rw [if_pos q1] at q
      have w := q.2.2
      unfold bzE at w
      rw [zw_a (by decide), zw_e] at w
      omega
    rw [if_neg q1] at q ⊢
    by_cases q2 : bzK σ Z a ∈ Z.2.1
    · rw [if_pos q2] at q
      have w := q.2.2
      have e : (bzH (bzE (bzMv (bzBe Z a) (bzK σ Z a)) a 1) a (bzK σ Z a)).1 142 a = 1 := by
        show (zw (bzE (bzMv (bzBe Z a) (bzK σ Z a)) a 1) 112 a (bKv (bzK σ Z a))).1 142 a = 1
        rw [zw_a (by decide)]
        unfold bzE
        rw [zw_a (by decide), zw_e]
      rw [e] at w
      omega
    rw [if_neg q2] at q ⊢
    by_cases q3 : bi σ 12 87 ≠ 0 ∧ bzK σ Z a ∈ Z.2.2.1
    · rw [if_pos q3, zw_a (by decide), zw_a (by decide), e1 145 (by decide), zw_e]
      exact ⟨Or.inl z2.1, Or.inr (by omega)⟩
    rw [if_neg q3] at q ⊢
    -- a run
    have r1 : ∀ W, W = bzR1 σ (bzBe Z a) a → (W.1 145 a = -1 ∨ Z.1 305 0 + 1 ≤ W.1 145 a) ∧ W.1 146 a = -1 := fun W hW => by
      unfold bzR1 at hW
      by_cases pk : bzPk σ (bzBe Z a) a = -1
      · rw [if_pos pk] at hW
        rw [hW, e1 145 (by decide), e1 146 (by decide)]
        exact ⟨Or.inl z2.1, z2.2.1⟩
      · rw [if_neg pk] at hW
        generalize bzPk σ (bzBe Z a) a = pw at *
        unfold bzRh at hW
        have tk : ∀ c, c ≠ 138 → c ≠ 148 → c ≠ 143 → ∀ j, (bzTk (bzBe Z a) a pw).1 c j = Z.1 c j := fun c h1 h2 h3 j => by unfold bzTk; rw [zw_a h1, zw_a h2, e1 c h3]
        have bu := bzB_u (σ := σ) 17 (bzTk (bzBe Z a) a pw) a
        have O1 : bzOz σ n (bzTk (bzBe Z a) a pw) := by
          refine ⟨⟨I.1.2.1.1, fun b b0 b1 => ?_⟩, fun b b0 b1 => ?_⟩
          · simp only [tk 101 (by decide) (by decide) (by decide), tk 102 (by decide) (by decide) (by decide), tk 103 (by decide) (by decide) (by decide), tk 104 (by decide) (by decide) (by decide), tk 105 (by decide) (by decide) (by decide), tk 106 (by decide) (by decide) (by decide)]
            exact I.1.2.1.2 b b0 b1
          · unfold bzKd bzDu
            simp only [tk 101 (by decide) (by decide) (by decide), tk 104 (by decide) (by decide) (by decide), tk 105 (by decide) (by decide) (by decide), tk 106 (by decide) (by decide) (by decide), tk 107 (by decide) (by decide) (by decide), tk 140 (by decide) (by decide) (by decide), tk 141 (by decide) (by decide) (by decide)]
            exact I.1.2.2.1 b b0 b1
        have xc := (bzB_e (σ := σ) (n := n) (rk := rk) 17 (bzTk (bzBe Z a) a pw) a O1 (fun b b0 b1 => by simp only [tk 105 (by decide) (by decide) (by decide), tk 106 (by decide) (by decide) (by decide)]; exact hr b b0 b1) a0 a1 (by rw [tk 140 (by decide) (by decide) (by decide)]; exact rd.1)).1
        have x6 := xc.2.2.2.2.2.1.1
        have e146 : (bzB σ 17 (bzTk (bzBe Z a) a pw) a).1.1 146 a = -1 := by rw [bu.1 146 (by decide), tk 146 (by decide) (by decide) (by decide)]; exact z2.2.1
        have tm : 1 ≤ bzTm σ (bzBe Z a) a pw := by
          unfold bzTm
          have : bzDu σ (bzBe Z a) a = bzDu σ Z a := by unfold bzDu; rw [e1 107 (by decide)]
          rw [this]
          split <;> omega
        rw [hW, zw_e, zw_a (by decide), e1 305 (by decide)]
        exact ⟨Or.inr (by omega), e146⟩
    have k := r1 _ rfl
    unfold bzRun
    by_cases bo : bzBo σ (bzBe Z a) a
    · rw [if_pos bo, zw_a (by decide), zw_e, e1 305 (by decide)]
      have : bzDu σ (bzBe Z a) a = bzDu σ Z a := by unfold bzDu; rw [e1 107 (by decide)]
      rw [this]
      exact ⟨k.1, Or.inr (by omega)⟩
    · rw [if_neg bo]
      exact ⟨k.1, Or.inl k.2⟩
  · rw [e305, (D.2.1 b y).1 145 (by decide), (D.2.1 b y).1 146 (by decide)]
    exact h b b0 b1 ⟨by rw [← D.1 140 (by decide)]; exact q.1, by rw [← (D.2.1 b y).1 143 (by decide)]; exact q.2.1, by rw [← (D.2.1 b y).1 142 (by decide)]; exact q.2.2⟩
theorem bzLa_bgs {σ : bSt} {n : Nat} {rk : Int → Nat} : ∀ (k : Nat) (Z : bZs), bzI σ n Z → bzRn0 rk n Z → bzLa n Z 1 → bzLa n (bzBgs σ n k Z) 1
  | 0, Z, _, _, h => h
  | k + 1, Z, I, hr, h => by
    unfold bzBgs
    by_cases z : bzNx σ Z n = -1
    · rw [if_pos z]; exact h
    · rw [if_neg z]
      have q := (bzNx_rg (σ := σ) (Z := Z) n).resolve_left z
      obtain ⟨i1, i2, _⟩ := bzI_st I hr q.2.2.1 q.2.2.2 q.1 q.2.1
      exact bzLa_bgs k _ i1 i2 (bzLa_st I hr q.2.2.1 q.2.2.2 q.1 q.2.1 h)
/-- the next end lies ahead -/
theorem bzLa_sn (I : bzI σ n Z) (h : bzLa n Z 1) (hs : bzSn Z n ≠ -1) : Z.1 305 0 + 1 ≤ bzSn Z n ∧ bzSn Z n ≤ 300000 := by
  rcases bzSn_at I n (Nat.le_refl _) with ⟨q, _⟩ | ⟨_, a, a0, a1, a2, a3⟩
  · exact absurd q hs
  · have j := I.2.2.2.1 a a0 a1
    have nb := bzNb_b (n := n) (Z := Z)
    have n120 := I.1.2.1.1
    have := h a a0 a1 a2
    omega
/-- the next end is the first -/
theorem bzSn_le (I : bzI σ n Z) : ∀ k : Nat, k ≤ n → ∀ b : Int, 0 ≤ b → b < (k : Int) → bzG Z b → bzSn Z k ≠ -1 ∧ (Z.1 145 b = -1 ∨ bzSn Z k ≤ Z.1 145 b) ∧ (Z.1 146 b = -1 ∨ bzSn Z k ≤ Z.1 146 b)
  | 0, _, b, b0, b1, _ => by omega
  | k + 1, hk, b, b0, b1, hg => by
    have ih := bzSn_le I k (by omega)
    have x1 : -1 ≤ bzSn Z k := by
      rcases bzSn_at I k (by omega) with ⟨q, _⟩ | ⟨_, a, a0, a1, a2, a3⟩
      · rw [q]; decide
      · have := I.2.2.2.1 a a0 (by omega)
        omega
    unfold bzSn
    have srd : ∀ x y, bzSr x y = if x = -1 then y else if y = -1 then x else min x y := fun _ _ => rfl
    by_cases z : bzG Z k
    · rw [if_pos z]
      have j := I.2.2.2.1 k (by omega) (by omega)
      have j8 := j.2.2.2.2.2.2.2.1 z
      have ihb := fun hb => ih b b0 hb hg
      generalize bzSn Z k = x at *
      have y1 : -1 ≤ bzSr (Z.1 145 k) (Z.1 146 k) := by
        rw [srd]
        split <;> (try split) <;> omega
      have own : bzSr (Z.1 145 k) (Z.1 146 k) ≠ -1 ∧ (Z.1 145 k = -1 ∨ bzSr (Z.1 145 k) (Z.1 146 k) ≤ Z.1 145 k) ∧ (Z.1 146 k = -1 ∨ bzSr (Z.1 145 k) (Z.1 146 k) ≤ Z.1 146 k) := by
        rw [srd]
        split
        · exact ⟨by omega, by omega, by omega⟩
        · split
          · exact ⟨by omega, by omega, by omega⟩
          · exact ⟨by omega, by omega, by omega⟩
      generalize bzSr (Z.1 145 k) (Z.1 146 k) = y at *
      rw [srd, if_neg own.1]
      by_cases e : b = k
      · rw [e]
        split
        · exact own
        · exact ⟨by omega, by omega, by omega⟩
      · have i := ihb (by omega)
        rw [if_neg i.1]
        exact ⟨by omega, by omega, by omega⟩
    · rw [if_neg z]
      exact ih b b0 (by
        have : b ≠ k := fun e => z (by rw [← e]; exact hg)
        omega) hg
end

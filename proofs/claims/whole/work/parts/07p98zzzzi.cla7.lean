/-! BUILD, 31: the class: what it reads of its actions; cancelling -/
/-- what is tried next, of the first actions; those in T are not -/
def bzNy (Z : bZs) (T : Int → Bool) : Nat → Int
  | 0 => -1
  | k + 1 => if bzRd Z k ∧ (bzNy Z T k = -1 ∨ Z.1 141 (bzNy Z T k) < Z.1 141 k) ∧ T k = false then k else bzNy Z T k
section
variable {d : Nat} {σ s t r : bSt} {f : Int → bSt → Prop} {fa : Nat → bSt → Prop} {fv : bSt → Prop} {a b i j k x y v w p : Int} {c e e0 q m n z : Nat} {K M : bKy} {L N F : List bKy} {Z Y X : bZs} {S : List Nat} {T U : Int → Bool}
/-- the action at its place -/
theorem w89r (R : bzAs σ Z s a) (a0 : 0 ≤ a) (a1 : a < 120) (h : fa (bAi a) s) : bWp (d + 1) 89 [.ref 6, .int (bn a)] s (bRa fa) := w89 R.1 a0 (by omega) h
theorem bAi_0 : bAi a % 256 = 0 := by unfold bAi; omega
theorem bzFe_dx (h : bzFe σ n a Z Y) : bzDx a Z Y := ⟨zU_mono h.1 (by decide), fun b hb => ⟨fun c hc => by
  obtain ⟨⟨h1, h2, h3, h4⟩, _⟩ := h.2.1 b hb
  simp only [List.mem_cons, List.not_mem_nil, or_false] at hc
  rcases hc with rfl | rfl | rfl | rfl | rfl | rfl | rfl | rfl
  · exact h1
  · exact h2
  · exact h.1 143 (by decide) b
  · exact h3
  · exact h.1 145 (by decide) b
  · exact h.1 146 (by decide) b
  · exact h.1 147 (by decide) b
  · exact h4, (h.2.1 b hb).2⟩, by rw [h.1 305 (by decide)]; exact Int.le_refl _⟩
/-- a step of one action -/
theorem bzCC_x (I : bzI σ n Z) (R : bzCC σ n Z s) (D : bzDx x Z Y) (hx : 0 ≤ x → ¬ bzD Z x) (x1 : x < (n : Int)) (F : bzKf (bzPx x) s t) (G : bzCG σ n Y t) (C : bzCh t Y.2.1 Y.2.2.1) (h : 0 ≤ x → bzAs σ Y t x ∧ bzAd σ Y t x) : bzCC σ n Y t :=
  ⟨bzKf_trans R.1 (bzKf_mono F (bzPx_a x1)), G, C, fun b b0 b1 => by
    by_cases y : b = x
    · rw [y] at b0 ⊢; exact h b0
    · exact bzA_o I.1.1.1 I.1.2.1 D hx b0 b1 y (fun K q => bzKl (I.2.1 b b0 b1 K q).1) F (R.2.2.2 b b0 b1)⟩
theorem bzN_l (I : bzI σ n Z) : (∀ K ∈ Z.2.1, bKl K) ∧ ∀ K ∈ Z.2.2.1, bKl K := ⟨fun K q => bzKl (I.2.2.2.2.1.1.2.2 K q), fun K q => bzKl (I.2.2.2.2.1.2.2.2 K q)⟩
/-- the description of an action stands -/
theorem bzAs_x (h : bzAs σ Z s a) (D : bzDx x Z Y) (r33 : br t 33 a = br s 33 a) (f0 : ∀ j ∈ ([0, 1, 5, 6, 7, 8, 9] : List Int), bi t (bAi a) j = bi s (bAi a) j) (f13 : ∀ j, bi t (bAi a + 13) j = bi s (bAi a + 13) j) (fN : ∀ j ∈ ([0, 1, 2] : List Int), bi t (bNe a) j = bi s (bNe a) j) : bzAs σ Y t a := by
  have e : ∀ c, c ∉ [112, 134, 135, 137, 138, 139, 142, 143, 144, 145, 146, 147, 148, 305, 306, 395] → ∀ j, Y.1 c j = Z.1 c j := D.1
  unfold bzAs bzKd bzDu at h ⊢
  rw [r33, f0 0 (by decide), f0 1 (by decide), f0 5 (by decide), f0 6 (by decide), f0 7 (by decide), f0 8 (by decide), f0 9 (by decide), fN 0 (by decide), fN 1 (by decide), fN 2 (by decide), e 101 (by decide), e 102 (by decide), e 103 (by decide), e 104 (by decide), e 105 (by decide), e 107 (by decide), e 140 (by decide), e 141 (by decide)]
  exact ⟨h.1, h.2.1, fun i i0 i1 => by rw [f13, e 106 (by decide)]; exact h.2.2.1 i i0 i1, h.2.2.2⟩
theorem w12 (E15 : bi s (bAi a) 15 = v) (E16 : bi s (bAi a) 16 = w) (E17 : bi s (bAi a) 17 = x) (h : f (min v (min w x)) s) : bWp (d + 2) 12 [.ref (bAi a)] s (bRn f) := by
  refine ⟨rfl, fun A hA => sq12_0 (bWp_mono _) hA bAi_0 (w360 (bi_rg _ _ _) (bi_rg _ _ _) ?_)⟩
  rw [E15, E16, E17]
  have r1 := bi_rg s (bAi a) 15
  have r2 := bi_rg s (bAi a) 16
  have r3 := bi_rg s (bAi a) 17
  rw [E15] at r1
  rw [E16] at r2
  rw [E17] at r3
  unfold bRg at r1 r2 r3
  exact w360 ⟨by omega, by omega⟩ ⟨by omega, by omega⟩ (bRn_i ⟨by omega, by omega⟩ h)
/-- when the next one ends -/
theorem w51 (I : bzI σ n Z) (R : bzCC σ n Z s) (h : f (bzNv (bzSn Z n)) s) : bWp (d + 3) 51 [.ref 5] s (bRn f) := by
  have n120 := I.1.2.1.1
  have nb := bzNb_b (n := n) (Z := Z)
  have sr : ∀ k : Nat, k ≤ n → -1 ≤ bzSn Z k ∧ bzSn Z k ≤ 300000 := fun k hk => by
    rcases bzSn_at I k hk with ⟨q, _⟩ | ⟨_, b, b0, b1, _, q⟩
    · omega
    · have := I.2.2.2.1 b b0 (by omega)
      omega
  refine ⟨rfl, fun A hA => sq51_0 (bWp_mono _) hA ?_⟩
  have Lp : ∀ m k : Nat, k + m = n → A (4, [.ref 5, .int (bn (bzNv (bzSn Z k))), .int (bn k)], [], s) := by
    intro m
    induction m with
    | zero =>
      intro k hk
      have ek : k = n := by omega
      subst ek
      have s0 := sr k (Nat.le_refl _)
      have rg : bRg (bzNv (bzSn Z k)) := by unfold bzNv; split <;> exact ⟨by omega, by omega⟩
      refine sq51_4 (bWp_mono _) hA rg ⟨by omega, by omega⟩ ⟨fun y => absurd y (by rw [R.2.1.1.1]; omega), fun _ => bRn_i rg h⟩
    | succ m ih =>
      intro k hk
      have nx := ih (k + 1) (by omega)
      have k1 : (k : Int) < (n : Int) := by omega
      obtain ⟨As, Ad⟩ := R.2.2.2 k (by omega) k1
      have s0 := sr k (by omega)
      have s1 := sr (k + 1) (by omega)
      have rg : bRg (bzNv (bzSn Z k)) := by unfold bzNv; split <;> exact ⟨by omega, by omega⟩
      have u : bzSn Z (k + 1) = if bzG Z k then bzSr (bzSn Z k) (bzSr (Z.1 145 k) (Z.1 146 k)) else bzSn Z k := rfl
      refine sq51_4 (bWp_mono _) hA rg ⟨by omega, by omega⟩ ⟨fun _ => w89r As (by omega) (by omega) ⟨bAi_0, w12 (d := d) Ad.2.1.1 Ad.2.1.2.1 Ad.2.1.2.2 ?_⟩, fun y => absurd (by rw [R.2.1.1.1]; omega) y⟩
      have j := I.2.2.2.1 k (by omega) k1
      have srd : ∀ x y, bzSr x y = if x = -1 then y else if y = -1 then x else min x y := fun _ _ => rfl
      have key : min (bzNv (bzSn Z k)) (min (if bzG Z k ∧ Z.1 147 k ≠ 0 then Z.1 146 k else 2147483647) (min (if bzG Z k ∧ Z.1 147 k = 0 then bzNv (Z.1 145 k) else 2147483647) (if bzG Z k ∧ Z.1 147 k = 0 then bzNv (Z.1 146 k) else 2147483647))) = bzNv (bzSn Z (k + 1)) ∧ bRg (min (if bzG Z k ∧ Z.1 147 k ≠ 0 then Z.1 146 k else 2147483647) (min (if bzG Z k ∧ Z.1 147 k = 0 then bzNv (Z.1 145 k) else 2147483647) (if bzG Z k ∧ Z.1 147 k = 0 then bzNv (Z.1 146 k) else 2147483647))) := by
        have rgm : bRg (min (if bzG Z k ∧ Z.1 147 k ≠ 0 then Z.1 146 k else 2147483647) (min (if bzG Z k ∧ Z.1 147 k = 0 then bzNv (Z.1 145 k) else 2147483647) (if bzG Z k ∧ Z.1 147 k = 0 then bzNv (Z.1 146 k) else 2147483647))) := by
          unfold bzNv
          exact ⟨by split <;> split <;> (try split) <;> (try split) <;> omega, by omega⟩
        refine ⟨?_, rgm⟩
        rw [u]
        by_cases g : bzG Z k
        · rw [if_pos g]
          by_cases z : Z.1 147 k = 0
          · rw [if_neg (fun y => y.2 z), if_pos ⟨g, z⟩, if_pos ⟨g, z⟩]
            have j8 := j.2.2.2.2.2.2.2.1 g
            generalize bzSn Z k = x at *
            rw [srd, srd]
            unfold bzNv
            by_cases h1 : Z.1 145 k = -1
            · rw [if_pos h1, if_pos h1]
              by_cases h2 : Z.1 146 k = -1
              · omega
              · rw [if_neg h2]
                by_cases h3 : x = -1
                · rw [if_pos h3, if_pos h3, if_neg h2]; omega
                · rw [if_neg h3, if_neg h3, if_neg h2, if_neg (by omega)]; omega
            · rw [if_neg h1, if_neg h1]
              by_cases h2 : Z.1 146 k = -1
              · rw [if_pos h2, if_pos h2]
                by_cases h3 : x = -1
                · rw [if_pos h3, if_pos h3, if_neg h1]; omega
                · rw [if_neg h3, if_neg h3, if_neg h1, if_neg (by omega)]; omega
              · rw [if_neg h2, if_neg h2]
                by_cases h3 : x = -1
                · rw [if_pos h3, if_pos h3, if_neg (by omega)]; omega
                · rw [if_neg h3, if_neg h3, if_neg (by omega), if_neg (by omega)]; omega
          · rw [if_pos ⟨g, z⟩, if_neg (fun y => z y.2), if_neg (fun y => z y.2)]
            have j4 := j.2.2.2.1 z
            have j8 := j.2.2.2.2.2.2.2.1 g
            generalize bzSn Z k = x at *
            rw [srd, srd, if_pos j4.1]
            unfold bzNv
            by_cases h3 : x = -1
            · rw [if_pos h3, if_pos h3, if_neg (by omega)]; omega
            · rw [if_neg h3, if_neg h3, if_neg (by omega), if_neg (by omega)]; omega
        · rw [if_neg g, if_neg (fun y => g y.1), if_neg (fun y => g y.1), if_neg (fun y => g y.1)]
          unfold bzNv
          split <;> omega
      refine w360 (d := d + 1) rg key.2 ⟨⟨by omega, by omega⟩, ?_⟩
      rw [key.1]
      rw [show ((k + 1 : Nat) : Int) = (k : Int) + 1 by omega] at nx
      exact nx
  exact Lp n 0 (by omega)
/-- all inputs are done -/
theorem w58 (I : bzI σ n Z) (R : bzCC σ n Z s) (a0 : 0 ≤ a) (a1 : a < (n : Int)) (h : f (if bzIn Z a (Z.1 105 a).toNat = true then 1 else 0) s) : bWp (d + 2) 58 [.ref 5, .ref (bAi a)] s (bRn f) := by
  have n120 := I.1.2.1.1
  have o := I.1.2.1.2 a a0 a1
  have As := (R.2.2.2 a a0 a1).1
  have b1 : bi s (bAi a) 1 = Z.1 105 a := As.2.1.2
  refine ⟨rfl, fun A hA => sq58_0 (bWp_mono _) hA bAi_0 ?_⟩
  have Lp : ∀ (m j : Nat) (v3 : Value), ((j + m : Nat) : Int) = Z.1 105 a → bzIn Z a j = true → A (2, [.ref 5, .ref (bAi a), .int (bn j), v3], [], s) := by
    intro m
    induction m with
    | zero =>
      intro j v3 hj D
      rw [show (Z.1 105 a).toNat = j by omega, if_pos D] at h
      exact sq58_2 (bWp_mono _) hA ⟨by omega, by omega⟩ ⟨bAi_0, fun y => absurd y (by rw [b1]; omega), fun _ => bRn_i (by decide) h⟩
    | succ m ih =>
      intro j v3 hj D
      have nx := fun v3 => ih (j + 1) v3 (by omega)
      have uI : bzIn Z a (j + 1) = (bzIn Z a j && decide (Z.1 106 (40 * a + j) < 48 ∨ bzD Z (Z.1 106 (40 * a + j) - 100))) := rfl
      have inp : bi s (bAi a + 13) j = Z.1 106 (40 * a + j) := As.2.2.1 j (by omega) (by omega)
      have oi := o.2.2 j (by omega) (by omega)
      have e1 : ((j + 1 : Nat) : Int) = (j : Int) + 1 := by omega
      rw [e1] at nx
      refine sq58_2 (bWp_mono _) hA ⟨by omega, by omega⟩ ⟨bAi_0, fun _ => w5 (d := d) bAi_0 (by omega) (by rw [b1]; omega) (by rw [b1]; omega) (by rw [inp]; omega) ?_, fun y => absurd (by rw [b1]; omega) y⟩
      rw [inp]
      generalize Z.1 106 (40 * a + j) = u at *
      by_cases q : u < 100
      · rw [if_pos q]
        refine ⟨fun _ => ⟨⟨by omega, by omega⟩, nx _ ?_⟩, fun y => absurd rfl y⟩
        rw [uI, D, Bool.true_and, decide_eq_true_eq]
        exact Or.inl (by omega)
      · rw [if_neg q]
        obtain ⟨As2, Ad2⟩ := R.2.2.2 (u - 100) (by omega) (by omega)
        have jo := (I.2.2.1 (u - 100) (by omega) (by omega)).1
        refine ⟨fun y => absurd y (by omega), fun _ => w89r As2 (by omega) (by omega) ⟨bAi_0, w10 (d := d) bAi_0 (by rw [Ad2.1.1]; exact jo.1) (fun y => ?_) fun y => ?_⟩⟩
        · rw [Ad2.1.1] at y
          refine ⟨fun w => absurd w (by decide), fun _ => ⟨⟨by omega, by omega⟩, nx _ ?_⟩⟩
          rw [uI, D, Bool.true_and, decide_eq_true_eq]
          exact Or.inr y
        · rw [Ad2.1.1] at y
          refine ⟨fun _ => bRn_i (by decide) ?_, fun w => absurd rfl w⟩
          rw [if_neg (fun w => ?_)] at h
          · exact h
          · rcases (bzIn_at _).1 w j (by omega) (by omega) with z | z
            · have : Z.1 106 (40 * a + j) = bi s (bAi a + 13) j := (As.2.2.1 j (by omega) (by omega)).symm
              omega
            · have : Z.1 106 (40 * a + j) = bi s (bAi a + 13) j := (As.2.2.1 j (by omega) (by omega)).symm
              rw [this, inp] at z
              exact y z
  exact Lp (Z.1 105 a).toNat 0 _ (by omega) rfl
theorem bzNy_at {Z : bZs} {T : Int → Bool} : ∀ m : Nat, (bzNy Z T m = -1 ∧ ∀ b, 0 ≤ b → b < (m : Int) → bzRd Z b → T b ≠ false) ∨ ((0 ≤ bzNy Z T m ∧ bzNy Z T m < (m : Int)) ∧ (bzRd Z (bzNy Z T m) ∧ T (bzNy Z T m) = false) ∧ ∀ b, 0 ≤ b → b < (m : Int) → bzRd Z b → T b = false → Z.1 141 b ≤ Z.1 141 (bzNy Z T m) ∧ (Z.1 141 b = Z.1 141 (bzNy Z T m) → bzNy Z T m ≤ b))
  | 0 => Or.inl ⟨rfl, fun b b0 b1 => by omega⟩
  | m + 1 => by
    have ih := bzNy_at (Z := Z) (T := T) m
    have u : bzNy Z T (m + 1) = if bzRd Z m ∧ (bzNy Z T m = -1 ∨ Z.1 141 (bzNy Z T m) < Z.1 141 m) ∧ T m = false then (m : Int) else bzNy Z T m := rfl
    rw [u]
    generalize bzNy Z T m = y at *
    by_cases h : bzRd Z m ∧ (y = -1 ∨ Z.1 141 y < Z.1 141 m) ∧ T m = false
    · rw [if_pos h]
      refine Or.inr ⟨⟨by omega, by omega⟩, ⟨h.1, h.2.2⟩, fun b b0 b1 hb hT => ?_⟩
      by_cases e : b = m
      · rw [e]; exact ⟨Int.le_refl _, fun _ => Int.le_refl _⟩
      · rcases ih with ⟨q, q2⟩ | ⟨q, q2, q3⟩
        · exact absurd hT (q2 b b0 (by omega) hb)
        · have := q3 b b0 (by omega) hb hT
          rcases h.2.1 with w | w
          · omega
          · exact ⟨by omega, fun _ => by omega⟩
    · rw [if_neg h]
      rcases ih with ⟨q, q2⟩ | ⟨q, q2, q3⟩
      · refine Or.inl ⟨q, fun b b0 b1 hb hT => ?_⟩
        by_cases e : b = m
        · rw [e] at hb hT; exact h ⟨hb, Or.inl q, hT⟩
        · exact q2 b b0 (by omega) hb hT
      · refine Or.inr ⟨⟨q.1, by omega⟩, q2, fun b b0 b1 hb hT => ?_⟩
        by_cases e : b = m
        · rw [e] at hb hT ⊢
          have : ¬ Z.1 141 y < Z.1 141 m := fun w => h ⟨hb, Or.inr w, hT⟩
          exact ⟨by omega, fun _ => by omega⟩
        · exact q3 b b0 (by omega) hb hT
/-- what is tried next -/
theorem w57 (I : bzI σ n Z) (R : bzCC σ n Z s) (h : f (bzNy Z (fun b => decide (bi s (bAi b) 13 = Z.1 305 0)) n) s) : bWp (d + 3) 57 [.ref 5] s (bRn f) := by
  have n120 := I.1.2.1.1
  have e59 : bi s 5 9 = Z.1 305 0 := R.2.1.2.2 (305, 9) (by decide)
  refine ⟨rfl, fun A hA => sq57_0 (bWp_mono _) hA ?_⟩
  generalize hT : (fun b : Int => decide (bi s (bAi b) 13 = Z.1 305 0)) = T at *
  have Td : ∀ b, T b = decide (bi s (bAi b) 13 = Z.1 305 0) := fun b => by rw [← hT]
  have wr : ∀ k : Nat, k ≤ n → bRg (bzNy Z T k) ∧ 0 ≤ (if bzNy Z T k = -1 then 0 else Z.1 141 (bzNy Z T k)) ∧ (if bzNy Z T k = -1 then 0 else Z.1 141 (bzNy Z T k)) ≤ 2400 := fun k hk => by
    rcases bzNy_at (Z := Z) (T := T) k with ⟨q, _⟩ | ⟨q, q2, _⟩
    · rw [q, if_pos rfl]; exact ⟨by decide, by decide, by decide⟩
    · have := (I.1.2.2.1 _ q.1 (by omega) q2.1.1).2.2.2.2.2
      rw [if_neg (by omega)]
      exact ⟨⟨by omega, by omega⟩, by omega, by omega⟩
  have Lp : ∀ (m k : Nat) (v4 v5 : Value), k + m = n → A (6, [.ref 5, .int (bn (bzNy Z T k)), .int (bn (if bzNy Z T k = -1 then 0 else Z.1 141 (bzNy Z T k))), .int (bn k), v4, v5], [], s) := by
    intro m
    induction m with
    | zero =>
      intro k v4 v5 hk
      have ek : k = n := by omega
      subst ek
      have r := wr k (Nat.le_refl _)
      exact sq57_6 (bWp_mono _) hA r.1 ⟨by omega, by omega⟩ ⟨by omega, by omega⟩ ⟨fun y => absurd y (by rw [R.2.1.1.1]; omega), fun _ => bRn_i r.1 h⟩
    | succ m ih =>
      intro k v4 v5 hk
      have nx := fun v4 v5 => ih (k + 1) v4 v5 (by omega)
      have r := wr k (by omega)
      have k1 : (k : Int) < (n : Int) := by omega
      obtain ⟨As, Ad⟩ := R.2.2.2 k (by omega) k1
      have u : bzNy Z T (k + 1) = if bzRd Z k ∧ (bzNy Z T k = -1 ∨ Z.1 141 (bzNy Z T k) < Z.1 141 k) ∧ T k = false then (k : Int) else bzNy Z T k := rfl
      rw [show ((k + 1 : Nat) : Int) = (k : Int) + 1 by omega, u] at nx
      have e5 : bi s (bAi k) 5 = Z.1 140 k := As.2.2.2.2.1
      have e11 : bi s (bAi k) 11 = Z.1 143 k := Ad.1.2.1
      have T1 := Td k
      have no : ¬ (bzRd Z k ∧ (bzNy Z T k = -1 ∨ Z.1 141 (bzNy Z T k) < Z.1 141 k) ∧ T k = false) → ∀ v4 v5, bRg ((k : Int) + 1) ∧ A (6, [.ref 5, .int (bn (bzNy Z T k)), .int (bn (if bzNy Z T k = -1 then 0 else Z.1 141 (bzNy Z T k))), .int (bn ((k : Int) + 1)), v4, v5], [], s) := fun hn v4 v5 => by
        have nx := nx v4 v5
        rw [if_neg hn] at nx
        exact ⟨⟨by omega, by omega⟩, nx⟩
      have yes : bzRd Z k ∧ (bzNy Z T k = -1 ∨ Z.1 141 (bzNy Z T k) < Z.1 141 k) ∧ T k = false → ∀ v4 v5, bRg ((k : Int) + 1) ∧ A (6, [.ref 5, .int (bn k), .int (bn (Z.1 141 k)), .int (bn ((k : Int) + 1)), v4, v5], [], s) := fun hn v4 v5 => by
        have nx := nx v4 v5
        rw [if_pos hn, if_neg (by omega)] at nx
        exact ⟨⟨by omega, by omega⟩, nx⟩
      refine sq57_6 (bWp_mono _) hA r.1 ⟨by omega, by omega⟩ ⟨by omega, by omega⟩ ⟨fun _ => w89r As (by omega) (by omega) ⟨bAi_0, ?_⟩, fun y => absurd (by rw [R.2.1.1.1]; omega) y⟩
      rw [e5, e11, e59]
      refine ⟨fun z => no (fun q => q.1.1 z) _ _, fun z => ⟨fun z2 => ⟨fun z3 => no (fun q => ?_) _ _, fun z3 => ?_⟩, fun z2 => no (fun q => z2 q.1.2.1) _ _⟩⟩
      · rw [T1, decide_eq_false_iff_not] at q
        exact q.2.2 z3
      · have e9 : bi s (bAi k) 9 = Z.1 141 k := (As.2.2.2.2.2 z).2.2.2
        have wk := (I.1.2.2.1 k (by omega) k1 z).2.2.2.2.2
        have Tf : T k = false := by rw [T1, decide_eq_false_iff_not]; exact z3
        rw [e9]
        have cmp : (if bzNy Z T k = -1 then 0 else Z.1 141 (bzNy Z T k)) < Z.1 141 k ↔ (bzNy Z T k = -1 ∨ Z.1 141 (bzNy Z T k) < Z.1 141 k) := by
          split <;> omega
        refine ⟨fun z4 => w58 (d := d) I R (by omega) k1 ?_, fun z4 => no (fun q => z4 (cmp.2 q.2.1)) _ _⟩
        by_cases rd : bzIn Z k (Z.1 105 k).toNat = true
        · rw [if_pos rd]
          refine ⟨fun y => absurd y (by decide), fun _ => ?_⟩
          rw [e9]
          exact yes ⟨⟨z, z2, rd⟩, cmp.1 z4, Tf⟩ _ _
        · rw [if_neg rd]
          exact ⟨fun _ => no (fun q => rd q.1.2.2) _ _, fun y => absurd rfl y⟩
  exact Lp n 0 _ _ (by omega)
/-- what is tried, if it can begin, is what begins next -/
theorem bzNx_y {σ : bSt} {Z : bZs} : ∀ m : Nat, bzNx σ Z m = bzNy Z (fun b => !bzCb σ Z b) m
  | 0 => rfl
  | m + 1 => by
    have ih := bzNx_y (σ := σ) (Z := Z) m
    unfold bzNx bzNy
    rw [ih]
    simp only [bzCn, Bool.not_eq_false']
theorem bzNy_u (h : ∀ b, 0 ≤ b → b < (m : Int) → bzRd Z b → T b = true → U b = true) : (bzNy Z T m = -1 → bzNy Z U m = -1) ∧ (bzNy Z T m ≠ -1 → U (bzNy Z T m) = false → bzNy Z U m = bzNy Z T m) := by
  rcases bzNy_at (Z := Z) (T := U) m with ⟨q, q2⟩ | ⟨q, q2, q3⟩
  · refine ⟨fun _ => q, fun w w2 => ?_⟩
    rcases bzNy_at (Z := Z) (T := T) m with ⟨r, _⟩ | ⟨r, r2, r3⟩
    · exact absurd r w
    · exact absurd w2 (q2 _ r.1 r.2 r2.1)
  · have tf : T (bzNy Z U m) = false := by
      cases y : T (bzNy Z U m) with
      | false => rfl
      | true => rw [h _ q.1 q.2 q2.1 y] at q2; exact absurd q2.2 (by decide)
    rcases bzNy_at (Z := Z) (T := T) m with ⟨r, r2⟩ | ⟨r, r2, r3⟩
    · exact absurd tf (r2 _ q.1 q.2 q2.1)
    · refine ⟨fun w => by omega, fun _ w2 => ?_⟩
      have a1 := r3 _ q.1 q.2 q2.1 tf
      have a2 := q3 _ r.1 r.2 r2.1 w2
      have a3 := a1.2 (by omega)
      have a4 := a2.2 (by omega)
      omega
end

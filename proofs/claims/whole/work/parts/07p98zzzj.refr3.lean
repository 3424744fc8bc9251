/-! BUILD, 6: the reference reads: what is fresh, who is free, what can begin, what begins next -/
def bzI1 (n : Nat) (Z : bZs) : Prop := (∀ a, 0 ≤ a → a < (n : Int) → -1 ≤ Z.1 142 a ∧ Z.1 142 a ≤ 7) ∧ 0 ≤ Z.1 305 0
/-- all of the reference -/
def bzR0 (σ : bSt) (n : Nat) (Z : bZs) (s : bSt) : Prop := bzRe σ n Z s ∧ bzRk n Z s ∧ bzRy Z s ∧ bzRc Z s
section
variable {d : Nat} {σ s t : bSt} {f : Int → bSt → Prop} {fv : bSt → Prop} {Z : bZs} {a i k x v lo hi : Int} {n : Nat} {K : bKy} {P : List (Int × bKy)}
theorem bHl_at {L : List Int} {b : Nat} {o : Int} (h : bHl s b o L) {j : Nat} (hj : j < L.length) : bi s b (o + j) = L.getD j 0 := h j hj
theorem r271 (h : bzO σ n Z) (I : bzIk n Z) (E : bzRe σ n Z s) (R : bzRk n Z s) (a0 : 0 ≤ a) (a1 : a < (n : Int)) (w : Z.1 140 a ≠ 0) (hf : f (if Z.2.2.2 a = some (bzK σ Z a) then 1 else 0) s) : bWp (d + 6) 271 [.ref 12, .int (bn a)] s (bRn f) := by
  have n120 := h.2.1.1
  obtain ⟨o1, o2, o3⟩ := h.2.1.2 a a0 a1
  have E1 := E.2.2.2 a a0 a1
  obtain ⟨R0, R1⟩ := R a a0 a1
  refine ⟨rfl, fun A hA => sq271_0 (bWp_mono _) hA ⟨by omega, by omega⟩ ⟨⟨a0, by omega⟩, ⟨by omega, by omega⟩, ?_⟩⟩
  -- not fresh: nothing more is looked at
  have no : Z.2.2.2 a ≠ some (bzK σ Z a) → ∀ j : Int, bRg j → bRg (48 * a + bi s 114 a) → A (42, [.ref 12, .int (bn a), .int (bn 0), .int (bn j)], [], s) := fun q j rj r4 => by
    rw [if_neg q] at hf
    exact sq271_42 (bWp_mono _) hA ⟨by omega, by omega⟩ (by decide) rj ⟨⟨by omega, by omega⟩, ⟨a0, by omega⟩, r4, fun _ => ⟨fun _ => ⟨Or.inl rfl, bRn_i (by decide) hf⟩, fun z => absurd rfl z⟩, fun _ => ⟨Or.inl rfl, bRn_i (by decide) hf⟩⟩
  have no9 : Z.2.2.2 a ≠ some (bzK σ Z a) → ∀ j : Int, bRg j → bRg (48 * a + bi s 114 a) → A (9, [.ref 12, .int (bn a), .int (bn 0), .int (bn j)], [], s) := fun q j rj r4 => by
    refine sq271_9 (bWp_mono _) hA ⟨by omega, by omega⟩ (by decide) rj ?_
    rw [E1.1 105 (by decide)]
    exact ⟨⟨by omega, by omega⟩, ⟨a0, by omega⟩, ⟨by omega, by omega⟩, fun _ => ⟨fun _ => ⟨⟨by omega, by omega⟩, no q _ ⟨by omega, by omega⟩ r4⟩, fun z => absurd rfl z⟩, fun _ => ⟨⟨by omega, by omega⟩, no q _ ⟨by omega, by omega⟩ r4⟩⟩
  cases hk : Z.2.2.2 a with
  | none =>
    obtain ⟨z1, _, z2, z3⟩ := R0 hk
    rw [z1]
    exact no9 (fun z => by rw [hk] at z; cases z) _ ⟨by omega, by omega⟩ ⟨by omega, by omega⟩
  | some K =>
    obtain ⟨k1, _, k3, k4, k5⟩ := R1 K hk
    obtain ⟨g, ⟨g1, g2, g3⟩, gl, _⟩ := I a a0 a1 K hk
    have l48 := g.2.2.2.2.2.2.1
    have r4 : bRg (48 * a + bi s 114 a) := by rw [k4]; exact ⟨by omega, by omega⟩
    rw [k1]
    have Lf : K.2.2.2.1 = bzL σ Z a → ∀ (m j : Nat), j + m = K.2.2.2.2.length → (∀ i : Nat, i < j → bSn σ (Z.1 104 a) (K.2.2.2.2.getD i 0 / 1001) = K.2.2.2.2.getD i 0 % 1001 - 1) → A (42, [.ref 12, .int (bn a), .int (bn 1), .int (bn (48 * a + j))], [], s) := fun mt => by
      have fit := bzK_fit (Z := Z) (a := a) (σ := σ) h.1.1 g.1 g1 g2 g3 mt
      intro m
      induction m with
      | zero =>
        intro j hj D
        have KK : K = bzK σ Z a := fit.1 fun w' hw' => by
          obtain ⟨i, hi, ei⟩ := List.mem_iff_getElem.1 hw'
          have := D i (by omega)
          rw [List.getD_eq_getElem?_getD, List.getElem?_eq_getElem hi] at this
          rw [← ei]
          exact this
        rw [if_pos (by rw [hk, KK])] at hf
        refine sq271_42 (bWp_mono _) hA ⟨by omega, by omega⟩ (by decide) ⟨by omega, by omega⟩ ⟨⟨by omega, by omega⟩, ⟨a0, by omega⟩, r4, fun z => absurd z (by rw [k4]; omega), fun _ => ⟨Or.inr rfl, bRn_i (by decide) hf⟩⟩
      | succ m ih =>
        intro j hj D
        have k5j := k5 j (by omega)
        have jr := g.2.2.2.2.2.2.2.1 _ (bGd_m (L := K.2.2.2.2) (i := j) (by omega))
        have o5 : Z.1 101 a = 5 := by
          by_cases q : K.1 = 5
          · rw [← g1]; exact q
          · have := g.1.1 q
            rw [this] at hj
            exact absurd hj (by simp)
        refine sq271_42 (bWp_mono _) hA ⟨by omega, by omega⟩ (by decide) ⟨by omega, by omega⟩ ⟨⟨by omega, by omega⟩, ⟨a0, by omega⟩, r4, fun _ => ⟨fun z => absurd z (by decide), fun _ => ⟨⟨by omega, by omega⟩, ?_⟩⟩, fun z => absurd (show 48 * a + (j : Int) < 48 * a + bi s 114 a by rw [k4]; omega) z⟩
        rw [k5j]
        refine r266 h E a0 a1 w o5 jr ?_
        by_cases y : bSn σ (Z.1 104 a) (K.2.2.2.2.getD j 0 / 1001) = K.2.2.2.2.getD j 0 % 1001 - 1
        · rw [if_pos y]
          have := ih (j + 1) (by omega) (fun i hi => by
            by_cases e : i = j
            · rw [e]; exact y
            · exact D i (by omega))
          rw [show 48 * a + ((j + 1 : Nat) : Int) = 48 * a + (j : Int) + 1 by omega] at this
          exact ⟨⟨by omega, by omega⟩, this⟩
        · rw [if_neg y]
          refine ⟨⟨by omega, by omega⟩, no (fun hm => y ?_) _ ⟨by omega, by omega⟩ r4⟩
          rw [hk] at hm
          exact fit.2 (Option.some.inj hm) _ (bGd_m (by omega))
    have Lc : ∀ (m j : Nat), j + m = K.2.2.2.1.length → (∀ i : Nat, i < j → K.2.2.2.1.getD i 0 = bzC σ Z a i) → A (9, [.ref 12, .int (bn a), .int (bn 1), .int (bn (40 * a + j))], [], s) := by
      intro m
      induction m with
      | zero =>
        intro j hj D
        have eq : K.2.2.2.1 = bzL σ Z a := bLeq (by rw [bzL_len]; exact gl) (fun i hi => by rw [D i (by omega), bzL_at (by omega)])
        have := Lf eq K.2.2.2.2.length 0 (by omega) (fun i hi => by omega)
        rw [show 48 * a + ((0 : Nat) : Int) = 48 * a by omega] at this
        refine sq271_9 (bWp_mono _) hA ⟨by omega, by omega⟩ (by decide) ⟨by omega, by omega⟩ ?_
        rw [E1.1 105 (by decide)]
        exact ⟨⟨by omega, by omega⟩, ⟨a0, by omega⟩, ⟨by omega, by omega⟩, fun z => absurd z (by omega), fun _ => ⟨⟨by omega, by omega⟩, this⟩⟩
      | succ m ih =>
        intro j hj D
        refine sq271_9 (bWp_mono _) hA ⟨by omega, by omega⟩ (by decide) ⟨by omega, by omega⟩ ?_
        rw [E1.1 105 (by decide), E1.2 j (by omega) (by omega), k3 j (by omega)]
        refine ⟨⟨by omega, by omega⟩, ⟨a0, by omega⟩, ⟨by omega, by omega⟩, fun _ => ⟨fun z => absurd z (by decide), fun _ => ⟨⟨by omega, by omega⟩, r262 h E a0 a1 (by omega) (by omega) ⟨fun q => ⟨⟨by omega, by omega⟩, ?_⟩, fun q => ⟨⟨by omega, by omega⟩, no9 (fun hm => q ?_) _ ⟨by omega, by omega⟩ r4⟩⟩⟩⟩, fun z => absurd (show 40 * a + (j : Int) < 40 * a + Z.1 105 a by omega) z⟩
        · have := ih (j + 1) (by omega) (fun i hi => by
            by_cases e : i = j
            · rw [e]; exact q
            · exact D i (by omega))
          rw [show 40 * a + ((j + 1 : Nat) : Int) = 40 * a + (j : Int) + 1 by omega] at this
          exact this
        · rw [hk] at hm
          rw [Option.some.inj hm]
          exact bzL_at (by omega)
    have := Lc K.2.2.2.1.length 0 (by omega) (fun i hi => by omega)
    rw [show 40 * a + ((0 : Nat) : Int) = 40 * a by omega] at this
    exact this
theorem r281 (R : bzRy Z s) (a0 : 0 ≤ a) (a1 : a < 120) (hf : f (if bzD Z a then 1 else 0) s) : bWp (d + 2) 281 [.ref 12, .int (bn a)] s (bRn f) := by
  refine ⟨rfl, fun A hA => sq281_0 (bWp_mono _) hA ⟨by omega, by omega⟩ ⟨⟨a0, a1⟩, w199 (bi_rg _ _ _) (by decide) (by decide) (fun q => ⟨Or.inr rfl, bRn_i (by decide) ?_⟩) (fun q => ⟨Or.inl rfl, bRn_i (by decide) ?_⟩)⟩⟩
  · rw [R.1 142 (by decide) a a0] at q
    rwa [if_pos q] at hf
  · rw [R.1 142 (by decide) a a0] at q
    rwa [if_neg q] at hf
theorem r282 (E : bzRa n Z s) (R : bzRy Z s) (a0 : 0 ≤ a) (a1 : a < (n : Int)) (n120 : n ≤ 120) (hf : f (if bzG Z a then 1 else 0) s) : bWp (d + 1) 282 [.ref 12, .int (bn a)] s (bRn f) := by
  refine ⟨rfl, fun A hA => sq282_0 (bWp_mono _) hA ⟨by omega, by omega⟩ ⟨⟨a0, by omega⟩, ?_⟩⟩
  rw [(E.2 a a0 a1).1 140 (by decide), R.1 142 (by decide) a a0, R.1 143 (by decide) a a0]
  refine ⟨fun z => bRn_i (by decide) (by rwa [if_neg fun y => y.1 z] at hf), fun z => ⟨fun z2 => bRn_i (by decide) (by rwa [if_neg fun y => y.2.1 z2] at hf), fun z2 => ⟨fun z3 => bRn_i (by decide) (by rwa [if_pos ⟨z, z2, z3⟩] at hf), fun z3 => bRn_i (by decide) (by rwa [if_neg fun y => z3 y.2.2] at hf)⟩⟩⟩
theorem bzFr_rg : ∀ (m : Nat) (w : Int), bzFr Z m w = -1 ∨ (w ≤ bzFr Z m w ∧ bzFr Z m w < w + m ∧ Z.1 138 (bzFr Z m w) = 0)
  | 0, _ => Or.inl rfl
  | m + 1, w => by
    unfold bzFr
    by_cases z : Z.1 138 w = 0
    · rw [if_pos z]; exact Or.inr ⟨Int.le_refl _, by omega, z⟩
    · rw [if_neg z]
      rcases bzFr_rg m (w + 1) with q | q
      · exact Or.inl q
      · exact Or.inr ⟨by omega, by omega, q.2.2⟩
theorem bzWm_rg : ∀ (m : Nat) (w : Int), bzWm Z v m w = -1 ∨ (w ≤ bzWm Z v m w ∧ bzWm Z v m w < w + m ∧ Z.1 138 (bzWm Z v m w) = 0 ∧ Z.1 137 (bzWm Z v m w) = v)
  | 0, _ => Or.inl rfl
  | m + 1, w => by
    unfold bzWm
    by_cases z : Z.1 138 w = 0 ∧ Z.1 137 w = v
    · rw [if_pos z]; exact Or.inr ⟨Int.le_refl _, by omega, z⟩
    · rw [if_neg z]
      rcases bzWm_rg m (w + 1) with q | q
      · exact Or.inl q
      · exact Or.inr ⟨by omega, by omega, q.2.2⟩
theorem bzPk_rg (h : bzO σ n Z) (a0 : 0 ≤ a) (a1 : a < (n : Int)) (w : Z.1 140 a ≠ 0) : bzPk σ Z a = -1 ∨ (0 ≤ bzPk σ Z a ∧ bzPk σ Z a < 12 ∧ Z.1 138 (bzPk σ Z a) = 0) := by
  obtain ⟨_, _, _, kd, _⟩ := h.2.2.1 a a0 a1 w
  have c := h.1.2.1 _ kd.1 kd.2
  unfold bzPk
  have e1 := bzFr_rg (Z := Z) (bi σ 136 (bzKd σ Z a)).toNat (4 * bzKd σ Z a)
  have e2 := bzWm_rg (Z := Z) (v := Z.1 103 a) (bi σ 136 (bzKd σ Z a)).toNat (4 * bzKd σ Z a)
  split
  · rcases e1 with q | q
    · exact Or.inl q
    · exact Or.inr ⟨by omega, by omega, q.2.2⟩
  · rcases e2 with q | q
    · rename_i z; exact absurd q z
    · exact Or.inr ⟨by omega, by omega, q.2.2.1⟩
theorem r279 (h : bzO σ n Z) (E : bzRe σ n Z s) (R : bzRy Z s) (a0 : 0 ≤ a) (a1 : a < (n : Int)) (w : Z.1 140 a ≠ 0) (hf : f (bzPk σ Z a) s) : bWp (d + 1) 279 [.ref 12, .int (bn a)] s (bRn f) := by
  have n120 := h.2.1.1
  have E1 := E.2.2.2 a a0 a1
  obtain ⟨_, _, fi, kd, _⟩ := h.2.2.1 a a0 a1 w
  have c := h.1.2.1 _ kd.1 kd.2
  have e89 : bi s 89 (Z.1 107 a) = bzKd σ Z a := E.1.2.1 89 (by decide) _
  refine ⟨rfl, fun A hA => sq279_0 (bWp_mono _) hA ⟨by omega, by omega⟩ ?_⟩
  rw [E1.1 107 (by decide), e89, E.1.2.1 136 (by decide)]
  unfold bzPk at hf
  generalize bzKd σ Z a = κ at *
  generalize hc : bi σ 136 κ = γ at *
  refine ⟨⟨a0, by omega⟩, fi, ⟨by omega, by omega⟩, by omega, ⟨by omega, by omega⟩, ⟨by omega, by omega⟩, ?_⟩
  have Lp : ∀ (m r : Nat) (j : Int), (m : Int) + r = γ → j = 4 * κ + m - 1 → A (23, [.ref 12, .int (bn a), .int (bn κ), .int (bn (bzFr Z r (j + 1))), .int (bn (bzWm Z (Z.1 103 a) r (j + 1))), .int (bn j)], [], s) := by
    intro m
    induction m with
    | zero =>
      intro r j hr hj
      have e1 := bzFr_rg (Z := Z) r (j + 1)
      have e2 := bzWm_rg (Z := Z) (v := Z.1 103 a) r (j + 1)
      have er : r = γ.toNat := by omega
      have ej : j + 1 = 4 * κ := by omega
      rw [← er, ← ej] at hf
      refine sq279_23 (bWp_mono _) hA ⟨by omega, by omega⟩ ⟨by omega, by omega⟩ (by rcases e1 with q | q <;> exact ⟨by omega, by omega⟩) (by rcases e2 with q | q <;> exact ⟨by omega, by omega⟩) ⟨by omega, by omega⟩ ⟨⟨by omega, by omega⟩, fun _ => ⟨fun z => bRn_i (by rcases e1 with q | q <;> exact ⟨by omega, by omega⟩) (by rwa [if_pos z] at hf), fun z => bRn_i (by rcases e2 with q | q <;> exact ⟨by omega, by omega⟩) (by rwa [if_neg z] at hf)⟩, fun z => absurd (show j < 4 * κ by omega) z⟩
    | succ m ih =>
      intro r j hr hj
      have e1 := bzFr_rg (Z := Z) r (j + 1)
      have e2 := bzWm_rg (Z := Z) (v := Z.1 103 a) r (j + 1)
      have nx := ih (r + 1) (j - 1) (by omega) (by omega)
      rw [show j - 1 + 1 = j by omega] at nx
      have u1 : bzFr Z (r + 1) j = if Z.1 138 j = 0 then j else bzFr Z r (j + 1) := rfl
      have u2 : bzWm Z (Z.1 103 a) (r + 1) j = if Z.1 138 j = 0 ∧ Z.1 137 j = Z.1 103 a then j else bzWm Z (Z.1 103 a) r (j + 1) := rfl
      rw [u1, u2, show j - 1 = j + -1 by omega] at nx
      refine sq279_23 (bWp_mono _) hA ⟨by omega, by omega⟩ ⟨by omega, by omega⟩ (by rcases e1 with q | q <;> exact ⟨by omega, by omega⟩) (by rcases e2 with q | q <;> exact ⟨by omega, by omega⟩) ⟨by omega, by omega⟩ ⟨⟨by omega, by omega⟩, fun z => absurd z (by omega), fun _ => ⟨⟨by omega, by omega⟩, ?_⟩⟩
      rw [R.1 138 (by decide) j (by omega), R.1 137 (by decide) j (by omega), E1.1 103 (by decide)]
      refine ⟨fun z => ⟨fun _ => ⟨⟨a0, by omega⟩, fun y => ⟨⟨by omega, by omega⟩, by rwa [if_pos z, if_pos ⟨z, y⟩] at nx⟩, fun y => ⟨⟨by omega, by omega⟩, by rwa [if_pos z, if_neg fun q => y q.2] at nx⟩⟩, fun y => absurd z y⟩, fun z => ⟨fun y => absurd y z, fun _ => ⟨⟨by omega, by omega⟩, by rwa [if_neg z, if_neg fun q => z q.1] at nx⟩⟩⟩
  have := Lp γ.toNat 0 (4 * κ + γ - 1) (by omega) (by omega)
  exact this
end

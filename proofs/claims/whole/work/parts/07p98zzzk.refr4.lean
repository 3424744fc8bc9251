/-! BUILD, 7: the reference reads: what can begin, what begins next, when the next one ends -/
section
variable {d : Nat} {σ s t : bSt} {f : Int → bSt → Prop} {fv : bSt → Prop} {Z : bZs} {a i k x v lo hi : Int} {n : Nat} {K : bKy} {P : List (Int × bKy)}
theorem r267n (h : bzO σ n Z) (E : bzRe σ n Z s) (R : bzRc Z s) (a0 : 0 ≤ a) (a1 : a < (n : Int)) (w : Z.1 140 a ≠ 0) (h1 : bzK σ Z a ∈ Z.2.1 → ∀ v, 0 ≤ v → v < 32 → f v s) (h0 : bzK σ Z a ∉ Z.2.1 → f (-1) s) : bWp (d + 6) 267 [.ref 12, .int (bn a), .int (bn 0)] s (bRn f) := by
  obtain ⟨_, ⟨P, e, hP⟩, _⟩ := R
  refine r267 h E a0 a1 w (Or.inl ⟨rfl, rfl, rfl⟩) hP (fun k k0 k1 m => h1 ?_ k k0 k1) (fun m => h0 ?_)
  · rw [← e]; exact List.mem_map.2 ⟨_, m, rfl⟩
  · rw [← e]; exact m
theorem r267f (h : bzO σ n Z) (E : bzRe σ n Z s) (R : bzRc Z s) (a0 : 0 ≤ a) (a1 : a < (n : Int)) (w : Z.1 140 a ≠ 0) (h1 : bzK σ Z a ∈ Z.2.2.1 → ∀ v, 0 ≤ v → v < 80 → f v s) (h0 : bzK σ Z a ∉ Z.2.2.1 → f (-1) s) : bWp (d + 6) 267 [.ref 12, .int (bn a), .int (bn 1)] s (bRn f) := by
  obtain ⟨_, _, P, e, hP⟩ := R
  refine r267 h E a0 a1 w (Or.inr ⟨rfl, rfl, rfl⟩) hP (fun k k0 k1 m => h1 ?_ k (by omega) k1) (fun m => h0 ?_)
  · rw [← e]; exact List.mem_map.2 ⟨_, m, rfl⟩
  · rw [← e]; exact m
theorem bzCn_iff : bzCn σ Z a ↔ (Z.2.2.2 a = some (bzK σ Z a) ∨ bzK σ Z a ∈ Z.2.1 ∨ (bi σ 12 87 ≠ 0 ∧ bzK σ Z a ∈ Z.2.2.1)) ∨ bzBo σ Z a ∨ bzPk σ Z a ≠ -1 := by
  unfold bzCn bzCb bzEz
  simp only [Bool.or_eq_true, decide_eq_true_eq, or_assoc]
theorem r293 (h : bzO σ n Z) (I : bzIk n Z) (R : bzR0 σ n Z s) (a0 : 0 ≤ a) (a1 : a < (n : Int)) (w : Z.1 140 a ≠ 0) (hf : f (if bzCn σ Z a then 1 else 0) s) : bWp (d + 7) 293 [.ref 12, .int (bn a)] s (bRn f) := by
  have n120 := h.2.1.1
  obtain ⟨E, Rk, Rd, Rc⟩ := R
  have E1 := E.2.2.2 a a0 a1
  obtain ⟨_, _, fi, kd, _⟩ := h.2.2.1 a a0 a1 w
  have e91 : bi s 91 (Z.1 107 a) = bi σ 91 (Z.1 107 a) := E.1.2.1 91 (by decide) _
  have e87 := E.1.2.2.2.1
  refine ⟨rfl, fun A hA => sq293_0 (bWp_mono _) hA ⟨by omega, by omega⟩ (r271 (d := d) h I E Rk a0 a1 w ?_)⟩
  have yes : bzCn σ Z a → A (19, [.ref 12, .int (bn a), .float 0], [], s) := fun q => by
    rw [if_pos q] at hf
    exact sq293_19 (bWp_mono _) hA ⟨by omega, by omega⟩ (bRn_i (by decide) hf)
  have rest : ¬ (Z.2.2.2 a = some (bzK σ Z a) ∨ bzK σ Z a ∈ Z.2.1 ∨ (bi σ 12 87 ≠ 0 ∧ bzK σ Z a ∈ Z.2.2.1)) → A (21, [.ref 12, .int (bn a), .float 0], [], s) := fun q => by
    have pk : ¬ bzBo σ Z a → ∀ {g : Int → bSt → Prop}, (∀ r, g r s = ((r = (-1) → bRn f (.inl (some (.int (bn 0)))) s) ∧ (¬ r = (-1) → bRn f (.inl (some (.int (bn 1)))) s))) → bWp (d + 6) 279 [.ref 12, .int (bn a)] s (bRn g) := fun nb {g} hg => by
      refine r279 (d := d + 5) h E Rd a0 a1 w ?_
      rw [hg]
      refine ⟨fun z => bRn_i (by decide) ?_, fun z => bRn_i (by decide) ?_⟩
      · rwa [if_neg (fun y => by rcases bzCn_iff.1 y with y | y | y; exact q y; exact nb y; exact y z)] at hf
      · rwa [if_pos (bzCn_iff.2 (Or.inr (Or.inr z)))] at hf
    refine sq293_21 (bWp_mono _) hA ⟨by omega, by omega⟩ ?_
    rw [e87, E1.1 107 (by decide), e91]
    refine ⟨fun z => pk (fun y => y.2 z) (fun _ => rfl), fun z => ⟨⟨a0, by omega⟩, fi, fun z2 => pk (fun y => y.1 z2) (fun _ => rfl), fun z2 => bRn_i (by decide) ?_⟩⟩
    rwa [if_pos (bzCn_iff.2 (Or.inr (Or.inl ⟨z2, z⟩)))] at hf
  by_cases c1 : Z.2.2.2 a = some (bzK σ Z a)
  · rw [if_pos c1]
    exact ⟨fun z => absurd z (by decide), fun _ => yes (bzCn_iff.2 (Or.inl (Or.inl c1)))⟩
  · rw [if_neg c1]
    refine ⟨fun _ => r267n (d := d) h E Rc a0 a1 w (fun m v v0 v1 => ?_) (fun m => ?_), fun z => absurd rfl z⟩
    · exact ⟨fun z => absurd z (by omega), fun _ => yes (bzCn_iff.2 (Or.inl (Or.inr (Or.inl m))))⟩
    · refine ⟨fun _ => ?_, fun z => absurd rfl z⟩
      rw [e87]
      refine ⟨fun z => rest (fun y => by rcases y with y | y | y; exact c1 y; exact m y; exact y.1 z), fun z => r267f (d := d) h E Rc a0 a1 w (fun m2 v v0 v1 => ?_) (fun m2 => ?_)⟩
      · exact ⟨fun z => absurd z (by omega), fun _ => yes (bzCn_iff.2 (Or.inl (Or.inr (Or.inr ⟨z, m2⟩))))⟩
      · exact ⟨fun _ => rest (fun y => by rcases y with y | y | y; exact c1 y; exact m y; exact m2 y.2), fun z => absurd rfl z⟩
theorem bzNx_rg : ∀ k : Nat, bzNx σ Z k = -1 ∨ (0 ≤ bzNx σ Z k ∧ bzNx σ Z k < (k : Int) ∧ bzRd Z (bzNx σ Z k) ∧ bzCn σ Z (bzNx σ Z k))
  | 0 => Or.inl rfl
  | k + 1 => by
    unfold bzNx
    by_cases z : bzRd Z k ∧ (bzNx σ Z k = -1 ∨ Z.1 141 (bzNx σ Z k) < Z.1 141 k) ∧ bzCn σ Z k
    · rw [if_pos z]; exact Or.inr ⟨by omega, by omega, z.1, z.2.2⟩
    · rw [if_neg z]
      rcases bzNx_rg k with q | q
      · exact Or.inl q
      · exact Or.inr ⟨q.1, by omega, q.2.2⟩
theorem r292 (h : bzO σ n Z) (I : bzIk n Z) (R : bzR0 σ n Z s) (hf : f (bzNx σ Z n) s) : bWp (d + 8) 292 [.ref 12] s (bRn f) := by
  have n120 := h.2.1.1
  have E := R.1
  have Rd := R.2.2.1
  refine ⟨rfl, fun A hA => sq292_0 (bWp_mono _) hA ?_⟩
  have Lp : ∀ (m k : Nat) (v3 v4 : Value), k + m = n → A (4, [.ref 12, .int (bn (bzNx σ Z k)), .int (bn k), v3, v4], [], s) := by
    intro m
    induction m with
    | zero =>
      intro k v3 v4 hk
      have ek : k = n := by omega
      subst ek
      have r := bzNx_rg (σ := σ) (Z := Z) k
      have rb : bRg (bzNx σ Z k) := by rcases r with q | q <;> exact ⟨by omega, by omega⟩
      refine sq292_4 (bWp_mono _) hA rb ⟨by omega, by omega⟩ ?_
      rw [E.2.2.1]
      exact ⟨fun z => absurd z (Int.lt_irrefl _), fun _ => bRn_i rb hf⟩
    | succ m ih =>
      intro k v3 v4 hk
      have r := bzNx_rg (σ := σ) (Z := Z) k
      have rb : bRg (bzNx σ Z k) := by rcases r with q | q <;> exact ⟨by omega, by omega⟩
      have k1 : (k : Int) < (n : Int) := by omega
      obtain ⟨o1, o2, o3⟩ := h.2.1.2 k (by omega) k1
      have E1 := E.2.2.2 k (by omega) k1
      have nx := fun v3 v4 => ih (k + 1) v3 v4 (by omega)
      rw [show ((k + 1 : Nat) : Int) = (k : Int) + 1 by omega] at nx
      have uNx : bzNx σ Z (k + 1) = if bzRd Z k ∧ (bzNx σ Z k = -1 ∨ Z.1 141 (bzNx σ Z k) < Z.1 141 k) ∧ bzCn σ Z k then (k : Int) else bzNx σ Z k := rfl
      rw [uNx] at nx
      -- it can not
      have no : ¬ (bzRd Z k ∧ (bzNx σ Z k = -1 ∨ Z.1 141 (bzNx σ Z k) < Z.1 141 k) ∧ bzCn σ Z k) → ∀ v3 v4, bRg ((k : Int) + 1) ∧ A (4, [.ref 12, .int (bn (bzNx σ Z k)), .int (bn ((k : Int) + 1)), v3, v4], [], s) := fun q v3 v4 => ⟨⟨by omega, by omega⟩, by have := nx v3 v4; rwa [if_neg q] at this⟩
      have n39 : ¬ (bzRd Z k ∧ (bzNx σ Z k = -1 ∨ Z.1 141 (bzNx σ Z k) < Z.1 141 k) ∧ bzCn σ Z k) → ∀ j, bRg j → A (39, [.ref 12, .int (bn (bzNx σ Z k)), .int (bn k), .int (bn 0), .int (bn j)], [], s) := fun q j rj => by
        refine sq292_39 (bWp_mono _) hA rb ⟨by omega, by omega⟩ (by decide) rj ?_
        rw [E1.1 105 (by decide)]
        exact ⟨⟨by omega, by omega⟩, ⟨by omega, by omega⟩, ⟨by omega, by omega⟩, fun _ => ⟨fun _ => ⟨fun _ => no q _ _, fun z => absurd rfl z⟩, fun z => absurd rfl z⟩, fun _ => ⟨fun _ => no q _ _, fun z => absurd rfl z⟩⟩
      refine sq292_4 (bWp_mono _) hA rb ⟨by omega, by omega⟩ ?_
      rw [E.2.2.1, E1.1 140 (by decide), Rd.1 143 (by decide) k (by omega), E1.1 141 (by decide)]
      refine ⟨fun _ => ⟨⟨by omega, by omega⟩, fun z => ⟨⟨by omega, by omega⟩, n39 (fun q => q.1.1 z) _ ⟨by omega, by omega⟩⟩, fun w => ⟨fun bg => ?_, fun z => ⟨⟨by omega, by omega⟩, n39 (fun q => z q.1.2.1) _ ⟨by omega, by omega⟩⟩⟩⟩, fun z => absurd k1 z⟩
      -- its inputs
      have go : (bzNx σ Z k = -1 ∨ Z.1 141 (bzNx σ Z k) < Z.1 141 k) → A (39, [.ref 12, .int (bn (bzNx σ Z k)), .int (bn k), .int (bn 1), .int (bn (40 * (k : Int)))], [], s) := fun bt => by
        have L2 : ∀ (m2 j : Nat), (j : Int) + m2 = Z.1 105 k → A (39, [.ref 12, .int (bn (bzNx σ Z k)), .int (bn k), .int (bn (if bzIn Z k j = true then 1 else 0)), .int (bn (40 * (k : Int) + j))], [], s) := by
          intro m2
          induction m2 with
          | zero =>
            intro j hj
            by_cases q : bzIn Z k j = true
            · rw [if_pos q]
              refine sq292_39 (bWp_mono _) hA rb ⟨by omega, by omega⟩ (by decide) ⟨by omega, by omega⟩ ?_
              rw [E1.1 105 (by decide)]
              refine ⟨⟨by omega, by omega⟩, ⟨by omega, by omega⟩, ⟨by omega, by omega⟩, fun z => absurd z (by omega), fun _ => ⟨fun z => absurd z (by decide), fun _ => r293 (d := d) h I R (by omega) k1 w ?_⟩⟩
              have rd : bzRd Z k := ⟨w, bg, by rw [show (Z.1 105 k).toNat = j by omega]; exact q⟩
              by_cases cn : bzCn σ Z k
              · rw [if_pos cn]
                exact ⟨fun z => absurd z (by decide), fun _ => ⟨⟨by omega, by omega⟩, by have := nx (.int (bn 1)) (.int (bn (40 * (k : Int) + j))); rwa [if_pos ⟨rd, bt, cn⟩] at this⟩⟩
              · rw [if_neg cn]
                exact ⟨fun _ => no (fun y => cn y.2.2) _ _, fun z => absurd rfl z⟩
            · rw [if_neg q]
              exact n39 (fun y => q (by rw [show j = (Z.1 105 k).toNat by omega]; exact y.1.2.2)) _ ⟨by omega, by omega⟩
          | succ m2 ih2 =>
            intro j hj
            by_cases q : bzIn Z k j = true
            · rw [if_pos q]
              have n2 := ih2 (j + 1) (by omega)
              have ui : bzIn Z k (j + 1) = (bzIn Z k j && decide (Z.1 106 (40 * k + j) < 48 ∨ bzD Z (Z.1 106 (40 * k + j) - 100))) := rfl
              rw [ui, q, Bool.true_and, show 40 * (k : Int) + ((j + 1 : Nat) : Int) = 40 * (k : Int) + j + 1 by omega] at n2
              have iq := o3 j (by omega) (by omega)
              refine sq292_39 (bWp_mono _) hA rb ⟨by omega, by omega⟩ (by decide) ⟨by omega, by omega⟩ ?_
              rw [E1.1 105 (by decide), E1.2 j (by omega) (by omega)]
              refine ⟨⟨by omega, by omega⟩, ⟨by omega, by omega⟩, ⟨by omega, by omega⟩, fun _ => ⟨fun z => absurd z (by decide), fun _ => ⟨⟨by omega, by omega⟩, fun z => ⟨⟨by omega, by omega⟩, ?_⟩, fun z => ⟨⟨by omega, by omega⟩, r281 Rd (by omega) (by omega) ?_⟩⟩⟩, fun z => absurd (show 40 * (k : Int) + j < 40 * k + Z.1 105 k by omega) z⟩
              · rwa [if_pos (decide_eq_true (Or.inl z))] at n2
              · by_cases dn : bzD Z (Z.1 106 (40 * k + j) - 100)
                · rw [if_pos dn]
                  exact ⟨fun y => absurd y (by decide), fun _ => ⟨⟨by omega, by omega⟩, by rwa [if_pos (decide_eq_true (Or.inr dn))] at n2⟩⟩
                · rw [if_neg dn]
                  exact ⟨fun _ => ⟨⟨by omega, by omega⟩, by rwa [if_neg (fun y => (of_decide_eq_true y).elim z dn)] at n2⟩, fun y => absurd rfl y⟩
            · rw [if_neg q]
              refine n39 (fun y => q ?_) _ ⟨by omega, by omega⟩
              have pre : ∀ (c e : Nat), bzIn Z k (c + e) = true → bzIn Z k c = true := fun c e => by
                induction e with
                | zero => exact id
                | succ e ihe =>
                  intro hy
                  have u : bzIn Z k (c + e + 1) = (bzIn Z k (c + e) && decide (Z.1 106 (40 * k + ((c + e : Nat) : Int)) < 48 ∨ bzD Z (Z.1 106 (40 * k + ((c + e : Nat) : Int)) - 100))) := rfl
                  have hy2 : bzIn Z k (c + e + 1) = true := hy
                  rw [u, Bool.and_eq_true] at hy2
                  exact ihe hy2.1
              refine pre j (m2 + 1) ?_
              rw [show j + (m2 + 1) = (Z.1 105 k).toNat by omega]
              exact y.1.2.2
        have := L2 (Z.1 105 k).toNat 0 (by omega)
        rw [show bzIn Z k 0 = true from rfl, if_pos rfl, show 40 * (k : Int) + ((0 : Nat) : Int) = 40 * k by omega] at this
        exact this
      refine ⟨fun z => ⟨⟨by omega, by omega⟩, go (Or.inl z)⟩, fun z => ?_⟩
      have r2 := r.resolve_left z
      rw [(E.2.2.2 _ r2.1 (by omega)).1 141 (by decide)]
      exact ⟨⟨r2.1, by omega⟩, fun y => ⟨⟨by omega, by omega⟩, go (Or.inr y)⟩, fun y => ⟨⟨by omega, by omega⟩, n39 (fun q => q.2.1.elim z y) _ ⟨by omega, by omega⟩⟩⟩
  exact Lp n 0 _ _ (by omega)
end

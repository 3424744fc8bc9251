/-! BUILD, 54: the reference: is one of them in error; the class: the action made for a target -/
section
variable {d lvl : Nat} {σ s s0 t r s' : bSt} {f : Int → bSt → Prop} {fa : Nat → bSt → Prop} {fv : bSt → Prop} {A : bPt → Prop} {x y v a b i q c : Int} {n n0 m k : Nat} {Q : Int → Prop}
theorem r284 (hL : bTl s) (tc : 0 ≤ bi s 12 22 ∧ bi s 12 22 ≤ 16) (X : bMs Q x) (hQ : ∀ t, 0 ≤ t → t < 16 → Q t → t < bi s 12 22) (h1 : ∀ t, 0 ≤ t → t < 16 → Q t → bi s 95 (256 * t + bi s 10 0) ≠ 0 → f 1 s) (h0 : (∀ t, 0 ≤ t → t < 16 → Q t → bi s 95 (256 * t + bi s 10 0) = 0) → f 0 s) : bWp (d + 2) 284 [.ref 12, .int (bn x)] s (bRn f) := by
  have hc : 0 ≤ bi s 10 0 ∧ bi s 10 0 < 256 := by
    have e := hL.2.2.2
    have a0 := hL.2.2.1 0 (by decide) (by decide)
    have a1 := hL.2.2.1 1 (by decide) (by decide)
    have a2 := hL.2.2.1 2 (by decide) (by decide)
    have a3 := hL.2.2.1 3 (by decide) (by decide)
    omega
  have hm : bRg x := ⟨by have := X.1.1; omega, by have := X.1.2; omega⟩
  refine ⟨rfl, fun A hA => sq284_0 (bWp_mono _) hA hm ?_⟩
  have Lp : ∀ (k m : Nat) (v : Int), (m : Int) + k = bi s 12 22 → (v = 0 ∧ (∀ t, 0 ≤ t → t < (m : Int) → Q t → bi s 95 (256 * t + bi s 10 0) = 0) ∨ v = 1 ∧ ∃ t, 0 ≤ t ∧ t < (m : Int) ∧ Q t ∧ bi s 95 (256 * t + bi s 10 0) ≠ 0) → A (4, [.ref 12, .int (bn x), .int (bn v), .int (bn m)], [], s) := by
    intro k
    induction k with
    | zero =>
      intro m v hk hv
      have rv : bRg v := by rcases hv with ⟨e, _⟩ | ⟨e, _⟩ <;> rw [e] <;> decide
      refine sq284_4 (bWp_mono _) hA hm rv ⟨by omega, by omega⟩ ⟨fun y => absurd y (by omega), fun _ => ⟨by rcases hv with ⟨e, _⟩ | ⟨e, _⟩ <;> omega, bRn_i rv ?_⟩⟩
      rcases hv with ⟨e, q⟩ | ⟨e, t, t0, t1, t2, t3⟩
      · rw [e]
        exact h0 fun t t0 t1 t2 => q t t0 (by have := hQ t t0 t1 t2; omega) t2
      · rw [e]
        exact h1 t t0 (by omega) t2 t3
    | succ k ih =>
      intro m v hk hv
      have m16 : (m : Int) < 16 := by omega
      have rm : bRg ((m : Int) + 1) := ⟨by omega, by omega⟩
      have nx := ih (m + 1)
      rw [show ((m + 1 : Nat) : Int) = (m : Int) + 1 by omega] at nx
      have nx := fun v => nx v (by omega)
      have bit := bMs_i X (i := m) (by omega) m16
      have rv : bRg v := by rcases hv with ⟨e, _⟩ | ⟨e, _⟩ <;> rw [e] <;> decide
      refine sq284_4 (bWp_mono _) hA hm rv ⟨by omega, by omega⟩ ⟨fun _ => ⟨fun z => ?_, fun z => ⟨rm, ?_⟩⟩, fun y => absurd (show (m : Int) < bi s 12 22 by omega) y⟩
      · have q := (hv.resolve_right (fun w => by omega)).2
        refine ⟨fun y => ⟨⟨by omega, by omega⟩, w238 (d := d) hL ⟨⟨by omega, by omega⟩, ⟨by omega, by omega⟩, fun e => ⟨rm, ?_⟩, fun e => ⟨rm, ?_⟩⟩⟩, fun y => ⟨rm, ?_⟩⟩
        · refine nx 0 (Or.inl ⟨rfl, fun t t0 t1 t2 => ?_⟩)
          by_cases e2 : t = m
          · rw [e2]; exact e
          · exact q t t0 (by omega) t2
        · exact nx 1 (Or.inr ⟨rfl, m, by omega, by omega, bit.1 y, e⟩)
        · refine nx 0 (Or.inl ⟨rfl, fun t t0 t1 t2 => ?_⟩)
          by_cases e2 : t = m
          · rw [e2] at t2; exact absurd (bit.2 t2) y
          · exact q t t0 (by omega) t2
      · obtain ⟨e, t, t0, t1, t2, t3⟩ := hv.resolve_left (fun w => z w.1)
        exact nx 1 (Or.inr ⟨rfl, t, t0, by omega, t2, t3⟩)
  exact Lp (bi s 12 22).toNat 0 0 (by omega) (Or.inl ⟨rfl, fun t t0 t1 => by omega⟩)
/-- the action that was made for a target -/
theorem w82 (h0 : 0 ≤ c ∧ c < 16) (hc : 0 ≤ bi s 10 0 ∧ bi s 10 0 < 256) (ha : bi s 30 (c * 256 + bi s 10 0) = a) (a0 : 0 ≤ a) (a1 : a < 121) (hz : br s 33 a = some (bAi a)) (h : fa (bAi a) s) : bWp (d + 2) 82 [.ref 6, .int (bn c)] s (bRa fa) := by
  refine ⟨rfl, fun A hA => sq82_0 (bWp_mono _) hA ⟨by omega, by omega⟩ (w69 (d := d) h0 hc (w140i (n := 4096) rfl rfl (by decide) (by omega) (by omega) ?_))⟩
  rw [ha]
  exact w89 hz a0 a1 h
/-- the count of those that are done, in the class -/
theorem w46c {P D : Int → Bool} {v1 v2 v3 : Value} (hA : bClosed lvl bm46 (bWp (d + 8)) (bRn f) A) (hx : bRg x) (hc : 0 ≤ bi s 10 0 ∧ bi s 10 0 < 256) (hP : ∀ t, 0 ≤ t → t < 16 → (bAnd (bShr x t) 1 = 1 ↔ P t = true)) (hD : ∀ t, 0 ≤ t → t < 16 → P t = true → ∃ a, bi s 30 (t * 256 + bi s 10 0) = a ∧ 0 ≤ a ∧ a < 121 ∧ br s 33 a = some (bAi a) ∧ -1 ≤ bi s (bAi a) 10 ∧ (D t = true ↔ 0 ≤ bi s (bAi a) 10 ∧ bi s (bAi a) 10 ≤ 4)) (h : f (bCnp (fun t => P t && D t) 16) s) : ∀ v7, A (40, [.ref 5, v1, v2, v3, .int (bn x), .int (bn 0), .int (bn 0), v7], [], s) := by
  have Lp : ∀ (k m : Nat) (v7 : Value), m + k = 16 → A (40, [.ref 5, v1, v2, v3, .int (bn x), .int (bn (bCnp (fun t => P t && D t) m)), .int (bn m), v7], [], s) := by
    intro k
    induction k with
    | zero =>
      intro m v7 hk
      have em : m = 16 := by omega
      subst em
      have b := bCn_b (P := fun t => P t && D t) 16
      exact sq46_40 (bWp_mono _) hA hx ⟨by omega, by omega⟩ (by decide) ⟨fun y => absurd y (by decide), fun _ => bRn_i ⟨by omega, by omega⟩ h⟩
    | succ k ih =>
      intro m v7 hk
      have m16 : (m : Int) < 16 := by omega
      have b := bCn_b (P := fun t => P t && D t) m
      have rm : bRg ((m : Int) + 1) := ⟨by omega, by omega⟩
      have u : bCnp (fun t => P t && D t) (m + 1) = (if (P m && D m) = true then 1 else 0) + bCnp (fun t => P t && D t) m := rfl
      have nx := fun v7 => ih (m + 1) v7 (by omega)
      rw [u, show ((m + 1 : Nat) : Int) = (m : Int) + 1 by omega] at nx
      generalize bCnp (fun t => P t && D t) m = w at *
      have hp := hP m (by omega) m16
      refine sq46_40 (bWp_mono _) hA hx ⟨by omega, by omega⟩ ⟨by omega, by omega⟩ ⟨fun _ => ⟨fun y => ?_, fun y => ?_⟩, fun y => absurd m16 y⟩
      · have pt := hp.1 y
        obtain ⟨a, e30, a0, a1, e33, r10, dn⟩ := hD m (by omega) m16 pt
        refine w82 (d := d + 6) ⟨by omega, by omega⟩ hc e30 a0 a1 e33 ⟨bAi_0, w10 (d := d + 7) bAi_0 r10 (fun q => ?_) fun q => ?_⟩
        · have d1 := dn.2 q
          refine ⟨fun z => absurd z (by decide), fun _ => ⟨⟨by omega, by omega⟩, rm, ?_⟩⟩
          rw [if_pos (by rw [pt, d1]; rfl), Int.add_comm] at nx
          exact nx _
        · have d1 : D m = false := Bool.eq_false_iff.2 fun z => q (dn.1 z)
          refine ⟨fun _ => ⟨⟨by omega, by omega⟩, rm, ?_⟩, fun z => absurd rfl z⟩
          rw [if_neg (by rw [pt, d1]; decide), Int.add_comm] at nx
          exact nx _
      · have pf : P m = false := Bool.eq_false_iff.2 fun z => y (hp.2 z)
        refine ⟨⟨by omega, by omega⟩, rm, ?_⟩
        rw [if_neg (by rw [pf]; simp), Int.add_comm] at nx
        exact nx _
  exact fun v7 => Lp 16 0 v7 (by omega)
end

/-! THE GRAPH OF TARGETS, 2: the programs that make sets -/
section
variable {d : Nat} {σ s t : bSt} {f : Int → bSt → Prop} {fv : bSt → Prop} {x y k c : Int} {m : Nat}
theorem w112 (hc : bi σ (bTi x) 13 = c) (h0 : 0 ≤ k) (h1 : k < c) (h6 : c ≤ 6) (h : f (bi σ (bTi x + 38) k) σ) : bWp (d + 2) 112 [.ref (bTi x), .int (bn k)] σ (bRn f) :=
  ⟨rfl, fun A hA => sq112_0 (bWp_mono _) hA bTi_m ⟨by omega, by omega⟩ (bTt (by omega) (by rw [bTi_46]; exact w140i (n := 6) bTi_t.1 (bTi_l _).1 (by decide) h0 (by omega) (bRn_i (bi_rg _ _ _) h)))⟩
theorem w122 (hT : bTg σ) (q : bTgk σ x) (h : ∀ m, bMs (bEd σ x) m → f m σ) : bWp (d + 3) 122 [.ref 9, .int (bn x)] σ (bRn f) := by
  obtain ⟨e9, e16, e0⟩ := bTk_r hT
  have q0 := q.1
  have q1 := q.2
  have hc := (hT.2.2.2 x q.1 q.2).2.2.2.2.2.2.2.2.2.2.2.2.1
  have hI := (hT.2.2.2 x q.1 q.2).2.2.2.2.2.2.2.2.2.2.2.2.2.2
  refine ⟨rfl, fun A hA => sq122_0 (bWp_mono _) hA ⟨by omega, by omega⟩ (w120 (hT.2.1 x q.1 q.2) q.1 (by omega) ?_)⟩
  have K : ∀ (n : Nat) (k m : Int) (v : Value), k + n = bi σ 85 x → 0 ≤ k → bMs (bEdk σ x k) m → A (8, [.ref 9, .int (bn x), .ref (bTi x), .int (bn m), .int (bn k), v], [], σ) := by
    intro n
    induction n with
    | zero =>
      intro k m v hk k0 hm
      have hr := hm.1
      refine sq122_8 (bWp_mono _) hA ⟨by omega, by omega⟩ ⟨by omega, by omega⟩ ⟨bTi_m, bFf (by rw [hc.1]; omega) (bRn_i ⟨by omega, by omega⟩ (h m ?_))⟩
      rw [show k = bi σ 85 x by omega] at hm
      exact hm
    | succ n ih =>
      intro k m v hk k0 hm
      have hr := hm.1
      have hi := hI k k0 (by omega)
      refine sq122_8 (bWp_mono _) hA ⟨by omega, by omega⟩ ⟨by omega, by omega⟩ ⟨bTi_m, bTt (by rw [hc.1]; omega) (w112 hc.1 k0 (by omega) hc.2.2 ?_)⟩
      rcases hi.2 with ⟨a, b, c, e⟩ | ⟨a, b, c, e⟩ | ⟨a, b, c, e⟩
      · refine bTt (by omega) ⟨⟨by omega, by omega⟩, ih _ _ _ (by omega) (by omega) (bMs_c hm fun i _ _ => ?_)⟩
        rw [bEdk_s k0, a]
        exact ⟨Or.inl, fun z => z.elim id (fun z => absurd z.1 (by decide))⟩
      · have := hi.1
        refine bFf (by omega) (bFf (by omega) ⟨⟨by omega, by omega⟩, ih _ _ _ (by omega) (by omega) (bMs_c hm fun i _ _ => ?_)⟩)
        rw [bEdk_s k0, a]
        exact ⟨Or.inl, fun z => z.elim id (fun z => absurd z.1 (by decide))⟩
      · refine bFf (by omega) (bTt (by omega) ⟨⟨by omega, by omega⟩, ⟨by omega, by omega⟩, ih _ _ _ (by omega) (by omega) ?_⟩)
        rw [show bi σ (bTi x + 38) k - 100 = bi σ 87 (6 * x + k) by omega]
        refine bMs_c (bMs_or hm (bMs_shl b (by omega))) fun i _ _ => ?_
        rw [bEdk_s k0, a]
        exact or_congr Iff.rfl ⟨fun z => ⟨rfl, z⟩, fun z => z.2⟩
  exact K (bi σ 85 x).toNat 0 0 _ (by omega) (by decide) (bMs_c bMs_0 fun i _ _ => ⟨False.elim, bEdk_0⟩)
theorem w123 (hT : bTg σ) (q : bTgk σ x) (h : ∀ m, bMs (bBe σ x (x.toNat + 1)) m → f m σ) : bWp (d + 4) 123 [.ref 9, .int (bn x)] σ (bRn f) := by
  obtain ⟨e9, e16, e0⟩ := bTk_r hT
  have q0 := q.1
  have q1 := q.2
  refine ⟨rfl, fun A hA => sq123_0 (bWp_mono _) hA ⟨by omega, by omega⟩ ?_⟩
  have K : ∀ (n j : Nat) (l m : Int) (v : Value), j + n = x.toNat + 1 → l = x - j → bMs (bBe σ x j) m → A (6, [.ref 9, v, .int (bn m), .int (bn l)], [], σ) := by
    intro n
    induction n with
    | zero =>
      intro j l m v hj hl hm
      have hr := hm.1
      refine sq123_6 (bWp_mono _) hA ⟨by omega, by omega⟩ ⟨by omega, by omega⟩ (bTt (by omega) (bRn_i ⟨by omega, by omega⟩ (h m ?_)))
      rwa [show j = x.toNat + 1 by omega] at hm
    | succ n ih =>
      intro j l m v hj hl hm
      have hr := hm.1
      have hb := bMs_i hm (i := l) (by omega) (by omega)
      refine sq123_6 (bWp_mono _) hA ⟨by omega, by omega⟩ ⟨by omega, by omega⟩ (bFf (by omega) ⟨fun z => w122 hT ⟨by omega, by omega⟩ fun r hr2 => ⟨⟨by omega, by omega⟩, ih (j + 1) _ _ _ (by omega) (by omega) (bMs_c (bMs_or hm hr2) fun i _ _ => ?_)⟩, fun z => ⟨⟨by omega, by omega⟩, ih (j + 1) _ _ _ (by omega) (by omega) (bMs_c hm fun i _ _ => ?_)⟩⟩)
      · show _ ↔ bBe σ x j i ∨ (bBe σ x j (x - j) ∧ bEd σ (x - j) i)
        rw [← hl]
        exact or_congr Iff.rfl ⟨fun w => ⟨hb.mp z, w⟩, fun w => w.2⟩
      · show _ ↔ bBe σ x j i ∨ (bBe σ x j (x - j) ∧ bEd σ (x - j) i)
        rw [← hl]
        exact ⟨Or.inl, fun w => w.elim id (fun w => absurd (hb.mpr w.1) z)⟩
  exact K (x.toNat + 1) 0 x _ _ (by omega) (by omega) (bMs_shl q0 (by omega))
theorem w124 (hT : bTg σ) (q : bTgk σ x) (h : ∀ m P, bMs P m → bUpn σ x (bi σ 12 22) P → f m σ) : bWp (d + 4) 124 [.ref 9, .int (bn x)] σ (bRn f) := by
  obtain ⟨e9, e16, e0⟩ := bTk_r hT
  have q0 := q.1
  have q1 := q.2
  refine ⟨rfl, fun A hA => sq124_0 (bWp_mono _) hA ⟨by omega, by omega⟩ ⟨⟨by omega, by omega⟩, ?_⟩⟩
  have K : ∀ (n : Nat) (l m : Int) (v : Value) (P : Int → Prop), l + n = bi σ 12 22 → x < l → bMs P m → bUpn σ x l P → A (8, [.ref 9, v, .int (bn m), .int (bn l)], [], σ) := by
    intro n
    induction n with
    | zero =>
      intro l m v P hl hx hm hu
      have hr := hm.1
      refine sq124_8 (bWp_mono _) hA ⟨by omega, by omega⟩ ⟨by omega, by omega⟩ ?_
      rw [e9]
      refine bFf (by omega) (bRn_i ⟨by omega, by omega⟩ (h m P hm ?_))
      rwa [show l = bi σ 12 22 by omega] at hu
    | succ n ih =>
      intro l m v P hl hx hm hu
      have hr := hm.1
      refine sq124_8 (bWp_mono _) hA ⟨by omega, by omega⟩ ⟨by omega, by omega⟩ ?_
      rw [e9]
      refine bTt (by omega) (w122 hT ⟨by omega, by omega⟩ fun r hr2 => ?_)
      have hz := bMs_z (bMs_and hr2 hm)
      refine ⟨fun z => ⟨⟨by omega, by omega⟩, ih _ _ _ _ (by omega) (by omega) (bMs_c hm fun i _ _ => ?_) (bUpn_s hT (by omega) (by omega) hx hu)⟩, fun z => ⟨⟨by omega, by omega⟩, ih _ _ _ _ (by omega) (by omega) (bMs_c (bMs_or hm (bMs_shl (k := l) (by omega) (by omega))) fun i _ _ => ?_) (bUpn_s hT (by omega) (by omega) hx hu)⟩⟩
      · refine ⟨Or.inl, fun w => w.elim id fun ⟨_, j, a, b⟩ => ?_⟩
        have := bEd_lt hT ⟨by omega, by omega⟩ a
        exact absurd ⟨a, b⟩ (hz.mp z j (by omega) (by omega))
      · refine or_congr Iff.rfl ⟨fun w => ⟨w, ?_⟩, fun w => w.1⟩
        refine Classical.byContradiction fun w2 => z (hz.mpr fun j _ _ w3 => w2 ⟨j, w3.1, w3.2⟩)
  exact K (bi σ 12 22 - (x + 1)).toNat _ _ _ _ (by omega) (by omega) (bMs_shl q0 (by omega)) (bUpn_0 hT q)
theorem w311 (hT : bTg σ) (q : bTgk σ x) (h : ∀ m, bMs (bBe σ x (x.toNat + 1)) m → f m σ) : bWp (d + 1) 311 [.ref 12, .int (bn x)] σ (bRn f) := by
  obtain ⟨e9, e16, e0⟩ := bTk_r hT
  have q0 := q.1
  have q1 := q.2
  refine ⟨rfl, fun A hA => sq311_0 (bWp_mono _) hA ⟨by omega, by omega⟩ ?_⟩
  have K : ∀ (n j : Nat) (l m : Int) (v v2 : Value), j + n = x.toNat + 1 → l = x - j → bMs (bBe σ x j) m → A (6, [.ref 12, v, .int (bn m), .int (bn l), v2], [], σ) := by
    intro n
    induction n with
    | zero =>
      intro j l m v v2 hj hl hm
      have hr := hm.1
      refine sq311_6 (bWp_mono _) hA ⟨by omega, by omega⟩ ⟨by omega, by omega⟩ (bTt (by omega) (bRn_i ⟨by omega, by omega⟩ (h m ?_)))
      rwa [show j = x.toNat + 1 by omega] at hm
    | succ n ih =>
      intro j l m v v2 hj hl hm
      have hr := hm.1
      have hc := (hT.2.2.2 l (by omega) (by omega)).2.2.2.2.2.2.2.2.2.2.2.2.1.2
      have hI := (hT.2.2.2 l (by omega) (by omega)).2.2.2.2.2.2.2.2.2.2.2.2.2.2
      refine sq311_6 (bWp_mono _) hA ⟨by omega, by omega⟩ ⟨by omega, by omega⟩ (bFf (by omega) ⟨⟨by omega, by omega⟩, ?_⟩)
      have eB : ∀ i, bBe σ x (j + 1) i ↔ bBe σ x j i ∨ (bBe σ x j l ∧ bEd σ l i) := fun i => by
        show bBe σ x j i ∨ (bBe σ x j (x - j) ∧ bEd σ (x - j) i) ↔ _
        rw [← hl]
      have K2 : ∀ (n2 : Nat) (k m : Int) (v : Value), k + n2 = bi σ 85 l → 0 ≤ k → bMs (fun i => bBe σ x j i ∨ (bBe σ x j l ∧ bEdk σ l k i)) m → A (12, [.ref 12, v, .int (bn m), .int (bn l), .int (bn (6 * l + k))], [], σ) := by
        intro n2
        induction n2 with
        | zero =>
          intro k m v hk k0 hm
          have hr := hm.1
          refine sq311_12 (bWp_mono _) hA ⟨by omega, by omega⟩ ⟨by omega, by omega⟩ ⟨by omega, by omega⟩ ⟨⟨by omega, by omega⟩, ⟨by omega, by omega⟩, ⟨by omega, by omega⟩, bFf (by omega) ⟨⟨by omega, by omega⟩, ih (j + 1) _ _ _ _ (by omega) (by omega) (bMs_c hm fun i _ _ => ?_)⟩⟩
          rw [eB, show k = bi σ 85 l by omega]
          rfl
        | succ n2 ih2 =>
          intro k m v hk k0 hm
          have hr := hm.1
          have hb : bAnd (bShr m l) 1 = 1 ↔ bBe σ x j l := (bMs_i hm (i := l) (by omega) (by omega)).trans ⟨fun z => z.elim id (fun z => z.1), Or.inl⟩
          have hi := (hI k k0 (by omega)).2
          refine sq311_12 (bWp_mono _) hA ⟨by omega, by omega⟩ ⟨by omega, by omega⟩ ⟨by omega, by omega⟩ ⟨⟨by omega, by omega⟩, ⟨by omega, by omega⟩, ⟨by omega, by omega⟩, bTt (by omega) ⟨fun z => ⟨⟨by omega, by omega⟩, fun a => ⟨⟨by omega, by omega⟩, ?_⟩, fun a => ⟨⟨by omega, by omega⟩, ?_⟩⟩, fun z => ⟨⟨by omega, by omega⟩, ih (j + 1) _ _ _ _ (by omega) (by omega) (bMs_c hm fun i _ _ => ?_)⟩⟩⟩
          · rw [show 6 * l + k + 1 = 6 * l + (k + 1) by omega]
            refine ih2 _ _ _ (by omega) (by omega) (bMs_c (bMs_or hm (bMs_shl (k := bi σ 87 (6 * l + k)) (by omega) (by omega))) fun i _ _ => ?_)
            rw [bEdk_s k0]
            exact ⟨fun w => w.elim (fun w => w.elim Or.inl (fun w => Or.inr ⟨w.1, Or.inl w.2⟩)) (fun w => Or.inr ⟨hb.mp z, Or.inr ⟨a, w⟩⟩), fun w => w.elim (fun w => Or.inl (Or.inl w)) (fun w => w.2.elim (fun w2 => Or.inl (Or.inr ⟨w.1, w2⟩)) (fun w2 => Or.inr w2.2))⟩
          · rw [show 6 * l + k + 1 = 6 * l + (k + 1) by omega]
            refine ih2 _ _ _ (by omega) (by omega) (bMs_c (bMs_or hm bMs_0) fun i _ _ => ?_)
            rw [bEdk_s k0]
            exact ⟨fun w => w.elim (fun w => w.elim Or.inl (fun w => Or.inr ⟨w.1, Or.inl w.2⟩)) False.elim, fun w => Or.inl (w.elim Or.inl (fun w => w.2.elim (fun w2 => Or.inr ⟨w.1, w2⟩) (fun w2 => absurd w2.1 a)))⟩
          · rw [eB]
            have nb := fun w => z (hb.mpr w)
            exact ⟨fun w => w.elim Or.inl (fun w => absurd w.1 nb), fun w => w.elim Or.inl (fun w => absurd w.1 nb)⟩
      have := K2 (bi σ 85 l).toNat 0 m v (by omega) (by decide) (bMs_c hm fun i _ _ => ⟨Or.inl, fun z => z.elim id (fun z => absurd z.2 bEdk_0)⟩)
      rwa [show 6 * l + 0 = 6 * l by omega] at this
  exact K (x.toNat + 1) 0 x _ _ _ (by omega) (by omega) (bMs_shl q0 (by omega))
end

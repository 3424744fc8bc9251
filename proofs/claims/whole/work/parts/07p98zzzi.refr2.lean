/-! BUILD, 5: the reference reads: what fits, what can begin, what begins next -/
/-- what is kept: in the model, in the reference -/
def bzIk (n : Nat) (Z : bZs) : Prop := ∀ a, 0 ≤ a → a < (n : Int) → ∀ K, Z.2.2.2 a = some K → bKg K ∧ (K.1 = Z.1 101 a ∧ K.2.1 = Z.1 102 a ∧ K.2.2.1 = Z.1 103 a) ∧ K.2.2.2.1.length = (Z.1 105 a).toNat ∧ Z.1 112 a = bKv K
def bzRk (n : Nat) (Z : bZs) (s : bSt) : Prop := ∀ a, 0 ≤ a → a < (n : Int) → (Z.2.2.2 a = none → bi s 110 a = 0 ∧ bi s 111 a = 0 ∧ 0 ≤ bi s 114 a ∧ bi s 114 a ≤ 48) ∧ ∀ K, Z.2.2.2 a = some K → bi s 110 a = 1 ∧ bi s 111 a = 1 ∧ bHl s 113 (40 * a) K.2.2.2.1 ∧ bi s 114 a = K.2.2.2.2.length ∧ bHl s 115 (48 * a) K.2.2.2.2
/-- the reference has what changes -/
def bzRy (Z : bZs) (s : bSt) : Prop := (∀ b ∈ [134, 135, 137, 138, 139, 142, 143, 144, 145, 146, 147, 148], ∀ j, 0 ≤ j → bi s b j = Z.1 b j) ∧ bi s 12 105 = Z.1 305 0 ∧ bi s 12 106 = Z.1 306 0 ∧ bi s 12 95 = Z.1 395 0
/-- the reference has the caches -/
def bzRc (Z : bZs) (s : bSt) : Prop := (0 ≤ bi s 12 73 ∧ bi s 12 73 < 1900000) ∧ (∃ P : List (Int × bKy), P.map (fun p => p.2) = Z.2.1 ∧ bzSP 0 32 P s) ∧ ∃ P : List (Int × bKy), P.map (fun p => p.2) = Z.2.2.1 ∧ bzSP 32 80 P s
section
variable {d : Nat} {σ s t : bSt} {f : Int → bSt → Prop} {fv : bSt → Prop} {fj : Int64 → bSt → Prop} {Z : bZs} {a i k x v lo hi : Int} {n : Nat} {K : bKy} {P : List (Int × bKy)}
theorem bNd_u {p q : Int × bKy} : ∀ {P : List (Int × bKy)}, (P.map (fun p => p.2)).Nodup → p ∈ P → q ∈ P → p.2 = q.2 → p = q
  | [], _, h, _, _ => absurd h List.not_mem_nil
  | r :: P, nd, hp, hq, e => by
    rw [List.map_cons, List.nodup_cons] at nd
    rcases List.mem_cons.1 hp with h1 | h1
    · rcases List.mem_cons.1 hq with h2 | h2
      · rw [h1, h2]
      · exact absurd (List.mem_map.2 ⟨q, h2, by show q.2 = r.2; rw [← e, h1]⟩) nd.1
    · rcases List.mem_cons.1 hq with h2 | h2
      · exact absurd (List.mem_map.2 ⟨p, h1, by show p.2 = r.2; rw [e, h2]⟩) nd.1
      · exact bNd_u nd.2 h1 h2 e
theorem r267 (h : bzO σ n Z) (E : bzRe σ n Z s) (a0 : 0 ≤ a) (a1 : a < (n : Int)) (w : Z.1 140 a ≠ 0) (hx : (x = 0 ∧ lo = 0 ∧ hi = 32) ∨ (x = 1 ∧ lo = 32 ∧ hi = 80)) (hP : bzSP lo hi P s) (h1 : ∀ k, lo ≤ k → k < hi → (k, bzK σ Z a) ∈ P → f k s) (h0 : bzK σ Z a ∉ P.map (fun p => p.2) → f (-1) s) : bWp (d + 6) 267 [.ref 12, .int (bn a), .int (bn x)] s (bRn f) := by
  have n120 := h.2.1.1
  obtain ⟨p1, p2, p3, p4, p5⟩ := hP
  refine ⟨rfl, fun A hA => ?_⟩
  have bounds : 0 ≤ lo ∧ lo ≤ hi ∧ hi ≤ 80 ∧ (x = 0 ∨ x = 1) := by omega
  -- at a slot
  have Lp : ∀ (m : Nat) (k b : Int) (v5 v6 : Value), k + m = hi → lo ≤ k → ((b = -1 ∧ ∀ p ∈ P, p.2 = bzK σ Z a → k ≤ p.1) ∨ ((b, bzK σ Z a) ∈ P ∧ lo ≤ b ∧ b < k)) → A (8, [.ref 12, .int (bn a), .int (bn x), .int (bn b), .int (bn k), v5, v6], [], s) := by
    intro m
    induction m with
    | zero =>
      intro k b v5 v6 hk k0 D
      have rb : bRg b := by rcases D with ⟨q, _⟩ | ⟨_, q⟩ <;> exact ⟨by omega, by omega⟩
      have fin : bRn f (.inl (some (.int (bn b)))) s := bRn_i rb (by
        rcases D with ⟨q, D⟩ | ⟨D, q⟩
        · rw [q]
          refine h0 fun z => ?_
          obtain ⟨p, hp, e⟩ := List.mem_map.1 z
          have := D p hp e
          have := (p1 p hp).1
          omega
        · exact h1 b q.1 (by omega) D)
      refine sq267_8 (bWp_mono _) hA ⟨by omega, by omega⟩ ⟨by omega, by omega⟩ rb ⟨by omega, by omega⟩ ⟨fun z => ⟨fun y => absurd y (by omega), fun _ => fin⟩, fun z => ⟨fun y => absurd y (by omega), fun _ => fin⟩⟩
    | succ m ih =>
      intro k b v5 v6 hk k0 D
      have rb : bRg b := by rcases D with ⟨q, _⟩ | ⟨_, q⟩ <;> exact ⟨by omega, by omega⟩
      have nx : ∀ b', (b' = b ∨ b' = k) → ((b' = -1 ∧ ∀ p ∈ P, p.2 = bzK σ Z a → k + 1 ≤ p.1) ∨ ((b', bzK σ Z a) ∈ P ∧ lo ≤ b' ∧ b' < k + 1)) → ∀ v5 v6, bRg (k + 1) ∧ A (8, [.ref 12, .int (bn a), .int (bn x), .int (bn b'), .int (bn (k + 1)), v5, v6], [], s) := fun b' _ D' v5 v6 => ⟨⟨by omega, by omega⟩, ih (k + 1) b' v5 v6 (by omega) (by omega) D'⟩
      -- the slot does not fit
      have no : (k, bzK σ Z a) ∉ P → ∀ v5 v6, bRg (k + 1) ∧ A (8, [.ref 12, .int (bn a), .int (bn x), .int (bn b), .int (bn (k + 1)), v5, v6], [], s) := fun q => nx b (Or.inl rfl) (D.imp (fun ⟨e, D⟩ => ⟨e, fun p hp e2 => by
        have := D p hp e2
        have : p.1 ≠ k := fun e3 => q (by rw [← e3, ← e2]; exact hp)
        omega⟩) (fun ⟨D, e⟩ => ⟨D, e.1, by omega⟩))
      have n38 : (k, bzK σ Z a) ∉ P → ∀ j : Int, bRg j → A (38, [.ref 12, .int (bn a), .int (bn x), .int (bn b), .int (bn k), .int (bn 0), .int (bn j)], [], s) := fun q j rj =>
        sq267_38 (bWp_mono _) hA ⟨by omega, by omega⟩ ⟨by omega, by omega⟩ rb ⟨by omega, by omega⟩ (by decide) rj ⟨fun _ => ⟨fun _ => no q _ _, fun z => absurd rfl z⟩, fun z => absurd rfl z⟩
      by_cases st : 0 < bi s 121 k
      · obtain ⟨⟨k', K⟩, hp, e⟩ := p5 k k0 (by omega) st
        have e : k' = k := e
        subst e
        have pp := p1 _ hp
        have SK : bzSk s k' K := pp.2.2.1
        have gK : bKg K := pp.2.2.2
        have l48 := gK.2.2.2.2.2.2.1
        obtain ⟨S1, S2, S3, S4, S5, S6, S7, S8⟩ := SK
        have mine : ∀ K', (k', K') ∈ P → K' = K := fun K' hK' => by
          have sp : ∀ {P : List (Int × bKy)}, P.Pairwise (fun p q => bi s 121 p.1 < bi s 121 q.1) → (k', K') ∈ P → (k', K) ∈ P → K' = K := by
            intro P
            induction P with
            | nil => intro _ h; exact absurd h List.not_mem_nil
            | cons r P ih2 =>
              intro pw h1 h2
              rw [List.pairwise_cons] at pw
              rcases List.mem_cons.1 h1 with z1 | z1
              · rcases List.mem_cons.1 h2 with z2 | z2
                · rw [← z2] at z1; exact congrArg Prod.snd z1
                · have := pw.1 _ z2
                  rw [← z1] at this
                  exact absurd this (Int.lt_irrefl _)
              · rcases List.mem_cons.1 h2 with z2 | z2
                · have := pw.1 _ z1
                  rw [← z2] at this
                  exact absurd this (Int.lt_irrefl _)
                · exact ih2 pw.2 z1 z2
          exact sp p2 hK' hp
        refine sq267_8 (bWp_mono _) hA ⟨by omega, by omega⟩ ⟨by omega, by omega⟩ rb ⟨by omega, by omega⟩ ?_
        have body : ∀ {g : Int → bSt → Prop}, (∀ r, g r s = ((r = 0 → A (38, [.ref 12, .int (bn a), .int (bn x), .int (bn b), .int (bn k'), .int (bn 0), .int (bn 0)], [], s)) ∧ (¬ r = 0 → ((b = (-1) → A (38, [.ref 12, .int (bn a), .int (bn x), .int (bn b), .int (bn k'), .int (bn 1), .int (bn 0)], [], s)) ∧ (¬ b = (-1) → ((0 ≤ k' ∧ k' < 80) ∧ ((0 ≤ b ∧ b < 80) ∧ (((bi s 121 b) < (bi s 121 k') → A (38, [.ref 12, .int (bn a), .int (bn x), .int (bn b), .int (bn k'), .int (bn 1), .int (bn 0)], [], s)) ∧ (¬ (bi s 121 b) < (bi s 121 k') → A (38, [.ref 12, .int (bn a), .int (bn x), .int (bn b), .int (bn k'), .int (bn 0), .int (bn 0)], [], s)))))))))) → bWp (d + 5) 265 [.ref 12, .int (bn k'), .int (bn a)] s (bRn g) := fun {g} hg => by
          refine r265 (d := d + 3) h E a0 a1 (by omega) (by omega) (fun _ => ⟨pp.2.2.1, gK.2.2.2.2.1⟩) ?_
          rw [hg]
          by_cases mt : bzMt σ Z a K
          · rw [if_pos ⟨st, mt⟩]
            -- what was found
            have fit := bzK_fit (Z := Z) (a := a) (σ := σ) h.1.1 gK.1 mt.1 mt.2.1 mt.2.2.1 mt.2.2.2
            have go : A (38, [.ref 12, .int (bn a), .int (bn x), .int (bn b), .int (bn k'), .int (bn 1), .int (bn 0)], [], s) := by
              have L2 : ∀ (m2 j : Nat), j + m2 = K.2.2.2.2.length → (∀ i : Nat, i < j → bSn σ (Z.1 104 a) (K.2.2.2.2.getD i 0 / 1001) = K.2.2.2.2.getD i 0 % 1001 - 1) → A (38, [.ref 12, .int (bn a), .int (bn x), .int (bn b), .int (bn k'), .int (bn 1), .int (bn j)], [], s) := by
                intro m2
                induction m2 with
                | zero =>
                  intro j hj DD
                  have KK : K = bzK σ Z a := fit.1 fun w' hw' => by
                    obtain ⟨i, hi, ei⟩ := List.mem_iff_getElem.1 hw'
                    have := DD i (by omega)
                    rw [List.getD_eq_getElem?_getD, List.getElem?_eq_getElem hi] at this
                    rw [← ei]
                    exact this
                  refine sq267_38 (bWp_mono _) hA ⟨by omega, by omega⟩ ⟨by omega, by omega⟩ rb ⟨by omega, by omega⟩ (by decide) ⟨by omega, by omega⟩ ⟨fun z => absurd z (by decide), fun _ => ⟨⟨by omega, by omega⟩, fun z => absurd z (by rw [S6]; omega), fun _ => ⟨fun z => absurd z (by decide), fun _ => nx k' (Or.inr rfl) (Or.inr ⟨by rw [← KK]; exact hp, k0, by omega⟩) _ _⟩⟩⟩
                | succ m2 ih2 =>
                  intro j hj DD
                  have S7j := S7 j (by omega)
                  have jr := gK.2.2.2.2.2.2.2.1 _ (bGd_m (L := K.2.2.2.2) (i := j) (by omega))
                  have o5 : Z.1 101 a = 5 := by
                    by_cases q : K.1 = 5
                    · rw [← mt.1]; exact q
                    · have := gK.1.1 q
                      rw [this] at hj
                      exact absurd hj (by simp)
                  refine sq267_38 (bWp_mono _) hA ⟨by omega, by omega⟩ ⟨by omega, by omega⟩ rb ⟨by omega, by omega⟩ (by decide) ⟨by omega, by omega⟩ ⟨fun z => absurd z (by decide), fun _ => ⟨⟨by omega, by omega⟩, fun _ => ⟨⟨by omega, by omega⟩, ⟨by omega, by omega⟩, ⟨by omega, by omega⟩, ?_⟩, fun z => absurd (show (j : Int) < bi s 127 k' by rw [S6]; omega) z⟩⟩
                  rw [S7j]
                  refine r266 h E a0 a1 w o5 jr ?_
                  by_cases y : bSn σ (Z.1 104 a) (K.2.2.2.2.getD j 0 / 1001) = K.2.2.2.2.getD j 0 % 1001 - 1
                  · rw [if_pos y]
                    have := ih2 (j + 1) (by omega) (fun i hi => by
                      by_cases e : i = j
                      · rw [e]; exact y
                      · exact DD i (by omega))
                    rw [show ((j + 1 : Nat) : Int) = (j : Int) + 1 by omega] at this
                    exact ⟨⟨by omega, by omega⟩, this⟩
                  · rw [if_neg y]
                    refine ⟨⟨by omega, by omega⟩, n38 (fun hm => y ?_) _ ⟨by omega, by omega⟩⟩
                    have KK := mine _ hm
                    exact fit.2 KK.symm _ (bGd_m (by omega))
              exact L2 K.2.2.2.2.length 0 (by omega) (fun i hi => by omega)
            refine ⟨fun z => absurd z (by decide), fun _ => ⟨fun _ => go, fun bn1 => ?_⟩⟩
            rcases D with ⟨q, _⟩ | ⟨D, q⟩
            · exact absurd q bn1
            · exact ⟨⟨by omega, by omega⟩, ⟨by omega, by omega⟩, fun _ => go, fun _ => n38 (fun hm => by
                have := bNd_u p3 D hm rfl
                have : b = k' := congrArg Prod.fst this
                omega) 0 (by decide)⟩
          · rw [if_neg fun z => mt z.2]
            refine ⟨fun _ => n38 (fun hm => mt ?_) 0 (by decide), fun z => absurd rfl z⟩
            rw [← mine _ hm]
            exact ⟨rfl, rfl, rfl, rfl⟩
        exact ⟨fun z => ⟨fun _ => body fun _ => rfl, fun y => absurd (show k' < 32 by omega) y⟩, fun z => ⟨fun _ => body fun _ => rfl, fun y => absurd (show k' < 80 by omega) y⟩⟩
      · have q : (k, bzK σ Z a) ∉ P := fun hm => st (p1 _ hm).2.1.1
        have body : ∀ {g : Int → bSt → Prop}, (g 0 s) → bWp (d + 5) 265 [.ref 12, .int (bn k), .int (bn a)] s (bRn g) := fun {g} hg => r265 (K := bzK σ Z a) (d := d + 3) h E a0 a1 (by omega) (by omega) (fun z => absurd z st) (by rw [if_neg fun z => st z.1]; exact hg)
        exact sq267_8 (bWp_mono _) hA ⟨by omega, by omega⟩ ⟨by omega, by omega⟩ rb ⟨by omega, by omega⟩ ⟨fun z => ⟨fun _ => body ⟨fun _ => n38 q 0 (by decide), fun z => absurd rfl z⟩, fun y => absurd (show k < 32 by omega) y⟩, fun z => ⟨fun _ => body ⟨fun _ => n38 q 0 (by decide), fun z => absurd rfl z⟩, fun y => absurd (show k < 80 by omega) y⟩⟩
  refine sq267_0 (bWp_mono _) hA ⟨by omega, by omega⟩ ⟨by omega, by omega⟩ ⟨fun z => ?_, fun z => ?_⟩
  · have := Lp (hi - lo).toNat lo (-1) (.float 0) (.float 0) (by omega) (Int.le_refl _) (Or.inl ⟨rfl, fun p hp _ => (p1 p hp).1.1⟩)
    rw [show lo = 0 by omega] at this
    exact this
  · have := Lp (hi - lo).toNat lo (-1) (.float 0) (.float 0) (by omega) (Int.le_refl _) (Or.inl ⟨rfl, fun p hp _ => (p1 p hp).1.1⟩)
    rw [show lo = 32 by omega] at this
    exact this
end

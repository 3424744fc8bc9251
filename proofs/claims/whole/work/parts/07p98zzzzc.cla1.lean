/-! BUILD, 25: the class: entries are compared and copied; small methods -/
/-- an entry of the class holds a key -/
def bzEk (s : bSt) (e : Nat) (K : bKy) : Prop := bi s e 0 = K.1 ∧ bi s e 1 = K.2.1 ∧ bi s e 2 = K.2.2.1 ∧ bi s e 3 = K.2.2.2.1.length ∧ bHl s (e + 18) 0 K.2.2.2.1 ∧ bi s e 5 = K.2.2.2.2.length ∧ ∀ i : Nat, i < K.2.2.2.2.length → bi s (e + 19) i = bFnd (K.2.2.2.2.getD i 0)
/-- lengths and findings are in order -/
def bKl (K : bKy) : Prop := K.2.2.2.1.length ≤ 40 ∧ K.2.2.2.2.length ≤ 48 ∧ ∀ w ∈ K.2.2.2.2, 0 ≤ w ∧ w < 48048
section
variable {d : Nat} {σ s t : bSt} {f : Int → bSt → Prop} {fv : bSt → Prop} {a i j k x y v w : Int} {e e1 e2 b : Nat} {K L M : bKy}
theorem bFnd_inj (h1 : 0 ≤ x ∧ x < 48048) (h2 : 0 ≤ y ∧ y < 48048) (h : bFnd x = bFnd y) : x = y := by
  unfold bFnd at h
  by_cases p : x % 1001 = 0
  · rw [if_pos p] at h
    by_cases q : y % 1001 = 0
    · rw [if_pos q] at h; omega
    · rw [if_neg q] at h; omega
  · rw [if_neg p] at h
    by_cases q : y % 1001 = 0
    · rw [if_pos q] at h; omega
    · rw [if_neg q] at h; omega
theorem bzEk_m (h : bzEk s e K) (h0 : ∀ j ∈ ([0, 1, 2, 3, 5] : List Int), bi t e j = bi s e j) (h1 : ∀ j, 0 ≤ j → j < 40 → bi t (e + 18) j = bi s (e + 18) j) (h2 : ∀ j, 0 ≤ j → j < 48 → bi t (e + 19) j = bi s (e + 19) j) (hl : K.2.2.2.1.length ≤ 40 ∧ K.2.2.2.2.length ≤ 48) : bzEk t e K := by
  obtain ⟨a1, a2, a3, a4, a5, a6, a7⟩ := h
  exact ⟨by rw [h0 0 (by decide)]; exact a1, by rw [h0 1 (by decide)]; exact a2, by rw [h0 2 (by decide)]; exact a3, by rw [h0 3 (by decide)]; exact a4, fun i hi => by rw [h1 _ (by omega) (by omega)]; exact a5 i hi, by rw [h0 5 (by decide)]; exact a6, fun i hi => by rw [h2 _ (by omega) (by omega)]; exact a7 i hi⟩
theorem w43x (he1 : e1 % 256 = 4) (he2 : e2 % 256 = 4) (hn : bi s e1 0 ≠ bi s e2 0) (h : f 0 s) : bWp (d + 2) 43 [.ref e1, .ref e2] s (bRn f) := by
  have E1 : 256 * (1 * (e1 / 256) + 0) + 22 = e1 + 18 := by omega
  have E2 : 256 * (1 * (e2 / 256) + 0) + 22 = e2 + 18 := by omega
  have F1 : 256 * (1 * (e1 / 256) + 0) + 23 = e1 + 19 := by omega
  have F2 : 256 * (1 * (e2 / 256) + 0) + 23 = e2 + 19 := by omega
  have l1 : bLen s (e1 + 18) = 40 := bLen_of (k := 22) (by omega) (by decide) rfl
  have l2 : bLen s (e2 + 18) = 40 := bLen_of (k := 22) (by omega) (by decide) rfl
  have m1 : bLen s (e1 + 19) = 48 := bLen_of (k := 23) (by omega) (by decide) rfl
  have m2 : bLen s (e2 + 19) = 48 := bLen_of (k := 23) (by omega) (by decide) rfl
  have t1 : bTy (e1 + 18) = 0 := bTy_of (k := 22) (by omega) rfl
  have t2 : bTy (e2 + 18) = 0 := bTy_of (k := 22) (by omega) rfl
  have u1 : bTy (e1 + 19) = 0 := bTy_of (k := 23) (by omega) rfl
  have u2 : bTy (e2 + 19) = 0 := bTy_of (k := 23) (by omega) rfl
  refine ⟨rfl, fun A hA => sq43_0 (bWp_mono _) hA he1 he2 ⟨fun q => absurd q hn, fun _ => ?_⟩⟩
  rw [E1, E2, l1, l2, t1, t2]
  refine ⟨by decide, by decide, by decide, by decide, w360 (by decide) (by decide) (w360 (bi_rg _ _ _) (by decide) ?_)⟩
  have r3 := bi_rg s e1 3
  refine sq43_42 (bWp_mono _) hA (by decide) ⟨by omega, by omega⟩ (by decide) ⟨fun _ => ?_, fun z => absurd rfl z⟩
  rw [F1, F2, m1, m2, u1, u2]
  have r5 := bi_rg s e1 5
  refine ⟨he1, by decide, by decide, he2, by decide, by decide, w360 (by decide) (by decide) (w360 (bi_rg _ _ _) (by decide) ?_)⟩
  exact sq43_75 (bWp_mono _) hA (by decide) ⟨by omega, by omega⟩ (by decide) ⟨fun _ => ⟨Or.inl rfl, bRn_i (by decide) h⟩, fun z => absurd rfl z⟩
theorem w43 (he1 : e1 % 256 = 4) (he2 : e2 % 256 = 4) (H1 : bzEk s e1 K) (H2 : bzEk s e2 L) (hK : bKl K) (hL : bKl L) (h : f (if K = L then 1 else 0) s) : bWp (d + 2) 43 [.ref e1, .ref e2] s (bRn f) := by
  have E1 : 256 * (1 * (e1 / 256) + 0) + 22 = e1 + 18 := by omega
  have E2 : 256 * (1 * (e2 / 256) + 0) + 22 = e2 + 18 := by omega
  have F1 : 256 * (1 * (e1 / 256) + 0) + 23 = e1 + 19 := by omega
  have F2 : 256 * (1 * (e2 / 256) + 0) + 23 = e2 + 19 := by omega
  have l1 : bLen s (e1 + 18) = 40 := bLen_of (k := 22) (by omega) (by decide) rfl
  have l2 : bLen s (e2 + 18) = 40 := bLen_of (k := 22) (by omega) (by decide) rfl
  have m1 : bLen s (e1 + 19) = 48 := bLen_of (k := 23) (by omega) (by decide) rfl
  have m2 : bLen s (e2 + 19) = 48 := bLen_of (k := 23) (by omega) (by decide) rfl
  have t1 : bTy (e1 + 18) = 0 := bTy_of (k := 22) (by omega) rfl
  have t2 : bTy (e2 + 18) = 0 := bTy_of (k := 22) (by omega) rfl
  have u1 : bTy (e1 + 19) = 0 := bTy_of (k := 23) (by omega) rfl
  have u2 : bTy (e2 + 19) = 0 := bTy_of (k := 23) (by omega) rfl
  obtain ⟨a1, a2, a3, a4, a5, a6, a7⟩ := H1
  obtain ⟨b1, b2, b3, b4, b5, b6, b7⟩ := H2
  obtain ⟨k1, k2, k3⟩ := hK
  obtain ⟨k4, k5, k6⟩ := hL
  refine ⟨rfl, fun A hA => sq43_0 (bWp_mono _) hA he1 he2 ?_⟩
  rw [E1, E2, l1, l2, t1, t2, a1, a2, a3, a4, a6, b1, b2, b3, b4, b6]
  have mn : min ((K.2.2.2.1.length : Nat) : Int) 40 = K.2.2.2.1.length := by omega
  have mm : min ((K.2.2.2.2.length : Nat) : Int) 48 = K.2.2.2.2.length := by omega
  have no75 : K ≠ L → ∀ j : Int, bRg j → A (75, [.ref e1, .ref e2, .int (bn 0), .int (bn K.2.2.2.1.length), .int (bn K.2.2.2.2.length), .int (bn j)], [], s) := fun ne j rj => by
    rw [if_neg ne] at h
    exact sq43_75 (bWp_mono _) hA (by decide) ⟨by omega, by omega⟩ rj ⟨fun _ => ⟨Or.inl rfl, bRn_i (by decide) h⟩, fun z => absurd rfl z⟩
  have no42 : K ≠ L → ∀ j : Int, bRg j → ∀ v5, A (42, [.ref e1, .ref e2, .int (bn 0), .int (bn K.2.2.2.1.length), .int (bn j), v5], [], s) := fun ne j rj v5 => by
    refine sq43_42 (bWp_mono _) hA (by decide) ⟨by omega, by omega⟩ rj ⟨fun _ => ?_, fun z => absurd rfl z⟩
    rw [F1, F2, m1, m2, u1, u2, a6]
    refine ⟨he1, by decide, by decide, he2, by decide, by decide, w360 (by decide) (by decide) (w360 ⟨by omega, by omega⟩ (by decide) ?_)⟩
    rw [show min (((48 : Nat) : Int)) ((48 : Nat) : Int) = 48 by decide, mm]
    exact no75 ne 0 (by decide)
  -- with all of it alike so far or not
  have st : ∀ q : Int, (q = 1 ∧ K.2.2.2.2.length = L.2.2.2.2.length ∧ K.1 = L.1 ∧ K.2.1 = L.2.1 ∧ K.2.2.1 = L.2.2.1 ∧ K.2.2.2.1.length = L.2.2.2.1.length ∨ q = 0 ∧ K ≠ L) → bWp (d + 1) 360 [.int (bn ((40 : Nat) : Int)), .int (bn ((40 : Nat) : Int))] s (bRn (fun r8 s6 => bWp (d + 1) 360 [.int (bn (K.2.2.2.1.length : Int)), .int (bn r8)] s6 (bRn (fun r12 s10 => A (42, [.ref e1, .ref e2, .int (bn q), .int (bn r12), .int (bn 0), .float 0], [], s10))))) := fun q hq => by
    refine w360 (by decide) (by decide) (w360 ⟨by omega, by omega⟩ (by decide) ?_)
    rw [show min (((40 : Nat) : Int)) ((40 : Nat) : Int) = 40 by decide, mn]
    rcases hq with ⟨q1, q5, q6, q7, q8, q9⟩ | ⟨q1, q2⟩
    · rw [q1]
      have L2 : K.2.2.2.1 = L.2.2.2.1 → ∀ (m j : Nat), j + m = K.2.2.2.2.length → (∀ i : Nat, i < j → K.2.2.2.2.getD i 0 = L.2.2.2.2.getD i 0) → A (75, [.ref e1, .ref e2, .int (bn 1), .int (bn K.2.2.2.1.length), .int (bn K.2.2.2.2.length), .int (bn j)], [], s) := fun ec m => by
        induction m with
        | zero =>
          intro j hj D
          have ef : K.2.2.2.2 = L.2.2.2.2 := bLeq q5 (fun i hi => D i (by omega))
          have KL : K = L := by
            obtain ⟨c1, c2, c3, c4, c5⟩ := K
            obtain ⟨g1, g2, g3, g4, g5⟩ := L
            have q6 : c1 = g1 := q6
            have q7 : c2 = g2 := q7
            have q8 : c3 = g3 := q8
            have ec : c4 = g4 := ec
            have ef : c5 = g5 := ef
            rw [q6, q7, q8, ec, ef]
          rw [if_pos KL] at h
          exact sq43_75 (bWp_mono _) hA (by decide) ⟨by omega, by omega⟩ ⟨by omega, by omega⟩ ⟨fun z => absurd z (by decide), fun _ => ⟨fun z => absurd z (by omega), fun _ => ⟨Or.inr rfl, bRn_i (by decide) h⟩⟩⟩
        | succ m ih =>
          intro j hj D
          refine sq43_75 (bWp_mono _) hA (by decide) ⟨by omega, by omega⟩ ⟨by omega, by omega⟩ ⟨fun z => absurd z (by decide), fun _ => ⟨fun _ => ?_, fun z => absurd (show (j : Int) < K.2.2.2.2.length by omega) z⟩⟩
          rw [F1, F2, m1, m2, u1, u2, a7 j (by omega), b7 j (by omega)]
          refine ⟨he1, rfl, ⟨by omega, by omega⟩, he2, rfl, ⟨by omega, by omega⟩, fun z => ⟨⟨by omega, by omega⟩, ?_⟩, fun z => ⟨⟨by omega, by omega⟩, no75 (fun y => z (by rw [y])) _ ⟨by omega, by omega⟩⟩⟩
          have := ih (j + 1) (by omega) (fun i hi => by
            by_cases y : i = j
            · rw [y]; exact bFnd_inj (k3 _ (bGd_m (by omega))) (k6 _ (bGd_m (by omega))) z
            · exact D i (by omega))
          rw [show ((j + 1 : Nat) : Int) = (j : Int) + 1 by omega] at this
          exact this
      have L1 : ∀ (m j : Nat) (v5 : Value), j + m = K.2.2.2.1.length → (∀ i : Nat, i < j → K.2.2.2.1.getD i 0 = L.2.2.2.1.getD i 0) → A (42, [.ref e1, .ref e2, .int (bn 1), .int (bn K.2.2.2.1.length), .int (bn j), v5], [], s) := by
        intro m
        induction m with
        | zero =>
          intro j v5 hj D
          have ec : K.2.2.2.1 = L.2.2.2.1 := bLeq q9 (fun i hi => D i (by omega))
          refine sq43_42 (bWp_mono _) hA (by decide) ⟨by omega, by omega⟩ ⟨by omega, by omega⟩ ⟨fun z => absurd z (by decide), fun _ => ⟨fun z => absurd z (by omega), fun _ => ?_⟩⟩
          rw [F1, F2, m1, m2, u1, u2, a6]
          refine ⟨he1, by decide, by decide, he2, by decide, by decide, w360 (by decide) (by decide) (w360 ⟨by omega, by omega⟩ (by decide) ?_)⟩
          rw [show min (((48 : Nat) : Int)) ((48 : Nat) : Int) = 48 by decide, mm]
          exact L2 ec K.2.2.2.2.length 0 (by omega) (fun i hi => absurd hi (Nat.not_lt_zero _))
        | succ m ih =>
          intro j v5 hj D
          have c1 := a5 j (by omega)
          have c2 := b5 j (by omega)
          rw [Int.zero_add] at c1 c2
          refine sq43_42 (bWp_mono _) hA (by decide) ⟨by omega, by omega⟩ ⟨by omega, by omega⟩ ⟨fun z => absurd z (by decide), fun _ => ⟨fun _ => ?_, fun z => absurd (show (j : Int) < K.2.2.2.1.length by omega) z⟩⟩
          rw [E1, E2, l1, l2, t1, t2, c1, c2]
          refine ⟨he1, rfl, ⟨by omega, by omega⟩, he2, rfl, ⟨by omega, by omega⟩, fun z => ⟨⟨by omega, by omega⟩, ?_⟩, fun z => ⟨⟨by omega, by omega⟩, no42 (fun y => z (by rw [y])) _ ⟨by omega, by omega⟩ _⟩⟩
          have := ih (j + 1) v5 (by omega) (fun i hi => by
            by_cases y : i = j
            · rw [y]; exact z
            · exact D i (by omega))
          rw [show ((j + 1 : Nat) : Int) = (j : Int) + 1 by omega] at this
          exact this
      exact L1 K.2.2.2.1.length 0 _ (by omega) (fun i hi => absurd hi (Nat.not_lt_zero _))
    · rw [q1]
      exact no42 q2 0 (by decide) _
  have no : K ≠ L → _ := fun ne => (⟨by decide, by decide, by decide, by decide, st 0 (Or.inr ⟨rfl, ne⟩)⟩ : (¬ (0 : Nat) = 9 ∧ bRg ((40 : Nat) : Int) ∧ ¬ (0 : Nat) = 9 ∧ bRg ((40 : Nat) : Int) ∧ bWp (d + 1) 360 [.int (bn ((40 : Nat) : Int)), .int (bn ((40 : Nat) : Int))] s (bRn (fun r8 s6 => bWp (d + 1) 360 [.int (bn (K.2.2.2.1.length : Int)), .int (bn r8)] s6 (bRn (fun r12 s10 => A (42, [.ref e1, .ref e2, .int (bn 0), .int (bn r12), .int (bn 0), .float 0], [], s10)))))))
  exact ⟨fun c1 => ⟨fun c2 => ⟨fun c3 => ⟨fun c4 => ⟨fun c5 => ⟨by decide, by decide, by decide, by decide, st 1 (Or.inl ⟨rfl, by omega, c1, c2, c3, by omega⟩)⟩, fun q => no fun z => q (by rw [z])⟩, fun q => no fun z => q (by rw [z])⟩, fun q => no fun z => q (by rw [z])⟩, fun q => no fun z => q (by rw [z])⟩, fun q => no fun z => q (by rw [z])⟩
/-- an entry is copied -/
def bzCpE (e1 e2 : Nat) (s t : bSt) : Prop := t.2 = s.2 ∧ (∀ b, b ≠ e1 → b ≠ e1 + 18 → b ≠ e1 + 19 → ∀ j, bi t b j = bi s b j) ∧ (∀ j ∈ ([0, 1, 2, 3, 5, 7, 8] : List Int), bi t e1 j = bi s e2 j) ∧ (∀ j, 0 ≤ j → j < 40 → bi t (e1 + 18) j = bi s (e2 + 18) j) ∧ ∀ j, 0 ≤ j → j < 48 → bi t (e1 + 19) j = bi s (e2 + 19) j
theorem bi_cpy {σ : bSt} {a b c : Nat} {n j : Int} (j0 : 0 ≤ j) : bi (bCpy σ a b n) c j = if c = b ∧ j < n then bi σ a j else bi σ c j := by
  show (if c = b ∧ ((j.toNat : Nat) : Int) < n then σ.1 a j.toNat else σ.1 c j.toNat).toInt = _
  rw [Int.toNat_of_nonneg j0]
  split <;> rfl
theorem w44 (he1 : e1 % 256 = 4) (he2 : e2 % 256 = 4) (hn : e1 ≠ e2) (h7 : bi s e2 7 = 0 ∨ bi s e2 7 = 1) (h : ∀ t, bzCpE e1 e2 s t → fv t) : bWp (d + 2) 44 [.ref e1, .ref e2] s (bRv fv) := by
  have E1 : 256 * (1 * (e1 / 256) + 0) + 22 = e1 + 18 := by omega
  have E2 : 256 * (1 * (e2 / 256) + 0) + 22 = e2 + 18 := by omega
  have F1 : 256 * (1 * (e1 / 256) + 0) + 23 = e1 + 19 := by omega
  have F2 : 256 * (1 * (e2 / 256) + 0) + 23 = e2 + 19 := by omega
  have l1 : ∀ s, bLen s (e1 + 18) = 40 := fun s => bLen_of (k := 22) (by omega) (by decide) rfl
  have l2 : ∀ s, bLen s (e2 + 18) = 40 := fun s => bLen_of (k := 22) (by omega) (by decide) rfl
  have m1 : ∀ s, bLen s (e1 + 19) = 48 := fun s => bLen_of (k := 23) (by omega) (by decide) rfl
  have m2 : ∀ s, bLen s (e2 + 19) = 48 := fun s => bLen_of (k := 23) (by omega) (by decide) rfl
  have t1 : bTy (e1 + 18) = 0 := bTy_of (k := 22) (by omega) rfl
  have t2 : bTy (e2 + 18) = 0 := bTy_of (k := 22) (by omega) rfl
  have u1 : bTy (e1 + 19) = 0 := bTy_of (k := 23) (by omega) rfl
  have u2 : bTy (e2 + 19) = 0 := bTy_of (k := 23) (by omega) rfl
  have n1 : e2 ≠ e1 := fun q => hn q.symm
  refine ⟨rfl, fun A hA => sq44_0 (bWp_mono _) hA he1 he2 fun s1 hs1 => ?_⟩
  simp only [bi_ne n1] at hs1
  rw [E1, E2, F1, F2]
  simp only [l1, l2, m1, m2, t1, t2, u1, u2]
  have q1 : ∀ j, bi s1 e2 j = bi s e2 j := fun j => by rw [hs1]; simp only [bi_ne n1]
  have ob : ∀ b, b ≠ e1 → ∀ j, bi s1 b j = bi s b j := fun b hb j => by rw [hs1]; simp only [bi_ne hb]
  have e2' : s1.2 = s.2 := by rw [hs1]; rfl
  have f5 : ∀ j ∈ ([0, 1, 2, 3, 5] : List Int), bi s1 e1 j = bi s e2 j := fun j hj => by
    simp only [List.mem_cons, List.not_mem_nil, or_false] at hj
    rw [hs1, bi_bw (by decide) (by omega) (bi_rg _ _ _), bi_bw (by decide) (by omega) (bi_rg _ _ _), bi_bw (by decide) (by omega) (bi_rg _ _ _), bi_bw (by decide) (by omega) (bi_rg _ _ _), bi_bw (by decide) (by omega) (bi_rg _ _ _)]
    rcases hj with rfl | rfl | rfl | rfl | rfl <;> simp
  rw [q1, bi_ne n1, q1]
  refine ⟨h7, by decide, by decide, by decide, by decide, w360 (by decide) (by decide) ⟨trivial, trivial, by omega, by omega, by decide, by decide, by decide, by decide, by decide, by decide, by decide, w360 (by decide) (by decide) ⟨trivial, trivial, by omega, by omega, by decide, by decide, by decide, h _ ⟨?_, fun b b1 b2 b3 j => ?_, fun j hj => ?_, fun j j0 j1 => ?_, fun j j0 j1 => ?_⟩⟩⟩⟩
  · exact e2'
  · have cc : ∀ (σ : bSt) (a c : Nat) (n : Int), b ≠ c → bi (bCpy σ a c n) b j = bi σ b j := fun σ a c n hc => by
      show (if b = c ∧ ((j.toNat : Nat) : Int) < n then σ.1 a j.toNat else σ.1 b j.toNat).toInt = _
      rw [if_neg (fun q => hc q.1)]
      rfl
    rw [cc _ _ _ _ b3, cc _ _ _ _ b2, bi_ne b1, bi_ne b1]
    exact ob b b1 j
  · simp only [List.mem_cons, List.not_mem_nil, or_false] at hj
    rw [bi_cpy (by omega), if_neg (fun q => by omega), bi_cpy (by omega), if_neg (fun q => by omega), bi_bw (by decide) (by omega) (bi_rg _ _ _), bi_bw (by decide) (by omega) (bi_rg _ _ _)]
    by_cases y8 : j = 8
    · rw [if_pos ⟨rfl, y8⟩, y8]
    · rw [if_neg (fun q => y8 q.2)]
      by_cases y7 : j = 7
      · rw [if_pos ⟨rfl, y7⟩, y7]
      · rw [if_neg (fun q => y7 q.2)]
        exact f5 j (by simp only [List.mem_cons, List.not_mem_nil, or_false]; omega)
  · rw [bi_cpy j0, if_neg (fun q => by omega), bi_cpy j0, if_pos ⟨rfl, by show j < min (((40 : Nat) : Int)) ((40 : Nat) : Int); omega⟩, bi_ne (by omega), bi_ne (by omega)]
    exact ob _ (by omega) j
  · rw [bi_cpy j0, if_pos ⟨rfl, by show j < min (((48 : Nat) : Int)) ((48 : Nat) : Int); omega⟩, bi_cpy j0, if_neg (fun q => by omega), bi_ne (by omega), bi_ne (by omega)]
    exact ob _ (by omega) j
theorem bzEk_cp (C : bzCpE e1 e2 s t) (h : bzEk s e2 K) (hl : K.2.2.2.1.length ≤ 40 ∧ K.2.2.2.2.length ≤ 48) : bzEk t e1 K := by
  obtain ⟨c1, c2, c3, c4, c5⟩ := C
  obtain ⟨a1, a2, a3, a4, a5, a6, a7⟩ := h
  exact ⟨by rw [c3 0 (by decide)]; exact a1, by rw [c3 1 (by decide)]; exact a2, by rw [c3 2 (by decide)]; exact a3, by rw [c3 3 (by decide)]; exact a4, fun i hi => by rw [c4 _ (by omega) (by omega)]; exact a5 i hi, by rw [c3 5 (by decide)]; exact a6, fun i hi => by rw [c5 _ (by omega) (by omega)]; exact a7 i hi⟩
end

/-! BUILD, 4: the reference reads: contents, what fits -/
/-- what the model rests on is the same -/
def bzA (σ s : bSt) : Prop := bPag σ s ∧ (∀ b ∈ [89, 90, 91, 136], ∀ j, bi s b j = bi σ b j) ∧ bi s 12 68 = bi σ 12 68 ∧ bi s 12 87 = bi σ 12 87 ∧ bi s 12 88 = bi σ 12 88
/-- n actions in order -/
def bzOa (n : Nat) (Z : bZs) : Prop := n ≤ 120 ∧ ∀ a, 0 ≤ a → a < (n : Int) → (0 ≤ Z.1 105 a ∧ Z.1 105 a ≤ 40) ∧ ((0 ≤ Z.1 101 a ∧ Z.1 101 a ≤ 5) ∧ (0 ≤ Z.1 102 a ∧ Z.1 102 a < 1000) ∧ (0 ≤ Z.1 103 a ∧ Z.1 103 a < 1000) ∧ 0 ≤ Z.1 104 a ∧ Z.1 104 a < 6) ∧
  ∀ i, 0 ≤ i → i < Z.1 105 a → (0 ≤ Z.1 106 (40 * a + i) ∧ Z.1 106 (40 * a + i) < 48) ∨ (100 ≤ Z.1 106 (40 * a + i) ∧ Z.1 106 (40 * a + i) < 100 + a)
/-- those that are wanted -/
def bzOw (σ : bSt) (n : Nat) (Z : bZs) : Prop := ∀ a, 0 ≤ a → a < (n : Int) → Z.1 140 a ≠ 0 → (∀ i, 0 ≤ i → i < Z.1 105 a → Z.1 106 (40 * a + i) < 48 → 0 ≤ bi σ 56 (Z.1 106 (40 * a + i)) ∧ (Z.1 101 a = 5 → bOwn σ (Z.1 106 (40 * a + i) / 8) = Z.1 104 a)) ∧
  (∀ i, 0 ≤ i → i < Z.1 105 a → 100 ≤ Z.1 106 (40 * a + i) → Z.1 140 (Z.1 106 (40 * a + i) - 100) ≠ 0) ∧ (0 ≤ Z.1 107 a ∧ Z.1 107 a < 16) ∧ (0 ≤ bzKd σ Z a ∧ bzKd σ Z a < 3) ∧ (1 ≤ bzDu σ Z a ∧ bzDu σ Z a ≤ 20) ∧ 1 ≤ Z.1 141 a ∧ Z.1 141 a ≤ 2400
def bzOo (n : Nat) (Z : bZs) : Prop := ∀ a, 0 ≤ a → a < (n : Int) → 0 ≤ Z.1 112 a ∧ Z.1 112 a < 1000
def bzSg (σ : bSt) : Prop := bFi σ ∧ (∀ k, 0 ≤ k → k < 3 → 1 ≤ bi σ 136 k ∧ bi σ 136 k ≤ 4) ∧ (1 ≤ bi σ 12 88 ∧ bi σ 12 88 ≤ 9)
def bzO (σ : bSt) (n : Nat) (Z : bZs) : Prop := bzSg σ ∧ bzOa n Z ∧ bzOw σ n Z ∧ bzOo n Z
/-- the reference has the actions of the model -/
def bzRa (n : Nat) (Z : bZs) (s : bSt) : Prop := bi s 12 49 = n ∧ ∀ a, 0 ≤ a → a < (n : Int) → (∀ b ∈ [101, 102, 103, 104, 105, 107, 112, 140, 141], bi s b a = Z.1 b a) ∧ ∀ i, 0 ≤ i → i < Z.1 105 a → bi s 106 (40 * a + i) = Z.1 106 (40 * a + i)
def bzRe (σ : bSt) (n : Nat) (Z : bZs) (s : bSt) : Prop := bzA σ s ∧ bFi s ∧ bzRa n Z s
/-- an entry of the reference holds a key -/
def bzSk (s : bSt) (k : Int) (K : bKy) : Prop := bi s 122 k = K.1 ∧ bi s 123 k = K.2.1 ∧ bi s 124 k = K.2.2.1 ∧ bi s 125 k = K.2.2.2.1.length ∧ bHl s 126 (40 * k) K.2.2.2.1 ∧ bi s 127 k = K.2.2.2.2.length ∧ bHl s 128 (48 * k) K.2.2.2.2 ∧ bi s 129 k = bKv K
def bKrg (K : bKy) : Prop := (0 ≤ K.1 ∧ K.1 ≤ 5) ∧ (0 ≤ K.2.1 ∧ K.2.1 < 1000) ∧ (0 ≤ K.2.2.1 ∧ K.2.2.1 < 1000) ∧ K.2.2.2.1.length ≤ 40 ∧ (∀ w ∈ K.2.2.2.1, 0 ≤ w ∧ w < 1000) ∧ K.2.2.2.2.length ≤ 48 ∧ (∀ w ∈ K.2.2.2.2, 0 ≤ w ∧ w < 48048) ∧ 0 ≤ bKv K ∧ bKv K < 1000
def bKg (K : bKy) : Prop := bKok K ∧ bKrg K
/-- a cache of the reference: slots with keys by rising stamps -/
def bzSP (lo hi : Int) (P : List (Int × bKy)) (s : bSt) : Prop := (∀ p ∈ P, (lo ≤ p.1 ∧ p.1 < hi) ∧ (0 < bi s 121 p.1 ∧ bi s 121 p.1 ≤ bi s 12 73) ∧ bzSk s p.1 p.2 ∧ bKg p.2) ∧ P.Pairwise (fun p q => bi s 121 p.1 < bi s 121 q.1) ∧ (P.map (fun p => p.2)).Nodup ∧ (∀ k, lo ≤ k → k < hi → 0 ≤ bi s 121 k) ∧ ∀ k, lo ≤ k → k < hi → 0 < bi s 121 k → ∃ p ∈ P, p.1 = k
/-- an entry is of the same operation, number, version and contents -/
abbrev bzMt (σ : bSt) (Z : bZs) (a : Int) (K : bKy) : Prop := K.1 = Z.1 101 a ∧ K.2.1 = Z.1 102 a ∧ K.2.2.1 = Z.1 103 a ∧ K.2.2.2.1 = bzL σ Z a
/-- the paths among the first inputs -/
def bzPs (Z : bZs) (a : Int) : Nat → Int → Bool
  | 0 => fun _ => false
  | k + 1 => fun p => bzPs Z a k p || decide (p = Z.1 106 (40 * a + k))
section
variable {d : Nat} {σ s t : bSt} {f : Int → bSt → Prop} {fv : bSt → Prop} {fj : Int64 → bSt → Prop} {Z : bZs} {a i k x v : Int} {n : Nat} {K : bKy} {P : List (Int × bKy)}
theorem bLeq : ∀ {L M : List Int}, L.length = M.length → (∀ i : Nat, i < L.length → L.getD i 0 = M.getD i 0) → L = M
  | [], [], _, _ => rfl
  | [], _ :: _, h, _ => by simp at h
  | _ :: _, [], h, _ => by simp at h
  | x :: L, y :: M, h, k => by
    have h0 := k 0 (Nat.zero_lt_succ _)
    have e : x = y := h0
    rw [e, bLeq (L := L) (M := M) (by simpa using h) (fun i hi => k (i + 1) (Nat.succ_lt_succ hi))]
theorem bGd_m {L : List Int} {i : Nat} (hi : i < L.length) : L.getD i 0 ∈ L := by
  rw [List.getD_eq_getElem?_getD, List.getElem?_eq_getElem hi]
  exact List.getElem_mem _
theorem bzSn_m (h : bzA σ s) {ho p : Int} : bSn s ho p = bSn σ ho p := by unfold bSn; rw [h.2.2.1, bOwn_p h.1, h.1.1 56 (by decide)]
/-- contents are in range -/
theorem bzC_rg (h : bzO σ n Z) (a0 : 0 ≤ a) (a1 : a < (n : Int)) (w : Z.1 140 a ≠ 0) (i0 : 0 ≤ i) (i1 : i < Z.1 105 a) : 0 ≤ bzC σ Z a i ∧ bzC σ Z a i < 1000 := by
  obtain ⟨h1, h2, h3, h4⟩ := h
  unfold bzC
  rcases (h2.2 a a0 a1).2.2 i i0 i1 with q | q
  · rw [if_pos (by omega)]
    have := ((h3 a a0 a1 w).1 i i0 i1 q.2).1
    have := (h1.1.1 _ q.1 q.2).2.2
    omega
  · rw [if_neg (by omega)]
    exact h4 _ (by omega) (by omega)
theorem bzL_rg (h : bzO σ n Z) (a0 : 0 ≤ a) (a1 : a < (n : Int)) (w : Z.1 140 a ≠ 0) : ∀ y ∈ bzL σ Z a, 0 ≤ y ∧ y < 1000 := fun y hy => by
  unfold bzL at hy
  obtain ⟨i, hi, e⟩ := List.mem_map.1 hy
  have hi2 := List.mem_range.1 hi
  rw [← e]
  exact bzC_rg h a0 a1 w (by omega) (by omega)
theorem bzV_rg (h : bzO σ n Z) (a0 : 0 ≤ a) (a1 : a < (n : Int)) (w : Z.1 140 a ≠ 0) : -1 ≤ bzV σ Z a ∧ bzV σ Z a < 1000 := by
  have o := h.2.1.2 a a0 a1
  exact bGiv_rg h.1.1 (by omega) (fun i i0 i1 => bzC_rg h a0 a1 w i0 (by omega)) (by omega)
theorem bzK_g (h : bzO σ n Z) (a0 : 0 ≤ a) (a1 : a < (n : Int)) (w : Z.1 140 a ≠ 0) (hv : bzV σ Z a ≠ -1) : bKg (bzK σ Z a) := by
  have o := h.2.1.2 a a0 a1
  have r := bzV_rg h a0 a1 w
  have ok := bzF_ok (Z := Z) (a := a) h.1.1
  refine ⟨bKok_z h.1.1, ⟨o.2.1.1, o.2.1.2.1, o.2.1.2.2.1, ?_, bzL_rg h a0 a1 w, bFok_len ok, ok.1, ?_⟩⟩
  · show (bzL σ Z a).length ≤ 40
    rw [bzL_len]; omega
  · rw [← bzV_k h.1.1]; omega
theorem r262 (h : bzO σ n Z) (E : bzRe σ n Z s) (a0 : 0 ≤ a) (a1 : a < (n : Int)) (i0 : 0 ≤ i) (i1 : i < Z.1 105 a) (k : f (bzC σ Z a i) s) : bWp (d + 1) 262 [.ref 12, .int (bn (Z.1 106 (40 * a + i)))] s (bRn f) := by
  have n120 := h.2.1.1
  have hq := (h.2.1.2 a a0 a1).2.2 i i0 i1
  unfold bzC at k
  generalize Z.1 106 (40 * a + i) = w at *
  refine ⟨rfl, fun A hA => sq262_0 (bWp_mono _) hA (by rcases hq with q | q <;> exact ⟨by omega, by omega⟩) ⟨fun z => ?_, fun z => ?_⟩⟩
  · rw [if_pos (by omega), ← E.1.1.1 56 (by decide)] at k
    exact ⟨by omega, bRn_i (bi_rg _ _ _) k⟩
  · have q := hq.resolve_left (fun y => z y.2)
    rw [if_neg (by omega), ← (E.2.2.2 (w - 100) (by omega) (by omega)).1 112 (by decide)] at k
    exact ⟨⟨by omega, by omega⟩, ⟨by omega, by omega⟩, bRn_i (bi_rg _ _ _) k⟩
theorem r261 (h : bzO σ n Z) (E : bzRe σ n Z s) (a0 : 0 ≤ a) (a1 : a < (n : Int)) (k : fj (bMk (bzPs Z a (Z.1 105 a).toNat) 48) s) : bWp (d + 1) 261 [.ref 12, .int (bn a)] s (bRj fj) := by
  have n120 := h.2.1.1
  obtain ⟨o1, o2, o3⟩ := h.2.1.2 a a0 a1
  have E1 := E.2.2.2 a a0 a1
  refine ⟨rfl, fun A hA => sq261_0 (bWp_mono _) hA ⟨by omega, by omega⟩ ⟨⟨by omega, by omega⟩, ?_⟩⟩
  have Lp : ∀ (m j : Nat), (j : Int) + m = Z.1 105 a → A (6, [.ref 12, .int (bn a), .long (bMk (bzPs Z a j) 48), .float 0, .int (bn (40 * a + j))], [], s) := by
    intro m
    induction m with
    | zero =>
      intro j hj
      refine sq261_6 (bWp_mono _) hA ⟨by omega, by omega⟩ ⟨by omega, by omega⟩ ?_
      rw [E1.1 105 (by decide)]
      rw [show (Z.1 105 a).toNat = j by omega] at k
      exact ⟨⟨by omega, by omega⟩, ⟨by omega, by omega⟩, ⟨by omega, by omega⟩, fun w => absurd w (by omega), fun _ => k⟩
    | succ m ih =>
      intro j hj
      have nx := ih (j + 1) (by omega)
      rw [show 40 * a + ((j + 1 : Nat) : Int) = 40 * a + j + 1 by omega] at nx
      have hq := o3 j (by omega) (by omega)
      refine sq261_6 (bWp_mono _) hA ⟨by omega, by omega⟩ ⟨by omega, by omega⟩ ?_
      rw [E1.1 105 (by decide), E1.2 j (by omega) (by omega)]
      refine ⟨⟨by omega, by omega⟩, ⟨by omega, by omega⟩, ⟨by omega, by omega⟩, fun _ => ⟨⟨by omega, by omega⟩, fun z => ⟨⟨by omega, by omega⟩, ?_⟩, fun z => ⟨⟨by omega, by omega⟩, ?_⟩⟩, fun w => absurd (show 40 * a + (j : Int) < 40 * a + Z.1 105 a by omega) w⟩
      · have e := bMk_or (P := bzPs Z a j) (p := Z.1 106 (40 * a + j)) (by omega) 48
        rw [if_pos (by omega)] at e
        rw [← e]
        exact nx
      · rw [show ∀ y : Int64, y ||| Int64.ofNat 0 = y from fun _ => Int64.or_zero]
        have e : bMk (bzPs Z a (j + 1)) 48 = bMk (bzPs Z a j) 48 := bMk_x 48 (fun p p0 p1 => by
          show (bzPs Z a j p || decide (p = Z.1 106 (40 * a + j))) = bzPs Z a j p
          rw [decide_eq_false (by omega), Bool.or_false])
        rw [← e]
        exact nx
  have := Lp (Z.1 105 a).toNat 0 (by omega)
  rw [show 40 * a + ((0 : Nat) : Int) = 40 * a by omega, show bMk (bzPs Z a 0) 48 = Int64.ofNat 0 by
    show bMk (fun _ => false) 48 = Int64.ofNat 0
    decide +kernel] at this
  exact this
theorem bzPs_m : ∀ m : Nat, ∀ p, bzPs Z a m p = true → ∃ i, 0 ≤ i ∧ i < (m : Int) ∧ Z.1 106 (40 * a + i) = p
  | 0, p, h => absurd (show (false : Bool) = true from h) (by decide)
  | m + 1, p, h => by
    have h2 : (bzPs Z a m p || decide (p = Z.1 106 (40 * a + m))) = true := h
    cases hb : bzPs Z a m p with
    | true =>
      obtain ⟨i, i0, i1, e⟩ := bzPs_m m p hb
      exact ⟨i, i0, by omega, e⟩
    | false =>
      rw [hb, Bool.false_or] at h2
      exact ⟨m, by omega, by omega, (of_decide_eq_true h2).symm⟩
theorem bzPho (h : bzO σ n Z) (ag : bPag σ s) (a0 : 0 ≤ a) (a1 : a < (n : Int)) (w : Z.1 140 a ≠ 0) (o5 : Z.1 101 a = 5) : bPho s (Z.1 104 a) (bzPs Z a (Z.1 105 a).toNat) := fun p p0 p1 hp => by
  obtain ⟨i, i0, i1, e⟩ := bzPs_m _ p hp
  have o := (h.2.1.2 a a0 a1).1
  rw [bOwn_p ag, ← e]
  exact ((h.2.2.1 a a0 a1 w).1 i i0 (by omega) (by omega)).2 o5
theorem r266 (h : bzO σ n Z) (E : bzRe σ n Z s) (a0 : 0 ≤ a) (a1 : a < (n : Int)) (w : Z.1 140 a ≠ 0) (o5 : Z.1 101 a = 5) (hx : 0 ≤ x ∧ x < 48048) (k : f (if bSn σ (Z.1 104 a) (x / 1001) = x % 1001 - 1 then 1 else 0) s) : bWp (d + 5) 266 [.ref 12, .int (bn a), .int (bn x)] s (bRn f) := by
  have n120 := h.2.1.1
  obtain ⟨o1, o2, o3⟩ := h.2.1.2 a a0 a1
  refine ⟨rfl, fun A hA => sq266_0 (bWp_mono _) hA ⟨by omega, by omega⟩ ⟨by omega, by omega⟩ ⟨⟨by omega, by omega⟩, r261 h E a0 a1 ⟨hx.1, ?_⟩⟩⟩
  rw [(E.2.2.2 a a0 a1).1 104 (by decide)]
  refine w258 E.2.1 (bzPho h E.1.1 a0 a1 w o5) ⟨by omega, by omega⟩ (by omega) (by omega) ?_
  rw [bzSn_m E.1]
  exact ⟨⟨by omega, by omega⟩, fun z => bRn_i (by decide) (by rwa [if_pos z] at k), fun z => bRn_i (by decide) (by rwa [if_neg z] at k)⟩
theorem r265 (h : bzO σ n Z) (E : bzRe σ n Z s) (a0 : 0 ≤ a) (a1 : a < (n : Int)) (k0 : 0 ≤ k) (k1 : k < 80) (hK : 0 < bi s 121 k → bzSk s k K ∧ K.2.2.2.1.length ≤ 40) (hf : f (if 0 < bi s 121 k ∧ bzMt σ Z a K then 1 else 0) s) : bWp (d + 2) 265 [.ref 12, .int (bn k), .int (bn a)] s (bRn f) := by
  have n120 := h.2.1.1
  obtain ⟨o1, o2, o3⟩ := h.2.1.2 a a0 a1
  have E1 := E.2.2.2 a a0 a1
  refine ⟨rfl, fun A hA => sq265_0 (bWp_mono _) hA ⟨by omega, by omega⟩ ⟨by omega, by omega⟩ ⟨⟨k0, k1⟩, ?_⟩⟩
  have no : ∀ j : Int, bRg j → ¬ (0 < bi s 121 k ∧ bzMt σ Z a K) → A (47, [.ref 12, .int (bn k), .int (bn a), .int (bn 0), .int (bn j)], [], s) := fun j rj q => by
    rw [if_neg q] at hf
    exact sq265_47 (bWp_mono _) hA ⟨by omega, by omega⟩ ⟨by omega, by omega⟩ (by decide) rj ⟨⟨by omega, by omega⟩, fun _ => ⟨fun _ => ⟨Or.inl rfl, bRn_i (by decide) hf⟩, fun z => absurd rfl z⟩, fun _ => ⟨Or.inl rfl, bRn_i (by decide) hf⟩⟩
  refine ⟨fun st => ?_, fun q => no 0 (by decide) fun z => q z.1⟩
  obtain ⟨⟨K1, K2, K3, K4, K5, _⟩, l40⟩ := hK st
  rw [E1.1 101 (by decide), E1.1 102 (by decide), E1.1 103 (by decide), E1.1 105 (by decide), K1, K2, K3, K4]
  refine ⟨⟨a0, by omega⟩, fun c1 => ⟨fun c2 => ⟨fun c3 => ⟨fun c4 => ?_, fun q => no 0 (by decide) fun z => q (by rw [z.2.2.2.2, bzL_len]; omega)⟩, fun q => no 0 (by decide) fun z => q z.2.2.2.1⟩, fun q => no 0 (by decide) fun z => q z.2.2.1⟩, fun q => no 0 (by decide) fun z => q z.2.1⟩
  have Lp : ∀ (m j : Nat), j + m = K.2.2.2.1.length → (∀ i : Nat, i < j → K.2.2.2.1.getD i 0 = bzC σ Z a i) → A (47, [.ref 12, .int (bn k), .int (bn a), .int (bn 1), .int (bn j)], [], s) := by
    intro m
    induction m with
    | zero =>
      intro j hj D
      have eq : K.2.2.2.1 = bzL σ Z a := bLeq (by rw [bzL_len]; omega) (fun i hi => by rw [D i (by omega), bzL_at (by omega)])
      rw [if_pos ⟨st, c1, c2, c3, eq⟩] at hf
      refine sq265_47 (bWp_mono _) hA ⟨by omega, by omega⟩ ⟨by omega, by omega⟩ (by decide) ⟨by omega, by omega⟩ ?_
      rw [E1.1 105 (by decide)]
      exact ⟨⟨a0, by omega⟩, fun z => absurd z (by omega), fun _ => ⟨Or.inr rfl, bRn_i (by decide) hf⟩⟩
    | succ m ih =>
      intro j hj D
      have K5j := K5 j (by omega)
      refine sq265_47 (bWp_mono _) hA ⟨by omega, by omega⟩ ⟨by omega, by omega⟩ (by decide) ⟨by omega, by omega⟩ ?_
      rw [E1.1 105 (by decide), E1.2 j (by omega) (by omega), K5j]
      refine ⟨⟨a0, by omega⟩, fun _ => ⟨fun z => absurd z (by decide), fun _ => ⟨⟨by omega, by omega⟩, ⟨by omega, by omega⟩, ⟨by omega, by omega⟩, ⟨by omega, by omega⟩, ⟨by omega, by omega⟩, ⟨by omega, by omega⟩, r262 h E a0 a1 (by omega) (by omega) ⟨fun q => ⟨⟨by omega, by omega⟩, ?_⟩, fun q => ⟨⟨by omega, by omega⟩, no _ ⟨by omega, by omega⟩ fun z => q ?_⟩⟩⟩⟩, fun z => absurd (show (j : Int) < Z.1 105 a by omega) z⟩
      · have := ih (j + 1) (by omega) (fun i hi => by
          by_cases e : i = j
          · rw [e]; exact q
          · exact D i (by omega))
        rw [show ((j + 1 : Nat) : Int) = (j : Int) + 1 by omega] at this
        exact this
      · rw [z.2.2.2.2, bzL_at (by omega)]
  exact Lp K.2.2.2.1.length 0 (by omega) (fun i hi => by omega)
end

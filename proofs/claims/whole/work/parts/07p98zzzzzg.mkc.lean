/-! BUILD, 55: the reference makes the action of a node -/
def bmRK : List Nat := [99, 101, 102, 103, 104, 105, 106, 107, 108, 109, 110, 111, 116, 117, 118]
/-- what the reference's making leaves; n0 actions stood before -/
def bmRf (n0 : Int) (σ s : bSt) : Prop := s.2 = σ.2 ∧ bUn bmRK [49] σ s ∧ ∀ a, 0 ≤ a → a < n0 → (∀ b ∈ [101, 102, 103, 104, 105, 110, 111], bi s b a = bi σ b a) ∧ ∀ i, 0 ≤ i → i < 40 → bi s 106 (40 * a + i) = bi σ 106 (40 * a + i)
/-- the reference, while it makes actions -/
def bmR (n0 : Int) (V : List Int) (Z : bZs) (n : Nat) (σ s : bSt) : Prop := bmRf n0 σ s ∧ bi s 12 49 = n ∧ (∀ a, 0 ≤ a → a < (n : Int) → (∀ b ∈ [101, 102, 103, 104, 105], bi s b a = Z.1 b a) ∧ (∀ i, 0 ≤ i → i < Z.1 105 a → bi s 106 (40 * a + i) = Z.1 106 (40 * a + i)) ∧ (n0 ≤ a → bi s 110 a = 0 ∧ bi s 111 a = 0)) ∧
  (∀ a, 0 ≤ a → a < 120 → bi s 107 a = Z.1 107 a ∧ bi s 109 a = Z.1 109 a) ∧ (∀ y ∈ V, bi s 99 y = Z.1 99 y) ∧ ∀ y, 0 ≤ y → y < 4096 → y ∉ V → bi s 99 y = -9
section
variable {d lvl : Nat} {σ s s0 t r s' : bSt} {f : Int → bSt → Prop} {fv : bSt → Prop} {A : bPt → Prop} {Z Z0 Y X : bZs} {x y v a b k i q n0 : Int} {V W L : List Int} {n m : Nat} {rk : Int → Nat}
theorem bmRf_refl : bmRf n0 σ σ := ⟨rfl, bUn_refl, fun _ _ _ => ⟨fun _ _ => rfl, fun _ _ _ => rfl⟩⟩
theorem bmRf_w {b : Nat} {j : Int} (h : bmRf n0 σ s) (j0 : 0 ≤ j) (hb : b ∈ bmRK) (h1 : b ∈ [101, 102, 103, 104, 105, 110, 111] → n0 ≤ j) (h2 : b = 106 → 40 * n0 ≤ j) : bmRf n0 σ (bw s b j v) := by
  refine ⟨h.1, bUn_w h.2.1 (by revert hb; unfold bmRK; simp only [List.mem_cons, List.not_mem_nil, or_false]; omega) (by revert hb; unfold bmRK; simp only [List.mem_cons, List.not_mem_nil, or_false]; omega), fun a a0 a1 => ⟨fun c hc => ?_, fun i i0 i1 => ?_⟩⟩
  · rw [← (h.2.2 a a0 a1).1 c hc]
    by_cases e : c = b
    · rw [e] at hc ⊢
      have := h1 hc
      exact bi_nj j0 a0 (by omega)
    · exact bi_ne e
  · rw [← (h.2.2 a a0 a1).2 i i0 i1]
    by_cases e : b = 106
    · rw [e]
      have := h2 e
      exact bi_nj j0 (by omega) (by omega)
    · exact bi_ne (Ne.symm e)
theorem bmRf_c (h : bmRf n0 σ s) : bmRf n0 σ (bw s 12 49 v) := ⟨h.1, bUn_f h.2.1 (by decide) (by decide), fun a a0 a1 => ⟨fun c hc => by
  rw [bi_ne (by revert hc; simp only [List.mem_cons, List.not_mem_nil, or_false]; omega)]
  exact (h.2.2 a a0 a1).1 c hc, fun i i0 i1 => by rw [bi_ne (by decide)]; exact (h.2.2 a a0 a1).2 i i0 i1⟩⟩
theorem bmUn_pagR {S : List Nat} {F : List Int} (u : bUn S F σ s) (hS : ∀ k ∈ [8, 56, 57, 71, 72, 73, 74, 75, 77, 78, 80, 81, 82, 83, 84, 85, 86, 87, 88], k ∉ S) (hF : 17 ∉ F ∧ 22 ∉ F) : bPag σ s := ⟨fun a ha i => u.1 a (by
    have := hS a (List.mem_cons_of_mem _ ha)
    rwa [Nat.mod_eq_of_lt (by simp only [List.mem_cons, List.not_mem_nil, or_false] at ha; omega)]) (by
    simp only [List.mem_cons, List.not_mem_nil, or_false] at ha
    omega) i, u.2.1 17 (by decide) hF.1, u.2.1 22 (by decide) hF.2, fun t => u.1 (bTi t) (by rw [bTi_m]; exact hS 8 (by decide)) (by rw [bTi_m]; decide) 4⟩
theorem w246b (q0 : 0 ≤ bi σ 12 49 ∧ bi σ 12 49 ≤ 120) (x0 : 0 ≤ x) (ht : bTgk σ (x / 256)) (tc : bi σ 12 22 ≤ 16) (hl : L.length ≤ 40) (HL : bHl σ 116 0 L) (h1 : ∀ a, 0 ≤ a → a < bi σ 12 49 → bSar σ a (bi σ 76 (x / 256)) (bi σ 97 x) (bi σ 98 x) (bi σ 75 (x / 256)) L → f a σ) (h0 : (∀ a, 0 ≤ a → a < bi σ 12 49 → ¬ bSar σ a (bi σ 76 (x / 256)) (bi σ 97 x) (bi σ 98 x) (bi σ 75 (x / 256)) L) → f (-1) σ) : bWp (d + 1) 246 [.ref 12, .int (bn x), .int (bn (L.length : Int))] σ (bRn f) := by
  have ht1 := ht.1
  have ht2 := ht.2
  refine ⟨rfl, fun A hA' => sq246_0 (bWp_mono _) hA' ⟨by omega, by omega⟩ ⟨by omega, by omega⟩ ⟨x0, ?_⟩⟩
  have Lp : ∀ (m : Nat) (l fd : Int) (v6 v7 : Value), l + m = bi σ 12 49 → 0 ≤ l → ((0 ≤ fd ∧ fd < l) ∧ bSar σ fd (bi σ 76 (x / 256)) (bi σ 97 x) (bi σ 98 x) (bi σ 75 (x / 256)) L ∨ fd = -1 ∧ ∀ a, 0 ≤ a → a < l → ¬ bSar σ a (bi σ 76 (x / 256)) (bi σ 97 x) (bi σ 98 x) (bi σ 75 (x / 256)) L) → A (8, [.ref 12, .int (bn x), .int (bn (L.length : Int)), .int (bn (x / 256)), .int (bn fd), .int (bn l), v6, v7], [], σ) := by
    intro m
    induction m with
    | zero =>
      intro l fd v6 v7 hl2 l0 D
      refine sq246_8 (bWp_mono _) hA' ⟨by omega, by omega⟩ ⟨by omega, by omega⟩ ⟨by omega, by omega⟩ (by rcases D with ⟨w, _⟩ | ⟨w, _⟩; exact ⟨by omega, by omega⟩; rw [w]; decide) ⟨by omega, by omega⟩ ⟨fun w => absurd w (by omega), fun _ => ?_⟩
      rcases D with ⟨⟨w0, w1⟩, w2⟩ | ⟨w, D⟩
      · exact bRn_i ⟨by omega, by omega⟩ (h1 fd w0 (by omega) w2)
      · rw [w]; exact bRn_i (by decide) (h0 fun a a0 a1 => D a a0 (by omega))
    | succ m ih =>
      intro l fd v6 v7 hl2 l0 D
      have rfd : bRg fd := by
        rcases D with ⟨w, _⟩ | ⟨w, _⟩
        · exact ⟨by omega, by omega⟩
        · rw [w]; decide
      -- it is not this one
      have no : ¬ bSar σ l (bi σ 76 (x / 256)) (bi σ 97 x) (bi σ 98 x) (bi σ 75 (x / 256)) L → ∀ v6 v7, bRg (l + 1) ∧ A (8, [.ref 12, .int (bn x), .int (bn (L.length : Int)), .int (bn (x / 256)), .int (bn fd), .int (bn (l + 1)), v6, v7], [], σ) := fun w v6 v7 => ⟨⟨by omega, by omega⟩, ih (l + 1) fd v6 v7 (by omega) (by omega) (D.imp (fun ⟨⟨a, b⟩, c⟩ => ⟨⟨a, by omega⟩, c⟩) (fun ⟨a, b⟩ => ⟨a, fun c c0 c1 => by
        by_cases e : c = l
        · rw [e]; exact w
        · exact b c c0 (by omega)⟩))⟩
      have yes : bSar σ l (bi σ 76 (x / 256)) (bi σ 97 x) (bi σ 98 x) (bi σ 75 (x / 256)) L → ∀ v6 v7, bRg (l + 1) ∧ A (8, [.ref 12, .int (bn x), .int (bn (L.length : Int)), .int (bn (x / 256)), .int (bn l), .int (bn (l + 1)), v6, v7], [], σ) := fun w v6 v7 => ⟨⟨by omega, by omega⟩, ih (l + 1) l v6 v7 (by omega) (by omega) (Or.inl ⟨⟨l0, by omega⟩, w⟩)⟩
      have bad : ¬ bSar σ l (bi σ 76 (x / 256)) (bi σ 97 x) (bi σ 98 x) (bi σ 75 (x / 256)) L → ∀ j : Int, bRg j → A (66, [.ref 12, .int (bn x), .int (bn (L.length : Int)), .int (bn (x / 256)), .int (bn fd), .int (bn l), .int (bn 0), .int (bn j)], [], σ) := fun w j hj =>
        sq246_66 (bWp_mono _) hA' ⟨by omega, by omega⟩ ⟨by omega, by omega⟩ ⟨by omega, by omega⟩ rfd ⟨by omega, by omega⟩ (by decide) hj ⟨fun _ => ⟨fun _ => ⟨fun _ => no w _ _, fun z => absurd rfl z⟩, fun z => absurd rfl z⟩, fun _ => ⟨fun _ => no w _ _, fun z => absurd rfl z⟩⟩
      refine sq246_8 (bWp_mono _) hA' ⟨by omega, by omega⟩ ⟨by omega, by omega⟩ ⟨by omega, by omega⟩ rfd ⟨by omega, by omega⟩ ⟨fun _ => ⟨⟨by omega, by omega⟩, ⟨by omega, by omega⟩, fun c1 => ⟨⟨by omega, by omega⟩, fun c2 => ⟨fun c3 => ⟨fun c4 => ?_, fun c => bad (fun w => c w.2.2.2.1) 0 (by decide)⟩, fun c => bad (fun w => c w.2.2.1) 0 (by decide)⟩, fun c => bad (fun w => c w.2.1) 0 (by decide)⟩, fun c => bad (fun w => c w.1) 0 (by decide)⟩, fun w => absurd (show l < bi σ 12 49 by omega) w⟩
      have good : (bi σ 76 (x / 256) = 5 → bi σ 104 l = bi σ 75 (x / 256)) → A (66, [.ref 12, .int (bn x), .int (bn (L.length : Int)), .int (bn (x / 256)), .int (bn fd), .int (bn l), .int (bn 1), .int (bn 0)], [], σ) := fun c5 => by
        have Lj : ∀ (k j : Nat), j + k = L.length → (∀ i : Nat, i < j → bi σ 106 (40 * l + i) = L.getD i 0) → A (66, [.ref 12, .int (bn x), .int (bn (L.length : Int)), .int (bn (x / 256)), .int (bn fd), .int (bn l), .int (bn 1), .int (bn j)], [], σ) := by
          intro k
          induction k with
          | zero =>
            intro j hj Dj
            have w : bSar σ l (bi σ 76 (x / 256)) (bi σ 97 x) (bi σ 98 x) (bi σ 75 (x / 256)) L := ⟨c1, c2, c3, c4, c5, fun i hi => Dj i (by omega)⟩
            exact sq246_66 (bWp_mono _) hA' ⟨by omega, by omega⟩ ⟨by omega, by omega⟩ ⟨by omega, by omega⟩ rfd ⟨by omega, by omega⟩ (by decide) ⟨by omega, by omega⟩ ⟨fun z => absurd z (by omega), fun _ => ⟨fun z => absurd z (by decide), fun _ => yes w _ _⟩⟩
          | succ k ihk =>
            intro j hj Dj
            refine sq246_66 (bWp_mono _) hA' ⟨by omega, by omega⟩ ⟨by omega, by omega⟩ ⟨by omega, by omega⟩ rfd ⟨by omega, by omega⟩ (by decide) ⟨by omega, by omega⟩ ⟨fun _ => ⟨fun z => absurd z (by decide), fun _ => ⟨⟨by omega, by omega⟩, ⟨by omega, by omega⟩, ⟨by omega, by omega⟩, ⟨by omega, by omega⟩, fun e => ⟨⟨by omega, by omega⟩, ?_⟩, fun e => ⟨⟨by omega, by omega⟩, bad (fun w => e ?_) _ ⟨by omega, by omega⟩⟩⟩⟩, fun z => absurd (show (j : Int) < L.length by omega) z⟩
            · have := ihk (j + 1) (by omega) (fun i hi => by
                by_cases ei : i = j
                · have hx := HL j (by omega)
                  rw [Int.zero_add] at hx
                  rw [ei, e, hx]
                · exact Dj i (by omega))
              rw [show ((j + 1 : Nat) : Int) = (j : Int) + 1 by omega] at this
              exact this
            · have hx := HL j (by omega)
              rw [Int.zero_add] at hx
              rw [w.2.2.2.2.2 j (by omega), hx]
        exact Lj L.length 0 (by omega) (fun i hi => by omega)
      exact ⟨fun o5 => ⟨fun c => good fun _ => c, fun c => bad (fun w => c (w.2.2.2.2.1 o5)) 0 (by decide)⟩, fun o5 => good fun w => absurd w o5⟩
  exact Lp (bi σ 12 49).toNat 0 (-1) _ _ (by omega) (by decide) (Or.inr ⟨rfl, fun a a0 a1 => by omega⟩)
/-- a found action is noted -/
theorem bmR_tag {T : bZs} (h : bmR n0 V T m σ s) (a0 : 0 ≤ a) (a1 : a < (m : Int)) (m120 : m ≤ 120) (x0 : 0 ≤ x) (x4 : x < 4096) (hV : ∀ y ∈ V, 0 ≤ y) (hv : v = if T.1 109 a = 0 then x / 256 else T.1 107 a) (rv : bRg v) : bmR n0 (V ++ [x]) (bmTg T x a) m σ (bw (bw (bw s 107 a v) 109 a 1) 99 x a) := by
  obtain ⟨h1, h2, h3, h4, h5, h6⟩ := h
  obtain ⟨g0, g99, g109, g107, _⟩ := bmTg_e (Z := T) (x := x) (a := a)
  have ra : bRg a := ⟨by omega, by omega⟩
  have ne : ∀ b, b ≠ 107 → b ≠ 109 → b ≠ 99 → ∀ j, bi (bw (bw (bw s 107 a v) 109 a 1) 99 x a) b j = bi s b j := fun b q1 q2 q3 j => by rw [bi_ne q3, bi_ne q2, bi_ne q1]
  have e99 : ∀ j, 0 ≤ j → bi (bw (bw (bw s 107 a v) 109 a 1) 99 x a) 99 j = if j = x then a else bi s 99 j := fun j j0 => by
    rw [bi_bw x0 j0 ra, bi_ne (by decide), bi_ne (by decide)]; simp only [true_and]
  refine ⟨bmRf_w (bmRf_w (bmRf_w h1 a0 (by decide) (fun q => absurd q (by decide)) (fun q => absurd q (by decide))) a0 (by decide) (fun q => absurd q (by decide)) (fun q => absurd q (by decide))) x0 (by decide) (fun q => absurd q (by decide)) (fun q => absurd q (by decide)), by rw [ne 12 (by decide) (by decide) (by decide)]; exact h2, fun b b0 b1 => ⟨fun c hc => ?_, fun i i0 i1 => ?_, fun q => ?_⟩, fun b b0 b1 => ⟨?_, ?_⟩, fun y hy => ?_, fun y y0 y1 hy => ?_⟩
  · have hc' := hc
    simp only [List.mem_cons, List.not_mem_nil, or_false] at hc'
    rw [ne c (by omega) (by omega) (by omega), g0 c (by omega) (by omega) (by omega)]
    exact (h3 b b0 b1).1 c hc
  · rw [g0 105 (by decide) (by decide) (by decide)] at i1
    rw [ne 106 (by decide) (by decide) (by decide), g0 106 (by decide) (by decide) (by decide)]
    exact (h3 b b0 b1).2.1 i i0 i1
  · rw [ne 110 (by decide) (by decide) (by decide), ne 111 (by decide) (by decide) (by decide)]
    exact (h3 b b0 b1).2.2 q
  · rw [bi_ne (by decide), bi_ne (by decide), bi_bw a0 b0 rv, g107]
    simp only [true_and]
    by_cases e : b = a
    · rw [if_pos e, hv, e]
      by_cases z : T.1 109 a = 0
      · rw [if_pos z, if_pos ⟨rfl, z⟩]
      · rw [if_neg z, if_neg (fun q => z q.2)]
    · rw [if_neg e, if_neg (fun q => e q.1)]; exact (h4 b b0 b1).1
  · rw [bi_ne (by decide), bi_bw a0 b0 (by decide), g109]
    simp only [true_and]
    by_cases e : b = a
    · rw [if_pos e, if_pos e]
    · rw [if_neg e, if_neg e, bi_ne (by decide)]; exact (h4 b b0 b1).2
  · by_cases e : y = x
    · rw [e, e99 x x0, if_pos rfl, g99, if_pos rfl]
    · rcases List.mem_append.1 hy with q | q
      · rw [g99, if_neg e, e99 y (hV y q), if_neg e]
        exact h5 y q
      · exact absurd (List.mem_singleton.1 q) e
  · rw [e99 y y0, if_neg (fun e => hy (List.mem_append_right _ (by rw [e]; exact List.mem_cons_self)))]
    exact h6 y y0 y1 fun q => hy (List.mem_append_left _ q)
/-- the reference makes the action of a node -/
theorem r251 {z0 : Nat} (hF : bFi σ) (hL : bTl σ) (hT : bTg σ) (h4 : bR4 σ) (I0 : bmI0 rk n Z) (I1 : bmI1 σ V rk n Z) (Cl : bmCl σ V) (nn : z0 ≤ n) (R : bmR z0 V Z n σ s) (e97 : bi σ 97 x = bNu σ (x / 256) (x % 256) ∧ bi σ 98 x = bVe σ (x / 256) (x % 256)) (x0 : 0 ≤ x) (ht : bTgk σ (x / 256)) (hE : bFx σ x = 0) (nin : x ∉ V) (hit : ∀ k, 0 ≤ k → k < bi σ 85 (x / 256) → bi σ 86 (6 * (x / 256) + k) = 2 → bNod σ x k ∈ V)
    (K1 : ∀ Y t rk m, bmMk σ x Z = some Y → bmI0 rk m Y → bmI1 σ (V ++ [x]) rk m Y → bmCl σ (V ++ [x]) → z0 ≤ m → bmR z0 (V ++ [x]) Y m σ t → (∀ b ∈ [117, 118], ∀ j, bi t b j = bi s b j) → f 1 t) (K0 : bmMk σ x Z = none → ∀ t, bmRf z0 σ t → f 0 t) : bWp (d + 5) 251 [.ref 12, .int (bn x)] s (bRn f) := by
  have n120 := I0.1.2.1
  have tc := hT.1
  have ht2 := ht.2
  have x4 : x < 4096 := by omega
  obtain ⟨Fr, e49, Ra, R7, R99, Rno⟩ := id R
  have u := Fr.2.1
  have ag : bPag σ s := bmUn_pagR u (by decide) (by decide)
  have Ft := bFi_un u (by decide) hF
  have Tt := bTg_un u (by decide) (by decide) hT
  have htt : bTgk s (x / 256) := ⟨ht.1, by rw [ag.2.2.1]; exact ht2⟩
  have V0 : ∀ y ∈ V, 0 ≤ y := fun y hy => (Cl y hy).1.1
  have en : ∀ k, bNod s x k = bNod σ x k := fun k => by unfold bNod; rw [ag.1 87 (by decide), bBw_m ag]
  have ic := bIc_at hT ht
  obtain ⟨L40, Lin⟩ := bmL_in (Z := Z) hF hT x0 ht hE
  have eL : bIl s (bMa s) x (bi s 85 (x / 256)).toNat = bmL σ Z x := by
    rw [ag.1 85 (by decide)]
    exact bIl_m ag hT ht (fun k k0 k1 k2 => R99 _ (hit k k0 k1 k2)) _ (by omega)
  have Cl2 : bmCl σ (V ++ [x]) := fun y hy => by
    rcases List.mem_append.1 hy with h | h
    · have c := Cl y h
      exact ⟨c.1, fun k k0 k1 k2 => List.mem_append_left _ (c.2 k k0 k1 k2)⟩
    · rw [List.mem_singleton.1 h]
      exact ⟨⟨x0, ht, hE⟩, fun k k0 k1 k2 => List.mem_append_left _ (hit k k0 k1 k2)⟩
  refine ⟨rfl, fun A hA => sq251_0 (bWp_mono _) hA ⟨by omega, by omega⟩ ⟨x0, w245 (d := d) Ft Tt x0 htt (by rw [bFx_m ag]; exact hE) (fun y y0 y1 => ?_) (fun ⟨k, k0, k1, k2, k3⟩ => ?_) fun _ s1 M1 HL => ?_⟩⟩
  · by_cases hy : y ∈ V
    · have := (I1.1 y hy).2.1
      rw [R99 y hy]; omega
    · rw [Rno y y0 y1 hy]; decide
  · rw [ag.1 85 (by decide)] at k1
    rw [ag.1 86 (by decide)] at k2
    have h := hit k k0 k1 k2
    have := (I1.1 _ h).2.1
    rw [en, R99 _ h] at k3
    omega
  rw [eL] at HL ⊢
  have e1 : ∀ b, b % 256 ≠ 116 → ∀ j, bi s1 b j = bi s b j := fun b hb => M1.2 b (by simp only [List.mem_cons, List.not_mem_nil, or_false]; exact hb)
  have u1 : ∀ b, b % 256 ∉ bmRK → b % 256 ≠ 12 → b % 256 ≠ 116 → ∀ j, bi s1 b j = bi σ b j := fun b h1 h2 h3 j => (e1 b h3 j).trans (u.1 b h1 h2 j)
  have v76 : bi s1 76 (x / 256) = bi σ 76 (x / 256) := u1 76 (by decide) (by decide) (by decide) _
  have v75 : bi s1 75 (x / 256) = bi σ 75 (x / 256) := u1 75 (by decide) (by decide) (by decide) _
  have v97 : bi s1 97 x = bNu σ (x / 256) (x % 256) := (u1 97 (by decide) (by decide) (by decide) _).trans e97.1
  have v98 : bi s1 98 x = bVe σ (x / 256) (x % 256) := (u1 98 (by decide) (by decide) (by decide) _).trans e97.2
  have v49 : bi s1 12 49 = n := (e1 12 (by decide) 49).trans e49
  have v22 : bi s1 12 22 = bi σ 12 22 := (e1 12 (by decide) 22).trans ag.2.2.1
  have Fr1 : bmRf z0 σ s1 := ⟨by rw [M1.1]; exact Fr.1, bUn_trans u (bUn_S bUn_refl (bSm_mono M1 (by decide)) (by decide)), fun a a0 a1 => ⟨fun b hb => by
    rw [e1 b (by simp only [List.mem_cons, List.not_mem_nil, or_false] at hb; omega)]
    exact (Fr.2.2 a a0 a1).1 b hb, fun i i0 i1 => by rw [e1 106 (by decide)]; exact (Fr.2.2 a a0 a1).2 i i0 i1⟩⟩
  have R1 : bmR z0 V Z n σ s1 := ⟨Fr1, v49, fun a a0 a1 => ⟨fun b hb => by
    rw [e1 b (by simp only [List.mem_cons, List.not_mem_nil, or_false] at hb; omega)]
    exact (Ra a a0 a1).1 b hb, fun i i0 i1 => by rw [e1 106 (by decide)]; exact (Ra a a0 a1).2.1 i i0 i1, fun q => by rw [e1 110 (by decide), e1 111 (by decide)]; exact (Ra a a0 a1).2.2 q⟩, fun a a0 a1 => by rw [e1 107 (by decide), e1 109 (by decide)]; exact R7 a a0 a1, fun y hy => by rw [e1 99 (by decide)]; exact R99 y hy, fun y y0 y1 hy => by rw [e1 99 (by decide)]; exact Rno y y0 y1 hy⟩
  have same : ∀ a, 0 ≤ a → a < (n : Int) → (bSar s1 a (bi s1 76 (x / 256)) (bi s1 97 x) (bi s1 98 x) (bi s1 75 (x / 256)) (bmL σ Z x) ↔ bmSr σ Z x a) := fun a a0 a1 => by
    obtain ⟨r5, r6, _⟩ := R1.2.2.1 a a0 a1
    unfold bSar bmSr bHl
    rw [v76, v75, v97, v98, r5 101 (by decide), r5 102 (by decide), r5 103 (by decide), r5 104 (by decide), r5 105 (by decide)]
    constructor
    · rintro ⟨q1, q2, q3, q4, q5, q6⟩
      exact ⟨q1, q2, q3, q4, q5, fun i hi => by rw [← r6 i (by omega) (by omega)]; exact q6 i hi⟩
    · rintro ⟨q1, q2, q3, q4, q5, q6⟩
      exact ⟨q1, q2, q3, q4, q5, fun i hi => by rw [r6 i (by omega) (by omega)]; exact q6 i hi⟩
  have rlen : bRg ((bmL σ Z x).length : Int) := ⟨by omega, by omega⟩
  have rx : bRg x := ⟨by omega, by omega⟩
  have rx2 : bRg (x / 256) := ⟨by omega, by omega⟩
  refine w246b (d := d + 3) ⟨by omega, by omega⟩ x0 ⟨ht.1, by rw [v22]; exact ht2⟩ (by rw [v22]; omega) L40 HL (fun a a0 a1 w => ?_) fun w => ?_
  · -- one that is there
    rw [v49] at a1
    have sr := (same a a0 a1).1 w
    have eFd : bmFd σ Z x n = a := bmFd_e I0 a0 a1 sr
    have hY : bmMk σ x Z = some (bmTg Z x a) := by
      unfold bmMk
      rw [I0.1.1, Int.toNat_natCast, eFd, if_pos (by omega)]
    obtain ⟨rk', m, J0, J1, nm, _⟩ := bmI_mk hF hL hT h4 I0 I1 Cl x0 ht hE nin hit hY
    have em : m = n := by
      have h1 := J0.1.1
      rw [(bmTg_e (Z := Z) (x := x) (a := a)).1 49 (by decide) (by decide) (by decide), I0.1.1] at h1
      omega
    subst em
    obtain ⟨r107, r109⟩ := R1.2.2.2.1 a a0 (by omega)
    have fin : ∀ v, v = (if Z.1 109 a = 0 then x / 256 else Z.1 107 a) → bRg v → f 1 (bw (bw (bw s1 107 a v) 109 a 1) 99 x a) := fun v hv rv => K1 _ _ _ _ hY J0 J1 Cl2 nn (bmR_tag R1 a0 a1 n120 x0 x4 V0 hv rv) fun b hb j => by
      simp only [List.mem_cons, List.not_mem_nil, or_false] at hb
      rw [bi_ne (by omega), bi_ne (by omega), bi_ne (by omega), e1 b (by omega)]
    refine ⟨fun q => by omega, fun q => sq251_22 (bWp_mono _) hA rx rx2 rlen ⟨by omega, by omega⟩ ⟨fun q => by omega, fun _ => ⟨⟨by omega, by omega⟩, fun q => ⟨⟨x0, x4⟩, bRn_i (by decide) (fin _ ?_ rx2)⟩, fun q => ⟨⟨x0, x4⟩, bRn_i (by decide) (fin _ ?_ (bi_rg _ _ _))⟩⟩⟩⟩
    · rw [if_pos (by rw [← r109]; exact q)]
    · rw [if_neg (by rw [← r109]; exact q)]; exact r107
  · -- none is
    have eFd : bmFd σ Z x n = -1 := by
      rcases bmFd_at (σ := σ) (Z := Z) (x := x) n with ⟨q, _⟩ | ⟨q, q2⟩
      · exact q
      · exact absurd ((same _ q.1 q.2).2 q2) (w _ q.1 (by rw [v49]; exact q.2))
    refine ⟨fun _ => ⟨fun q => ?_, fun q => ?_⟩, fun q => absurd rfl q⟩
    · rw [v49] at q
      have hN : bmMk σ x Z = none := by
        unfold bmMk
        rw [I0.1.1, Int.toNat_natCast, eFd, if_neg (fun w => w rfl), if_pos q]
      exact bRn_i (by decide) (K0 hN s1 Fr1)
    · rw [v49] at q
      have n119 : (n : Int) < 120 := by omega
      have hY : bmMk σ x Z = some (bmTg (zw (bmNw σ Z x n) 109 n 0) x n) := by
        unfold bmMk
        rw [I0.1.1, Int.toNat_natCast, eFd, if_neg (fun w => w rfl), if_neg q]
      obtain ⟨rk', m, J0, J1, nm, _⟩ := bmI_mk hF hL hT h4 I0 I1 Cl x0 ht hE nin hit hY
      have wr : ∀ c, c ≠ 106 → ∀ j, (bmNw σ Z x n).1 c j = (zw (zw (zw (zw (zw (zw Z 49 0 ((n : Int) + 1)) 101 n (bi σ 76 (x / 256))) 102 n (bNu σ (x / 256) (x % 256))) 103 n (bVe σ (x / 256) (x % 256))) 104 n (bi σ 75 (x / 256))) 105 n (bmL σ Z x).length).1 c j := fun c hc j => if_neg fun q => hc q.1
      have em : m = n + 1 := by
        have h1 := J0.1.1
        rw [(bmTg_e (Z := zw (bmNw σ Z x n) 109 n 0) (x := x) (a := (n : Int))).1 49 (by decide) (by decide) (by decide), zw_a (by decide), wr 49 (by decide), zw_a (by decide), zw_a (by decide), zw_a (by decide), zw_a (by decide), zw_a (by decide), zw_e] at h1
        omega
      subst em
      have rn : bRg ((n : Int) + 1) := ⟨by omega, by omega⟩
      refine sq251_22 (bWp_mono _) hA rx rx2 rlen (by decide) ⟨fun _ => ?_, fun q => absurd rfl q⟩
      rw [v49]
      refine ⟨rn, ⟨ht.1, by omega⟩, ⟨by omega, n119⟩, ⟨x0, x4⟩, ?_⟩
      rw [v76, v75, v97, v98]
      have r76 := bi_rg σ 76 (x / 256)
      have r75 := bi_rg σ 75 (x / 256)
      have r97 : bRg (bNu σ (x / 256) (x % 256)) := by rw [← v97]; exact bi_rg _ _ _
      have r98 : bRg (bVe σ (x / 256) (x % 256)) := by rw [← v98]; exact bi_rg _ _ _
      generalize hs2 : bw (bw (bw (bw (bw (bw s1 12 49 ((n : Int) + 1)) 101 n (bi σ 76 (x / 256))) 102 n (bNu σ (x / 256) (x % 256))) 103 n (bVe σ (x / 256) (x % 256))) 104 n (bi σ 75 (x / 256))) 105 n (bmL σ Z x).length = s2
      have g2 : ∀ b, b ∉ [12, 101, 102, 103, 104, 105] → ∀ j, bi s2 b j = bi s1 b j := fun b hb j => by
        simp only [List.mem_cons, List.not_mem_nil, or_false, not_or] at hb
        rw [← hs2, bi_ne (by omega), bi_ne (by omega), bi_ne (by omega), bi_ne (by omega), bi_ne (by omega), bi_ne (by omega)]
      have g49 : bi s2 12 49 = (n : Int) + 1 := by rw [← hs2, bi_ne (by decide), bi_ne (by decide), bi_ne (by decide), bi_ne (by decide), bi_ne (by decide), bi_eq rn]
      have gv : bi s2 101 n = bi σ 76 (x / 256) ∧ bi s2 102 n = bNu σ (x / 256) (x % 256) ∧ bi s2 103 n = bVe σ (x / 256) (x % 256) ∧ bi s2 104 n = bi σ 75 (x / 256) ∧ bi s2 105 n = (bmL σ Z x).length := by
        rw [← hs2]
        refine ⟨?_, ?_, ?_, ?_, bi_eq rlen⟩
        · rw [bi_ne (by decide), bi_ne (by decide), bi_ne (by decide), bi_ne (by decide), bi_eq r76]
        · rw [bi_ne (by decide), bi_ne (by decide), bi_ne (by decide), bi_eq r97]
        · rw [bi_ne (by decide), bi_ne (by decide), bi_eq r98]
        · rw [bi_ne (by decide), bi_eq r75]
      have go : ∀ b ∈ [101, 102, 103, 104, 105], ∀ j, 0 ≤ j → j ≠ (n : Int) → bi s2 b j = bi s1 b j := fun b hb j j0 hj => by
        have st : ∀ (t : bSt) (c : Nat) (v : Int), bi (bw t c n v) b j = bi t b j := fun t c v => by
          by_cases q : b = c
          · rw [q]; exact bi_nj (by omega) j0 hj
          · exact bi_ne q
        have s12 : ∀ v, bi (bw s1 12 49 v) b j = bi s1 b j := fun v => bi_ne (by simp only [List.mem_cons, List.not_mem_nil, or_false] at hb; omega)
        rw [← hs2, st, st, st, st, st, s12]
      have Fr2 : bmRf z0 σ s2 := by
        rw [← hs2]
        have nz : (z0 : Int) ≤ (n : Int) := by omega
        have n0' : (0 : Int) ≤ (n : Int) := by omega
        exact bmRf_w (bmRf_w (bmRf_w (bmRf_w (bmRf_w (bmRf_c Fr1) n0' (by decide) (fun _ => nz) (fun q => absurd q (by decide))) n0' (by decide) (fun _ => nz) (fun q => absurd q (by decide))) n0' (by decide) (fun _ => nz) (fun q => absurd q (by decide))) n0' (by decide) (fun _ => nz) (fun q => absurd q (by decide))) n0' (by decide) (fun _ => nz) (fun q => absurd q (by decide))
      have HL2 : bHl s2 116 0 (bmL σ Z x) := bHl_m HL (g2 116 (by decide))
      have g101 := fun (j : Int) => g2 106 (by decide) j
      -- inputs are copied
      have Lp : ∀ (k l : Nat) (t : bSt), l + k = (bmL σ Z x).length → bmRf z0 σ t → (∀ b, b ≠ 106 → ∀ j, bi t b j = bi s2 b j) → (∀ j, 0 ≤ j → bi t 106 j = if 40 * (n : Int) ≤ j ∧ j < 40 * (n : Int) + l then (bmL σ Z x).getD (j - 40 * (n : Int)).toNat 0 else bi s2 106 j) → A (73, [.ref 12, .int (bn x), .int (bn (x / 256)), .int (bn (bmL σ Z x).length), .int (bn n), .int (bn l)], [], t) := by
        intro k
        induction k with
        | zero =>
          intro l t hl Ft2 tn t6
          have el : l = (bmL σ Z x).length := by omega
          refine sq251_73 (bWp_mono _) hA rx rx2 rlen ⟨by omega, by omega⟩ ⟨by omega, by omega⟩ ⟨fun y => absurd y (by omega), fun _ => ⟨⟨by omega, n119⟩, ⟨x0, x4⟩, bRn_i (by decide) ?_⟩⟩
          have nz : (z0 : Int) ≤ (n : Int) := by omega
          have n0' : (0 : Int) ≤ (n : Int) := by omega
          have w109 : ∀ j, (zw (bmNw σ Z x n) 109 n 0).1 109 j = if j = (n : Int) then 0 else Z.1 109 j := fun j => by
            rw [zw_w]
            by_cases e : j = (n : Int)
            · rw [if_pos ⟨rfl, e⟩, if_pos e]
            · rw [if_neg (fun q => e q.2), if_neg e, wr 109 (by decide), zw_a (by decide), zw_a (by decide), zw_a (by decide), zw_a (by decide), zw_a (by decide), zw_a (by decide)]
          have w107 : ∀ c, c ∉ [49, 101, 102, 103, 104, 105, 106, 109] → ∀ j, (zw (bmNw σ Z x n) 109 n 0).1 c j = Z.1 c j := fun c hc j => by
            simp only [List.mem_cons, List.not_mem_nil, or_false, not_or] at hc
            rw [zw_a (by omega), wr c (by omega), zw_a (by omega), zw_a (by omega), zw_a (by omega), zw_a (by omega), zw_a (by omega), zw_a (by omega)]
          have wa : ∀ c ∈ [101, 102, 103, 104, 105], ∀ j, j ≠ (n : Int) → (zw (bmNw σ Z x n) 109 n 0).1 c j = Z.1 c j := fun c hc j hj => by
            simp only [List.mem_cons, List.not_mem_nil, or_false] at hc
            rw [zw_a (by omega), wr c (by omega), zw_i hj, zw_i hj, zw_i hj, zw_i hj, zw_i hj, zw_a (by omega)]
          have wn : (zw (bmNw σ Z x n) 109 n 0).1 101 n = bi σ 76 (x / 256) ∧ (zw (bmNw σ Z x n) 109 n 0).1 102 n = bNu σ (x / 256) (x % 256) ∧ (zw (bmNw σ Z x n) 109 n 0).1 103 n = bVe σ (x / 256) (x % 256) ∧ (zw (bmNw σ Z x n) 109 n 0).1 104 n = bi σ 75 (x / 256) ∧ (zw (bmNw σ Z x n) 109 n 0).1 105 n = (bmL σ Z x).length := by
            refine ⟨?_, ?_, ?_, ?_, ?_⟩
            · rw [zw_a (by decide), wr 101 (by decide), zw_a (by decide), zw_a (by decide), zw_a (by decide), zw_a (by decide), zw_e]
            · rw [zw_a (by decide), wr 102 (by decide), zw_a (by decide), zw_a (by decide), zw_a (by decide), zw_e]
            · rw [zw_a (by decide), wr 103 (by decide), zw_a (by decide), zw_a (by decide), zw_e]
            · rw [zw_a (by decide), wr 104 (by decide), zw_a (by decide), zw_e]
            · rw [zw_a (by decide), wr 105 (by decide), zw_e]
          have w6 : ∀ j, (zw (bmNw σ Z x n) 109 n 0).1 106 j = if 40 * (n : Int) ≤ j ∧ j < 40 * (n : Int) + (bmL σ Z x).length then (bmL σ Z x).getD (j - 40 * (n : Int)).toNat 0 else Z.1 106 j := fun j => by
            rw [zw_a (by decide)]
            show (if 106 = 106 ∧ 40 * (n : Int) ≤ j ∧ j < 40 * (n : Int) + (bmL σ Z x).length then _ else _) = _
            by_cases e : 40 * (n : Int) ≤ j ∧ j < 40 * (n : Int) + (bmL σ Z x).length
            · rw [if_pos ⟨rfl, e⟩, if_pos e]
            · rw [if_neg (fun q => e q.2), if_neg e, zw_a (by decide), zw_a (by decide), zw_a (by decide), zw_a (by decide), zw_a (by decide), zw_a (by decide)]
          generalize zw (bmNw σ Z x n) 109 n 0 = T at *
          have u0 : ∀ b, b ∉ [109, 110, 111] → ∀ j, bi (bw (bw (bw t 110 n 0) 111 n 0) 109 n 0) b j = bi t b j := fun b hb j => by
            simp only [List.mem_cons, List.not_mem_nil, or_false, not_or] at hb
            rw [bi_ne (by omega), bi_ne (by omega), bi_ne (by omega)]
          have u110 : ∀ j, 0 ≤ j → bi (bw (bw (bw t 110 n 0) 111 n 0) 109 n 0) 110 j = (if j = (n : Int) then 0 else bi s1 110 j) ∧ bi (bw (bw (bw t 110 n 0) 111 n 0) 109 n 0) 111 j = if j = (n : Int) then 0 else bi s1 111 j := fun j j0 => by
            rw [bi_ne (by decide), bi_ne (by decide), bi_bw n0' j0 (by decide), bi_ne (by decide), bi_bw n0' j0 (by decide), bi_ne (by decide), tn 110 (by decide), tn 111 (by decide), g2 110 (by decide), g2 111 (by decide)]
            simp only [true_and]
          have u109 : ∀ j, 0 ≤ j → bi (bw (bw (bw t 110 n 0) 111 n 0) 109 n 0) 109 j = if j = (n : Int) then 0 else bi s1 109 j := fun j j0 => by
            rw [bi_bw n0' j0 (by decide), bi_ne (by decide), bi_ne (by decide), tn 109 (by decide), g2 109 (by decide)]
            simp only [true_and]
          have FU : bmRf z0 σ (bw (bw (bw t 110 n 0) 111 n 0) 109 n 0) := bmRf_w (bmRf_w (bmRf_w Ft2 n0' (by decide) (fun _ => nz) (fun q => absurd q (by decide))) n0' (by decide) (fun _ => nz) (fun q => absurd q (by decide))) n0' (by decide) (fun q => absurd q (by decide)) (fun q => absurd q (by decide))
          have fr7 : ∀ j, bi (bw (bw (bw t 110 n 0) 111 n 0) 109 n 0) 117 j = bi s 117 j ∧ bi (bw (bw (bw t 110 n 0) 111 n 0) 109 n 0) 118 j = bi s 118 j := fun j => by
            rw [u0 117 (by decide), u0 118 (by decide), tn 117 (by decide), tn 118 (by decide), g2 117 (by decide), g2 118 (by decide), e1 117 (by decide), e1 118 (by decide)]
            exact ⟨rfl, rfl⟩
          generalize bw (bw (bw t 110 n 0) 111 n 0) 109 n 0 = U at *
          have RU : bmR z0 V T (n + 1) σ U := by
            refine ⟨FU, by rw [u0 12 (by decide), tn 12 (by decide), g49]; omega, fun a a0 a1 => ⟨fun b hb => ?_, fun i i0 i1 => ?_, fun q => ?_⟩, fun a a0 a1 => ⟨?_, ?_⟩, fun y hy => ?_, fun y y0 y1 hy => ?_⟩
            · have hb' := hb
              simp only [List.mem_cons, List.not_mem_nil, or_false] at hb'
              rw [u0 b (by simp only [List.mem_cons, List.not_mem_nil, or_false]; omega), tn b (by omega)]
              by_cases e : a = n
              · rw [e]
                rcases hb' with rfl | rfl | rfl | rfl | rfl
                · rw [gv.1, wn.1]
                · rw [gv.2.1, wn.2.1]
                · rw [gv.2.2.1, wn.2.2.1]
                · rw [gv.2.2.2.1, wn.2.2.2.1]
                · rw [gv.2.2.2.2, wn.2.2.2.2]
              · rw [go b hb a a0 e, wa b hb a e]
                exact (R1.2.2.1 a a0 (by omega)).1 b hb
            · rw [u0 106 (by decide)]
              by_cases e : a = n
              · rw [e] at i1 ⊢
                rw [wn.2.2.2.2] at i1
                rw [t6 _ (by omega), w6, if_pos ⟨by omega, by omega⟩, if_pos ⟨by omega, by omega⟩]
              · rw [wa 105 (by decide) a e] at i1
                have c40 := (I0.1.2.2 a a0 (by omega)).1
                rw [t6 _ (by omega), w6, if_neg (fun q => by omega), if_neg (fun q => by omega), g2 106 (by decide)]
                exact (R1.2.2.1 a a0 (by omega)).2.1 i i0 i1
            · rw [(u110 a a0).1, (u110 a a0).2]
              by_cases e : a = n
              · rw [if_pos e]; exact ⟨rfl, if_pos e⟩
              · rw [if_neg e, if_neg e]; exact (R1.2.2.1 a a0 (by omega)).2.2 q
            · rw [u0 107 (by decide), tn 107 (by decide), g2 107 (by decide), w107 107 (by decide)]
              exact (R1.2.2.2.1 a a0 a1).1
            · rw [u109 a a0, w109]
              by_cases e : a = n
              · rw [if_pos e, if_pos e]
              · rw [if_neg e, if_neg e]; exact (R1.2.2.2.1 a a0 a1).2
            · rw [u0 99 (by decide), tn 99 (by decide), g2 99 (by decide), w107 99 (by decide)]
              exact R1.2.2.2.2.1 y hy
            · rw [u0 99 (by decide), tn 99 (by decide), g2 99 (by decide)]
              exact R1.2.2.2.2.2 y y0 y1 hy
          refine K1 _ _ _ _ hY J0 J1 Cl2 (by omega) (bmR_tag RU n0' (by omega) (by omega) x0 x4 V0 ?_ rx2) fun b hb j => ?_
          · rw [w109, if_pos rfl, if_pos rfl]
          · simp only [List.mem_cons, List.not_mem_nil, or_false] at hb
            rw [bi_ne (by omega), bi_ne (by omega), bi_ne (by omega)]
            rcases hb with rfl | rfl
            · exact (fr7 j).1
            · exact (fr7 j).2
        | succ k ih =>
          intro l t hl Ft2 tn t6
          have nx := ih (l + 1)
          rw [show ((l + 1 : Nat) : Int) = (l : Int) + 1 by omega] at nx
          have e116 : bi t 116 l = (bmL σ Z x).getD l 0 := by
            rw [tn 116 (by decide)]
            have := HL2 l (by omega)
            rwa [Int.zero_add] at this
          have r116 := bi_rg t 116 l
          refine sq251_73 (bWp_mono _) hA rx rx2 rlen ⟨by omega, by omega⟩ ⟨by omega, by omega⟩ ⟨fun _ => ⟨⟨by omega, by omega⟩, ⟨by omega, by omega⟩, ⟨by omega, by omega⟩, ⟨by omega, by omega⟩, ⟨by omega, by omega⟩, nx _ (by omega) (bmRf_w Ft2 (by omega) (by decide) (fun q => absurd q (by decide)) (fun _ => by omega)) (fun b hb j => by rw [bi_ne hb]; exact tn b hb j) fun j j0 => ?_⟩, fun y => absurd (by omega) y⟩
          rw [bi_bw (by omega) j0 r116, e116]
          simp only [true_and]
          by_cases e : j = 40 * (n : Int) + l
          · rw [if_pos e, if_pos ⟨by omega, by omega⟩, e, show 40 * (n : Int) + (l : Int) - 40 * (n : Int) = (l : Int) by omega, Int.toNat_natCast]
          · rw [if_neg e, t6 j j0]
            by_cases q : 40 * (n : Int) ≤ j ∧ j < 40 * (n : Int) + l
            · rw [if_pos q, if_pos ⟨q.1, by omega⟩]
            · rw [if_neg q, if_neg (fun w => q ⟨w.1, by omega⟩)]
      have := Lp (bmL σ Z x).length 0 s2 (by omega) Fr2 (fun _ _ _ => rfl) (fun j _ => by rw [if_neg (fun q => by omega)])
      exact this
end

/-! BUILD, 9: the reference puts an entry into a cache, as a whole -/
section
variable {d : Nat} {σ s t : bSt} {f : Int → bSt → Prop} {fv : bSt → Prop} {Z : bZs} {a i j k x v lo hi : Int} {n cap : Nat} {K : bKy} {P Q : List (Int × bKy)}
/-- what an action will give, in the reference -/
def bzWl (s : bSt) (a : Int) (K : bKy) : Prop := bi s 130 a = bKv K ∧ bi s 131 a = K.2.2.2.2.length ∧ bHl s 132 (48 * a) K.2.2.2.2
theorem bPu_Re (E : bzRe σ n Z s) (U : bUn bPuK [73] s t) : bzRe σ n Z t := by
  obtain ⟨⟨e1, e2, e3, e4, e5⟩, f1, g1, g2⟩ := E
  have u := fun b (hb : b ∉ bPuK) (h12 : b ≠ 12) (hm : b % 256 = b) j => U.1 b (by rw [hm]; exact hb) (by rw [hm]; exact h12) j
  refine ⟨⟨⟨fun b hb j => ?_, (U.2.1 17 (by decide) (by decide)).trans e1.2.1, (U.2.1 22 (by decide) (by decide)).trans e1.2.2.1, fun t => (U.1 (bTi t) (by rw [bTi_m]; decide) (by rw [bTi_m]; decide) 4).trans (e1.2.2.2 t)⟩, fun b hb j => ?_, (U.2.1 68 (by decide) (by decide)).trans e3, (U.2.1 87 (by decide) (by decide)).trans e4, (U.2.1 88 (by decide) (by decide)).trans e5⟩, bFi_un U (by decide) f1, (U.2.1 49 (by decide) (by decide)).trans g1, fun a a0 a1 => ⟨fun b hb => ?_, fun i i0 i1 => (U.1 106 (by decide) (by decide) _).trans ((g2 a a0 a1).2 i i0 i1)⟩⟩
  · rw [← e1.1 b hb]
    simp only [List.mem_cons, List.not_mem_nil, or_false] at hb
    exact U.1 b (by unfold bPuK; simp only [List.mem_cons, List.not_mem_nil, or_false]; omega) (by omega) j
  · rw [← e2 b hb]
    simp only [List.mem_cons, List.not_mem_nil, or_false] at hb
    exact U.1 b (by unfold bPuK; simp only [List.mem_cons, List.not_mem_nil, or_false]; omega) (by omega) j
  · rw [← (g2 a a0 a1).1 b hb]
    simp only [List.mem_cons, List.not_mem_nil, or_false] at hb
    exact U.1 b (by unfold bPuK; simp only [List.mem_cons, List.not_mem_nil, or_false]; omega) (by omega) a
theorem bPu_Wl (W : bzWl s a K) (U : bUn bPuK [73] s t) : bzWl t a K :=
  ⟨(U.1 130 (by decide) (by decide) _).trans W.1, (U.1 131 (by decide) (by decide) _).trans W.2.1, fun i hi => (U.1 132 (by decide) (by decide) _).trans (W.2.2 i hi)⟩
theorem bUn_pw {b : Nat} {i v : Int} (U : bUn bPuK [73] s t) (hb : b ∈ bPuK) (hm : b % 256 = b) : bUn bPuK [73] s (bw t b i v) := bUn_w U (by rw [hm]; exact hb) (by
  rw [hm]
  intro e
  rw [e] at hb
  revert hb
  decide)
/-- the entry is written into slot j -/
theorem r270w {A : bPt → Prop} (hA : bClosed (d + 6) bm270 (bWp (d + 5)) (bRv fv) A) (h : bzO σ n Z) (E : bzRe σ n Z s) (a0 : 0 ≤ a) (a1 : a < (n : Int)) (w : Z.1 140 a ≠ 0) (hv : bzV σ Z a ≠ -1) (W : bzWl s a (bzK σ Z a)) (j0 : 0 ≤ j) (j1 : j < 80) (r73 : 0 ≤ bi s 12 73 ∧ bi s 12 73 < 2000000) {l5 : Int} {v2 v3 v6 v7 : Value} (r5 : bRg l5)
    (k : ∀ t, t.2 = s.2 → bUn bPuK [73] s t → (∀ k, 0 ≤ k → k < 80 → k ≠ j → bzSs s t k) → bi t 12 73 = bi s 12 73 + 1 → bi t 121 j = bi s 12 73 + 1 → bzSk t j (bzK σ Z a) → fv t) : A (133, [.ref 12, .int (bn a), v2, v3, .int (bn j), .int (bn l5), v6, v7], [], s) := by
  have n120 := h.2.1.1
  obtain ⟨o1, o2, o3⟩ := h.2.1.2 a a0 a1
  have E1 := E.2.2.2 a a0 a1
  have gK := bzK_g h a0 a1 w hv
  have ll := bKg_l gK
  have lc : (bzK σ Z a).2.2.2.1.length = (Z.1 105 a).toNat := bzL_len
  refine sq270_133 (bWp_mono _) hA ⟨by omega, by omega⟩ ⟨by omega, by omega⟩ r5 ⟨fun z => absurd z (by omega), fun _ => ⟨⟨by omega, by omega⟩, ⟨j0, j1⟩, ⟨a0, by omega⟩, ?_⟩⟩
  rw [E1.1 101 (by decide), E1.1 102 (by decide), E1.1 103 (by decide), E1.1 105 (by decide)]
  -- the first fields
  have U1 : bUn bPuK [73] s (bw (bw (bw (bw (bw (bw s 12 73 (bi s 12 73 + 1)) 121 j (bi s 12 73 + 1)) 122 j (Z.1 101 a)) 123 j (Z.1 102 a)) 124 j (Z.1 103 a)) 125 j (Z.1 105 a)) :=
    bUn_pw (bUn_pw (bUn_pw (bUn_pw (bUn_pw (bUn_f bUn_refl (by decide) (by decide)) (by decide) (by decide)) (by decide) (by decide)) (by decide) (by decide)) (by decide) (by decide)) (by decide) (by decide)
  have S1 : ∀ k, 0 ≤ k → k < 80 → k ≠ j → bzSs s (bw (bw (bw (bw (bw (bw s 12 73 (bi s 12 73 + 1)) 121 j (bi s 12 73 + 1)) 122 j (Z.1 101 a)) 123 j (Z.1 102 a)) 124 j (Z.1 103 a)) 125 j (Z.1 105 a)) k := fun k k0 k1 kn => by
    have st : ∀ (s : bSt) (b b' : Nat) (v : Int), b ≠ 12 → bi (bw s b' j v) b k = bi s b k := fun s b b' v _ => by
      by_cases q : b = b'
      · rw [q]; exact bi_nj j0 k0 kn
      · exact bi_ne q
    refine ⟨fun b hb => ?_, fun i _ _ => ?_, fun i _ _ => ?_⟩
    · have hb12 : b ≠ 12 := by simp only [List.mem_cons, List.not_mem_nil, or_false] at hb; omega
      rw [st _ b 125 _ hb12, st _ b 124 _ hb12, st _ b 123 _ hb12, st _ b 122 _ hb12, st _ b 121 _ hb12, bi_ne hb12]
    · rw [bi_ne (by decide), bi_ne (by decide), bi_ne (by decide), bi_ne (by decide), bi_ne (by decide), bi_ne (by decide)]
    · rw [bi_ne (by decide), bi_ne (by decide), bi_ne (by decide), bi_ne (by decide), bi_ne (by decide), bi_ne (by decide)]
  have C73 : bi (bw (bw (bw (bw (bw (bw s 12 73 (bi s 12 73 + 1)) 121 j (bi s 12 73 + 1)) 122 j (Z.1 101 a)) 123 j (Z.1 102 a)) 124 j (Z.1 103 a)) 125 j (Z.1 105 a)) 12 73 = bi s 12 73 + 1 := by
    rw [bi_ne (by decide), bi_ne (by decide), bi_ne (by decide), bi_ne (by decide), bi_ne (by decide), bi_eq ⟨by omega, by omega⟩]
  have C121 : bi (bw (bw (bw (bw (bw (bw s 12 73 (bi s 12 73 + 1)) 121 j (bi s 12 73 + 1)) 122 j (Z.1 101 a)) 123 j (Z.1 102 a)) 124 j (Z.1 103 a)) 125 j (Z.1 105 a)) 121 j = bi s 12 73 + 1 := by
    rw [bi_ne (by decide), bi_ne (by decide), bi_ne (by decide), bi_ne (by decide), bi_eq ⟨by omega, by omega⟩]
  have C122 : bi (bw (bw (bw (bw (bw (bw s 12 73 (bi s 12 73 + 1)) 121 j (bi s 12 73 + 1)) 122 j (Z.1 101 a)) 123 j (Z.1 102 a)) 124 j (Z.1 103 a)) 125 j (Z.1 105 a)) 122 j = Z.1 101 a := by
    rw [bi_ne (by decide), bi_ne (by decide), bi_ne (by decide), bi_eq ⟨by omega, by omega⟩]
  have C123 : bi (bw (bw (bw (bw (bw (bw s 12 73 (bi s 12 73 + 1)) 121 j (bi s 12 73 + 1)) 122 j (Z.1 101 a)) 123 j (Z.1 102 a)) 124 j (Z.1 103 a)) 125 j (Z.1 105 a)) 123 j = Z.1 102 a := by
    rw [bi_ne (by decide), bi_ne (by decide), bi_eq ⟨by omega, by omega⟩]
  have C124 : bi (bw (bw (bw (bw (bw (bw s 12 73 (bi s 12 73 + 1)) 121 j (bi s 12 73 + 1)) 122 j (Z.1 101 a)) 123 j (Z.1 102 a)) 124 j (Z.1 103 a)) 125 j (Z.1 105 a)) 124 j = Z.1 103 a := by
    rw [bi_ne (by decide), bi_eq ⟨by omega, by omega⟩]
  have C125 : bi (bw (bw (bw (bw (bw (bw s 12 73 (bi s 12 73 + 1)) 121 j (bi s 12 73 + 1)) 122 j (Z.1 101 a)) 123 j (Z.1 102 a)) 124 j (Z.1 103 a)) 125 j (Z.1 105 a)) 125 j = Z.1 105 a := bi_eq ⟨by omega, by omega⟩
  have e2 : (bw (bw (bw (bw (bw (bw s 12 73 (bi s 12 73 + 1)) 121 j (bi s 12 73 + 1)) 122 j (Z.1 101 a)) 123 j (Z.1 102 a)) 124 j (Z.1 103 a)) 125 j (Z.1 105 a)).2 = s.2 := rfl
  generalize (bw (bw (bw (bw (bw (bw s 12 73 (bi s 12 73 + 1)) 121 j (bi s 12 73 + 1)) 122 j (Z.1 101 a)) 123 j (Z.1 102 a)) 124 j (Z.1 103 a)) 125 j (Z.1 105 a)) = s1 at *
  -- what is kept while the rest is written
  let In : bSt → Prop := fun t => t.2 = s.2 ∧ bUn bPuK [73] s t ∧ (∀ k, 0 ≤ k → k < 80 → k ≠ j → bzSs s t k) ∧ bi t 12 73 = bi s 12 73 + 1 ∧ ∀ b ∈ [121, 122, 123, 124, 125], bi t b j = bi s1 b j
  have In_w : ∀ (t : bSt) (b : Nat) (i v : Int), In t → (b = 126 ∧ 40 * j ≤ i ∧ i < 40 * j + 40 ∨ b = 127 ∧ i = j ∨ b = 128 ∧ 48 * j ≤ i ∧ i < 48 * j + 48 ∨ b = 129 ∧ i = j) → In (bw t b i v) := fun t b i v H hb => by
    obtain ⟨H1, H2, H3, H4, H5⟩ := H
    have b12 : (12 : Nat) ≠ b := by omega
    refine ⟨H1, bUn_w H2 (by rcases hb with ⟨q, _⟩ | ⟨q, _⟩ | ⟨q, _⟩ | ⟨q, _⟩ <;> rw [q] <;> decide) (by rcases hb with ⟨q, _⟩ | ⟨q, _⟩ | ⟨q, _⟩ | ⟨q, _⟩ <;> rw [q] <;> decide), fun k k0 k1 kn => ?_, by rw [bi_ne b12]; exact H4, fun c hc => ?_⟩
    · obtain ⟨g1, g2, g3⟩ := H3 k k0 k1 kn
      refine ⟨fun c hc => ?_, fun q q0 q1 => ?_, fun q q0 q1 => ?_⟩
      · rw [← g1 c hc]
        simp only [List.mem_cons, List.not_mem_nil, or_false] at hc
        by_cases e : c = b
        · rw [e]; exact bi_nj (by omega) k0 (by omega)
        · exact bi_ne e
      · rw [← g2 q q0 q1]
        by_cases e : (126 : Nat) = b
        · rw [← e]; exact bi_nj (by omega) (by omega) (by omega)
        · exact bi_ne e
      · rw [← g3 q q0 q1]
        by_cases e : (128 : Nat) = b
        · rw [← e]; exact bi_nj (by omega) (by omega) (by omega)
        · exact bi_ne e
    · rw [← H5 c hc]
      simp only [List.mem_cons, List.not_mem_nil, or_false] at hc
      exact bi_ne (by omega)
  have In1 : In s1 := ⟨e2, U1, S1, C73, fun _ _ => rfl⟩
  have L2 : ∀ (m q : Nat) (t : bSt), q + m = (bzK σ Z a).2.2.2.2.length → In t → bHl t 126 (40 * j) (bzK σ Z a).2.2.2.1 → bi t 127 j = (bzK σ Z a).2.2.2.2.length → (∀ i : Nat, i < q → bi t 128 (48 * j + i) = (bzK σ Z a).2.2.2.2.getD i 0) → A (229, [.ref 12, .int (bn a), v2, v3, .int (bn j), .int (bn q), v6, v7], [], t) := by
    intro m
    induction m with
    | zero =>
      intro q t hq I H6 H7 H8
      have Wt := bPu_Wl W I.2.1
      refine sq270_229 (bWp_mono _) hA ⟨by omega, by omega⟩ ⟨by omega, by omega⟩ ⟨by omega, by omega⟩ ?_
      rw [Wt.1, Wt.2.1]
      have I2 := In_w t 129 j (bKv (bzK σ Z a)) I (Or.inr (Or.inr (Or.inr ⟨rfl, rfl⟩)))
      have rk := gK.2.2.2.2.2.2.2.2
      refine ⟨⟨a0, by omega⟩, fun z => absurd z (by omega), fun _ => ⟨⟨j0, j1⟩, k _ I2.1 I2.2.1 I2.2.2.1 I2.2.2.2.1 (by rw [I2.2.2.2.2 121 (by decide)]; exact C121) ⟨by rw [I2.2.2.2.2 122 (by decide)]; exact C122, by rw [I2.2.2.2.2 123 (by decide)]; exact C123, by rw [I2.2.2.2.2 124 (by decide)]; exact C124, by rw [I2.2.2.2.2 125 (by decide), C125, lc]; omega, fun i hi => by rw [bi_ne (by decide)]; exact H6 i hi, by rw [bi_ne (by decide)]; exact H7, fun i hi => by rw [bi_ne (by decide)]; exact H8 i (by omega), bi_eq ⟨by omega, by omega⟩⟩⟩⟩
    | succ m ih =>
      intro q t hq I H6 H7 H8
      have Wt := bPu_Wl W I.2.1
      have w2 := Wt.2.2 q (by omega)
      have nx := ih (q + 1) (bw t 128 (48 * j + q) (bi t 132 (48 * a + q))) (by omega) (In_w t 128 _ _ I (Or.inr (Or.inr (Or.inl ⟨rfl, by omega, by omega⟩)))) (fun i hi => by rw [bi_ne (by decide)]; exact H6 i hi) (by rw [bi_ne (by decide)]; exact H7) (fun i hi => by
        rw [bi_bw (by omega) (by omega) (bi_rg _ _ _)]
        by_cases e : i = q
        · rw [if_pos ⟨rfl, by omega⟩, e]; exact w2
        · rw [if_neg (fun y => e (by omega))]; exact H8 i (by omega))
      rw [show ((q + 1 : Nat) : Int) = (q : Int) + 1 by omega] at nx
      refine sq270_229 (bWp_mono _) hA ⟨by omega, by omega⟩ ⟨by omega, by omega⟩ ⟨by omega, by omega⟩ ?_
      rw [Wt.2.1]
      exact ⟨⟨a0, by omega⟩, fun _ => ⟨⟨by omega, by omega⟩, ⟨by omega, by omega⟩, ⟨by omega, by omega⟩, ⟨by omega, by omega⟩, ⟨by omega, by omega⟩, ⟨by omega, by omega⟩, ⟨by omega, by omega⟩, nx⟩, fun z => absurd (show (q : Int) < (bzK σ Z a).2.2.2.2.length by omega) z⟩
  have L1 : ∀ (m q : Nat) (t : bSt), (q : Int) + m = Z.1 105 a → In t → (∀ i : Nat, i < q → bi t 126 (40 * j + i) = bzC σ Z a i) → A (193, [.ref 12, .int (bn a), v2, v3, .int (bn j), .int (bn q), v6, v7], [], t) := by
    intro m
    induction m with
    | zero =>
      intro q t hq I H6
      have Et := bPu_Re E I.2.1
      have Wt := bPu_Wl W I.2.1
      have H6' : bHl t 126 (40 * j) (bzK σ Z a).2.2.2.1 := fun i hi => by
        rw [lc] at hi
        rw [H6 i (by omega)]
        exact (bzL_at (by omega)).symm
      have nx := L2 (bzK σ Z a).2.2.2.2.length 0 (bw t 127 j (bi t 131 a)) (by omega) (In_w t 127 _ _ I (Or.inr (Or.inl ⟨rfl, rfl⟩))) (fun i hi => by rw [bi_ne (by decide)]; exact H6' i hi) (by rw [bi_eq (bi_rg _ _ _)]; exact Wt.2.1) (fun i hi => absurd hi (Nat.not_lt_zero _))
      refine sq270_193 (bWp_mono _) hA ⟨by omega, by omega⟩ ⟨by omega, by omega⟩ ⟨by omega, by omega⟩ ?_
      rw [(Et.2.2.2 a a0 a1).1 105 (by decide)]
      exact ⟨⟨a0, by omega⟩, fun z => absurd z (by omega), fun _ => ⟨⟨j0, j1⟩, nx⟩⟩
    | succ m ih =>
      intro q t hq I H6
      have Et := bPu_Re E I.2.1
      have cr := bzC_rg h a0 a1 w (i := q) (by omega) (by omega)
      have nx := ih (q + 1) (bw t 126 (40 * j + q) (bzC σ Z a q)) (by omega) (In_w t 126 _ _ I (Or.inl ⟨rfl, by omega, by omega⟩)) (fun i hi => by
        rw [bi_bw (by omega) (by omega) ⟨by omega, by omega⟩]
        by_cases e : i = q
        · rw [if_pos ⟨rfl, by omega⟩, e]
        · rw [if_neg (fun y => e (by omega))]; exact H6 i (by omega))
      rw [show ((q + 1 : Nat) : Int) = (q : Int) + 1 by omega] at nx
      refine sq270_193 (bWp_mono _) hA ⟨by omega, by omega⟩ ⟨by omega, by omega⟩ ⟨by omega, by omega⟩ ?_
      rw [(Et.2.2.2 a a0 a1).1 105 (by decide), (Et.2.2.2 a a0 a1).2 q (by omega) (by omega)]
      exact ⟨⟨a0, by omega⟩, fun _ => ⟨⟨by omega, by omega⟩, ⟨by omega, by omega⟩, ⟨by omega, by omega⟩, ⟨by omega, by omega⟩, ⟨by omega, by omega⟩, r262 h Et a0 a1 (by omega) (by omega) ⟨⟨by omega, by omega⟩, ⟨by omega, by omega⟩, nx⟩⟩, fun z => absurd (show (q : Int) < Z.1 105 a by omega) z⟩
  exact L1 (Z.1 105 a).toNat 0 s1 (by omega) In1 (fun i hi => absurd hi (Nat.not_lt_zero _))
end

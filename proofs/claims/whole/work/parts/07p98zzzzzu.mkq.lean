/-! BUILD, 69: too many actions; a build that was done -/
section
variable {d lvl : Nat} {σ σ0 σr β s s0 s1 t t1 r r1 r2 r3 s' : bSt} {f : Int → bSt → Prop} {fv : bSt → Prop} {Z Z0 Y X Zs Zr T ZE W : bZs} {x y v a b k i q g l : Int} {n n0 m z0 N μ L : Nat} {rk rk' : Int → Nat} {S : List Nat} {F : List Int} {P : Int → Bool} {Q : Int → Prop}
/-- what findActions leaves, of what is kept -/
theorem bmFr_st (Fr : bmFr n s0 t) : (∀ a, 0 ≤ a → a < (n : Int) → br t 33 a = br s0 33 a ∧ ∀ b ∈ bqOb a, ∀ j, bi t b j = bi s0 b j) ∧ ∀ x, (bzTc x ∨ x ∈ [1, 257, 14, 270, 3, 5, 15, 271, 16, 17, 18, 24]) → (∀ j, bi t x j = bi s0 x j) ∧ (∀ j, br t x j = br s0 x j) ∧ t.2.2.2.1 x = s0.2.2.2.1 x := by
  refine ⟨fun a a0 a1 => ⟨Fr.2.2.1 a a0 a1, fun b hb => (Fr.1 b ?_ ?_ ?_ fun a' h1 h2 h3 => ?_).1⟩, fun x hx => ?_⟩
  · unfold bqOb bAi bNe bKe at hb; simp only [List.mem_cons, List.not_mem_nil, or_false] at hb; omega
  · unfold bqOb bAi bNe bKe at hb; simp only [List.mem_cons, List.not_mem_nil, or_false] at hb; omega
  · unfold bqOb bAi bNe bKe at hb; simp only [List.mem_cons, List.not_mem_nil, or_false] at hb; omega
  · unfold bqOb bAi bNe bKe at hb
    unfold bAd bAid at h3
    simp only [List.mem_cons, List.not_mem_nil, or_false] at hb h3
    omega
  · have hx1 : x ≠ 30 ∧ x ≠ 33 ∧ x ≠ 6 := by
      unfold bzTc at hx
      simp only [List.mem_cons, List.not_mem_nil, or_false] at hx
      omega
    have f := Fr.1 x hx1.1 hx1.2.1 hx1.2.2 fun a' h1 h2 h3 => by
      unfold bAd bAid at h3
      unfold bzTc at hx
      simp only [List.mem_cons, List.not_mem_nil, or_false] at h3 hx
      omega
    exact ⟨f.1, f.2.2.1, f.2.2.2⟩
theorem bmFr_N (Fr : bmFr n s0 t) : bzSo t = bzSo s0 ∧ (t.2.2.2.2.1 : Int) + 8 * bmN s0 ≤ s0.2.2.2.2.1 + 8 * bmN t ∧ (t.2.2.2.2.2 : Int) + 252 * bmN s0 ≤ s0.2.2.2.2.2 + 252 * bmN t := by
  refine ⟨?_, Fr.2.2.2.1, Fr.2.2.2.2⟩
  have e := (bmFr_st Fr).2
  unfold bzSo bzSm
  simp only [(e 14 (Or.inr (by decide))).2.1, (e 270 (Or.inr (by decide))).2.1]
theorem finO (h : bI9 (bqG N μ) bqH L N σ) (c49 : bi σ 12 49 = n) (T : bT68 σ s1) (X1 : bi s1 7 15 = -1 ∨ bXe s1) (W : bWk s1 s) (W0 : bWk s s0) (e10 : bi s0 6 10 = bi s1 6 10 + 2) (Fr : bmFr n s0 t) (e13 : bi t 6 13 = n) (Am : ∀ a, (n : Int) ≤ a → a ≤ 120 → bAm1 t a) (Mr : bMr t) {c0 k0 : Nat} (hc : c0 ≤ 1 ∧ k0 ≤ 6) (S1 : bqTs (bC t c0 k0) t1) (LK : r1.2 = t1.2 ∧ bUn bLk2 [7] t1 r1) (Rf : bmRf n r1 r2) (c49r : bi r2 12 49 = n) (S2 : bqTs r2 r) : bI9 (bqGx (N + 1) μ) bqH L (N + 1) r := by
  obtain ⟨b1, b2, b3, b4, b5, b6, b7, b8⟩ := h.2.2.2.1
  have us : bUn bWkK [] s1 s := bUn_S bUn_refl W.1 (by decide)
  have us0 : bUn bWkK [] s s0 := bUn_S bUn_refl W0.1 (by decide)
  have ut := bmFr_un Fr
  have u1 : bUn [11, 48, 49] [0, 111] t t1 := by have h := bqTs_un S1; exact h
  have u2 := LK.2
  have u3 := Rf.2.1
  have u4 := bqTs_un S2
  have u : bUn bqKt bqFt s1 r := bUn_trans (bUn_trans (bUn_trans (bUn_trans (bUn_trans (bUn_trans (bUn_mono us (by decide) (by decide)) (bUn_mono us0 (by decide) (by decide))) (bUn_mono ut (by decide) (by decide))) (bUn_mono u1 (by decide) (by decide))) (bUn_mono u2 (by decide) (by decide))) (bUn_mono u3 (by decide) (by decide))) (bUn_mono u4 (by decide) (by decide))
  have u0 := bT68_un T
  have er0 : r.2.2 = (bC t c0 k0).2.2 := by rw [S2.1, Rf.1, LK.1, S1.1]
  have erm : ∀ b, r.2.2.2.1 b = t.2.2.2.1 b := fun b => by rw [er0]; rfl
  have erx : ∀ x j, br r x j = br t x j := fun x j => by unfold br; rw [er0]; rfl
  have ec1 : r.2.2.2.2.1 = t.2.2.2.2.1 + c0 := by rw [er0]; rfl
  have ec2 : r.2.2.2.2.2 = t.2.2.2.2.2 + k0 := by rw [er0]; rfl
  have es : s0.2.2 = σ.2.2 := by rw [W0.1.1, W.1.1, T.1]
  have un : bUn ([11, 48, 49] ++ bLk2 ++ bmRK) [0, 7, 49, 111] t r := bUn_trans (bUn_trans (bUn_trans (bUn_mono u1 (by decide) (by decide)) (bUn_mono u2 (by decide) (by decide))) (bUn_mono u3 (by decide) (by decide))) (bUn_mono u4 (by decide) (by decide))
  have uz : bUn (8 :: bEvK ++ bWkK) [] σ s0 := bUn_trans (bUn_trans (bUn_mono u0 (by decide) (by decide)) (bUn_mono us (by decide) (by decide))) (bUn_mono us0 (by decide) (by decide))
  have e13σ : bi σ 6 13 = n := b6.1.1.trans c49
  obtain ⟨f1, f2⟩ := bmFr_st Fr
  have six : ∀ j, bi r 6 j = bi t 6 j := un.1 6 (by decide) (by decide)
  have r49 : bi r 12 49 = n := (u4.2.1 49 (by decide) (by decide)).trans c49r
  -- from the look on
  have uR : bUn [11, 48, 49] [0, 111] r2 r := u4
  have uQ : bUn ([0, 4, 6, 8, 11, 13, 22, 23, 30, 33, 48, 49] ++ bEvK ++ bWkK ++ bLk2) [0, 7, 111] σ r1 := bUn_trans (bUn_trans (bUn_trans (bUn_mono uz (by decide) (by decide)) (bUn_mono ut (by decide) (by decide))) (bUn_mono u1 (by decide) (by decide))) (bUn_mono u2 (by decide) (by decide))
  have uA : bUn ([0, 4, 6, 8, 11, 13, 22, 23, 30, 33, 48, 49] ++ bEvK ++ bWkK ++ bLk2 ++ bmRK) [0, 7, 49, 111] σ r := bUn_trans (bUn_trans (bUn_mono uQ (by decide) (by decide)) (bUn_mono u3 (by decide) (by decide))) (bUn_mono u4 (by decide) (by decide))
  have St : bqSt n σ r := by
    refine ⟨fun a a0 a1 => ⟨?_, fun b hb j => ?_⟩, fun x hx => ?_, fun a a0 a1 => ⟨fun c hc => ?_, fun i i0 i1 => ?_⟩, fun c hc => ?_, fun k hk => ?_, ?_⟩
    · rw [un.2.2.2.1 33 (by decide), (f1 a a0 a1).1]; exact uz.2.2.2.1 33 (by decide) a
    · have hb' : b % 256 ∈ [0, 4, 13, 22, 23] := by
        unfold bqOb bAi bNe bKe at hb
        simp only [List.mem_cons, List.not_mem_nil, or_false] at hb ⊢
        omega
      rw [un.1 b (by
        unfold bLk2 bmRK
        simp only [List.mem_append, List.mem_cons, List.not_mem_nil, or_false, not_or] at hb' ⊢
        omega) (by
        simp only [List.mem_cons, List.not_mem_nil, or_false] at hb'
        omega), (f1 a a0 a1).2 b hb]
      exact uz.1 b (by
        unfold bEvK bWkK
        simp only [List.cons_append, List.mem_append, List.mem_cons, List.not_mem_nil, or_false, not_or, not_false_eq_true, true_and] at hb' ⊢
        omega) (by
        simp only [List.mem_cons, List.not_mem_nil, or_false] at hb'
        omega) j
    · have hx' : x % 256 ∈ [1, 3, 4, 5, 14, 15, 16, 17, 18, 22, 23, 24] := by
        unfold bzTc at hx
        simp only [List.mem_cons, List.not_mem_nil, or_false] at hx ⊢
        omega
      have n1 : x % 256 ∉ [11, 48, 49] ++ bLk2 ++ bmRK := by
        unfold bLk2 bmRK
        simp only [List.mem_append, List.mem_cons, List.not_mem_nil, or_false, not_or] at hx' ⊢
        omega
      have n2 : x % 256 ∉ 8 :: bEvK ++ bWkK := by
        unfold bEvK bWkK
        simp only [List.cons_append, List.mem_append, List.mem_cons, List.not_mem_nil, or_false, not_or, not_false_eq_true, true_and] at hx' ⊢
        omega
      have n3 : x % 256 ≠ 12 := by
        simp only [List.mem_cons, List.not_mem_nil, or_false] at hx'
        omega
      obtain ⟨g1, g2, g3⟩ := f2 x hx
      exact ⟨fun j => ((un.1 x n1 n3 j).trans (g1 j)).trans (uz.1 x n2 n3 j), fun j => ((un.2.2.2.1 x n1 j).trans (g2 j)).trans (uz.2.2.2.1 x n2 j), ((un.2.2.2.2 x n1).trans g3).trans (uz.2.2.2.2 x n2)⟩
    · have hc' := hc
      simp only [List.mem_cons, List.not_mem_nil, or_false] at hc'
      rw [uR.1 c (by simp only [List.mem_cons, List.not_mem_nil, or_false, not_or]; omega) (by omega), (Rf.2.2 a a0 a1).1 c hc]
      exact uQ.1 c (by unfold bEvK bWkK bLk2; simp only [List.mem_append, List.mem_cons, List.not_mem_nil, or_false, not_or]; omega) (by omega) a
    · rw [uR.1 106 (by decide) (by decide), (Rf.2.2 a a0 a1).2 i i0 i1]
      exact uQ.1 106 (by decide) (by decide) _
    · have hc' := hc
      simp only [List.mem_cons, List.not_mem_nil, or_false] at hc'
      exact uA.1 c (by unfold bEvK bWkK bLk2 bmRK; simp only [List.mem_append, List.mem_cons, List.not_mem_nil, or_false, not_or]; omega) (by omega)
    · by_cases e : k = 49
      · rw [e, r49, c49]
      · exact uA.2.1 k (by simp only [List.mem_cons, List.not_mem_nil, or_false] at hk; omega) (by simp only [List.mem_cons, List.not_mem_nil, or_false, not_or] at hk ⊢; omega)
    · rw [six, e13, e13σ]
  have hZ := bqZ_st St c49 b8
  have hZ1 : bqZ (N + 1) μ r := by
    obtain ⟨z1, z2, z3, z4, z5, z6⟩ := hZ
    exact ⟨z1, z2, z3, z4, z5, by omega⟩
  have m10 := b5.1.1
  have m11 := b5.2
  have e61 : bi s1 6 10 = bi σ 6 10 := T.2.1 6 (by decide) (by decide) 10
  have t10 : bi t 6 10 = bi s0 6 10 := Fr.2.1.1 10 (by decide) (by decide)
  have t27 : ∀ j, bi t 27 j = bi s0 27 j := ut.1 27 (by decide) (by decide)
  have Amr : ∀ a, bi r 12 49 ≤ a → a ≤ 120 → bAm1 r a := fun a h1 h2 => by
    rw [r49] at h1
    refine bAm1_o (Am a h1 h2) (fun b hb j => un.1 b ?_ ?_ j) (un.2.2.2.1 33 (by decide) a) fun b _ => erm b
    · unfold bAi bKe at hb
      unfold bLk2 bmRK
      simp only [List.mem_append, List.mem_cons, List.not_mem_nil, or_false, not_or] at hb ⊢
      omega
    · unfold bAi bKe at hb
      simp only [List.mem_cons, List.not_mem_nil, or_false] at hb
      omega
  refine bqFin2 h T X1 u (fun b hb => ?_) ⟨⟨?_, fun y y0 y1 => ?_⟩, ?_⟩ (bqZ_ak hZ1 (by rw [six 13, e13, r49]) Amr) (fun y y0 y1 => by rw [un.1 30 (by decide) (by decide)]; exact Mr y y0 y1) hZ1 ?_
  · rw [erm]
    have := (ut.2.2.2.2 b (by simp only [List.mem_cons, List.not_mem_nil, or_false, not_or] at hb ⊢; omega))
    rw [this, W0.1.1, W.1.1]
  · rw [six, t10]; omega
  · rw [six, t10, un.1 27 (by decide) (by decide), t27]; exact W0.2.1.1 y y0 y1
  · rw [six, t10]; omega
  · obtain ⟨n1, n2, n3⟩ := bmFr_N Fr
    have a1 : bmN s0 = bmN σ := by unfold bmN br; rw [es]
    have a2 : bzSo s0 = bzSo σ := by unfold bzSo bzSm br; rw [es]
    have a3 : bmN r = bmN t := by unfold bmN; simp only [erx]
    have a4 : bzSo r = bzSo t := by unfold bzSo bzSm; simp only [erx]
    unfold bqN
    rw [a3, a4, n1, a2, ec1, ec2]
    rw [a1, es] at n2 n3
    omega
end

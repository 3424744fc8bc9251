/-! THE START, 2: nothing is made; and the law's whole run -/
section
variable {σ0 σ s s1 s3 : bSt} {L : Nat}
/-- what stands when both sides are made -/
def bqS1 (L : Nat) (σ : bSt) : Prop := bLen σ 200 = L ∧ (∀ b, b ∉ 12 :: 56 :: 57 :: 136 :: 137 :: 151 :: 200 :: 201 :: bLcA → ∀ j, bi σ b j = 0) ∧ (∀ d, 0 ≤ d → d < 6 → bi σ 201 d = bPa d) ∧
  ((∀ i, 0 ≤ i → i < 48 → bi σ 56 i = -1) ∧ (∀ i, 0 ≤ i → i < 6 → bi σ 57 i = if i = 0 then 1 else 0) ∧ (∀ i, 0 ≤ i → bi σ 12 i = if i = 68 then 1 else if i = 87 then 1 else if i = 88 then 2 else if i = 95 then -1 else if i = 112 then 1 else 0) ∧ (∀ i, 0 ≤ i → i < 3 → bi σ 136 i = 1) ∧ (∀ i, 0 ≤ i → i < 12 → bi σ 137 i = -1) ∧ ∀ i, 0 ≤ i → i < 64 → bi σ 151 i = -1) ∧
  bCz σ ∧ (∀ b, b ∉ 12 :: 154 :: bLcA → (b < 56 ∨ 154 ≤ b) → σ.2.2.2.1 b = 0) ∧ σ.2.2.2.2.1 ≤ 400 ∧ σ.2.2.2.2.2 ≤ 590000
theorem bqS1_of (z : ∀ a j, a ≠ 200 → a ≠ 201 → bi σ0 a j = 0) (p : ∀ d, 0 ≤ d → d < 6 → bi σ0 201 d = bPa d) (zm : ∀ a, σ0.2.2.2.1 a = 0) (zc : σ0.2.2.2.2 = (0, 0)) (hL : bLen σ0 200 = L) (k1 : bKp bLcA (bNew σ0 11 1 8) s1) (c1 : bCo (bNew σ0 11 1 8) s1 80 20400) (Cz : bCz s1) (Rz : bRzg (bNew s1 12 1 114) s3) : bqS1 L (bNew s3 154 2 1) := by
  obtain ⟨r1, r2, r3, r4, r5, r6, r7, r8, r9, r10, r11, r12⟩ := Rz
  have e1 : ∀ a j, a ∉ [12, 56, 57, 136, 137, 151, 154] → bi (bNew s3 154 2 1) a j = bi s1 a j := fun a j h => by
    simp only [List.mem_cons, List.not_mem_nil, or_false, not_or] at h
    rw [bi_bNew, if_neg h.2.2.2.2.2.2, r1 a j ⟨h.2.1, h.2.2.1, h.1, h.2.2.2.1, h.2.2.2.2.1, h.2.2.2.2.2.1⟩, bi_bNew, if_neg h.1]
  have z1 : ∀ a j, a ∉ bLcA → a ≠ 200 → a ≠ 201 → bi s1 a j = 0 := fun a j h h1 h2 => by
    rw [(k1 a h).1, bi_bNew]
    split
    · rfl
    · exact z a j h1 h2
  have ej : ∀ a j, a ≠ 12 → a ≠ 154 → bj (bNew s3 154 2 1) a j = bj s1 a j := fun a j h1 h2 => by rw [bj_bNew, if_neg h2, r8, bj_bNew, if_neg h1]
  have er : ∀ a j, a ≠ 12 → a ≠ 154 → (a < 56 ∨ 154 ≤ a) → br (bNew s3 154 2 1) a j = br s1 a j := fun a j h1 h2 h3 => by rw [br_bNew, if_neg h2, (r9 a h1 h3).1, br_bNew, if_neg h1]
  have n11 : (200 : Nat) ∉ bLcA ∧ (201 : Nat) ∉ bLcA ∧ (11 : Nat) ∈ bLcA := by decide
  refine ⟨?_, fun b hb j => ?_, fun d d0 d1 => ?_, ⟨fun i i0 i1 => ?_, fun i i0 i1 => ?_, fun i i0 => ?_, fun i i0 i1 => ?_, fun i i0 i1 => ?_, fun i i0 i1 => ?_⟩, ?_, fun b hb h3 => ?_, ?_, ?_⟩
  · have e : bj (bNew s3 154 2 1) 200 0 = bj σ0 200 0 := by
      rw [ej 200 0 (by decide) (by decide), (k1 200 n11.1).2.1, bj_bNew, if_neg (by decide)]
    have e2 : (bNew s3 154 2 1).2.1 200 0 = σ0.2.1 200 0 := e
    rw [← hL]
    show ((bNew s3 154 2 1).2.1 200 0).toInt.toNat = (σ0.2.1 200 0).toInt.toNat
    rw [e2]
  · simp only [List.mem_cons, not_or] at hb
    by_cases w : b = 154
    · rw [bi_bNew, if_pos w]
    · rw [e1 b j (by simp only [List.mem_cons, List.not_mem_nil, or_false, not_or]; omega)]
      exact z1 b j hb.2.2.2.2.2.2.2.2 hb.2.2.2.2.2.2.1 hb.2.2.2.2.2.2.2.1
  · rw [e1 201 d (by decide), (k1 201 n11.2.1).1, bi_bNew, if_neg (by decide)]
    exact p d d0 d1
  · rw [bi_bNew, if_neg (by decide)]; exact r2 i i0 i1
  · rw [bi_bNew, if_neg (by decide)]; exact r3 i i0 i1
  · rw [bi_bNew, if_neg (by decide), r4 i i0, bi_bNew, if_pos rfl]
  · rw [bi_bNew, if_neg (by decide)]; exact r5 i i0 i1
  · rw [bi_bNew, if_neg (by decide)]; exact r6 i i0 i1
  · rw [bi_bNew, if_neg (by decide)]; exact r7 i i0 i1
  · obtain ⟨⟨a1, a2, a3, a4⟩, ⟨b1, b2⟩, ⟨d1, d2⟩, ⟨f1, f2, f3, f4⟩, ⟨g1, g2, g3, g4⟩, ⟨h1, h2, h3, h4, h5, h6⟩, i1, i2⟩ := Cz
    refine ⟨⟨fun j j0 j1 => by rw [e1 19 j (by decide)]; exact a1 j j0 j1, fun j => by rw [e1 20 j (by decide)]; exact a2 j, fun j => by rw [e1 21 j (by decide)]; exact a3 j, by rw [e1 3 3 (by decide)]; exact a4⟩, ⟨fun a h34 h46 j => by rw [e1 a j (by simp only [List.mem_cons, List.not_mem_nil, or_false, not_or]; omega)]; exact b1 a h34 h46 j, fun j j0 => by rw [e1 7 j (by decide)]; exact b2 j j0⟩, ⟨fun a h34 h46 j => by rw [e1 a j (by simp only [List.mem_cons, List.not_mem_nil, or_false, not_or]; omega)]; exact d1 a h34 h46 j, fun j => by rw [e1 10 j (by decide)]; exact d2 j⟩, ⟨fun j => by rw [e1 9 j (by decide)]; exact f1 j, fun j => by rw [er 50 j (by decide) (by decide) (by decide)]; exact f2 j, fun j => by rw [e1 51 j (by decide)]; exact f3 j, ?_⟩, ⟨fun j => by rw [e1 6 j (by decide)]; exact g1 j, fun a h34 h46 j => by rw [e1 a j (by simp only [List.mem_cons, List.not_mem_nil, or_false, not_or]; omega)]; exact g2 a h34 h46 j, fun j => by rw [er 33 j (by decide) (by decide) (by decide)]; exact g3 j, ?_⟩, ⟨fun j j0 => by rw [e1 5 j (by decide)]; exact h1 j j0, fun a ha j => by rw [e1 a j (by simp only [List.mem_cons, List.not_mem_nil, or_false, not_or] at ha ⊢; omega)]; exact h2 a ha j, fun j => by rw [er 14 j (by decide) (by decide) (by decide)]; exact h3 j, fun j => by rw [er 270 j (by decide) (by decide) (by decide)]; exact h4 j, fun j j0 j1 => by rw [e1 16 j (by decide)]; exact h5 j j0 j1, fun j j0 j1 => by rw [e1 17 j (by decide)]; exact h6 j j0 j1⟩, fun j => by rw [e1 11 j (by decide)]; exact i1 j, by rw [ej 11 7 (by decide) (by decide)]; exact i2⟩
    · obtain ⟨t1, t2, t3, t4, t5⟩ := f4
      exact ⟨fun j j0 => by rw [e1 _ j (by decide)]; exact t1 j j0, fun j => by rw [e1 _ j (by decide)]; exact t2 j, fun j => by rw [e1 _ j (by decide)]; exact t3 j, fun j j0 j1 => by rw [e1 _ j (by decide)]; exact t4 j j0 j1, fun j => by rw [ej _ j (by decide) (by decide)]; exact t5 j⟩
    · obtain ⟨t1, t2, t3⟩ := g4
      refine ⟨fun j j0 => by rw [e1 _ j (by decide)]; exact t1 j j0, fun j => by rw [e1 _ j (by decide)]; exact t2 j, fun e he => ?_⟩
      obtain ⟨u1, u2, u3⟩ := t3 e he
      exact ⟨fun j j0 => by rw [e1 _ j (by simp only [List.mem_cons, List.not_mem_nil, or_false, not_or]; omega)]; exact u1 j j0, fun j => by rw [e1 _ j (by simp only [List.mem_cons, List.not_mem_nil, or_false, not_or]; omega)]; exact u2 j, fun j => by rw [e1 _ j (by simp only [List.mem_cons, List.not_mem_nil, or_false, not_or]; omega)]; exact u3 j⟩
  · simp only [List.mem_cons, not_or] at hb
    have n11' : b ≠ 11 := fun e => hb.2.2 (by rw [e]; exact n11.2.2)
    rw [mk_bNew, if_neg hb.2.1, (r9 b hb.1 h3).2, mk_bNew, if_neg hb.1, (k1 b hb.2.2).2.2.2, mk_bNew, if_neg n11']
    exact zm b
  · show s3.2.2.2.2.1 + 1 ≤ 400
    rw [r11]
    have := c1.1
    have e0 : (bNew σ0 11 1 8).2.2.2.2.1 = σ0.2.2.2.2.1 + 1 := rfl
    have e2 : (bNew s1 12 1 114).2.2.2.2.1 = s1.2.2.2.2.1 + 1 := rfl
    rw [e0, zc] at this
    rw [e2]
    have : s1.2.2.2.2.1 ≤ 81 := this
    omega
  · show s3.2.2.2.2.2 + 1 ≤ 590000
    have := c1.2
    have e0 : (bNew σ0 11 1 8).2.2.2.2.2 = σ0.2.2.2.2.2 + 8 := rfl
    have e2 : (bNew s1 12 1 114).2.2.2.2.2 = s1.2.2.2.2.2 + 114 := rfl
    rw [e0, zc] at this
    rw [e2] at r12
    have : s1.2.2.2.2.2 ≤ 20408 := this
    omega
end

/-! LONG.BITCOUNT, 2: what it answers; the bits of a set of paths -/
theorem bPc_8 (b : Nat) (h : b < 256) : bPcb b ≤ 8 := by
  have d : ∀ b < 256, bPcb b ≤ 8 := by decide +kernel
  exact d b h
def bPop : Nat → Nat → Nat
  | 0, _ => 0
  | n + 1, x => x % 2 + bPop n (x / 2)
theorem bPop_8 {n x : Nat} : bPop (n + 8) x = bPcb (x % 256) + bPop n (x / 256) := by
  show x % 2 + (x / 2 % 2 + (x / 2 / 2 % 2 + (x / 2 / 2 / 2 % 2 + (x / 2 / 2 / 2 / 2 % 2 + (x / 2 / 2 / 2 / 2 / 2 % 2 + (x / 2 / 2 / 2 / 2 / 2 / 2 % 2 + (x / 2 / 2 / 2 / 2 / 2 / 2 / 2 % 2 + bPop n (x / 2 / 2 / 2 / 2 / 2 / 2 / 2 / 2)))))))) = _
  rw [show x / 2 / 2 / 2 / 2 / 2 / 2 / 2 / 2 = x / 256 by omega]
  unfold bPcb
  omega
theorem bPop_p {n : Nat} : ∀ (m x : Nat), n < m → x < 2 ^ n → bPop m (x + 2 ^ n) = bPop m x + 1 := by
  induction n with
  | zero =>
    intro m x h hx
    have e : x = 0 := by simpa using hx
    rw [e]
    obtain ⟨k, rfl⟩ : ∃ k, m = k + 1 := ⟨m - 1, by omega⟩
    show 1 % 2 + bPop k 0 = 0 % 2 + bPop k 0 + 1
    omega
  | succ n ih =>
    intro m x h hx
    obtain ⟨k, rfl⟩ : ∃ k, m = k + 1 := ⟨m - 1, by omega⟩
    show (x + 2 ^ (n + 1)) % 2 + bPop k ((x + 2 ^ (n + 1)) / 2) = x % 2 + bPop k (x / 2) + 1
    rw [Nat.pow_succ] at hx ⊢
    rw [show (x + 2 ^ n * 2) / 2 = x / 2 + 2 ^ n by omega, ih k (x / 2) (by omega) (by omega)]
    omega
/-- the last three steps over eight bytes -/
theorem bT8_l {c0 c1 c2 c3 c4 c5 c6 c7 w0 w1 w2 w3 w4 w5 w6 w7 : Nat} (v0 : w0 = c0 + 256 * w1) (v1 : w1 = c1 + 256 * w2) (v2 : w2 = c2 + 256 * w3) (v3 : w3 = c3 + 256 * w4) (v4 : w4 = c4 + 256 * w5) (v5 : w5 = c5 + 256 * w6) (v6 : w6 = c6 + 256 * w7) (v7 : w7 = c7)
    (q0 : c0 ≤ 8) (q1 : c1 ≤ 8) (q2 : c2 ≤ 8) (q3 : c3 ≤ 8) (q4 : c4 ≤ 8) (q5 : c5 ≤ 8) (q6 : c6 ≤ 8) (q7 : c7 ≤ 8) :
    w0 / 256 = w1 ∧ (w0 + w1) / 65536 = w2 + w3 ∧ (w0 + w1 + (w2 + w3)) / 4294967296 = w4 + w5 + (w6 + w7) ∧ (w0 + w1 + (w2 + w3) + (w4 + w5 + (w6 + w7))) % 128 = c0 + c1 + c2 + c3 + c4 + c5 + c6 + c7 ∧ (w0 + w1 + (w2 + w3) + (w4 + w5 + (w6 + w7))) % 4294967296 < 2147483648 ∧ w0 ≤ 578721382704613384 := by
  have b7 : w7 ≤ 8 := by omega
  have b6 : w6 ≤ 2056 := by clear v0 v1 v2 v3 v4 v5 v7; omega
  have b5 : w5 ≤ 526344 := by clear v0 v1 v2 v3 v4 v6 v7; omega
  have b4 : w4 ≤ 134744072 := by clear v0 v1 v2 v3 v5 v6 v7; omega
  have b3 : w3 ≤ 34494482440 := by clear v0 v1 v2 v4 v5 v6 v7; omega
  have b2 : w2 ≤ 8830587504648 := by clear v0 v1 v3 v4 v5 v6 v7; omega
  have b1 : w1 ≤ 2260630401189896 := by clear v0 v2 v3 v4 v5 v6 v7; omega
  have b0 : w0 ≤ 578721382704613384 := by clear v1 v2 v3 v4 v5 v6 v7; omega
  have h1 : w0 / 256 = w1 := by clear v1 v2 v3 v4 v5 v6 v7 b1 b2 b3 b4 b5 b6 b7 b0; omega
  have s2 : w0 + w1 = (c0 + c1 + 256 * (c1 + c2)) + 65536 * (w2 + w3) := by clear h1 v3 v4 v5 v6 v7 b1 b2 b3 b4 b5 b6 b7 b0; omega
  have h2 : (w0 + w1) / 65536 = w2 + w3 := by
    rw [s2]
    generalize w2 + w3 = W
    clear s2 h1 v0 v1 v2 v3 v4 v5 v6 v7 b1 b2 b3 b4 b5 b6 b7 b0
    omega
  have s3 : w2 + w3 = (c2 + c3 + 256 * (c3 + c4)) + 65536 * (w4 + w5) := by clear s2 h1 h2 v0 v1 v5 v6 v7 b1 b2 b3 b4 b5 b6 b7 b0; omega
  have s4 : w4 + w5 = (c4 + c5 + 256 * (c5 + c6)) + 65536 * (w6 + w7) := by clear s2 s3 h1 h2 v0 v1 v2 v3 v7 b1 b2 b3 b4 b5 b6 b7 b0; omega
  have s5 : w0 + w1 + (w2 + w3) = (c0 + c1 + c2 + c3) + 256 * (c1 + c2 + c3 + c4) + 65536 * (c2 + c3 + c4 + c5) + 16777216 * (c3 + c4 + c5 + c6) + 4294967296 * (w4 + w5 + (w6 + w7)) := by
    clear h1 h2 v0 v1 v2 v3 v4 v5 v6 v7 b1 b2 b3 b4 b5 b6 b7 b0
    generalize w6 + w7 = W6 at *
    generalize w4 + w5 = W4 at *
    generalize w2 + w3 = W2 at *
    generalize w0 + w1 = W0 at *
    omega
  have h3 : (w0 + w1 + (w2 + w3)) / 4294967296 = w4 + w5 + (w6 + w7) := by
    rw [s5]
    generalize w4 + w5 + (w6 + w7) = W
    clear s2 s3 s4 s5 h1 h2 v0 v1 v2 v3 v4 v5 v6 v7 b1 b2 b3 b4 b5 b6 b7 b0
    omega
  have s6 : w6 + w7 = c6 + c7 + 256 * c7 := by clear s2 s3 s4 s5 h1 h2 h3 v0 v1 v2 v3 v4 v5 b1 b2 b3 b4 b5 b6 b7 b0; omega
  have s7 : w0 + w1 + (w2 + w3) + (w4 + w5 + (w6 + w7)) = (c0 + c1 + c2 + c3 + c4 + c5 + c6 + c7) + 256 * (c1 + c2 + c3 + c4 + c5 + c6 + c7) + 65536 * (c2 + c3 + c4 + c5 + c6 + c7) + 16777216 * (c3 + c4 + c5 + c6 + c7) + 4294967296 * (w4 + w5 + (w6 + w7)) := by
    rw [s5]
    have s8 : w4 + w5 + (w6 + w7) = (c4 + c5 + c6 + c7) + 256 * (c5 + c6 + c7) + 65536 * (c6 + c7) + 16777216 * c7 := by
      rw [s4, s6]
      clear s2 s3 s4 s5 s6 h1 h2 h3 v0 v1 v2 v3 v4 v5 v6 v7 b1 b2 b3 b4 b5 b6 b7 b0
      omega
    generalize w4 + w5 + (w6 + w7) = W at *
    clear s2 s3 s4 s5 s6 h1 h2 h3 v0 v1 v2 v3 v4 v5 v6 v7 b1 b2 b3 b4 b5 b6 b7 b0
    omega
  refine ⟨h1, h2, h3, ?_, ?_, b0⟩
  · rw [s7]
    generalize w4 + w5 + (w6 + w7) = W
    clear s2 s3 s4 s5 s6 s7 h1 h2 h3 v0 v1 v2 v3 v4 v5 v6 v7 b1 b2 b3 b4 b5 b6 b7 b0
    omega
  · rw [s7]
    have hD : (c0 + c1 + c2 + c3 + c4 + c5 + c6 + c7) + 256 * (c1 + c2 + c3 + c4 + c5 + c6 + c7) + 65536 * (c2 + c3 + c4 + c5 + c6 + c7) + 16777216 * (c3 + c4 + c5 + c6 + c7) < 2147483648 := by
      clear s2 s3 s4 s5 s6 s7 h1 h2 h3 v0 v1 v2 v3 v4 v5 v6 v7 b1 b2 b3 b4 b5 b6 b7 b0
      omega
    rw [Nat.add_mul_mod_self_left, Nat.mod_eq_of_lt (Nat.lt_trans hD (by decide))]
    exact hD
theorem bT8_e {x : Nat} : ∃ i4 i5 i6 : Nat, i4 = bT8 8 x + bT8 8 x / 256 ∧ i5 = i4 + i4 / 65536 ∧ i6 = i5 + i5 / 4294967296 ∧ i6 % 128 = bPop 64 x ∧ i6 % 4294967296 < 2147483648 ∧ bT8 8 x ≤ 578721382704613384 := by
  have p0 : bPop 64 x = bPcb (x % 256) + bPop 56 (x / 256) := bPop_8
  have p1 : bPop 56 (x / 256) = bPcb (x / 256 % 256) + bPop 48 (x / 256 / 256) := bPop_8
  have p2 : bPop 48 (x / 256 / 256) = bPcb (x / 256 / 256 % 256) + bPop 40 (x / 256 / 256 / 256) := bPop_8
  have p3 : bPop 40 (x / 256 / 256 / 256) = bPcb (x / 256 / 256 / 256 % 256) + bPop 32 (x / 256 / 256 / 256 / 256) := bPop_8
  have p4 : bPop 32 (x / 256 / 256 / 256 / 256) = bPcb (x / 256 / 256 / 256 / 256 % 256) + bPop 24 (x / 256 / 256 / 256 / 256 / 256) := bPop_8
  have p5 : bPop 24 (x / 256 / 256 / 256 / 256 / 256) = bPcb (x / 256 / 256 / 256 / 256 / 256 % 256) + bPop 16 (x / 256 / 256 / 256 / 256 / 256 / 256) := bPop_8
  have p6 : bPop 16 (x / 256 / 256 / 256 / 256 / 256 / 256) = bPcb (x / 256 / 256 / 256 / 256 / 256 / 256 % 256) + bPop 8 (x / 256 / 256 / 256 / 256 / 256 / 256 / 256) := bPop_8
  have p7 : bPop 8 (x / 256 / 256 / 256 / 256 / 256 / 256 / 256) = bPcb (x / 256 / 256 / 256 / 256 / 256 / 256 / 256 % 256) + 0 := bPop_8 (n := 0)
  obtain ⟨h1, h2, h3, h4, h5, h6⟩ := bT8_l (w0 := bT8 8 x) (w1 := bT8 7 (x / 256)) (w2 := bT8 6 (x / 256 / 256)) (w3 := bT8 5 (x / 256 / 256 / 256)) (w4 := bT8 4 (x / 256 / 256 / 256 / 256)) (w5 := bT8 3 (x / 256 / 256 / 256 / 256 / 256)) (w6 := bT8 2 (x / 256 / 256 / 256 / 256 / 256 / 256)) (w7 := bT8 1 (x / 256 / 256 / 256 / 256 / 256 / 256 / 256)) (c7 := bPcb (x / 256 / 256 / 256 / 256 / 256 / 256 / 256 % 256)) rfl rfl rfl rfl rfl rfl rfl rfl (bPc_8 _ (Nat.mod_lt _ (by decide))) (bPc_8 _ (Nat.mod_lt _ (by decide))) (bPc_8 _ (Nat.mod_lt _ (by decide))) (bPc_8 _ (Nat.mod_lt _ (by decide))) (bPc_8 _ (Nat.mod_lt _ (by decide))) (bPc_8 _ (Nat.mod_lt _ (by decide))) (bPc_8 _ (Nat.mod_lt _ (by decide))) (bPc_8 _ (Nat.mod_lt _ (by decide)))
  refine ⟨_, _, _, rfl, rfl, rfl, ?_, ?_, h6⟩
  · rw [h1, h2, h3, h4, p0, p1, p2, p3, p4, p5, p6, p7]
    simp only [Nat.add_assoc, Nat.add_zero]
  · rw [h1, h2, h3]
    exact h5

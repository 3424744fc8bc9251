/-! LONG.BITCOUNT, 3: the method; the bits of a set of paths -/
def bNt (x : Int64) : Nat := x.toBitVec.toNat
theorem bNt_lt {x : Int64} : bNt x < 18446744073709551616 := x.toBitVec.isLt
theorem bNt_add {a b : Int64} (h : bNt a + bNt b < 18446744073709551616) : bNt (a + b) = bNt a + bNt b := by
  unfold bNt at *
  rw [Int64.toBitVec_add, BitVec.toNat_add]
  exact Nat.mod_eq_of_lt h
theorem bNt_sub {a b : Int64} (h : bNt b ≤ bNt a) : bNt (a - b) = bNt a - bNt b := by
  have ha := bNt_lt (x := a)
  unfold bNt at *
  rw [Int64.toBitVec_sub, BitVec.toNat_sub]
  rw [show (2 : Nat) ^ 64 = 18446744073709551616 from rfl]
  omega
theorem bNt_and {a b : Int64} : bNt (a &&& b) = bNt a &&& bNt b := by
  unfold bNt
  rw [Int64.toBitVec_and, BitVec.toNat_and]
theorem bNt_or {a b : Int64} : bNt (a ||| b) = bNt a ||| bNt b := by
  unfold bNt
  rw [Int64.toBitVec_or, BitVec.toNat_or]
theorem bNt_shr {a : Int64} {k : Int} {u : UInt64} {m : Nat} (hu : (Int64.toUInt64 (bL k) &&& Int64.toUInt64 63) = u) (hm : u.toNat % 64 = m) : bNt ((Int64.toUInt64 a >>> (Int64.toUInt64 (bL k) &&& Int64.toUInt64 63)).toInt64) = bNt a / 2 ^ m := by
  rw [hu]
  show (Int64.toUInt64 a >>> u).toNat = _
  rw [UInt64.toNat_shiftRight, hm, Nat.shiftRight_eq_div_pow]
  rfl
section
variable {d : Nat} {σ : bSt} {f : Int → bSt → Prop} {x : Int64}
theorem bM8_v : bM8 85 8 = 6148914691236517205 ∧ bM8 51 8 = 3689348814741910323 ∧ bM8 15 8 = 1085102592571150095 := by decide
theorem bS2_b {x : Nat} : ∀ n, bS2 n x ≤ 2 * bM8 51 n := fun n => by
  unfold bS2
  have h1 : (x &&& bM8 51 n) ≤ bM8 51 n := Nat.and_le_right
  have h2 : (x / 4 &&& bM8 51 n) ≤ bM8 51 n := Nat.and_le_right
  omega
theorem w358 (h : f (bPop 64 (bNt x)) σ) : bWp (d + 1) 358 [.long x] σ (bRn f) := by
  have hx := bNt_lt (x := x)
  obtain ⟨m1, m2, m3⟩ := bM8_v
  obtain ⟨n1, n2⟩ := bT8_s 8 (bNt x) (by rw [show (256 : Nat) ^ 8 = 18446744073709551616 from rfl]; exact hx)
  obtain ⟨i4, i5, i6, e4, e5, e6, e7, e8, e9⟩ := bT8_e (x := bNt x)
  refine ⟨rfl, fun A hA => sq358_0 (bWp_mono _) hA ?_⟩
  have g1 : bNt (x - ((Int64.toUInt64 x >>> (Int64.toUInt64 (bL 1) &&& Int64.toUInt64 63)).toInt64 &&& (Int64.ofNat 6148914691236517205))) = bS1 8 (bNt x) := by
    have e : bNt ((Int64.toUInt64 x >>> (Int64.toUInt64 (bL 1) &&& Int64.toUInt64 63)).toInt64 &&& (Int64.ofNat 6148914691236517205)) = (bNt x / 2) &&& bM8 85 8 := by
      rw [bNt_and, bNt_shr (u := 1) (m := 1) (by decide) (by decide), m1]; rfl
    rw [bNt_sub (by rw [e]; exact Nat.le_trans Nat.and_le_left (Nat.div_le_self _ _)), e]
    rfl
  generalize x - ((Int64.toUInt64 x >>> (Int64.toUInt64 (bL 1) &&& Int64.toUInt64 63)).toInt64 &&& (Int64.ofNat 6148914691236517205)) = x1 at *
  refine sq358_8 (bWp_mono _) hA ?_
  have b2 := bS2_b (x := bS1 8 (bNt x)) 8
  have g2 : bNt ((x1 &&& (Int64.ofNat 3689348814741910323)) + ((Int64.toUInt64 x1 >>> (Int64.toUInt64 (bL 2) &&& Int64.toUInt64 63)).toInt64 &&& (Int64.ofNat 3689348814741910323))) = bS2 8 (bS1 8 (bNt x)) := by
    have e : bNt ((Int64.toUInt64 x1 >>> (Int64.toUInt64 (bL 2) &&& Int64.toUInt64 63)).toInt64 &&& (Int64.ofNat 3689348814741910323)) = (bS1 8 (bNt x) / 4) &&& bM8 51 8 := by
      rw [bNt_and, bNt_shr (u := 2) (m := 2) (by decide) (by decide), m2, g1]; rfl
    have e1 : bNt (x1 &&& (Int64.ofNat 3689348814741910323)) = bS1 8 (bNt x) &&& bM8 51 8 := by rw [bNt_and, m2, g1]; rfl
    rw [bNt_add, e, e1]
    · rfl
    · rw [e, e1]
      refine Nat.lt_of_le_of_lt b2 ?_
      rw [m2]; decide
  generalize (x1 &&& (Int64.ofNat 3689348814741910323)) + ((Int64.toUInt64 x1 >>> (Int64.toUInt64 (bL 2) &&& Int64.toUInt64 63)).toInt64 &&& (Int64.ofNat 3689348814741910323)) = x2 at *
  refine sq358_18 (bWp_mono _) hA ?_
  have g3 : bNt ((x2 + (Int64.toUInt64 x2 >>> (Int64.toUInt64 (bL 4) &&& Int64.toUInt64 63)).toInt64) &&& (Int64.ofNat 1085102592571150095)) = bT8 8 (bNt x) := by
    have e := bNt_shr (a := x2) (k := 4) (u := 4) (m := 4) (by decide) (by decide)
    rw [bNt_and, bNt_add, e, g2, ← n2, bS3, m3]
    · rfl
    · rw [e, g2]
      rw [m2] at b2
      have : bS2 8 (bS1 8 (bNt x)) / 2 ^ 4 ≤ bS2 8 (bS1 8 (bNt x)) / 2 := Nat.div_le_div_left (by decide) (by decide)
      omega
  generalize (x2 + (Int64.toUInt64 x2 >>> (Int64.toUInt64 (bL 4) &&& Int64.toUInt64 63)).toInt64) &&& (Int64.ofNat 1085102592571150095) = x3 at *
  refine sq358_26 (bWp_mono _) hA ?_
  have g4 : bNt (x3 + (Int64.toUInt64 x3 >>> (Int64.toUInt64 (bL 8) &&& Int64.toUInt64 63)).toInt64) = i4 := by
    have e := bNt_shr (a := x3) (k := 8) (u := 8) (m := 8) (by decide) (by decide)
    rw [bNt_add, e, g3, e4]
    rw [e, g3]
    have : bT8 8 (bNt x) / 2 ^ 8 ≤ bT8 8 (bNt x) := Nat.div_le_self _ _
    omega
  have l4 : i4 ≤ 1157442765409226768 := by
    have : bT8 8 (bNt x) / 256 ≤ bT8 8 (bNt x) := Nat.div_le_self _ _
    omega
  generalize x3 + (Int64.toUInt64 x3 >>> (Int64.toUInt64 (bL 8) &&& Int64.toUInt64 63)).toInt64 = x4 at *
  refine sq358_32 (bWp_mono _) hA ?_
  have g5 : bNt (x4 + (Int64.toUInt64 x4 >>> (Int64.toUInt64 (bL 16) &&& Int64.toUInt64 63)).toInt64) = i5 := by
    have e := bNt_shr (a := x4) (k := 16) (u := 16) (m := 16) (by decide) (by decide)
    rw [bNt_add, e, g4, e5]
    rw [e, g4]
    have : i4 / 2 ^ 16 ≤ i4 := Nat.div_le_self _ _
    omega
  have l5 : i5 ≤ 2314885530818453536 := by
    have : i4 / 65536 ≤ i4 := Nat.div_le_self _ _
    omega
  generalize x4 + (Int64.toUInt64 x4 >>> (Int64.toUInt64 (bL 16) &&& Int64.toUInt64 63)).toInt64 = x5 at *
  refine sq358_38 (bWp_mono _) hA ?_
  have g6 : bNt (x5 + (Int64.toUInt64 x5 >>> (Int64.toUInt64 (bL 32) &&& Int64.toUInt64 63)).toInt64) = i6 := by
    have e := bNt_shr (a := x5) (k := 32) (u := 32) (m := 32) (by decide) (by decide)
    rw [bNt_add, e, g5, e6]
    rw [e, g5]
    have : i5 / 2 ^ 32 ≤ i5 := Nat.div_le_self _ _
    omega
  generalize x5 + (Int64.toUInt64 x5 >>> (Int64.toUInt64 (bL 32) &&& Int64.toUInt64 63)).toInt64 = x6 at *
  have g7 : bAnd (bLi x6) 127 = (bPop 64 (bNt x) : Int) := by
    have t : (bn (bLi x6) &&& bn 127).toBitVec.toNat = bPop 64 (bNt x) := by
      rw [Int32.toBitVec_and, BitVec.toNat_and, show bn (bLi x6) = x6.toInt32 from Int32.ofInt_toInt _, show (bn 127).toBitVec.toNat = 127 from by decide]
      have t1 : x6.toInt32.toBitVec.toNat = i6 % 4294967296 := by
        rw [← g6]
        unfold bNt
        rw [show x6.toInt32.toBitVec = x6.toBitVec.signExtend 32 from rfl, BitVec.signExtend_eq_setWidth_of_le _ (by decide), BitVec.toNat_setWidth]
      rw [t1]
      have := @Nat.and_two_pow_sub_one_eq_mod (i6 % 4294967296) 7
      rw [show (2 : Nat) ^ 7 - 1 = 127 from rfl, show (2 : Nat) ^ 7 = 128 from rfl] at this
      rw [this, ← e7]
      omega
    have l : bPop 64 (bNt x) < 128 := by rw [← e7]; exact Nat.mod_lt _ (by decide)
    unfold bAnd
    show (bn (bLi x6) &&& bn 127).toBitVec.toInt = _
    rw [BitVec.toInt_eq_toNat_of_lt (by rw [t]; omega), t]
  refine sq358_44 (bWp_mono _) hA ?_
  rw [g7]
  have l : bPop 64 (bNt x) < 128 := by rw [← e7]; exact Nat.mod_lt _ (by decide)
  exact bRn_i ⟨by omega, by omega⟩ h
end

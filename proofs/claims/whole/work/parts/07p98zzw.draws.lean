/-! TESTS: what is drawn -/
def bDrw (x : Int) : Int := (1103515245 * x + 12345) % 2147483648
theorem bL_ti {x : Int} (h : bRg x) : (bL x).toInt = x := (Int32.toInt_toInt64 _).trans (bn_toInt h)
theorem b64 {z : Int} (h : -9223372036854775808 ≤ z ∧ z < 9223372036854775808) : z.bmod (2 ^ 64) = z := Int.bmod_eq_of_le_mul_two (by
  have : ((2 ^ 64 : Nat) : Int) = 18446744073709551616 := rfl
  omega) (by
  have : ((2 ^ 64 : Nat) : Int) = 18446744073709551616 := rfl
  omega)
theorem b64_mul {a b : Int64} {x y : Int} (ha : a.toInt = x) (hb : b.toInt = y) (h : -9223372036854775808 ≤ x * y ∧ x * y < 9223372036854775808) : (a * b).toInt = x * y := by rw [Int64.toInt_mul, ha, hb]; exact b64 h
theorem b64_add {a b : Int64} {x y : Int} (ha : a.toInt = x) (hb : b.toInt = y) (h : -9223372036854775808 ≤ x + y ∧ x + y < 9223372036854775808) : (a + b).toInt = x + y := by rw [Int64.toInt_add, ha, hb]; exact b64 h
theorem b64_sub {a b : Int64} {x y : Int} (ha : a.toInt = x) (hb : b.toInt = y) (h : -9223372036854775808 ≤ x - y ∧ x - y < 9223372036854775808) : (a - b).toInt = x - y := by rw [Int64.toInt_sub, ha, hb]; exact b64 h
theorem b64_div {a b : Int64} {x y : Int} (ha : a.toInt = x) (hb : b.toInt = y) (x0 : 0 ≤ x) (x1 : x < 9223372036854775808) (y0 : 0 < y) : (a / b).toInt = x / y := by
  rw [Int64.toInt_div, ha, hb, Int.tdiv_eq_ediv_of_nonneg x0]
  have h1 := Int.ediv_nonneg x0 (Int.le_of_lt y0)
  have h2 := Int.ediv_le_self y x0
  exact b64 ⟨by omega, by omega⟩
theorem b64_mod {a b : Int64} {x y : Int} (ha : a.toInt = x) (hb : b.toInt = y) (x0 : 0 ≤ x) (x1 : x < 9223372036854775808) (y0 : 0 < y) : (a - a / b * b).toInt = x % y := by
  have d := b64_div ha hb x0 x1 y0
  have h1 := Int.mul_ediv_add_emod x y
  have h2 := Int.emod_nonneg x (Int.ne_of_gt y0)
  have h3 := Int.emod_lt_of_pos x y0
  have h4 : 0 ≤ x / y * y := Int.mul_nonneg (Int.ediv_nonneg x0 (Int.le_of_lt y0)) (Int.le_of_lt y0)
  rw [Int.mul_comm] at h1
  have m := b64_mul d hb ⟨by omega, by omega⟩
  rw [b64_sub ha m ⟨by omega, by omega⟩]
  omega
theorem b64_n {n : Nat} (h : n < 9223372036854775808) : (Int64.ofNat n).toInt = n := Int64.toInt_ofNat_of_lt h
theorem bCmp_lt {x y : Int64} : bCmp x y < 0 ↔ x.toInt < y.toInt := by
  unfold bCmp lg_cmp
  rw [← Int64.lt_iff_toInt_lt]
  by_cases h : y < x
  · have n : ¬ x < y := fun w => by
      rw [Int64.lt_iff_toInt_lt] at h w
      omega
    simp only [h, if_true, n, iff_false]
    decide
  · by_cases e : x = y
    · subst e
      simp only [gt_iff_lt, h, if_false, if_true, iff_false]
      decide
    · have n : x < y := by
        rw [Int64.lt_iff_toInt_lt] at h ⊢
        have : x.toInt ≠ y.toInt := fun w => e (Int64.toInt_inj.1 w)
        omega
      simp only [h, if_false, e, n, iff_true]
      decide
theorem bDrw_rg {x : Int} : 0 ≤ bDrw x ∧ bDrw x < 2147483648 := by unfold bDrw; omega
theorem bDrw_c {v : Int64} {x : Int} (hv : v.toInt = x) (x0 : 0 ≤ x) (x1 : x < 2147483648) : (v * Int64.ofNat 1103515245 + Int64.ofNat 12345 - (v * Int64.ofNat 1103515245 + Int64.ofNat 12345) / Int64.ofNat 2147483648 * Int64.ofNat 2147483648).toInt = bDrw x := by
  have m := b64_mul hv (b64_n (n := 1103515245) (by decide)) (by omega)
  have a := b64_add m (b64_n (n := 12345) (by decide)) (by omega)
  rw [b64_mod a (b64_n (n := 2147483648) (by decide)) (by omega) (by omega) (by decide)]
  unfold bDrw
  rw [Int.mul_comm]
  rfl
theorem bDrw_r {v : Int64} {x : Int} (hv : v.toInt = x) (x0 : 0 ≤ x) (x1 : x < 2147483648) : (Int64.ofNat 1103515245 * v + Int64.ofNat 12345 - (Int64.ofNat 1103515245 * v + Int64.ofNat 12345) / Int64.ofNat 2147483648 * Int64.ofNat 2147483648).toInt = bDrw x := by
  have m := b64_mul (b64_n (n := 1103515245) (by decide)) hv (by omega)
  have a := b64_add m (b64_n (n := 12345) (by decide)) (by omega)
  rw [b64_mod a (b64_n (n := 2147483648) (by decide)) (by omega) (by omega) (by decide)]
  rfl
/-- what is drawn holds against the luck -/
theorem bDrw_l {v : Int64} {x l : Int} (hv : v.toInt = x) (x0 : 0 ≤ x) (x1 : x < 2147483648) (hl : bRg l) : bCmp (v / Int64.ofNat 65536 - v / Int64.ofNat 65536 / Int64.ofNat 10 * Int64.ofNat 10) (bL l) < 0 ↔ x / 65536 % 10 < l := by
  have d := b64_div hv (b64_n (n := 65536) (by decide)) x0 (by omega) (by decide)
  rw [bCmp_lt, bL_ti hl, b64_mod d (b64_n (n := 10) (by decide)) (by omega) (by omega) (by decide)]
  exact Iff.rfl
theorem bL_eq {v : Int64} {x : Int} (hx : bRg x) (hv : v.toInt = x) : v = bL x := Int64.toInt_inj.1 (hv.trans (bL_ti hx).symm)
theorem bLi_eq {v : Int64} {x : Int} (hx : bRg x) (hv : v.toInt = x) : bLi v = x := by
  unfold bLi
  rw [Int64.toInt_toInt32, hv]
  exact Int.bmod_eq_of_le_mul_two (by
    have : ((2 ^ 32 : Nat) : Int) = 4294967296 := rfl
    omega) (by
    have : ((2 ^ 32 : Nat) : Int) = 4294967296 := rfl
    omega)

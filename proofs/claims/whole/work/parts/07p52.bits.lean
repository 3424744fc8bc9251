/-! BITS of integers: and, or, shifts of what is not below 0 -/
theorem bAnd_rg (x y : Int) : bRg (bAnd x y) := bRgI _
theorem bOr_rg (x y : Int) : bRg (bOr x y) := bRgI _
theorem bShl_rg (x y : Int) : bRg (bShl x y) := bRgI _
theorem bShr_rg (x y : Int) : bRg (bShr x y) := bRgI _
theorem bn_bv {x : Int} (h0 : 0 ≤ x) (h1 : x < 2147483648) : (bn x).toBitVec.toNat = x.toNat := by
  show (BitVec.ofInt 32 x).toNat = x.toNat
  rw [BitVec.toNat_ofInt]
  have e : ((2 ^ 32 : Nat) : Int) = 4294967296 := by decide
  rw [e]
  omega
theorem bv_int {v : BitVec 32} (h : v.toNat < 2147483648) : v.toInt = (v.toNat : Int) := BitVec.toInt_eq_toNat_of_lt (by omega)
theorem bAnd_nat {x y : Int} (h0 : 0 ≤ x) (h1 : x < 2147483648) (k0 : 0 ≤ y) (k1 : y < 2147483648) : bAnd x y = ((x.toNat &&& y.toNat : Nat) : Int) := by
  show ((bn x).toBitVec &&& (bn y).toBitVec).toInt = _
  have e : ((bn x).toBitVec &&& (bn y).toBitVec).toNat = x.toNat &&& y.toNat := by rw [BitVec.toNat_and, bn_bv h0 h1, bn_bv k0 k1]
  have hle : x.toNat &&& y.toNat ≤ x.toNat := Nat.and_le_left
  rw [bv_int (by rw [e]; omega), e]
theorem bOr_nat {x y : Int} (h0 : 0 ≤ x) (h1 : x < 2147483648) (k0 : 0 ≤ y) (k1 : y < 2147483648) : bOr x y = ((x.toNat ||| y.toNat : Nat) : Int) := by
  show ((bn x).toBitVec ||| (bn y).toBitVec).toInt = _
  have e : ((bn x).toBitVec ||| (bn y).toBitVec).toNat = x.toNat ||| y.toNat := by rw [BitVec.toNat_or, bn_bv h0 h1, bn_bv k0 k1]
  have hle : x.toNat ||| y.toNat < 2 ^ 31 := Nat.or_lt_two_pow (by omega) (by omega)
  rw [bv_int (by rw [e]; omega), e]
theorem bShk : ∀ k : Fin 32, ((bn (k.val : Int) &&& 31).toBitVec.smod 32).toNat = k.val := by decide
theorem bShr_nat {x k : Int} (h0 : 0 ≤ x) (h1 : x < 2147483648) (k0 : 0 ≤ k) (k1 : k < 32) : bShr x k = ((x.toNat >>> k.toNat : Nat) : Int) := by
  show ((bn x).toBitVec.sshiftRight' ((bn k &&& 31).toBitVec.smod 32)).toInt = _
  have hk : ((bn k &&& 31).toBitVec.smod 32).toNat = k.toNat := by
    have := bShk ⟨k.toNat, by omega⟩
    rwa [show ((⟨k.toNat, by omega⟩ : Fin 32).val : Int) = k from Int.toNat_of_nonneg k0] at this
  have hm : (bn x).toBitVec.msb = false := by
    rw [BitVec.msb_eq_false_iff_two_mul_lt, bn_bv h0 h1]
    omega
  rw [BitVec.sshiftRight_eq', hk, BitVec.sshiftRight_eq_of_msb_false hm]
  have e : ((bn x).toBitVec >>> k.toNat).toNat = x.toNat >>> k.toNat := by rw [BitVec.toNat_ushiftRight, bn_bv h0 h1]
  have hle : x.toNat >>> k.toNat ≤ x.toNat := Nat.shiftRight_le _ _
  rw [bv_int (by rw [e]; omega), e]
theorem bShl_nat {x k : Int} (h0 : 0 ≤ x) (k0 : 0 ≤ k) (k1 : k < 32) (h1 : x.toNat <<< k.toNat < 2147483648) : bShl x k = ((x.toNat <<< k.toNat : Nat) : Int) := by
  show ((bn x).toBitVec <<< ((bn k &&& 31).toBitVec.smod 32)).toInt = _
  have hk : ((bn k &&& 31).toBitVec.smod 32).toNat = k.toNat := by
    have := bShk ⟨k.toNat, by omega⟩
    rwa [show ((⟨k.toNat, by omega⟩ : Fin 32).val : Int) = k from Int.toNat_of_nonneg k0] at this
  have hx : x.toNat < 2147483648 := Nat.lt_of_le_of_lt Nat.le_shiftLeft h1
  rw [BitVec.shiftLeft_eq', hk]
  have e : ((bn x).toBitVec <<< k.toNat).toNat = x.toNat <<< k.toNat := by
    rw [BitVec.toNat_shiftLeft, bn_bv h0 (by omega)]
    exact Nat.mod_eq_of_lt (by omega)
  rw [bv_int (by rw [e]; omega), e]
theorem bShr_div {x k : Int} (h0 : 0 ≤ x) (h1 : x < 2147483648) (k0 : 0 ≤ k) (k1 : k < 32) : bShr x k = x / (2 ^ k.toNat : Nat) := by
  rw [bShr_nat h0 h1 k0 k1, Nat.shiftRight_eq_div_pow, Int.natCast_ediv, Int.toNat_of_nonneg h0]
theorem bAnd_pow {x : Int} (n : Nat) (hn : n < 31) (h0 : 0 ≤ x) (h1 : x < 2147483648) : bAnd x ((2 ^ n - 1 : Nat) : Int) = x % ((2 ^ n : Nat) : Int) := by
  have h2 : 2 ^ n ≤ 2 ^ 30 := Nat.pow_le_pow_right (by decide) (by omega)
  rw [bAnd_nat h0 h1 (by omega) (by omega), Int.toNat_natCast, Nat.and_two_pow_sub_one_eq_mod, Int.natCast_emod, Int.toNat_of_nonneg h0]
theorem bAnd_1 {x : Int} (h0 : 0 ≤ x) (h1 : x < 2147483648) : bAnd x 1 = x % 2 := bAnd_pow 1 (by decide) h0 h1
theorem bAnd_3 {x : Int} (h0 : 0 ≤ x) (h1 : x < 2147483648) : bAnd x 3 = x % 4 := bAnd_pow 2 (by decide) h0 h1
theorem bAnd_7 {x : Int} (h0 : 0 ≤ x) (h1 : x < 2147483648) : bAnd x 7 = x % 8 := bAnd_pow 3 (by decide) h0 h1
theorem bAnd_63 {x : Int} (h0 : 0 ≤ x) (h1 : x < 2147483648) : bAnd x 63 = x % 64 := bAnd_pow 6 (by decide) h0 h1
theorem bAnd_255 {x : Int} (h0 : 0 ≤ x) (h1 : x < 2147483648) : bAnd x 255 = x % 256 := bAnd_pow 8 (by decide) h0 h1
theorem bShr_1 {x : Int} (h0 : 0 ≤ x) (h1 : x < 2147483648) : bShr x 1 = x / 2 := bShr_div h0 h1 (by decide) (by decide)
theorem bShr_3 {x : Int} (h0 : 0 ≤ x) (h1 : x < 2147483648) : bShr x 3 = x / 8 := bShr_div h0 h1 (by decide) (by decide)
theorem bShr_6 {x : Int} (h0 : 0 ≤ x) (h1 : x < 2147483648) : bShr x 6 = x / 64 := bShr_div h0 h1 (by decide) (by decide)
theorem bShr_8 {x : Int} (h0 : 0 ≤ x) (h1 : x < 2147483648) : bShr x 8 = x / 256 := bShr_div h0 h1 (by decide) (by decide)
/-- a bit of a set -/
def bBit (x : Int) (k : Nat) : Bool := x.toNat.testBit k
theorem bBit_iff {x k : Int} (h0 : 0 ≤ x) (h1 : x < 2147483648) (k0 : 0 ≤ k) (k1 : k < 32) : bAnd (bShr x k) 1 = 1 ↔ bBit x k.toNat = true := by
  have hr : 0 ≤ bShr x k ∧ bShr x k < 2147483648 := by
    rw [bShr_nat h0 h1 k0 k1]
    have : x.toNat >>> k.toNat ≤ x.toNat := Nat.shiftRight_le _ _
    generalize x.toNat >>> k.toNat = q at this ⊢
    omega
  rw [bAnd_1 hr.1 hr.2, bShr_nat h0 h1 k0 k1, bBit, Nat.testBit_eq_decide_div_mod_eq, decide_eq_true_eq, Nat.shiftRight_eq_div_pow]
  generalize x.toNat / 2 ^ k.toNat = q
  omega
theorem bShl_one {k : Int} (k0 : 0 ≤ k) (k1 : k < 31) : bShl 1 k = ((2 ^ k.toNat : Nat) : Int) := by
  have h : (1 : Int).toNat <<< k.toNat = 2 ^ k.toNat := by rw [Nat.shiftLeft_eq]; exact Nat.one_mul _
  have h2 : 2 ^ k.toNat ≤ 2 ^ 30 := Nat.pow_le_pow_right (by decide) (by omega)
  rw [bShl_nat (by decide) k0 (by omega) (by rw [h]; omega), h]

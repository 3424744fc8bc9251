/-! SETS OF TARGETS as masks -/
def bMs (P : Int → Prop) (x : Int) : Prop := (0 ≤ x ∧ x < 65536) ∧ ∀ i, 0 ≤ i → i < 16 → (bBit x i.toNat = true ↔ P i)
theorem bMs_c {P Q : Int → Prop} {x : Int} (h : bMs P x) (e : ∀ i, 0 ≤ i → i < 16 → (P i ↔ Q i)) : bMs Q x := ⟨h.1, fun i i0 i1 => (h.2 i i0 i1).trans (e i i0 i1)⟩
theorem bMs_i {P : Int → Prop} {x i : Int} (h : bMs P x) (i0 : 0 ≤ i) (i1 : i < 16) : bAnd (bShr x i) 1 = 1 ↔ P i := (bBit_iff h.1.1 (by have := h.1.2; omega) i0 (by omega)).trans (h.2 i i0 i1)
theorem bMs_0 : bMs (fun _ => False) 0 := ⟨by decide, fun i _ _ => by unfold bBit; simp⟩
theorem bMs_shl {k : Int} (k0 : 0 ≤ k) (k1 : k < 16) : bMs (fun i => i = k) (bShl 1 k) := by
  rw [bShl_one k0 (by omega)]
  have h2 : 2 ^ k.toNat ≤ 2 ^ 15 := Nat.pow_le_pow_right (by decide) (by omega)
  refine ⟨by generalize 2 ^ k.toNat = q at h2 ⊢; omega, fun i i0 i1 => ?_⟩
  unfold bBit
  rw [Int.toNat_natCast, Nat.testBit_two_pow, decide_eq_true_eq]
  omega
theorem bMs_or {P Q : Int → Prop} {x y : Int} (h : bMs P x) (k : bMs Q y) : bMs (fun i => P i ∨ Q i) (bOr x y) := by
  have hx := h.1; have hy := k.1
  have e := bOr_nat (x := x) (y := y) hx.1 (by omega) hy.1 (by omega)
  have hlt : x.toNat ||| y.toNat < 2 ^ 16 := Nat.or_lt_two_pow (by omega) (by omega)
  refine ⟨by rw [e]; omega, fun i i0 i1 => ?_⟩
  rw [e, bBit, Int.toNat_natCast, Nat.testBit_or, Bool.or_eq_true]
  exact or_congr (h.2 i i0 i1) (k.2 i i0 i1)
theorem bMs_and {P Q : Int → Prop} {x y : Int} (h : bMs P x) (k : bMs Q y) : bMs (fun i => P i ∧ Q i) (bAnd x y) := by
  have hx := h.1; have hy := k.1
  have e := bAnd_nat (x := x) (y := y) hx.1 (by omega) hy.1 (by omega)
  have hlt : x.toNat &&& y.toNat ≤ x.toNat := Nat.and_le_left
  refine ⟨by rw [e]; omega, fun i i0 i1 => ?_⟩
  rw [e, bBit, Int.toNat_natCast, Nat.testBit_and, Bool.and_eq_true]
  exact and_congr (h.2 i i0 i1) (k.2 i i0 i1)
theorem bMs_eq {P : Int → Prop} {x y : Int} (h : bMs P x) (k : bMs P y) : x = y := by
  have hx := h.1; have hy := k.1
  have e : x.toNat = y.toNat := Nat.eq_of_testBit_eq fun i => by
    by_cases w : i < 16
    · have := (h.2 (i : Int) (by omega) (by omega)).trans (k.2 (i : Int) (by omega) (by omega)).symm
      rw [Int.toNat_natCast] at this
      exact Bool.eq_iff_iff.mpr this
    · have h2 : 2 ^ 16 ≤ 2 ^ i := Nat.pow_le_pow_right (by decide) (by omega)
      rw [Nat.testBit_lt_two_pow (by omega), Nat.testBit_lt_two_pow (by omega)]
  omega
theorem bMs_z {P : Int → Prop} {x : Int} (h : bMs P x) : x = 0 ↔ ∀ i, 0 ≤ i → i < 16 → ¬ P i :=
  ⟨fun e i i0 i1 q => by
    have := (h.2 i i0 i1).mpr q
    rw [e] at this
    unfold bBit at this
    simp at this, fun e => bMs_eq h (bMs_c bMs_0 fun i i0 i1 => ⟨False.elim, fun q => e i i0 i1 q⟩)⟩

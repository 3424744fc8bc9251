/-! TESTS: bits -/
theorem b1_64 {w : Int64} {i : Int64} {k : Nat} (hk : k < 64) (hi : ((i &&& 63).toBitVec.smod 64).toNat = k) : bCmp ((w >>> (i &&& 63)) &&& Int64.ofNat 1) (Int64.ofNat 0) = 0 ↔ w.toBitVec.getLsbD k = false := by
  have e : ((w >>> (i &&& 63)) &&& Int64.ofNat 1) = if w.toBitVec.getLsbD k then Int64.ofNat 1 else Int64.ofNat 0 := by
    refine Int64.toBitVec_inj.1 (BitVec.eq_of_getLsbD_eq fun j hj => ?_)
    have e0 : ((w >>> (i &&& 63)) &&& Int64.ofNat 1).toBitVec = (w.toBitVec.sshiftRight (((i &&& 63).toBitVec.smod 64).toNat)) &&& 1#64 := rfl
    rw [e0, hi, BitVec.getLsbD_and, BitVec.getLsbD_sshiftRight, BitVec.getLsbD_one]
    by_cases j0 : j = 0
    · subst j0
      cases hb : w.toBitVec.getLsbD k with
      | true => simp [hk, hb]
      | false => simp [hk, hb]
    · have : ∀ b : Bool, (if b then Int64.ofNat 1 else Int64.ofNat 0).toBitVec.getLsbD j = false := fun b => by
        cases b with
        | true =>
          show (1#64).getLsbD j = false
          rw [BitVec.getLsbD_one]; simp [j0]
        | false => show (0#64).getLsbD j = false; exact BitVec.getLsbD_zero
      rw [this]
      simp [j0]
  rw [e]
  cases w.toBitVec.getLsbD k with
  | true => exact ⟨fun z => absurd z (by decide), fun z => absurd z (by decide)⟩
  | false => exact ⟨fun _ => rfl, fun _ => by decide⟩
theorem b1_64o {w : Int64} {i : Int64} {k j : Nat} (hj : j < 64) (hi : ((i &&& 63).toBitVec.smod 64).toNat = k) : (w ||| (Int64.ofNat 1 <<< (i &&& 63))).toBitVec.getLsbD j = (w.toBitVec.getLsbD j || decide (j = k)) := by
  have e0 : (w ||| (Int64.ofNat 1 <<< (i &&& 63))).toBitVec = w.toBitVec ||| (1#64 <<< (((i &&& 63).toBitVec.smod 64).toNat)) := rfl
  rw [e0, hi, BitVec.getLsbD_or, BitVec.getLsbD_shiftLeft, BitVec.getLsbD_one]
  congr 1
  by_cases e : j = k
  · subst e; simp [hj]
  · rw [decide_eq_false e]
    by_cases l : j < k
    · simp [l]
    · have : ¬ j - k = 0 := by omega
      simp [this]
theorem b64_s2 : ∀ a : Fin 63, ∀ b : Fin 64, ((bL ((64 * a.val + b.val : Nat) : Int) &&& 63).toBitVec.smod 64).toNat = b.val := by decide +kernel
theorem b64_s {q : Int} (q0 : 0 ≤ q) (q1 : q < 4032) : ((bL q &&& 63).toBitVec.smod 64).toNat = (q % 64).toNat := by
  have := b64_s2 ⟨(q / 64).toNat, by omega⟩ ⟨(q % 64).toNat, by omega⟩
  rw [show ((64 * (⟨(q / 64).toNat, by omega⟩ : Fin 63).val + (⟨(q % 64).toNat, by omega⟩ : Fin 64).val : Nat) : Int) = q by show ((64 * (q / 64).toNat + (q % 64).toNat : Nat) : Int) = q; omega] at this
  exact this
theorem b32_s : ∀ k : Fin 32, ((bn (k.val : Int) &&& 31).toBitVec.smod 32).toNat = k.val := by decide +kernel
theorem b1_32 {x k : Int} (k0 : 0 ≤ k) (k1 : k < 32) : bAnd (bShr x k) 1 = 1 ↔ (bn x).toBitVec.getLsbD k.toNat = true := by
  have hs : ((bn k &&& 31).toBitVec.smod 32).toNat = k.toNat := by
    have hs := b32_s ⟨k.toNat, by omega⟩
    rw [show (((⟨k.toNat, by omega⟩ : Fin 32).val : Nat) : Int) = k by show ((k.toNat : Nat) : Int) = k; omega] at hs
    exact hs
  have e : bn (bShr x k) &&& bn 1 = if (bn x).toBitVec.getLsbD k.toNat then 1 else 0 := by
    have e1 : bn (bShr x k) = bn x >>> (bn k &&& 31) := (bn_of _).symm
    rw [e1]
    refine Int32.toBitVec_inj.1 (BitVec.eq_of_getLsbD_eq fun j hj => ?_)
    have e0 : ((bn x >>> (bn k &&& 31)) &&& bn 1).toBitVec = ((bn x).toBitVec.sshiftRight (((bn k &&& 31).toBitVec.smod 32).toNat)) &&& 1#32 := rfl
    rw [e0, hs, BitVec.getLsbD_and, BitVec.getLsbD_sshiftRight, BitVec.getLsbD_one]
    by_cases j0 : j = 0
    · subst j0
      have : k.toNat < 32 := by omega
      cases hb : (bn x).toBitVec.getLsbD k.toNat with
      | true => simp [this, hb]
      | false => simp [this, hb]
    · have : ∀ b : Bool, (if b then (1 : Int32) else 0).toBitVec.getLsbD j = false := fun b => by
        cases b with
        | true =>
          show (1#32).getLsbD j = false
          rw [BitVec.getLsbD_one]; simp [j0]
        | false => show (0#32).getLsbD j = false; exact BitVec.getLsbD_zero
      rw [this]
      simp [j0]
  unfold bAnd
  rw [e]
  cases (bn x).toBitVec.getLsbD k.toNat with
  | true => exact ⟨fun _ => rfl, fun _ => by decide⟩
  | false => exact ⟨fun z => absurd z (by decide), fun z => absurd z (by decide)⟩
theorem b1_32o {x k : Int} {j : Nat} (k0 : 0 ≤ k) (k1 : k < 32) (hj : j < 32) : (bn (bOr x (bShl 1 k))).toBitVec.getLsbD j = ((bn x).toBitVec.getLsbD j || decide ((j : Int) = k)) := by
  have hs : ((bn k &&& 31).toBitVec.smod 32).toNat = k.toNat := by
    have hs := b32_s ⟨k.toNat, by omega⟩
    rw [show (((⟨k.toNat, by omega⟩ : Fin 32).val : Nat) : Int) = k by show ((k.toNat : Nat) : Int) = k; omega] at hs
    exact hs
  have e1 : bn (bOr x (bShl 1 k)) = bn x ||| bn (bShl 1 k) := (bn_of _).symm
  have e2 : bn (bShl 1 k) = bn 1 <<< (bn k &&& 31) := (bn_of _).symm
  rw [e1, e2]
  have e0 : (bn x ||| (bn 1 <<< (bn k &&& 31))).toBitVec = (bn x).toBitVec ||| (1#32 <<< (((bn k &&& 31).toBitVec.smod 32).toNat)) := rfl
  rw [e0, hs, BitVec.getLsbD_or, BitVec.getLsbD_shiftLeft, BitVec.getLsbD_one]
  congr 1
  by_cases e : j = k.toNat
  · subst e
    rw [decide_eq_true (show ((k.toNat : Nat) : Int) = k by omega)]
    simp [hj]
  · rw [decide_eq_false (show ¬ (j : Int) = k by omega)]
    by_cases l : j < k.toNat
    · simp [l]
    · have : ¬ j - k.toNat = 0 := by omega
      simp [this]

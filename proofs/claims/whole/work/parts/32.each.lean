/-! what else is decided of each method -/
noncomputable def bfq (n : Nat) : Bool := Nat.beq n 357 || Nat.ble 362 n || bMfB n
theorem bff_0 : ((List.range 20).all fun j => bfq (20 * 0 + j)) = true := by decide +kernel
theorem bff_1 : ((List.range 20).all fun j => bfq (20 * 1 + j)) = true := by decide +kernel
theorem bff_2 : ((List.range 20).all fun j => bfq (20 * 2 + j)) = true := by decide +kernel
theorem bff_3 : ((List.range 20).all fun j => bfq (20 * 3 + j)) = true := by decide +kernel
theorem bff_4 : ((List.range 20).all fun j => bfq (20 * 4 + j)) = true := by decide +kernel
theorem bff_5 : ((List.range 20).all fun j => bfq (20 * 5 + j)) = true := by decide +kernel
theorem bff_6 : ((List.range 20).all fun j => bfq (20 * 6 + j)) = true := by decide +kernel
theorem bff_7 : ((List.range 20).all fun j => bfq (20 * 7 + j)) = true := by decide +kernel
theorem bff_8 : ((List.range 20).all fun j => bfq (20 * 8 + j)) = true := by decide +kernel
theorem bff_9 : ((List.range 20).all fun j => bfq (20 * 9 + j)) = true := by decide +kernel
theorem bff_10 : ((List.range 20).all fun j => bfq (20 * 10 + j)) = true := by decide +kernel
theorem bff_11 : ((List.range 20).all fun j => bfq (20 * 11 + j)) = true := by decide +kernel
theorem bff_12 : ((List.range 20).all fun j => bfq (20 * 12 + j)) = true := by decide +kernel
theorem bff_13 : ((List.range 20).all fun j => bfq (20 * 13 + j)) = true := by decide +kernel
theorem bff_14 : ((List.range 20).all fun j => bfq (20 * 14 + j)) = true := by decide +kernel
theorem bff_15 : ((List.range 20).all fun j => bfq (20 * 15 + j)) = true := by decide +kernel
theorem bff_16 : ((List.range 20).all fun j => bfq (20 * 16 + j)) = true := by decide +kernel
theorem bff_17 : ((List.range 20).all fun j => bfq (20 * 17 + j)) = true := by decide +kernel
theorem bff_18 : ((List.range 20).all fun j => bfq (20 * 18 + j)) = true := by decide +kernel

/-! THE GOAL: the abstract run of the law answers 1, within the room -/
theorem bGoal_holds : bGoal := by
  intro L xs hL A hA
  refine law_0 (L := L) (σ0 := bS0 xs L) hL (fun a j h1 h2 => ?_) (fun a j h1 => ?_) (fun d d0 d1 => ?_) (fun _ => rfl) rfl ?_ hA
  · show (if a = 200 then xs j.toNat else if a = 201 then bPar j.toNat else 0 : Int32).toInt = 0
    rw [if_neg h1, if_neg h2]
    rfl
  · show (if a = 200 then Int64.ofNat L else 0 : Int64) = 0
    rw [if_neg h1]
  · have hd : d = 0 ∨ d = 1 ∨ d = 2 ∨ d = 3 ∨ d = 4 ∨ d = 5 := by omega
    rcases hd with e | e | e | e | e | e <;> subst e <;> rfl
  · show (Int64.ofNat L).toInt.toNat = L
    rw [Int64.toInt_ofNat_of_lt (by omega)]
    rfl

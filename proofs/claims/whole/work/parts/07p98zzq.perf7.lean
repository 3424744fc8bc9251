/-! WHAT AN ACTION GIVES, 7: the reference operates -/
section
variable {d : Nat} {σ s t : bSt} {f : Int → bSt → Prop} {fv : bSt → Prop} {ho p a op v x n i : Int} {F L : List Int} {c : Int → Int} {m e : Nat} {P : Int → Bool}
theorem bEls_p (h : bPag σ s) : bEls s ho F = bEls σ ho F := by unfold bEls; simp only [bOwn_p h]
theorem bHr_p (h : bPag σ s) (k : bHr σ t ho F) : bHr s t ho F := ⟨k.1, k.2.1, k.2.2.trans (bEls_p h).symm⟩
theorem bHr_q (h : bPag σ s) (k : bHr s t ho F) : bHr σ t ho F := ⟨k.1, k.2.1, k.2.2.trans (bEls_p h)⟩
theorem w259 (hF : bFi σ) (hP : bPho σ ho P) (hho : bRg ho) (o0 : 0 ≤ op) (o1 : op ≤ 5) (n0 : 0 ≤ n ∧ n < 2000) (m40 : m ≤ 40) (hc : ∀ i, 0 ≤ i → i < (m : Int) → bi σ 119 i = c i ∧ 0 ≤ c i ∧ c i < 1000) (h : ∀ s, bRoq σ s → bHr σ s ho (bFnn σ op ho c m) → f (if bGiv σ op n ho c m = -1 then -5 else bGiv σ op n ho c m) s) : bWp (d + 6) 259 [.ref 12, .int (bn op), .int (bn n), .int (bn m), .int (bn ho), .long (bMk P 48)] σ (bRn f) := by
  have hc2 : ∀ i, 0 ≤ i → i < (m : Int) → 0 ≤ c i ∧ c i < 1000 := fun i i0 i1 => (hc i i0 i1).2
  refine ⟨rfl, fun A hA => sq259_0 (bWp_mono _) hA ⟨by omega, by omega⟩ ⟨by omega, by omega⟩ ⟨by omega, by omega⟩ hho ?_⟩
  have M0 : bRoq σ (bw (bw σ 12 70 0) 12 72 0) := ⟨rfl, bUn_f (bUn_f bUn_refl (by decide) (by decide)) (by decide) (by decide)⟩
  have H0 : bHr σ (bw (bw σ 12 70 0) 12 72 0) ho [] := ⟨by rw [bi_nj (by decide) (by decide) (by decide), bi_eq (by decide)]; rfl, fun i hi => absurd hi (Nat.not_lt_zero _), by rw [bi_eq (by decide)]; rfl⟩
  generalize bw (bw σ 12 70 0) 12 72 0 = s0 at *
  have ms : ∀ {s}, bRoq σ s → bFi s ∧ bPho s ho P ∧ bPag σ s ∧ bi s 12 68 = bi σ 12 68 ∧ ∀ j, bi s 119 j = bi σ 119 j := fun {s} M => by
    have ag := bRoq_pag M
    exact ⟨bFi_un M.2 (by decide) hF, fun p p0 p1 hp => by rw [bOwn_p ag]; exact hP p p0 p1 hp, ag, M.2.2.1 68 (by decide) (by decide), fun j => M.2.1 119 (by decide) (by decide) j⟩
  have rv : ∀ (op : Int) (k : Nat), k ≤ m → 0 ≤ bAcc op c k ∧ bAcc op c k ≤ 40000 * k := fun op k hk => bAcc_rg (op := op) hc2 m40 k hk
  have Y0 : ∀ {s}, op ≠ 5 → bRoq σ s → bHr σ s ho [] → ∀ v, v = (if bGiv σ op n ho c m = -1 then -5 else bGiv σ op n ho c m) → bRg v → bRn f (.inl (some (.int (bn v)))) s := fun {s} o5 M H v hv r => bRn_i r (by
    have := h s M
    unfold bFnn at this
    rw [if_neg o5, ← hv] at this
    exact this H)
  -- the end
  have En : ∀ (v12 : Value) (s : bSt) (z : Int), op ≠ 4 → bRoq σ s → bHr σ s ho (bFnn σ op ho c m) → 0 ≤ z → z ≤ 50000 → (op = 5 → z = (bLka σ ho c m).2) → A (99, [.ref 12, .int (bn op), .int (bn n), .int (bn m), .int (bn ho), .long (bMk P 48), .float 0, .int (bn (bAcc 4 c m)), .int (bn (bAcc 1 c m)), .int (bn (bAcc 0 c m)), .int (bn (bGrt c m)), .int (bn z), v12], [], s) := fun v12 s z o4 M H z0 z1 hz => by
    have a4 := rv 4 m (Nat.le_refl _)
    have a1 := rv 1 m (Nat.le_refl _)
    have a0 := rv 0 m (Nat.le_refl _)
    have gr := bGrt_rg hc2 m (Nat.le_refl _)
    have az : ∀ k, bAcc 2 c k = 0 ∧ bAcc 3 c k = 0 := fun k => by
      induction k with
      | zero => exact ⟨rfl, rfl⟩
      | succ k ih =>
        have e1 : bAcc 2 c (k + 1) = bAcc 2 c k + 0 := rfl
        have e2 : bAcc 3 c (k + 1) = bAcc 3 c k + 0 := rfl
        rw [e1, e2, ih.1, ih.2]
        exact ⟨rfl, rfl⟩
    have e5 : bAcc 5 c m = bAcc 4 c m := by
      have : ∀ k, bAcc 5 c k = bAcc 4 c k := fun k => by
        induction k with
        | zero => rfl
        | succ k ih =>
          show bAcc 5 c k + c k = bAcc 4 c k + c k
          rw [ih]
      exact this m
    have K := h s M H
    have yes : ∀ v, 0 ≤ v → bGiv σ op n ho c m = v → f v s := fun v v0 e => by
      rw [e, if_neg (by omega)] at K
      exact K
    unfold bGiv at yes
    refine sq259_99 (bWp_mono _) hA ⟨by omega, by omega⟩ ⟨by omega, by omega⟩ ⟨by omega, by omega⟩ ⟨by omega, by omega⟩ ⟨by omega, by omega⟩ ⟨by omega, by omega⟩ ⟨by omega, by omega⟩ ⟨by omega, by omega⟩ ⟨fun w => ?_, fun w0 => ⟨fun w => ?_, fun w1 => ⟨fun w => ?_, fun w2 => ⟨fun w => ?_, fun w3 => ?_⟩⟩⟩⟩
    · exact ⟨⟨by omega, by omega⟩, by omega, bRn_i ⟨by omega, by omega⟩ (yes _ (by omega) (by rw [if_neg o4, if_neg (by omega), if_neg (by omega), if_neg (by omega), w]))⟩
    · exact ⟨⟨by omega, by omega⟩, by omega, bRn_i ⟨by omega, by omega⟩ (yes _ (by omega) (by rw [if_neg o4, if_neg (by omega), if_neg (by omega), if_neg (by omega), w]))⟩
    · exact ⟨⟨by omega, by omega⟩, by omega, bRn_i ⟨by omega, by omega⟩ (yes _ (by omega) (by rw [if_neg o4, if_neg (by omega), if_pos w, w, (az m).1, Int.add_zero, Int.add_comm]))⟩
    · exact ⟨⟨by omega, by omega⟩, by omega, bRn_i ⟨by omega, by omega⟩ (yes _ (by omega) (by rw [if_neg o4, if_neg (by omega), if_neg w2, if_pos w, w, (az m).2, Int.add_zero]))⟩
    · have o5 : op = 5 := by omega
      exact ⟨⟨by omega, by omega⟩, ⟨by omega, by omega⟩, by omega, bRn_i ⟨by omega, by omega⟩ (yes _ (by omega) (by rw [if_neg o4, if_pos o5, hz o5, o5, e5]))⟩
  -- what the contents point to
  have L2 : ∀ (k i : Nat) (s : bSt), i + k = m → op ≠ 4 → bRoq σ s → bHr σ s ho (if op = 5 then (bLka σ ho c i).1 else []) → (op ≠ 5 → i = 0) → A (80, [.ref 12, .int (bn op), .int (bn n), .int (bn m), .int (bn ho), .long (bMk P 48), .float 0, .int (bn (bAcc 4 c m)), .int (bn (bAcc 1 c m)), .int (bn (bAcc 0 c m)), .int (bn (bGrt c m)), .int (bn (if op = 5 then (bLka σ ho c i).2 else 0)), .int (bn i)], [], s) := by
    intro k
    induction k with
    | zero =>
      intro i s hi o4 M H hz
      have ei : i = m := by omega
      have a4 := rv 4 m (Nat.le_refl _)
      have a1 := rv 1 m (Nat.le_refl _)
      have a0 := rv 0 m (Nat.le_refl _)
      have gr := bGrt_rg hc2 m (Nat.le_refl _)
      have lk := bLka_ok (ho := ho) (c := c) hF i
      have lF := bFok_len lk.1
      have sr : 0 ≤ (if op = 5 then (bLka σ ho c i).2 else 0) ∧ (if op = 5 then (bLka σ ho c i).2 else 0) ≤ 50000 := by split <;> omega
      have nx := En (.int (bn i)) s (if op = 5 then (bLka σ ho c i).2 else 0) o4 M (by unfold bFnn; rw [← ei]; exact H) sr.1 sr.2 (fun o5 => by rw [if_pos o5, ei])
      refine sq259_80 (bWp_mono _) hA ⟨by omega, by omega⟩ ⟨by omega, by omega⟩ ⟨by omega, by omega⟩ hho ⟨by omega, by omega⟩ ⟨by omega, by omega⟩ ⟨by omega, by omega⟩ ⟨by omega, by omega⟩ ⟨by omega, by omega⟩ ⟨by omega, by omega⟩ ⟨fun w => absurd w (by omega), fun _ => nx⟩
    | succ k ih =>
      intro i s hi o4 M H hz
      have a4 := rv 4 m (Nat.le_refl _)
      have a1 := rv 1 m (Nat.le_refl _)
      have a0 := rv 0 m (Nat.le_refl _)
      have gr := bGrt_rg hc2 m (Nat.le_refl _)
      have lk := bLka_ok (ho := ho) (c := c) hF i
      have lF := bFok_len lk.1
      have sr : 0 ≤ (if op = 5 then (bLka σ ho c i).2 else 0) ∧ (if op = 5 then (bLka σ ho c i).2 else 0) ≤ 50000 := by split <;> omega
      obtain ⟨f2, hP2, ag, e68, e119⟩ := ms M
      refine sq259_80 (bWp_mono _) hA ⟨by omega, by omega⟩ ⟨by omega, by omega⟩ ⟨by omega, by omega⟩ hho ⟨by omega, by omega⟩ ⟨by omega, by omega⟩ ⟨by omega, by omega⟩ ⟨by omega, by omega⟩ ⟨by omega, by omega⟩ ⟨by omega, by omega⟩ ⟨fun _ => ⟨fun o5 => ⟨⟨by omega, by omega⟩, ?_⟩, fun o5 => ?_⟩, fun w => absurd (show (i : Int) < m by omega) w⟩
      · rw [if_pos o5] at H ⊢
        rw [e119, (hc i (by omega) (by omega)).1]
        have lk1 := bLka_ok (ho := ho) (c := c) hF (i + 1)
        have lF1 := bFok_len lk1.1
        refine w260 f2 hP2 hho lk.1 (bHr_p ag H) (hc2 i (by omega) (by omega)) fun s' M' H' => ?_
        rw [bFol_m ag e68] at H' ⊢
        have nx := ih (i + 1) s' (by omega) o4 (bRoq_trans M M') (by rw [if_pos o5]; exact bHr_q ag H') (fun w => absurd o5 w)
        rw [if_pos o5, show ((i + 1 : Nat) : Int) = (i : Int) + 1 by omega, show (bLka σ ho c (i + 1)).2 = (bLka σ ho c i).2 + (bFol σ ho 48 (c i) (bLka σ ho c i).1).2 from rfl] at nx
        rw [show (bLka σ ho c (i + 1)).2 = (bLka σ ho c i).2 + (bFol σ ho 48 (c i) (bLka σ ho c i).1).2 from rfl] at lk1
        exact ⟨⟨by omega, by omega⟩, ⟨by omega, by omega⟩, nx⟩
      · have nx := En (.int (bn i)) s (if op = 5 then (bLka σ ho c i).2 else 0) o4 M (by unfold bFnn; rw [if_neg o5] at H ⊢; exact H) sr.1 sr.2 (fun w => absurd w o5)
        exact nx
  have L1 : ∀ (k i : Nat) (v12 : Value), i + k = m → A (16, [.ref 12, .int (bn op), .int (bn n), .int (bn m), .int (bn ho), .long (bMk P 48), .float 0, .int (bn (bAcc 4 c i)), .int (bn (bAcc 1 c i)), .int (bn (bAcc 0 c i)), .int (bn (bGrt c i)), .int (bn i), v12], [], s0) := by
    intro k
    induction k with
    | zero =>
      intro i v12 hi
      have ei : i = m := by omega
      rw [ei]
      have a4 := rv 4 m (Nat.le_refl _)
      have a1 := rv 1 m (Nat.le_refl _)
      have a0 := rv 0 m (Nat.le_refl _)
      have gr := bGrt_rg hc2 m (Nat.le_refl _)
      refine sq259_16 (bWp_mono _) hA ⟨by omega, by omega⟩ ⟨by omega, by omega⟩ ⟨by omega, by omega⟩ hho ⟨by omega, by omega⟩ ⟨by omega, by omega⟩ ⟨by omega, by omega⟩ ⟨by omega, by omega⟩ ⟨by omega, by omega⟩ ⟨fun w => absurd w (by omega), fun _ => ⟨fun o4 => ⟨⟨by omega, by omega⟩, by omega, fun z => ?_, fun z => ⟨by omega, ?_⟩⟩, fun o4 => ?_⟩⟩
      · exact Y0 (by omega) M0 H0 _ (by unfold bGiv; rw [if_pos o4, o4, if_pos z, if_pos rfl]) (by decide)
      · exact Y0 (by omega) M0 H0 _ (by unfold bGiv; rw [if_pos o4, o4, if_neg z, if_neg (by omega)]) ⟨by omega, by omega⟩
      · have nx := L2 m 0 s0 (by omega) o4 M0 (by
          split
          · exact H0
          · exact H0) (fun _ => rfl)
        rw [show (bLka σ ho c 0).2 = 0 from rfl, ite_self] at nx
        exact nx
    | succ k ih =>
      intro i v12 hi
      have a4 := rv 4 i (by omega)
      have a1 := rv 1 i (by omega)
      have a0 := rv 0 i (by omega)
      have b4 := rv 4 (i + 1) (by omega)
      have b1 := rv 1 (i + 1) (by omega)
      have b0 := rv 0 (i + 1) (by omega)
      have gr := bGrt_rg hc2 i (by omega)
      have ci := hc2 i (by omega) (by omega)
      have nx := ih (i + 1) v12 (by omega)
      have h1 : 0 ≤ ((i : Int) + 1) * c i := Int.mul_nonneg (by omega) ci.1
      have h2 : ((i : Int) + 1) * c i ≤ 40 * 999 := Int.mul_le_mul (by omega) (by omega) ci.1 (by decide)
      rw [show bAcc 4 c (i + 1) = bAcc 4 c i + c i from rfl] at nx b4
      rw [show bAcc 1 c (i + 1) = bAcc 1 c i + c i / 10 from rfl] at nx b1
      rw [show bAcc 0 c (i + 1) = bAcc 0 c i + ((i : Int) + 1) * c i from rfl] at nx b0
      rw [show ((i + 1 : Nat) : Int) = (i : Int) + 1 by omega, show bGrt c (i + 1) = max (bGrt c i) (c i) from rfl] at nx
      refine sq259_16 (bWp_mono _) hA ⟨by omega, by omega⟩ ⟨by omega, by omega⟩ ⟨by omega, by omega⟩ hho ⟨by omega, by omega⟩ ⟨by omega, by omega⟩ ⟨by omega, by omega⟩ ⟨by omega, by omega⟩ ⟨by omega, by omega⟩ ⟨fun _ => ?_, fun w => absurd (show (i : Int) < m by omega) w⟩
      rw [(ms M0).2.2.2.2, (hc i (by omega) (by omega)).1]
      generalize ((i : Int) + 1) * c i = y at *
      refine ⟨⟨by omega, by omega⟩, ⟨by omega, by omega⟩, ci.1, ⟨by omega, by omega⟩, ⟨by omega, by omega⟩, ⟨by omega, by omega⟩, ⟨by omega, by omega⟩, fun w => ?_, fun w => ?_⟩
      · rw [show max (bGrt c i) (c i) = c i by omega] at nx
        exact nx
      · rw [show max (bGrt c i) (c i) = bGrt c i by omega] at nx
        exact nx
  exact L1 m 0 (.float 0) (by omega)
end

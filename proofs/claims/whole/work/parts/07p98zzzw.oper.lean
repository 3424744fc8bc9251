/-! BUILD, 19: the reference operates, whatever its paths may be; a run begins -/
section
variable {d : Nat} {σ s t : bSt} {f : Int → bSt → Prop} {fv : bSt → Prop} {ho p a op v x n i : Int} {F L : List Int} {c : Int → Int} {m e : Nat} {P : Int → Bool}
theorem r259 (hF : bFi σ) (hP : op = 5 → bPho σ ho P) (hho : bRg ho) (o0 : 0 ≤ op) (o1 : op ≤ 5) (n0 : 0 ≤ n ∧ n < 2000) (m40 : m ≤ 40) (hc : ∀ i, 0 ≤ i → i < (m : Int) → bi σ 119 i = c i ∧ 0 ≤ c i ∧ c i < 1000) (h : ∀ s, bRoq σ s → bHr σ s ho (bFnn σ op ho c m) → f (if bGiv σ op n ho c m = -1 then -5 else bGiv σ op n ho c m) s) : bWp (d + 6) 259 [.ref 12, .int (bn op), .int (bn n), .int (bn m), .int (bn ho), .long (bMk P 48)] σ (bRn f) := by
  have hc2 : ∀ i, 0 ≤ i → i < (m : Int) → 0 ≤ c i ∧ c i < 1000 := fun i i0 i1 => (hc i i0 i1).2
  refine ⟨rfl, fun A hA => sq259_0 (bWp_mono _) hA ⟨by omega, by omega⟩ ⟨by omega, by omega⟩ ⟨by omega, by omega⟩ hho ?_⟩
  have M0 : bRoq σ (bw (bw σ 12 70 0) 12 72 0) := ⟨rfl, bUn_f (bUn_f bUn_refl (by decide) (by decide)) (by decide) (by decide)⟩
  have H0 : bHr σ (bw (bw σ 12 70 0) 12 72 0) ho [] := ⟨by rw [bi_nj (by decide) (by decide) (by decide), bi_eq (by decide)]; rfl, fun i hi => absurd hi (Nat.not_lt_zero _), by rw [bi_eq (by decide)]; rfl⟩
  generalize bw (bw σ 12 70 0) 12 72 0 = s0 at *
  have ms : ∀ {s}, bRoq σ s → bFi s ∧ (op = 5 → bPho s ho P) ∧ bPag σ s ∧ bi s 12 68 = bi σ 12 68 ∧ ∀ j, bi s 119 j = bi σ 119 j := fun {s} M => by
    have ag := bRoq_pag M
    exact ⟨bFi_un M.2 (by decide) hF, fun o5 p p0 p1 hp => by rw [bOwn_p ag]; exact hP o5 p p0 p1 hp, ag, M.2.2.1 68 (by decide) (by decide), fun j => M.2.1 119 (by decide) (by decide) j⟩
  have rv : ∀ (op : Int) (k : Nat), k ≤ m → 0 ≤ bAcc op c k ∧ bAcc op c k ≤ 40000 * k := fun op k hk => bAcc_rg (op := op) hc2 m40 k hk
  have Y0 : ∀ {s}, op ≠ 5 → bRoq σ s → bHr σ s ho [] → ∀ v, v = (if bGiv σ op n ho c m = -1 then -5 else bGiv σ op n ho c m) → bRg v → bRn f (.inl (some (.int (bn v)))) s := fun {s} o5 M H v hv r => bRn_i r (by
    have := h s M
    unfold bFnn at this
    rw [if_neg o5, ← hv] at this
    exact this H)
  -- the end
  have En : ∀ (v12 : Value) (s : bSt) (z : Int), op ≠ 4 → bRoq σ s → bHr σ s ho (bFnn σ op ho c m) → 0 ≤ z → z ≤ 50000 → (op = 5 → z = (bLka σ ho c m).2) → A (99, [.ref 12, .int (bn op), .int (bn n), .int (bn m), .int (bn ho), .long (bMk P 48), .float 0, .int (bn (bAcc 4 c m)), .int (bn (bAcc 1 c m)), .int (bn (bAcc 0 c m)), .int (bn (bGrt c m)), .int (bn z), v12], [], s) := fun v12 s z o4 M H z0 z1 hz => by
    have a4 := rv 4 m (Nat.le_refl _)
    have a1 := rv 1 m (Nat.le_refl _)
    have a0 := rv 0 m (Nat.le_refl _)
    have gr := bGrt_rg hc2 m (Nat.le_refl _)
    have az : ∀ k, bAcc 2 c k = 0 ∧ bAcc 3 c k = 0 := fun k => by
      induction k with
      | zero => exact ⟨rfl, rfl⟩
      | succ k ih =>
        have e1 : bAcc 2 c (k + 1) = bAcc 2 c k + 0 := rfl
        have e2 : bAcc 3 c (k + 1) = bAcc 3 c k + 0 := rfl
        rw [e1, e2, ih.1, ih.2]
        exact ⟨rfl, rfl⟩
    have e5 : bAcc 5 c m = bAcc 4 c m := by
      have : ∀ k, bAcc 5 c k = bAcc 4 c k := fun k => by
        induction k with
        | zero => rfl
        | succ k ih =>
          show bAcc 5 c k + c k = bAcc 4 c k + c k
          rw [ih]
      exact this m
    have K := h s M H
    have yes : ∀ v, 0 ≤ v → bGiv σ op n ho c m = v → f v s := fun v v0 e => by
      rw [e, if_neg (by omega)] at K
      exact K
    unfold bGiv at yes
    refine sq259_99 (bWp_mono _) hA ⟨by omega, by omega⟩ ⟨by omega, by omega⟩ ⟨by omega, by omega⟩ ⟨by omega, by omega⟩ ⟨by omega, by omega⟩ ⟨by omega, by omega⟩ ⟨by omega, by omega⟩ ⟨by omega, by omega⟩ ⟨fun w => ?_, fun w0 => ⟨fun w => ?_, fun w1 => ⟨fun w => ?_, fun w2 => ⟨fun w => ?_, fun w3 => ?_⟩⟩⟩⟩
    · exact ⟨⟨by omega, by omega⟩, by omega, bRn_i ⟨by omega, by omega⟩ (yes _ (by omega) (by rw [if_neg o4, if_neg (by omega), if_neg (by omega), if_neg (by omega), w]))⟩
    · exact ⟨⟨by omega, by omega⟩, by omega, bRn_i ⟨by omega, by omega⟩ (yes _ (by omega) (by rw [if_neg o4, if_neg (by omega), if_neg (by omega), if_neg (by omega), w]))⟩
    · exact ⟨⟨by omega, by omega⟩, by omega, bRn_i ⟨by omega, by omega⟩ (yes _ (by omega) (by rw [if_neg o4, if_neg (by omega), if_pos w, w, (az m).1, Int.add_zero, Int.add_comm]))⟩
    · exact ⟨⟨by omega, by omega⟩, by omega, bRn_i ⟨by omega, by omega⟩ (yes _ (by omega) (by rw [if_neg o4, if_neg (by omega), if_neg w2, if_pos w, w, (az m).2, Int.add_zero]))⟩
    · have o5 : op = 5 := by omega
      exact ⟨⟨by omega, by omega⟩, ⟨by omega, by omega⟩, by omega, bRn_i ⟨by omega, by omega⟩ (yes _ (by omega) (by rw [if_neg o4, if_pos o5, hz o5, o5, e5]))⟩
  -- what the contents point to
  have L2 : ∀ (k i : Nat) (s : bSt), i + k = m → op ≠ 4 → bRoq σ s → bHr σ s ho (if op = 5 then (bLka σ ho c i).1 else []) → (op ≠ 5 → i = 0) → A (80, [.ref 12, .int (bn op), .int (bn n), .int (bn m), .int (bn ho), .long (bMk P 48), .float 0, .int (bn (bAcc 4 c m)), .int (bn (bAcc 1 c m)), .int (bn (bAcc 0 c m)), .int (bn (bGrt c m)), .int (bn (if op = 5 then (bLka σ ho c i).2 else 0)), .int (bn i)], [], s) := by
    intro k
    induction k with
    | zero =>
      intro i s hi o4 M H hz
      have ei : i = m := by omega
      have a4 := rv 4 m (Nat.le_refl _)
      have a1 := rv 1 m (Nat.le_refl _)
      have a0 := rv 0 m (Nat.le_refl _)
      have gr := bGrt_rg hc2 m (Nat.le_refl _)
      have lk := bLka_ok (ho := ho) (c := c) hF i
      have lF := bFok_len lk.1
      have sr : 0 ≤ (if op = 5 then (bLka σ ho c i).2 else 0) ∧ (if op = 5 then (bLka σ ho c i).2 else 0) ≤ 50000 := by split <;> omega
      have nx := En (.int (bn i)) s (if op = 5 then (bLka σ ho c i).2 else 0) o4 M (by unfold bFnn; rw [← ei]; exact H) sr.1 sr.2 (fun o5 => by rw [if_pos o5, ei])
      refine sq259_80 (bWp_mono _) hA ⟨by omega, by omega⟩ ⟨by omega, by omega⟩ ⟨by omega, by omega⟩ hho ⟨by omega, by omega⟩ ⟨by omega, by omega⟩ ⟨by omega, by omega⟩ ⟨by omega, by omega⟩ ⟨by omega, by omega⟩ ⟨by omega, by omega⟩ ⟨fun w => absurd w (by omega), fun _ => nx⟩
    | succ k ih =>
      intro i s hi o4 M H hz
      have a4 := rv 4 m (Nat.le_refl _)
      have a1 := rv 1 m (Nat.le_refl _)
      have a0 := rv 0 m (Nat.le_refl _)
      have gr := bGrt_rg hc2 m (Nat.le_refl _)
      have lk := bLka_ok (ho := ho) (c := c) hF i
      have lF := bFok_len lk.1
      have sr : 0 ≤ (if op = 5 then (bLka σ ho c i).2 else 0) ∧ (if op = 5 then (bLka σ ho c i).2 else 0) ≤ 50000 := by split <;> omega
      obtain ⟨f2, hP2, ag, e68, e119⟩ := ms M
      refine sq259_80 (bWp_mono _) hA ⟨by omega, by omega⟩ ⟨by omega, by omega⟩ ⟨by omega, by omega⟩ hho ⟨by omega, by omega⟩ ⟨by omega, by omega⟩ ⟨by omega, by omega⟩ ⟨by omega, by omega⟩ ⟨by omega, by omega⟩ ⟨by omega, by omega⟩ ⟨fun _ => ⟨fun o5 => ⟨⟨by omega, by omega⟩, ?_⟩, fun o5 => ?_⟩, fun w => absurd (show (i : Int) < m by omega) w⟩
      · rw [if_pos o5] at H ⊢
        rw [e119, (hc i (by omega) (by omega)).1]
        have lk1 := bLka_ok (ho := ho) (c := c) hF (i + 1)
        have lF1 := bFok_len lk1.1
        refine w260 f2 (hP2 o5) hho lk.1 (bHr_p ag H) (hc2 i (by omega) (by omega)) fun s' M' H' => ?_
        rw [bFol_m ag e68] at H' ⊢
        have nx := ih (i + 1) s' (by omega) o4 (bRoq_trans M M') (by rw [if_pos o5]; exact bHr_q ag H') (fun w => absurd o5 w)
        rw [if_pos o5, show ((i + 1 : Nat) : Int) = (i : Int) + 1 by omega, show (bLka σ ho c (i + 1)).2 = (bLka σ ho c i).2 + (bFol σ ho 48 (c i) (bLka σ ho c i).1).2 from rfl] at nx
        rw [show (bLka σ ho c (i + 1)).2 = (bLka σ ho c i).2 + (bFol σ ho 48 (c i) (bLka σ ho c i).1).2 from rfl] at lk1
        exact ⟨⟨by omega, by omega⟩, ⟨by omega, by omega⟩, nx⟩
      · have nx := En (.int (bn i)) s (if op = 5 then (bLka σ ho c i).2 else 0) o4 M (by unfold bFnn; rw [if_neg o5] at H ⊢; exact H) sr.1 sr.2 (fun w => absurd w o5)
        exact nx
  have L1 : ∀ (k i : Nat) (v12 : Value), i + k = m → A (16, [.ref 12, .int (bn op), .int (bn n), .int (bn m), .int (bn ho), .long (bMk P 48), .float 0, .int (bn (bAcc 4 c i)), .int (bn (bAcc 1 c i)), .int (bn (bAcc 0 c i)), .int (bn (bGrt c i)), .int (bn i), v12], [], s0) := by
    intro k
    induction k with
    | zero =>
      intro i v12 hi
      have ei : i = m := by omega
      rw [ei]
      have a4 := rv 4 m (Nat.le_refl _)
      have a1 := rv 1 m (Nat.le_refl _)
      have a0 := rv 0 m (Nat.le_refl _)
      have gr := bGrt_rg hc2 m (Nat.le_refl _)
      refine sq259_16 (bWp_mono _) hA ⟨by omega, by omega⟩ ⟨by omega, by omega⟩ ⟨by omega, by omega⟩ hho ⟨by omega, by omega⟩ ⟨by omega, by omega⟩ ⟨by omega, by omega⟩ ⟨by omega, by omega⟩ ⟨by omega, by omega⟩ ⟨fun w => absurd w (by omega), fun _ => ⟨fun o4 => ⟨⟨by omega, by omega⟩, by omega, fun z => ?_, fun z => ⟨by omega, ?_⟩⟩, fun o4 => ?_⟩⟩
      · exact Y0 (by omega) M0 H0 _ (by unfold bGiv; rw [if_pos o4, o4, if_pos z, if_pos rfl]) (by decide)
      · exact Y0 (by omega) M0 H0 _ (by unfold bGiv; rw [if_pos o4, o4, if_neg z, if_neg (by omega)]) ⟨by omega, by omega⟩
      · have nx := L2 m 0 s0 (by omega) o4 M0 (by
          split
          · exact H0
          · exact H0) (fun _ => rfl)
        rw [show (bLka σ ho c 0).2 = 0 from rfl, ite_self] at nx
        exact nx
    | succ k ih =>
      intro i v12 hi
      have a4 := rv 4 i (by omega)
      have a1 := rv 1 i (by omega)
      have a0 := rv 0 i (by omega)
      have b4 := rv 4 (i + 1) (by omega)
      have b1 := rv 1 (i + 1) (by omega)
      have b0 := rv 0 (i + 1) (by omega)
      have gr := bGrt_rg hc2 i (by omega)
      have ci := hc2 i (by omega) (by omega)
      have nx := ih (i + 1) v12 (by omega)
      have h1 : 0 ≤ ((i : Int) + 1) * c i := Int.mul_nonneg (by omega) ci.1
      have h2 : ((i : Int) + 1) * c i ≤ 40 * 999 := Int.mul_le_mul (by omega) (by omega) ci.1 (by decide)
      rw [show bAcc 4 c (i + 1) = bAcc 4 c i + c i from rfl] at nx b4
      rw [show bAcc 1 c (i + 1) = bAcc 1 c i + c i / 10 from rfl] at nx b1
      rw [show bAcc 0 c (i + 1) = bAcc 0 c i + ((i : Int) + 1) * c i from rfl] at nx b0
      rw [show ((i + 1 : Nat) : Int) = (i : Int) + 1 by omega, show bGrt c (i + 1) = max (bGrt c i) (c i) from rfl] at nx
      refine sq259_16 (bWp_mono _) hA ⟨by omega, by omega⟩ ⟨by omega, by omega⟩ ⟨by omega, by omega⟩ hho ⟨by omega, by omega⟩ ⟨by omega, by omega⟩ ⟨by omega, by omega⟩ ⟨by omega, by omega⟩ ⟨by omega, by omega⟩ ⟨fun _ => ?_, fun w => absurd (show (i : Int) < m by omega) w⟩
      rw [(ms M0).2.2.2.2, (hc i (by omega) (by omega)).1]
      generalize ((i : Int) + 1) * c i = y at *
      refine ⟨⟨by omega, by omega⟩, ⟨by omega, by omega⟩, ci.1, ⟨by omega, by omega⟩, ⟨by omega, by omega⟩, ⟨by omega, by omega⟩, ⟨by omega, by omega⟩, fun w => ?_, fun w => ?_⟩
      · rw [show max (bGrt c i) (c i) = c i by omega] at nx
        exact nx
      · rw [show max (bGrt c i) (c i) = bGrt c i by omega] at nx
        exact nx
  exact L1 m 0 (.float 0) (by omega)
end

section
variable {d : Nat} {σ s t r : bSt} {f : Int → bSt → Prop} {fv : bSt → Prop} {Z Y : bZs} {a b g i j k x v w : Int} {n c : Nat} {rk : Int → Nat} {S : List Nat} {F : List Int}
theorem bzR0_un (R : bzR0 σ n Z s) (U : bUn S F s t) (hS : ∀ b ∈ bReK ++ bRkK ++ bRyK ++ bPuK, b ∉ S) (hF : ∀ k ∈ [17, 22, 49, 68, 73, 87, 88, 95, 105, 106], k ∉ F) : bzR0 σ n Z t := by
  obtain ⟨E, Rk, Ry, Rc⟩ := R
  have st : ∀ b ∈ bReK ++ bRkK ++ bRyK ++ bPuK, ∀ j, bi t b j = bi s b j := fun b hb j => by
    have hl : b < 256 ∧ b ≠ 12 := by
      unfold bReK bRkK bRyK bPuK at hb
      simp only [List.mem_append, List.mem_cons, List.not_mem_nil, or_false] at hb
      omega
    exact U.1 b (by rw [Nat.mod_eq_of_lt hl.1]; exact hS b hb) (by rw [Nat.mod_eq_of_lt hl.1]; exact hl.2) j
  refine ⟨bzRe_u E U (fun k hk => hS k (List.mem_append_left _ (List.mem_append_left _ (List.mem_append_left _ hk)))) (fun k hk => hF k (by simp only [List.mem_cons, List.not_mem_nil, or_false] at hk ⊢; omega)), bzRk_u Rk (fun b hb => st b (List.mem_append_left _ (List.mem_append_left _ (List.mem_append_right _ hb)))) rfl, ⟨fun b hb j j0 => ?_, ?_, ?_, ?_⟩, bzRc_u Rc (fun b hb => st b (List.mem_append_right _ hb)) (U.2.1 73 (by decide) (hF 73 (by decide))) rfl rfl⟩
  · rw [st b (List.mem_append_left _ (List.mem_append_right _ (by unfold bRyK; exact hb)))]
    exact Ry.1 b hb j j0
  · rw [U.2.1 105 (by decide) (hF 105 (by decide))]; exact Ry.2.1
  · rw [U.2.1 106 (by decide) (hF 106 (by decide))]; exact Ry.2.2.1
  · rw [U.2.1 95 (by decide) (hF 95 (by decide))]; exact Ry.2.2.2
/-- what an action's run will give, in the reference -/
def bzWr (σ : bSt) (Z : bZs) (a : Int) (s : bSt) : Prop := (bi s 130 a = (if bzV σ Z a = -1 then -5 else bzV σ Z a) ∧ bi s 131 a = (bzF σ Z a).length ∧ bHl s 132 (48 * a) (bzF σ Z a)) ∧ bi s 133 a = bzX σ Z a
/-- what others' runs will give is as it was -/
def bzWo (a : Int) (s t : bSt) : Prop := (∀ b, 0 ≤ b → b ≠ a → bi t 130 b = bi s 130 b ∧ bi t 131 b = bi s 131 b ∧ bi t 133 b = bi s 133 b) ∧ ∀ j, 0 ≤ j → ¬ (48 * a ≤ j ∧ j < 48 * a + 48) → bi t 132 j = bi s 132 j
theorem bzWo_refl : bzWo a s s := ⟨fun _ _ _ => ⟨rfl, rfl, rfl⟩, fun _ _ _ => rfl⟩
theorem bzWo_trans (h : bzWo a s t) (k : bzWo a t r) : bzWo a s r := ⟨fun b b0 bn => ⟨(k.1 b b0 bn).1.trans (h.1 b b0 bn).1, (k.1 b b0 bn).2.1.trans (h.1 b b0 bn).2.1, (k.1 b b0 bn).2.2.trans (h.1 b b0 bn).2.2⟩, fun j j0 jn => (k.2 j j0 jn).trans (h.2 j j0 jn)⟩
theorem bzWo_u (e : ∀ b ∈ [130, 131, 132, 133], ∀ j, bi t b j = bi s b j) : bzWo a s t := ⟨fun b _ _ => ⟨e 130 (by decide) b, e 131 (by decide) b, e 133 (by decide) b⟩, fun j _ _ => e 132 (by decide) j⟩
/-- the run is laid out: what comes of it -/
theorem r296 (h : bzO σ n Z) (hr : bzRn0 rk n Z) (R : bzR0 σ n Z s) (a0 : 0 ≤ a) (a1 : a < (n : Int)) (w : Z.1 140 a ≠ 0) (pot : 0 ≤ Z.1 139 9 ∧ 0 ≤ Z.1 139 10 ∧ Z.1 139 9 + Z.1 139 10 + bzPh Z n ≤ 20000) (now : 0 ≤ Z.1 305 0 ∧ Z.1 305 0 ≤ 1000000) (k : ∀ t, bzR0 σ n (bzRun σ Z a) t → bzRf s t → bzWr σ Z a t → bzWo a s t → bi t 12 73 = bi s 12 73 → fv t) : bWp (d + 7) 296 [.ref 12, .int (bn a)] s (bRv fv) := by
  have n120 := h.2.1.1
  obtain ⟨o1, o2, o3⟩ := h.2.1.2 a a0 a1
  obtain ⟨_, _, fi, kd, du, _⟩ := h.2.2.1 a a0 a1 w
  have E1 := R.1.2.2.2 a a0 a1
  have lat := h.1.2.2
  refine ⟨rfl, fun A hA => sq296_0 (bWp_mono _) hA ⟨by omega, by omega⟩ ⟨⟨a0, by omega⟩, ?_⟩⟩
  rw [E1.1 105 (by decide)]
  have ok := bzF_ok (Z := Z) (a := a) h.1.1
  have lF := bFok_len ok
  have vg := bzV_rg h a0 a1 w
  have x01 := bzX_01 (σ := σ) (Z := Z) (a := a)
  -- behind what is found
  have L2 : ∀ (m q : Nat) (t : bSt) (v2 v4 v5 : Value), bUnl v2 = v2 → q + m = (bzF σ Z a).length → bzR0 σ n Z t → bzRf s t → bzWo a s t → bi t 12 73 = bi s 12 73 → bi t 130 a = (if bzV σ Z a = -1 then -5 else bzV σ Z a) → bi t 131 a = (bzF σ Z a).length → bi t 133 a = bzX σ Z a → bi t 12 70 = (bzF σ Z a).length → (∀ i : Nat, i < (bzF σ Z a).length → bi t 120 i = (bzF σ Z a).getD i 0) → (∀ i : Nat, i < q → bi t 132 (48 * a + i) = (bzF σ Z a).getD i 0) → A (67, [.ref 12, .int (bn a), v2, .int (bn q), v4, v5], [], t) := by
    intro m
    induction m with
    | zero =>
      intro q t v2 v4 v5 hu2 hq Rt Ft Wt c73 w130 w131 w133 f70 f120 w132
      have Et := Rt.1.2.2.2 a a0 a1
      have e107 : bi t 107 a = Z.1 107 a := Et.1 107 (by decide)
      have e90 : bi t 90 (Z.1 107 a) = bzDu σ Z a := Rt.1.1.2.1 90 (by decide) _
      have e91 : bi t 91 (Z.1 107 a) = bi σ 91 (Z.1 107 a) := Rt.1.1.2.1 91 (by decide) _
      have e87 := Rt.1.1.2.2.2.1
      have e88 := Rt.1.1.2.2.2.2
      have e103 : bi t 103 a = Z.1 103 a := Et.1 103 (by decide)
      have e105 : bi t 12 105 = Z.1 305 0 := Rt.2.2.1.2.1
      have WR : bzWr σ Z a t := ⟨⟨w130, w131, fun i hi => w132 i (by omega)⟩, w133⟩
      have pr := bzPk_rg h a0 a1 w
      refine sq296_67 (bWp_mono _) hA ⟨by omega, by omega⟩ ⟨by omega, by omega⟩ ⟨fun z => absurd z (by rw [f70]; omega), fun _ => ⟨⟨a0, by omega⟩, by rw [e107]; exact fi, r279 (d := d + 5) h Rt.1 Rt.2.2.1 a0 a1 w ?_⟩⟩
      rw [e107, e90, e91, e87, e105, e88, e103]
      have kk := k
      unfold bzRun bzR1 at kk
      refine ⟨fun z => ⟨fi, fun c1 => ?_, fun c1 => ⟨fun c2 => ?_, fun c2 => ⟨⟨by omega, by omega⟩, ⟨by omega, by omega⟩, ?_⟩⟩⟩, fun z => ?_⟩
      · rw [if_neg (fun y => y.1 c1), if_pos z] at kk
        exact kk t Rt Ft WR Wt c73
      · rw [if_neg (fun y => y.2 c2), if_pos z] at kk
        exact kk t Rt Ft WR Wt c73
      · rw [if_pos ⟨c1, c2⟩, if_pos z] at kk
        refine kk _ (bzR0_w Rt (by decide) a0 ⟨by omega, by omega⟩) (bzRf_trans Ft (bzRf_w (by decide))) ?_ (bzWo_trans Wt (bzWo_u fun b hb j => bi_ne (by simp only [List.mem_cons, List.not_mem_nil, or_false] at hb; omega))) (by rw [bi_ne (by decide)]; exact c73)
        exact ⟨⟨by rw [bi_ne (by decide)]; exact w130, by rw [bi_ne (by decide)]; exact w131, fun i hi => by rw [bi_ne (by decide)]; exact w132 i (by omega)⟩, by rw [bi_ne (by decide)]; exact w133⟩
      · have pr2 := pr.resolve_left z
        rw [if_neg z] at kk
        -- with the worker
        have go : ∀ t0 : Int, t0 = bzTm σ Z a (bzPk σ Z a) → A (116, [.ref 12, .int (bn a), (bUnl v2), .int (bn (bzDu σ Z a)), .int (bn (bzPk σ Z a)), v5], [.int (bn t0)], t) := fun t0 ht => by
          have tr : 0 ≤ t0 ∧ t0 ≤ 20 := by
            rw [ht]
            unfold bzTm
            split <;> omega
          have R2 : bzR0 σ n (bzTk Z a (bzPk σ Z a)) (bw (bw t 148 a (bzPk σ Z a)) 138 (bzPk σ Z a) 1) := bzR0_w (bzR0_w Rt (by decide) a0 ⟨by omega, by omega⟩) (by decide) pr2.1 (by decide)
          have zT : zU [138, 148] Z (bzTk Z a (bzPk σ Z a)) := zU_trans (zU_w (by decide)) (zU_w (by decide))
          have hT := (bzEnv h zT (by decide)).1
          have e9 : ∀ w, (bzTk Z a (bzPk σ Z a)).1 139 w = Z.1 139 w := zT 139 (by decide)
          have ph : bzPh (bzTk Z a (bzPk σ Z a)) n = bzPh Z n := bCn_x n fun k k0 k1 => by rw [zT 134 (by decide), zT 112 (by decide)]
          refine sq296_116 (bWp_mono _) hA ⟨by omega, by omega⟩ ⟨by omega, by omega⟩ ⟨by omega, by omega⟩ ⟨by omega, by omega⟩ ⟨⟨a0, by omega⟩, ⟨pr2.1, pr2.2.1⟩, by rw [e105]; exact ⟨by omega, by omega⟩, ?_⟩
          have hrT : bzRn0 rk n (bzTk Z a (bzPk σ Z a)) := fun a a0 a1 => by simp only [zT 105 (by decide), zT 106 (by decide)]; exact hr a a0 a1
          have wT : (bzTk Z a (bzPk σ Z a)).1 140 a ≠ 0 := by rw [zT 140 (by decide)]; exact w
          refine r297 (d := d + 4) (rk := rk) hT hrT R2 a0 a1 wT (by rw [e9, e9, ph]; exact pot) fun t2 R3 F3 u3 => ?_
          have bq := (bzB_e (rk := rk) 17 (bzTk Z a (bzPk σ Z a)) a ⟨hT.2.1, hT.2.2.1⟩ hrT a0 a1 wT).1
          obtain ⟨b1, b2, b3, b4, b5, b6, b7⟩ := bq
          have bn7 := b7 n (by omega)
          have phq := bzPh_b (Z := (bzB σ 17 (bzTk Z a (bzPk σ Z a)) a).1) (m := n)
          have ph0 := bzPh_b (Z := bzTk Z a (bzPk σ Z a)) (m := n)
          have E3 := R3.1.2.2.2 a a0 a1
          have g107 : bi t2 107 a = Z.1 107 a := by rw [E3.1 107 (by decide), b1 107 (by decide)]; exact zT 107 (by decide) a
          have g91 : bi t2 91 (Z.1 107 a) = bi σ 91 (Z.1 107 a) := R3.1.1.2.1 91 (by decide) _
          have g87 := R3.1.1.2.2.2.1
          have g88 := R3.1.1.2.2.2.2
          have g105 : bi t2 12 105 = Z.1 305 0 := by rw [R3.2.2.1.2.1, b1 305 (by decide)]; exact zT 305 (by decide) 0
          have u4 : ∀ b ∈ [130, 131, 132, 133], ∀ j, bi t2 b j = bi t b j := fun b hb j => by
            have hb2 := hb
            simp only [List.mem_cons, List.not_mem_nil, or_false] at hb2
            rw [u3 b (by simp only [List.mem_cons, List.not_mem_nil, or_false]; omega), bi_ne (by omega), bi_ne (by omega)]
          have c4 : bi t2 12 73 = bi s 12 73 := by rw [u3 12 (by decide), bi_ne (by decide), bi_ne (by decide)]; exact c73
          have F4 : bzRf s t2 := bzRf_trans (bzRf_trans (bzRf_trans Ft (bzRf_w (by decide))) (bzRf_w (by decide))) F3
          rw [e105, g107, g91, g87, g88, g105]
          have uRh : bzRh σ Z a (bzPk σ Z a) = zw (bzB σ 17 (bzTk Z a (bzPk σ Z a)) a).1 145 a (Z.1 305 0 + bzTm σ Z a (bzPk σ Z a) + (bzB σ 17 (bzTk Z a (bzPk σ Z a)) a).2) := rfl
          rw [uRh, ← ht] at kk
          generalize bzB σ 17 (bzTk Z a (bzPk σ Z a)) a = q at *
          have r145 : bRg (Z.1 305 0 + t0 + q.2) := ⟨by omega, by omega⟩
          have R5 := bzR0_w R3 (c := 145) (by decide) a0 r145
          have same : ∀ (b : Nat) (t' : bSt), b = 145 ∨ b = 146 → bzWr σ Z a t' → ∀ v, bzWr σ Z a (bw t' b a v) := fun b t' hb W v => ⟨⟨by rw [bi_ne (by omega)]; exact W.1.1, by rw [bi_ne (by omega)]; exact W.1.2.1, fun i hi => by rw [bi_ne (by omega)]; exact W.1.2.2 i hi⟩, by rw [bi_ne (by omega)]; exact W.2⟩
          have WR2 : bzWr σ Z a t2 := ⟨⟨by rw [u4 130 (by decide)]; exact w130, by rw [u4 131 (by decide)]; exact w131, fun i hi => by rw [u4 132 (by decide)]; exact w132 i (by omega)⟩, by rw [u4 133 (by decide)]; exact w133⟩
          have WO2 : bzWo a s t2 := bzWo_trans Wt (bzWo_u u4)
          have wo : ∀ (b : Nat) (t' : bSt) (v : Int), b = 145 ∨ b = 146 → bzWo a t' (bw t' b a v) := fun b t' v hb => bzWo_u fun c hc j => bi_ne (by simp only [List.mem_cons, List.not_mem_nil, or_false] at hc; omega)
          refine ⟨r145, fi, fun c1 => ?_, fun c1 => ⟨fun c2 => ?_, fun c2 => ⟨⟨by omega, by omega⟩, ⟨by omega, by omega⟩, ?_⟩⟩⟩
          · rw [if_neg (fun y => y.1 c1)] at kk
            exact kk _ R5 (bzRf_trans F4 (bzRf_w (by decide))) (same 145 _ (Or.inl rfl) WR2 _) (bzWo_trans WO2 (wo 145 _ _ (Or.inl rfl))) (by rw [bi_ne (by decide)]; exact c4)
          · rw [if_neg (fun y => y.2 c2)] at kk
            exact kk _ R5 (bzRf_trans F4 (bzRf_w (by decide))) (same 145 _ (Or.inl rfl) WR2 _) (bzWo_trans WO2 (wo 145 _ _ (Or.inl rfl))) (by rw [bi_ne (by decide)]; exact c4)
          · rw [if_pos ⟨c1, c2⟩] at kk
            exact kk _ (bzR0_w R5 (c := 146) (by decide) a0 ⟨by omega, by omega⟩) (bzRf_trans (bzRf_trans F4 (bzRf_w (by decide))) (bzRf_w (by decide))) (same 146 _ (Or.inr rfl) (same 145 _ (Or.inl rfl) WR2 _) _) (bzWo_trans (bzWo_trans WO2 (wo 145 _ _ (Or.inl rfl))) (wo 146 _ _ (Or.inr rfl))) (by rw [bi_ne (by decide), bi_ne (by decide)]; exact c4)
        have e137 : bi t 137 (bzPk σ Z a) = Z.1 137 (bzPk σ Z a) := Rt.2.2.1.1 137 (by decide) _ pr2.1
        rw [e137]
        refine ⟨⟨pr2.1, pr2.2.1⟩, fun y => ⟨⟨by omega, by omega⟩, by omega, go _ ?_⟩, fun y => go _ ?_⟩
        · unfold bzTm; rw [if_pos y]
        · unfold bzTm; rw [if_neg y]
    | succ m ih =>
      intro q t v2 v4 v5 hu2 hq Rt Ft Wt c73 w130 w131 w133 f70 f120 w132
      refine sq296_67 (bWp_mono _) hA ⟨by omega, by omega⟩ ⟨by omega, by omega⟩ ⟨fun _ => ⟨⟨by omega, by omega⟩, ⟨by omega, by omega⟩, ⟨by omega, by omega⟩, ⟨by omega, by omega⟩, ⟨by omega, by omega⟩, ?_⟩, fun z => absurd (show (q : Int) < bi t 12 70 by rw [f70]; omega) z⟩
      rw [hu2]
      have := ih (q + 1) (bw t 132 (48 * a + q) (bi t 120 q)) v2 v4 v5 hu2 (by omega) (bzR0_n Rt (by decide)) (bzRf_trans Ft (bzRf_w (by decide))) (bzWo_trans Wt ⟨fun b _ _ => ⟨bi_ne (by decide), bi_ne (by decide), bi_ne (by decide)⟩, fun j j0 jn => bi_nj (by omega) j0 (by omega)⟩) (by rw [bi_ne (by decide)]; exact c73) (by rw [bi_ne (by decide)]; exact w130) (by rw [bi_ne (by decide)]; exact w131) (by rw [bi_ne (by decide)]; exact w133) (by rw [bi_ne (by decide)]; exact f70) (fun i hi => by rw [bi_ne (by decide)]; exact f120 i hi) (fun i hi => by
        rw [bi_bw (by omega) (by omega) (bi_rg _ _ _)]
        by_cases e : i = q
        · rw [if_pos ⟨rfl, by omega⟩, e]; exact f120 q (by omega)
        · rw [if_neg (fun y => e (by omega))]; exact w132 i (by omega))
      rw [show ((q + 1 : Nat) : Int) = (q : Int) + 1 by omega] at this
      exact this
  -- the contents are laid out
  have L1 : ∀ (m q : Nat) (t : bSt) (v4 v5 : Value), (q : Int) + m = Z.1 105 a → bzR0 σ n Z t → bzRf s t → bzWo a s t → bi t 12 73 = bi s 12 73 → (∀ i : Nat, i < q → bi t 119 i = bzC σ Z a i) → A (7, [.ref 12, .int (bn a), .int (bn (Z.1 105 a)), .int (bn q), v4, v5], [], t) := by
    intro m
    induction m with
    | zero =>
      intro q t v4 v5 hq Rt Ft Wt c73 f119
      have Et := Rt.1.2.2.2 a a0 a1
      refine sq296_7 (bWp_mono _) hA ⟨by omega, by omega⟩ ⟨by omega, by omega⟩ ⟨by omega, by omega⟩ ⟨fun z => absurd z (by omega), fun _ => ?_⟩
      rw [Et.1 101 (by decide), Et.1 102 (by decide), Et.1 103 (by decide), Et.1 104 (by decide)]
      refine ⟨⟨a0, by omega⟩, ⟨by omega, by omega⟩, r261 (d := d + 5) h Rt.1 a0 a1 ?_⟩
      have em : Z.1 105 a = (((Z.1 105 a).toNat : Nat) : Int) := by omega
      have goal : bWp (d + 6) 259 [.ref 12, .int (bn (Z.1 101 a)), .int (bn (Z.1 102 a + Z.1 103 a)), .int (bn (((Z.1 105 a).toNat : Nat) : Int)), .int (bn (Z.1 104 a)), .long (bMk (bzPs Z a (Z.1 105 a).toNat) 48)] t (bRn (fun r11 s9 => (((bi s9 12 72) = 0 ∨ (bi s9 12 72) = 1) ∧ A (67, [.ref 12, .int (bn a), .int (bn (Z.1 105 a)), .int (bn 0), v4, v5], [], (bw (bw (bw s9 130 a r11) 131 a (bi s9 12 70)) 133 a (bi s9 12 72)))))) := by
        refine r259 (d := d) (c := bzC σ Z a) (m := (Z.1 105 a).toNat) Rt.1.2.1 (fun o5 => bzPho h Rt.1.1.1 a0 a1 w o5) ⟨by omega, by omega⟩ o2.1.1 o2.1.2 (by omega) (by omega) (fun i i0 i1 => ⟨?_, bzC_rg h a0 a1 w i0 (by omega)⟩) fun t2 M H => ?_
        · have := f119 i.toNat (by omega)
          rw [show ((i.toNat : Nat) : Int) = i by omega] at this
          exact this
        · have ag := Rt.1.1.1
          have e68 := Rt.1.1.2.2.1
          have eV : bGiv t (Z.1 101 a) (Z.1 102 a + Z.1 103 a) (Z.1 104 a) (bzC σ Z a) (Z.1 105 a).toNat = bzV σ Z a := bGiv_m ag e68
          have eF : bFnn t (Z.1 101 a) (Z.1 104 a) (bzC σ Z a) (Z.1 105 a).toNat = bzF σ Z a := by
            unfold bzF bFnn
            rw [bLka_m ag e68]
          have eX : bEls t (Z.1 104 a) (bzF σ Z a) = bzX σ Z a := by
            unfold bzX bEls
            simp only [bOwn_p ag]
          rw [eF] at H
          rw [eV]
          obtain ⟨H1, H2, H3⟩ := H
          rw [eX] at H3
          have U2 := M.2
          have R2 : bzR0 σ n Z t2 := bzR0_un Rt U2 (by decide) (by decide)
          have F2 : bzRf s t2 := bzRf_trans Ft (bzRf_of M.1 U2 (by decide) (by decide) (by decide))
          have u2 : ∀ b ∈ [130, 131, 132, 133], ∀ j, bi t2 b j = bi t b j := fun b hb j => U2.1 b (by simp only [List.mem_cons, List.not_mem_nil, or_false] at hb ⊢; omega) (by simp only [List.mem_cons, List.not_mem_nil, or_false] at hb; omega) j
          have c2 : bi t2 12 73 = bi s 12 73 := (U2.2.1 73 (by decide) (by decide)).trans c73
          rw [H3, H1]
          have rv : bRg (if bzV σ Z a = -1 then -5 else bzV σ Z a) := by split <;> exact ⟨by omega, by omega⟩
          generalize hvv : (if bzV σ Z a = -1 then -5 else bzV σ Z a) = vv at *
          refine ⟨x01, L2 (bzF σ Z a).length 0 _ _ _ _ rfl (by omega) (bzR0_n (bzR0_n (bzR0_n R2 (by decide)) (by decide)) (by decide)) (bzRf_trans (bzRf_trans (bzRf_trans F2 (bzRf_w (by decide))) (bzRf_w (by decide))) (bzRf_w (by decide))) ?_ ?_ ?_ ?_ ?_ ?_ (fun i hi => ?_) (fun i hi => absurd hi (Nat.not_lt_zero _))⟩
          · refine bzWo_trans (bzWo_trans Wt (bzWo_u u2)) ⟨fun b b0 bn => ⟨?_, ?_, ?_⟩, fun j _ _ => ?_⟩
            · rw [bi_ne (by decide), bi_ne (by decide), bi_nj a0 b0 bn]
            · rw [bi_ne (by decide), bi_nj a0 b0 bn, bi_ne (by decide)]
            · rw [bi_nj a0 b0 bn, bi_ne (by decide), bi_ne (by decide)]
            · rw [bi_ne (by decide), bi_ne (by decide), bi_ne (by decide)]
          · rw [bi_ne (by decide), bi_ne (by decide), bi_ne (by decide)]; exact c2
          · rw [bi_ne (by decide), bi_ne (by decide), bi_eq rv]
          · rw [bi_ne (by decide), bi_eq ⟨by omega, by omega⟩]
          · rw [bi_eq (by rcases x01 with y | y <;> rw [y] <;> decide)]
          · rw [bi_ne (by decide), bi_ne (by decide), bi_ne (by decide)]; exact H1
          · rw [bi_ne (by decide), bi_ne (by decide), bi_ne (by decide)]; exact H2 i hi
      rw [← em] at goal
      exact goal
    | succ m ih =>
      intro q t v4 v5 hq Rt Ft Wt c73 f119
      have Et := Rt.1.2.2.2 a a0 a1
      have cr := bzC_rg h a0 a1 w (i := q) (by omega) (by omega)
      refine sq296_7 (bWp_mono _) hA ⟨by omega, by omega⟩ ⟨by omega, by omega⟩ ⟨by omega, by omega⟩ ⟨fun _ => ⟨⟨by omega, by omega⟩, ⟨by omega, by omega⟩, ⟨by omega, by omega⟩, ?_⟩, fun z => absurd (show (q : Int) < Z.1 105 a by omega) z⟩
      rw [Et.2 q (by omega) (by omega)]
      refine r262 (d := d + 5) h Rt.1 a0 a1 (by omega) (by omega) ⟨⟨by omega, by omega⟩, ⟨by omega, by omega⟩, ?_⟩
      have := ih (q + 1) (bw t 119 q (bzC σ Z a q)) v4 v5 (by omega) (bzR0_n Rt (by decide)) (bzRf_trans Ft (bzRf_w (by decide))) (bzWo_trans Wt (bzWo_u fun b hb j => bi_ne (by simp only [List.mem_cons, List.not_mem_nil, or_false] at hb; omega))) (by rw [bi_ne (by decide)]; exact c73) (fun i hi => by
        rw [bi_bw (by omega) (by omega) ⟨by omega, by omega⟩]
        by_cases e : i = q
        · rw [if_pos ⟨rfl, by omega⟩, e]
        · rw [if_neg (fun y => e (by omega))]; exact f119 i (by omega))
      rw [show ((q + 1 : Nat) : Int) = (q : Int) + 1 by omega] at this
      exact this
  exact L1 (Z.1 105 a).toNat 0 s _ _ (by omega) R bzRf_refl bzWo_refl rfl (fun i hi => absurd hi (Nat.not_lt_zero _))
end

/-! WHAT AN ACTION GIVES, 3: the class's entry as a whole; contents now -/
/-- what is found by the operation -/
def bFnn (σ : bSt) (op ho : Int) (c : Int → Int) (m : Nat) : List Int := if op = 5 then (bLka σ ho c m).1 else []
section
variable {d : Nat} {σ s t : bSt} {f : Int → bSt → Prop} {fv : bSt → Prop} {ho p a op v x n : Int} {F : List Int} {c : Int → Int} {m e : Nat}
theorem bLka_m (h : bPag σ s) (e68 : bi s 12 68 = bi σ 12 68) : ∀ i : Nat, bLka s ho c i = bLka σ ho c i := by
  have e1 : ∀ p, bSn s ho p = bSn σ ho p := fun p => by unfold bSn; rw [e68, bOwn_p h, h.1 56 (by decide)]
  have e2 : ∀ (n : Nat) (a : Int) (F : List Int), bFol s ho n a F = bFol σ ho n a F := by
    intro n
    induction n with
    | zero => intro a F; rfl
    | succ n ih => intro a F; unfold bFol; rw [e1, ih]
  intro i
  induction i with
  | zero => rfl
  | succ i ih =>
    show ((bFol s ho 48 (c i) (bLka s ho c i).1).1, (bLka s ho c i).2 + (bFol s ho 48 (c i) (bLka s ho c i).1).2) = ((bFol σ ho 48 (c i) (bLka σ ho c i).1).1, (bLka σ ho c i).2 + (bFol σ ho 48 (c i) (bLka σ ho c i).1).2)
    rw [ih, e2]
theorem bGiv_m (h : bPag σ s) (e68 : bi s 12 68 = bi σ 12 68) : bGiv s op n ho c m = bGiv σ op n ho c m := by
  unfold bGiv
  rw [bLka_m h e68]
theorem bGiv_rg (hF : bFi σ) (n0 : 0 ≤ n) (hc : ∀ i, 0 ≤ i → i < (m : Int) → 0 ≤ c i ∧ c i < 1000) (hm : m ≤ 40) : -1 ≤ bGiv σ op n ho c m ∧ bGiv σ op n ho c m < 1000 := by
  have a := bAcc_rg (op := op) hc hm m (Nat.le_refl _)
  have g := bGrt_rg hc m (Nat.le_refl _)
  have l := (bLka_ok (ho := ho) (c := c) hF m).2.1
  unfold bGiv
  split
  · split <;> omega
  split
  · omega
  split
  · omega
  split
  · omega
  · omega
theorem w40 (hF : bFi σ) (hsb : bi σ 3 3 = bi σ 12 68 ∧ (bi σ 12 68 = 0 ∨ bi σ 12 68 = 1)) (he : e % 256 = 4) (hho : bRg ho) (hop : bi σ e 0 = op) (hn : bi σ e 1 + bi σ e 2 = n) (n0 : 0 ≤ n ∧ n < 2000) (hm : bi σ e 3 = m) (m40 : m ≤ 40) (hc : ∀ i, 0 ≤ i → i < (m : Int) → bi σ (e + 18) i = c i ∧ 0 ≤ c i ∧ c i < 1000) (h : ∀ s, bPf1 e σ s → bHf σ s e ho (bFnn σ op ho c m) → bi s e 8 = bGiv σ op n ho c m → fv s) : bWp (d + 3) 40 [.ref e, .ref 3, .int (bn ho)] σ (bRv fv) := by
  have e22 : 256 * (1 * (e / 256) + 0) + 22 = e + 18 := by omega
  have ly : ∀ s : bSt, bLen s (e + 18) = 40 := fun s => bLen_of (k := 22) (by omega) (by decide) rfl
  have ty : bTy (e + 18) = 0 := bTy_of (k := 22) (by omega) rfl
  have hc2 : ∀ i, 0 ≤ i → i < (m : Int) → 0 ≤ c i ∧ c i < 1000 := fun i i0 i1 => (hc i i0 i1).2
  refine ⟨rfl, fun A hA => sq40_0 (bWp_mono _) hA he hho ?_⟩
  have M0 : bPf1 e σ (bw (bw σ e 5 0) e 7 0) := bPf1_trans (bPf1_w (Or.inl rfl)) (bPf1_w (Or.inr (Or.inl rfl)))
  have x5 : bi (bw (bw σ e 5 0) e 7 0) e 5 = 0 := by rw [bi_nj (by decide) (by decide) (by decide), bi_eq (by decide)]
  have x7 : bi (bw (bw σ e 5 0) e 7 0) e 7 = 0 := bi_eq (by decide)
  generalize bw (bw σ e 5 0) e 7 0 = s0 at *
  have f0 : ∀ j, 0 ≤ j → j ≠ 5 → j ≠ 7 → j ≠ 8 → bi s0 e j = bi σ e j := M0.2.1
  have g0 : ∀ b, b ≠ e → b ≠ e + 19 → ∀ j, bi s0 b j = bi σ b j := M0.1
  have F0 : bFi s0 := bFi_un (S := [4, 23]) (F := []) ⟨fun a q1 _ i => g0 a (fun w => q1 (by rw [w, he]; decide)) (fun w => q1 (by rw [w, show (e + 19) % 256 = 23 by omega]; decide)) i, fun i _ _ => g0 12 (by omega) (by omega) i, fun _ _ _ _ => by unfold bj; rw [M0.2.2], fun _ _ _ => by unfold br; rw [M0.2.2], fun _ _ => by rw [M0.2.2]⟩ (by decide) hF
  have ag : bPag σ s0 := ⟨fun a ha i => g0 a (by
    simp only [List.mem_cons, List.not_mem_nil, or_false] at ha
    omega) (by
    simp only [List.mem_cons, List.not_mem_nil, or_false] at ha
    omega) i, g0 12 (by omega) (by omega) 17, g0 12 (by omega) (by omega) 22, fun t => g0 (bTi t) (by have := bTi_m (t := t); omega) (by have := bTi_m (t := t); omega) 4⟩
  have e68 : bi s0 12 68 = bi σ 12 68 := g0 12 (by omega) (by omega) 68
  rw [f0 1 (by decide) (by decide) (by decide) (by decide), f0 2 (by decide) (by decide) (by decide) (by decide), hn]
  have o0 : bi s0 e 0 = op := (f0 0 (by decide) (by decide) (by decide) (by decide)).trans hop
  have m0 : bi s0 e 3 = m := (f0 3 (by decide) (by decide) (by decide) (by decide)).trans hm
  have c0 : ∀ i, 0 ≤ i → i < (m : Int) → bi s0 (e + 18) i = c i := fun i i0 i1 => (g0 (e + 18) (by omega) (by omega) i).trans (hc i i0 i1).1
  have n12 : bi s0 e 1 + bi s0 e 2 = n := by rw [f0 1 (by decide) (by decide) (by decide) (by decide), f0 2 (by decide) (by decide) (by decide) (by decide)]; exact hn
  -- the end, without finding
  have fin0 : op ≠ 5 → ∀ v, bRg v → v = bGiv σ op n ho c m → fv (bw s0 e 8 v) := fun o5 v rv hv => by
    refine h _ (bPf1_trans M0 (bPf1_w (Or.inr (Or.inr rfl)))) ?_ (by rw [bi_eq rv]; exact hv)
    unfold bFnn
    rw [if_neg o5]
    exact ⟨by rw [bi_nj (by decide) (by decide) (by decide)]; exact x5, fun i hi => absurd hi (Nat.not_lt_zero _), by rw [bi_nj (by decide) (by decide) (by decide)]; exact x7⟩
  have Lp : ∀ (k i : Nat) (v6 : Value), i + k = m → A (16, [.ref e, .ref 3, .int (bn ho), .int (bn (n + bAcc op c i)), .int (bn (bGrt c i)), .int (bn i), v6], [], s0) := by
    intro k
    induction k with
    | zero =>
      intro i v6 hi
      have ei : i = m := by omega
      subst ei
      have ac := bAcc_rg (op := op) hc2 m40 i (Nat.le_refl _)
      have gr := bGrt_rg hc2 i (Nat.le_refl _)
      refine sq40_16 (bWp_mono _) hA hho ⟨by omega, by omega⟩ ⟨by omega, by omega⟩ ⟨by omega, by omega⟩ ⟨he, fun w => absurd w (by rw [m0]; omega), fun _ => ?_⟩
      rw [o0, m0, n12]
      refine ⟨fun o4 => ⟨by omega, fun z => fin0 (by omega) _ (by decide) (by unfold bGiv; rw [if_pos o4, if_pos z]), fun z => ⟨⟨by omega, by omega⟩, by omega, fin0 (by omega) _ ⟨by omega, by omega⟩ (by unfold bGiv; rw [if_pos o4, if_neg z])⟩⟩, fun o4 => ⟨fun o5 => ?_, fun o5 => ⟨fun o2 => ⟨⟨by omega, by omega⟩, by omega, fin0 o5 _ ⟨by omega, by omega⟩ (by unfold bGiv; rw [if_neg o4, if_neg o5, if_pos o2])⟩, fun o2 => ⟨fun o3 => ⟨⟨by omega, by omega⟩, by omega, fin0 o5 _ ⟨by omega, by omega⟩ (by unfold bGiv; rw [if_neg o4, if_neg o5, if_neg o2, if_pos o3])⟩, fun o3 => ⟨⟨by omega, by omega⟩, by omega, fin0 o5 _ ⟨by omega, by omega⟩ (by unfold bGiv; rw [if_neg o4, if_neg o5, if_neg o2, if_neg o3, Int.add_zero])⟩⟩⟩⟩⟩
      have lk := bLka_ok (ho := ho) (c := c) hF i
      have lF := bFok_len lk.1
      refine w41 (c := c) F0 ⟨by rw [e68, g0 3 (by omega) (by omega)]; exact hsb.1, by rw [e68]; exact hsb.2⟩ he hho m0 m40 (fun j j0 j1 => ⟨c0 j j0 j1, (hc j j0 j1).2⟩) x5 x7 fun s M HF => ?_
      rw [bLka_m ag e68] at HF ⊢
      refine ⟨⟨by omega, by omega⟩, by omega, h _ (bPf1_trans M0 (bPf1_trans M (bPf1_w (Or.inr (Or.inr rfl))))) ?_ ?_⟩
      · unfold bFnn
        rw [if_pos o5]
        have eE : bEls s0 ho (bLka σ ho c i).1 = bEls σ ho (bLka σ ho c i).1 := by unfold bEls; simp only [bOwn_p ag]
        exact ⟨by rw [bi_nj (by decide) (by decide) (by decide)]; exact HF.1, fun j hj => by rw [bi_ne (by omega)]; exact HF.2.1 j hj, by rw [bi_nj (by decide) (by decide) (by decide), ← eE]; exact HF.2.2⟩
      · rw [bi_eq ⟨by omega, by omega⟩]
        unfold bGiv
        rw [if_neg o4, if_pos o5]
    | succ k ih =>
      intro i v6 hi
      have ac := bAcc_rg (op := op) hc2 m40 i (by omega)
      have ac1 := bAcc_rg (op := op) hc2 m40 (i + 1) (by omega)
      have gr := bGrt_rg hc2 i (by omega)
      have ci := hc2 i (by omega) (by omega)
      have nx := fun v6 => ih (i + 1) v6 (by omega)
      rw [show ((i + 1 : Nat) : Int) = (i : Int) + 1 by omega, show bGrt c (i + 1) = max (bGrt c i) (c i) from rfl] at nx
      have eA : bAcc op c (i + 1) = bAcc op c i + if op = 0 then ((i : Int) + 1) * c i else if op = 1 then c i / 10 else if op = 4 ∨ op = 5 then c i else 0 := rfl
      rw [eA, ← Int.add_assoc] at nx
      rw [eA] at ac1
      refine sq40_16 (bWp_mono _) hA hho ⟨by omega, by omega⟩ ⟨by omega, by omega⟩ ⟨by omega, by omega⟩ ⟨he, fun _ => ?_, fun w => absurd (by rw [m0]; omega) w⟩
      rw [e22, ty, ly, c0 i (by omega) (by omega)]
      refine ⟨by decide, by decide, fun _ => ⟨rfl, ⟨by omega, by omega⟩, ?_⟩, fun w => absurd (show (i : Int) < (40 : Nat) by omega) w⟩
      refine sq40_31 (bWp_mono _) hA hho ⟨by omega, by omega⟩ ⟨by omega, by omega⟩ ⟨by omega, by omega⟩ ⟨by omega, by omega⟩ (w359 ⟨by omega, by omega⟩ ⟨by omega, by omega⟩ ⟨he, ?_⟩)
      rw [o0]
      refine ⟨fun o => ?_, fun o => ⟨fun o1 => ?_, fun o1 => ⟨fun o4 => ?_, fun o4 => ⟨fun o5 => ?_, fun o5 => ?_⟩⟩⟩⟩
      · rw [if_pos o] at nx ac1
        have h1 : 0 ≤ ((i : Int) + 1) * c i := Int.mul_nonneg (by omega) ci.1
        have h2 : ((i : Int) + 1) * c i ≤ 40 * 999 := Int.mul_le_mul (by omega) (by omega) ci.1 (by decide)
        exact ⟨⟨by omega, by omega⟩, ⟨by omega, by omega⟩, ⟨by omega, by omega⟩, nx _⟩
      · rw [if_neg o, if_pos o1] at nx
        exact ⟨by omega, ⟨by omega, by omega⟩, ⟨by omega, by omega⟩, nx _⟩
      · rw [if_neg o, if_neg o1, if_pos (Or.inl o4)] at nx
        exact ⟨⟨by omega, by omega⟩, ⟨by omega, by omega⟩, nx _⟩
      · rw [if_neg o, if_neg o1, if_pos (Or.inr o5)] at nx
        exact ⟨⟨by omega, by omega⟩, ⟨by omega, by omega⟩, nx _⟩
      · rw [if_neg o, if_neg o1, if_neg (fun w => w.elim o4 o5), Int.add_zero] at nx
        exact ⟨⟨by omega, by omega⟩, nx _⟩
  have := Lp m 0 (.float 0) (by omega)
  rw [show bAcc op c 0 = 0 from rfl, show bGrt c 0 = 0 from rfl, Int.add_zero] at this
  exact ⟨⟨by omega, by omega⟩, this⟩
end

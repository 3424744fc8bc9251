/-! WHAT AN ACTION GIVES, 2: the class's entry is performed -/
/-- something found lies elsewhere -/
def bEls (σ : bSt) (ho : Int) (F : List Int) : Int := if F.any (fun w => decide (bOwn σ (w / 1001 / 8) ≠ ho)) then 1 else 0
/-- the entry holds what is found -/
def bHf (σ s : bSt) (e : Nat) (ho : Int) (F : List Int) : Prop := bi s e 5 = F.length ∧ (∀ i : Nat, i < F.length → bi s (e + 19) i = bFnd (F.getD i 0)) ∧ bi s e 7 = bEls σ ho F
/-- nothing has changed but what an entry finds and gives -/
def bPf1 (e : Nat) (σ s : bSt) : Prop := (∀ b, b ≠ e → b ≠ e + 19 → ∀ j, bi s b j = bi σ b j) ∧ (∀ j, 0 ≤ j → j ≠ 5 → j ≠ 7 → j ≠ 8 → bi s e j = bi σ e j) ∧ s.2 = σ.2
section
variable {d : Nat} {σ s t : bSt} {f : Int → bSt → Prop} {fv : bSt → Prop} {ho p a op v x : Int} {F : List Int} {c : Int → Int} {m e : Nat}
theorem bPf1_refl : bPf1 e σ σ := ⟨fun _ _ _ _ => rfl, fun _ _ _ _ _ => rfl, rfl⟩
theorem bPf1_trans (h : bPf1 e σ s) (k : bPf1 e s t) : bPf1 e σ t := ⟨fun b q1 q2 j => (k.1 b q1 q2 j).trans (h.1 b q1 q2 j), fun j q0 q1 q2 q3 => (k.2.1 j q0 q1 q2 q3).trans (h.2.1 j q0 q1 q2 q3), k.2.2.trans h.2.2⟩
theorem bPf1_w {i : Int} (hi : i = 5 ∨ i = 7 ∨ i = 8) : bPf1 e σ (bw σ e i v) := ⟨fun b q1 _ j => bi_ne q1, fun j j0 q1 q2 q3 => bi_nj (by omega) j0 (by omega), rfl⟩
theorem bPf1_a {i : Int} : bPf1 e σ (bw σ (e + 19) i v) := ⟨fun b _ q2 j => bi_ne q2, fun j _ _ _ _ => bi_ne (by omega), rfl⟩
theorem bFnd_w (hF : bFi σ) (p0 : 0 ≤ p) (p1 : p < 48) : bFnd (1001 * p + bSn σ ho p + 1) = if bSn σ ho p = -1 then -2 - p else p * 1000 + bSn σ ho p := by
  have r := bSn_rg (ho := ho) hF p0 p1
  unfold bFnd
  by_cases w : bSn σ ho p = -1
  · rw [if_pos w, w, if_pos (by omega)]; omega
  · rw [if_neg w, if_neg (by omega)]; omega
theorem bEls_app (hF : bFi σ) (p0 : 0 ≤ p) (p1 : p < 48) : bEls σ ho (F ++ [1001 * p + bSn σ ho p + 1]) = if bOwn σ (p / 8) = ho then bEls σ ho F else 1 := by
  have r := bSn_rg (ho := ho) hF p0 p1
  have e : (1001 * p + bSn σ ho p + 1) / 1001 = p := by omega
  unfold bEls
  rw [List.any_append, List.any_cons, List.any_nil, Bool.or_false, e]
  by_cases w : bOwn σ (p / 8) = ho
  · rw [if_pos w, decide_eq_false (fun z => z w), Bool.or_false]
  · rw [if_neg w, decide_eq_true w, Bool.or_true, if_pos rfl]
theorem w42 (he : e % 256 = 4) (hv : bRg v) {n : Nat} (h5 : bi s e 5 = n) (hn : n < 48) (h : fv (bw (bw s (e + 19) n v) e 5 ((n : Int) + 1))) : bWp (d + 1) 42 [.ref e, .int (bn v)] s (bRv fv) := by
  have e23 : 256 * (1 * (e / 256) + 0) + 23 = e + 19 := by omega
  have l : bLen s (e + 19) = 48 := bLen_of (k := 23) (by omega) (by decide) rfl
  have ty : bTy (e + 19) = 0 := bTy_of (k := 23) (by omega) rfl
  have e5 : bi (bw s (e + 19) n v) e 5 = n := by rw [bi_ne (by omega)]; exact h5
  refine ⟨rfl, fun A hA => sq42_0 (bWp_mono _) hA he hv ?_⟩
  rw [e23, h5, l, ty, e5]
  exact ⟨fun w => absurd w (by omega), fun _ => ⟨by decide, by decide, fun _ => ⟨rfl, ⟨by omega, by omega⟩, by omega, ⟨by omega, by omega⟩, h⟩, fun w => absurd (show (n : Int) < (48 : Nat) by omega) w⟩⟩
/-- what is found is noted -/
theorem bHf_app (hF : bFi σ) (p0 : 0 ≤ p) (p1 : p < 48) {b : Int} (h : bi s e 5 = F.length ∧ (∀ i : Nat, i < F.length → bi s (e + 19) i = bFnd (F.getD i 0))) (h7 : bi s e 7 = if bOwn σ (p / 8) = ho then bEls σ ho F else 1) (hl : F.length < 48) (hb : b = bFnd (1001 * p + bSn σ ho p + 1)) (rb : bRg b) : bHf σ (bw (bw s (e + 19) F.length b) e 5 ((F.length : Int) + 1)) e ho (F ++ [1001 * p + bSn σ ho p + 1]) := by
  refine ⟨?_, fun i hi => ?_, ?_⟩
  · rw [bi_eq ⟨by omega, by omega⟩, List.length_append]; rfl
  · rw [bi_ne (by omega), bi_bw (by omega) (by omega) rb]
    rw [List.length_append] at hi
    have hi2 : i < F.length + 1 := hi
    by_cases w : i = F.length
    · rw [if_pos ⟨rfl, by omega⟩, hb, w, List.getD_eq_getElem?_getD, List.getElem?_append_right (Nat.le_refl _), Nat.sub_self]
      rfl
    · rw [if_neg (fun q => w (by omega)), List.getD_eq_getElem?_getD, List.getElem?_append_left (by omega), ← List.getD_eq_getElem?_getD]
      exact h.2 i (by omega)
  · rw [bi_nj (by decide) (by decide) (by decide), bi_ne (by omega), bEls_app hF p0 p1]
    exact h7
theorem bOr_b : ∀ x y : Fin 2, bOr (x.val : Int) (y.val : Int) = if x.val = 1 ∨ y.val = 1 then 1 else 0 := by decide
theorem w41 (hF : bFi σ) (hsb : bi σ 3 3 = bi σ 12 68 ∧ (bi σ 12 68 = 0 ∨ bi σ 12 68 = 1)) (he : e % 256 = 4) (hho : bRg ho) (hm : bi σ e 3 = m) (m40 : m ≤ 40) (hc : ∀ i, 0 ≤ i → i < (m : Int) → bi σ (e + 18) i = c i ∧ 0 ≤ c i ∧ c i < 1000) (h5 : bi σ e 5 = 0) (h7 : bi σ e 7 = 0) (h : ∀ s, bPf1 e σ s → bHf σ s e ho (bLka σ ho c m).1 → f (bLka σ ho c m).2 s) : bWp (d + 2) 41 [.ref e, .ref 3, .int (bn ho)] σ (bRn f) := by
  have e22 : 256 * (1 * (e / 256) + 0) + 22 = e + 18 := by omega
  have ly : ∀ s : bSt, bLen s (e + 18) = 40 := fun s => bLen_of (k := 22) (by omega) (by decide) rfl
  have ty : bTy (e + 18) = 0 := bTy_of (k := 22) (by omega) rfl
  have ms : ∀ {s}, bPf1 e σ s → bFi s ∧ bi s e 3 = m ∧ bi s 3 3 = bi σ 12 68 ∧ (∀ j, bi s (e + 18) j = bi σ (e + 18) j) ∧ (∀ j, bi s 21 j = bi σ 21 j) ∧ ∀ j, bi s 19 j = bi σ 19 j := fun {s} M => by
    have g := fun b (q1 : b ≠ e) (q2 : b ≠ e + 19) j => M.1 b q1 q2 j
    refine ⟨bFi_un (S := [4, 23]) (F := []) ⟨fun a q1 _ i => g a (fun w => q1 (by rw [w, he]; decide)) (fun w => q1 (by rw [w, show (e + 19) % 256 = 23 by omega]; decide)) i, fun i _ _ => g 12 (by omega) (by omega) i, fun _ _ _ _ => by unfold bj; rw [M.2.2], fun _ _ _ => by unfold br; rw [M.2.2], fun _ _ => by rw [M.2.2]⟩ (by decide) hF, (M.2.1 3 (by decide) (by decide) (by decide) (by decide)).trans hm, (g 3 (by omega) (by omega) 3).trans hsb.1, g (e + 18) (by omega) (by omega), g 21 (by omega) (by omega), g 19 (by omega) (by omega)⟩
  refine ⟨rfl, fun A hA => sq41_0 (bWp_mono _) hA he hho ?_⟩
  -- one content is followed
  have In : ∀ (n : Nat) (k pt : Int) (F : List Int) (sum i : Int) (s : bSt) (v9 v10 : Value), k + n = 48 → 0 ≤ k → bFok F → bPf1 e σ s → bHf σ s e ho F → -1 ≤ pt → pt < 1000 → 0 ≤ sum → sum ≤ 1000 * F.length → 0 ≤ i → i < (m : Int) →
      (∀ s' v7 v8 v9 v10, bPf1 e σ s' → bHf σ s' e ho (bFol σ ho n (max pt 0) F).1 → A (6, [.ref e, .ref 3, .int (bn ho), .int (bn (sum + (bFol σ ho n (max pt 0) F).2)), .long (bMk (bFin2 (bFol σ ho n (max pt 0) F).1) 48), .float 0, .int (bn (i + 1)), v7, v8, v9, v10], [], s')) →
      A (24, [.ref e, .ref 3, .int (bn ho), .int (bn sum), .long (bMk (bFin2 F) 48), .float 0, .int (bn i), .int (bn pt), .int (bn k), v9, v10], [], s) := by
    intro n
    induction n with
    | zero =>
      intro k pt F sum i s v9 v10 hk k0 ok M HF p0 p1 s0 s1 i0 i1 K
      have := K s (.int (bn pt)) (.int (bn k)) v9 v10 M HF
      unfold bFol at this
      rw [Int.add_zero] at this
      have lF := bFok_len ok
      exact sq41_24 (bWp_mono _) hA hho ⟨by omega, by omega⟩ ⟨by omega, by omega⟩ ⟨by omega, by omega⟩ ⟨by omega, by omega⟩ ⟨fun w => absurd w (by omega), fun _ => ⟨⟨by omega, by omega⟩, this⟩⟩
    | succ n ih =>
      intro k pt F sum i s v9 v10 hk k0 ok M HF p0 p1 s0 s1 i0 i1 K
      have lF := bFok_len ok
      unfold bFol at K
      refine sq41_24 (bWp_mono _) hA hho ⟨by omega, by omega⟩ ⟨by omega, by omega⟩ ⟨by omega, by omega⟩ ⟨by omega, by omega⟩ ⟨fun _ => ⟨fun w => ⟨⟨by omega, by omega⟩, ?_⟩, fun w => ⟨by omega, fun w2 => ⟨⟨by omega, by omega⟩, ?_⟩, fun w2 => ?_⟩⟩, fun w => absurd (show k < 48 by omega) w⟩
      · rw [if_pos (by omega)] at K
        have := K s (.int (bn pt)) (.int (bn k)) v9 v10 M HF
        rw [Int.add_zero] at this
        exact this
      · have mp : max pt 0 = pt := by omega
        rw [if_neg (by omega), mp] at K
        have pf : bFin2 F (pt % 48) = true := by
          have := (bMk_b (P := bFin2 F) (pt % 48).toNat (by omega))
          rw [show (((pt % 48).toNat : Nat) : Int) = pt % 48 by omega] at this
          exact this.1 w2
        rw [if_pos pf] at K
        have := K s (.int (bn pt)) (.int (bn k)) (.int (bn (pt % 48))) v10 M HF
        rw [Int.add_zero] at this
        exact this
      · have mp : max pt 0 = pt := by omega
        rw [if_neg (by omega), mp] at K
        have pf : bFin2 F (pt % 48) = false := by
          have := (bMk_b (P := bFin2 F) (pt % 48).toNat (by omega))
          rw [show (((pt % 48).toNat : Nat) : Int) = pt % 48 by omega] at this
          cases hb : bFin2 F (pt % 48) with
          | true => exact absurd (this.2 hb) w2
          | false => rfl
        rw [if_neg (by rw [pf]; decide)] at K
        have q0 : 0 ≤ pt % 48 ∧ pt % 48 < 48 := by omega
        generalize hp : pt % 48 = p at *
        have sr := bSn_rg (ho := ho) hF q0.1 q0.2
        obtain ⟨ok2, l48⟩ := bFok_app (ho := ho) hF q0.1 q0.2 ok pf
        obtain ⟨f2, m3, m33, m18, m21, m19⟩ := ms M
        have mk : bMk (bFin2 F) 48 ||| (Int64.ofNat 1 <<< (bL p &&& 63)) = bMk (bFin2 (F ++ [1001 * p + bSn σ ho p + 1])) 48 := by
          have := bMk_or (P := bFin2 F) q0.1 48
          rw [if_pos (show p < ((48 : Nat) : Int) by omega)] at this
          rw [← this]
          congr 1
          funext k
          rw [bFin2_app, show (1001 * p + bSn σ ho p + 1) / 1001 = p by omega]
          congr 1
          by_cases z : k = p
          · rw [decide_eq_true z, decide_eq_true z.symm]
          · rw [decide_eq_false z, decide_eq_false (fun y => z y.symm)]
        have fw := bFnd_w (ho := ho) hF q0.1 q0.2
        -- behind the flag
        have go : ∀ (t0 : Int) (v7 v10 : Value), (t0 = 0 ∧ bOwn σ (p / 8) = ho ∨ t0 = 1 ∧ bOwn σ (p / 8) ≠ ho) → A (57, [.ref e, .ref 3, .int (bn ho), .int (bn sum), .long (bMk (bFin2 F) 48 ||| (Int64.ofNat 1 <<< (bL p &&& 63))), .float 0, .int (bn i), v7, .int (bn k), .int (bn p), v10], [.int (bn t0)], s) := by
          intro t0 v7 v10 ht
          have rt : bRg t0 := by rcases ht with ⟨w, _⟩ | ⟨w, _⟩ <;> rw [w] <;> decide
          have e7b : bi s e 7 = 0 ∨ bi s e 7 = 1 := by
            rw [HF.2.2]
            unfold bEls
            split
            · exact Or.inr rfl
            · exact Or.inl rfl
          have e7 : bOr (bi s e 7) t0 = if bOwn σ (p / 8) = ho then bEls σ ho F else 1 := by
            rw [← HF.2.2]
            rcases ht with ⟨w, w2⟩ | ⟨w, w2⟩
            · rw [w, if_pos w2]
              rcases e7b with z | z <;> rw [z] <;> decide
            · rw [w, if_neg w2]
              rcases e7b with z | z <;> rw [z] <;> decide
          have r7 : bOr (bi s e 7) t0 = 0 ∨ bOr (bi s e 7) t0 = 1 := by
            rcases ht with ⟨w, _⟩ | ⟨w, _⟩ <;> rw [w] <;> rcases e7b with z | z <;> rw [z] <;> decide
          refine sq41_57 (bWp_mono _) hA hho ⟨by omega, by omega⟩ ⟨by omega, by omega⟩ ⟨by omega, by omega⟩ ⟨by omega, by omega⟩ rt ⟨he, r7, ?_⟩
          rw [mk]
          generalize hv7 : bOr (bi s e 7) t0 = b7 at *
          have M7 : bPf1 e σ (bw s e 7 b7) := bPf1_trans M (bPf1_w (Or.inr (Or.inl rfl)))
          have rb7 : bRg b7 := by rcases r7 with z | z <;> rw [z] <;> decide
          have H7 : bi (bw s e 7 b7) e 5 = F.length ∧ (∀ i : Nat, i < F.length → bi (bw s e 7 b7) (e + 19) i = bFnd (F.getD i 0)) := ⟨by rw [bi_nj (by decide) (by decide) (by decide)]; exact HF.1, fun i hi => by rw [bi_ne (by omega)]; exact HF.2.1 i hi⟩
          have F7 : bi (bw s e 7 b7) e 7 = if bOwn σ (p / 8) = ho then bEls σ ho F else 1 := by rw [bi_eq rb7]; exact e7
          have x33 : bi (bw s e 7 b7) 3 3 = bi σ 12 68 := by rw [bi_ne (by omega)]; exact m33
          have x19 : bi (bw s e 7 b7) 19 p = bi σ 56 p := by rw [bi_ne (by omega), m19]; exact (hF.1 p q0.1 q0.2).1
          generalize bw s e 7 b7 = s7 at *
          -- noted, and on
          have nx : ∀ v10, ∀ b : Int, b = bFnd (1001 * p + bSn σ ho p + 1) → bRg b → bRg (sum + max (bSn σ ho p) 0) ∧ bWp (d + 1) 42 [.ref e, .int (bn b)] s7 (bRv fun s11 => bRg (k + 1) ∧ A (24, [.ref e, .ref 3, .int (bn ho), .int (bn (sum + max (bSn σ ho p) 0)), .long (bMk (bFin2 (F ++ [1001 * p + bSn σ ho p + 1])) 48), .float 0, .int (bn i), .int (bn (bSn σ ho p)), .int (bn (k + 1)), .int (bn p), v10], [], s11)) := fun v10 b hb rb => by
            refine ⟨⟨by omega, by omega⟩, w42 he rb H7.1 l48 ⟨⟨by omega, by omega⟩, ?_⟩⟩
            refine ih (k + 1) (bSn σ ho p) _ _ i _ _ _ (by omega) (by omega) ok2 (bPf1_trans M7 (bPf1_trans bPf1_a (bPf1_w (Or.inl rfl)))) (bHf_app hF q0.1 q0.2 H7 F7 l48 hb rb) sr.1 sr.2 (by omega) ?_ i0 i1 (fun s' v7 v8 v9 v10 M' HF' => ?_)
            · rw [List.length_append]
              have : ([1001 * p + bSn σ ho p + 1] : List Int).length = 1 := rfl
              omega
            · have := K s' v7 v8 v9 v10 M' HF'
              rw [show sum + (max (bSn σ ho p) 0 + (bFol σ ho n (max (bSn σ ho p) 0) (F ++ [1001 * p + bSn σ ho p + 1])).2) = sum + max (bSn σ ho p) 0 + (bFol σ ho n (max (bSn σ ho p) 0) (F ++ [1001 * p + bSn σ ho p + 1])).2 by omega] at this
              exact this
          have two : ∀ (r : Int) v10, r = bSn σ ho p → bWp (d + 1) 359 [.int (bn r), .int (bn 0)] s7 (bRn fun r8 s6 => bRg (sum + r8) ∧ (r = -1 → bRg (-2 - p) ∧ bWp (d + 1) 42 [.ref e, .int (bn (-2 - p))] s6 (bRv fun s11 => bRg (k + 1) ∧ A (24, [.ref e, .ref 3, .int (bn ho), .int (bn (sum + r8)), .long (bMk (bFin2 (F ++ [1001 * p + bSn σ ho p + 1])) 48), .float 0, .int (bn i), .int (bn r), .int (bn (k + 1)), .int (bn p), v10], [], s11))) ∧ (¬ r = -1 → bRg (p * 1000) ∧ bRg (p * 1000 + r) ∧ bWp (d + 1) 42 [.ref e, .int (bn (p * 1000 + r))] s6 (bRv fun s13 => bRg (k + 1) ∧ A (24, [.ref e, .ref 3, .int (bn ho), .int (bn (sum + r8)), .long (bMk (bFin2 (F ++ [1001 * p + bSn σ ho p + 1])) 48), .float 0, .int (bn i), .int (bn r), .int (bn (k + 1)), .int (bn p), v10], [], s13)))) := fun r v10 hr => by
            rw [hr]
            refine w359 ⟨by omega, by omega⟩ (by decide) ⟨(nx v10 _ rfl (by rw [fw]; split <;> exact ⟨by omega, by omega⟩)).1, fun z => ⟨⟨by omega, by omega⟩, (nx v10 (-2 - p) (by rw [fw, if_pos z]) ⟨by omega, by omega⟩).2⟩, fun z => ⟨⟨by omega, by omega⟩, ⟨by omega, by omega⟩, (nx v10 (p * 1000 + bSn σ ho p) (by rw [fw, if_neg z]) ⟨by omega, by omega⟩).2⟩⟩
          refine ⟨fun z => w31i q0.1 q0.2 (two _ _ ?_), fun z => ?_⟩
          · rw [x19]
            rcases ht with ⟨_, w⟩ | ⟨w, _⟩
            · unfold bSn; rw [if_pos (Or.inr w)]
            · omega
          · rw [x33]
            refine ⟨fun z2 => w31i q0.1 q0.2 (two _ _ ?_), fun z2 => ?_⟩
            · rw [x19]; unfold bSn; rw [if_pos (Or.inl z2)]
            · have hr : (-1 : Int) = bSn σ ho p := by
                rcases ht with ⟨w, _⟩ | ⟨_, w⟩
                · exact absurd w z
                · unfold bSn; rw [if_neg (fun y => y.elim z2 w)]
              have t2 := two (-1) (.int (bn t0)) hr
              refine w359 (by decide) (by decide) ?_
              have a1 := nx (.int (bn t0)) (-2 - p) (by rw [fw, if_pos hr.symm]) ⟨by omega, by omega⟩
              rw [← hr] at a1 ⊢
              exact ⟨a1.1, ⟨by omega, by omega⟩, a1.2⟩
        refine w35 q0.1 q0.2 ?_
        rw [m21, show bi σ 21 (p / 8) = bOwn σ (p / 8) from hF.2.2.2.2.1 _ (by omega) (by omega)]
        exact ⟨fun z => go 0 _ _ (Or.inl ⟨rfl, z⟩), fun z => go 1 _ _ (Or.inr ⟨rfl, z⟩)⟩
  have Out : ∀ (n i : Nat) (s : bSt) (v7 v8 v9 v10 : Value), i + n = m → bPf1 e σ s → bHf σ s e ho (bLka σ ho c i).1 → A (6, [.ref e, .ref 3, .int (bn ho), .int (bn (bLka σ ho c i).2), .long (bMk (bFin2 (bLka σ ho c i).1) 48), .float 0, .int (bn i), v7, v8, v9, v10], [], s) := by
    intro n
    induction n with
    | zero =>
      intro i s v7 v8 v9 v10 hi M HF
      have ei : i = m := by omega
      obtain ⟨k1, k2, k3⟩ := bLka_ok (ho := ho) (c := c) hF i
      have lF := bFok_len k1
      obtain ⟨f2, m3, m33, m18, m21, m19⟩ := ms M
      refine sq41_6 (bWp_mono _) hA hho ⟨by omega, by omega⟩ ⟨by omega, by omega⟩ ⟨he, fun w => absurd w (by rw [m3]; omega), fun _ => bRn_i ⟨by omega, by omega⟩ ?_⟩
      rw [ei] at HF ⊢
      exact h s M HF
    | succ n ih =>
      intro i s v7 v8 v9 v10 hi M HF
      obtain ⟨k1, k2, k3⟩ := bLka_ok (ho := ho) (c := c) hF i
      have lF := bFok_len k1
      obtain ⟨f2, m3, m33, m18, m21, m19⟩ := ms M
      obtain ⟨c1, c2, c3⟩ := hc i (by omega) (by omega)
      refine sq41_6 (bWp_mono _) hA hho ⟨by omega, by omega⟩ ⟨by omega, by omega⟩ ⟨he, fun _ => ?_, fun w => absurd (by rw [m3]; omega) w⟩
      rw [e22, ty, ly, m18, c1]
      refine ⟨by decide, by decide, fun _ => ⟨rfl, ⟨by omega, by omega⟩, ?_⟩, fun w => absurd (show (i : Int) < (40 : Nat) by omega) w⟩
      refine In 48 0 (c i) _ _ i s _ _ (by decide) (by decide) k1 M HF (by omega) c3 k2 k3 (by omega) (by omega) (fun s' v7 v8 v9 v10 M' HF' => ?_)
      rw [show max (c i) 0 = c i by omega] at HF' ⊢
      have := ih (i + 1) s' v7 v8 v9 v10 (by omega) M' HF'
      rw [show ((i + 1 : Nat) : Int) = (i : Int) + 1 by omega] at this
      exact this
  have z0 : bMk (bFin2 []) 48 = Int64.ofNat 0 := by decide +kernel
  have := Out m 0 σ (.float 0) (.float 0) (.float 0) (.float 0) (by omega) bPf1_refl ⟨h5, fun i hi => absurd hi (Nat.not_lt_zero _), h7⟩
  have e2 : (bLka σ ho c 0).1 = [] := rfl
  rw [e2, z0] at this
  exact this
end

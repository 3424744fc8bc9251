/-! BUILD, 27: the class's caches: an entry is put -/
/-- the rows of a cache of the class -/
def bzCr (s : bSt) (b cap : Nat) (L : List bKy) : Prop := L.length ≤ cap ∧ (∀ i : Nat, i < cap → ∀ e, br s (b + 13) i = some e → (e % 256 = 4 ∧ 256000 ≤ e) ∧ s.2.2.2.1 e ≠ 0) ∧ (∀ i j : Nat, i < cap → j < cap → ∀ e, br s (b + 13) i = some e → br s (b + 13) j = some e → i = j) ∧ ∀ (i : Nat) (K : bKy), L[i]? = some K → ∃ e, br s (b + 13) i = some e ∧ bzEk s e K
/-- how many entries a cache has -/
def bzSm (s : bSt) (x : Nat) (cap : Nat) : Int := bCnp (fun i => (br s x i).isSome) cap
/-- what putting changes -/
def bzPt (b cap : Nat) (s t : bSt) (e : Nat) : Prop :=
  (∀ x, x ≠ e → x ≠ e + 18 → x ≠ e + 19 → (∀ j, (x ≠ b ∨ 0 < j) → bi t x j = bi s x j) ∧ (∀ j, bj t x j = bj s x j) ∧ (x ≠ b + 13 → ∀ j, br t x j = br s x j) ∧ t.2.2.2.1 x = s.2.2.2.1 x) ∧ (e % 256 = 4 ∧ 256000 ≤ e) ∧
  (((∃ i : Nat, i < cap ∧ br s (b + 13) i = some e) ∧ t.2.2.2.1 = s.2.2.2.1 ∧ t.2.2.2.2 = s.2.2.2.2 ∧ bzSm t (b + 13) cap = bzSm s (b + 13) cap ∧ ∀ i : Nat, i < cap → ∀ z, br t (b + 13) i = some z → ∃ j : Nat, j < cap ∧ br s (b + 13) j = some z) ∨
   (s.2.2.2.1 e = 0 ∧ e = 256 * (1000 + s.2.2.2.2.1) + 4 ∧ t.2.2.2.2.1 ≤ s.2.2.2.2.1 + 3 ∧ s.2.2.2.2.1 + 1 ≤ t.2.2.2.2.1 ∧ t.2.2.2.2.2 ≤ s.2.2.2.2.2 + 97 ∧ bzSm t (b + 13) cap = bzSm s (b + 13) cap + 1 ∧ ∀ i : Nat, i < cap → ∀ z, br t (b + 13) i = some z → z = e ∨ ∃ j : Nat, j < cap ∧ br s (b + 13) j = some z))
section
variable {d : Nat} {σ s t : bSt} {f : Int → bSt → Prop} {fv : bSt → Prop} {a i j k x y v w c p : Int} {e e0 b cap q : Nat} {K M : bKy} {L : List bKy}
theorem bzKl (h : bKg K) : bKl K := ⟨h.2.2.2.2.1, h.2.2.2.2.2.2.1, h.2.2.2.2.2.2.2.1⟩
theorem bzCr_ml (hb : b = 1 ∧ cap = 24 ∨ b = 257 ∧ cap = 40) (C : bzCr s b cap L) (hL : ∀ K ∈ L, bKl K) (hq : q ≤ L.length) (hc : c = if q < L.length then (L.length : Int) else L.length + 1) (cc : c ≤ cap) (H : bzMl b c q K s t e) : bzCr t b cap (L.eraseIdx q ++ [K]) ∧ bzPt b cap s t e := by
  obtain ⟨C2, C3, C4, C5⟩ := C
  obtain ⟨h1, h2, ⟨⟨e4, e5⟩, e6⟩, h3, h4⟩ := H
  have bne : b + 13 < 256000 ∧ b < 256000 ∧ b % 256 = 1 := by omega
  have len : (L.eraseIdx q).length = (c - 1).toNat := by
    rw [List.length_eraseIdx]
    by_cases y : q < L.length
    · rw [if_pos y] at hc ⊢; omega
    · rw [if_neg y] at hc ⊢; omega
  have c0 : 1 ≤ c := by split at hc <;> omega
  have cL : c - 1 ≤ L.length := by split at hc <;> omega
  have som : ∀ i : Nat, i < L.length → ∃ z, br s (b + 13) i = some z := fun i hi => by
    obtain ⟨z, hz, _⟩ := C5 i L[i] (List.getElem?_eq_getElem hi)
    exact ⟨z, hz⟩
  have fr : ∀ z, z ≠ e → z % 256 = 4 → ∀ K, bKl K → bzEk s z K → bzEk t z K := fun z hz z4 K hK E =>
    bzEk_m E (fun j _ => (h1 z hz (by omega) (by omega)).1 j) (fun j _ _ => (h1 (z + 18) (by omega) (by omega) (by omega)).1 j) (fun j _ _ => (h1 (z + 19) (by omega) (by omega) (by omega)).1 j) ⟨hK.1, hK.2.1⟩
  have rows : ∀ i : Nat, br t (b + 13) i = if (q : Int) ≤ i ∧ (i : Int) < c - 1 then br s (b + 13) ((i : Int) + 1) else if (i : Int) = c - 1 then some e else br s (b + 13) i := fun i => h2 i (by omega)
  -- where a row comes from
  have own : ∀ (i : Nat), i < cap → ∀ z, br t (b + 13) i = some z → ((i : Int) = c - 1 ∧ z = e) ∨ ((i : Int) ≠ c - 1 ∧ z ≠ e ∧ br s (b + 13) ((if (q : Int) ≤ i ∧ (i : Int) < c - 1 then i + 1 else i : Nat) : Int) = some z) := fun i hi z hz => by
    rw [rows i] at hz
    have old : ∀ m : Nat, m < cap → m ≠ q → br s (b + 13) m = some z → z ≠ e := fun m hm mq hz y => by
      rcases h3 with ⟨r, _, _⟩ | ⟨_, r, _⟩
      · exact mq (C4 m q hm (by omega) z hz (by rw [y]; exact r))
      · have := (C3 m hm z hz).2
        rw [y] at this
        exact this r
    by_cases y : (q : Int) ≤ i ∧ (i : Int) < c - 1
    · rw [if_pos y] at hz
      rw [if_pos y]
      have hz : br s (b + 13) ((i + 1 : Nat) : Int) = some z := by rw [show ((i + 1 : Nat) : Int) = (i : Int) + 1 by omega]; exact hz
      exact Or.inr ⟨by omega, old (i + 1) (by omega) (by omega) hz, hz⟩
    · rw [if_neg y] at hz
      by_cases y2 : (i : Int) = c - 1
      · rw [if_pos y2] at hz
        exact Or.inl ⟨y2, (Option.some.inj hz).symm⟩
      · rw [if_neg y2] at hz
        rw [if_neg y]
        refine Or.inr ⟨y2, ?_, hz⟩
        by_cases y3 : i = q
        · rcases h3 with ⟨r, _, _⟩ | ⟨_, r, _⟩
          · -- row q is not at the end: then q = c - 1 or q < c - 1
            exfalso
            split at hc <;> omega
          · intro w
            have := (C3 i hi z hz).2
            rw [w] at this
            exact this r
        · exact old i hi y3 hz
  have tmk : ∀ z, z % 256 = 4 → z ≠ e → t.2.2.2.1 z = s.2.2.2.1 z := fun z z4 hz => (h1 z hz (by omega) (by omega)).2.2.2
  refine ⟨⟨?_, ?_, ?_, ?_⟩, ?_, ⟨e4, e5⟩, ?_⟩
  · rw [List.length_append, len]; show (c - 1).toNat + 1 ≤ cap; omega
  · intro i hi z hz
    rcases own i hi z hz with ⟨_, r⟩ | ⟨o, o2, r⟩
    · rw [r]; exact ⟨⟨e4, e5⟩, e6⟩
    · have := C3 _ (by split <;> omega) z r
      exact ⟨this.1, by rw [tmk z this.1.1 o2]; exact this.2⟩
  · intro i j hi hj z hz hz2
    rcases own i hi z hz with ⟨o, r⟩ | ⟨o, o2, r⟩
    · rcases own j hj z hz2 with ⟨o3, r3⟩ | ⟨o3, o4, r3⟩
      · omega
      · exact absurd r o4
    · rcases own j hj z hz2 with ⟨o3, r3⟩ | ⟨o3, o4, r3⟩
      · exact absurd r3 o2
      · have := C4 _ _ (by split <;> omega) (by split <;> omega) z r r3
        split at this <;> split at this <;> omega
  · intro i K' hK'
    by_cases y : i < (L.eraseIdx q).length
    · rw [List.getElem?_append_left y, List.getElem?_eraseIdx] at hK'
      rw [len] at y
      by_cases y2 : i < q
      · rw [if_pos y2] at hK'
        obtain ⟨z, hz, E⟩ := C5 i K' hK'
        have ht : br t (b + 13) i = some z := by rw [rows i, if_neg (by omega), if_neg (by omega)]; exact hz
        rcases own i (by omega) z ht with ⟨o, r⟩ | ⟨o, o2, r⟩
        · omega
        · exact ⟨z, ht, fr z o2 ((C3 i (by omega) z hz).1.1) K' (hL _ (List.mem_of_getElem? hK')) E⟩
      · rw [if_neg y2] at hK'
        obtain ⟨z, hz, E⟩ := C5 (i + 1) K' hK'
        have ht : br t (b + 13) i = some z := by rw [rows i, if_pos (by omega)]; exact hz
        rcases own i (by omega) z ht with ⟨o, r⟩ | ⟨o, o2, r⟩
        · omega
        · exact ⟨z, ht, fr z o2 ((C3 (i + 1) (by omega) z hz).1.1) K' (hL _ (List.mem_of_getElem? hK')) E⟩
    · rw [List.getElem?_append_right (by omega), len] at hK'
      rw [len] at y
      have : i = (c - 1).toNat := by
        rcases Nat.lt_or_ge (i - (c - 1).toNat) 1 with w | w
        · omega
        · rw [List.getElem?_eq_none (by simpa using w)] at hK'; cases hK'
      have e2 : i - (c - 1).toNat = 0 := by omega
      rw [e2] at hK'
      have hK' := Option.some.inj hK'
      have ht : br t (b + 13) i = some e := by rw [rows i, if_neg (by omega), if_pos (by omega)]
      exact ⟨e, ht, by rw [← hK']; exact h4⟩
  · exact fun x x1 x2 x3 => ⟨fun j _ => (h1 x x1 x2 x3).1 j, (h1 x x1 x2 x3).2.1, (h1 x x1 x2 x3).2.2.1, (h1 x x1 x2 x3).2.2.2⟩
  · have cnt : ∀ i : Int, 0 ≤ i → i < (cap : Int) → i ≠ c - 1 → (br t (b + 13) i).isSome = (br s (b + 13) i).isSome := fun i i0 i1 i2 => by
      have r := rows i.toNat
      rw [show ((i.toNat : Nat) : Int) = i by omega] at r
      rw [r]
      by_cases y : (q : Int) ≤ i ∧ i < c - 1
      · rw [if_pos y]
        obtain ⟨z1, hz1⟩ := som i.toNat (by omega)
        obtain ⟨z2, hz2⟩ := som (i.toNat + 1) (by split at hc <;> omega)
        rw [show ((i.toNat : Nat) : Int) = i by omega] at hz1
        rw [show ((i.toNat + 1 : Nat) : Int) = i + 1 by omega] at hz2
        rw [hz1, hz2]
        rfl
      · rw [if_neg y, if_neg i2]
    have last : br t (b + 13) (c - 1) = some e := by
      have r := rows (c - 1).toNat
      rw [show (((c - 1).toNat : Nat) : Int) = c - 1 by omega, if_neg (by omega), if_pos rfl] at r
      exact r
    rcases h3 with ⟨r1, r2, r3⟩ | ⟨r1, r2, r3, r4, r5, r6⟩
    · refine Or.inl ⟨⟨q, by omega, r1⟩, r2, r3, bCn_x _ fun i i0 i1 => ?_, fun i hi z hz => ?_⟩
      · by_cases y : i = c - 1
        · rw [y, last]
          by_cases y2 : q < L.length
          · rw [if_pos y2] at hc
            obtain ⟨z1, hz1⟩ := som (c - 1).toNat (by omega)
            rw [show (((c - 1).toNat : Nat) : Int) = c - 1 by omega] at hz1
            rw [hz1]
            rfl
          · rw [if_neg y2] at hc
            rw [show c - 1 = q by omega, r1]
        · exact cnt i i0 i1 y
      · rcases own i hi z hz with ⟨_, o⟩ | ⟨o, _, r⟩
        · exact ⟨q, by omega, by rw [o]; exact r1⟩
        · exact ⟨_, by split <;> omega, r⟩
    · have qL : ¬ q < L.length := fun y => by
        obtain ⟨z, hz⟩ := som q y
        rw [r1] at hz
        cases hz
      rw [if_neg qL] at hc
      refine Or.inr ⟨r2, r3, r4, r5, r6, bCn_a (y := c - 1) _ (by omega) (by omega) (fun i i0 i1 i2 => (cnt i i0 i1 i2).symm) ?_ ?_, fun i hi z hz => ?_⟩
      · rw [show c - 1 = (q : Int) by omega, r1]; rfl
      · rw [last]; rfl
      · rcases own i hi z hz with ⟨_, o⟩ | ⟨o, _, r⟩
        · exact Or.inl o
        · exact Or.inr ⟨_, by split <;> omega, r⟩
/-- taking a key out by its place -/
theorem bzRm_x (hn : L.Nodup) (h : L[q]? = some K) : L.eraseIdx q = bzRm L K := by
  induction L generalizing q with
  | nil => rw [List.getElem?_nil] at h; cases h
  | cons y L ih =>
    have hn2 := List.nodup_cons.1 hn
    cases q with
    | zero =>
      have e : y = K := Option.some.inj h
      show L = bzRm (y :: L) K
      unfold bzRm
      rw [List.filter_cons_of_neg (by simp [e])]
      refine (List.filter_eq_self.2 fun z hz => ?_).symm
      simp only [Bool.not_eq_true', decide_eq_false_iff_not]
      intro w
      exact hn2.1 (by rw [e, ← w]; exact hz)
    | succ q =>
      have h2 : L[q]? = some K := h
      have ne : y ≠ K := fun w => hn2.1 (by rw [w]; exact List.mem_of_getElem? h2)
      show y :: L.eraseIdx q = bzRm (y :: L) K
      unfold bzRm
      rw [List.filter_cons_of_pos (by simp [ne]), ih hn2.2 h2]
      rfl
theorem bzRm_0 (h : K ∉ L) : bzRm L K = L := List.filter_eq_self.2 fun z hz => by
  simp only [Bool.not_eq_true', decide_eq_false_iff_not]
  exact fun w => h (by rw [← w]; exact hz)
theorem bzCr_of (hb : b = 1 ∧ cap = 24 ∨ b = 257 ∧ cap = 40) (h : bzCr s b cap L) (e : ∀ j, br t (b + 13) j = br s (b + 13) j) (m : ∀ x, x % 256 = 4 → t.2.2.2.1 x = s.2.2.2.1 x) (n : ∀ x, x % 256 ∈ [4, 22, 23] → ∀ j, bi t x j = bi s x j) (hL : ∀ K ∈ L, bKl K) : bzCr t b cap L := by
  obtain ⟨C2, C3, C4, C5⟩ := h
  refine ⟨C2, fun i hi z hz => ?_, fun i j hi hj z => ?_, fun i K hK => ?_⟩
  · rw [e] at hz
    have := C3 i hi z hz
    exact ⟨this.1, by rw [m z this.1.1]; exact this.2⟩
  · rw [e, e]; exact C4 i j hi hj z
  · obtain ⟨z, hz, E⟩ := C5 i K hK
    have k := hL _ (List.mem_of_getElem? hK)
    have z4 := (C3 i (by have := (List.getElem?_eq_some_iff.1 hK).1; omega) z hz).1.1
    exact ⟨z, by rw [e]; exact hz, bzEk_m E (fun j _ => n z (by rw [z4]; decide) j) (fun j _ _ => n _ (by rw [show (z + 18) % 256 = 22 by omega]; decide) j) (fun j _ _ => n _ (by rw [show (z + 19) % 256 = 23 by omega]; decide) j) ⟨k.1, k.2.1⟩⟩
theorem w17 (hb : b = 1 ∧ cap = 24 ∨ b = 257 ∧ cap = 40) (hc : bi s b 0 = L.length) (C : bzCr s b cap L) (hn : L.Nodup) (hL : ∀ K ∈ L, bKl K) (hF : bzFc s) (he : e0 % 256 = 4) (he0 : e0 < 256000) (H : bzEk s e0 K) (hK : bKl K) (h7 : bi s e0 7 = 0 ∨ bi s e0 7 = 1) (h : ∀ t e, bzPt b cap s t e → bzCr t b cap (bzPut cap L K) → bi t b 0 = (bzPut cap L K).length → fv t) : bWp (d + 4) 17 [.ref b, .ref e0] s (bRv fv) := by
  obtain ⟨E, b1, ty, ln, c40, c24, m14⟩ := bCaL hb s
  obtain ⟨C2, C3, C4, C5⟩ := id C
  -- a place is known
  have put : ∀ (q : Nat) (c : Int) (s1 : bSt), q ≤ L.length → (c = if q < L.length then (L.length : Int) else L.length + 1) → c ≤ cap → s1 = bw s b 0 c → L.eraseIdx q ++ [K] = bzPut cap L K → bWp (d + 3) 18 [.ref b, .int (bn q), .ref e0] s1 (bRv fv) := fun q c s1 hq hcc cc e1 ek => by
    have c0 : 1 ≤ c := by split at hcc <;> omega
    have e1b : bi s1 b 0 = c := by rw [e1, bi_bw (by decide) (by decide) ⟨by omega, by omega⟩, if_pos ⟨rfl, rfl⟩]
    have e1n : ∀ x j, (x ≠ b ∨ 0 < j) → 0 ≤ j → bi s1 x j = bi s x j := fun x j hx j0 => by
      rw [e1, bi_bw (by decide) j0 ⟨by omega, by omega⟩, if_neg (fun y => by omega)]
    have e1n' : ∀ x, x ≠ b → ∀ j, bi s1 x j = bi s x j := fun x hx j => by rw [e1, bi_ne hx]
    have e12 : s1.2 = s.2 := by rw [e1]; rfl
    have r1 : ∀ x j, br s1 x j = br s x j := fun x j => by unfold br; rw [e12]
    have m1 : ∀ x, s1.2.2.2.1 x = s.2.2.2.1 x := fun x => by rw [e12]
    have Cs1 : bzCr s1 b cap L := bzCr_of hb C (fun j => r1 _ j) (fun x _ => m1 x) (fun x hx j => e1n' x (fun y => by rw [y, b1] at hx; exact absurd hx (by decide)) j) hL
    have F1 : bzFc s1 := fun x hx hx2 => by rw [m1]; exact hF x hx (by rw [← e12]; exact hx2)
    have H1 : bzEk s1 e0 K := bzEk_m H (fun j _ => e1n' _ (by omega) j) (fun j _ _ => e1n' _ (by omega) j) (fun j _ _ => e1n' _ (by omega) j) ⟨hK.1, hK.2.1⟩
    refine w18 hb e1b ⟨c0, cc⟩ ⟨by omega, by split at hcc <;> omega⟩ Cs1.2.1 F1 he he0 H1 hK (by rw [e1n' _ (by omega)]; exact h7) fun t e M => ?_
    obtain ⟨T1, T2⟩ := bzCr_ml hb Cs1 hL hq hcc cc M
    obtain ⟨P1, P2, P3⟩ := T2
    have ne : b ≠ e ∧ b ≠ e + 18 ∧ b ≠ e + 19 := by omega
    have tb : bi t b 0 = c := by rw [(M.1 b ne.1 ne.2.1 ne.2.2).1]; exact e1b
    rw [ek] at T1
    refine h t e ⟨fun x x1 x2 x3 => ⟨fun j hj => ?_, fun j => ?_, fun hx j => ?_, ?_⟩, P2, ?_⟩ T1 ?_
    · rw [(P1 x x1 x2 x3).1 j hj]
      rcases hj with hj | hj
      · exact e1n' x hj j
      · by_cases y : x = b
        · exact e1n x j (Or.inr hj) (by omega)
        · exact e1n' x y j
    · rw [(P1 x x1 x2 x3).2.1 j]; unfold bj; rw [e12]
    · rw [(P1 x x1 x2 x3).2.2.1 hx j]; exact r1 x j
    · rw [(P1 x x1 x2 x3).2.2.2]; exact m1 x
    · unfold bzSm at P3 ⊢
      simp only [r1, e12] at P3
      exact P3
    · rw [tb, ← ek, List.length_append, List.length_eraseIdx]
      show c = (((if q < L.length then L.length - 1 else L.length) + 1 : Nat) : Int)
      by_cases y : q < L.length
      · rw [if_pos y] at hcc ⊢; omega
      · rw [if_neg y] at hcc ⊢; omega
  have same : s = bw s b 0 L.length := by rw [← hc]; exact (bw_id _).symm
  refine ⟨rfl, fun A hA => sq17_0 (bWp_mono _) hA b1 he ?_⟩
  refine w16 hb ⟨⟨hc, C2⟩, C3, C4, C5⟩ hL he H hK (fun q hq => ?_) fun hq => ?_
  · have ql : q < L.length := (List.getElem?_eq_some_iff.1 hq).1
    have mem := List.mem_of_getElem? hq
    refine ⟨fun y => by omega, fun _ => ⟨fun y => by omega, fun _ => put q _ _ (by omega) rfl (by rw [if_pos ql]; omega) (by rw [if_pos ql]; exact same) ?_⟩⟩
    unfold bzPut
    rw [if_neg (fun y => y.1 mem), bzRm_x hn hq]
  · refine ⟨fun _ => ?_, fun y => absurd rfl y⟩
    rw [E, ln, ty, hc]
    refine ⟨by decide, ⟨by omega, by omega⟩, fun y => ⟨⟨by omega, by omega⟩, fun z => by omega, fun _ => put L.length _ _ (Nat.le_refl _) rfl (by rw [if_neg (Nat.lt_irrefl _)]; omega) (by rw [if_neg (Nat.lt_irrefl _)]) ?_⟩, fun y => ⟨fun _ => put 0 _ _ (Nat.zero_le _) rfl (by rw [if_pos (by omega)]; omega) (by rw [if_pos (by omega)]; exact same) ?_, fun z => absurd rfl z⟩⟩
    · unfold bzPut
      rw [if_neg (fun z => by omega), bzRm_0 hq, List.eraseIdx_of_length_le (Nat.le_refl _)]
    · unfold bzPut
      rw [if_pos ⟨hq, by omega⟩, List.eraseIdx_zero]
end

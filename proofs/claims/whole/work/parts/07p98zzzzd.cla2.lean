/-! BUILD, 26: the class's caches -/
/-- a cache of the class: its keys by place -/
def bzCa (s : bSt) (b cap : Nat) (L : List bKy) : Prop := (bi s b 0 = L.length ∧ L.length ≤ cap) ∧ (∀ i : Nat, i < cap → ∀ e, br s (b + 13) i = some e → (e % 256 = 4 ∧ 256000 ≤ e) ∧ s.2.2.2.1 e ≠ 0) ∧ (∀ i j : Nat, i < cap → j < cap → ∀ e, br s (b + 13) i = some e → br s (b + 13) j = some e → i = j) ∧ ∀ (i : Nat) (K : bKy), L[i]? = some K → ∃ e, br s (b + 13) i = some e ∧ bzEk s e K
/-- ids to come are free -/
def bzFc (s : bSt) : Prop := ∀ x, x % 256 ∈ [4, 22, 23] → 1000 + s.2.2.2.2.1 ≤ x / 256 → s.2.2.2.1 x = 0
/-- a copy becomes the latest: what it changes -/
def bzMl (b : Nat) (c p : Int) (K : bKy) (s t : bSt) (e : Nat) : Prop :=
  (∀ x, x ≠ e → x ≠ e + 18 → x ≠ e + 19 → (∀ j, bi t x j = bi s x j) ∧ (∀ j, bj t x j = bj s x j) ∧ (x ≠ b + 13 → ∀ j, br t x j = br s x j) ∧ t.2.2.2.1 x = s.2.2.2.1 x) ∧
  (∀ i, 0 ≤ i → br t (b + 13) i = if p ≤ i ∧ i < c - 1 then br s (b + 13) (i + 1) else if i = c - 1 then some e else br s (b + 13) i) ∧
  ((e % 256 = 4 ∧ 256000 ≤ e) ∧ t.2.2.2.1 e ≠ 0) ∧
  ((br s (b + 13) p = some e ∧ t.2.2.2.1 = s.2.2.2.1 ∧ t.2.2.2.2 = s.2.2.2.2) ∨ (br s (b + 13) p = none ∧ s.2.2.2.1 e = 0 ∧ e = 256 * (1000 + s.2.2.2.2.1) + 4 ∧ t.2.2.2.2.1 ≤ s.2.2.2.2.1 + 3 ∧ s.2.2.2.2.1 + 1 ≤ t.2.2.2.2.1 ∧ t.2.2.2.2.2 ≤ s.2.2.2.2.2 + 97)) ∧ bzEk t e K
/-- the counters do not fall -/
theorem bWp_le {d n : Nat} {as : List Value} {s : bSt} {fv : bSt → Prop} (h : bWp d n as s (bRv (fun t => bLe s t → fv t))) : bWp d n as s (bRv fv) := by
  obtain ⟨o, t, r, l, w⟩ := bWp_det _ _ _ _ _ h
  refine bWp_mono _ _ _ _ _ _ ?_ w
  rintro o' t' ⟨rfl, rfl⟩
  exact bRv_e (f := fun t => bLe s t → fv t) (R := fun o t => bLe s t → bRv fv o t) (fun t h l => h l) _ _ r l
section
variable {d : Nat} {σ s t : bSt} {f : Int → bSt → Prop} {fv : bSt → Prop} {a i j k x y v w c p : Int} {e e0 b cap : Nat} {K M : bKy} {L : List bKy}
theorem bCaL (hb : b = 1 ∧ cap = 24 ∨ b = 257 ∧ cap = 40) (s : bSt) : 256 * (1 * (b / 256) + 0) + 14 = b + 13 ∧ b % 256 = 1 ∧ bTy (b + 13) = 14 ∧ bLen s (b + 13) = cap ∧ cap ≤ 40 ∧ 24 ≤ cap ∧ (b + 13) % 256 = 14 := by
  rcases hb with ⟨rfl, rfl⟩ | ⟨rfl, rfl⟩
  · exact ⟨rfl, rfl, rfl, rfl, by decide, by decide, rfl⟩
  · exact ⟨rfl, rfl, rfl, rfl, by decide, by decide, rfl⟩
theorem w16 (hb : b = 1 ∧ cap = 24 ∨ b = 257 ∧ cap = 40) (C : bzCa s b cap L) (hL : ∀ K ∈ L, bKl K) (he : e0 % 256 = 4) (H : bzEk s e0 K) (hK : bKl K) (h1 : ∀ q : Nat, L[q]? = some K → f q s) (h0 : K ∉ L → f (-1) s) : bWp (d + 3) 16 [.ref b, .ref e0] s (bRn f) := by
  obtain ⟨E, b1, ty, ln, c40, _, _⟩ := bCaL hb s
  obtain ⟨⟨C1, C2⟩, C3, C4, C5⟩ := C
  refine ⟨rfl, fun A hA => sq16_0 (bWp_mono _) hA b1 he ?_⟩
  rw [C1]
  have Lp : ∀ (m : Nat) (v3 : Value), m ≤ L.length → (∀ q : Nat, m ≤ q → L[q]? ≠ some K) → A (5, [.ref b, .ref e0, .int (bn ((m : Int) - 1)), v3], [], s) := by
    intro m
    induction m with
    | zero =>
      intro v3 _ D
      refine sq16_5 (bWp_mono _) hA (by decide) ⟨fun _ => bRn_i (by decide) (h0 fun hm => ?_), fun z => absurd (by decide) z⟩
      obtain ⟨q, hq⟩ := List.mem_iff_getElem?.1 hm
      exact D q (Nat.zero_le _) hq
    | succ m ih =>
      intro v3 hm D
      obtain ⟨e, he1, hE⟩ := C5 m L[m] (List.getElem?_eq_getElem (by omega))
      obtain ⟨⟨e4, _⟩, _⟩ := C3 m (by omega) e he1
      have mL : L[m] ∈ L := List.getElem_mem _
      rw [show ((m + 1 : Nat) : Int) - 1 = m by omega]
      refine sq16_5 (bWp_mono _) hA ⟨by omega, by omega⟩ ⟨fun z => absurd z (by omega), fun _ => ?_⟩
      rw [E, ln, ty]
      refine ⟨b1, by decide, ⟨by omega, by omega⟩, fun _ => ⟨rfl, ⟨by omega, by omega⟩, fun z => ?_, fun z hz => ?_⟩, fun z => absurd (show (m : Int) < cap by omega) z⟩
      · rw [he1] at z; cases z
      · rw [he1] at hz
        have hz := Option.some.inj hz
        rw [← hz]
        refine ⟨e4, w43 e4 he hE H (hL _ mL) hK ?_⟩
        by_cases q : L[m] = K
        · rw [if_pos q]
          exact ⟨fun z => absurd z (by decide), fun _ => bRn_i ⟨by omega, by omega⟩ (h1 m (by rw [List.getElem?_eq_getElem (by omega), q]))⟩
        · rw [if_neg q]
          refine ⟨fun _ => ⟨⟨by omega, by omega⟩, ?_⟩, fun z => absurd rfl z⟩
          have := ih (.ref e) (by omega) (fun r hr hq => by
            by_cases y : r = m
            · rw [y, List.getElem?_eq_getElem (by omega)] at hq
              exact q (Option.some.inj hq)
            · exact D r (by omega) hq)
          rw [show (m : Int) - 1 = (m : Int) + -1 by omega] at this
          exact this
  refine ⟨⟨by omega, by omega⟩, Lp L.length _ (Nat.le_refl _) (fun q hq hs => ?_)⟩
  rw [List.getElem?_eq_none hq] at hs
  cases hs
theorem w18 (hb : b = 1 ∧ cap = 24 ∨ b = 257 ∧ cap = 40) (hc : bi s b 0 = c) (c1 : 1 ≤ c ∧ c ≤ cap) (p0 : 0 ≤ p ∧ p < c) (ids : ∀ i : Nat, i < cap → ∀ e, br s (b + 13) i = some e → (e % 256 = 4 ∧ 256000 ≤ e) ∧ s.2.2.2.1 e ≠ 0) (hF : bzFc s) (he : e0 % 256 = 4) (he0 : e0 < 256000) (H : bzEk s e0 K) (hK : bKl K) (h7 : bi s e0 7 = 0 ∨ bi s e0 7 = 1) (h : ∀ t e, bzMl b c p K s t e → fv t) : bWp (d + 3) 18 [.ref b, .int (bn p), .ref e0] s (bRv fv) := by
  obtain ⟨E, b1, ty, ln, c40, c24, m14⟩ := bCaL hb s
  have lns : ∀ s : bSt, bLen s (b + 13) = cap := fun s => (bCaL hb s).2.2.2.1
  have nb : ∀ (s : bSt) (i : Int) (v : Option Nat) (x : Nat) (j : Int), bi (bwr s (b + 13) i v) x j = bi s x j := fun _ _ _ _ _ => rfl
  have rw1 : ∀ (s : bSt) (i j : Int) (v : Option Nat), 0 ≤ i → 0 ≤ j → br (bwr s (b + 13) i v) (b + 13) j = if j = i then v else br s (b + 13) j := fun s i j v i0 j0 => by
    rw [br_bwr i0 j0]
    simp only [true_and]
  have rwn : ∀ (s : bSt) (i j : Int) (v : Option Nat) (x : Nat), x ≠ b + 13 → br (bwr s (b + 13) i v) x j = br s x j := fun s i j v x hx => br_ne hx
  refine ⟨rfl, fun A hA => sq18_0 (bWp_mono _) hA b1 he ⟨by omega, by omega⟩ ⟨fun z => absurd z (by omega), fun _ => ?_⟩⟩
  rw [hc, E, ln, ty]
  refine ⟨fun _ => ⟨by decide, ⟨by omega, by omega⟩, fun z => absurd z (by omega), fun _ => ⟨rfl, ⟨by omega, by omega⟩, ?_⟩⟩, fun z => absurd p0.2 z⟩
  -- the rows move up
  have shift : ∀ (r : Option Nat) (v3 : Value), (r = none ∧ v3 = .null ∨ ∃ z, r = some z ∧ v3 = .ref z) →
      (∀ t, t.1 = s.1 → t.2.1 = s.2.1 → t.2.2.2 = s.2.2.2 → (∀ x, x ≠ b + 13 → ∀ j, br t x j = br s x j) → (∀ i, 0 ≤ i → i < c - 1 → br t (b + 13) i = if p ≤ i then br s (b + 13) (i + 1) else br s (b + 13) i) → (∀ i, c ≤ i → br t (b + 13) i = br s (b + 13) i) → A (20, [.ref b, .int (bn p), .ref e0, v3, .int (bn (c - 1))], [], t)) → A (20, [.ref b, .int (bn p), .ref e0, v3, .int (bn p)], [], s) := fun r v3 hr K0 => by
    have Lp : ∀ (m : Nat) (l : Int) (t : bSt), l + m = c - 1 → p ≤ l → t.1 = s.1 → t.2.1 = s.2.1 → t.2.2.2 = s.2.2.2 → (∀ x, x ≠ b + 13 → ∀ j, br t x j = br s x j) → (∀ i, 0 ≤ i → br t (b + 13) i = if p ≤ i ∧ i < l then br s (b + 13) (i + 1) else br s (b + 13) i) → A (20, [.ref b, .int (bn p), .ref e0, v3, .int (bn l)], [], t) := by
      intro m
      induction m with
      | zero =>
        intro l t hl l0 e1 e2 e3 e4 e5
        rw [show l = c - 1 by omega] at e5 ⊢
        refine K0 t e1 e2 e3 e4 (fun i i0 i1 => ?_) (fun i i0 => ?_)
        · rw [e5 i i0]
          by_cases q : p ≤ i
          · rw [if_pos ⟨q, i1⟩, if_pos q]
          · rw [if_neg (fun y => q y.1), if_neg q]
        · rw [e5 i (by omega), if_neg (fun y => by omega)]
      | succ m ih =>
        intro l t hl l0 e1 e2 e3 e4 e5
        have tc : bi t b 0 = c := by unfold bi; rw [e1]; exact hc
        have nx : ∀ v, v = br t (b + 13) (l + 1) → A (20, [.ref b, .int (bn p), .ref e0, v3, .int (bn (l + 1))], [], bwr t (b + 13) l v) := fun v hv => by
          refine ih (l + 1) _ (by omega) (by omega) e1 e2 e3 (fun x hx j => by rw [rwn _ _ _ _ _ hx]; exact e4 x hx j) (fun i i0 => ?_)
          rw [rw1 _ _ _ _ (by omega) i0]
          by_cases q : i = l
          · rw [if_pos q, if_pos ⟨by omega, by omega⟩, hv, e5 (l + 1) (by omega), if_neg (fun y => by omega), q]
          · rw [if_neg q, e5 i i0]
            by_cases q2 : p ≤ i ∧ i < l
            · rw [if_pos q2, if_pos ⟨q2.1, by omega⟩]
            · rw [if_neg q2, if_neg (fun y => q2 ⟨y.1, by omega⟩)]
        have z4 : ∀ z, br t (b + 13) (l + 1) = some z → z % 256 = 4 := fun z hz => by
          rw [e5 (l + 1) (by omega), if_neg (fun y => by omega)] at hz
          have := ids (l + 1).toNat (by omega) z (by rw [show (((l + 1).toNat : Nat) : Int) = l + 1 by omega]; exact hz)
          exact this.1.1
        rcases hr with ⟨_, rfl⟩ | ⟨z0, _, rfl⟩
        · refine sq18_20 (bWp_mono _) hA ⟨by omega, by omega⟩ ⟨⟨by omega, by omega⟩, b1, ?_⟩
          rw [tc, E, lns, ty]
          exact ⟨fun _ => ⟨rfl, ⟨by omega, by omega⟩, fun hz => ⟨⟨by omega, by omega⟩, by rw [m14]; decide, nx none hz.symm⟩, fun z hz => ⟨⟨by omega, by omega⟩, by rw [m14]; decide, z4 z hz, nx _ hz.symm⟩⟩, fun y => absurd (show l + 1 < c by omega) y⟩
        · refine sq18_20_b (bWp_mono _) hA ⟨by omega, by omega⟩ ⟨⟨by omega, by omega⟩, b1, ?_⟩
          rw [tc, E, lns, ty]
          exact ⟨fun _ => ⟨rfl, ⟨by omega, by omega⟩, fun hz => ⟨⟨by omega, by omega⟩, by rw [m14]; decide, nx none hz.symm⟩, fun z hz => ⟨⟨by omega, by omega⟩, by rw [m14]; decide, z4 z hz, nx _ hz.symm⟩⟩, fun y => absurd (show l + 1 < c by omega) y⟩
    exact Lp (c - 1 - p).toNat p s (by omega) (Int.le_refl _) rfl rfl rfl (fun _ _ _ => rfl) (fun i i0 => by rw [if_neg (fun y => by omega)])
  have bne : b < 256000 := by omega
  refine ⟨fun hz => ?_, fun z hz => ?_⟩
  · -- a new entry
    refine shift none .null (Or.inl ⟨rfl, rfl⟩) fun t e1 e2 e3 e4 e5 e6 => ?_
    have tc : bi t b 0 = c := by unfold bi; rw [e1]; exact hc
    have tb : ∀ x j, bi t x j = bi s x j := fun x j => by unfold bi; rw [e1]
    refine sq18_20 (bWp_mono _) hA ⟨by omega, by omega⟩ ⟨⟨by omega, by omega⟩, b1, fun y => absurd y (by rw [tc]; omega), fun _ => ?_⟩
    rw [e3]
    generalize hne : 256 * (1000 + s.2.2.2.2.1) + 4 = ne at *
    have ne4 : ne % 256 = 4 := by omega
    have F1 : 256 * (1 * (ne / 256) + 0) + 22 = ne + 18 := by omega
    have F2 : 256 * (1 * (ne / 256) + 0) + 23 = ne + 19 := by omega
    have mk0 : s.2.2.2.1 ne = 0 := hF ne (by rw [ne4]; decide) (by omega)
    have mk1 : s.2.2.2.1 (ne + 18) = 0 := hF (ne + 18) (by rw [show (ne + 18) % 256 = 22 by omega]; decide) (by omega)
    have mk2 : s.2.2.2.1 (ne + 19) = 0 := hF (ne + 19) (by rw [show (ne + 19) % 256 = 23 by omega]; decide) (by omega)
    have tm : t.2.2.2.1 = s.2.2.2.1 := by rw [e3]
    refine ⟨mk0, ne4, bWp_le (w37 ne4 ?_ ?_ fun s4 k1 k2 k3 k4 k5 k6 le => ⟨k3, ?_⟩)⟩
    · rw [F1, mk_bNew, if_neg (by omega), tm]; exact mk1
    · rw [F2, mk_bNew, if_neg (by omega), tm]; exact mk2
    rw [F1, F2] at k1
    have ob : ∀ x, x ≠ ne → x ≠ ne + 18 → x ≠ ne + 19 → (∀ j, bi s4 x j = bi s x j) ∧ (∀ j, bj s4 x j = bj s x j) ∧ (∀ j, br s4 x j = br t x j) ∧ s4.2.2.2.1 x = s.2.2.2.1 x := fun x h1 h2 h3 => by
      obtain ⟨q1, q2, q3, q4⟩ := k1 x (by simp only [List.mem_cons, List.not_mem_nil, or_false, not_or]; exact ⟨h1, h2, h3⟩)
      refine ⟨fun j => ?_, fun j => ?_, fun j => ?_, ?_⟩
      · rw [q1, bi_bNew, if_neg h1]; exact tb x j
      · rw [q2]
        show (if x = ne then 0 else t.2.1 x j.toNat) = _
        rw [if_neg h1]; unfold bj; rw [e2]
      · rw [q3, br_bNew, if_neg h1]
      · rw [q4, mk_bNew, if_neg h1, tm]
    have he0n : e0 ≠ ne := by omega
    have H4 : bzEk s4 e0 K := bzEk_m H (fun j _ => (ob e0 (by omega) (by omega) (by omega)).1 j) (fun j _ _ => (ob (e0 + 18) (by omega) (by omega) (by omega)).1 j) (fun j _ _ => (ob (e0 + 19) (by omega) (by omega) (by omega)).1 j) ⟨hK.1, hK.2.1⟩
    refine w44 ne4 he (Ne.symm he0n) (by rw [(ob e0 (by omega) (by omega) (by omega)).1]; exact h7) fun s6 CP => ?_
    have q2 := CP.2.1
    have s6b : bi s6 b 0 = c := by rw [q2 b (by omega) (by omega) (by omega), (ob b (by omega) (by omega) (by omega)).1]; exact hc
    rw [s6b, E, lns, ty]
    refine ⟨⟨by omega, by omega⟩, rfl, ⟨by omega, by omega⟩, by rw [m14]; decide, h _ ne ⟨fun x h1 h2 h3 => ⟨fun j => ?_, fun j => ?_, fun h4 j => ?_, ?_⟩, fun i i0 => ?_, ⟨⟨ne4, by omega⟩, ?_⟩, Or.inr ⟨hz, mk0, hne.symm, ?_, ?_, ?_⟩, ?_⟩⟩
    · rw [nb, q2 x h1 h2 h3]; exact (ob x h1 h2 h3).1 j
    · show bj s6 x j = _
      have : bj s6 x j = bj s4 x j := by unfold bj; rw [CP.1]
      rw [this]; exact (ob x h1 h2 h3).2.1 j
    · rw [rwn _ _ _ _ _ h4]
      have : br s6 x j = br s4 x j := by unfold br; rw [CP.1]
      rw [this, (ob x h1 h2 h3).2.2.1]; exact e4 x h4 j
    · show s6.2.2.2.1 x = _
      rw [CP.1]; exact (ob x h1 h2 h3).2.2.2
    · rw [rw1 _ _ _ _ (by omega) i0]
      have t6 : br s6 (b + 13) i = br t (b + 13) i := by
        have : br s6 (b + 13) i = br s4 (b + 13) i := by unfold br; rw [CP.1]
        rw [this]; exact (ob (b + 13) (by omega) (by omega) (by omega)).2.2.1 i
      by_cases y : i = c - 1
      · rw [if_pos y, if_neg (fun z => by omega), if_pos y]
      · rw [if_neg y, t6]
        by_cases y2 : i < c - 1
        · rw [e5 i i0 y2]
          by_cases y3 : p ≤ i
          · rw [if_pos y3, if_pos ⟨y3, y2⟩]
          · rw [if_neg y3, if_neg (fun z => y3 z.1), if_neg y]
        · rw [e6 i (by omega), if_neg (fun z => y2 z.2), if_neg y]
    · show s6.2.2.2.1 ne ≠ 0
      rw [CP.1, k3]; decide
    · show s6.2.2.2.2.1 ≤ _
      rw [CP.1]
      have := k2.1
      have e : (bNew t ne 1 9).2.2.2.2.1 = s.2.2.2.2.1 + 1 := by show t.2.2.2.2.1 + 1 = _; rw [e3]
      rw [e] at this
      omega
    · show _ ≤ s6.2.2.2.2.1
      rw [CP.1]
      have := le.1
      have e : (bNew t ne 1 9).2.2.2.2.1 = s.2.2.2.2.1 + 1 := by show t.2.2.2.2.1 + 1 = _; rw [e3]
      rw [e] at this
      exact this
    · show s6.2.2.2.2.2 ≤ _
      rw [CP.1]
      have := k2.2
      have e : (bNew t ne 1 9).2.2.2.2.2 = s.2.2.2.2.2 + 9 := by show t.2.2.2.2.2 + 9 = _; rw [e3]
      rw [e] at this
      omega
    · exact bzEk_m (bzEk_cp CP H4 ⟨hK.1, hK.2.1⟩) (fun _ _ => rfl) (fun _ _ _ => rfl) (fun _ _ _ => rfl) ⟨hK.1, hK.2.1⟩
  · -- the freed one
    have zi := ids p.toNat (by omega) z (by rw [show ((p.toNat : Nat) : Int) = p by omega]; exact hz)
    obtain ⟨⟨z4, z5⟩, z6⟩ := zi
    refine shift (some z) (.ref z) (Or.inr ⟨z, rfl, rfl⟩) fun t e1 e2 e3 e4 e5 e6 => ?_
    have tc : bi t b 0 = c := by unfold bi; rw [e1]; exact hc
    have tb : ∀ x j, bi t x j = bi s x j := fun x j => by unfold bi; rw [e1]
    refine sq18_20_b (bWp_mono _) hA ⟨by omega, by omega⟩ ⟨⟨by omega, by omega⟩, b1, fun y => absurd y (by rw [tc]; omega), fun _ => ?_⟩
    have Ht : bzEk t e0 K := bzEk_m H (fun j _ => tb e0 j) (fun j _ _ => tb _ j) (fun j _ _ => tb _ j) ⟨hK.1, hK.2.1⟩
    refine ⟨z4, w44 z4 he (by omega) (by rw [tb]; exact h7) fun s6 CP => ?_⟩
    have q2 := CP.2.1
    have s6b : bi s6 b 0 = c := by rw [q2 b (by omega) (by omega) (by omega), tb]; exact hc
    rw [s6b, E, lns, ty]
    refine ⟨⟨by omega, by omega⟩, rfl, ⟨by omega, by omega⟩, by rw [m14]; decide, h _ z ⟨fun x h1 h2 h3 => ⟨fun j => ?_, fun j => ?_, fun h4 j => ?_, ?_⟩, fun i i0 => ?_, ⟨⟨z4, z5⟩, ?_⟩, Or.inl ⟨hz, ?_, ?_⟩, ?_⟩⟩
    · rw [nb, q2 x h1 h2 h3]; exact tb x j
    · show bj s6 x j = _
      unfold bj; rw [CP.1, e2]
    · rw [rwn _ _ _ _ _ h4]
      have : br s6 x j = br t x j := by unfold br; rw [CP.1]
      rw [this]; exact e4 x h4 j
    · show s6.2.2.2.1 x = _
      rw [CP.1, e3]
    · rw [rw1 _ _ _ _ (by omega) i0]
      have t6 : br s6 (b + 13) i = br t (b + 13) i := by unfold br; rw [CP.1]
      by_cases y : i = c - 1
      · rw [if_pos y, if_neg (fun z => by omega), if_pos y]
      · rw [if_neg y, t6]
        by_cases y2 : i < c - 1
        · rw [e5 i i0 y2]
          by_cases y3 : p ≤ i
          · rw [if_pos y3, if_pos ⟨y3, y2⟩]
          · rw [if_neg y3, if_neg (fun z => y3 z.1), if_neg y]
        · rw [e6 i (by omega), if_neg (fun z => y2 z.2), if_neg y]
    · show s6.2.2.2.1 z ≠ 0
      rw [CP.1, e3]; exact z6
    · show s6.2.2.2.1 = _
      rw [CP.1, e3]
    · show s6.2.2.2.2 = _
      rw [CP.1, e3]
    · exact bzEk_m (bzEk_cp CP Ht ⟨hK.1, hK.2.1⟩) (fun _ _ => rfl) (fun _ _ _ => rfl) (fun _ _ _ => rfl) ⟨hK.1, hK.2.1⟩
end

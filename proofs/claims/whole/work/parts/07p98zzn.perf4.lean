/-! WHAT AN ACTION GIVES, 4: contents now -/
/-- the contents of a list of inputs, those of actions given as 100 and more -/
def bCof (σ : bSt) (L : List Int) (i : Int) : Int := if L.getD i.toNat 0 < 100 then bi σ 56 (L.getD i.toNat 0) else L.getD i.toNat 0 - 100
/-- inputs that have contents -/
def bLok (σ : bSt) (L : List Int) : Prop := ∀ w ∈ L, (0 ≤ w ∧ w < 48 ∧ 0 ≤ bi σ 56 w) ∨ (100 ≤ w ∧ w < 1100)
section
variable {d : Nat} {σ s t : bSt} {f : Int → bSt → Prop} {fv : bSt → Prop} {ho p a op v x n q nu ve i : Int} {L : List Int} {c : Int → Int} {m e : Nat}
theorem bLok_at (hF : bFi σ) (h : bLok σ L) (i0 : 0 ≤ i) (i1 : i < (L.length : Int)) : ((0 ≤ L.getD i.toNat 0 ∧ L.getD i.toNat 0 < 48 ∧ 0 ≤ bi σ 56 (L.getD i.toNat 0)) ∨ (100 ≤ L.getD i.toNat 0 ∧ L.getD i.toNat 0 < 1100)) ∧ 0 ≤ bCof σ L i ∧ bCof σ L i < 1000 := by
  have hm : L.getD i.toNat 0 ∈ L := by
    rw [List.getD_eq_getElem?_getD, List.getElem?_eq_getElem (show i.toNat < L.length by omega)]
    exact List.getElem_mem _
  have k := h _ hm
  refine ⟨k, ?_⟩
  unfold bCof
  generalize L.getD i.toNat 0 = w at *
  rcases k with ⟨a, b, c⟩ | ⟨a, b⟩
  · rw [if_pos (by omega)]
    exact ⟨c, (hF.1 w a b).2.2⟩
  · rw [if_neg (by omega)]; omega
/-- only the candidate's entry of now has changed -/
theorem bCd_n (hz : br σ 33 q = some (bAi q)) (A1 : bAm1 σ q) (h : ∀ b, b ≠ bNe q → b ≠ bNe q + 18 → b ≠ bNe q + 19 → ∀ j, bi s b j = bi σ b j) (h2 : s.2 = σ.2) : bCd q σ s := by
  have m := bAi_m (q := q)
  have mk : bKe q % 256 = 4 := by unfold bKe; omega
  have kn : bKe q ≠ bNe q ∧ bKe q ≠ bNe q + 18 ∧ bKe q ≠ bNe q + 19 := by unfold bKe bNe; omega
  have an : bAi q ≠ bNe q ∧ bAi q ≠ bNe q + 18 ∧ bAi q ≠ bNe q + 19 := by omega
  have i1 := h (bAi q) an.1 an.2.1 an.2.2
  have i2 := h (bKe q) kn.1 kn.2.1 kn.2.2
  have e33 : ∀ a, br s 33 a = br σ 33 a := fun a => by unfold br; rw [h2]
  refine ⟨fun b hb => ?_, fun a _ _ => e33 a, ?_, fun w => by rw [e33]; exact w, ?_, ?_⟩
  · have nb : b ∉ bAd q := fun w => hb (List.mem_cons_of_mem _ w)
    have : b ≠ bNe q ∧ b ≠ bNe q + 18 ∧ b ≠ bNe q + 19 := by
      unfold bAd bAid at nb
      unfold bNe
      simp only [List.mem_cons, List.not_mem_nil, or_false, not_or] at nb
      omega
    exact ⟨h b this.1 this.2.1 this.2.2, fun _ => by unfold bj; rw [h2], fun _ => by unfold br; rw [h2], by rw [h2]⟩
  · unfold bAm1 bFre at A1 ⊢
    simp only [e33, i1, i2, h2]
    exact A1
  · have : bSo s q = bSo σ q := by unfold bSo; rw [e33]
    rw [this, h2]
    exact Nat.le_refl _
  · have : bSo s q = bSo σ q := by unfold bSo; rw [e33]
    rw [this, h2]
    exact Nat.le_refl _
theorem w85 (hF : bFi σ) (hsb : bi σ 3 3 = bi σ 12 68 ∧ (bi σ 12 68 = 0 ∨ bi σ 12 68 = 1)) (hz : br σ 33 q = some (bAi q)) (A1 : bAm1 σ q) (H : bHas σ q op nu ve ho L) (hl : L.length ≤ 40) (hL : bLok σ L) (hn : (0 ≤ nu ∧ nu < 1000) ∧ 0 ≤ ve ∧ ve < 1000) (h : ∀ s, bCd q σ s → br s 33 q = some (bAi q) → f (bGiv σ op (nu + ve) ho (bCof σ L) L.length) s) : bWp (d + 4) 85 [.ref 6, .ref (bAi q)] σ (bRn f) := by
  obtain ⟨m0, m1, m2, m3⟩ := bAi_m (q := q)
  obtain ⟨h0, h1, h2, h3, h4, h5⟩ := H
  have ee : 256 * (2 * (bAi q / 256) + 0) + 4 = bNe q := by rw [m3]; unfold bNe; omega
  have ea : 256 * (1 * (bNe q / 256) + 0) + 22 = bNe q + 18 := by omega
  have ly : ∀ s : bSt, bLen s (bNe q + 18) = 40 := fun s => bLen_of (k := 22) (by omega) (by decide) rfl
  have ty : bTy (bNe q + 18) = 0 := bTy_of (k := 22) (by omega) rfl
  refine ⟨rfl, fun A hA => sq85_0 (bWp_mono _) hA m0 ?_⟩
  rw [ee, h1]
  refine ⟨m1, ?_⟩
  -- only now has changed
  let Nw : bSt → Prop := fun s => (∀ b, b ≠ bNe q → b ≠ bNe q + 18 → b ≠ bNe q + 19 → ∀ j, bi s b j = bi σ b j) ∧ s.2 = σ.2
  have Lp : ∀ (k i : Nat) (s : bSt) (v3 : Value), i + k = L.length → Nw s → bi s (bNe q) 3 = L.length → (∀ j, 0 ≤ j → j < 3 → bi s (bNe q) j = bi σ (bNe q) j) → (∀ j, 0 ≤ j → j < (i : Int) → bi s (bNe q + 18) j = bCof σ L j) → A (7, [.ref 6, .ref (bAi q), .int (bn i), v3], [], s) := by
    intro k
    induction k with
    | zero =>
      intro i s v3 hi W e3 e02 C
      have ei : i = L.length := by omega
      have w1 : bi s (bAi q) 1 = L.length := (W.1 _ (by omega) (by omega) (by omega) 1).trans h1
      have w0 : bi s (bAi q) 0 = ho := (W.1 _ (by omega) (by omega) (by omega) 0).trans h0
      have us : bUn [4, 22, 23] [] σ s := ⟨fun a q1 _ i => W.1 a (fun w => q1 (by rw [w, m1]; decide)) (fun w => q1 (by rw [w, show (bNe q + 18) % 256 = 22 by omega]; decide)) (fun w => q1 (by rw [w, show (bNe q + 19) % 256 = 23 by omega]; decide)) i, fun i _ _ => W.1 12 (by omega) (by omega) (by omega) i, fun _ _ _ _ => by unfold bj; rw [W.2], fun _ _ _ => by unfold br; rw [W.2], fun _ _ => by rw [W.2]⟩
      have Fs := bFi_un us (by decide) hF
      have s68 : bi s 12 68 = bi σ 12 68 := W.1 12 (by omega) (by omega) (by omega) 68
      have ag : bPag σ s := ⟨fun a ha i => W.1 a (by
        simp only [List.mem_cons, List.not_mem_nil, or_false] at ha
        omega) (by
        simp only [List.mem_cons, List.not_mem_nil, or_false] at ha
        omega) (by
        simp only [List.mem_cons, List.not_mem_nil, or_false] at ha
        omega) i, W.1 12 (by omega) (by omega) (by omega) 17, W.1 12 (by omega) (by omega) (by omega) 22, fun t => W.1 (bTi t) (by have := bTi_m (t := t); omega) (by have := bTi_m (t := t); omega) (by have := bTi_m (t := t); omega) 4⟩
      refine sq85_7 (bWp_mono _) hA ⟨by omega, by omega⟩ ⟨m0, fun w => absurd w (by rw [w1]; omega), fun _ => ?_⟩
      rw [ee, w0]
      refine ⟨m1, w40 (c := bCof σ L) (m := L.length) (op := op) (n := nu + ve) Fs ⟨by rw [s68, W.1 3 (by omega) (by omega) (by omega)]; exact hsb.1, by rw [s68]; exact hsb.2⟩ m1 (h0 ▸ bi_rg _ _ _) (by rw [e02 0 (by decide) (by decide)]; exact h3) (by rw [e02 1 (by decide) (by decide), e02 2 (by decide) (by decide), h4, h5]) (by omega) e3 hl (fun j j0 j1 => ⟨C j j0 (by omega), (bLok_at hF hL j0 j1).2⟩) fun s2 M HF e8 => bRn_i (bi_rg _ _ _) ?_⟩
      rw [e8, bGiv_m ag s68]
      have W2 : Nw s2 := ⟨fun b q1 q2 q3 j => (M.1 b q1 q3 j).trans (W.1 b q1 q2 q3 j), M.2.2.trans W.2⟩
      exact h s2 (bCd_n hz A1 W2.1 W2.2) (by unfold br at hz ⊢; rw [W2.2]; exact hz)
    | succ k ih =>
      intro i s v3 hi W e3 e02 C
      have w1 : bi s (bAi q) 1 = L.length := (W.1 _ (by omega) (by omega) (by omega) 1).trans h1
      have wi : bi s (bAi q + 13) i = L.getD i 0 := by
        rw [W.1 _ (by omega) (by omega) (by omega)]
        have := h2 i (by omega)
        rwa [Int.zero_add] at this
      obtain ⟨lk, c0, c1⟩ := bLok_at hF hL (i := i) (by omega) (by omega)
      have cv : bCof σ L i = if L.getD i 0 < 100 then bi σ 56 (L.getD i 0) else L.getD i 0 - 100 := rfl
      rw [show ((i : Int).toNat) = i from by omega] at lk
      generalize hw : L.getD i 0 = w at *
      have put : ∀ v v3', v = bCof σ L i → bWp (d + 3) 141 [.ref (bNe q + 18), .int (bn i), .int (bn v)] s (bRv fun s11 => bRg ((i : Int) + 1) ∧ A (7, [.ref 6, .ref (bAi q), .int (bn ((i : Int) + 1)), v3'], [], s11)) := fun v v3' hv => by
        refine w141i (n := 40) (by rw [hv]; exact ⟨by omega, by omega⟩) ty (by omega) (ly s) (by decide) (by omega) (by omega) ⟨⟨by omega, by omega⟩, ?_⟩
        have := ih (i + 1) (bw s (bNe q + 18) i v) v3' (by omega) ⟨fun b q1 q2 q3 j => by rw [bi_ne q2]; exact W.1 b q1 q2 q3 j, W.2⟩ (by rw [bi_ne (by omega)]; exact e3) (fun j j0 j1 => by rw [bi_ne (by omega)]; exact e02 j j0 j1) (fun j j0 j1 => by
          rw [bi_bw (by omega) j0 (by rw [hv]; exact ⟨by omega, by omega⟩)]
          by_cases z : j = i
          · rw [if_pos ⟨rfl, z⟩, z]; exact hv
          · rw [if_neg (fun y => z y.2)]; exact C j j0 (by omega))
        rw [show ((i + 1 : Nat) : Int) = (i : Int) + 1 by omega] at this
        exact this
      refine sq85_7 (bWp_mono _) hA ⟨by omega, by omega⟩ ⟨m0, fun _ => w4 m0 (by omega) ⟨by omega, by omega⟩ (by rw [w1]; omega) (fun _ => ?_) (fun y => absurd (show (i : Int) < bi s (bAi q) 1 by rw [w1]; omega) y), fun y => absurd (by rw [w1]; omega) y⟩
      rw [wi, ee, ea]
      refine ⟨m1, fun z => ?_, fun z => ?_⟩
      · rcases lk with ⟨a, b, c⟩ | ⟨a, b⟩
        · refine w31i a b ?_
          rw [W.1 19 (by omega) (by omega) (by omega), (hF.1 w a b).1]
          exact put _ _ (by rw [cv, if_pos z])
        · omega
      · exact ⟨by rcases lk with ⟨a, b, c⟩ | ⟨a, b⟩ <;> exact ⟨by omega, by omega⟩, put _ _ (by rw [cv, if_neg z])⟩
  refine Lp L.length 0 (bw σ (bNe q) 3 L.length) (.float 0) (by omega) ⟨fun b q1 _ _ j => bi_ne q1, rfl⟩ (bi_eq ⟨by omega, by omega⟩) (fun j j0 j1 => bi_nj (by decide) j0 (by omega)) (fun j j0 j1 => by omega)
end

/-! BUILD, 62: the reference forgets, takes bytes, wants, lets time pass, counts -/
/-- what a build of found actions changes in the reference -/
def bqRf (m : Int) (s t : bSt) : Prop := t.2 = s.2 ∧ bUn (140 :: 141 :: bRzK) bRzF s t ∧ ∀ a, 0 ≤ a → m ≤ a → bi t 112 a = bi s 112 a ∧ bi t 114 a = bi s 114 a
section
variable {d lvl : Nat} {σ σ0 σr β s s0 t r s' : bSt} {f g' : Int → bSt → Prop} {fv : bSt → Prop} {A : bPt → Prop} {Z Z0 Y X Zs Zr : bZs} {x y v a b k i q g l : Int} {V W L : List Int} {n n0 m z0 B : Nat} {rk : Int → Nat} {P : Int → Bool} {S : List Nat} {F : List Int} {Q : Int → Prop}
theorem r280 (h : ∀ s, s.2 = σ.2 → bUn bOblK [95, 105, 106] σ s → ((∀ j, 12 ≤ j → bi s 139 j = bi σ 139 j) ∧ ∀ b ∈ [140, 142, 143, 144, 145, 146, 147, 148], ∀ j, 120 ≤ j → bi s b j = bi σ b j) → (∀ k, 0 ≤ k → k < 12 → bi s 139 k = 0) → bObl 120 s → bi s 12 95 = -1 → bi s 12 105 = 0 → bi s 12 106 = 0 → fv s) : bWp (d + 1) 280 [.ref 12] σ (bRv fv) := by
  refine ⟨rfl, fun A hA => sq280_0 (bWp_mono _) hA ?_⟩
  have L2 : ∀ (m : Nat) (l : Int) (s : bSt), l + m = 120 → 0 ≤ l → s.2 = σ.2 → bUn bOblK [95, 105, 106] σ s → ((∀ j, 12 ≤ j → bi s 139 j = bi σ 139 j) ∧ ∀ b ∈ [140, 142, 143, 144, 145, 146, 147, 148], ∀ j, 120 ≤ j → bi s b j = bi σ b j) → (∀ k, 0 ≤ k → k < 12 → bi s 139 k = 0) → bObl l s → bi s 12 95 = -1 → A (17, [.ref 12, .int (bn l)], [], s) := by
    intro m
    induction m with
    | zero =>
      intro l s hl l0 e U N H O e95
      have el : l = 120 := by omega
      rw [el] at O ⊢
      refine sq280_17 (bWp_mono _) hA (by decide) ⟨fun w => absurd w (by decide), fun _ => h _ e (bUn_f (bUn_f U (by decide) (by decide)) (by decide) (by decide)) ⟨fun j hj => by rw [bi_ne (by decide), bi_ne (by decide)]; exact N.1 j hj, fun b hb j hj => by rw [bi_ne (by simp only [List.mem_cons, List.not_mem_nil, or_false] at hb; omega), bi_ne (by simp only [List.mem_cons, List.not_mem_nil, or_false] at hb; omega)]; exact N.2 b hb j hj⟩ (fun k k0 k1 => by rw [bi_ne (by decide), bi_ne (by decide)]; exact H k k0 k1) (fun k k0 k1 => ?_) (by rw [bi_nj (by decide) (by decide) (by decide), bi_nj (by decide) (by decide) (by decide)]; exact e95) (by rw [bi_nj (by decide) (by decide) (by decide), bi_eq (by decide)]) (bi_eq (by decide))⟩
      have e2 : ∀ a, a ≠ 12 → ∀ j, bi (bw (bw s 12 105 0) 12 106 0) a j = bi s a j := fun a q j => by rw [bi_ne q, bi_ne q]
      rw [e2 140 (by decide), e2 142 (by decide), e2 143 (by decide), e2 144 (by decide), e2 145 (by decide), e2 146 (by decide), e2 148 (by decide), e2 147 (by decide)]
      exact O k k0 k1
    | succ m ih =>
      intro l s hl l0 e U N H O e95
      refine sq280_17 (bWp_mono _) hA ⟨by omega, by omega⟩ ⟨fun _ => ⟨⟨l0, by omega⟩, ⟨by omega, by omega⟩, ?_⟩, fun w => absurd (show l < 120 by omega) w⟩
      refine ih (l + 1) _ (by omega) (by omega) e (bUn_w (bUn_w (bUn_w (bUn_w (bUn_w (bUn_w (bUn_w (bUn_w U (by decide) (by decide)) (by decide) (by decide)) (by decide) (by decide)) (by decide) (by decide)) (by decide) (by decide)) (by decide) (by decide)) (by decide) (by decide)) (by decide) (by decide)) ?_ (fun k k0 k1 => ?_) (fun k k0 k1 => ?_) ?_
      · have st : ∀ (s : bSt) (a b : Nat) (v j : Int), 120 ≤ j → bi (bw s b l v) a j = bi s a j := fun s a b v j hj => by
          by_cases q : a = b
          · rw [q]; exact bi_nj l0 (by omega) (by omega)
          · exact bi_ne q
        refine ⟨fun j hj => ?_, fun b hb j hj => by rw [st _ _ _ _ _ hj, st _ _ _ _ _ hj, st _ _ _ _ _ hj, st _ _ _ _ _ hj, st _ _ _ _ _ hj, st _ _ _ _ _ hj, st _ _ _ _ _ hj, st _ _ _ _ _ hj]; exact N.2 b hb j hj⟩
        rw [bi_ne (by decide), bi_ne (by decide), bi_ne (by decide), bi_ne (by decide), bi_ne (by decide), bi_ne (by decide), bi_ne (by decide), bi_ne (by decide)]; exact N.1 j hj
      · rw [bi_ne (by decide), bi_ne (by decide), bi_ne (by decide), bi_ne (by decide), bi_ne (by decide), bi_ne (by decide), bi_ne (by decide), bi_ne (by decide)]; exact H k k0 k1
      · by_cases z : k = l
        · subst z
          refine ⟨?_, ?_, ?_, ?_, ?_, ?_, ?_, ?_⟩
          · rw [bi_ne (by decide), bi_ne (by decide), bi_ne (by decide), bi_ne (by decide), bi_ne (by decide), bi_ne (by decide), bi_ne (by decide), bi_eq (by decide)]
          · rw [bi_ne (by decide), bi_ne (by decide), bi_ne (by decide), bi_ne (by decide), bi_ne (by decide), bi_ne (by decide), bi_eq (by decide)]
          · rw [bi_ne (by decide), bi_ne (by decide), bi_ne (by decide), bi_ne (by decide), bi_ne (by decide), bi_eq (by decide)]
          · rw [bi_ne (by decide), bi_ne (by decide), bi_ne (by decide), bi_ne (by decide), bi_eq (by decide)]
          · rw [bi_ne (by decide), bi_ne (by decide), bi_ne (by decide), bi_eq (by decide)]
          · rw [bi_ne (by decide), bi_ne (by decide), bi_eq (by decide)]
          · rw [bi_ne (by decide), bi_eq (by decide)]
          · rw [bi_eq (by decide)]
        · have o := O k k0 (by omega)
          have st : ∀ (s : bSt) (a b : Nat) (v : Int), bi (bw s b l v) a k = bi s a k := fun s a b v => by
            by_cases q : a = b
            · rw [q]; exact bi_nj l0 k0 z
            · exact bi_ne q
          simp only [st]
          exact o
      · rw [bi_ne (by decide), bi_ne (by decide), bi_ne (by decide), bi_ne (by decide), bi_ne (by decide), bi_ne (by decide), bi_ne (by decide), bi_ne (by decide)]; exact e95
  have L1 : ∀ (m : Nat) (l : Int) (s : bSt), l + m = 12 → 0 ≤ l → s.2 = σ.2 → bUn bOblK [95, 105, 106] σ s → ((∀ j, 12 ≤ j → bi s 139 j = bi σ 139 j) ∧ ∀ b ∈ [140, 142, 143, 144, 145, 146, 147, 148], ∀ j, 120 ≤ j → bi s b j = bi σ b j) → (∀ k, 0 ≤ k → k < l → bi s 139 k = 0) → A (2, [.ref 12, .int (bn l)], [], s) := by
    intro m
    induction m with
    | zero =>
      intro l s hl l0 e U N H
      have el : l = 12 := by omega
      rw [el] at H ⊢
      exact sq280_2 (bWp_mono _) hA (by decide) ⟨fun w => absurd w (by decide), fun _ => L2 120 0 _ (by decide) (by decide) e (bUn_f U (by decide) (by decide)) ⟨fun j hj => by rw [bi_ne (by decide)]; exact N.1 j hj, fun b hb j hj => by rw [bi_ne (by simp only [List.mem_cons, List.not_mem_nil, or_false] at hb; omega)]; exact N.2 b hb j hj⟩ (fun k k0 k1 => by rw [bi_ne (by decide)]; exact H k k0 k1) (fun k k0 k1 => by omega) (bi_eq (by decide))⟩
    | succ m ih =>
      intro l s hl l0 e U N H
      refine sq280_2 (bWp_mono _) hA ⟨by omega, by omega⟩ ⟨fun _ => ⟨⟨l0, by omega⟩, ⟨by omega, by omega⟩, ih (l + 1) _ (by omega) (by omega) e (bUn_w U (by decide) (by decide)) ⟨fun j hj => by rw [bi_nj l0 (by omega) (by omega)]; exact N.1 j hj, fun b hb j hj => by rw [bi_ne (by simp only [List.mem_cons, List.not_mem_nil, or_false] at hb; omega)]; exact N.2 b hb j hj⟩ (fun k k0 k1 => ?_)⟩, fun w => absurd (show l < 12 by omega) w⟩
      by_cases z : k = l
      · rw [z, bi_eq (by decide)]
      · rw [bi_nj l0 k0 z]; exact H k k0 (by omega)
  exact L1 12 0 σ (by decide) (by decide) rfl bUn_refl ⟨fun _ _ => rfl, fun _ _ _ _ => rfl⟩ (fun k k0 k1 => by omega)
theorem bzA_u2 (E : bzA σ s) (U : bUn S F s t) (hS : ∀ k ∈ [8, 56, 57, 71, 72, 73, 74, 75, 77, 78, 80, 81, 82, 83, 84, 85, 86, 87, 88, 89, 90, 91, 136], k ∉ S) (hF : ∀ k ∈ [17, 22, 68, 87, 88], k ∉ F) : bzA σ t := by
  obtain ⟨e1, e2, e3, e4, e5⟩ := E
  have ag : bPag s t := bmUn_pagR U (fun k hk => hS k (by simp only [List.mem_cons, List.not_mem_nil, or_false] at hk ⊢; omega)) ⟨hF 17 (by decide), hF 22 (by decide)⟩
  refine ⟨⟨fun b hb j => (ag.1 b hb j).trans (e1.1 b hb j), ag.2.1.trans e1.2.1, ag.2.2.1.trans e1.2.2.1, fun t => (ag.2.2.2 t).trans (e1.2.2.2 t)⟩, fun b hb j => (U.1 b ?_ ?_ j).trans (e2 b hb j), (U.2.1 68 (by decide) (hF 68 (by decide))).trans e3, (U.2.1 87 (by decide) (hF 87 (by decide))).trans e4, (U.2.1 88 (by decide) (hF 88 (by decide))).trans e5⟩
  · rw [Nat.mod_eq_of_lt (by simp only [List.mem_cons, List.not_mem_nil, or_false] at hb; omega)]
    exact hS b (by simp only [List.mem_cons, List.not_mem_nil, or_false] at hb ⊢; omega)
  · simp only [List.mem_cons, List.not_mem_nil, or_false] at hb; omega
theorem bCn_16 (h : ∀ t, (k.toNat : Int) ≤ t → t < 16 → P t = false) (j : Nat) : k.toNat + j ≤ 16 → bCnp P (k.toNat + j) = bCnp P k.toNat := by
  induction j with
  | zero => exact fun _ => rfl
  | succ j ih =>
    intro hj
    show (if P ((k.toNat + j : Nat) : Int) = true then 1 else 0) + bCnp P (k.toNat + j) = _
    rw [h _ (by omega) (by omega), ih (by omega)]
    exact Int.zero_add _
theorem r286w (rx : bRg x) (rg : bRg g) (rl : bRg l) (hk : k ≠ 0) (rk' : bRg k) (h : ∀ t, t.2 = s.2 → bUn bOblK [95, 105, 106] s t → ((∀ j, 12 ≤ j → bi t 139 j = bi s 139 j) ∧ ∀ b ∈ [140, 142, 143, 144, 145, 146, 147, 148], ∀ j, 120 ≤ j → bi t b j = bi s b j) → (∀ k, 0 ≤ k → k < 12 → bi t 139 k = 0) → bObl 120 t → bi t 12 95 = -1 → f (-1) t) : bWp (d + 2) 286 [.ref 12, .int (bn x), .int (bn k), .int (bn g), .int (bn l)] s (bRn f) :=
  ⟨rfl, fun A hA => sq286_0 (bWp_mono _) hA rx rk' rg rl (r280 (d := d) fun t h1 h2 h3 h4 h5 h6 _ _ => ⟨fun q => absurd q hk, fun _ => bRn_i (by decide) (h t h1 h2 h3 h4 h5 h6)⟩)⟩
theorem r286 (hL : bTl s) (hF : bFi s) (tc : 0 ≤ bi s 12 22 ∧ bi s 12 22 ≤ 16) (Ab : bzA β s) (hFβ : bFi β) (R : bmR z0 V Z m σr s) (I0 : bmI0 rk m Z) (I1 : bmI1 β V rk m Z) (Cl : bmCl β V) (hT : bTg β) (hV : V = bmOd β P 16) (M : bqM z0 m (bqS σ0 Zr) Z) (BI : bzI β m (bqT β m Z)) (BR : bzRn0 rk m (bqT β m Z)) (Wc : bmWc β m (bmBy β 48 (bqA Z)))
    (eS : ∀ c ∈ [112, 134, 135, 137, 138, 142, 143, 144, 145, 146, 147, 148], ∀ j, bi s c j = bi σ0 c j) (e10 : bi s 10 0 = bi β 10 0) (z139 : ∀ j, 12 ≤ j → bi s 139 j = 0) (Rk : bzRk z0 Zr s) (Rc : bzRc Zr s) (r114 : ∀ a, 0 ≤ a → a < 120 → 0 ≤ bi s 114 a ∧ bi s 114 a ≤ 48) (B1 : bi s 12 73 ≤ B) (B2 : B ≤ 1000000) (rx : bRg x)
    (hP : ∀ t, 0 ≤ t → t < 16 → (P t = true ↔ t < bi s 12 22 ∧ bAnd (bShr x t) 1 = 1 ∧ bi s 95 (256 * t + bi s 10 0) = 0)) (hPs : ∀ t, 0 ≤ t → t < 16 → P t = true → bTgk β t ∧ bFx β (t * 256 + bi β 10 0) = 0) (hLβ : bTl β) (rg : bRg g) (l0 : 0 ≤ l ∧ l < 1000)
    (h : ∀ t, bzR0 β m (bzAl β m g l (bqT β m Z)) t → bqRf m s t → bi t 12 73 ≤ B + 360 → f (bCnp (fun t' => P t' && decide (bzD (bzAl β m g l (bqT β m Z)) (Z.1 99 (t' * 256 + bi β 10 0)))) 16) t) : bWp (d + 11) 286 [.ref 12, .int (bn x), .int (bn 0), .int (bn g), .int (bn l)] s (bRn f) := by
  have m120 := I0.1.2.1
  have rl : bRg l := ⟨by omega, by omega⟩
  have hc : 0 ≤ bi s 10 0 ∧ bi s 10 0 < 256 := by
    have e := hL.2.2.2
    have a0 := hL.2.2.1 0 (by decide) (by decide)
    have a1 := hL.2.2.1 1 (by decide) (by decide)
    have a2 := hL.2.2.1 2 (by decide) (by decide)
    have a3 := hL.2.2.1 3 (by decide) (by decide)
    omega
  obtain ⟨_, _, inV⟩ := bmOd_w (σ := β) (P := P) hLβ hT hPs 16 (Nat.le_refl _)
  rw [← hV] at inV
  obtain ⟨s1', s2', s3', s4', s5', s6'⟩ := bqS_e (σ := σ0) (Z := Zr)
  obtain ⟨T1, T2, T3⟩ := bqT_u (σ := β) (n := m) (Z := Z)
  obtain ⟨By1, By2⟩ := bmBy_u (σ := β) (Z := bqA Z) 48
  obtain ⟨A1, A2, A3⟩ := bqA_e (Z := Z)
  have row : ∀ c, c ∉ [49, 99, 101, 102, 103, 104, 105, 106, 107, 109, 134, 140, 141] → ∀ j, (bqT β m Z).1 c j = (bqS σ0 Zr).1 c j := fun c hc j => by
    simp only [List.mem_cons, List.not_mem_nil, or_false, not_or] at hc
    rw [T1 c (by simp only [List.mem_cons, List.not_mem_nil, or_false]; omega), M.2.1 c (by simp only [List.mem_cons, List.not_mem_nil, or_false]; omega)]
  have zb : ∀ c, c ≠ 134 → c ≠ 140 → ∀ j, (bmBy β 48 (bqA Z)).1 c j = Z.1 c j := fun c c1 c2 j => by rw [By1 c (by simp only [List.mem_cons, List.not_mem_nil, or_false]; exact c1), A1 c c2]
  have zb140 : ∀ j, (bmBy β 48 (bqA Z)).1 140 j = Z.1 109 j := fun j => by rw [By1 140 (by decide), A2]
  refine ⟨rfl, fun A hA => sq286_0 (bWp_mono _) hA rx (by decide) rg rl (r280 (d := d + 9) fun t1 e2 U1 N1 N139 Ob e95 e105 e106 => ⟨fun _ => ?_, fun q => absurd rfl q⟩)⟩
  have k1 : ∀ b, b ∉ bOblK → b < 256 → b ≠ 12 → ∀ j, bi t1 b j = bi s b j := fun b hb h1 h2 j => U1.1 b (by rw [Nat.mod_eq_of_lt h1]; exact hb) (by rw [Nat.mod_eq_of_lt h1]; exact h2) j
  have e56 : ∀ p, bi t1 56 p = bi β 56 p := fun p => (k1 56 (by decide) (by decide) (by decide) p).trans (Ab.1.1 56 (by decide) p)
  -- the bytes of files
  have Lb : ∀ (k p : Nat) (t : bSt) (v6 v7 : Value), p + k = 48 → t.2 = t1.2 → (∀ b, b ≠ 134 → ∀ j, bi t b j = bi t1 b j) → (∀ j, 0 ≤ j → bi t 134 j = (bmBy β p (bqA Z)).1 134 j) → A (8, [.ref 12, .int (bn x), .int (bn 0), .int (bn g), .int (bn l), .int (bn p), v6, v7], [], t) := by
    intro k
    induction k with
    | zero =>
      intro p t v6 v7 hp et tn t134
      have ep : p = 48 := by omega
      subst ep
      have k2 : ∀ b, b ∉ bOblK → b ≠ 134 → b < 256 → b ≠ 12 → ∀ j, bi t b j = bi s b j := fun b hb h0 h1 h2 j => (tn b h0 j).trans (k1 b hb h1 h2 j)
      have k12 : ∀ j, 0 ≤ j → j ∉ ([95, 105, 106] : List Int) → bi t 12 j = bi s 12 j := fun j j0 hj => (tn 12 (by decide) j).trans (U1.2.1 j j0 hj)
      have U2 : bUn (134 :: bOblK) [95, 105, 106] s t := bUn_trans (bUn_mono U1 (fun k hk => List.mem_cons_of_mem _ hk) (fun _ h => h)) ⟨fun b q1 _ j => tn b (fun e => q1 (by rw [e]; exact List.mem_cons_self)) j, fun j _ _ => tn 12 (by decide) j, fun b _ _ j => by unfold bj; rw [et], fun b _ j => by unfold br; rw [et], fun b _ => by rw [et]⟩
      have L2 := bTl_un U2 (by decide) (by decide) hL
      have c22 : bi t 12 22 = bi s 12 22 := k12 22 (by decide) (by decide)
      have c10 : bi t 10 0 = bi s 10 0 := k2 10 (by decide) (by decide) (by decide) (by decide) 0
      have c99 : ∀ j, bi t 99 j = bi s 99 j := k2 99 (by decide) (by decide) (by decide) (by decide)
      refine sq286_8 (bWp_mono _) hA rx rg rl (by decide) ⟨fun y => absurd y (by decide), fun _ => ?_⟩
      refine r287 (d := d + 8) (σ := β) (n := m) (Z := bmBy β 48 (bqA Z)) (P := P) L2 (by rw [c22]; exact tc) ⟨m120, fun a a0 am => ?_⟩ (by rw [k12 49 (by decide) (by decide)]; exact R.2.1) (fun a a0 am => ?_) (fun a a0 am => ?_) rx (fun t' t0 t1' => ?_) (fun t' t0 t1' tp => ?_) (fun a a0 am => ?_) Wc (fun j => ?_) (fun U hU1 hU2 a a0 am ha => ?_) fun t3 W3 E3 _ => ?_
      · simp only [zb 101 (by decide) (by decide), zb 102 (by decide) (by decide), zb 103 (by decide) (by decide), zb 104 (by decide) (by decide), zb 105 (by decide) (by decide), zb 106 (by decide) (by decide)]
        exact I0.1.2.2 a a0 am
      · rw [k2 105 (by decide) (by decide) (by decide) (by decide), k2 107 (by decide) (by decide) (by decide) (by decide), zb 105 (by decide) (by decide), zb 107 (by decide) (by decide)]
        exact ⟨(R.2.2.1 a a0 am).1 105 (by decide), (R.2.2.2.1 a a0 (by omega)).1, fun i i0 i1 => by rw [k2 106 (by decide) (by decide) (by decide) (by decide), zb 106 (by decide) (by decide)]; exact (R.2.2.1 a a0 am).2.1 i i0 i1⟩
      · rw [tn 140 (by decide)]; exact (Ob a a0 (by omega)).1
      · rw [c22, c10, k2 95 (by decide) (by decide) (by decide) (by decide)]; exact hP t' t0 t1'
      · have hy := inV t' t0 t1' tp
        rw [c10, e10, c99, show 256 * t' + bi β 10 0 = t' * 256 + bi β 10 0 by omega, R.2.2.2.2.1 _ hy]
        obtain ⟨_, my, _⟩ := I1.1 _ hy
        refine ⟨my, ?_⟩
        rw [zb140]
        exact (I1.2 _).2.1.2 ⟨_, hy, rfl⟩
      · rw [zb140, zb 141 (by decide) (by decide), zb 107 (by decide) (by decide), M.2.1 141 (by decide), s2' 141 (by decide)]
        exact ⟨(I1.2 a).1, rfl, fun q => (bqWc hT I1 Cl hFβ a a0 am q).2.2.1⟩
      · rw [k2 90 (by decide) (by decide) (by decide) (by decide)]; exact Ab.2.1 90 (by decide) j
      · rw [zb140] at ha
        obtain ⟨y, hy, ey⟩ := (I1.2 a).2.1.1 ha
        rw [← ey]
        refine bqCl (U := U) hT I1 Cl hV (fun t' t0 t1' tp => ⟨inV t' t0 t1' tp, ?_⟩) (fun a a0 am ua i i0 i1 i2 => ?_) y hy
        · have h1 := hU1 t' t0 t1' tp
          rw [c10, e10, c99, show 256 * t' + bi β 10 0 = t' * 256 + bi β 10 0 by omega, R.2.2.2.2.1 _ (inV t' t0 t1' tp)] at h1
          exact h1
        · have := hU2 a a0 am ua i i0 (by rw [zb 105 (by decide) (by decide)]; exact i1) (by rw [zb 106 (by decide) (by decide)]; exact i2)
          rw [zb 106 (by decide) (by decide)] at this
          exact this
      -- time
      have k3 : ∀ b, b ∉ bOblK → b ∉ [134, 140, 141] → b < 256 → b ≠ 12 → ∀ j, bi t3 b j = bi s b j := fun b hb h0 h1 h2 j => by
        simp only [List.mem_cons, List.not_mem_nil, or_false, not_or] at h0
        rw [W3.2.1 b (by rw [Nat.mod_eq_of_lt h1]; simp only [List.mem_cons, List.not_mem_nil, or_false, not_or]; omega) (by rw [Nat.mod_eq_of_lt h1]; exact h2)]
        exact k2 b hb h0.1 h1 h2 j
      have k312 : ∀ j, 0 ≤ j → bi t3 12 j = bi t1 12 j := fun j j0 => (W3.2.2.1 j j0 List.not_mem_nil).trans (tn 12 (by decide) j)
      have k31 : ∀ b, b ∉ [134, 140, 141] → b < 256 → b ≠ 12 → ∀ j, bi t3 b j = bi t1 b j := fun b h0 h1 h2 j => by
        simp only [List.mem_cons, List.not_mem_nil, or_false, not_or] at h0
        rw [W3.2.1 b (by rw [Nat.mod_eq_of_lt h1]; simp only [List.mem_cons, List.not_mem_nil, or_false, not_or]; omega) (by rw [Nat.mod_eq_of_lt h1]; exact h2)]
        exact tn b h0.1 j
      have U3 : bUn (140 :: 141 :: bRzK) bRzF s t3 := bUn_trans (bUn_mono U2 (by decide) (by decide)) (bUn_mono W3.2 (by decide) (by decide))
      have e23 : t3.2 = s.2 := W3.1.trans (et.trans e2)
      have Re : bzRe β m (bqT β m Z) t3 := by
        refine ⟨bzA_u2 Ab U3 (by decide) (by decide), bFi_un U3 (by decide) hF, ?_, fun a a0 am => ⟨fun b hb => ?_, fun i i0 i1 => ?_⟩⟩
        · rw [k312 49 (by decide), U1.2.1 49 (by decide) (by decide)]; exact R.2.1
        · obtain ⟨E140, E141⟩ := E3 a a0 am
          simp only [List.mem_cons, List.not_mem_nil, or_false] at hb
          have low : ∀ c ∈ [101, 102, 103, 104, 105], bi t3 c a = (bqT β m Z).1 c a := fun c hc => by
            have hc' := hc
            simp only [List.mem_cons, List.not_mem_nil, or_false] at hc'
            rw [k3 c (by unfold bOblK; simp only [List.mem_cons, List.not_mem_nil, or_false, not_or]; omega) (by simp only [List.mem_cons, List.not_mem_nil, or_false, not_or]; omega) (by omega) (by omega), T1 c (by simp only [List.mem_cons, List.not_mem_nil, or_false, not_or]; omega)]
            exact (R.2.2.1 a a0 am).1 c hc
          rcases hb with rfl | rfl | rfl | rfl | rfl | rfl | rfl | rfl | rfl
          · exact low _ (by decide)
          · exact low _ (by decide)
          · exact low _ (by decide)
          · exact low _ (by decide)
          · exact low _ (by decide)
          · rw [k3 107 (by decide) (by decide) (by decide) (by decide), T1 107 (by decide)]
            exact (R.2.2.2.1 a a0 (by omega)).1
          · rw [k3 112 (by decide) (by decide) (by decide) (by decide), row 112 (by decide), s5' 112 (by decide)]
            exact eS 112 (by decide) a
          · rw [E140, T2, zb140]
          · exact E141
        · rw [T1 105 (by decide)] at i1
          rw [k3 106 (by decide) (by decide) (by decide) (by decide), T1 106 (by decide)]
          exact (R.2.2.1 a a0 am).2.1 i i0 i1
      have Rk3 : bzRk m (bqT β m Z) t3 := fun a a0 am => by
        rw [T3]
        have kk : ∀ b ∈ bRkK, ∀ j, bi t3 b j = bi s b j := fun b hb => by
          unfold bRkK at hb
          simp only [List.mem_cons, List.not_mem_nil, or_false] at hb
          exact k3 b (by unfold bOblK; simp only [List.mem_cons, List.not_mem_nil, or_false, not_or]; omega) (by simp only [List.mem_cons, List.not_mem_nil, or_false, not_or]; omega) (by omega) (by omega)
        by_cases q : a < (z0 : Int)
        · rw [M.2.2.2.1 a q, s6']
          have := bzRk_u (Y := Zr) Rk kk rfl a a0 q
          exact this
        · rw [M.2.2.2.2.1 a (by omega) am]
          have r := (R.2.2.1 a a0 am).2.2 (by omega)
          refine ⟨fun _ => ?_, fun K hK => by cases hK⟩
          rw [kk 110 (by decide), kk 111 (by decide), kk 114 (by decide)]
          exact ⟨r.1, r.2, r114 a a0 (by omega)⟩
      have Ry3 : bzRy (bqT β m Z) t3 := by
        refine ⟨fun b hb j j0 => ?_, ?_, ?_, ?_⟩
        · simp only [List.mem_cons, List.not_mem_nil, or_false] at hb
          by_cases h134 : b = 134
          · rw [h134, W3.2.1 134 (by decide) (by decide), t134 j j0]
            exact ((bmWd_u (σ := β) m (bmBy β 48 (bqA Z))).1 134 (by decide) j).symm
          by_cases h139 : b = 139
          · rw [h139, row 139 (by decide), s2' 139 (by decide), k31 139 (by decide) (by decide) (by decide)]
            by_cases q : j < 12
            · exact N139 j j0 q
            · rw [N1.1 j (by omega)]; exact z139 j (by omega)
          by_cases h142 : 142 ≤ b
          · rw [row b (by simp only [List.mem_cons, List.not_mem_nil, or_false, not_or]; omega), s4' b h142 (by omega) j j0, k31 b (by simp only [List.mem_cons, List.not_mem_nil, or_false, not_or]; omega) (by omega) (by omega)]
            by_cases q : j < 120
            · rw [if_pos q]
              obtain ⟨o0, o2, o3, o4, o5, o6, o8, o7⟩ := Ob j j0 q
              rcases hb with rfl | rfl | rfl | rfl | rfl | rfl | rfl | rfl | rfl | rfl | rfl | rfl
              · omega
              · omega
              · omega
              · omega
              · omega
              · exact o2
              · exact o3
              · exact o4
              · exact o5
              · exact o6
              · exact o7
              · exact o8
            · rw [if_neg q, N1.2 b (by simp only [List.mem_cons, List.not_mem_nil, or_false]; omega) j (by omega)]
              exact eS b (by simp only [List.mem_cons, List.not_mem_nil, or_false]; omega) j
          · rw [row b (by simp only [List.mem_cons, List.not_mem_nil, or_false, not_or]; omega), s5' b (by simp only [List.mem_cons, List.not_mem_nil, or_false]; omega), k3 b (by unfold bOblK; simp only [List.mem_cons, List.not_mem_nil, or_false, not_or]; omega) (by simp only [List.mem_cons, List.not_mem_nil, or_false, not_or]; omega) (by omega) (by omega)]
            exact eS b (by simp only [List.mem_cons, List.not_mem_nil, or_false]; omega) j
        · rw [k312 105 (by decide), e105, row 305 (by decide), s2' 305 (by decide)]
        · rw [k312 106 (by decide), e106, row 306 (by decide), s2' 306 (by decide)]
        · rw [k312 95 (by decide), e95, row 395 (by decide), s3']
      have c73 : bi t3 12 73 = bi s 12 73 := by rw [k312 73 (by decide)]; exact U1.2.1 73 (by decide) (by decide)
      have Rc3 : bzRc (bqT β m Z) t3 := bzRc_u Rc (fun b hb => by
        unfold bPuK at hb
        simp only [List.mem_cons, List.not_mem_nil, or_false] at hb
        exact k3 b (by unfold bOblK; simp only [List.mem_cons, List.not_mem_nil, or_false, not_or]; omega) (by simp only [List.mem_cons, List.not_mem_nil, or_false, not_or]; omega) (by omega) (by omega)) c73 (by rw [T3, M.2.2.1.1, s6']) (by rw [T3, M.2.2.1.2, s6'])
      have nb0 := (bzNb_b (n := m) (Z := bqT β m Z)).1
      have ne0 := (bzNe_b (n := m) (Z := bqT β m Z)).1
      refine r288 (d := d) (rk := rk) (B := B) BI BR ⟨⟨Re, Rk3, Ry3, Rc3⟩, fun a a0 am q => ?_, by omega⟩ B2 rg l0 fun t4 R4 F4 c4 => ?_
      · have e143 : (bqT β m Z).1 143 a = -1 := by rw [row 143 (by decide), s4' 143 (by decide) (by decide) a a0, if_pos (by omega)]; rfl
        exact absurd e143 q.2.1
      have FF : bqRf m s t4 := ⟨F4.1.trans e23, bUn_trans U3 (bUn_mono F4.2.1 (fun k hk => List.mem_cons_of_mem _ (List.mem_cons_of_mem _ hk)) (fun _ h => h)), fun a a0 am => by
        have := F4.2.2 a a0 (by rw [k312 49 (by decide), U1.2.1 49 (by decide) (by decide), R.2.1]; exact am)
        rw [this.1, this.2, k3 112 (by decide) (by decide) (by decide) (by decide), k3 114 (by decide) (by decide) (by decide) (by decide)]
        exact ⟨rfl, rfl⟩⟩
      have hfin := h t4 R4 FF c4
      -- the count
      have U4 := FF.2.1
      have L4 := bTl_un U4 (by decide) (by decide) hL
      have d22 : bi t4 12 22 = bi s 12 22 := U4.2.1 22 (by decide) (by decide)
      have d10 : bi t4 10 0 = bi s 10 0 := U4.1 10 (by decide) (by decide) 0
      have d95 : ∀ j, bi t4 95 j = bi s 95 j := U4.1 95 (by decide) (by decide)
      have d99 : ∀ j, bi t4 99 j = bi s 99 j := U4.1 99 (by decide) (by decide)
      have off : ∀ t', ((bi s 12 22).toNat : Int) ≤ t' → t' < 16 → (P t' && decide (bzD (bzAl β m g l (bqT β m Z)) (Z.1 99 (t' * 256 + bi β 10 0)))) = false := fun t' h1 h2 => by
        have : P t' = false := Bool.eq_false_iff.2 fun w => by
          have := ((hP t' (by omega) h2).1 w).1
          omega
        rw [this]; rfl
      have c16 := bCn_16 (P := fun t' => P t' && decide (bzD (bzAl β m g l (bqT β m Z)) (Z.1 99 (t' * 256 + bi β 10 0)))) (k := bi s 12 22) off (16 - (bi s 12 22).toNat) (by omega)
      rw [show (bi s 12 22).toNat + (16 - (bi s 12 22).toNat) = 16 by omega] at c16
      rw [c16] at hfin
      have Lc : ∀ (k q : Nat) (v4 v7 : Value), (q : Int) + k = bi s 12 22 → A (38, [.ref 12, .int (bn x), .int (bn 0), .int (bn g), v4, .int (bn (bCnp (fun t' => P t' && decide (bzD (bzAl β m g l (bqT β m Z)) (Z.1 99 (t' * 256 + bi β 10 0)))) q)), .int (bn q), v7], [], t4) := by
        intro k
        induction k with
        | zero =>
          intro q v4 v7 hq
          have eq : (bi s 12 22).toNat = q := by omega
          rw [eq] at hfin
          have b := bCn_b (P := fun t' => P t' && decide (bzD (bzAl β m g l (bqT β m Z)) (Z.1 99 (t' * 256 + bi β 10 0)))) q
          exact sq286_38 (bWp_mono _) hA rx ⟨by omega, by omega⟩ ⟨by omega, by omega⟩ ⟨fun y => absurd y (by rw [d22]; omega), fun _ => bRn_i ⟨by omega, by omega⟩ hfin⟩
        | succ k ih =>
          intro q v4 v7 hq
          have q16 : (q : Int) < 16 := by omega
          have b := bCn_b (P := fun t' => P t' && decide (bzD (bzAl β m g l (bqT β m Z)) (Z.1 99 (t' * 256 + bi β 10 0)))) q
          have rq : bRg ((q : Int) + 1) := ⟨by omega, by omega⟩
          have uC : bCnp (fun t' => P t' && decide (bzD (bzAl β m g l (bqT β m Z)) (Z.1 99 (t' * 256 + bi β 10 0)))) (q + 1) = (if (P q && decide (bzD (bzAl β m g l (bqT β m Z)) (Z.1 99 ((q : Int) * 256 + bi β 10 0)))) = true then 1 else 0) + bCnp (fun t' => P t' && decide (bzD (bzAl β m g l (bqT β m Z)) (Z.1 99 (t' * 256 + bi β 10 0)))) q := rfl
          have nx := fun v4 v7 => ih (q + 1) v4 v7 (by omega)
          rw [uC, show ((q + 1 : Nat) : Int) = (q : Int) + 1 by omega] at nx
          generalize bCnp (fun t' => P t' && decide (bzD (bzAl β m g l (bqT β m Z)) (Z.1 99 (t' * 256 + bi β 10 0)))) q = w at *
          have hp := hP q (by omega) q16
          have no : (P q && decide (bzD (bzAl β m g l (bqT β m Z)) (Z.1 99 ((q : Int) * 256 + bi β 10 0)))) = false → ∀ v4 v7, bRg (w + 0) ∧ bRg ((q : Int) + 1) ∧ A (38, [.ref 12, .int (bn x), .int (bn 0), .int (bn g), v4, .int (bn (w + 0)), .int (bn ((q : Int) + 1)), v7], [], t4) := fun hf v4 v7 => by
            rw [if_neg (by rw [hf]; decide), Int.add_comm] at nx
            exact ⟨⟨by omega, by omega⟩, rq, nx v4 v7⟩
          refine sq286_38 (bWp_mono _) hA rx ⟨by omega, by omega⟩ ⟨by omega, by omega⟩ ⟨fun _ => ⟨⟨by omega, by omega⟩, w238 (d := d + 9) L4 ?_⟩, fun y => absurd (by rw [d22]; omega) y⟩
          rw [d10, d95, d99]
          refine ⟨⟨by omega, by omega⟩, fun y => ⟨⟨by omega, by omega⟩, fun z => ?_, fun z => no (by rw [Bool.eq_false_iff.2 fun w => z (hp.1 w).2.2]; rfl) _ _⟩, fun y => no (by rw [Bool.eq_false_iff.2 fun w => y (hp.1 w).2.1]; rfl) _ _⟩
          have tp : P q = true := hp.2 ⟨by omega, y, z⟩
          have hy := inV q (by omega) q16 tp
          obtain ⟨_, my, _⟩ := I1.1 _ hy
          rw [e10, show 256 * (q : Int) + bi β 10 0 = (q : Int) * 256 + bi β 10 0 by omega, R.2.2.2.2.1 _ hy]
          refine r281 (d := d + 8) R4.2.2.1 my.1 (by omega) ?_
          by_cases dn : bzD (bzAl β m g l (bqT β m Z)) (Z.1 99 ((q : Int) * 256 + bi β 10 0))
          · rw [if_pos dn]
            rw [if_pos (by rw [tp, decide_eq_true dn]; rfl), Int.add_comm] at nx
            exact ⟨fun q => absurd q (by decide), fun _ => ⟨⟨by omega, by omega⟩, rq, nx _ _⟩⟩
          · rw [if_neg dn]
            exact ⟨fun _ => no (by rw [tp, decide_eq_false dn]; rfl) _ _, fun q => absurd rfl q⟩
      have := Lc (bi s 12 22).toNat 0 (.int (bn l)) v7 (by omega)
      exact this
    | succ k ih =>
      intro p t v6 v7 hp et tn t134
      have nx := ih (p + 1)
      have uB : bmBy β (p + 1) (bqA Z) = if bi β 56 p = -1 then bmBy β p (bqA Z) else zw (bmBy β p (bqA Z)) 134 (bi β 56 p) 1 := rfl
      rw [uB, show ((p + 1 : Nat) : Int) = (p : Int) + 1 by omega] at nx
      have fp := hFβ.1 p (by omega) (by omega)
      refine sq286_8 (bWp_mono _) hA rx rg rl ⟨by omega, by omega⟩ ⟨fun _ => ⟨⟨by omega, by omega⟩, ?_⟩, fun y => absurd (by omega) y⟩
      rw [tn 56 (by decide), e56]
      refine ⟨fun z => ⟨⟨by omega, by omega⟩, ?_⟩, fun z => ⟨⟨by omega, by omega⟩, ⟨by omega, by omega⟩, ?_⟩⟩
      · rw [if_pos z] at nx
        exact nx t v6 v7 (by omega) et tn t134
      · rw [if_neg z] at nx
        refine nx _ v6 v7 (by omega) et (fun b hb j => by rw [bi_ne hb]; exact tn b hb j) fun j j0 => ?_
        rw [bi_bw (by omega) j0 (by decide), zw_w]
        simp only [true_and]
        by_cases e : j = bi β 56 p
        · rw [if_pos e, if_pos e]
        · rw [if_neg e, if_neg e]; exact t134 j j0
  have := Lb 48 0 t1 (.float 0) (.float 0) (by decide) rfl (fun _ _ _ => rfl) (fun j j0 => ?_)
  · exact this
  · show bi t1 134 j = (bqA Z).1 134 j
    rw [k1 134 (by decide) (by decide) (by decide), A1 134 (by decide), M.2.1 134 (by decide), s5' 134 (by decide)]
    exact eS 134 (by decide) j
end

/-! BUILD, 60: the class: all found, a build's time -/
/-- what is kept of action a, in the class -/
def bqK (Z : bZs) (s : bSt) (a : Int) : Prop := (Z.2.2.2 a = none → bi s (bKe a) 0 = -1 ∧ bi s (bKe a) 5 = 0 ∧ bi s (bKe a) 8 = -1) ∧ ∀ K, Z.2.2.2 a = some K → bzEk s (bKe a) K ∧ bi s (bKe a) 8 = bKv K
/-- workers, bytes and figures between calls -/
def bqW (σ : bSt) : Prop := (∀ w, 0 ≤ w → w < 12 → bi σ 18 w = 0 ∧ bi σ 138 w = 0 ∧ -1 ≤ bi σ 137 w ∧ bi σ 137 w < 1000) ∧ (∀ x, 0 ≤ x → x < 1000 → bi σ 15 x = bi σ 134 x ∧ (bi σ 134 x = 0 ∨ bi σ 134 x = 1)) ∧ ∀ j, 12 ≤ j → bi σ 139 j = 0
section
variable {d lvl : Nat} {σ σ0 β s s0 t r s' : bSt} {f g' : Int → bSt → Prop} {fv : bSt → Prop} {A : bPt → Prop} {Z Z0 Y X Zs Zr : bZs} {x y v a b k i q g l : Int} {V W L : List Int} {n n0 m z0 : Nat} {rk : Int → Nat} {P : Int → Bool} {N F : List bKy} {as : List Value} {R : bPost}
/-- counters only grow -/
theorem bWp_up (h : bWp d n as σ R) : bWp d n as σ (fun o s => R o s ∧ bLe σ s) := by
  obtain ⟨o, s, h1, h2, h3⟩ := bWp_det d _ _ _ _ h
  exact bWp_mono d _ _ _ _ _ (fun o' s' ⟨e1, e2⟩ => by rw [e1, e2]; exact ⟨h1, h2⟩) h3
theorem bWp_n (h : bWp d n as σ (bRn f)) (k : ∀ r t, f r t → bLe σ t → g' r t) : bWp d n as σ (bRn g') :=
  bWp_mono d _ _ _ _ _ (fun o s ⟨h1, h2⟩ => bRn_e (f := fun r t => f r t ∧ bLe σ t) (R := bRn g') (fun r t rr hh => bRn_i rr (k r t hh.1 hh.2)) o s (by
    unfold bRn bRi at h1 ⊢
    split at h1
    · exact ⟨h1, h2⟩
    · exact h1.elim)) (bWp_up h)
/-- caches stand -/
theorem bqCh (h : bzCh s N F) (le : s.2.2.2.2.1 ≤ t.2.2.2.2.1) (e : ∀ x, (bzTc x ∨ x ∈ [1, 257, 14, 270]) → (∀ j, bi t x j = bi s x j) ∧ (∀ j, br t x j = br s x j) ∧ t.2.2.2.1 x = s.2.2.2.1 x) : bzCh t N F := by
  obtain ⟨⟨a1, a2⟩, ⟨a3, a4⟩, a5, a6⟩ := h
  have cr : ∀ b cap L, (b = 1 ∨ b = 257) → bzCr s b cap L → bzCr t b cap L := fun b cap L hb C => by
    obtain ⟨C2, C3, C4, C5⟩ := C
    have rr : ∀ j, br t (b + 13) j = br s (b + 13) j := (e (b + 13) (Or.inr (by rcases hb with rfl | rfl <;> decide))).2.1
    refine ⟨C2, fun i hi z hz => ?_, fun i j hi hj z => ?_, fun i K hK => ?_⟩
    · rw [rr] at hz
      have c3 := C3 i hi z hz
      exact ⟨c3.1, by rw [(e z (Or.inl (bzTc_e c3.1.1 c3.1.2).1)).2.2]; exact c3.2⟩
    · rw [rr, rr]; exact C4 i j hi hj z
    · obtain ⟨z, hz, E⟩ := C5 i K hK
      have c3 := C3 i (by have := (List.getElem?_eq_some_iff.1 hK).1; omega) z hz
      obtain ⟨T1, T2, T3⟩ := bzTc_e c3.1.1 c3.1.2
      obtain ⟨E1, E2, E3, E4, E5, E6, E7⟩ := E
      have f1 := (e z (Or.inl T1)).1
      have f2 := (e _ (Or.inl T2)).1
      have f3 := (e _ (Or.inl T3)).1
      exact ⟨z, by rw [rr]; exact hz, by rw [f1]; exact E1, by rw [f1]; exact E2, by rw [f1]; exact E3, by rw [f1]; exact E4, fun i hi => by rw [f2]; exact E5 i hi, by rw [f1]; exact E6, fun i hi => by rw [f3]; exact E7 i hi⟩
  refine ⟨⟨by rw [(e 1 (Or.inr (by decide))).1]; exact a1, cr _ _ _ (Or.inl rfl) a2⟩, ⟨by rw [(e 257 (Or.inr (by decide))).1]; exact a3, cr _ _ _ (Or.inr rfl) a4⟩, fun i j hi hj z => ?_, fun x hx hx2 => ?_⟩
  · rw [(e 14 (Or.inr (by decide))).2.1, (e 270 (Or.inr (by decide))).2.1]
    exact a5 i j hi hj z
  · rw [(e x (Or.inl ⟨by omega, hx⟩)).2.2]
    exact a6 x hx (by omega)
/-- what is kept stands -/
theorem bqK_m (h : bqK Z s a) (hl : ∀ K, Z.2.2.2 a = some K → bKl K) (e : ∀ b ∈ [bKe a, bKe a + 18, bKe a + 19], ∀ j, bi t b j = bi s b j) (eZ : Y.2.2.2 a = Z.2.2.2 a) : bqK Y t a := by
  have e0 := e (bKe a) (by simp)
  refine ⟨fun q => ?_, fun K hK => ?_⟩
  · rw [eZ] at q
    rw [e0, e0, e0]
    exact h.1 q
  · rw [eZ] at hK
    have l := hl K hK
    obtain ⟨h1, h2⟩ := h.2 K hK
    exact ⟨bzEk_m h1 (fun j _ => e0 j) (fun j _ _ => e _ (by simp) j) (fun j _ _ => e _ (by simp) j) ⟨l.1, l.2.1⟩, by rw [e0]; exact h2⟩
theorem w46t (hF : bFi β) (hT : bTg β) (hsb : bM26 β) (m25 : bM25 β) (m27 : bM27 β) (m28 : bM28 β) (w : bqW β) (C13 : bi β 6 13 = m) (hA : ∀ a, 0 ≤ a → a < (m : Int) → bmA Z β a ∧ bqK Z β a) (Ch : bzCh β Z.2.1 Z.2.2.1) (hO : bOl β = V) (hlen : 0 ≤ bi β 6 11 ∧ bi β 6 11 ≤ 4096) (h30 : ∀ y ∈ V, bi β 30 y = Z.1 99 y) (I0 : bmI0 rk m Z) (I1 : bmI1 β V rk m Z) (M : bqM n0 m (bqS σ0 Zr) Z) (eW : ∀ c ∈ [134, 135, 137, 138], ∀ j, bi β c j = bi σ0 c j) (BI : bzI β m (bqT β m Z)) (BR : bzRn0 rk m (bqT β m Z)) (Wc : bmWc β m (bmBy β 48 (bqA Z))) (g0 : bRg g) (l0 : 0 ≤ l ∧ l < 1000)
    (h : ∀ t, bzCC β m (bzAl β m g l (bqT β m Z)) t → (∀ b, 0 ≤ b → b < (m : Int) → ¬ bzG (bzLp β m g l 122 (bqT β m Z)) b) → fv t) : bWp (d + 8) 47 [.ref 5] β (bRv fun t1 => bWp (d + 8) 48 [.ref 5] t1 (bRv fun t2 => bWp (d + 8) 81 [.ref 6] t2 (bRv fun t3 => bWp (d + 8) 49 [.ref 5] t3 (bRv fun t4 => bWp (d + 8) 50 [.ref 5, .int (bn g), .int (bn l)] t4 (bRv fun t5 => bWp (d + 8) 63 [.ref 5] t5 (bRv fv)))))) := by
  have m120 := I0.1.2.1
  have hk : ∀ K a, 0 ≤ a → a < (m : Int) → Z.2.2.2 a = some K → bKl K := fun K a a0 a1 q => bzKl (BI.2.1 a a0 a1 K (by rw [(bqT_u (σ := β) (n := m) (Z := Z)).2.2]; exact q)).1
  obtain ⟨hNl, hFl⟩ := bzN_l BI
  rw [(bqT_u (σ := β) (n := m) (Z := Z)).2.2] at hNl hFl
  refine w47 (d := d + 5) C13 m120 (fun a a0 a1 => (hA a a0 a1).1.1) fun t1 F1 => ?_
  obtain ⟨F12, F1n, F124, F15, F1a⟩ := F1
  have lo1 : ∀ b, b ≠ 5 → b ≠ 24 → (b < 256 ∨ b % 256 ≠ 0) → ∀ j, bi t1 b j = bi β b j := fun b b5 b24 hb => F1n b b5 b24 fun a _ _ e => by unfold bAi at e; omega
  have hF1 : bFi t1 := by
    have U : bUn [0, 5, 24] [] β t1 := ⟨fun b q1 _ j => by
      simp only [List.mem_cons, List.not_mem_nil, or_false, not_or] at q1
      exact lo1 b (fun e => q1.2.1 (by rw [e])) (fun e => q1.2.2 (by rw [e])) (Or.inr q1.1) j, fun j _ _ => lo1 12 (by decide) (by decide) (Or.inl (by decide)) j, fun b _ _ j => by unfold bj; rw [F12], fun b _ j => by unfold br; rw [F12], fun b _ => by rw [F12]⟩
    exact bFi_un U (by decide) hF
  have e134 : ∀ x, (bqA Z).1 134 x = bi β 134 x := fun x => by
    rw [bqA_e.1 134 (by decide), M.2.1 134 (by decide), bqS_e.2.2.2.2.1 134 (by decide), eW 134 (by decide)]
  refine w48 (d := d + 6) (Z := bqA Z) hF1 (fun x x0 x1 => by rw [lo1 15 (by decide) (by decide) (Or.inl (by decide)), e134]; exact (w.2.1 x x0 x1).1) fun t2 F22 F2n F215 => ?_
  rw [bmBy_m (lo1 56 (by decide) (by decide) (Or.inl (by decide)))] at F215
  have lo2 : ∀ b, b ≠ 5 → b ≠ 24 → b ≠ 15 → (b < 256 ∨ b % 256 ≠ 0) → ∀ j, bi t2 b j = bi β b j := fun b b5 b24 b15 hb j => (F2n b b15 j).trans (lo1 b b5 b24 hb j)
  have U2 : bUn [0, 5, 24, 15] [] β t2 := ⟨fun b q1 _ j => by
    simp only [List.mem_cons, List.not_mem_nil, or_false, not_or] at q1
    exact lo2 b (fun e => q1.2.1 (by rw [e])) (fun e => q1.2.2.1 (by rw [e])) (fun e => q1.2.2.2 (by rw [e])) (Or.inr q1.1) j, fun j _ _ => lo2 12 (by decide) (by decide) (by decide) (Or.inl (by decide)) j, fun b _ _ j => by unfold bj; rw [F22, F12], fun b _ j => by unfold br; rw [F22, F12], fun b _ => by rw [F22, F12]⟩
  have T2 := bTg_un U2 (by decide) (by decide) hT
  have br2 : ∀ x j, br t2 x j = br β x j := fun x j => by unfold br; rw [F22, F12]
  have a2 : ∀ a, 0 ≤ a → a < (m : Int) → ∀ j, 0 ≤ j → bi t2 (bAi a) j = bmFv (bi β (bAi a)) j := fun a a0 a1 j j0 => by
    rw [F2n _ (by unfold bAi; omega)]; exact F1a a a0 a1 j j0
  refine w81 (d := d + 6) (V := V) (M := fun y => Z.1 99 y) (by rw [lo2 6 (by decide) (by decide) (by decide) (Or.inl (by decide))]; exact C13) m120 (fun a a0 a1 => ⟨by rw [br2]; exact (hA a a0 a1).1.1, by rw [a2 a a0 a1 5 (by decide)]; rfl⟩) T2 (by
      rw [bOl_m (s := β) (lo2 6 (by decide) (by decide) (by decide) (Or.inl (by decide)) 11) fun i _ _ => lo2 28 (by decide) (by decide) (by decide) (Or.inl (by decide)) i]
      exact hO) (by rw [lo2 6 (by decide) (by decide) (by decide) (Or.inl (by decide))]; exact hlen) (fun y hy => ?_) fun t3 F3 => ?_
  · obtain ⟨⟨y0, tk, _⟩, my, _⟩ := I1.1 y hy
    exact ⟨y0, ⟨tk.1, by rw [lo2 12 (by decide) (by decide) (by decide) (Or.inl (by decide))]; exact tk.2⟩, my, by rw [lo2 30 (by decide) (by decide) (by decide) (Or.inl (by decide))]; exact h30 y hy⟩
  obtain ⟨F32, F3n, F3a⟩ := F3
  have lo3 : ∀ b, b ≠ 5 → b ≠ 24 → b ≠ 15 → (b < 256 ∨ b % 256 ≠ 0) → ∀ j, bi t3 b j = bi β b j := fun b b5 b24 b15 hb j => (F3n b (fun a _ _ e => by unfold bAi at e; omega) j).trans (lo2 b b5 b24 b15 hb j)
  have br3 : ∀ x j, br t3 x j = br β x j := fun x j => by rw [← br2]; unfold br; rw [F32]
  obtain ⟨B1, B2⟩ := bmBy_u (σ := β) (Z := bqA Z) 48
  obtain ⟨A1, A2, A3⟩ := bqA_e (Z := Z)
  have zr : ∀ c, c ≠ 134 → c ≠ 140 → ∀ j, (bmBy β 48 (bqA Z)).1 c j = Z.1 c j := fun c c1 c2 j => by rw [B1 c (by simp only [List.mem_cons, List.not_mem_nil, or_false]; exact c1), A1 c c2]
  have z140 : ∀ j, (bmBy β 48 (bqA Z)).1 140 j = Z.1 109 j := fun j => by rw [B1 140 (by decide), A2]
  have z141 : ∀ j, (bmBy β 48 (bqA Z)).1 141 j = 0 := fun j => by rw [zr 141 (by decide) (by decide), M.2.1 141 (by decide), bqS_e.2.1 141 (by decide)]
  have O : bzOa m (bmBy β 48 (bqA Z)) := ⟨m120, fun a a0 a1 => by
    simp only [zr 101 (by decide) (by decide), zr 102 (by decide) (by decide), zr 103 (by decide) (by decide), zr 104 (by decide) (by decide), zr 105 (by decide) (by decide), zr 106 (by decide) (by decide)]
    exact I0.1.2.2 a a0 a1⟩
  -- an action after marking
  have act : ∀ a, 0 ≤ a → a < (m : Int) → bi t3 (bAi a) 5 = Z.1 109 a ∧ (Z.1 109 a ≠ 0 → bi t3 (bAi a) 6 = bi β 89 (Z.1 107 a) ∧ bi t3 (bAi a) 7 = bi β 90 (Z.1 107 a) ∧ bi t3 (bAi a) 8 = bi β 91 (Z.1 107 a)) ∧ ∀ j, 0 ≤ j → (j < 5 ∨ 8 < j) → bi t3 (bAi a) j = bmFv (bi β (bAi a)) j := fun a a0 a1 => by
    obtain ⟨g1, g2⟩ := F3a a a0 a1
    obtain ⟨o1, o2, o3⟩ := I1.2 a
    by_cases ex : ∃ y ∈ V, Z.1 99 y = a
    · obtain ⟨h1, h2, h3, h4, h5⟩ := g2 ex
      have n1 := o2.2 ex
      rw [h2, h3, h4, h5, o3 n1]
      refine ⟨by omega, fun _ => ⟨lo2 89 (by decide) (by decide) (by decide) (Or.inl (by decide)) _, lo2 90 (by decide) (by decide) (by decide) (Or.inl (by decide)) _, lo2 91 (by decide) (by decide) (by decide) (Or.inl (by decide)) _⟩, fun j j0 jn => by rw [h1 j j0 jn]; exact a2 a a0 a1 j j0⟩
    · have z : Z.1 109 a = 0 := Classical.byContradiction fun q => ex (o2.1 q)
      refine ⟨by rw [g1 ex 5 (by decide), a2 a a0 a1 5 (by decide), z]; rfl, fun q => absurd z q, fun j j0 jn => by rw [g1 ex j j0]; exact a2 a a0 a1 j j0⟩
  refine w49 (d := d + 6) (σ := β) (n := m) (Z := bmBy β 48 (bqA Z)) (by rw [lo3 6 (by decide) (by decide) (by decide) (Or.inl (by decide))]; exact C13) O Wc (fun a a0 a1 => ?_) fun t4 F4 R4 W4 => ?_
  · obtain ⟨p1, p2, p3⟩ := act a a0 a1
    obtain ⟨q1, ⟨q2, q3⟩, q4, _⟩ := (hA a a0 a1).1
    rw [br3, zr 105 (by decide) (by decide), z140, z141]
    refine ⟨q1, by rw [p3 1 (by decide) (Or.inl (by decide))]; exact q3, fun i i0 i1 => by rw [lo3 _ (by unfold bAi; omega) (by unfold bAi; omega) (by unfold bAi; omega) (Or.inr (by unfold bAi; omega)), zr 106 (by decide) (by decide)]; exact q4 i i0 i1, p1, fun q => ?_, by rw [p3 9 (by decide) (Or.inr (by decide))]; rfl, rfl⟩
    unfold bzDu
    rw [zr 107 (by decide) (by decide)]
    exact (p2 q).2.1
  obtain ⟨F42, F4n, F4a⟩ := F4
  have lo4 : ∀ b, b ≠ 5 → b ≠ 24 → b ≠ 15 → (b < 256 ∨ b % 256 ≠ 0) → ∀ j, bi t4 b j = bi β b j := fun b b5 b24 b15 hb j => (F4n b (fun a _ _ e => by unfold bAi at e; omega) j).trans (lo3 b b5 b24 b15 hb j)
  have e42 : t4.2 = β.2 := F42.trans (F32.trans (F22.trans F12))
  have br4 : ∀ x j, br t4 x j = br β x j := fun x j => by unfold br; rw [e42]
  have five : ∀ j, 0 ≤ j → bi t4 5 j = if j = 8 then -1 else if j = 9 ∨ j = 10 then 0 else bi β 5 j := fun j j0 => by
    rw [F4n 5 (fun a _ _ e => by unfold bAi at e; omega), F3n 5 (fun a _ _ e => by unfold bAi at e; omega), F2n 5 (by decide)]
    exact F15 j j0
  obtain ⟨T1, T2', T3'⟩ := bqT_u (σ := β) (n := m) (Z := Z)
  have row : ∀ c, c ∉ [49, 99, 101, 102, 103, 104, 105, 106, 107, 109, 134, 140, 141] → ∀ j, (bqT β m Z).1 c j = (bqS σ0 Zr).1 c j := fun c hc j => by
    simp only [List.mem_cons, List.not_mem_nil, or_false, not_or] at hc
    rw [T1 c (by simp only [List.mem_cons, List.not_mem_nil, or_false]; omega), M.2.1 c (by simp only [List.mem_cons, List.not_mem_nil, or_false]; omega)]
  have r142 : ∀ c, 142 ≤ c → c ≤ 148 → ∀ a, 0 ≤ a → a < (m : Int) → (bqT β m Z).1 c a = if c = 147 then 0 else -1 := fun c c0 c1 a a0 am => by
    rw [row c (by simp only [List.mem_cons, List.not_mem_nil, or_false]; omega), bqS_e.2.2.2.1 c c0 c1 a a0, if_pos (by omega)]
  have tb5 : bzTb 5 ∧ bzTb 24 ∧ bzTb 15 := ⟨Or.inl (by decide), Or.inl (by decide), Or.inl (by decide)⟩
  have KF : bzKf (bzPa m) β t4 := ⟨fun y y1 y2 => ⟨fun j => by
    have na : ∀ a : Int, 0 ≤ a → a < (m : Int) → y ≠ bAi a := fun a a0 a1 e => y2 ⟨a, a0, a1, by rw [e]; exact List.mem_cons_self⟩
    have n5 : y ≠ 5 ∧ y ≠ 24 ∧ y ≠ 15 := ⟨fun e => y1 (by rw [e]; exact tb5.1), fun e => y1 (by rw [e]; exact tb5.2.1), fun e => y1 (by rw [e]; exact tb5.2.2)⟩
    rw [F4n y na, F3n y na, F2n y n5.2.2]
    exact F1n y n5.1 n5.2.1 na j, fun j => by unfold bj; rw [e42], fun j => by unfold br; rw [e42], by rw [e42]⟩, bzNu_of e42⟩
  have CG : bzCG β m (bqT β m Z) t4 := by
    refine ⟨⟨by rw [lo4 6 (by decide) (by decide) (by decide) (Or.inl (by decide))]; exact C13, by rw [five 5 (by decide)]; exact m27.1.1, by rw [five 6 (by decide)]; exact m27.2.1, fun k k0 k1 => by rw [lo4 16 (by decide) (by decide) (by decide) (Or.inl (by decide))]; exact (m25.1 k k0 k1).1⟩, fun p hp i i0 i1 => ?_, fun p hp => ?_⟩
    · unfold bzGp at hp
      simp only [List.mem_cons, List.not_mem_nil, or_false] at hp
      rcases hp with rfl | rfl | rfl | rfl | rfl
      · show bi t4 17 i = (bqT β m Z).1 137 i
        rw [lo4 17 (by decide) (by decide) (by decide) (Or.inl (by decide)), row 137 (by decide), bqS_e.2.2.2.2.1 137 (by decide), ← eW 137 (by decide)]
        exact m25.2 i i0 i1
      · show bi t4 18 i = (bqT β m Z).1 138 i
        rw [lo4 18 (by decide) (by decide) (by decide) (Or.inl (by decide)), row 138 (by decide), bqS_e.2.2.2.2.1 138 (by decide), ← eW 138 (by decide), (w.1 i i0 i1).1, (w.1 i i0 i1).2.1]
      · show bi t4 24 i = (bqT β m Z).1 139 i
        rw [row 139 (by decide), bqS_e.2.1 139 (by decide), F4n 24 (fun a _ _ e => by unfold bAi at e; omega), F3n 24 (fun a _ _ e => by unfold bAi at e; omega), F2n 24 (by decide)]
        exact F124 i i0 i1
      · show bi t4 15 i = (bqT β m Z).1 134 i
        rw [F4n 15 (fun a _ _ e => by unfold bAi at e; omega), F3n 15 (fun a _ _ e => by unfold bAi at e; omega), F215 i i0 i1]
        exact ((bmWd_u (σ := β) m (bmBy β 48 (bqA Z))).1 134 (by decide) i).symm
      · show bi t4 271 i = (bqT β m Z).1 135 i
        rw [lo4 271 (by decide) (by decide) (by decide) (Or.inr (by decide)), row 135 (by decide), bqS_e.2.2.2.2.1 135 (by decide), ← eW 135 (by decide)]
        exact (m28 i i0 i1).1
    · unfold bzGq at hp
      simp only [List.mem_cons, List.not_mem_nil, or_false] at hp
      rcases hp with rfl | rfl | rfl
      · show bi t4 5 9 = (bqT β m Z).1 305 0
        rw [five 9 (by decide), row 305 (by decide), bqS_e.2.1 305 (by decide)]; rfl
      · show bi t4 5 10 = (bqT β m Z).1 306 0
        rw [five 10 (by decide), row 306 (by decide), bqS_e.2.1 306 (by decide)]; rfl
      · show bi t4 5 8 = (bqT β m Z).1 395 0
        rw [five 8 (by decide), row 395 (by decide), bqS_e.2.2.1]; rfl
  have CC : bzCC β m (bqT β m Z) t4 := by
    refine ⟨KF, CG, ?_, fun a a0 a1 => ?_⟩
    · rw [T3']
      refine bzCh_of Ch e42 (fun x hx j => ?_) (lo4 1 (by decide) (by decide) (by decide) (Or.inl (by decide)) 0) (lo4 257 (by decide) (by decide) (by decide) (Or.inr (by decide)) 0) hNl hFl
      obtain ⟨hx1, hx2⟩ := hx
      simp only [List.mem_cons, List.not_mem_nil, or_false] at hx2
      exact lo4 x (by omega) (by omega) (by omega) (Or.inr (by omega)) j
    · obtain ⟨p1, p2, p3⟩ := act a a0 a1
      obtain ⟨⟨q1, ⟨q2, q3⟩, q4, q5, q6, q7⟩, kk⟩ := hA a a0 a1
      have f4 : ∀ j, 0 ≤ j → j ≠ 9 → bi t4 (bAi a) j = bi t3 (bAi a) j := F4a a a0 a1
      have nk : ∀ b, b % 256 ≠ 0 → 256 ≤ b → ∀ j, bi t4 b j = bi β b j := fun b hb hb2 j => lo4 b (by omega) (by omega) (by omega) (Or.inr hb) j
      have g : ¬ bzG (bqT β m Z) a := fun q => q.2.1 (by rw [r142 143 (by decide) (by decide) a a0 a1]; rfl)
      refine ⟨⟨by rw [br4]; exact q1, ⟨?_, ?_⟩, fun i i0 i1 => ?_, ⟨?_, ?_, ?_⟩, ?_, fun hw => ?_⟩, ⟨?_, ?_, ?_⟩, ⟨?_, ?_, ?_⟩, fun _ => ?_, ?_, fun q => absurd ?_ q, fun q => absurd (r142 143 (by decide) (by decide) a a0 a1) q, ?_⟩
      · rw [f4 0 (by decide) (by decide), p3 0 (by decide) (Or.inl (by decide)), T1 104 (by decide)]; exact q2
      · rw [f4 1 (by decide) (by decide), p3 1 (by decide) (Or.inl (by decide)), T1 105 (by decide)]; exact q3
      · rw [T1 105 (by decide)] at i1
        rw [nk _ (by unfold bAi; omega) (by unfold bAi; omega), T1 106 (by decide)]
        exact q4 i i0 i1
      · rw [nk _ (by unfold bNe; omega) (by unfold bNe; omega), T1 101 (by decide)]; exact q5
      · rw [nk _ (by unfold bNe; omega) (by unfold bNe; omega), T1 102 (by decide)]; exact q6
      · rw [nk _ (by unfold bNe; omega) (by unfold bNe; omega), T1 103 (by decide)]; exact q7
      · rw [f4 5 (by decide) (by decide), p1, T2']
      · rw [T2'] at hw
        unfold bzKd bzDu
        rw [T1 107 (by decide), f4 6 (by decide) (by decide), f4 7 (by decide) (by decide), f4 8 (by decide) (by decide)]
        exact ⟨(p2 hw).1, (p2 hw).2.1, (p2 hw).2.2, (R4 a a0 a1).1 (by
          rw [(bmWd_u (σ := β) m (bmBy β 48 (bqA Z))).1 140 (by decide), z140]; exact hw)⟩
      · rw [f4 10 (by decide) (by decide), p3 10 (by decide) (Or.inr (by decide)), r142 142 (by decide) (by decide) a a0 a1]; rfl
      · rw [f4 11 (by decide) (by decide), p3 11 (by decide) (Or.inr (by decide)), r142 143 (by decide) (by decide) a a0 a1]; rfl
      · rw [f4 12 (by decide) (by decide), p3 12 (by decide) (Or.inr (by decide)), r142 144 (by decide) (by decide) a a0 a1]; rfl
      · rw [f4 15 (by decide) (by decide), p3 15 (by decide) (Or.inr (by decide)), if_neg (fun q => g q.1)]; rfl
      · rw [f4 16 (by decide) (by decide), p3 16 (by decide) (Or.inr (by decide)), if_neg (fun q => g q.1)]; rfl
      · rw [f4 17 (by decide) (by decide), p3 17 (by decide) (Or.inr (by decide)), if_neg (fun q => g q.1)]; rfl
      · rw [f4 14 (by decide) (by decide), p3 14 (by decide) (Or.inr (by decide)), r142 148 (by decide) (by decide) a a0 a1]; rfl
      · have := bqK_m (Y := bqT β m Z) (t := t4) kk (fun K q => hk K a a0 a1 q) (fun b hb j => nk b (by
          unfold bKe at hb
          simp only [List.mem_cons, List.not_mem_nil, or_false] at hb
          omega) (by
          unfold bKe at hb
          simp only [List.mem_cons, List.not_mem_nil, or_false] at hb
          omega) j) (by rw [T3'])
        exact this
      · rw [f4 13 (by decide) (by decide), p3 13 (by decide) (Or.inr (by decide))]; rfl
      · rw [f4 13 (by decide) (by decide), p3 13 (by decide) (Or.inr (by decide)), row 305 (by decide), bqS_e.2.1 305 (by decide)]
        show (-1 : Int) ≤ 0
        decide
  have n13 : ∀ b, 0 ≤ b → b < (m : Int) → bi t4 (bAi b) 13 < 0 := fun a a0 a1 => by
    rw [F4a a a0 a1 13 (by decide) (by decide), (act a a0 a1).2.2 13 (by decide) (Or.inr (by decide))]
    show (-1 : Int) < 0
    decide
  refine w50 (d := d) (rk := rk) BI BR CC hsb g0 l0 (by rw [row 305 (by decide), bqS_e.2.1 305 (by decide)]) (fun a a0 a1 => by rw [r142 143 (by decide) (by decide) a a0 a1]; rfl) n13 fun t5 C5 ng => ?_
  exact w63 (d := d + 4) (bzI_lp l0.1 122 _ BI BR) C5 ng fun t6 C6 => h t6 C6 ng
end

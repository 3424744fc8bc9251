/-! BUILD, 68: from a build's end on to the next call -/
def bqKt : List Nat := 11 :: 48 :: 49 :: 151 :: 152 :: bqKs
def bqFt : List Int := 111 :: 112 :: bqFs
/-- only what the answer and tests change -/
def bqTs (t t1 : bSt) : Prop := t1.2.2 = t.2.2 ∧ (∀ b, b % 256 ∉ [11, 12, 48] → ∀ j, bi t1 b j = bi t b j) ∧ (∀ j, 0 ≤ j → j ≠ 0 → j ≠ 111 → bi t1 12 j = bi t 12 j) ∧ ∀ b, b ≠ 154 → b % 256 ∉ [11, 49] → ∀ j, bj t1 b j = bj t b j
section
variable {d lvl : Nat} {σ σ0 σr β s s0 s1 t t1 r r1 r2 s' : bSt} {f : Int → bSt → Prop} {fv : bSt → Prop} {Z Z0 Y X Zs Zr T ZE W : bZs} {x y v a b k i q g l : Int} {n n0 m z0 N μ L : Nat} {rk : Int → Nat} {S : List Nat} {F : List Int} {P : Int → Bool} {Q : Int → Prop}
theorem bqTs_refl : bqTs t t := ⟨rfl, fun _ _ _ => rfl, fun _ _ _ _ => rfl, fun _ _ _ _ => rfl⟩
theorem bqTs_trans (h : bqTs s t) (k : bqTs t r) : bqTs s r := ⟨k.1.trans h.1, fun b hb j => (k.2.1 b hb j).trans (h.2.1 b hb j), fun j j0 h1 h2 => (k.2.2.1 j j0 h1 h2).trans (h.2.2.1 j j0 h1 h2), fun b h1 h2 j => (k.2.2.2 b h1 h2 j).trans (h.2.2.2 b h1 h2 j)⟩
theorem bqTs_un (h : bqTs s t) : bUn [11, 48, 49] [0, 111] s t := ⟨fun a q1 q2 j => h.2.1 a (by simp only [List.mem_cons, List.not_mem_nil, or_false, not_or] at q1 ⊢; omega) j, fun j j0 hj => h.2.2.1 j j0 (fun e => hj (by rw [e]; decide)) (fun e => hj (by rw [e]; decide)), fun a q1 q2 j => h.2.2.2 a q1 (by simp only [List.mem_cons, List.not_mem_nil, or_false, not_or] at q2 ⊢; omega) j, fun a _ j => by unfold br; rw [h.1], fun a _ => by rw [h.1]⟩
theorem bqTs_0 : bqTs s (bw s 12 0 v) := ⟨rfl, fun b hb _ => bi_ne (fun e => hb (by rw [e]; decide)), fun j j0 h1 _ => bi_nj (by decide) j0 h1, fun _ _ _ _ => rfl⟩
theorem bqTs_111 : bqTs s (bw s 12 111 v) := ⟨rfl, fun b hb _ => bi_ne (fun e => hb (by rw [e]; decide)), fun j j0 _ h1 => bi_nj (by decide) j0 h1, fun _ _ _ _ => rfl⟩
theorem bqTs_o {w : Int64} : bqTs s (bwj s 154 0 w) := ⟨rfl, fun _ _ _ => rfl, fun _ _ _ _ => rfl, fun _ h1 _ _ => bj_ne h1⟩
theorem bqTs_11 : bqTs s (bw s 11 6 v) := ⟨rfl, fun b hb _ => bi_ne (fun e => hb (by rw [e]; decide)), fun j _ _ _ => bi_ne (by decide), fun _ _ _ _ => rfl⟩
theorem bTg_un2 (h : bUn S F σ s) (hS : ∀ k ∈ 9 :: 50 :: bSg, k ∉ S) (hF : 22 ∉ F) (hm : ∀ b, b % 256 ∈ [48, 49] → s.2.2.2.1 b = σ.2.2.2.1 b) (k : bTg σ) : bTg s := by
  have e : ∀ a, a % 256 ∈ 9 :: 50 :: bSg → ∀ i, bi s a i = bi σ a i := fun a ha i => h.1 a (hS _ ha) (fun z => by rw [z] at ha; revert ha; decide) i
  have e22 : bi s 12 22 = bi σ 12 22 := h.2.1 22 (by decide) hF
  have tv : ∀ t, 0 ≤ t → bTv σ s t := fun t t0 => ⟨fun j _ => e _ (by unfold bTi; rw [show (256 * (t.toNat + 1) + 8) % 256 = 8 by omega]; decide) j, fun j _ => e _ (by unfold bTi; rw [show (256 * (t.toNat + 1) + 8 + 38) % 256 = 46 by omega]; decide) j, fun j _ => e _ (by unfold bTi; rw [show (256 * (t.toNat + 1) + 8 + 39) % 256 = 47 by omega]; decide) j, fun a ha => e a (by have := bLr_ne ha; rw [Nat.mod_eq_of_lt (by omega)]; revert ha; simp [bTLr, bSg]; omega) t, fun a ha i _ _ => e a (by simp at ha; rw [Nat.mod_eq_of_lt (by omega)]; simp [bSg]; omega) _, fun i _ _ => e 84 (by decide) _⟩
  obtain ⟨k1, k2, k3, k4⟩ := k
  have e50 : ∀ t, br s 50 t = br σ 50 t := fun t => h.2.2.2.1 50 (hS 50 (by decide)) t
  refine ⟨by rw [e22, e 9 (by decide)]; exact k1, fun t q1 q2 => by rw [e50]; exact k2 t q1 (by rwa [e22] at q2), fun t q1 q2 => ?_, fun t q1 q2 => bTg1_v (tv t q1) (k4 t q1 (by rwa [e22] at q2))⟩
  rw [e22] at q1
  obtain ⟨k31, k32, k33⟩ := k3 t q1 q2
  refine ⟨by rw [e50]; exact k31, fun b hb => ?_, fun a ha => by rw [e a (by simp at ha; rw [Nat.mod_eq_of_lt (by omega)]; simp [bSg]; omega)]; exact k33 a ha⟩
  have hb2 := k32 b hb
  by_cases q : b % 256 ∈ [48, 49]
  · rw [hm b q]; exact hb2
  · rw [h.2.2.2.2 b (hS _ (by
      simp only [List.mem_cons, List.not_mem_nil, or_false, not_or] at q
      simp [bTid] at hb
      simp [bSg]
      omega))]
    exact hb2
/-- all but what is known of tests -/
def bqGx (N μ : Nat) (σ : bSt) : Prop := bTg σ ∧ bRs σ ∧ (bi σ 7 15 = -1 ∨ bXe σ) ∧ bPm N σ ∧ bAk σ ∧ bMr σ ∧ bqZ N μ σ
theorem bqGx_t (h : bI9 (bqGx N μ) bqH L n r) (ht : bTst r) : bI9 (bqG N μ) bqH L n r := by
  obtain ⟨a1, a2, a3, ⟨b1, b3, b4, b5, b6, b7, b8⟩, a4⟩ := h
  exact ⟨a1, a2, a3, ⟨b1, ht, b3, b4, b5, b6, b7, b8⟩, a4⟩
theorem bqFin2 (h : bI9 (bqG N μ) bqH L N σ) (T : bT68 σ s1) (X1 : bi s1 7 15 = -1 ∨ bXe s1) (u : bUn bqKt bqFt s1 r) (hm : ∀ b, b % 256 ∈ [48, 49] → r.2.2.2.1 b = s1.2.2.2.1 b) (hP : bPm (N + 1) r) (hA : bAk r) (hMr : bMr r) (hZ : bqZ (N + 1) m r) (hN : bqN σ r) : bI9 (bqGx (N + 1) m) bqH L (N + 1) r := by
  obtain ⟨a1, a2, a3, ⟨b1, b2, b3, b4, b5, b6, b7, b8⟩, c, k, a5, a6, a7, a8⟩ := h
  have u0 := bT68_un T
  have e22 : bi r 12 22 = bi σ 12 22 := (u.2.1 22 (by decide) (by decide)).trans (T.2.1 12 (by decide) (by decide) 22)
  have eT : bT r = bT σ := by unfold bT; rw [e22]
  have n1 := bmN_b (s := r)
  have n2 := bzSo_b (s := r)
  obtain ⟨N1, N2⟩ := hN
  refine ⟨((bMid_un u (by decide)).2.trans (bMid_un u0 (by decide)).2).trans a1, bFi_un u (by decide) (bFi_un u0 (by decide) a2), bTl_un u (by decide) (by decide) (bTl_un u0 (by decide) (by decide) a3), ⟨bTg_un2 u (by decide) (by decide) hm (bTg_68 T b1), bRs_un u (by decide) (bRs_un u0 (by decide) b3), X1.imp (fun w => ?_) (fun w => bXe_un u (by decide) w), hP, hA, hMr, hZ⟩, (8 * bmN r + 3 * bzSo r).toNat, (252 * bmN r + 97 * bzSo r).toNat, ?_, ?_, ?_, ?_⟩
  · rw [u.1 7 (by decide) (by decide)]; exact w
  · rw [eT]; omega
  · rw [eT]; omega
  · omega
  · omega
/-- what the reference needs behind the class's build -/
theorem bqMid (h : bI9 (bqG N μ) bqH L N σ) (T : bT68 σ s1) (D : ∀ t, bTgk σ t → bRn1 σ s1 t) (u : bUn bqKt bqFt s1 t) (hm : ∀ b, b % 256 ∈ [48, 49] → t.2.2.2.1 b = s1.2.2.2.1 b) : bMid σ t ∧ bFi t ∧ bTl t ∧ bTg t ∧ bRs t ∧ bPag s1 t ∧ (∀ t', bTgk t t' → bRn1 t t t') ∧ (∀ j, bi t 76 j = bi s1 76 j) ∧ bi t 10 0 = bi s1 10 0 := by
  obtain ⟨a1, a2, a3, ⟨b1, b2, b3, b4, b5, b6, b7, b8⟩, _⟩ := h
  have u0 := bT68_un T
  have ag : bPag s1 t := bmUn_pagR u (by decide) (by decide)
  have e22 : bi t 12 22 = bi σ 12 22 := ag.2.2.1.trans (T.2.1 12 (by decide) (by decide) 22)
  have M1 := bMid_un u (by decide)
  have M0 := bMid_un u0 (by decide)
  refine ⟨⟨fun j => (M1.1 j).trans (M0.1 j), M1.2.trans M0.2⟩, bFi_un u (by decide) (bFi_un u0 (by decide) a2), bTl_un u (by decide) (by decide) (bTl_un u0 (by decide) (by decide) a3), bTg_un2 u (by decide) (by decide) hm (bTg_68 T b1), bRs_un u (by decide) (bRs_un u0 (by decide) b3), ag, fun t' ht => ?_, u.1 76 (by decide) (by decide), u.1 10 (by decide) (by decide) 0⟩
  refine bRn1_m (D t' ⟨ht.1, by rw [← e22]; exact ht.2⟩) (ag.2.2.2 t') fun b hb j => ?_
  have hb' : b % 256 ∉ bqKt ∧ b % 256 ≠ 12 ∧ b % 256 ∉ bEvK ∧ b % 256 ≠ 8 := by
    unfold bqKt bqKs bEvK
    simp only [List.mem_cons, List.not_mem_nil, or_false, not_or] at hb ⊢
    omega
  exact (u.1 b hb'.1 hb'.2.1 j).trans (T.2.1 b hb'.2.2.1 hb'.2.2.2 j)
theorem bqZ_ak (h : bqZ N μ r) (e13 : bi r 6 13 = bi r 12 49) (Am : ∀ a, bi r 12 49 ≤ a → a ≤ 120 → bAm1 r a) : bAk r := by
  obtain ⟨_, _, _, _, ⟨rk, n, Z, ⟨I0, _⟩, ⟨A1, _⟩, ⟨c49, rows, _⟩, _⟩, _⟩ := h
  exact bAk_of (e13.trans c49) c49 I0 (fun a a0 a1 => (A1 a a0 a1).1) (fun a a0 a1 => ⟨fun c hc => (rows a a0 a1).1 c (by simp only [List.mem_cons, List.not_mem_nil, or_false] at hc ⊢; omega), (rows a a0 a1).2⟩) fun a h1 h2 => Am a (by omega) h2
/-- changes of the class and the reference in an error, as kinds -/
theorem bmFg_un (h : bmFg n s t) : bUn [0, 5, 24] [] s t := ⟨fun b q1 _ j => h.2.1 b (fun e => q1 (by rw [e]; decide)) (fun e => q1 (by rw [e]; decide)) (fun a _ _ e => q1 (by rw [e, bAi_0]; decide)) j, fun j _ _ => h.2.1 12 (by decide) (by decide) (fun a _ _ e => by unfold bAi at e; omega) j, fun b _ _ j => by unfold bj; rw [h.1], fun b _ j => by unfold br; rw [h.1], fun b _ => by rw [h.1]⟩
theorem bqSm_N (e : r.2.2 = σ.2.2) : bqN σ r := by
  unfold bqN bmN bzSo bzSm br
  rw [e]
  omega
theorem finE (h : bI9 (bqG N μ) bqH L N σ) (c49 : bi σ 12 49 = n) (T : bT68 σ s1) (X1 : bi s1 7 15 = -1 ∨ bXe s1) (W : bWk s1 s) (e10 : bi s 6 10 = bi s1 6 10 + 1) (e13 : bi s 6 13 = n) (Fg : bmFg n s t) (S1 : bqTs t t1) (LK : r1.2 = t1.2 ∧ bUn bLk2 [7] t1 r1) (S2 : bqTs r1 r2) (er : r.2 = r2.2) (U : bUn bOblK [95, 105, 106] r2 r) (N1 : (∀ j, 12 ≤ j → bi r 139 j = bi r2 139 j) ∧ ∀ b ∈ [140, 142, 143, 144, 145, 146, 147, 148], ∀ j, 120 ≤ j → bi r b j = bi r2 b j) (h139 : ∀ k, 0 ≤ k → k < 12 → bi r 139 k = 0) (hO : bObl 120 r) (h95 : bi r 12 95 = -1) : bI9 (bqGx (N + 1) μ) bqH L (N + 1) r := by
  obtain ⟨b1, b2, b3, b4, b5, b6, b7, b8⟩ := h.2.2.2.1
  have n120 := (b6.1.2.2)
  have us : bUn bWkK [] s1 s := bUn_S bUn_refl W.1 (by decide)
  have ut := bmFg_un Fg
  have u1 := bqTs_un S1
  have u2 := LK.2
  have u3 := bqTs_un S2
  have u : bUn bqKt bqFt s1 r := bUn_trans (bUn_trans (bUn_trans (bUn_trans (bUn_trans (bUn_mono us (by decide) (by decide)) (bUn_mono ut (by decide) (by decide))) (bUn_mono u1 (by decide) (by decide))) (bUn_mono u2 (by decide) (by decide))) (bUn_mono u3 (by decide) (by decide))) (bUn_mono U (by decide) (by decide))
  have u0 := bT68_un T
  have e22' : r.2.2 = σ.2.2 := by rw [er, S2.1, LK.1, S1.1, Fg.1, W.1.1, T.1]
  -- from the class's end on
  have un : bUn ([11, 48, 49] ++ bLk2 ++ bOblK) [0, 7, 95, 105, 106, 111] t r := bUn_trans (bUn_trans (bUn_trans (bUn_mono u1 (by decide) (by decide)) (bUn_mono u2 (by decide) (by decide))) (bUn_mono u3 (by decide) (by decide))) (bUn_mono U (by decide) (by decide))
  have uz : bUn (8 :: bEvK ++ bWkK) [] σ s := bUn_trans (bUn_mono u0 (by decide) (by decide)) (bUn_mono us (by decide) (by decide))
  have e13σ : bi σ 6 13 = n := b6.1.1.trans c49
  have brx : ∀ x j, br r x j = br σ x j := fun x j => by unfold br; rw [e22']
  have six : ∀ j, bi r 6 j = bi s 6 j := fun j => (un.1 6 (by decide) (by decide) j).trans (ut.1 6 (by decide) (by decide) j)
  have k27 : ∀ j, bi r 27 j = bi s 27 j := fun j => (un.1 27 (by decide) (by decide) j).trans (ut.1 27 (by decide) (by decide) j)
  have k30 : ∀ j, bi r 30 j = bi σ 30 j := fun j => ((un.1 30 (by decide) (by decide) j).trans (ut.1 30 (by decide) (by decide) j)).trans (uz.1 30 (by decide) (by decide) j)
  -- cells that stand from the start
  have st : ∀ b, b % 256 ∉ [0, 5, 24, 11, 48, 49, 8, 12] ++ bLk2 ++ bOblK ++ bEvK ++ bWkK → ∀ j, bi r b j = bi σ b j := fun b hb j => by
    simp only [List.mem_append, not_or] at hb
    obtain ⟨⟨⟨⟨h0, hl⟩, ho⟩, he⟩, hw⟩ := hb
    simp only [List.mem_cons, List.not_mem_nil, or_false, not_or] at h0
    rw [un.1 b (by simp only [List.mem_append, List.mem_cons, List.not_mem_nil, or_false, not_or]; exact ⟨⟨⟨h0.2.2.2.1, h0.2.2.2.2.1, h0.2.2.2.2.2.1⟩, hl⟩, ho⟩) h0.2.2.2.2.2.2.2 j, ut.1 b (by simp only [List.mem_cons, List.not_mem_nil, or_false, not_or]; exact ⟨h0.1, h0.2.1, h0.2.2.1⟩) h0.2.2.2.2.2.2.2 j]
    exact uz.1 b (by simp only [List.cons_append, List.mem_append, List.mem_cons, not_or]; exact ⟨h0.2.2.2.2.2.2.1, he, hw⟩) h0.2.2.2.2.2.2.2 j
  have f12 : ∀ k, 0 ≤ k → k ∉ ([0, 7, 95, 105, 106, 111] : List Int) → bi r 12 k = bi σ 12 k := fun k k0 hk => ((un.2.1 k k0 hk).trans (ut.2.1 k k0 List.not_mem_nil)).trans (uz.2.1 k k0 List.not_mem_nil)
  have zm : ∀ b j, b % 256 = 0 → bi s b j = bi σ b j := fun b j hb => uz.1 b (by rw [hb]; decide) (by rw [hb]; decide) j
  have actA : ∀ a, 0 ≤ a → a < (n : Int) → ∀ j, 0 ≤ j → bi r (bAi a) j = bmFv (bi σ (bAi a)) j := fun a a0 a1 j j0 => by
    rw [un.1 (bAi a) (by rw [bAi_0]; decide) (by rw [bAi_0]; decide), Fg.2.2.2.2 a a0 a1 j j0]
    unfold bmFv
    rw [zm _ _ bAi_0]
  have hZ : bqZ N μ r := by
    refine bqErr b8 c49 (fun a a0 a1 => ⟨brx 33 a, fun b hb j => st b ?_ j, actA a a0 a1⟩) (fun x hx => ⟨fun j => st x ?_ j, brx x, by rw [e22']⟩) (fun j j0 => ?_) (fun j j0 j1 => ?_) (fun a a0 a1 => ⟨fun c hc => st c ?_ a, fun i i0 i1 => st 106 (by decide) _⟩) (fun c hc => st c ?_) ⟨h139, fun j hj => ?_⟩ hO (fun k hk => f12 k ?_ ?_) h95 (by rw [six 13, e13, e13σ])
    · unfold bAi bNe bKe at hb
      unfold bLk2 bOblK bEvK bWkK
      simp only [List.mem_append, List.mem_cons, List.not_mem_nil, or_false, not_or] at hb ⊢
      omega
    · unfold bzTc at hx
      unfold bLk2 bOblK bEvK bWkK
      simp only [List.mem_append, List.mem_cons, List.not_mem_nil, or_false, not_or] at hx ⊢
      omega
    · rw [un.1 5 (by decide) (by decide), Fg.2.2.2.1 j j0]
      have : bi s 5 j = bi σ 5 j := uz.1 5 (by decide) (by decide) j
      rw [this]
    · rw [un.1 24 (by decide) (by decide)]; exact Fg.2.2.1 j j0 j1
    · unfold bLk2 bOblK bEvK bWkK
      simp only [List.mem_append, List.mem_cons, List.not_mem_nil, or_false, not_or] at hc ⊢
      omega
    · unfold bLk2 bOblK bEvK bWkK
      simp only [List.mem_append, List.mem_cons, List.not_mem_nil, or_false, not_or] at hc ⊢
      omega
    · rw [N1.1 j hj, u3.1 139 (by decide) (by decide), u2.1 139 (by decide) (by decide), u1.1 139 (by decide) (by decide), ut.1 139 (by decide) (by decide)]
      exact uz.1 139 (by decide) (by decide) j
    · simp only [List.mem_cons, List.not_mem_nil, or_false] at hk; omega
    · simp only [List.mem_cons, List.not_mem_nil, or_false, not_or] at hk ⊢; omega
  have c49r : bi r 12 49 = n := (f12 49 (by decide) (by decide)).trans c49
  have Am : ∀ a, bi r 12 49 ≤ a → a ≤ 120 → bAm1 r a := fun a h1 h2 => by
    rw [c49r] at h1
    refine bAm1_o (b6.2.2.2 a (by rw [c49]; exact h1) h2) (fun b hb j => ?_) (brx 33 a) fun b _ => by rw [e22']
    simp only [List.mem_cons, List.not_mem_nil, or_false] at hb
    rcases hb with rfl | rfl
    · rw [un.1 (bAi a) (by rw [bAi_0]; decide) (by rw [bAi_0]; decide), Fg.2.1 (bAi a) (by unfold bAi; omega) (by unfold bAi; omega) (fun a' a0 a1 e => by unfold bAi at e; omega) j]
      exact zm _ _ bAi_0
    · exact st (bKe a) (by
        have : bKe a % 256 = 4 := by unfold bKe; omega
        rw [this]
        decide) j
  have hZ1 : bqZ (N + 1) μ r := by
    obtain ⟨z1, z2, z3, z4, z5, z6⟩ := hZ
    exact ⟨z1, z2, z3, z4, z5, by omega⟩
  have m10 := b5.1.1
  have m11 := b5.2
  have e61 : bi s1 6 10 = bi σ 6 10 := T.2.1 6 (by decide) (by decide) 10
  refine bqFin2 h T X1 u (fun b _ => by rw [e22', T.1]) ⟨⟨?_, fun y y0 y1 => ?_⟩, ?_⟩ (bqZ_ak hZ1 (by rw [six 13, e13, c49r]) Am) (fun y y0 y1 => by rw [k30]; exact b7 y y0 y1) hZ1 (bqSm_N e22')
  · rw [six]; omega
  · rw [six, k27]; exact W.2.1.1 y y0 y1
  · rw [six]; omega
end

/-! ACTIONS, 6: the class knows the action of a target -/
/-- nothing has changed but the candidate at place q and what was made -/
def bCew (q : Int) (σ s : bSt) : Prop := bKp (30 :: 33 :: bAd q) σ s ∧ (∀ a, 0 ≤ a → a ≠ q → br s 33 a = br σ 33 a) ∧ bAm1 s q ∧ ((br σ 33 q).isSome → (br s 33 q).isSome) ∧ s.2.2.2.2.1 + 8 * bSo σ q ≤ σ.2.2.2.2.1 + 8 * bSo s q ∧ s.2.2.2.2.2 + 252 * bSo σ q ≤ σ.2.2.2.2.2 + 252 * bSo s q
section
variable {d : Nat} {σ s t r : bSt} {f : Int → bSt → Prop} {fv : bSt → Prop} {fa : Nat → bSt → Prop} {q x y v i op nu ve ho : Int} {L : List Int} {P : Int → Bool}
theorem bCe_of (h : bCd q σ s) : bCew q σ s := ⟨bKp_mono h.1 (fun a ha => List.mem_cons_of_mem _ ha), h.2⟩
theorem bCe_refl (h : bAm1 σ q) : bCew q σ σ := bCe_of (bCd_refl h)
theorem bCe_trans (h : bCew q σ s) (k : bCew q s t) : bCew q σ t :=
  ⟨bKp_trans h.1 k.1, fun a a0 a1 => (k.2.1 a a0 a1).trans (h.2.1 a a0 a1), k.2.2.1, fun w => k.2.2.2.1 (h.2.2.2.1 w), by have := h.2.2.2.2.1; have := k.2.2.2.2.1; omega, by have := h.2.2.2.2.2; have := k.2.2.2.2.2; omega⟩
theorem bAm1_m (h : bAm1 σ q) (e : ∀ b, b % 256 ∈ [0, 4] → ∀ j, bi s b j = bi σ b j) (e2 : br s 33 q = br σ 33 q) (e3 : ∀ b ∈ bAd q, s.2.2.2.1 b = σ.2.2.2.1 b) : bAm1 s q := by
  have m := bAi_m (q := q)
  have mk : bKe q % 256 ∈ [0, 4] := by
    unfold bKe
    simp only [List.mem_cons, List.not_mem_nil, or_false]
    omega
  have ma : bAi q % 256 ∈ [0, 4] := by rw [m.1]; decide
  unfold bAm1 bFre at h ⊢
  rw [e2]
  refine h.imp (fun ⟨a, b⟩ => ⟨a, fun c hc => by rw [e3 c hc]; exact b c hc⟩) (fun ⟨a, ⟨b1, b2, b3⟩, c, d⟩ => ⟨a, ⟨by rw [e _ ma]; exact b1, fun j j0 j1 => by rw [e _ ma]; exact b2 j j0 j1, fun j j0 j1 => by rw [e _ ma]; exact b3 j j0 j1⟩, by rw [e _ mk]; exact c, by rw [e _ mk]; exact d.1, by rw [e _ mk]; exact d.2⟩)
theorem bCe_w (h : bAm1 σ q) : bCew q σ (bw σ 30 x v) :=
  ⟨bKw bKp_refl List.mem_cons_self, fun _ _ _ => rfl, bAm1_m h (fun b hb j => bi_ne (by intro w; rw [w] at hb; revert hb; decide)) rfl (fun _ _ => rfl), id, Nat.le_refl _, Nat.le_refl _⟩
theorem bCe_i (h : bCew q σ s) {b : Nat} (hb : b ∉ bAd q) (h33 : b ≠ 33) (h30 : b ≠ 30) : (∀ j, bi s b j = bi σ b j) ∧ (∀ j, bj s b j = bj σ b j) ∧ (∀ j, br s b j = br σ b j) ∧ s.2.2.2.1 b = σ.2.2.2.1 b :=
  h.1 b fun w => by
    rcases List.mem_cons.1 w with e | e
    · exact h30 e
    rcases List.mem_cons.1 e with e | e
    · exact h33 e
    · exact hb e
theorem bCe_un (h : bCew q σ s) : bUn (30 :: bCdK) [] σ s := by
  have g : ∀ a, a % 256 ∉ 30 :: bCdK → a ∉ bAd q ∧ a ≠ 33 ∧ a ≠ 30 := fun a ha => by
    unfold bCdK at ha
    refine ⟨fun w => ?_, fun w => ?_, fun w => ?_⟩
    · have := bAd_m w
      simp only [List.mem_cons, List.not_mem_nil, or_false, not_or] at ha this
      omega
    · rw [w] at ha; revert ha; decide
    · rw [w] at ha; revert ha; decide
  have g12 : (12 : Nat) ∉ bAd q := fun w => by have := bAd_m w; revert this; decide
  exact ⟨fun a q1 _ i => (bCe_i h (g a q1).1 (g a q1).2.1 (g a q1).2.2).1 i, fun i _ _ => (bCe_i h (b := 12) g12 (by decide) (by decide)).1 i, fun a _ q1 i => (bCe_i h (g a q1).1 (g a q1).2.1 (g a q1).2.2).2.1 i, fun a q1 i => (bCe_i h (g a q1).1 (g a q1).2.1 (g a q1).2.2).2.2.1 i, fun a q1 => (bCe_i h (g a q1).1 (g a q1).2.1 (g a q1).2.2).2.2.2⟩
theorem bCe_pag (h : bCew q σ s) : bPag σ s := by
  have u := bCe_un h
  exact ⟨fun a ha i => u.1 a (by
    simp only [List.mem_cons, List.not_mem_nil, or_false] at ha
    rcases ha with rfl | rfl | rfl | rfl | rfl | rfl | rfl | rfl | rfl | rfl | rfl | rfl | rfl | rfl | rfl | rfl | rfl | rfl <;> decide) (by
    simp only [List.mem_cons, List.not_mem_nil, or_false] at ha
    rcases ha with rfl | rfl | rfl | rfl | rfl | rfl | rfl | rfl | rfl | rfl | rfl | rfl | rfl | rfl | rfl | rfl | rfl | rfl <;> decide) i, u.2.1 17 (by decide) (by decide), u.2.1 22 (by decide) (by decide), fun t => u.1 (bTi t) (by rw [bTi_m]; decide) (by rw [bTi_m]; decide) 4⟩
/-- other actions' ids are not the candidate's -/
theorem bAd_n {a : Int} (a0 : 0 ≤ a) (q0 : 0 ≤ q) (h : a ≠ q) : bAi a ∉ bAd q ∧ bNe a ∉ bAd q ∧ bAi a + 13 ∉ bAd q ∧ bKe a ∉ bAd q ∧ ∀ b ∈ bAd a, b ∉ bAd q := by
  have e : a.toNat ≠ q.toNat := by omega
  unfold bAd bAid bAi bNe bKe
  simp only [List.mem_cons, List.not_mem_nil, or_false]
  refine ⟨by omega, by omega, by omega, by omega, fun b hb => by omega⟩
theorem bAk_e (h : bAk σ) (hq : bi σ 12 49 = q) (k : bCew q σ s) : bAk s := by
  have u := bCe_un k
  obtain ⟨⟨h1, h2, h3⟩, h4, h5, h6⟩ := h
  have el : ∀ b ∈ [101, 102, 103, 104, 105, 106], ∀ j, bi s b j = bi σ b j := fun b hb j => u.1 b (by
    simp only [List.mem_cons, List.not_mem_nil, or_false] at hb
    rcases hb with rfl | rfl | rfl | rfl | rfl | rfl <;> decide) (by
    simp only [List.mem_cons, List.not_mem_nil, or_false] at hb
    rcases hb with rfl | rfl | rfl | rfl | rfl | rfl <;> decide) j
  have e49 : bi s 12 49 = bi σ 12 49 := u.2.1 49 (by decide) (by decide)
  have e6 : bi s 6 13 = bi σ 6 13 := u.1 6 (by decide) (by decide) 13
  refine ⟨⟨by rw [e49, e6]; exact h1, by rw [e49]; exact ⟨h2, h3⟩⟩, fun a a0 a1 => ?_, fun a b a0 ab b1 => ?_, fun a a0 a1 => ?_⟩
  · rw [e49] at a1
    obtain ⟨g0, g1, g2, g3, g4, g5, g6, g7⟩ := h4 a a0 a1
    obtain ⟨n1, n2, n3, _⟩ := bAd_n (q := q) a0 (by omega) (show a ≠ q by omega)
    have m := bAi_m (q := a)
    have i1 := (bCe_i k n1 (by intro w; rw [w] at m; omega) (by intro w; rw [w] at m; omega)).1
    have i2 := (bCe_i k n2 (by intro w; rw [w] at m; omega) (by intro w; rw [w] at m; omega)).1
    have i3 := (bCe_i k n3 (by intro w; rw [w] at m; omega) (by intro w; rw [w] at m; omega)).1
    rw [k.2.1 a a0 (by omega)]
    simp only [i1, i2, i3, el 101 (by decide), el 102 (by decide), el 103 (by decide), el 104 (by decide), el 105 (by decide), el 106 (by decide)]
    exact ⟨g0, g1, g2, g3, g4, g5, g6, g7⟩
  · rw [e49] at b1
    simp only [el 101 (by decide), el 102 (by decide), el 103 (by decide), el 104 (by decide), el 105 (by decide), el 106 (by decide)]
    exact h5 a b a0 ab b1
  · rw [e49] at a0
    by_cases e : a = q
    · rw [e]; exact k.2.2.1
    · have g := h6 a a0 a1
      obtain ⟨n1, n2, n3, n4, n5⟩ := bAd_n (q := q) (a := a) (by omega) (by omega) e
      have m := bAi_m (q := a)
      have mk : bKe a % 256 = 4 := by unfold bKe; omega
      have i1 := (bCe_i k n1 (by intro w; rw [w] at m; omega) (by intro w; rw [w] at m; omega)).1
      have i4 := (bCe_i k n4 (by intro w; rw [w] at mk; omega) (by intro w; rw [w] at mk; omega)).1
      unfold bAm1 bFre at g ⊢
      rw [k.2.1 a (by omega) e]
      simp only [i1, i4]
      refine g.imp (fun ⟨p1, p2⟩ => ⟨p1, fun b hb => ?_⟩) id
      have mb := bAd_m hb
      rw [(bCe_i k (n5 b hb) (by intro w; rw [w] at mb; revert mb; decide) (by intro w; rw [w] at mb; revert mb; decide)).2.2.2]
      exact p2 b hb
theorem bPag_t (h : bPag σ s) (k : bPag s t) : bPag σ t := ⟨fun a ha i => (k.1 a ha i).trans (h.1 a ha i), k.2.1.trans h.2.1, k.2.2.1.trans h.2.2.1, fun t => (k.2.2.2 t).trans (h.2.2.2 t)⟩
theorem bAk_m (h : bAk σ) (e : ∀ b, b % 256 ∈ [0, 4, 13, 101, 102, 103, 104, 105, 106] → ∀ j, bi s b j = bi σ b j) (e6 : bi s 6 13 = bi σ 6 13) (e12 : bi s 12 49 = bi σ 12 49) (e2 : ∀ a, br s 33 a = br σ 33 a) (e3 : ∀ a, ∀ b ∈ bAd a, s.2.2.2.1 b = σ.2.2.2.1 b) : bAk s := by
  obtain ⟨⟨h1, h2, h3⟩, h4, h5, h6⟩ := h
  have ia := fun a => e (bAi a) (by rw [bAi_m.1]; decide)
  have ie := fun a => e (bNe a) (by rw [bAi_m.2.1]; decide)
  have ib := fun a => e (bAi a + 13) (by rw [bAi_m.2.2.1]; decide)
  unfold bAk
  rw [e6, e12]
  simp only [ia, ie, ib, e2, e 101 (by decide), e 102 (by decide), e 103 (by decide), e 104 (by decide), e 105 (by decide), e 106 (by decide)]
  refine ⟨⟨h1, h2, h3⟩, h4, h5, fun a a0 a1 => bAm1_m (h6 a a0 a1) (fun b hb j => e b (by simp only [List.mem_cons, List.not_mem_nil, or_false] at hb ⊢; omega) j) (e2 a) (e3 a)⟩
theorem bAk_w (h : bAk σ) (M : bSm bWkK σ s) (e6 : bi s 6 13 = bi σ 6 13) : bAk s :=
  bAk_m h (fun b hb j => M.2 b (by
    simp only [List.mem_cons, List.not_mem_nil, or_false] at hb
    unfold bWkK
    simp only [List.mem_cons, List.not_mem_nil, or_false, not_or]
    omega) j) e6 (M.2 12 (by decide) 49) (fun a => by unfold br; rw [M.1]) (fun a b _ => by rw [M.1])
theorem bSar_m {a : Int} (e : ∀ b ∈ [101, 102, 103, 104, 105, 106], ∀ j, bi s b j = bi σ b j) : bSar s a op nu ve ho L ↔ bSar σ a op nu ve ho L := by
  unfold bSar bHl
  simp only [e 101 (by decide), e 102 (by decide), e 103 (by decide), e 104 (by decide), e 105 (by decide), e 106 (by decide)]
theorem w83 {t : Int} (hF : bFi σ) (hL : bTl σ) (hT : bTg σ) (h4 : bR4 σ) (hM : bMks σ) (hr : bRg (bi σ 6 10 + 1)) (hA : bAk σ) (h30 : ∀ y, 0 ≤ y → y < 4096 → -1 ≤ bi σ 30 y ∧ bi σ 30 y < 1000) (ht : bTgk σ t)
    (h : ∀ s0 s, bWk σ s0 → bi s0 6 10 = bi σ 6 10 + 1 → bi s0 6 13 = bi σ 6 13 → bCew (bi σ 12 49) s0 s → (∀ y, 0 ≤ y → y < 4096 → -1 ≤ bi s 30 y ∧ bi s 30 y < 1000) → bIno s (bi s 6 11) (t * 256 + bi σ 10 0) → (∀ y, bIno s (bi s 6 11) y → (0 ≤ y ∧ bTgk σ (y / 256)) ∧ bCk σ s y ∧ ∀ k, 0 ≤ k → k < bi σ 85 (y / 256) → bi σ 86 (6 * (y / 256) + k) = 2 → bIno s (bi s 6 11) (bNod σ y k)) → f (bi s 30 (t * 256 + bi σ 10 0)) s) : bWp (d + 6) 83 [.ref 6, .int (bn t)] σ (bRn f) := by
  have tc := hT.1.2.1
  have ht1 := ht.1
  have ht2 := ht.2
  have hc : 0 ≤ bi σ 10 0 ∧ bi σ 10 0 < 256 := by
    have e := hL.2.2.2
    have a0 := hL.2.2.1 0 (by decide) (by decide)
    have a1 := hL.2.2.1 1 (by decide) (by decide)
    have a2 := hL.2.2.1 2 (by decide) (by decide)
    have a3 := hL.2.2.1 3 (by decide) (by decide)
    omega
  have q0 := hA.1
  have hx : 0 ≤ t * 256 + bi σ 10 0 ∧ (t * 256 + bi σ 10 0) / 256 = t := by omega
  refine ⟨rfl, fun A hA' => sq83_0 (bWp_mono _) hA' ⟨by omega, by omega⟩ (w70 hr ?_)⟩
  have W0 := bWk_0 hM hr
  have e0 : bi (bw (bw σ 6 10 (bi σ 6 10 + 1)) 6 11 0) 6 10 = bi σ 6 10 + 1 := by rw [bi_nj (by decide) (by decide) (by decide), bi_eq hr]
  have e013 : bi (bw (bw σ 6 10 (bi σ 6 10 + 1)) 6 11 0) 6 13 = bi σ 6 13 := by rw [bi_nj (by decide) (by decide) (by decide), bi_nj (by decide) (by decide) (by decide)]
  generalize bw (bw σ 6 10 (bi σ 6 10 + 1)) 6 11 0 = s0 at *
  have c0 : bi s0 10 0 = bi σ 10 0 := W0.1.2 10 (by decide) 0
  refine w69 ⟨ht1, by omega⟩ (by rw [c0]; exact hc) ?_
  rw [c0]
  refine w71 hF hL hT h4 W0 hx.1 (by rw [hx.2]; exact ht) fun s W E I => ?_
  have e13 : bi s 6 13 = bi σ 6 13 := E.1.2.trans e013
  have kk := h s
  have AkS := bAk_w hA W.1 e13
  have s49 : bi s 12 49 = bi σ 12 49 := W.1.2 12 (by decide) 49
  have s30 : ∀ j, bi s 30 j = bi σ 30 j := fun j => W.1.2 30 (by decide) j
  have agW := bWk_pag W.1
  have O := W.2.1
  have vb := bVn_b (s := s)
  have cnt := W.2.2.2
  generalize hq : bi σ 12 49 = q at *
  have Lp : ∀ (m : Nat) (l : Int) (u : bSt) (v3 v4 : Value), l + m = bi s 6 11 → 0 ≤ l → bCew q s u → (∀ y, 0 ≤ y → y < 4096 → -1 ≤ bi u 30 y ∧ bi u 30 y < 1000) → (∀ i, 0 ≤ i → i < l → bCk σ u (bi s 28 i)) → A (9, [.ref 6, .int (bn t), .int (bn l), v3, v4], [], u) := by
    intro m
    induction m with
    | zero =>
      intro l u v3 v4 hl l0 C R D
      have uu := bCe_un C
      have u11 : bi u 6 11 = bi s 6 11 := uu.1 6 (by decide) (by decide) 11
      have u28 : ∀ j, bi u 28 j = bi s 28 j := uu.1 28 (by decide) (by decide)
      have u10 : bi u 10 0 = bi σ 10 0 := (uu.1 10 (by decide) (by decide) 0).trans (W.1.2 10 (by decide) 0)
      have ino : ∀ {y n}, bIno s n y ↔ bIno u n y := fun {y n} => ⟨fun w => bIno_e w (Int.le_refl _) (fun i _ _ => u28 i), fun w => bIno_e w (Int.le_refl _) (fun i _ _ => (u28 i).symm)⟩
      refine sq83_9 (bWp_mono _) hA' ⟨by omega, by omega⟩ ⟨by omega, by omega⟩ ⟨fun w => absurd w (by rw [u11]; omega), fun _ => w69 ⟨ht1, by omega⟩ (by rw [u10]; exact hc) ?_⟩
      rw [u10]
      refine w140i (n := 4096) rfl rfl (by decide) hx.1 (by omega) (bRn_i (bi_rg _ _ _) (kk u W (E.1.1.trans e0) e13 C R (by rw [u11]; exact ino.1 I) fun y hy => ?_))
      rw [u11] at hy ⊢
      obtain ⟨i, i0, i1, i2⟩ := ino.2 hy
      obtain ⟨o1, o2, o3, o4⟩ := O.2.2 i i0 i1
      have dk := D i i0 (by omega)
      rw [i2] at o1 o4 dk
      exact ⟨o1, dk, fun k k0 k1 hK => ino.1 (bIno_e (o4 k k0 k1 hK) (by omega) (fun _ _ _ => rfl))⟩
    | succ m ih =>
      intro l u v3 v4 hl l0 C R D
      have uu := bCe_un C
      have u11 : bi u 6 11 = bi s 6 11 := uu.1 6 (by decide) (by decide) 11
      have u28 : ∀ j, bi u 28 j = bi s 28 j := uu.1 28 (by decide) (by decide)
      have u29 : ∀ j, bi u 29 j = bi s 29 j := uu.1 29 (by decide) (by decide)
      have u13 : bi u 6 13 = q := by rw [uu.1 6 (by decide) (by decide), e13, q0.1]
      have agu : bPag σ u := bPag_t agW (bCe_pag C)
      obtain ⟨⟨x0, xt⟩, xv, x29, xk⟩ := O.2.2 l l0 (by omega)
      generalize hxx : bi s 28 l = x at *
      have xt2 := xt.2
      have ic := bIc_at hT xt
      have wu : bUn bWkK [] σ s := bUn_S bUn_refl W.1 (by decide)
      have Fu := bFi_un uu (by decide) (bFi_un wu (by decide) hF)
      have Lu := bTl_un uu (by decide) (by decide) (bTl_un wu (by decide) (by decide) hL)
      have Tu := bTg_un uu (by decide) (by decide) (bTg_un wu (by decide) (by decide) hT)
      have AkU := bAk_e AkS s49 C
      have nok : ∀ k, 0 ≤ k → k < bi σ 85 (x / 256) → bi σ 86 (6 * (x / 256) + k) = 2 → 0 ≤ bNod σ x k ∧ bNod σ x k ≠ x := fun k k0 k1 hK => by
        obtain ⟨⟨y0, y1, _⟩, _⟩ := bNd_at hT xt k0 k1 hK
        exact ⟨y0, fun e => by rw [e] at y1; omega⟩
      -- what is made is put down
      have put : ∀ (u' : bSt) (v : Int) (v3 v4 : Value), bCew q s u' → (∀ j, bi u' 30 j = bi u 30 j) → (-1 ≤ v ∧ v < 1000) → bCk σ (bw u' 30 x v) x → bRg (l + 1) ∧ A (9, [.ref 6, .int (bn t), .int (bn (l + 1)), v3, v4], [], bw u' 30 x v) := by
        intro u' v v3 v4 C' e30 hv ck
        have e2 : ∀ j, 0 ≤ j → bi (bw u' 30 x v) 30 j = if j = x then v else bi u 30 j := fun j j0 => by
          rw [bi_bw x0 j0 ⟨by omega, by omega⟩, e30]; simp only [true_and]
        refine ⟨⟨by omega, by omega⟩, ih (l + 1) _ _ _ (by omega) (by omega) (bCe_trans C' (bCe_w C'.2.2.1)) (fun y y0 y1 => ?_) (fun i i0 i1 => ?_)⟩
        · rw [e2 y y0]
          by_cases e : y = x
          · rw [if_pos e]; exact hv
          · rw [if_neg e]; exact R y y0 y1
        · by_cases el : i = l
          · rw [el, hxx]; exact ck
          · have dk := D i i0 (by omega)
            obtain ⟨⟨y0, yt⟩, _, _, yk⟩ := O.2.2 i i0 (by omega)
            by_cases pr : ∃ j, 0 ≤ j ∧ j < l ∧ bi s 28 j = x
            · obtain ⟨j, j0, j1, j2⟩ := pr
              have dx := D j j0 j1
              rw [j2] at dx
              have ev : bi u 30 x = bi (bw u' 30 x v) 30 x := bCk_u hA dx ck hT xt (fun _ k k0 k1 hK => by rw [e2 _ (nok k k0 k1 hK).1, if_neg (nok k k0 k1 hK).2])
              have all : ∀ j, 0 ≤ j → bi (bw u' 30 x v) 30 j = bi u 30 j := fun j j0 => by
                by_cases e : j = x
                · rw [e, ← ev]
                · rw [e2 j j0, if_neg e]
              exact bCk_c hT yt dk (all _ y0) (fun k k0 k1 hK => all _ (bNd_at hT yt k0 k1 hK).1.1)
            · refine bCk_c hT yt dk ?_ (fun k k0 k1 hK => ?_)
              · rw [e2 _ y0, if_neg (fun e => pr ⟨i, i0, by omega, e⟩)]
              · obtain ⟨j, j0, j1, j2⟩ := yk k k0 k1 hK
                rw [e2 _ (bNd_at hT yt k0 k1 hK).1.1, if_neg (fun e => pr ⟨j, j0, by omega, j2.trans e⟩)]
      have sto : ∀ {u' : bSt} {v : Int} {fv : bSt → Prop}, bRg v → fv (bw u' 30 x v) → bWp (d + 5) 141 [.ref 30, .int (bn x), .int (bn v)] u' (bRv fv) := fun hv k => w141i (n := 4096) hv rfl (by decide) rfl (by decide) x0 (by omega) k
      refine sq83_9 (bWp_mono _) hA' ⟨by omega, by omega⟩ ⟨by omega, by omega⟩ ⟨fun _ => w140i (n := 4096) rfl rfl (by decide) l0 (by omega) ?_, fun w => absurd (show l < bi u 6 11 by rw [u11]; omega) w⟩
      rw [u28, hxx]
      refine w140i (n := 4096) rfl rfl (by decide) x0 (by omega) ?_
      rw [u29, x29]
      refine ⟨fun z => ?_, fun z => sto (by decide) (put u (-1) _ _ C (fun _ => rfl) (by decide) (Or.inl ⟨z, bi_eq (by decide)⟩))⟩
      have tk3 : ∀ t, bTgk u t → bTgk σ t := fun t h => ⟨h.1, by rw [← agu.2.2.1]; exact h.2⟩
      refine w86 Fu Lu Tu (fun t h => by rw [agu.2.2.2]; exact h4 t (tk3 t h)) u13 (by omega) C.2.2.1 R x0 ⟨xt.1, by rw [agu.2.2.1]; exact xt.2⟩ (by rw [bFx_m agu]; exact z) (fun ⟨k, k0, k1, k2, k3⟩ s2 C2 Z2 => ?_) (fun nk s2 C2 Z2 H2 => ?_)
      · rw [agu.1 85 (by decide)] at k1
        rw [agu.1 86 (by decide)] at k2
        have en : bNod u x k = bNod σ x k := by unfold bNod; rw [agu.1 87 (by decide), bBw_m agu]
        rw [en] at k3
        have e30 : ∀ j, bi s2 30 j = bi u 30 j := (bCd_un C2).1 30 (by decide) (by decide)
        refine ⟨fun _ => sto (by decide) (put s2 (-1) _ _ (bCe_trans C (bCe_of C2)) e30 (by decide) (Or.inr ⟨z, Or.inl ⟨⟨k, k0, k1, k2, ?_⟩, bi_eq (by decide)⟩⟩)), fun w => absurd rfl w⟩
        rw [bi_nj x0 (nok k k0 k1 k2).1 (nok k k0 k1 k2).2, e30]
        exact k3
      · have e30 : ∀ j, bi s2 30 j = bi u 30 j := (bCd_un C2).1 30 (by decide) (by decide)
        have C3 := bCe_trans C (bCe_of C2)
        have Ak2 := bAk_e AkS s49 C3
        have un3 := bCe_un C3
        have e49 : bi s2 12 49 = q := (un3.2.1 49 (by decide) (by decide)).trans s49
        have e613 : bi s2 6 13 = q := by rw [un3.1 6 (by decide) (by decide), e13, q0.1]
        have ref : ∀ b ∈ [101, 102, 103, 104, 105, 106], ∀ j, bi s2 b j = bi σ b j := fun b hb j => (un3.1 b (by
          simp only [List.mem_cons, List.not_mem_nil, or_false] at hb
          rcases hb with rfl | rfl | rfl | rfl | rfl | rfl <;> decide) (by
          simp only [List.mem_cons, List.not_mem_nil, or_false] at hb
          rcases hb with rfl | rfl | rfl | rfl | rfl | rfl <;> decide) j).trans (W.1.2 b (by
          simp only [List.mem_cons, List.not_mem_nil, or_false] at hb
          rcases hb with rfl | rfl | rfl | rfl | rfl | rfl <;> decide) j)
        have e76 : bi u 76 (x / 256) = bi σ 76 (x / 256) := (uu.1 76 (by decide) (by decide) _).trans (W.1.2 76 (by decide) _)
        rw [e76, agu.1 75 (by decide), agu.1 85 (by decide), bNu_m agu, bVe_m agu] at H2
        have en : ∀ k, bNod u x k = bNod σ x k := fun k => by unfold bNod; rw [agu.1 87 (by decide), bBw_m agu]
        have nk2 : ∀ k, 0 ≤ k → k < bi σ 85 (x / 256) → bi σ 86 (6 * (x / 256) + k) = 2 → bi u 30 (bNod σ x k) ≠ -1 := fun k k0 k1 hK => by
          rw [← en]
          exact nk k k0 (by rw [agu.1 85 (by decide)]; exact k1) (by rw [agu.1 86 (by decide)]; exact hK)
        -- the list as what is made stands behind
        have eL : ∀ v, bIl u (bMd u) x (bi σ 85 (x / 256)).toNat = bIl σ (bMd (bw s2 30 x v)) x (bi σ 85 (x / 256)).toNat := fun v => bIl_m agu hT xt (fun k k0 k1 hK => by
          show bi u 30 (bNod σ x k) = bi (bw s2 30 x v) 30 (bNod σ x k)
          rw [bi_nj x0 (nok k k0 k1 hK).1 (nok k k0 k1 hK).2, e30]) _ (by omega)
        have nkv : ∀ v k, 0 ≤ k → k < bi σ 85 (x / 256) → bi σ 86 (6 * (x / 256) + k) = 2 → bi (bw s2 30 x v) 30 (bNod σ x k) ≠ -1 := fun v k k0 k1 hK => by
          rw [bi_nj x0 (nok k k0 k1 hK).1 (nok k k0 k1 hK).2, e30]
          exact nk2 k k0 k1 hK
        refine ⟨fun w => absurd w (by decide), fun _ => ?_⟩
        refine w88 e613 (by omega) (fun a a0 a1 => ?_) Z2 H2 (fun a a0 a1 hs => ?_) (fun hn => ?_)
        · obtain ⟨g0, g1, _, _, _, _, g7, _⟩ := Ak2.2.1 a a0 (by rw [e49]; exact a1)
          rw [g7]
          exact ⟨g0, g1⟩
        · have hs2 := (bSar_m ref).1 ((bSam_r Ak2 a0 (by rw [e49]; exact a1)).1 hs)
          rw [eL a] at hs2
          refine sto ⟨by omega, by omega⟩ (put s2 a _ _ C3 e30 ⟨by omega, by omega⟩ (Or.inr ⟨z, Or.inr ⟨nkv a, Or.inl ?_⟩⟩))
          rw [bi_eq ⟨by omega, by omega⟩]
          exact ⟨⟨a0, by rw [hq]; exact a1⟩, hs2⟩
        · refine sto (by decide) (put s2 (-1) _ _ C3 e30 (by decide) (Or.inr ⟨z, Or.inr ⟨nkv (-1), Or.inr ⟨bi_eq (by decide), fun a a0 a1 w => ?_⟩⟩⟩))
          rw [hq] at a1
          refine hn a a0 a1 ((bSam_r Ak2 a0 (by rw [e49]; exact a1)).2 ((bSar_m ref).2 ?_))
          rw [eL (-1)]
          exact w
  exact Lp (bi s 6 11).toNat 0 s _ _ (by omega) (by decide) (bCe_refl (AkS.2.2.2 q (by omega) (by omega))) (fun y y0 y1 => by rw [s30]; exact h30 y y0 y1) (fun i i0 i1 => by omega)
end

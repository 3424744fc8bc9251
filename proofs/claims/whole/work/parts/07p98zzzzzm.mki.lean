/-! BUILD, 61: the class builds -/
/-- the class between calls: its actions, what is kept, its caches; n actions stand -/
def bqCr (n : Nat) (Z : bZs) (σ : bSt) : Prop := bi σ 6 13 = n ∧ (∀ a, 0 ≤ a → a < (n : Int) → bmA Z σ a ∧ bqK Z σ a) ∧ bzCh σ Z.2.1 Z.2.2.1 ∧ (∀ a, (n : Int) ≤ a → a ≤ 120 → bAm1 σ a) ∧ bMr σ
/-- what the workers' numbers, bytes and settings are between calls -/
def bqE (σ : bSt) : Prop := bM26 σ ∧ bM25 σ ∧ bM27 σ ∧ bM28 σ ∧ bqW σ
section
variable {d lvl : Nat} {σ σ0 β s s0 t r s' : bSt} {f g' : Int → bSt → Prop} {fv : bSt → Prop} {A : bPt → Prop} {Z Z0 Y X Zs Zr : bZs} {x y v a b k i q g l : Int} {V W L : List Int} {n n0 m z0 : Nat} {rk : Int → Nat} {P : Int → Bool} {N F : List bKy} {as : List Value} {R : bPost} {Q : Int → Prop}
theorem bqE_u {S : List Nat} {F : List Int} (u : bUn S F σ s) (hS : ∀ k ∈ [3, 5, 15, 16, 17, 18, 134, 135, 136, 137, 138, 139], k ∉ S) (hF : ∀ k ∈ [68, 87, 88], k ∉ F) (h : bqE σ) : bqE s := by
  have e : ∀ a ∈ [3, 5, 15, 271, 16, 17, 18, 134, 135, 136, 137, 138, 139], ∀ i, bi s a i = bi σ a i := fun a ha i => by
    simp only [List.mem_cons, List.not_mem_nil, or_false] at ha
    refine u.1 a (hS _ ?_) (by omega) i
    simp only [List.mem_cons, List.not_mem_nil, or_false]
    omega
  have e12 : ∀ k ∈ ([68, 87, 88] : List Int), bi s 12 k = bi σ 12 k := fun k hk => u.2.1 k (by simp only [List.mem_cons, List.not_mem_nil, or_false] at hk; omega) (hF k hk)
  unfold bqE bM26 bM25 bM27 bM28 bqW at h ⊢
  simp only [e 3 (by decide), e 5 (by decide), e 15 (by decide), e 271 (by decide), e 16 (by decide), e 17 (by decide), e 18 (by decide), e 134 (by decide), e 135 (by decide), e 136 (by decide), e 137 (by decide), e 138 (by decide), e 139 (by decide), e12 68 (by decide), e12 87 (by decide), e12 88 (by decide)]
  exact h
theorem bmI0_S (h : bmI0 rk n Z) : bmI0 rk n (bqS σ Z) := by
  have e := (bqS_e (σ := σ) (Z := Z)).1
  unfold bmI0 bzOa bmSm bmRk at h ⊢
  simp only [e 49 (by decide), e 101 (by decide), e 102 (by decide), e 103 (by decide), e 104 (by decide), e 105 (by decide), e 106 (by decide)]
  exact h
theorem bmI1_S : bmI1 σ0 [] rk n (bqS σ Z) := ⟨fun y hy => absurd hy List.not_mem_nil, fun a => ⟨Or.inl (bqS_e.2.1 109 (by decide) a), ⟨fun q => absurd (bqS_e.2.1 109 (by decide) a) q, fun ⟨y, hy, _⟩ => absurd hy List.not_mem_nil⟩, fun q => absurd (bqS_e.2.1 109 (by decide) a) q⟩⟩
/-- the class at rest stands where its objects do -/
theorem bqCr_s (h : bqCr n Z σ) (M : bSm bWkK σ s) (e13 : bi s 6 13 = bi σ 6 13) (lK : ∀ a, 0 ≤ a → a < (n : Int) → ∀ K, Z.2.2.2 a = some K → bKl K) (n120 : n ≤ 120) : bqCr n Z s := by
  obtain ⟨h1, h2, h3, h4, h5⟩ := h
  have same : ∀ b, b % 256 ∉ bWkK → ∀ j, bi s b j = bi σ b j := M.2
  have b33 : ∀ x a, br s x a = br σ x a := fun x a => by unfold br; rw [M.1]
  have objs : ∀ b, b % 256 ∈ [0, 13, 4, 22, 23] → ∀ j, bi s b j = bi σ b j := fun b hb => same b (by
    unfold bWkK
    simp only [List.mem_cons, List.not_mem_nil, or_false, not_or] at hb ⊢
    omega)
  refine ⟨e13.trans h1, fun a a0 a1 => ⟨bmA_m (h2 a a0 a1).1 (fun b hb => objs b (by
    unfold bAi bNe at hb
    simp only [List.mem_cons, List.not_mem_nil, or_false] at hb ⊢
    omega)) (b33 33 a) (fun _ _ => rfl) (fun _ _ _ => rfl), bqK_m (h2 a a0 a1).2 (lK a a0 a1) (fun b hb => objs b (by
    unfold bKe at hb
    simp only [List.mem_cons, List.not_mem_nil, or_false] at hb ⊢
    omega)) rfl⟩, bqCh h3 (by rw [M.1]; exact Nat.le_refl _) (fun x hx => ⟨same x (by
      unfold bWkK
      unfold bzTc at hx
      simp only [List.mem_cons, List.not_mem_nil, or_false, not_or] at hx ⊢
      omega), b33 x, by rw [M.1]⟩), fun a a0 a1 => bAm1_o (h4 a a0 a1) (fun b hb => objs b (by
    unfold bAi bKe at hb
    simp only [List.mem_cons, List.not_mem_nil, or_false] at hb ⊢
    omega)) (b33 33 a) (fun b _ => by rw [M.1]), fun y y0 y1 => by rw [same 30 (by decide)]; exact h5 y y0 y1⟩
theorem w46 (hF : bFi σ) (hL : bTl σ) (hT : bTg σ) (h4 : bR4 σ) (hM : bMks σ) (hr : bRg (bi σ 6 10 + 2)) (Xm : bMs Q x) (hQ : ∀ t, 0 ≤ t → t < 16 → Q t → bTgk σ t) (E : bqE σ) (I0 : bmI0 rk n Zr) (Ik : bzIk n Zr) (Jc : bzJc 24 Zr.2.1 ∧ bzJc 40 Zr.2.2.1) (C : bqCr n Zr σ) (g01 : g = 0 ∨ g = 1) (l0 : 0 ≤ l ∧ l < 1000)
    (e112 : ∀ a, 0 ≤ a → a < (n : Int) → bi σ 112 a = Zr.1 112 a) (r112 : ∀ a, 0 ≤ a → a < 120 → 0 ≤ bi σ 112 a ∧ bi σ 112 a < 1000)
    (hP : ∀ t, 0 ≤ t → t < 16 → (P t = true ↔ Q t ∧ bFx σ (t * 256 + bi σ 10 0) = 0))
    (KE : g = 0 → (¬ ∀ t, 0 ≤ t → t < 16 → Q t → P t = true) → ∀ s t, bWk σ s → bi s 6 10 = bi σ 6 10 + 1 → bi s 6 13 = n → bmFg n s t → f (-1) t)
    (KO : (g ≠ 0 ∨ ∀ t, 0 ≤ t → t < 16 → Q t → P t = true) → bmAl σ (bmOd σ P 16) (bqS σ Zr) = none → ∀ s s0 t, bWk σ s → bWk s s0 → bi s0 6 10 = bi σ 6 10 + 2 → bmFr n s0 t → bi t 6 13 = n → (∀ a, (n : Int) ≤ a → a ≤ 120 → bAm1 t a) → bMr t → bLe s t → f (-2) t)
    (KY : (g ≠ 0 ∨ ∀ t, 0 ≤ t → t < 16 → Q t → P t = true) → ∀ Z rk m, bmAl σ (bmOd σ P 16) (bqS σ Zr) = some Z → bmI0 rk m Z → bmI1 σ (bmOd σ P 16) rk m Z → bmCl σ (bmOd σ P 16) → bqM n m (bqS σ Zr) Z → ∀ s s0 β t, bWk σ s → bWk s s0 → bi s0 6 10 = bi σ 6 10 + 2 → bmC n (bmOd σ P 16) Z m β → bmFr n s0 β → bLe s β → bqCr m Z β → bzI β m (bqT β m Z) → bzRn0 rk m (bqT β m Z) → bmWc β m (bmBy β 48 (bqA Z)) → bzCC β m (bzAl β m g l (bqT β m Z)) t → (∀ b, 0 ≤ b → b < (m : Int) → ¬ bzG (bzLp β m g l 122 (bqT β m Z)) b) → β.2.2.2.2.1 ≤ t.2.2.2.2.1 → f (bCnp (fun t' => P t' && decide (bzD (bzAl β m g l (bqT β m Z)) (Z.1 99 (t' * 256 + bi σ 10 0)))) 16) t) : bWp (d + 9) 46 [.ref 5, .int (bn x), .int (bn g), .int (bn l)] σ (bRn f) := by
  have n120 := I0.1.2.1
  have rx : bRg x := ⟨by have := Xm.1.1; omega, by have := Xm.1.2; omega⟩
  have rg : bRg g := by rcases g01 with e | e <;> rw [e] <;> decide
  have rl : bRg l := ⟨by omega, by omega⟩
  have lK : ∀ a, 0 ≤ a → a < (n : Int) → ∀ K, Zr.2.2.2 a = some K → bKl K := fun a a0 a1 K q => bzKl (Ik a a0 a1 K q).1
  have hc : 0 ≤ bi σ 10 0 ∧ bi σ 10 0 < 256 := by
    have e := hL.2.2.2
    have a0 := hL.2.2.1 0 (by decide) (by decide)
    have a1 := hL.2.2.1 1 (by decide) (by decide)
    have a2 := hL.2.2.1 2 (by decide) (by decide)
    have a3 := hL.2.2.1 3 (by decide) (by decide)
    omega
  have r10 := hM.1
  refine ⟨rfl, fun A hA => sq46_0 (bWp_mono _) hA rx rg rl (w79 (d := d + 2) hF hL hT h4 hM ⟨by omega, by omega⟩ Xm hQ fun s v W e10 e13 Mv => ?_)⟩
  have e13 : bi s 6 13 = n := e13.trans C.1
  have ag := bWk_pag W.1
  have us : bUn bWkK [] σ s := bUn_S bUn_refl W.1 (by decide)
  have Fs := bFi_un us (by decide) hF
  have Ls := bTl_un us (by decide) (by decide) hL
  have Ts := bTg_un us (by decide) (by decide) hT
  have R4s : bR4 s := fun t ht => by rw [ag.2.2.2]; exact h4 t ((bTgk_g ag).1 ht)
  have Ms : bMks s := ⟨by omega, W.2.1.1⟩
  have e10s : bi s 10 0 = bi σ 10 0 := W.1.2 10 (by decide) 0
  have e76 : ∀ j, bi s 76 j = bi σ 76 j := W.1.2 76 (by decide)
  have Cs := bqCr_s C W.1 (e13.trans C.1.symm) lK n120
  have rv : bRg v := ⟨by have := Mv.1.1; omega, by have := Mv.1.2; omega⟩
  have hPv : ∀ t, 0 ≤ t → t < 16 → (bAnd (bShr v t) 1 = 1 ↔ P t = true) := fun t t0 t1 => (bMs_i Mv t0 t1).trans (hP t t0 t1).symm
  have hSv : ∀ t, 0 ≤ t → t < 16 → P t = true → bTgk s t ∧ bFx s (t * 256 + bi s 10 0) = 0 := fun t t0 t1 tp => by
    obtain ⟨q1, q2⟩ := (hP t t0 t1).1 tp
    rw [bFx_m ag, e10s]
    exact ⟨(bTgk_g ag).2 (hQ t t0 t1 q1), q2⟩
  have eO : bmOd s P 16 = bmOd σ P 16 := bmOd_g ag e10s 16
  have eAl : ∀ V Z, bmAl s V Z = bmAl σ V Z := bmAl_g ag e76
  have Cm : bmC n [] (bqS σ Zr) n s := ⟨e13, fun a a0 a1 => bmA_m (Cs.2.1 a a0 a1).1 (fun _ _ _ => rfl) rfl (fun c hc => bqS_e.1 c (by simp only [List.mem_cons, List.not_mem_nil, or_false] at hc; omega) a) (fun i _ _ => bqS_e.1 106 (by decide) _), Cs.2.2.2.1, fun y hy => absurd hy List.not_mem_nil, Cs.2.2.2.2⟩
  -- behind the sound ones
  have go : (g ≠ 0 ∨ ∀ t, 0 ≤ t → t < 16 → Q t → P t = true) → bWp (d + 8) 80 [.ref 6, .int (bn v)] s (bRn (fun r8 s6 => ((r8 = 0 → bRn f (.inl (some (.int (bn (-2))))) s6) ∧ (¬ r8 = 0 → bWp (d + 8) 47 [.ref 5] s6 (bRv (fun s11 => bWp (d + 8) 48 [.ref 5] s11 (bRv (fun s13 => bWp (d + 8) 81 [.ref 6] s13 (bRv (fun s15 => bWp (d + 8) 49 [.ref 5] s15 (bRv (fun s17 => bWp (d + 8) 50 [.ref 5, .int (bn g), .int (bn l)] s17 (bRv (fun s19 => bWp (d + 8) 63 [.ref 5] s19 (bRv (fun s21 => A (40, [.ref 5, .int (bn x), .int (bn g), .int (bn l), .int (bn v), .int (bn 0), .int (bn 0), .float 0], [], s21))))))))))))))))) := fun cond => by
    refine bWp_n (f := fun r t => (r = 0 ∧ bmAl σ (bmOd σ P 16) (bqS σ Zr) = none ∧ ∃ s0 : bSt, bWk s s0 ∧ bi s0 6 10 = bi σ 6 10 + 2 ∧ bmFr n s0 t ∧ bi t 6 13 = n ∧ (∀ a, (n : Int) ≤ a → a ≤ 120 → bAm1 t a) ∧ bMr t) ∨ (r = 1 ∧ ∃ (s0 : bSt) (Z : bZs) (m : Nat) (rk : Int → Nat), bWk s s0 ∧ bi s0 6 10 = bi σ 6 10 + 2 ∧ bOl s0 = bmOd σ P 16 ∧ bmAl σ (bmOd σ P 16) (bqS σ Zr) = some Z ∧ bmI0 rk m Z ∧ bmI1 s (bmOd σ P 16) rk m Z ∧ bmC n (bmOd σ P 16) Z m t ∧ bmFr n s0 t)) (w80 (d := d + 2) (rk := rk) (Z0 := bqS σ Zr) (P := P) Fs Ls Ts R4s Ms ⟨by omega, by omega⟩ rv hPv hSv (bmI0_S I0) bmI1_S Cm (fun s0 t Z m rk a1 a2 a3 a4 a5 a6 a7 a8 => Or.inr ⟨rfl, s0, Z, m, rk, a1, by omega, ?_, ?_, a5, ?_, ?_, a8⟩) fun hN s0 t a1 a2 a3 a4 a5 a6 => Or.inl ⟨rfl, ?_, s0, a1, by omega, a3, a4, a5, a6⟩) fun r t hrt le => ?_
    · rw [a3, eO]
    · rw [← eAl, ← eO]; exact a4
    · rw [← eO]; exact a6
    · rw [← eO]; exact a7
    · rw [← eAl, ← eO]; exact hN
    rcases hrt with ⟨r0, hN, s0, a1, a2, a3, a4, a5, a6⟩ | ⟨r1, s0, Z, m, rk', a1, a2, a3, a4, J0, J1, Cb, Fr⟩
    · exact ⟨fun _ => bRn_i (by decide) (KO cond hN s s0 t W a1 a2 a3 a4 a5 a6 le), fun q => absurd r0 q⟩
    refine ⟨fun q => by omega, fun _ => ?_⟩
    have m120 := J0.1.2.1
    -- the state as time begins
    have uf := bmFr_un Fr
    have u0 : bUn bWkK [] s s0 := bUn_S bUn_refl a1.1 (by decide)
    have uβ : bUn [0, 4, 6, 13, 22, 23, 27, 28, 29, 30, 31, 32, 33] [] σ t := bUn_trans (bUn_trans (bUn_mono us (by decide) (by decide)) (bUn_mono u0 (by decide) (by decide))) (bUn_mono uf (by decide) (by decide))
    have us' : bUn [0, 4, 6, 13, 22, 23, 27, 28, 29, 30, 31, 32, 33] [] s t := bUn_trans (bUn_mono u0 (by decide) (by decide)) (bUn_mono uf (by decide) (by decide))
    have agβ := bmUn_pag uβ
    have ags := bmUn_pag us'
    have Fβ := bFi_un uβ (by decide) hF
    have Tβ := bTg_un uβ (by decide) (by decide) hT
    have Eβ := bqE_u uβ (by decide) (by decide) E
    have e76s : ∀ j, bi t 76 j = bi s 76 j := us'.1 76 (by decide) (by decide)
    have e76σ : ∀ j, bi σ 76 j = bi s 76 j := fun j => (e76 j).symm
    have agσ : bPag s σ := ⟨fun a ha i => (ag.1 a ha i).symm, ag.2.1.symm, ag.2.2.1.symm, fun t => (ag.2.2.2 t).symm⟩
    have J1β : bmI1 t (bmOd σ P 16) rk' m Z := bmI1_g ags e76s J1
    have J1σ : bmI1 σ (bmOd σ P 16) rk' m Z := bmI1_g agσ e76σ J1
    have OL : ∀ y, y ∈ bmOd σ P 16 ↔ bIno s0 (bi s0 6 11) y := fun y => by rw [← a3]; exact bOl_in
    have Cls : bmCl s (bmOd σ P 16) := fun y hy => by
      obtain ⟨j, j0, j1, j2⟩ := (OL y).1 hy
      obtain ⟨o1, o2, o3, o4⟩ := a1.2.1.2.2 j j0 j1
      rw [j2] at o1 o4
      refine ⟨⟨o1.1, o1.2, (J1.1 y hy).1.2.2⟩, fun k k0 k1 k2 => (OL _).2 ?_⟩
      obtain ⟨i, i0, i1, i2⟩ := o4 k k0 k1 k2
      exact ⟨i, i0, by omega, i2⟩
    have Clβ := bmCl_g ags Cls
    have Clσ := bmCl_g agσ Cls
    obtain ⟨m', em, Mq⟩ := bmAl_k (σ := σ) (n0 := n) (Zs := bqS σ Zr) (bmOd σ P 16) (bqS σ Zr) n ((bqS_e.1 49 (by decide) 0).trans I0.1.1) (bqM_refl ((bqS_e.1 49 (by decide) 0).trans I0.1.1)) a4
    have e : m' = m := by have := J0.1.1; omega
    subst e
    have e112β : ∀ c ∈ [134, 135, 137, 138], ∀ j, bi t c j = bi σ c j := fun c hc j => uβ.1 c (by
      simp only [List.mem_cons, List.not_mem_nil, or_false] at hc
      rcases hc with rfl | rfl | rfl | rfl <;> decide) (by
      simp only [List.mem_cons, List.not_mem_nil, or_false] at hc
      omega) j
    obtain ⟨BI, BR, Wc, _⟩ := bqI (σ := t) (β := σ) (n0 := n) (Zr := Zr) Fβ Tβ (fun k k0 k1 => (Eβ.2.1.1 k k0 k1).2) Eβ.2.2.1.2.2 J0 J1β Clβ Mq Ik Jc (Or.inr I0.1) e112 r112 (fun w w0 w1 => by
      have := E.2.2.2.2.1 w w0 w1
      exact ⟨this.2.2, this.2.1⟩) (fun x x0 x1 => ⟨(E.2.2.2.2.2.1 x x0 x1).2, (E.2.2.2.1 x x0 x1).2⟩)
    have mem : ∀ a, bAi a ∈ bAd a ∧ bAi a + 13 ∈ bAd a ∧ bNe a ∈ bAd a ∧ bKe a ∈ bAd a ∧ bKe a + 18 ∈ bAd a ∧ bKe a + 19 ∈ bAd a := fun a => by
      unfold bAd bAid bAi bNe bKe
      generalize a.toNat + 1 = q
      exact ⟨by simp, by simp, by simp, by simp, by simp, by simp⟩
    -- what is kept
    have Cr : bqCr m' Z t := by
      refine ⟨Cb.1, fun a a0 am => ⟨Cb.2.1 a a0 am, ?_⟩, ?_, fun a h1 h2 => Cb.2.2.1 a (by have := Mq.1; omega) h2, Cb.2.2.2.2⟩
      · by_cases q : a < (n : Int)
        · refine bqK_m (Z := Zr) (s := s) (Cs.2.1 a a0 q).2 (lK a a0 q) (fun b hb j => ?_) (by rw [Mq.2.2.2.1 a q, bqS_e.2.2.2.2.2])
          have hb' : b ∈ bAd a := by
            have m := mem a
            simp only [List.mem_cons, List.not_mem_nil, or_false] at hb
            rcases hb with rfl | rfl | rfl
            · exact m.2.2.2.1
            · exact m.2.2.2.2.1
            · exact m.2.2.2.2.2
          have hbm := bAd_m hb'
          have nb : b ≠ 30 ∧ b ≠ 33 ∧ b ≠ 6 := by
            simp only [List.mem_cons, List.not_mem_nil, or_false] at hbm
            omega
          rw [(Fr.1 b nb.1 nb.2.1 nb.2.2 fun a' h1 h2 h3 => (bAd_n a0 (by omega) (by omega : a ≠ a')).2.2.2.2 b hb' h3).1 j]
          exact u0.1 b (by
            simp only [List.mem_cons, List.not_mem_nil, or_false] at hbm
            unfold bWkK
            simp only [List.mem_cons, List.not_mem_nil, or_false, not_or]
            omega) (by
            simp only [List.mem_cons, List.not_mem_nil, or_false] at hbm
            omega) j
        · refine ⟨fun _ => ?_, fun K hK => by rw [Mq.2.2.2.2.1 a (by omega) am] at hK; cases hK⟩
          rcases Cb.2.2.1 a (by omega) (by omega) with w | w
          · have := (Cb.2.1 a a0 am).1
            rw [w.1] at this; cases this
          · exact ⟨w.2.2.2.2, w.2.2.1, w.2.2.2.1⟩
      · rw [Mq.2.2.1.1, Mq.2.2.1.2, bqS_e.2.2.2.2.2]
        refine bqCh Cs.2.2.1 le.1 fun x hx => ?_
        have hx1 : x % 256 ∉ bWkK ∧ x % 256 ≠ 12 ∧ x ≠ 30 ∧ x ≠ 33 ∧ x ≠ 6 := by
          unfold bWkK
          unfold bzTc at hx
          simp only [List.mem_cons, List.not_mem_nil, or_false, not_or] at hx ⊢
          omega
        have nA : ∀ a', (n : Int) ≤ a' → a' ≤ 120 → x ∉ bAd a' := fun a' h1 h2 h3 => by
          unfold bAd bAid at h3
          unfold bzTc at hx
          simp only [List.mem_cons, List.not_mem_nil, or_false] at h3 hx
          omega
        have f := Fr.1 x hx1.2.2.1 hx1.2.2.2.1 hx1.2.2.2.2 nA
        exact ⟨fun j => (f.1 j).trans (u0.1 x hx1.1 hx1.2.1 j), fun j => (f.2.2.1 j).trans (u0.2.2.2.1 x hx1.1 j), f.2.2.2.trans (u0.2.2.2.2 x hx1.1)⟩
    have o11 : bi t 6 11 = bi s0 6 11 := Fr.2.1.1 11 (by decide) (by decide)
    have o28 : ∀ i, bi t 28 i = bi s0 28 i := fun i => (Fr.1 28 (by decide) (by decide) (by decide) (fun a _ _ w => by have := bAd_m w; revert this; decide)).1 i
    have hOt : bOl t = bmOd σ P 16 := by rw [← a3]; exact bOl_m o11 fun i _ _ => o28 i
    have vb := bVn_b (s := s0)
    have n0s := a1.2.1.2.1
    have len := a1.2.2.2
    refine w46t (d := d) (σ0 := σ) (Zr := Zr) (V := bmOd σ P 16) (rk := rk') Fβ Tβ Eβ.1 Eβ.2.1 Eβ.2.2.1 Eβ.2.2.2.1 Eβ.2.2.2.2 Cr.1 Cr.2.1 Cr.2.2.1 hOt ⟨by omega, by omega⟩ Cb.2.2.2.1 J0 J1β Mq e112β BI BR Wc rg l0 fun t6 C6 ng => ?_
    obtain ⟨ks1, ks2⟩ := bzKf_s C6.1
    have k30 : ∀ b ∈ [10, 30], ∀ j, bi t6 b j = bi t b j := fun b hb j => (C6.1.1 b (fun q => by
      unfold bzTb bzTc at q
      simp only [List.mem_cons, List.not_mem_nil, or_false] at q hb
      omega) (bzPa_n (Or.inl (by simp only [List.mem_cons, List.not_mem_nil, or_false] at hb; omega)))).1 j
    have e10t : bi t6 10 0 = bi σ 10 0 := (k30 10 (by decide) 0).trans (uβ.1 10 (by decide) (by decide) 0)
    have IL := bzI_lp (g := g) l0.1 122 _ BI BR
    have IC := bzCo_e (n := m') (fun a a0 am => (IL.2.2.1 a a0 am).1) IL.2.2.2.2.2.2.2.2.2.2.2.2.2 m' (Nat.le_refl _)
    obtain ⟨_, _, inV⟩ := bmOd_w (σ := σ) (P := P) hL hT (fun t' t0 t1 tp => ⟨hQ t' t0 t1 ((hP t' t0 t1).1 tp).1, ((hP t' t0 t1).1 tp).2⟩) 16 (Nat.le_refl _)
    refine w46c (d := d) (P := P) (D := fun t' => decide (bzD (bzAl t m' g l (bqT t m' Z)) (Z.1 99 (t' * 256 + bi σ 10 0)))) hA rv (by rw [e10t]; exact hc) hPv (fun t' t0 t1 tp => ?_) (KY cond Z rk' m' a4 J0 J1σ Clσ Mq s s0 t t6 W a1 a2 Cb Fr le Cr BI BR Wc C6 ng C6.1.2.2.2) _
    have hy := inV t' t0 t1 tp
    obtain ⟨_, ⟨y0, y1⟩, _⟩ := J1σ.1 _ hy
    obtain ⟨As, Ad⟩ := C6.2.2.2 _ y0 y1
    have e142 : (bzAl t m' g l (bqT t m' Z)).1 142 (Z.1 99 (t' * 256 + bi σ 10 0)) = if (bzLp t m' g l 122 (bqT t m' Z)).1 140 (Z.1 99 (t' * 256 + bi σ 10 0)) ≠ 0 ∧ (bzLp t m' g l 122 (bqT t m' Z)).1 142 (Z.1 99 (t' * 256 + bi σ 10 0)) = -1 then 6 else (bzLp t m' g l 122 (bqT t m' Z)).1 142 (Z.1 99 (t' * 256 + bi σ 10 0)) := IC.2.2.2.1 _ y0 y1
    have j1 := (IL.2.2.1 _ y0 y1).1
    refine ⟨Z.1 99 (t' * 256 + bi σ 10 0), ?_, y0, by omega, As.1, ?_, ?_⟩
    · rw [e10t, k30 30 (by decide)]; exact Cb.2.2.2.1 _ hy
    · rw [Ad.1.1, e142]
      split <;> omega
    · rw [Ad.1.1, decide_eq_true_eq]
  refine ⟨fun e => go (Or.inr fun t t0 t1 q => (hPv t t0 t1).1 (by rw [e]; exact (bMs_i Xm t0 t1).2 q)), fun e => ⟨fun e0 => ?_, fun e0 => go (Or.inl e0)⟩⟩
  exact w47 (d := d + 5) e13 n120 (fun a a0 a1 => (Cs.2.1 a a0 a1).1.1) fun t F => bRn_i (by decide) (KE e0 (fun h => e (bMs_eq Mv (bMs_c Xm fun t t0 t1 => ⟨fun q => (hP t t0 t1).1 (h t t0 t1 q), fun q => q.1⟩))) s t W e10 e13 F)
end

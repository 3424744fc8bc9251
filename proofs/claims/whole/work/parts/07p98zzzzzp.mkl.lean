/-! BUILD, 64: what holds when a build has ended -/
/-- the model when a build has ended -/
def bqY (Z ZE : bZs) : bZs := (fun c j => if c = 112 then ZE.1 112 j else Z.1 c j, ZE.2)
/-- the reference's kinds that a build changes -/
def bqKr : List Nat := [11, 48, 49, 60, 61, 62, 63, 64, 65, 66, 67, 68, 69, 94, 95, 96, 97, 98, 99, 101, 102, 103, 104, 105, 106, 107, 108, 109, 110, 111, 112, 113, 114, 115, 116, 117, 118, 119, 120, 121, 122, 123, 124, 125, 126, 127, 128, 129, 130, 131, 132, 133, 134, 135, 137, 138, 139, 140, 141, 142, 143, 144, 145, 146, 147, 148, 149, 150]
section
variable {d lvl : Nat} {σ σ0 σr β s s0 s1 t r s' : bSt} {Z Z0 Y X Zs Zr T ZE W : bZs} {x y v a b k i q g l : Int} {n n0 m z0 B N μ L : Nat} {rk : Int → Nat} {S : List Nat} {F : List Int}
theorem bAk_of (C13 : bi r 6 13 = m) (c49 : bi r 12 49 = m) (I0 : bmI0 rk m Z) (A : ∀ a, 0 ≤ a → a < (m : Int) → bmA Z r a) (rows : ∀ a, 0 ≤ a → a < (m : Int) → (∀ c ∈ [101, 102, 103, 104, 105], bi r c a = Z.1 c a) ∧ ∀ i, 0 ≤ i → i < Z.1 105 a → bi r 106 (40 * a + i) = Z.1 106 (40 * a + i)) (Am : ∀ a, (m : Int) ≤ a → a ≤ 120 → bAm1 r a) : bAk r := by
  have m120 := I0.1.2.1
  refine ⟨⟨by omega, by omega, by omega⟩, fun a a0 a1 => ?_, fun a b a0 ab b1 => ?_, fun a h1 h2 => Am a (by omega) h2⟩
  · rw [c49] at a1
    obtain ⟨q1, ⟨q2, q3⟩, q4, q5, q6, q7⟩ := A a a0 a1
    obtain ⟨w1, w2⟩ := rows a a0 a1
    have o := I0.1.2.2 a a0 a1
    rw [w1 101 (by decide), w1 102 (by decide), w1 103 (by decide), w1 104 (by decide), w1 105 (by decide)]
    exact ⟨q1, o.1, q5, q6, q7, q2, q3, fun i i0 i1 => by rw [q4 i i0 i1, w2 i i0 i1]⟩
  · rw [c49] at b1
    obtain ⟨w1, w2⟩ := rows a a0 (by omega)
    obtain ⟨v1, v2⟩ := rows b (by omega) b1
    rw [w1 101 (by decide), w1 102 (by decide), w1 103 (by decide), w1 104 (by decide), w1 105 (by decide), v1 101 (by decide), v1 102 (by decide), v1 103 (by decide), v1 104 (by decide), v1 105 (by decide)]
    intro h
    refine I0.2.1 a b a0 ab b1 ⟨h.1, h.2.1, h.2.2.1, h.2.2.2.1, h.2.2.2.2.1, fun i i0 i1 => ?_⟩
    rw [← w2 i i0 (by omega), ← v2 i i0 i1]
    exact h.2.2.2.2.2 i i0 i1
/-- what is known of a build's end -/
theorem bqEnd (BI : bzI β m T) (BR : bzRn0 rk m T) (WT : bzWk m T) (g0 : bRg g) (l0 : 0 ≤ l ∧ l < 1000) (Cβ : bqCr m Z β) (C : bzCC β m (bzAl β m g l T) t) (ng : ∀ b, 0 ≤ b → b < (m : Int) → ¬ bzG (bzLp β m g l 122 T) b) (R : bzR0 β m (bzAl β m g l T) r) (u : bUn bqKr (111 :: bqFs) t r) (er : r.2.2.2 = t.2.2.2) (I0 : bmI0 rk m Z)
    (rows : ∀ a, 0 ≤ a → a < (m : Int) → (∀ c ∈ [101, 102, 103, 104, 105], bi r c a = Z.1 c a) ∧ ∀ i, 0 ≤ i → i < Z.1 105 a → bi r 106 (40 * a + i) = Z.1 106 (40 * a + i)) (E : bqE β) (rng : ∀ a, (m : Int) ≤ a → a < 120 → (0 ≤ bi r 112 a ∧ bi r 112 a < 1000) ∧ 0 ≤ bi r 114 a ∧ bi r 114 a ≤ 48) (B1 : bi r 12 73 ≤ 400 * N) : bqZ N (1000 + t.2.2.2.2.1) r ∧ bAk r ∧ bMr r := by
  have m120 := I0.1.2.1
  have IL := bzI_lp (g := g) l0.1 122 T BI BR
  have IC := bzCo_e (n := m) (fun a a0 am => (IL.2.2.1 a a0 am).1) IL.2.2.2.2.2.2.2.2.2.2.2.2.2 m (Nat.le_refl _)
  have WL := bzWk_lp (σ := β) (g := g) (rk := rk) l0.1 122 T BI BR WT
  have eAl : bzAl β m g l T = bzCo m (bzLp β m g l 122 T) := rfl
  rw [eAl] at C R
  generalize bzLp β m g l 122 T = W at *
  obtain ⟨c1, c2, _, c4, c5, c6⟩ := IC
  have nw := IL.2.2.2.2.2
  generalize bzCo m W = ZE at *
  obtain ⟨KF, CG, Ch, CA⟩ := C
  obtain ⟨Re, Rk, Ry, Rc⟩ := R
  obtain ⟨ks1, ks2⟩ := bzKf_s KF
  -- the class's cells stand
  have cl : ∀ b, b % 256 ∉ bqKr → b % 256 ≠ 12 → ∀ j, bi r b j = bi t b j := u.1
  have cr : ∀ b, b % 256 ∉ bqKr → ∀ j, br r b j = br t b j := u.2.2.2.1
  have obj : ∀ b, b % 256 ∈ [0, 1, 3, 4, 5, 6, 13, 14, 15, 16, 17, 18, 22, 23, 24, 25, 26, 30, 33] → (∀ j, bi r b j = bi t b j) ∧ ∀ j, br r b j = br t b j := fun b hb => by
    have h1 : b % 256 ∉ bqKr ∧ b % 256 ≠ 12 := by
      unfold bqKr
      simp only [List.mem_cons, List.not_mem_nil, or_false, not_or] at hb ⊢
      omega
    exact ⟨cl b h1.1 h1.2, cr b h1.1⟩
  have oi := fun b hb => (obj b hb).1
  have k30 : ∀ j, bi t 30 j = bi β 30 j := (KF.1 30 (fun q => by
    unfold bzTb bzTc at q
    simp only [List.mem_cons, List.not_mem_nil, or_false] at q
    omega) (bzPa_n (Or.inl (by decide)))).1
  have r49 : bi r 12 49 = m := Re.2.2.1
  have r13 : bi r 6 13 = m := by rw [oi 6 (by decide)]; exact CG.1.1
  have E5 : ∀ a, 0 ≤ a → a < (m : Int) → ∀ c ∈ [101, 102, 103, 104, 105], ZE.1 c a = Z.1 c a := fun a a0 a1 c hc => by
    rw [← (rows a a0 a1).1 c hc]
    exact ((Re.2.2.2 a a0 a1).1 c (by simp only [List.mem_cons, List.not_mem_nil, or_false] at hc ⊢; omega)).symm
  have E6 : ∀ a, 0 ≤ a → a < (m : Int) → ∀ i, 0 ≤ i → i < Z.1 105 a → ZE.1 106 (40 * a + i) = Z.1 106 (40 * a + i) := fun a a0 a1 i i0 i1 => by
    rw [← (rows a a0 a1).2 i i0 i1]
    exact ((Re.2.2.2 a a0 a1).2 i i0 (by rw [E5 a a0 a1 105 (by decide)]; exact i1)).symm
  have W5 : ∀ c, c ≠ 139 → c ≠ 142 → ∀ j, ZE.1 c j = W.1 c j := fun c h1 h2 => c1 c (by simp only [List.mem_cons, List.not_mem_nil, or_false, not_or]; exact ⟨h1, h2⟩)
  have Ik : bzIk m ZE := fun a a0 a1 K hK => by
    rw [c2] at hK
    have := IL.2.1 a a0 a1 K hK
    rw [W5 101 (by decide) (by decide), W5 102 (by decide) (by decide), W5 103 (by decide) (by decide), W5 105 (by decide) (by decide), W5 112 (by decide) (by decide)]
    exact this
  have lK : ∀ a, 0 ≤ a → a < (m : Int) → ∀ K, ZE.2.2.2 a = some K → bKl K := fun a a0 a1 K hK => bzKl (Ik a a0 a1 K hK).1
  have busy : ∀ w, 0 ≤ w → w < 12 → W.1 138 w = 0 := fun w w0 w1 => Classical.byContradiction fun q => by
    obtain ⟨a, a0, a1, ga, _⟩ := WL w w0 w1 q
    exact ng a a0 a1 ga
  -- classes' arrays and the reference's
  have gp : ∀ p ∈ bzGp, ∀ i, 0 ≤ i → i < p.2.2 → bi r p.2.1 i = ZE.1 p.1 i := fun p hp i i0 i1 => by
    rw [oi p.2.1 (by
      unfold bzGp at hp
      simp only [List.mem_cons, List.not_mem_nil, or_false] at hp
      rcases hp with rfl | rfl | rfl | rfl | rfl <;> decide)]
    exact CG.2.1 p hp i i0 i1
  have ry : ∀ b ∈ [134, 135, 137, 138, 139, 142, 143, 144, 145, 146, 147, 148], ∀ j, 0 ≤ j → bi r b j = ZE.1 b j := Ry.1
  have r12 : ∀ j, 0 ≤ j → j ∉ 111 :: bqFs → bi r 12 j = bi t 12 j := u.2.1
  have t12 : ∀ j, bi t 12 j = bi β 12 j := ks1 12 (by decide)
  have r136 : ∀ k, bi r 136 k = bi β 136 k := fun k => (cl 136 (by decide) (by decide) k).trans (ks1 136 (by decide) k)
  have e139 : ∀ x, x ≠ 9 → x ≠ 10 → x ≠ 11 → W.1 139 x = 0 := IL.2.2.2.2.2.2.2.2.2.2.2.2.2
  have EE : bqE r := by
    obtain ⟨m26, m25, m27, m28, w⟩ := E
    refine ⟨⟨?_, ?_⟩, ⟨fun x x0 x1 => ?_, fun x x0 x1 => ?_⟩, ⟨⟨?_, ?_⟩, ?_, ?_⟩, fun x x0 x1 => ?_, fun w w0 w1 => ?_, fun x x0 x1 => ?_, fun j hj => ?_⟩
    · rw [oi 3 (by decide), ks1 3 (by decide), r12 68 (by decide) (by decide), t12]; exact m26.1
    · rw [r12 68 (by decide) (by decide), t12]; exact m26.2
    · rw [oi 16 (by decide), CG.1.2.2.2 x x0 x1, r136]
      exact ⟨rfl, (m25.1 x x0 x1).2⟩
    · rw [gp (137, 17, 12) (by decide) x x0 x1, ry 137 (by decide) x x0]
    · rw [oi 5 (by decide), CG.1.2.1, r12 87 (by decide) (by decide), t12]
    · rw [r12 87 (by decide) (by decide), t12]; exact m27.1.2
    · rw [oi 5 (by decide), CG.1.2.2.1, r12 88 (by decide) (by decide), t12]
    · rw [r12 88 (by decide) (by decide), t12]; exact m27.2.2
    · rw [gp (135, 271, 1000) (by decide) x x0 x1, ry 135 (by decide) x x0]
      refine ⟨rfl, ?_⟩
      rw [W5 135 (by decide) (by decide)]
      exact (nw.2.2.2.2.1 x x0 x1).2
    · rw [gp (138, 18, 12) (by decide) w w0 w1, ry 138 (by decide) w w0, ry 137 (by decide) w w0, W5 138 (by decide) (by decide), W5 137 (by decide) (by decide), busy w w0 w1]
      exact ⟨rfl, rfl, (nw.2.2.2.1 w w0 w1).1⟩
    · rw [gp (134, 15, 1000) (by decide) x x0 x1, ry 134 (by decide) x x0]
      refine ⟨rfl, ?_⟩
      rw [W5 134 (by decide) (by decide)]
      exact (nw.2.2.2.2.1 x x0 x1).1
    · rw [ry 139 (by decide) j (by omega), c5 j (by omega)]
      exact e139 j (by omega) (by omega) (by omega)
  have m32 : bM32 r := fun x x0 x1 => by rw [gp (139, 24, 12) (by decide) x x0 x1, ry 139 (by decide) x x0]
  have m33 : bM33 r := by
    show bi r 5 8 = bi r 12 95
    rw [oi 5 (by decide), CG.2.2 (395, 8) (by decide), Ry.2.2.2]
  have bAiK : ∀ a : Int, 512 * (bAi a / 256) + 260 = bKe a ∧ bAi a % 256 = 0 := fun a => by unfold bAi bKe; omega
  have kinds : ∀ a : Int, (bAi a) % 256 = 0 ∧ (bAi a + 13) % 256 = 13 ∧ bNe a % 256 = 4 ∧ bKe a % 256 = 4 ∧ (bKe a + 18) % 256 = 22 ∧ (bKe a + 19) % 256 = 23 := fun a => by unfold bAi bNe bKe; omega
  have oA : ∀ (a : Int) j, bi r (bAi a) j = bi t (bAi a) j := fun a => oi _ (by rw [(kinds a).1]; decide)
  have oA13 : ∀ (a : Int) j, bi r (bAi a + 13) j = bi t (bAi a + 13) j := fun a => oi _ (by rw [(kinds a).2.1]; decide)
  have oN : ∀ (a : Int) j, bi r (bNe a) j = bi t (bNe a) j := fun a => oi _ (by rw [(kinds a).2.2.1]; decide)
  have oK : ∀ (a : Int), ∀ b ∈ [bKe a, bKe a + 18, bKe a + 19], ∀ j, bi r b j = bi t b j := fun a b hb => oi _ (by
    simp only [List.mem_cons, List.not_mem_nil, or_false] at hb
    rcases hb with rfl | rfl | rfl
    · rw [(kinds a).2.2.2.1]; decide
    · rw [(kinds a).2.2.2.2.1]; decide
    · rw [(kinds a).2.2.2.2.2]; decide)
  have o33 : ∀ a, br r 33 a = br t 33 a := (obj 33 (by decide)).2
  have Ar : ∀ a, 0 ≤ a → a < (m : Int) → bmA Z r a := fun a a0 a1 => by
    obtain ⟨As, _⟩ := CA a a0 a1
    obtain ⟨h1, ⟨h2, h3⟩, h4, ⟨h5, h6, h7⟩, _⟩ := As
    rw [E5 a a0 a1 104 (by decide)] at h2
    rw [E5 a a0 a1 105 (by decide)] at h3 h4
    rw [E5 a a0 a1 101 (by decide)] at h5
    rw [E5 a a0 a1 102 (by decide)] at h6
    rw [E5 a a0 a1 103 (by decide)] at h7
    refine ⟨by rw [o33]; exact h1, ⟨by rw [oA]; exact h2, by rw [oA]; exact h3⟩, fun i i0 i1 => by rw [oA13, h4 i i0 i1, E6 a a0 a1 i i0 i1], by rw [oN]; exact h5, by rw [oN]; exact h6, by rw [oN]; exact h7⟩
  have Kr : ∀ a, 0 ≤ a → a < (m : Int) → bqK ZE r a := fun a a0 a1 => bqK_m (Z := ZE) (s := t) (CA a a0 a1).2.2.2.2.1 (lK a a0 a1) (oK a) rfl
  have Am : ∀ a, (m : Int) ≤ a → a ≤ 120 → bAm1 r a := fun a h1 h2 => by
    have a0 : 0 ≤ a := by omega
    have nT : ∀ b ∈ bAd a, ¬ bzTb b ∧ ¬ bzPa m b := fun b hb => by
      refine ⟨fun q => ?_, fun ⟨a', a0', a1', q⟩ => ?_⟩
      · unfold bzTb bzTc at q
        unfold bAd bAid at hb
        simp only [List.mem_cons, List.not_mem_nil, or_false] at q hb
        omega
      · unfold bzTa bAi bNe bKe at q
        unfold bAd bAid at hb
        simp only [List.mem_cons, List.not_mem_nil, or_false] at q hb
        omega
    have mem : bAi a ∈ bAd a ∧ bKe a ∈ bAd a := by
      unfold bAd bAid bAi bKe
      generalize a.toNat + 1 = q
      exact ⟨by simp, by simp⟩
    refine bAm1_o (Cβ.2.2.2.1 a h1 h2) (fun b hb j => ?_) ((o33 a).trans (ks2 a)) fun b hb => ?_
    · simp only [List.mem_cons, List.not_mem_nil, or_false] at hb
      rcases hb with rfl | rfl
      · rw [oA]; exact (KF.1 _ (nT _ mem.1).1 (nT _ mem.1).2).1 j
      · rw [oK a _ (by simp)]; exact (KF.1 _ (nT _ mem.2).1 (nT _ mem.2).2).1 j
    · rw [er]; exact (KF.1 _ (nT b hb).1 (nT b hb).2).2.2.2
  have cnt : ∀ a, 0 ≤ a → a < (m : Int) → 0 ≤ ZE.1 142 a → ZE.1 142 a ≤ 5 → ZE.1 142 a = W.1 142 a ∧ W.1 143 a ≠ -1 ∧ W.1 140 a ≠ 0 ∧ bzIn W a (W.1 105 a).toNat = true := fun a a0 a1 h1 h2 => by
    have e := c4 a a0 a1
    have j := IL.2.2.1 a a0 a1
    by_cases q : W.1 140 a ≠ 0 ∧ W.1 142 a = -1
    · rw [if_pos q] at e; omega
    · rw [if_neg q] at e
      have n1 : W.1 142 a ≠ -1 := by omega
      have n2 := j.2.1 n1
      exact ⟨e, n2, (j.2.2.1 n2).1, (j.2.2.1 n2).2⟩
  have As : bAs r := by
    refine ⟨⟨by omega, by omega, by omega⟩, fun a a0 a1 => ⟨bAi a, ?_⟩⟩
    rw [r49] at a1
    obtain ⟨h1, ⟨h2, h3⟩, h4, _, h5, _⟩ := (CA a a0 a1).1
    obtain ⟨⟨d1, d2, d3⟩, _, _, dk, _⟩ := (CA a a0 a1).2
    obtain ⟨rr, ri⟩ := Re.2.2.2 a a0 a1
    obtain ⟨rk1, rk2⟩ := Rk a a0 a1
    have o := IL.1.2.1.2 a a0 a1
    have e105 : ZE.1 105 a = W.1 105 a := W5 105 (by decide) (by decide) a
    unfold bA1
    rw [(bAiK a).1, o33, oA, oA, oA, oA, oA, rr 105 (by decide), rr 140 (by decide), ry 142 (by decide) a a0, ry 143 (by decide) a a0, ry 144 (by decide) a a0]
    refine ⟨⟨h1, (bAiK a).2⟩, ⟨⟨h3, by omega, by omega⟩, fun i i0 i1 => by rw [oA13, h4 i i0 i1, ri i i0 i1]⟩, ⟨by rw [h5], fun _ => ⟨d1, d2, d3⟩⟩, ?_⟩
    have e279 : 512 * (bAi a / 256) + 279 = bKe a + 19 := by unfold bAi bKe; omega
    rw [oK a (bKe a) (by simp), e279]
    cases hk : ZE.2.2.2 a with
    | none =>
      obtain ⟨z1, z2, z3⟩ := rk1 hk
      rw [z1]
      exact ⟨fun _ => (dk.1 hk).2.1, fun q => absurd rfl q, z3, fun i q => absurd rfl q⟩
    | some K =>
      obtain ⟨z1, z2, z3, z4, z5⟩ := rk2 K hk
      obtain ⟨ek, _⟩ := dk.2 K hk
      have l := lK a a0 a1 K hk
      rw [z1, z4]
      refine ⟨fun q => absurd q (by decide), fun _ => ek.2.2.2.2.2.1, ⟨by omega, by have := l.2.1; omega⟩, fun i _ i0 i1 => ?_⟩
      have e1 := z5 i.toNat (by omega)
      have e2 := ek.2.2.2.2.2.2 i.toNat (by omega)
      rw [show ((i.toNat : Nat) : Int) = i by omega] at e1 e2
      rw [oK a (bKe a + 19) (by simp), e1, e2]
      have hm : K.2.2.2.2.getD i.toNat 0 ∈ K.2.2.2.2 := by
        rw [List.getD_eq_getElem?_getD, List.getElem?_eq_getElem (show i.toNat < K.2.2.2.2.length by omega)]
        exact List.getElem_mem _
      have := l.2.2 _ hm
      exact ⟨⟨by omega, by omega⟩, rfl⟩
  have Cn : ∀ a, 0 ≤ a → a < (m : Int) → ((0 ≤ ZE.1 142 a ∧ ZE.1 142 a ≤ 5) ↔ bCntd r a) := fun a a0 a1 => by
    unfold bCntd
    rw [r49, (Re.2.2.2 a a0 a1).1 140 (by decide), ry 142 (by decide) a a0]
    constructor
    · intro q
      have := cnt a a0 a1 q.1 q.2
      exact ⟨⟨a0, a1⟩, by rw [W5 140 (by decide) (by decide)]; exact this.2.2.1, q⟩
    · exact fun q => q.2.2
  have Aq : bAq r := by
    refine ⟨⟨by omega, by omega, by omega⟩, fun a a0 a1 => ⟨bAi a, ?_⟩⟩
    rw [r49] at a1
    obtain ⟨h1, ⟨h2, h3⟩, h4, _, h5, _⟩ := (CA a a0 a1).1
    obtain ⟨⟨d1, d2, d3⟩, _⟩ := (CA a a0 a1).2
    obtain ⟨rr, ri⟩ := Re.2.2.2 a a0 a1
    have o := IL.1.2.1.2 a a0 a1
    have e105 : ZE.1 105 a = W.1 105 a := W5 105 (by decide) (by decide) a
    have e106 : ∀ j, ZE.1 106 j = W.1 106 j := W5 106 (by decide) (by decide)
    have c := Cn a a0 a1
    have j142 : -1 ≤ ZE.1 142 a := by
      rw [c4 a a0 a1]
      have := (IL.2.2.1 a a0 a1).1
      split <;> omega
    unfold bA2
    rw [o33, oA, oA, oA, rr 105 (by decide), d1, d3, ry 144 (by decide) a a0]
    refine ⟨⟨h1, (bAiK a).2⟩, ⟨⟨h3, by omega, by omega⟩, fun i i0 i1 => ?_⟩, ⟨j142, c⟩, fun q => ⟨rfl, fun i ⟨k, k0, k1, k2, k3⟩ => ?_⟩⟩
    · rw [oA13, h4 i i0 i1, ri i i0 i1]
      have := o.2.2 i i0 (by omega)
      rw [e106]
      exact ⟨rfl, by omega⟩
    · have q2 := c.2 q
      obtain ⟨_, _, _, hin⟩ := cnt a a0 a1 q2.1 q2.2
      rw [rr 105 (by decide)] at k1
      rw [ri k k0 k1, e106] at k2
      have ok := o.2.2 k k0 (by omega)
      have dn := (bzIn_at _).1 hin k k0 (by omega)
      have dn : bzD W i := by
        rcases dn with w | w
        · omega
        · rw [k2, show 100 + i - 100 = i by omega] at w; exact w
      have i1 : i < a := by omega
      have ci := c4 i k3 (by omega)
      rw [if_neg (fun q => by have := dn.1; omega)] at ci
      exact ⟨i1, (Cn i k3 (by omega)).1 ⟨by rw [ci]; exact dn.1, by rw [ci]; have := dn.2; omega⟩⟩
  refine ⟨⟨EE, ⟨m32, m33⟩, ⟨As, Aq⟩, ⟨by omega, fun x hx hx2 => by rw [er]; exact Ch.2.2.2 x hx hx2⟩, ⟨rk, m, bqY Z ZE, ⟨?_, ?_, by rw [show (bqY Z ZE).2 = ZE.2 from rfl, c2]; exact IL.2.2.2.2.1.1, by rw [show (bqY Z ZE).2 = ZE.2 from rfl, c2]; exact IL.2.2.2.2.1.2⟩, ⟨fun a a0 a1 => ⟨?_, ?_⟩, ?_⟩, ⟨r49, fun a a0 a1 => ⟨fun b hb => ?_, fun i i0 i1 => (rows a a0 a1).2 i i0 i1⟩, Rk, Rc⟩, fun a a0 a1 => ?_⟩, B1⟩, bAk_of r13 r49 I0 Ar rows Am, fun y y0 y1 => by rw [oi 30 (by decide), k30]; exact Cβ.2.2.2.2 y y0 y1⟩
  · exact I0
  · intro a a0 a1 K hK
    have k := Ik a a0 a1 K hK
    show bKg K ∧ (K.1 = Z.1 101 a ∧ K.2.1 = Z.1 102 a ∧ K.2.2.1 = Z.1 103 a) ∧ K.2.2.2.1.length = (Z.1 105 a).toNat ∧ ZE.1 112 a = bKv K
    rw [← E5 a a0 a1 101 (by decide), ← E5 a a0 a1 102 (by decide), ← E5 a a0 a1 103 (by decide), ← E5 a a0 a1 105 (by decide)]
    exact k
  · exact Ar a a0 a1
  · exact Kr a a0 a1
  · have h := bqCh (s := t) (t := r) Ch (by rw [er]; exact Nat.le_refl _) fun x hx => ?_
    · exact ⟨h.1, h.2.1, h.2.2.1⟩
    · have := obj x (by
        unfold bzTc at hx
        simp only [List.mem_cons, List.not_mem_nil, or_false] at hx ⊢
        omega)
      exact ⟨this.1, this.2, by rw [er]⟩
  · by_cases e : b = 112
    · rw [e]
      exact (Re.2.2.2 a a0 a1).1 112 (by decide)
    · have : b ∈ [101, 102, 103, 104, 105] := by simp only [List.mem_cons, List.not_mem_nil, or_false] at hb ⊢; omega
      rw [(rows a a0 a1).1 b this]
      show Z.1 b a = if b = 112 then ZE.1 112 a else Z.1 b a
      rw [if_neg e]
  · by_cases q : a < (m : Int)
    · have o := IL.1.2.2.2 a a0 q
      refine ⟨?_, ?_⟩
      · rw [(Re.2.2.2 a a0 q).1 112 (by decide), W5 112 (by decide) (by decide)]
        exact o
      · obtain ⟨z1, z2⟩ := Rk a a0 q
        cases hk : ZE.2.2.2 a with
        | none => exact (z1 hk).2.2
        | some K =>
          obtain ⟨_, _, _, z4, _⟩ := z2 K hk
          have := (lK a a0 q K hk).2.1
          rw [z4]
          omega
    · exact rng a (by omega) a1
end

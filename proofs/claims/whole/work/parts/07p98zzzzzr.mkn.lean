/-! BUILD, 66: what is kept when a build finds an error -/
section
variable {d lvl : Nat} {σ σ0 σr β s s0 s1 t r s' : bSt} {Z Z0 Y X Zs Zr T ZE W : bZs} {x y v a b k i q g l : Int} {n n0 m z0 N μ L : Nat} {rk : Int → Nat} {S : List Nat} {F : List Int} {A B : List bKy}
theorem bqErr (h : bqZ N μ σ) (c49 : bi σ 12 49 = n) (hc : ∀ a, 0 ≤ a → a < (n : Int) → br r 33 a = br σ 33 a ∧ (∀ b ∈ [bAi a + 13, bNe a, bKe a, bKe a + 18, bKe a + 19], ∀ j, bi r b j = bi σ b j) ∧ ∀ j, 0 ≤ j → bi r (bAi a) j = bmFv (bi σ (bAi a)) j)
    (h2 : ∀ x, (bzTc x ∨ x ∈ [1, 257, 14, 270, 3, 15, 271, 16, 17, 18]) → (∀ j, bi r x j = bi σ x j) ∧ (∀ j, br r x j = br σ x j) ∧ r.2.2.2.1 x = σ.2.2.2.1 x) (h5 : ∀ j, 0 ≤ j → bi r 5 j = if j = 8 then -1 else if j = 9 ∨ j = 10 then 0 else bi σ 5 j) (h24 : ∀ j, 0 ≤ j → j < 12 → bi r 24 j = 0)
    (h3 : ∀ a, 0 ≤ a → a < (n : Int) → (∀ c ∈ [101, 102, 103, 104, 105, 110, 111], bi r c a = bi σ c a) ∧ ∀ i, 0 ≤ i → i < 40 → bi r 106 (40 * a + i) = bi σ 106 (40 * a + i)) (h4 : ∀ c ∈ [112, 113, 114, 115, 121, 122, 123, 124, 125, 126, 127, 128, 129, 134, 135, 136, 137, 138], ∀ j, bi r c j = bi σ c j)
    (h139 : (∀ j, 0 ≤ j → j < 12 → bi r 139 j = 0) ∧ ∀ j, 12 ≤ j → bi r 139 j = bi σ 139 j) (hO : bObl 120 r) (h12 : ∀ k ∈ ([49, 68, 73, 87, 88] : List Int), bi r 12 k = bi σ 12 k) (h95 : bi r 12 95 = -1) (h13 : bi r 6 13 = bi σ 6 13) : bqZ N μ r := by
  obtain ⟨E, ⟨m32, m33⟩, ⟨As, Aq⟩, Fr, ⟨rk, n', Z, R⟩, B⟩ := h
  have en : n' = n := by have := R.2.2.1.1; omega
  subst en
  obtain ⟨⟨I0, Ik, Jc⟩, ⟨A1, Ch⟩, ⟨_, rows, Rk, Rc⟩, rng⟩ := R
  have n120 := I0.1.2.1
  have e2 : ∀ x ∈ [1, 257, 14, 270, 3, 15, 271, 16, 17, 18], ∀ j, bi r x j = bi σ x j := fun x hx => (h2 x (Or.inr hx)).1
  have lK : ∀ a, 0 ≤ a → a < (n' : Int) → ∀ K, Z.2.2.2 a = some K → bKl K := fun a a0 a1 K hK => bzKl (Ik a a0 a1 K hK).1
  have z_at : ∀ {a z}, 0 ≤ a → a < (n' : Int) → br σ 33 a = some z → z = bAi a := fun {a z} a0 a1 hz => by
    have := (A1 a a0 a1).1.1
    rw [this] at hz
    exact (Option.some.inj hz).symm
  have five : bi r 5 5 = bi σ 5 5 ∧ bi r 5 6 = bi σ 5 6 ∧ bi r 5 8 = -1 := ⟨by rw [h5 5 (by decide)]; rfl, by rw [h5 6 (by decide)]; rfl, by rw [h5 8 (by decide)]; rfl⟩
  have cn : ∀ i, ¬ bCntd r i := fun i q => by
    have := (hO i q.1.1 (by have := q.1.2; rw [h12 49 (by decide), c49] at this; omega)).1
    exact q.2.1 this
  refine ⟨?_, ⟨fun x x0 x1 => ?_, ?_⟩, ⟨⟨?_, fun a a0 a1 => ?_⟩, ?_, fun a a0 a1 => ?_⟩, ⟨Fr.1, fun x hx hx2 => ?_⟩, ⟨rk, n', Z, ⟨I0, Ik, Jc⟩, ⟨fun a a0 a1 => ?_, ?_⟩, ⟨?_, fun a a0 a1 => ⟨fun b hb => ?_, fun i i0 i1 => ?_⟩, fun a a0 a1 => ?_, ?_⟩, fun a a0 a1 => ?_⟩, ?_⟩
  · obtain ⟨q26, q25, q27, q28, q1, q2, q3⟩ := E
    refine ⟨?_, ?_, ?_, ?_, ?_, ?_, fun j hj => by rw [h139.2 j hj]; exact q3 j hj⟩
    · unfold bM26 at q26 ⊢
      simp only [e2 3 (by decide), h12 68 (by decide)]
      exact q26
    · unfold bM25 at q25 ⊢
      simp only [e2 16 (by decide), e2 17 (by decide), h4 136 (by decide), h4 137 (by decide)]
      exact q25
    · unfold bM27 at q27 ⊢
      simp only [five.1, five.2.1, h12 87 (by decide), h12 88 (by decide)]
      exact q27
    · unfold bM28 at q28 ⊢
      simp only [e2 271 (by decide), h4 135 (by decide)]
      exact q28
    · simp only [e2 18 (by decide), h4 138 (by decide), h4 137 (by decide)]
      exact q1
    · simp only [e2 15 (by decide), h4 134 (by decide)]
      exact q2
  · rw [h24 x x0 x1, h139.1 x x0 x1]
  · show bi r 5 8 = bi r 12 95
    rw [five.2.2, h95]
  · rw [h13, h12 49 (by decide)]; exact As.1
  · rw [h12 49 (by decide)] at a1
    obtain ⟨z, h⟩ := As.2 a a0 a1
    rw [c49] at a1
    have ez := z_at a0 a1 h.1.1
    subst ez
    refine ⟨bAi a, ?_⟩
    have e260 : 512 * (bAi a / 256) + 260 = bKe a := by unfold bAi bKe; omega
    have e279 : 512 * (bAi a / 256) + 279 = bKe a + 19 := by unfold bAi bKe; omega
    have c40 : bi σ 105 a ≤ 40 := h.2.1.1.2.2
    obtain ⟨o1, o2, o3⟩ := hc a a0 a1
    have w := (h3 a a0 a1).1
    have w6 := (h3 a a0 a1).2
    unfold bA1 at h ⊢
    rw [e260, e279] at h ⊢
    have b5 : bi r (bAi a) 5 = 0 := by rw [o3 5 (by decide)]; rfl
    have b1 : bi r (bAi a) 1 = bi σ (bAi a) 1 := by rw [o3 1 (by decide)]; rfl
    have b140 := (hO a a0 (by omega)).1
    rw [o1, b1, b5, o2 (bKe a) (by simp), w 105 (by decide), w 110 (by decide), h4 114 (by decide), b140]
    obtain ⟨g1, ⟨g2, g3⟩, _, g5, g6, g7, g8⟩ := h
    exact ⟨g1, ⟨g2, fun i i0 i1 => by rw [o2 (bAi a + 13) (by simp), w6 i i0 (by omega)]; exact g3 i i0 i1⟩, ⟨Iff.intro (fun _ => rfl) (fun _ => rfl), fun q => absurd rfl q⟩, g5, g6, g7, fun i q i0 i1 => by rw [o2 (bKe a + 19) (by simp), h4 115 (by decide)]; exact g8 i q i0 i1⟩
  · rw [h13, h12 49 (by decide)]; exact Aq.1
  · rw [h12 49 (by decide)] at a1
    obtain ⟨z, h⟩ := Aq.2 a a0 a1
    rw [c49] at a1
    have ez := z_at a0 a1 h.1.1
    subst ez
    refine ⟨bAi a, ?_⟩
    obtain ⟨o1, o2, o3⟩ := hc a a0 a1
    have w := (h3 a a0 a1).1
    have w6 := (h3 a a0 a1).2
    have c40 : bi σ 105 a ≤ 40 := h.2.1.1.2.2
    unfold bA2 at h ⊢
    have b10 : bi r (bAi a) 10 = -1 := by rw [o3 10 (by decide)]; rfl
    have b1 : bi r (bAi a) 1 = bi σ (bAi a) 1 := by rw [o3 1 (by decide)]; rfl
    rw [o1, b1, b10, w 105 (by decide)]
    obtain ⟨g1, ⟨g2, g3⟩, _⟩ := h
    exact ⟨g1, ⟨g2, fun i i0 i1 => by rw [o2 (bAi a + 13) (by simp), w6 i i0 (by omega)]; exact g3 i i0 i1⟩, ⟨by decide, Iff.intro (fun q => by omega) (fun q => absurd q (cn a))⟩, fun q => absurd q (cn a)⟩
  · rw [(h2 x (Or.inl ⟨by have := Fr.1; omega, hx⟩)).2.2]; exact Fr.2 x hx hx2
  · obtain ⟨o1, o2, o3⟩ := hc a a0 a1
    obtain ⟨⟨q1, ⟨q2, q3⟩, q4, q5, q6, q7⟩, kk⟩ := A1 a a0 a1
    have b0 : bi r (bAi a) 0 = bi σ (bAi a) 0 := by rw [o3 0 (by decide)]; rfl
    have b1 : bi r (bAi a) 1 = bi σ (bAi a) 1 := by rw [o3 1 (by decide)]; rfl
    refine ⟨⟨by rw [o1]; exact q1, ⟨by rw [b0]; exact q2, by rw [b1]; exact q3⟩, fun i i0 i1 => by rw [o2 (bAi a + 13) (by simp)]; exact q4 i i0 i1, by rw [o2 (bNe a) (by simp)]; exact q5, by rw [o2 (bNe a) (by simp)]; exact q6, by rw [o2 (bNe a) (by simp)]; exact q7⟩, bqK_m kk (lK a a0 a1) (fun b hb => o2 b (by simp only [List.mem_cons, List.not_mem_nil, or_false] at hb ⊢; omega)) rfl⟩
  · exact bqCh0_m Ch fun x hx => h2 x (hx.imp id fun q => by simp only [List.mem_cons, List.not_mem_nil, or_false] at q ⊢; omega)
  · rw [h12 49 (by decide)]; exact c49
  · by_cases e : b = 112
    · rw [e, h4 112 (by decide)]; exact (rows a a0 a1).1 112 (by decide)
    · rw [(h3 a a0 a1).1 b (by simp only [List.mem_cons, List.not_mem_nil, or_false] at hb ⊢; omega)]; exact (rows a a0 a1).1 b hb
  · rw [(h3 a a0 a1).2 i i0 (by have := (I0.1.2.2 a a0 a1).1; omega)]; exact (rows a a0 a1).2 i i0 i1
  · obtain ⟨q1, q2⟩ := Rk a a0 a1
    have w := (h3 a a0 a1).1
    rw [w 110 (by decide), w 111 (by decide), h4 114 (by decide)]
    exact ⟨q1, fun K hK => by
      obtain ⟨z1, z2, z3, z4, z5⟩ := q2 K hK
      exact ⟨z1, z2, fun i hi => by rw [h4 113 (by decide)]; exact z3 i hi, z4, fun i hi => by rw [h4 115 (by decide)]; exact z5 i hi⟩⟩
  · exact bzRc_u Rc (fun b hb => h4 b (by unfold bPuK at hb; simp only [List.mem_cons, List.not_mem_nil, or_false] at hb ⊢; omega)) (h12 73 (by decide)) rfl rfl
  · rw [h4 112 (by decide), h4 114 (by decide)]; exact rng a a0 a1
  · rw [h12 73 (by decide)]; exact B
end

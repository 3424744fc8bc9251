/-! ALL CASES: what is kept stands, but for what a case changes -/
section
variable {d lvl : Nat} {σ σ0 s s0 r r' : bSt} {Z Y : bZs} {x y v a b k i q g l : Int} {n N N' μ L : Nat} {rk : Int → Nat} {S : List Nat} {F : List Int} {A B : List bKy}
theorem bqZ_x (h : bqZ N μ σ) (u : bUn S F σ s) (hS : ∀ k ∈ [0, 4, 6, 13, 22, 23, 33, 101, 102, 103, 104, 105, 106, 110, 111, 112, 113, 114, 115, 140, 142, 143, 144], k ∉ S) (hF : ∀ k ∈ [49, 73], k ∉ F) (hE : bqE s) (m32 : bM32 s) (m33 : bM33 s)
    (hC : ∀ rk n Z, bqR σ rk n Z → ∃ A B, (bzJc 24 A ∧ bzJc 40 B) ∧ bqCh0 s A B ∧ bzRc (Z.1, A, B, Z.2.2.2) s) : bqZ N μ s := by
  obtain ⟨E, _, ⟨As, Aq⟩, Fr, ⟨rk, n', Z, R⟩, B⟩ := h
  obtain ⟨A', B', Jc', Ch', Rc'⟩ := hC rk n' Z R
  obtain ⟨⟨I0, Ik, Jc⟩, ⟨A1, Ch⟩, ⟨c49, rows, Rk, Rc⟩, rng⟩ := R
  have n120 := I0.1.2.1
  have lK : ∀ a, 0 ≤ a → a < (n' : Int) → ∀ K, Z.2.2.2 a = some K → bKl K := fun a a0 a1 K hK => bzKl (Ik a a0 a1 K hK).1
  have e : ∀ b, b % 256 ∈ [0, 4, 6, 13, 22, 23, 33, 101, 102, 103, 104, 105, 106, 110, 111, 112, 113, 114, 115, 140, 142, 143, 144] → ∀ j, bi s b j = bi σ b j := fun b hb => u.1 b (hS _ hb) (fun w => by rw [w] at hb; revert hb; decide)
  have s1 : ∀ a, 0 ≤ a → a < (n' : Int) → br s 33 a = br σ 33 a ∧ ∀ b ∈ bqOb a, ∀ j, bi s b j = bi σ b j := fun a _ _ => ⟨u.2.2.2.1 33 (hS 33 (by decide)) a, fun b hb => e b (by
    unfold bqOb bAi bNe bKe at hb
    simp only [List.mem_cons, List.not_mem_nil, or_false] at hb ⊢
    omega)⟩
  have s3 : ∀ a, 0 ≤ a → a < (n' : Int) → (∀ c ∈ [101, 102, 103, 104, 105, 110, 111], bi s c a = bi σ c a) ∧ ∀ i, 0 ≤ i → i < 40 → bi s 106 (40 * a + i) = bi σ 106 (40 * a + i) := fun a _ _ => ⟨fun c hc => e c (by simp only [List.mem_cons, List.not_mem_nil, or_false] at hc ⊢; omega) a, fun i _ _ => e 106 (by decide) _⟩
  have s4 : ∀ c ∈ [112, 113, 114, 115, 140, 142, 143, 144], ∀ j, bi s c j = bi σ c j := fun c hc => e c (by simp only [List.mem_cons, List.not_mem_nil, or_false] at hc ⊢; omega)
  have s5 : ∀ k ∈ ([49, 73] : List Int), bi s 12 k = bi σ 12 k := fun k hk => u.2.1 k (by simp only [List.mem_cons, List.not_mem_nil, or_false] at hk; omega) (hF k hk)
  have s6 : bi s 6 13 = bi σ 6 13 := e 6 (by decide) 13
  have z_at : ∀ {a z}, 0 ≤ a → a < (n' : Int) → br σ 33 a = some z → z = bAi a := fun {a z} a0 a1 hz => by
    have := (A1 a a0 a1).1.1
    rw [this] at hz
    exact (Option.some.inj hz).symm
  have ob : ∀ a, 0 ≤ a → a < (n' : Int) → ∀ b ∈ bqOb a, ∀ j, bi s b j = bi σ b j := fun a a0 a1 => (s1 a a0 a1).2
  refine ⟨hE, ⟨m32, m33⟩, ⟨⟨?_, fun a a0 a1 => ?_⟩, ?_, fun a a0 a1 => ?_⟩, ⟨Fr.1, fun x hx hx2 => ?_⟩, ⟨rk, n', (Z.1, A', B', Z.2.2.2), ⟨I0, Ik, Jc'⟩, ⟨fun a a0 a1 => ?_, Ch'⟩, ⟨by rw [s5 49 (by decide)]; exact c49, fun a a0 a1 => ⟨fun b hb => ?_, fun i i0 i1 => ?_⟩, bzRk_u Rk (fun b hb => e b (by unfold bRkK at hb; simp only [List.mem_cons, List.not_mem_nil, or_false] at hb ⊢; omega)) rfl, Rc'⟩, fun a a0 a1 => by rw [s4 112 (by decide), s4 114 (by decide)]; exact rng a a0 a1⟩, by rw [s5 73 (by decide)]; exact B⟩
  · rw [s6, s5 49 (by decide)]; exact As.1
  · rw [s5 49 (by decide)] at a1
    obtain ⟨z, h⟩ := As.2 a a0 a1
    rw [c49] at a1
    have ez := z_at a0 a1 h.1.1
    subst ez
    refine ⟨bAi a, ?_⟩
    have e260 : 512 * (bAi a / 256) + 260 = bKe a := by unfold bAi bKe; omega
    have e279 : 512 * (bAi a / 256) + 279 = bKe a + 19 := by unfold bAi bKe; omega
    have c40 : bi σ 105 a ≤ 40 := h.2.1.1.2.2
    have w := (s3 a a0 a1).1
    have w6 := (s3 a a0 a1).2
    unfold bA1 at h ⊢
    rw [e260, e279] at h ⊢
    rw [(s1 a a0 a1).1, ob a a0 a1 (bAi a) (by simp [bqOb]), ob a a0 a1 (bAi a) (by simp [bqOb]), ob a a0 a1 (bAi a) (by simp [bqOb]), ob a a0 a1 (bAi a) (by simp [bqOb]), ob a a0 a1 (bAi a) (by simp [bqOb]), ob a a0 a1 (bKe a) (by simp [bqOb]), w 105 (by decide), w 110 (by decide), s4 114 (by decide), s4 140 (by decide), s4 142 (by decide), s4 143 (by decide), s4 144 (by decide)]
    obtain ⟨h1, ⟨h2, h3⟩, h4, h5, h6, h7, h8⟩ := h
    exact ⟨h1, ⟨h2, fun i i0 i1 => by rw [ob a a0 a1 (bAi a + 13) (by simp [bqOb]), w6 i i0 (by omega)]; exact h3 i i0 i1⟩, h4, h5, h6, h7, fun i q i0 i1 => by rw [ob a a0 a1 (bKe a + 19) (by simp [bqOb]), s4 115 (by decide)]; exact h8 i q i0 i1⟩
  · rw [s6, s5 49 (by decide)]; exact Aq.1
  · rw [s5 49 (by decide)] at a1
    obtain ⟨z, h⟩ := Aq.2 a a0 a1
    rw [c49] at a1
    have ez := z_at a0 a1 h.1.1
    subst ez
    refine ⟨bAi a, ?_⟩
    have cn : ∀ i, bCntd s i ↔ bCntd σ i := fun i => by unfold bCntd; rw [s5 49 (by decide), s4 140 (by decide), s4 142 (by decide)]
    have w := (s3 a a0 a1).1
    have w6 := (s3 a a0 a1).2
    have c40 : bi σ 105 a ≤ 40 := h.2.1.1.2.2
    unfold bA2 at h ⊢
    rw [(s1 a a0 a1).1, ob a a0 a1 (bAi a) (by simp [bqOb]), ob a a0 a1 (bAi a) (by simp [bqOb]), ob a a0 a1 (bAi a) (by simp [bqOb]), w 105 (by decide), s4 144 (by decide), cn]
    obtain ⟨h1, ⟨h2, h3⟩, h4, h5⟩ := h
    refine ⟨h1, ⟨h2, fun i i0 i1 => by rw [ob a a0 a1 (bAi a + 13) (by simp [bqOb]), w6 i i0 (by omega)]; exact h3 i i0 i1⟩, h4, fun q => ⟨(h5 q).1, fun i ⟨k, k0, k1, k2, k3⟩ => ?_⟩⟩
    rw [w 105 (by decide)] at k1
    rw [w6 k k0 (by omega)] at k2
    rw [cn]
    exact (h5 q).2 i ⟨k, k0, k1, k2, k3⟩
  · rw [u.2.2.2.2 x (hS _ (by simp only [List.mem_cons, List.not_mem_nil, or_false] at hx ⊢; omega))]
    exact Fr.2 x hx hx2
  · obtain ⟨o1, o2⟩ := s1 a a0 a1
    exact ⟨bmA_m (A1 a a0 a1).1 (fun b hb => o2 b (by unfold bqOb; simp only [List.mem_cons, List.not_mem_nil, or_false] at hb ⊢; omega)) o1 (fun _ _ => rfl) (fun _ _ _ => rfl), bqK_m (A1 a a0 a1).2 (lK a a0 a1) (fun b hb => o2 b (by unfold bqOb; simp only [List.mem_cons, List.not_mem_nil, or_false] at hb ⊢; omega)) rfl⟩
  · rw [e b (by simp only [List.mem_cons, List.not_mem_nil, or_false] at hb ⊢; omega)]
    exact (rows a a0 a1).1 b hb
  · rw [e 106 (by decide)]
    exact (rows a a0 a1).2 i i0 i1
/-- the caches stand -/
theorem bqZ_cs (u : bUn S F σ s) (hS : ∀ k ∈ [1, 4, 14, 22, 23, 121, 122, 123, 124, 125, 126, 127, 128, 129], k ∉ S) (hF : 73 ∉ F) : ∀ rk n Z, bqR σ rk n Z → ∃ A B, (bzJc 24 A ∧ bzJc 40 B) ∧ bqCh0 s A B ∧ bzRc (Z.1, A, B, Z.2.2.2) s := fun rk n Z R => by
  obtain ⟨⟨I0, Ik, Jc⟩, ⟨A1, Ch⟩, ⟨c49, rows, Rk, Rc⟩, rng⟩ := R
  refine ⟨Z.2.1, Z.2.2.1, Jc, bqCh0_m Ch fun x hx => ?_, bzRc_u Rc (fun b hb => u.1 b (hS _ ?_) ?_) (u.2.1 73 (by decide) hF) rfl rfl⟩
  · have hx' : x % 256 ∈ [1, 4, 14, 22, 23, 121, 122, 123, 124, 125, 126, 127, 128, 129] := by
      unfold bzTc at hx
      simp only [List.mem_cons, List.not_mem_nil, or_false] at hx ⊢
      omega
    exact ⟨u.1 x (hS _ hx') (fun w => by rw [w] at hx'; revert hx'; decide), u.2.2.2.1 x (hS _ hx'), u.2.2.2.2 x (hS _ hx')⟩
  · unfold bPuK at hb; simp only [List.mem_cons, List.not_mem_nil, or_false] at hb ⊢; omega
  · unfold bPuK at hb; simp only [List.mem_cons, List.not_mem_nil, or_false] at hb; omega
/-- workers -/
theorem bqZ_25 (u : bUn [16, 17, 136, 137] [0] σ s) (m : bM25 s) (m2 : ∀ j, 0 ≤ j → bi s 137 j = bi σ 137 j ∨ bi s 137 j = -1) (h : bqZ N μ σ) : bqZ N μ s := by
  obtain ⟨⟨e26, e25, e27, e28, eW⟩, ⟨m32, m33⟩, _⟩ := id h
  have ne : ∀ b, b % 256 ∉ [16, 17, 136, 137] → b % 256 ≠ 12 → ∀ j, bi s b j = bi σ b j := u.1
  refine bqZ_x h u (by decide) (by decide) ⟨?_, m, ?_, ?_, ?_⟩ ?_ ?_ (bqZ_cs u (by decide) (by decide))
  · unfold bM26 at *
    rw [ne 3 (by decide) (by decide), u.2.1 68 (by decide) (by decide)]; exact e26
  · unfold bM27 at *
    rw [ne 5 (by decide) (by decide), ne 5 (by decide) (by decide), u.2.1 87 (by decide) (by decide), u.2.1 88 (by decide) (by decide)]; exact e27
  · intro x x0 x1
    rw [ne 271 (by decide) (by decide), ne 135 (by decide) (by decide)]; exact e28 x x0 x1
  · obtain ⟨w1, w2, w3⟩ := eW
    refine ⟨fun w w0 w12 => ?_, fun x x0 x1 => ?_, fun j hj => ?_⟩
    · rw [ne 18 (by decide) (by decide), ne 138 (by decide) (by decide)]
      obtain ⟨q1, q2, q3, q4⟩ := w1 w w0 w12
      refine ⟨q1, q2, ?_⟩
      rcases m2 w w0 with e | e <;> rw [e] <;> omega
    · rw [ne 15 (by decide) (by decide), ne 134 (by decide) (by decide)]; exact w2 x x0 x1
    · rw [ne 139 (by decide) (by decide)]; exact w3 j hj
  · intro x x0 x1
    rw [ne 24 (by decide) (by decide), ne 139 (by decide) (by decide)]; exact m32 x x0 x1
  · show bi s 5 8 = bi s 12 95
    rw [ne 5 (by decide) (by decide), u.2.1 95 (by decide) (by decide)]; exact m33
/-- sandbox -/
theorem bqZ_26 (u : bUn [3] [0, 68] σ s) (m : bM26 s) (h : bqZ N μ σ) : bqZ N μ s := by
  obtain ⟨⟨e26, e25, e27, e28, eW⟩, ⟨m32, m33⟩, _⟩ := id h
  have ne : ∀ b, b % 256 ∉ [3] → b % 256 ≠ 12 → ∀ j, bi s b j = bi σ b j := u.1
  refine bqZ_x h u (by decide) (by decide) ⟨m, ?_, ?_, ?_, ?_⟩ ?_ ?_ (bqZ_cs u (by decide) (by decide))
  · unfold bM25 at *
    simp only [ne 16 (by decide) (by decide), ne 136 (by decide) (by decide), ne 17 (by decide) (by decide), ne 137 (by decide) (by decide)]; exact e25
  · unfold bM27 at *
    rw [ne 5 (by decide) (by decide), ne 5 (by decide) (by decide), u.2.1 87 (by decide) (by decide), u.2.1 88 (by decide) (by decide)]; exact e27
  · intro x x0 x1
    rw [ne 271 (by decide) (by decide), ne 135 (by decide) (by decide)]; exact e28 x x0 x1
  · unfold bqW at *
    simp only [ne 18 (by decide) (by decide), ne 138 (by decide) (by decide), ne 137 (by decide) (by decide), ne 15 (by decide) (by decide), ne 134 (by decide) (by decide), ne 139 (by decide) (by decide)]; exact eW
  · intro x x0 x1
    rw [ne 24 (by decide) (by decide), ne 139 (by decide) (by decide)]; exact m32 x x0 x1
  · show bi s 5 8 = bi s 12 95
    rw [ne 5 (by decide) (by decide), u.2.1 95 (by decide) (by decide)]; exact m33
/-- far -/
theorem bqZ_27 (u : bUn [5] [0, 87, 88] σ s) (o : ∀ i, 0 ≤ i → i ≠ 5 → i ≠ 6 → bi s 5 i = bi σ 5 i) (m : bM27 s) (h : bqZ N μ σ) : bqZ N μ s := by
  obtain ⟨⟨e26, e25, e27, e28, eW⟩, ⟨m32, m33⟩, _⟩ := id h
  have ne : ∀ b, b % 256 ∉ [5] → b % 256 ≠ 12 → ∀ j, bi s b j = bi σ b j := u.1
  refine bqZ_x h u (by decide) (by decide) ⟨?_, ?_, m, ?_, ?_⟩ ?_ ?_ (bqZ_cs u (by decide) (by decide))
  · unfold bM26 at *
    rw [ne 3 (by decide) (by decide), u.2.1 68 (by decide) (by decide)]; exact e26
  · unfold bM25 at *
    simp only [ne 16 (by decide) (by decide), ne 136 (by decide) (by decide), ne 17 (by decide) (by decide), ne 137 (by decide) (by decide)]; exact e25
  · intro x x0 x1
    rw [ne 271 (by decide) (by decide), ne 135 (by decide) (by decide)]; exact e28 x x0 x1
  · unfold bqW at *
    simp only [ne 18 (by decide) (by decide), ne 138 (by decide) (by decide), ne 137 (by decide) (by decide), ne 15 (by decide) (by decide), ne 134 (by decide) (by decide), ne 139 (by decide) (by decide)]; exact eW
  · intro x x0 x1
    rw [ne 24 (by decide) (by decide), ne 139 (by decide) (by decide)]; exact m32 x x0 x1
  · show bi s 5 8 = bi s 12 95
    rw [o 8 (by decide) (by decide) (by decide), u.2.1 95 (by decide) (by decide)]; exact m33
/-- lose -/
theorem bqZ_28 (u : bUn [15, 135] [0] σ s) (m : bM28 s) (o : ∀ i, bi s 15 i = bi σ 15 i) (h : bqZ N μ σ) : bqZ N μ s := by
  obtain ⟨⟨e26, e25, e27, e28, eW⟩, ⟨m32, m33⟩, _⟩ := id h
  have ne : ∀ b, b % 256 ∉ [15, 135] → b % 256 ≠ 12 → ∀ j, bi s b j = bi σ b j := u.1
  refine bqZ_x h u (by decide) (by decide) ⟨?_, ?_, ?_, m, ?_⟩ ?_ ?_ (bqZ_cs u (by decide) (by decide))
  · unfold bM26 at *
    rw [ne 3 (by decide) (by decide), u.2.1 68 (by decide) (by decide)]; exact e26
  · unfold bM25 at *
    simp only [ne 16 (by decide) (by decide), ne 136 (by decide) (by decide), ne 17 (by decide) (by decide), ne 137 (by decide) (by decide)]; exact e25
  · unfold bM27 at *
    rw [ne 5 (by decide) (by decide), ne 5 (by decide) (by decide), u.2.1 87 (by decide) (by decide), u.2.1 88 (by decide) (by decide)]; exact e27
  · unfold bqW at *
    simp only [ne 18 (by decide) (by decide), ne 138 (by decide) (by decide), ne 137 (by decide) (by decide), o, ne 134 (by decide) (by decide), ne 139 (by decide) (by decide)]; exact eW
  · intro x x0 x1
    rw [ne 24 (by decide) (by decide), ne 139 (by decide) (by decide)]; exact m32 x x0 x1
  · show bi s 5 8 = bi s 12 95
    rw [ne 5 (by decide) (by decide), u.2.1 95 (by decide) (by decide)]; exact m33
/-- a cache that forgets -/
theorem bzSP_0 {lo hi : Int} (h : ∀ k, lo ≤ k → k < hi → bi s 121 k = 0) : bzSP lo hi [] s := ⟨fun p hp => absurd hp List.not_mem_nil, List.Pairwise.nil, List.nodup_nil, fun k k0 k1 => by rw [h k k0 k1]; exact Int.le_refl _, fun k k0 k1 w => by rw [h k k0 k1] at w; omega⟩
theorem bzCr_0 {b cap : Nat} (h : bzCr σ b cap A) (e : ∀ j, br s (b + 13) j = br σ (b + 13) j) (e4 : ∀ x, x % 256 = 4 → s.2.2.2.1 x = σ.2.2.2.1 x) : bzCr s b cap [] := by
  obtain ⟨h1, h2, h3, h4⟩ := h
  refine ⟨Nat.zero_le _, fun i hi z hz => ?_, fun i j hi hj z hz hw => ?_, fun i K hK => by simp at hK⟩
  · rw [e] at hz
    obtain ⟨q, w⟩ := h2 i hi z hz
    exact ⟨q, by rw [e4 z q.1]; exact w⟩
  · rw [e] at hz hw
    exact h3 i j hi hj z hz hw
theorem bzCr_k {b cap : Nat} (h : bzCr σ b cap A) (e : ∀ j, br s (b + 13) j = br σ (b + 13) j) (e4 : ∀ x, x % 256 = 4 → s.2.2.2.1 x = σ.2.2.2.1 x) (ei : ∀ x, x % 256 ∈ [4, 22, 23] → ∀ j, bi s x j = bi σ x j) : bzCr s b cap A := by
  obtain ⟨h1, h2, h3, h4⟩ := h
  refine ⟨h1, fun i hi z hz => ?_, fun i j hi hj z hz hw => ?_, fun i K hK => ?_⟩
  · rw [e] at hz
    obtain ⟨q, w⟩ := h2 i hi z hz
    exact ⟨q, by rw [e4 z q.1]; exact w⟩
  · rw [e] at hz hw
    exact h3 i j hi hj z hz hw
  · obtain ⟨z, hz, E⟩ := h4 i K hK
    have c3 := h2 i (by have := (List.getElem?_eq_some_iff.1 hK).1; omega) z hz
    obtain ⟨T1, T2, T3⟩ := bzTc_e c3.1.1 c3.1.2
    obtain ⟨E1, E2, E3, E4, E5, E6, E7⟩ := E
    have f1 := ei z T1.2
    have f2 := ei _ T2.2
    have f3 := ei _ T3.2
    exact ⟨z, by rw [e]; exact hz, by rw [f1]; exact E1, by rw [f1]; exact E2, by rw [f1]; exact E3, by rw [f1]; exact E4, fun i hi => by rw [f2]; exact E5 i hi, by rw [f1]; exact E6, fun i hi => by rw [f3]; exact E7 i hi⟩
theorem bzSP_k {lo hi : Int} {P : List (Int × bKy)} (h : bzSP lo hi P σ) (e : ∀ k, lo ≤ k → k < hi → bi s 121 k = bi σ 121 k) (ei : ∀ b ∈ [122, 123, 124, 125, 126, 127, 128, 129], ∀ j, bi s b j = bi σ b j) (e73 : bi s 12 73 = bi σ 12 73) : bzSP lo hi P s :=
  bzSP_m h (fun k k0 k1 => ⟨fun b hb => by
    by_cases w : b = 121
    · rw [w]; exact e k k0 k1
    · exact ei b (by simp only [List.mem_cons, List.not_mem_nil, or_false] at hb ⊢; omega) k, fun i _ _ => ei 126 (by decide) _, fun i _ _ => ei 128 (by decide) _⟩) (by rw [e73]; exact Int.le_refl _)
theorem bqZ_29 (f : bFgt 1 0 32 σ s ∨ bFgt 257 32 80 σ s) (h : bqZ N μ σ) : bqZ N μ s := by
  obtain ⟨⟨e26, e25, e27, e28, eW⟩, ⟨m32, m33⟩, _⟩ := id h
  have u : bUn [1, 121] [0] σ s := f.elim (fun f => f.1) fun f => f.1
  have er : ∀ a i, br s a i = br σ a i := f.elim (fun f => f.2.2.2.1) fun f => f.2.2.2.1
  have ne : ∀ b, b % 256 ∉ [1, 121] → b % 256 ≠ 12 → ∀ j, bi s b j = bi σ b j := u.1
  have e4 : ∀ x, x % 256 = 4 → s.2.2.2.1 x = σ.2.2.2.1 x := fun x hx => u.2.2.2.2 x (by rw [hx]; decide)
  have ei : ∀ x, x % 256 ∈ [4, 22, 23] → ∀ j, bi s x j = bi σ x j := fun x hx => ne x (by simp only [List.mem_cons, List.not_mem_nil, or_false, not_or] at hx ⊢; omega) (by simp only [List.mem_cons, List.not_mem_nil, or_false] at hx; omega)
  have ek : ∀ b ∈ [122, 123, 124, 125, 126, 127, 128, 129], ∀ j, bi s b j = bi σ b j := fun b hb => ne b (by simp only [List.mem_cons, List.not_mem_nil, or_false, not_or] at hb ⊢; omega) (by simp only [List.mem_cons, List.not_mem_nil, or_false] at hb; omega)
  have e73 : bi s 12 73 = bi σ 12 73 := u.2.1 73 (by decide) (by decide)
  have J0 : ∀ m, bzJc m [] := fun m => ⟨List.nodup_nil, Nat.zero_le _, fun K hK => absurd hK List.not_mem_nil⟩
  refine bqZ_x h u (by decide) (by decide) ⟨?_, ?_, ?_, ?_, ?_⟩ ?_ ?_ fun rk n Z R => ?_
  · unfold bM26 at *
    rw [ne 3 (by decide) (by decide), u.2.1 68 (by decide) (by decide)]; exact e26
  · unfold bM25 at *
    simp only [ne 16 (by decide) (by decide), ne 136 (by decide) (by decide), ne 17 (by decide) (by decide), ne 137 (by decide) (by decide)]; exact e25
  · unfold bM27 at *
    rw [ne 5 (by decide) (by decide), ne 5 (by decide) (by decide), u.2.1 87 (by decide) (by decide), u.2.1 88 (by decide) (by decide)]; exact e27
  · intro x x0 x1
    rw [ne 271 (by decide) (by decide), ne 135 (by decide) (by decide)]; exact e28 x x0 x1
  · unfold bqW at *
    simp only [ne 18 (by decide) (by decide), ne 138 (by decide) (by decide), ne 137 (by decide) (by decide), ne 15 (by decide) (by decide), ne 134 (by decide) (by decide), ne 139 (by decide) (by decide)]; exact eW
  · intro x x0 x1
    rw [ne 24 (by decide) (by decide), ne 139 (by decide) (by decide)]; exact m32 x x0 x1
  · show bi s 5 8 = bi s 12 95
    rw [ne 5 (by decide) (by decide), u.2.1 95 (by decide) (by decide)]; exact m33
  · obtain ⟨⟨I0, Ik, Jc⟩, ⟨A1, ⟨⟨g1, g2⟩, ⟨g3, g4⟩, g5⟩⟩, ⟨c49, rows, Rk, ⟨r73, ⟨P, p1, p2⟩, Q, q1, q2⟩⟩, rng⟩ := R
    have g5' : ∀ i j : Nat, i < 24 → j < 40 → ∀ e, br s 14 i = some e → br s 270 j ≠ some e := fun i j hi hj e => by rw [er, er]; exact g5 i j hi hj e
    rcases f with f | f
    · refine ⟨[], Z.2.2.1, ⟨J0 24, Jc.2⟩, ⟨⟨f.2.1.1, bzCr_0 g2 (er _) e4⟩, ⟨?_, bzCr_k g4 (er _) e4 ei⟩, g5'⟩, by rw [e73]; exact r73, ⟨[], rfl, bzSP_0 fun k k0 k1 => ?_⟩, Q, q1, bzSP_k q2 (fun k k0 k1 => ?_) ek e73⟩
      · rw [f.2.1.2 257 0 (by decide) (by decide) (by decide)]; exact g3
      · rw [f.2.2.2.2 k k0, if_pos ⟨k0, k1⟩]
      · rw [f.2.2.2.2 k (by omega), if_neg (by omega)]
    · refine ⟨Z.2.1, [], ⟨Jc.1, J0 40⟩, ⟨⟨?_, bzCr_k g2 (er _) e4 ei⟩, ⟨f.2.1.1, bzCr_0 g4 (er _) e4⟩, g5'⟩, by rw [e73]; exact r73, ⟨P, p1, bzSP_k p2 (fun k k0 k1 => ?_) ek e73⟩, [], rfl, bzSP_0 fun k k0 k1 => ?_⟩
      · rw [f.2.1.2 1 0 (by decide) (by decide) (by decide)]; exact g1
      · rw [f.2.2.2.2 k (by omega), if_neg (by omega)]
      · rw [f.2.2.2.2 k (by omega), if_pos ⟨k0, k1⟩]
/-- counts of entries are as told -/
theorem bqZ_Ct (h : bqZ N μ σ) : bCt σ := by
  obtain ⟨_, _, _, _, ⟨rk, n, Z, ⟨_, ⟨_, ⟨⟨g1, _⟩, ⟨g3, _⟩, _⟩⟩, ⟨_, _, _, ⟨_, ⟨P, p1, p2⟩, Q, q1, q2⟩⟩, _⟩⟩, _⟩ := h
  refine ⟨?_, ?_⟩
  · rw [g1, bNum_P p2 (m := 32) (by decide), ← p1, List.length_map]
  · rw [g3, bNum_P q2 (m := 48) (by decide), ← q1, List.length_map]
theorem bqZ_Ao (h : bqZ N μ σ) : bAo σ := by
  obtain ⟨_, _, _, _, ⟨rk, n, Z, ⟨⟨I0, Ik, _⟩, ⟨A1, _⟩, ⟨c49, rows, Rk, _⟩, _⟩⟩, _⟩ := h
  intro a a0 a1
  rw [c49] at a1
  obtain ⟨_, k1, k2⟩ := A1 a a0 a1
  obtain ⟨r1, r2⟩ := Rk a a0 a1
  cases hz : Z.2.2.2 a with
  | none => rw [(r1 hz).2.1, if_pos rfl]; exact (k1 hz).2.2
  | some K =>
    rw [(r2 K hz).2.1, if_neg (by decide), (k2 K hz).2, (rows a a0 a1).1 112 (by decide)]
    exact (Ik a a0 a1 K hz).2.2.2.symm
end

/-! BUILD, 65: what is kept stands where its cells do -/
/-- an action's objects -/
def bqOb (a : Int) : List Nat := [bAi a, bAi a + 13, bNe a, bKe a, bKe a + 18, bKe a + 19]
/-- cells that what is kept rests on stand; n actions -/
def bqSt (n : Nat) (σ s : bSt) : Prop := (∀ a, 0 ≤ a → a < (n : Int) → br s 33 a = br σ 33 a ∧ ∀ b ∈ bqOb a, ∀ j, bi s b j = bi σ b j) ∧
  (∀ x, (bzTc x ∨ x ∈ [1, 257, 14, 270, 3, 5, 15, 271, 16, 17, 18, 24]) → (∀ j, bi s x j = bi σ x j) ∧ (∀ j, br s x j = br σ x j) ∧ s.2.2.2.1 x = σ.2.2.2.1 x) ∧
  (∀ a, 0 ≤ a → a < (n : Int) → (∀ c ∈ [101, 102, 103, 104, 105, 110, 111], bi s c a = bi σ c a) ∧ ∀ i, 0 ≤ i → i < 40 → bi s 106 (40 * a + i) = bi σ 106 (40 * a + i)) ∧
  (∀ c ∈ [112, 113, 114, 115, 121, 122, 123, 124, 125, 126, 127, 128, 129, 134, 135, 136, 137, 138, 139, 140, 142, 143, 144], ∀ j, bi s c j = bi σ c j) ∧ (∀ k ∈ ([49, 68, 73, 87, 88, 95] : List Int), bi s 12 k = bi σ 12 k) ∧ bi s 6 13 = bi σ 6 13
section
variable {d lvl : Nat} {σ σ0 σr β s s0 s1 t r s' : bSt} {Z Z0 Y X Zs Zr T ZE W : bZs} {x y v a b k i q g l : Int} {n n0 m z0 N μ L : Nat} {rk : Int → Nat} {S : List Nat} {F : List Int} {A B : List bKy}
theorem bqCh0_m (h : bqCh0 s A B) (e : ∀ x, (bzTc x ∨ x ∈ [1, 257, 14, 270]) → (∀ j, bi t x j = bi s x j) ∧ (∀ j, br t x j = br s x j) ∧ t.2.2.2.1 x = s.2.2.2.1 x) : bqCh0 t A B := by
  obtain ⟨⟨a1, a2⟩, ⟨a3, a4⟩, a5⟩ := h
  have cr : ∀ b cap L, (b = 1 ∨ b = 257) → bzCr s b cap L → bzCr t b cap L := fun b cap L hb C => by
    obtain ⟨C2, C3, C4, C5⟩ := C
    have rr : ∀ j, br t (b + 13) j = br s (b + 13) j := (e (b + 13) (Or.inr (by rcases hb with rfl | rfl <;> decide))).2.1
    refine ⟨C2, fun i hi z hz => ?_, fun i j hi hj z => ?_, fun i K hK => ?_⟩
    · rw [rr] at hz
      have c3 := C3 i hi z hz
      exact ⟨c3.1, by rw [(e z (Or.inl (bzTc_e c3.1.1 c3.1.2).1)).2.2]; exact c3.2⟩
    · rw [rr, rr]; exact C4 i j hi hj z
    · obtain ⟨z, hz, E⟩ := C5 i K hK
      have c3 := C3 i (by have := (List.getElem?_eq_some_iff.1 hK).1; omega) z hz
      obtain ⟨T1, T2, T3⟩ := bzTc_e c3.1.1 c3.1.2
      obtain ⟨E1, E2, E3, E4, E5, E6, E7⟩ := E
      have f1 := (e z (Or.inl T1)).1
      have f2 := (e _ (Or.inl T2)).1
      have f3 := (e _ (Or.inl T3)).1
      exact ⟨z, by rw [rr]; exact hz, by rw [f1]; exact E1, by rw [f1]; exact E2, by rw [f1]; exact E3, by rw [f1]; exact E4, fun i hi => by rw [f2]; exact E5 i hi, by rw [f1]; exact E6, fun i hi => by rw [f3]; exact E7 i hi⟩
  refine ⟨⟨by rw [(e 1 (Or.inr (by decide))).1]; exact a1, cr _ _ _ (Or.inl rfl) a2⟩, ⟨by rw [(e 257 (Or.inr (by decide))).1]; exact a3, cr _ _ _ (Or.inr rfl) a4⟩, fun i j hi hj z => ?_⟩
  rw [(e 14 (Or.inr (by decide))).2.1, (e 270 (Or.inr (by decide))).2.1]
  exact a5 i j hi hj z
theorem bqR_n (h : bqR σ rk n Z) : bi σ 12 49 = n ∧ n ≤ 120 := ⟨h.2.2.1.1, h.1.1.1.2.1⟩
theorem bqR_st (st : bqSt n σ s) (h : bqR σ rk n Z) : bqR s rk n Z := by
  obtain ⟨⟨I0, Ik, Jc⟩, ⟨A1, Ch⟩, ⟨c49, rows, Rk, Rc⟩, rng⟩ := h
  obtain ⟨s1, s2, s3, s4, s5, s6⟩ := st
  have lK : ∀ a, 0 ≤ a → a < (n : Int) → ∀ K, Z.2.2.2 a = some K → bKl K := fun a a0 a1 K hK => bzKl (Ik a a0 a1 K hK).1
  have n120 := I0.1.2.1
  refine ⟨⟨I0, Ik, Jc⟩, ⟨fun a a0 a1 => ?_, bqCh0_m Ch fun x hx => s2 x (hx.imp id fun q => by simp only [List.mem_cons, List.not_mem_nil, or_false] at q ⊢; omega)⟩, ⟨by rw [s5 49 (by decide)]; exact c49, fun a a0 a1 => ⟨fun b hb => ?_, fun i i0 i1 => ?_⟩, fun a a0 a1 => ?_, bzRc_u Rc (fun b hb => s4 b (by unfold bPuK at hb; simp only [List.mem_cons, List.not_mem_nil, or_false] at hb ⊢; omega)) (s5 73 (by decide)) rfl rfl⟩, fun a a0 a1 => by rw [s4 112 (by decide), s4 114 (by decide)]; exact rng a a0 a1⟩
  · obtain ⟨o1, o2⟩ := s1 a a0 a1
    exact ⟨bmA_m (A1 a a0 a1).1 (fun b hb => o2 b (by unfold bqOb; simp only [List.mem_cons, List.not_mem_nil, or_false] at hb ⊢; omega)) o1 (fun _ _ => rfl) (fun _ _ _ => rfl), bqK_m (A1 a a0 a1).2 (lK a a0 a1) (fun b hb => o2 b (by unfold bqOb; simp only [List.mem_cons, List.not_mem_nil, or_false] at hb ⊢; omega)) rfl⟩
  · by_cases e : b = 112
    · rw [e, s4 112 (by decide)]; exact (rows a a0 a1).1 112 (by decide)
    · rw [(s3 a a0 a1).1 b (by simp only [List.mem_cons, List.not_mem_nil, or_false] at hb ⊢; omega)]; exact (rows a a0 a1).1 b hb
  · rw [(s3 a a0 a1).2 i i0 (by have := (I0.1.2.2 a a0 a1).1; omega)]; exact (rows a a0 a1).2 i i0 i1
  · obtain ⟨q1, q2⟩ := Rk a a0 a1
    have w := (s3 a a0 a1).1
    rw [w 110 (by decide), w 111 (by decide), s4 114 (by decide)]
    exact ⟨q1, fun K hK => by
      obtain ⟨z1, z2, z3, z4, z5⟩ := q2 K hK
      exact ⟨z1, z2, fun i hi => by rw [s4 113 (by decide)]; exact z3 i hi, z4, fun i hi => by rw [s4 115 (by decide)]; exact z5 i hi⟩⟩
theorem bqZ_st (st : bqSt n σ s) (c49 : bi σ 12 49 = n) (h : bqZ N μ σ) : bqZ N μ s := by
  obtain ⟨E, ⟨m32, m33⟩, ⟨As, Aq⟩, Fr, ⟨rk, n', Z, R⟩, B⟩ := h
  have en : n' = n := by have := R.2.2.1.1; omega
  subst en
  have R' := bqR_st st R
  obtain ⟨⟨I0, Ik, Jc⟩, ⟨A1, Ch⟩, _⟩ := R
  obtain ⟨s1, s2, s3, s4, s5, s6⟩ := st
  have e2 : ∀ x ∈ [1, 257, 14, 270, 3, 5, 15, 271, 16, 17, 18, 24], ∀ j, bi s x j = bi σ x j := fun x hx => (s2 x (Or.inr hx)).1
  have n120 := I0.1.2.1
  have z_at : ∀ {a z}, 0 ≤ a → a < (n' : Int) → br σ 33 a = some z → z = bAi a := fun {a z} a0 a1 hz => by
    have := (A1 a a0 a1).1.1
    rw [this] at hz
    exact (Option.some.inj hz).symm
  have ob : ∀ a, 0 ≤ a → a < (n' : Int) → ∀ b ∈ bqOb a, ∀ j, bi s b j = bi σ b j := fun a a0 a1 => (s1 a a0 a1).2
  refine ⟨?_, ⟨fun x x0 x1 => ?_, ?_⟩, ⟨⟨?_, fun a a0 a1 => ?_⟩, ?_, fun a a0 a1 => ?_⟩, ⟨Fr.1, fun x hx hx2 => ?_⟩, ⟨rk, n', Z, R'⟩, by rw [s5 73 (by decide)]; exact B⟩
  · unfold bqE bM26 bM25 bM27 bM28 bqW at E ⊢
    simp only [e2 3 (by decide), e2 5 (by decide), e2 15 (by decide), e2 271 (by decide), e2 16 (by decide), e2 17 (by decide), e2 18 (by decide), s4 134 (by decide), s4 135 (by decide), s4 136 (by decide), s4 137 (by decide), s4 138 (by decide), s4 139 (by decide), s5 68 (by decide), s5 87 (by decide), s5 88 (by decide)]
    exact E
  · rw [e2 24 (by decide), s4 139 (by decide)]; exact m32 x x0 x1
  · show bi s 5 8 = bi s 12 95
    rw [e2 5 (by decide), s5 95 (by decide)]; exact m33
  · rw [s6, s5 49 (by decide)]; exact As.1
  · rw [s5 49 (by decide)] at a1
    obtain ⟨z, h⟩ := As.2 a a0 a1
    rw [c49] at a1
    have ez := z_at a0 a1 h.1.1
    subst ez
    refine ⟨bAi a, ?_⟩
    have e260 : 512 * (bAi a / 256) + 260 = bKe a := by unfold bAi bKe; omega
    have e279 : 512 * (bAi a / 256) + 279 = bKe a + 19 := by unfold bAi bKe; omega
    have c40 : bi σ 105 a ≤ 40 := h.2.1.1.2.2
    have w := (s3 a a0 a1).1
    have w6 := (s3 a a0 a1).2
    unfold bA1 at h ⊢
    rw [e260, e279] at h ⊢
    rw [(s1 a a0 a1).1, ob a a0 a1 (bAi a) (by simp [bqOb]), ob a a0 a1 (bAi a) (by simp [bqOb]), ob a a0 a1 (bAi a) (by simp [bqOb]), ob a a0 a1 (bAi a) (by simp [bqOb]), ob a a0 a1 (bAi a) (by simp [bqOb]), ob a a0 a1 (bKe a) (by simp [bqOb]), w 105 (by decide), w 110 (by decide), s4 114 (by decide), s4 140 (by decide), s4 142 (by decide), s4 143 (by decide), s4 144 (by decide)]
    obtain ⟨h1, ⟨h2, h3⟩, h4, h5, h6, h7, h8⟩ := h
    exact ⟨h1, ⟨h2, fun i i0 i1 => by rw [ob a a0 a1 (bAi a + 13) (by simp [bqOb]), w6 i i0 (by omega)]; exact h3 i i0 i1⟩, h4, h5, h6, h7, fun i q i0 i1 => by rw [ob a a0 a1 (bKe a + 19) (by simp [bqOb]), s4 115 (by decide)]; exact h8 i q i0 i1⟩
  · rw [s6, s5 49 (by decide)]; exact Aq.1
  · rw [s5 49 (by decide)] at a1
    obtain ⟨z, h⟩ := Aq.2 a a0 a1
    rw [c49] at a1
    have ez := z_at a0 a1 h.1.1
    subst ez
    refine ⟨bAi a, ?_⟩
    have cn : ∀ i, bCntd s i ↔ bCntd σ i := fun i => by unfold bCntd; rw [s5 49 (by decide), s4 140 (by decide), s4 142 (by decide)]
    have w := (s3 a a0 a1).1
    have w6 := (s3 a a0 a1).2
    have c40 : bi σ 105 a ≤ 40 := h.2.1.1.2.2
    unfold bA2 at h ⊢
    rw [(s1 a a0 a1).1, ob a a0 a1 (bAi a) (by simp [bqOb]), ob a a0 a1 (bAi a) (by simp [bqOb]), ob a a0 a1 (bAi a) (by simp [bqOb]), w 105 (by decide), s4 144 (by decide), cn]
    obtain ⟨h1, ⟨h2, h3⟩, h4, h5⟩ := h
    refine ⟨h1, ⟨h2, fun i i0 i1 => by rw [ob a a0 a1 (bAi a + 13) (by simp [bqOb]), w6 i i0 (by omega)]; exact h3 i i0 i1⟩, h4, fun q => ⟨(h5 q).1, fun i ⟨k, k0, k1, k2, k3⟩ => ?_⟩⟩
    rw [w 105 (by decide)] at k1
    rw [w6 k k0 (by omega)] at k2
    rw [cn]
    exact (h5 q).2 i ⟨k, k0, k1, k2, k3⟩
  · rw [(s2 x (Or.inl ⟨by have := Fr.1; omega, hx⟩)).2.2]; exact Fr.2 x hx hx2
/-- where kinds and fields stand -/
theorem bqSt_u (u : bUn S F σ s) (hS : ∀ k ∈ [0, 1, 3, 4, 5, 6, 13, 14, 15, 16, 17, 18, 22, 23, 24, 33, 101, 102, 103, 104, 105, 106, 110, 111, 112, 113, 114, 115, 121, 122, 123, 124, 125, 126, 127, 128, 129, 134, 135, 136, 137, 138, 139, 140, 142, 143, 144], k ∉ S) (hF : ∀ k ∈ [49, 68, 73, 87, 88, 95], k ∉ F) : bqSt n σ s := by
  have e : ∀ b, b % 256 ∈ [0, 1, 3, 4, 5, 6, 13, 14, 15, 16, 17, 18, 22, 23, 24, 33, 101, 102, 103, 104, 105, 106, 110, 111, 112, 113, 114, 115, 121, 122, 123, 124, 125, 126, 127, 128, 129, 134, 135, 136, 137, 138, 139, 140, 142, 143, 144] → (∀ j, bi s b j = bi σ b j) ∧ (∀ j, br s b j = br σ b j) ∧ s.2.2.2.1 b = σ.2.2.2.1 b := fun b hb => ⟨u.1 b (hS _ hb) (fun w => by rw [w] at hb; revert hb; decide), u.2.2.2.1 b (hS _ hb), u.2.2.2.2 b (hS _ hb)⟩
  refine ⟨fun a a0 a1 => ⟨(e 33 (by decide)).2.1 a, fun b hb => (e b ?_).1⟩, fun x hx => e x ?_, fun a a0 a1 => ⟨fun c hc => (e c ?_).1 a, fun i i0 i1 => (e 106 (by decide)).1 _⟩, fun c hc => (e c ?_).1, fun k hk => u.2.1 k (by simp only [List.mem_cons, List.not_mem_nil, or_false] at hk; omega) (hF k hk), (e 6 (by decide)).1 13⟩
  · unfold bqOb bAi bNe bKe at hb
    simp only [List.mem_cons, List.not_mem_nil, or_false] at hb ⊢
    omega
  · unfold bzTc at hx
    simp only [List.mem_cons, List.not_mem_nil, or_false] at hx ⊢
    omega
  · simp only [List.mem_cons, List.not_mem_nil, or_false] at hc ⊢
    omega
  · simp only [List.mem_cons, List.not_mem_nil, or_false] at hc ⊢
    omega
theorem bqSt_trans (h : bqSt n σ s) (k : bqSt n s t) : bqSt n σ t := by
  obtain ⟨h1, h2, h3, h4, h5, h6⟩ := h
  obtain ⟨k1, k2, k3, k4, k5, k6⟩ := k
  exact ⟨fun a a0 a1 => ⟨(k1 a a0 a1).1.trans (h1 a a0 a1).1, fun b hb j => ((k1 a a0 a1).2 b hb j).trans ((h1 a a0 a1).2 b hb j)⟩, fun x hx => ⟨fun j => ((k2 x hx).1 j).trans ((h2 x hx).1 j), fun j => ((k2 x hx).2.1 j).trans ((h2 x hx).2.1 j), (k2 x hx).2.2.trans (h2 x hx).2.2⟩, fun a a0 a1 => ⟨fun c hc => ((k3 a a0 a1).1 c hc).trans ((h3 a a0 a1).1 c hc), fun i i0 i1 => ((k3 a a0 a1).2 i i0 i1).trans ((h3 a a0 a1).2 i i0 i1)⟩, fun c hc j => (k4 c hc j).trans (h4 c hc j), fun k hk => (k5 k hk).trans (h5 k hk), k6.trans h6⟩
end

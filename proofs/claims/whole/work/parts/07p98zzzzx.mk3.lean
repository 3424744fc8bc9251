/-! BUILD, 46: the class makes actions -/
/-- how many places hold an action -/
def bmN (s : bSt) : Int := bCnp (fun a => (br s 33 a).isSome) 121
/-- what making leaves -/
def bmFr (n0 : Int) (σ s : bSt) : Prop := (∀ b, b ≠ 30 → b ≠ 33 → b ≠ 6 → (∀ a, n0 ≤ a → a ≤ 120 → b ∉ bAd a) → (∀ j, bi s b j = bi σ b j) ∧ (∀ j, bj s b j = bj σ b j) ∧ (∀ j, br s b j = br σ b j) ∧ s.2.2.2.1 b = σ.2.2.2.1 b) ∧
  ((∀ j, 0 ≤ j → j ≠ 13 → bi s 6 j = bi σ 6 j) ∧ (∀ j, bj s 6 j = bj σ 6 j) ∧ (∀ j, br s 6 j = br σ 6 j) ∧ s.2.2.2.1 6 = σ.2.2.2.1 6) ∧ (∀ a, 0 ≤ a → a < n0 → br s 33 a = br σ 33 a) ∧
  (s.2.2.2.2.1 : Int) + 8 * bmN σ ≤ σ.2.2.2.2.1 + 8 * bmN s ∧ (s.2.2.2.2.2 : Int) + 252 * bmN σ ≤ σ.2.2.2.2.2 + 252 * bmN s
/-- action a of the class is described as the model's -/
def bmA (Z : bZs) (s : bSt) (a : Int) : Prop := br s 33 a = some (bAi a) ∧ (bi s (bAi a) 0 = Z.1 104 a ∧ bi s (bAi a) 1 = Z.1 105 a) ∧ (∀ i, 0 ≤ i → i < Z.1 105 a → bi s (bAi a + 13) i = Z.1 106 (40 * a + i)) ∧ bi s (bNe a) 0 = Z.1 101 a ∧ bi s (bNe a) 1 = Z.1 102 a ∧ bi s (bNe a) 2 = Z.1 103 a
/-- the class, while it makes actions: n0 stood before -/
def bmC (n0 : Int) (V : List Int) (Z : bZs) (n : Nat) (s : bSt) : Prop := bi s 6 13 = n ∧ (∀ a, 0 ≤ a → a < (n : Int) → bmA Z s a) ∧ (∀ a, n0 ≤ a → a ≤ 120 → bAm1 s a) ∧ (∀ y ∈ V, bi s 30 y = Z.1 99 y) ∧ ∀ y, 0 ≤ y → y < 4096 → -1 ≤ bi s 30 y ∧ bi s 30 y < 1000
section
variable {d lvl : Nat} {σ s t r s' : bSt} {f : Int → bSt → Prop} {fv : bSt → Prop} {A : bPt → Prop} {Z Y X : bZs} {x y v a b k i n0 q : Int} {V W : List Int} {n m : Nat} {rk : Int → Nat}
theorem bmFr_refl : bmFr n0 σ σ := ⟨fun _ _ _ _ _ => ⟨fun _ => rfl, fun _ => rfl, fun _ => rfl, rfl⟩, ⟨fun _ _ _ => rfl, fun _ => rfl, fun _ => rfl, rfl⟩, fun _ _ _ => rfl, Int.le_refl _, Int.le_refl _⟩
theorem bmFr_trans (h : bmFr n0 σ s) (k : bmFr n0 s t) : bmFr n0 σ t := by
  obtain ⟨h1, ⟨h2, h3, h4, h5⟩, h6, h7, h8⟩ := h
  obtain ⟨k1, ⟨k2, k3, k4, k5⟩, k6, k7, k8⟩ := k
  exact ⟨fun b b1 b2 b3 b4 => ⟨fun j => ((k1 b b1 b2 b3 b4).1 j).trans ((h1 b b1 b2 b3 b4).1 j), fun j => ((k1 b b1 b2 b3 b4).2.1 j).trans ((h1 b b1 b2 b3 b4).2.1 j), fun j => ((k1 b b1 b2 b3 b4).2.2.1 j).trans ((h1 b b1 b2 b3 b4).2.2.1 j), (k1 b b1 b2 b3 b4).2.2.2.trans (h1 b b1 b2 b3 b4).2.2.2⟩,
    ⟨fun j j0 j1 => (k2 j j0 j1).trans (h2 j j0 j1), fun j => (k3 j).trans (h3 j), fun j => (k4 j).trans (h4 j), k5.trans h5⟩, fun a a0 a1 => (k6 a a0 a1).trans (h6 a a0 a1), by omega, by omega⟩
theorem bmFr_w {b : Nat} (h : b = 30 ∨ b = 6 ∧ i = 13) : bmFr n0 s (bw s b i v) := by
  refine ⟨fun c c1 c2 c3 _ => ⟨fun j => bi_ne (by omega), fun _ => rfl, fun _ => rfl, rfl⟩, ⟨fun j j0 j1 => ?_, fun _ => rfl, fun _ => rfl, rfl⟩, fun _ _ _ => rfl, Int.le_refl _, Int.le_refl _⟩
  rcases h with h | ⟨h, h2⟩
  · exact bi_ne (by omega)
  · rw [h, h2]
    exact bi_nj (by decide) j0 (by omega)
theorem bmFr_c (h : bCd q s t) (q0 : n0 ≤ q) (q00 : 0 ≤ q) (q1 : q ≤ 120) : bmFr n0 s t := by
  have m := fun b (hb : b ∈ bAd q) => bAd_m hb
  have off : ∀ b, b ≠ 33 → b ∉ bAd q → b ∉ 33 :: bAd q := fun b h1 h2 w => by
    rcases List.mem_cons.1 w with e | e
    · exact h1 e
    · exact h2 e
  have n6 : (6 : Nat) ∉ bAd q := fun w => by have := m 6 w; revert this; decide
  have six := h.1 6 (off 6 (by decide) n6)
  have nn : bmN t - bmN s = (bSo t q : Int) - bSo s q := by
    unfold bmN bSo
    by_cases e1 : (br s 33 q).isSome = true
    · have e2 := h.2.2.2.1 e1
      rw [if_pos e1, if_pos e2, bCn_x (Q := fun a => (br s 33 a).isSome) 121 fun k k0 k1 => ?_]
      · omega
      · by_cases y : k = q
        · rw [y, e1, e2]
        · rw [h.2.1 k k0 y]
    · by_cases e2 : (br t 33 q).isSome = true
      · rw [if_neg e1, if_pos e2]
        have := bCn_a (P := fun a => (br s 33 a).isSome) (Q := fun a => (br t 33 a).isSome) (y := q) 121 q00 (by omega) (fun k k0 k1 kn => by rw [h.2.1 k k0 kn]) (Bool.eq_false_iff.2 e1) e2
        omega
      · rw [if_neg e1, if_neg e2, bCn_x (Q := fun a => (br s 33 a).isSome) 121 fun k k0 k1 => ?_]
        · omega
        · by_cases y : k = q
          · rw [y, Bool.eq_false_iff.2 e1, Bool.eq_false_iff.2 e2]
          · rw [h.2.1 k k0 y]
  exact ⟨fun b b1 b2 b3 b4 => h.1 b (off b b2 (b4 q q0 q1)), ⟨fun j _ _ => six.1 j, six.2.1, six.2.2.1, six.2.2.2⟩, fun a a0 a1 => h.2.1 a a0 (by omega), by have := h.2.2.2.2.1; omega, by have := h.2.2.2.2.2; omega⟩
theorem bmFr_un (h : bmFr n0 σ s) : bUn [0, 4, 6, 13, 22, 23, 30, 33] [] σ s := by
  have off : ∀ b, b % 256 ∉ [0, 4, 6, 13, 22, 23, 30, 33] → b ≠ 30 ∧ b ≠ 33 ∧ b ≠ 6 ∧ ∀ a, n0 ≤ a → a ≤ 120 → b ∉ bAd a := fun b hb => by
    refine ⟨?_, ?_, ?_, fun a _ _ w => ?_⟩
    · intro e; rw [e] at hb; exact hb (by decide)
    · intro e; rw [e] at hb; exact hb (by decide)
    · intro e; rw [e] at hb; exact hb (by decide)
    · have := bAd_m w
      simp only [List.mem_cons, List.not_mem_nil, or_false, not_or] at hb this
      omega
  have g := fun b hb => h.1 b (off b hb).1 (off b hb).2.1 (off b hb).2.2.1 (off b hb).2.2.2
  exact ⟨fun a q1 _ i => (g a q1).1 i, fun i _ _ => (g 12 (by decide)).1 i, fun a _ q1 i => (g a q1).2.1 i, fun a q1 i => (g a q1).2.2.1 i, fun a q1 => (g a q1).2.2.2⟩
theorem bmUn_pag (u : bUn [0, 4, 6, 13, 22, 23, 27, 28, 29, 30, 31, 32, 33] [] σ s) : bPag σ s := ⟨fun a ha i => u.1 a (by
    simp only [List.mem_cons, List.not_mem_nil, or_false] at ha
    rcases ha with rfl | rfl | rfl | rfl | rfl | rfl | rfl | rfl | rfl | rfl | rfl | rfl | rfl | rfl | rfl | rfl | rfl | rfl <;> decide) (by
    simp only [List.mem_cons, List.not_mem_nil, or_false] at ha
    rcases ha with rfl | rfl | rfl | rfl | rfl | rfl | rfl | rfl | rfl | rfl | rfl | rfl | rfl | rfl | rfl | rfl | rfl | rfl <;> decide) i, u.2.1 17 (by decide) (by decide), u.2.1 22 (by decide) (by decide), fun t => u.1 (bTi t) (by rw [bTi_m]; decide) (by rw [bTi_m]; decide) 4⟩
/-- an action of the class stands -/
theorem bmA_m (h : bmA Z s a) (e : ∀ b ∈ [bAi a, bAi a + 13, bNe a], ∀ j, bi t b j = bi s b j) (e33 : br t 33 a = br s 33 a) (eZ : ∀ c ∈ [101, 102, 103, 104, 105], Y.1 c a = Z.1 c a) (e6 : ∀ i, 0 ≤ i → i < Z.1 105 a → Y.1 106 (40 * a + i) = Z.1 106 (40 * a + i)) : bmA Y t a := by
  obtain ⟨h1, h2, h3, h4⟩ := h
  unfold bmA
  rw [e33, e _ (by simp), e _ (by simp), e _ (by simp), e _ (by simp), e _ (by simp), eZ 101 (by decide), eZ 102 (by decide), eZ 103 (by decide), eZ 104 (by decide), eZ 105 (by decide)]
  exact ⟨h1, h2, fun i i0 i1 => by rw [e _ (by simp), e6 i i0 i1]; exact h3 i i0 i1, h4⟩
end

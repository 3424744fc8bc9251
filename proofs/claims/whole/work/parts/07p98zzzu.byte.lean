/-! BUILD, 17: bytes: what bringing them changes -/
/-- how many of the first actions have a content whose bytes are not here -/
def bzPh (Z : bZs) (m : Nat) : Int := bCnp (fun b => decide (Z.1 134 (Z.1 112 b) = 0)) m
/-- ranks: inputs have lower ones -/
def bzRn0 (rk : Int → Nat) (n : Nat) (Z : bZs) : Prop := ∀ a, 0 ≤ a → a < (n : Int) → rk a ≤ 15 ∧ ∀ i, 0 ≤ i → i < Z.1 105 a → 100 ≤ Z.1 106 (40 * a + i) → rk (Z.1 106 (40 * a + i) - 100) < rk a
/-- bytes have come here -/
def bzBe2 (a : Int) (Z Y : bZs) (x : Int) : Prop := zU [134, 139] Z Y ∧ Y.2 = Z.2 ∧ (∀ w, Y.1 134 w = Z.1 134 w ∨ Y.1 134 w = 1) ∧ (∀ w, w ≠ 9 → w ≠ 10 → Y.1 139 w = Z.1 139 w) ∧ (Z.1 139 9 ≤ Y.1 139 9 ∧ Z.1 139 10 ≤ Y.1 139 10) ∧ (0 ≤ x ∧ x ≤ 20 * (Y.1 139 9 - Z.1 139 9)) ∧ ∀ m : Nat, a ≤ (m : Int) → (Y.1 139 9 - Z.1 139 9) + (Y.1 139 10 - Z.1 139 10) + bzPh Y m ≤ bzPh Z m
section
variable {σ : bSt} {Z Y X : bZs} {a b i v w x y c : Int} {n m f : Nat} {rk : Int → Nat}
theorem bzPh_b : 0 ≤ bzPh Z m ∧ bzPh Z m ≤ m := bCn_b m
theorem bzPh_le (u : ∀ j, Y.1 112 j = Z.1 112 j) (h : ∀ w, Y.1 134 w = Z.1 134 w ∨ Y.1 134 w = 1) : ∀ m : Nat, bzPh Y m ≤ bzPh Z m := fun m => by
  unfold bzPh
  induction m with
  | zero => exact Int.le_refl _
  | succ m ih =>
    unfold bCnp
    rw [u]
    rcases h (Z.1 112 m) with q | q
    · rw [q]; omega
    · rw [q, if_neg (by decide)]
      by_cases z : Z.1 134 (Z.1 112 m) = 0
      · rw [decide_eq_true z, if_pos rfl]; omega
      · rw [decide_eq_false z, if_neg (by decide)]; omega
/-- one more is here -/
theorem bzPh_x (u : ∀ j, Y.1 112 j = Z.1 112 j) (h : ∀ w, Y.1 134 w = Z.1 134 w ∨ Y.1 134 w = 1) (b0 : 0 ≤ b) (hz : Z.1 134 (Z.1 112 b) = 0) (hy : Y.1 134 (Z.1 112 b) = 1) (hx : bzPh Y b.toNat ≤ bzPh X b.toNat) : ∀ m : Nat, b < (m : Int) → bzPh Y m + 1 + bzPh Z b.toNat ≤ bzPh Z m + bzPh X b.toNat
  | 0, h1 => by omega
  | m + 1, h1 => by
    have e1 : bzPh Y (m + 1) = (if decide (Y.1 134 (Y.1 112 m) = 0) = true then 1 else 0) + bzPh Y m := rfl
    have e2 : bzPh Z (m + 1) = (if decide (Z.1 134 (Z.1 112 m) = 0) = true then 1 else 0) + bzPh Z m := rfl
    rw [e1, e2, u]
    by_cases e : b = m
    · rw [← e, hy, hz, if_neg (by decide), if_pos (by decide)]
      have : b.toNat = m := by omega
      rw [this] at hx ⊢
      omega
    · have ih := bzPh_x u h b0 hz hy hx m (by omega)
      rcases h (Z.1 112 m) with q | q
      · rw [q]; omega
      · rw [q, if_neg (by decide)]
        by_cases z : Z.1 134 (Z.1 112 m) = 0
        · rw [decide_eq_true z, if_pos rfl]; omega
        · rw [decide_eq_false z, if_neg (by decide)]; omega
theorem bzBe2_refl : bzBe2 a Z Z 0 := ⟨zU_refl, rfl, fun _ => Or.inl rfl, fun _ _ _ => rfl, ⟨Int.le_refl _, Int.le_refl _⟩, ⟨Int.le_refl _, by omega⟩, fun m _ => by omega⟩
/-- one input's content is fetched, or run again -/
theorem bzBe2_s (h : bzBe2 a Z Y x) (b0 : 0 ≤ b) (b1 : b < a) (hz : Y.1 134 (Z.1 112 b) = 0) (k : bzBe2 b Y X y) (hc : (c = 9 ∧ 0 ≤ v ∧ v ≤ 20) ∨ (c = 10 ∧ v = 0)) : bzBe2 a Z (zw (zw X 134 (Z.1 112 b) 1) 139 c (X.1 139 c + 1)) (x + y + v) := by
  obtain ⟨h1, h2, h3, h4, h5, h6, h7⟩ := h
  obtain ⟨k1, k2, k3, k4, k5, k6, k7⟩ := k
  have u : zU [134, 139] X (zw (zw X 134 (Z.1 112 b) 1) 139 c (X.1 139 c + 1)) := zU_trans (zU_w (by decide)) (zU_w (by decide))
  have e9 : ∀ w, (zw (zw X 134 (Z.1 112 b) 1) 139 c (X.1 139 c + 1)).1 139 w = if w = c then X.1 139 c + 1 else X.1 139 w := fun w => by
    rw [zw_w, zw_a (by decide)]; simp only [true_and]
  have e34 : ∀ w, (zw (zw X 134 (Z.1 112 b) 1) 139 c (X.1 139 c + 1)).1 134 w = if w = Z.1 112 b then 1 else X.1 134 w := fun w => by
    rw [zw_a (by decide), zw_w]; simp only [true_and]
  have eX : ∀ w, (zw (zw X 134 (Z.1 112 b) 1) 139 c (X.1 139 c + 1)).1 134 w = X.1 134 w ∨ (zw (zw X 134 (Z.1 112 b) 1) 139 c (X.1 139 c + 1)).1 134 w = 1 := fun w => by
    rw [e34]
    split
    · exact Or.inr rfl
    · exact Or.inl rfl
  have p9 := e9 9
  have p10 := e9 10
  have j112 : ∀ j, Y.1 112 j = Z.1 112 j := h1 112 (by decide)
  have eY : ∀ w, (zw (zw X 134 (Z.1 112 b) 1) 139 c (X.1 139 c + 1)).1 134 w = Y.1 134 w ∨ (zw (zw X 134 (Z.1 112 b) 1) 139 c (X.1 139 c + 1)).1 134 w = 1 := fun w => by
    rcases eX w with q | q
    · rw [q]; exact k3 w
    · exact Or.inr q
  have u112 : ∀ j, (zw (zw X 134 (Z.1 112 b) 1) 139 c (X.1 139 c + 1)).1 112 j = Y.1 112 j := fun j => (u 112 (by decide) j).trans (k1 112 (by decide) j)
  have le := bzPh_le (Y := zw (zw X 134 (Z.1 112 b) 1) 139 c (X.1 139 c + 1)) (Z := X) (u 112 (by decide)) eX b.toNat
  have up := bzPh_x (Z := Y) (X := X) u112 eY b0 (by rw [j112]; exact hz) (by rw [j112, e34, if_pos rfl]) le
  have kb := k7 b.toNat (by omega)
  refine ⟨zU_trans h1 (zU_trans k1 u), k2.trans h2, fun w => ?_, fun w q1 q2 => ?_, ?_, ?_, fun m hm => ?_⟩
  · rcases eY w with q | q
    · rw [q]; exact h3 w
    · exact Or.inr q
  · rw [e9, if_neg (by omega), k4 w q1 q2, h4 w q1 q2]
  · rw [p9, p10]
    rcases hc with ⟨q, _⟩ | ⟨q, _⟩
    · rw [q, if_pos rfl, if_neg (by decide)]; omega
    · rw [q, if_neg (by decide), if_pos rfl]; omega
  · rw [p9]
    rcases hc with ⟨q, q2, q3⟩ | ⟨q, q2⟩
    · rw [q, if_pos rfl]; omega
    · rw [q, if_neg (by decide)]; omega
  · have hmm := h7 m hm
    have upm := up m (by omega)
    rw [p9, p10]
    rcases hc with ⟨q, _⟩ | ⟨q, _⟩
    · rw [q, if_pos rfl, if_neg (by decide)]; rw [q] at upm; omega
    · rw [q, if_neg (by decide), if_pos rfl]; rw [q] at upm; omega
/-- what holds of bringing bytes -/
def bzOz (σ : bSt) (n : Nat) (Z : bZs) : Prop := bzOa n Z ∧ bzOw σ n Z
theorem bzOz_u (h : bzOz σ n Z) (u : zU [134, 139] Z Y) : bzOz σ n Y := by
  have e := fun c (hc : c ∉ [134, 139]) j => u c hc j
  obtain ⟨⟨n1, h2⟩, h3⟩ := h
  refine ⟨⟨n1, fun a a0 a1 => ?_⟩, fun a a0 a1 => ?_⟩
  · simp only [e 101 (by decide), e 102 (by decide), e 103 (by decide), e 104 (by decide), e 105 (by decide), e 106 (by decide)]
    exact h2 a a0 a1
  · unfold bzKd bzDu
    simp only [e 101 (by decide), e 104 (by decide), e 105 (by decide), e 106 (by decide), e 107 (by decide), e 140 (by decide), e 141 (by decide)]
    exact h3 a a0 a1
theorem bzRn0_u (h : bzRn0 rk n Z) (u : zU [134, 139] Z Y) : bzRn0 rk n Y := fun a a0 a1 => by
  simp only [u 105 (by decide), u 106 (by decide)]
  exact h a a0 a1
theorem bzB_e : ∀ (f : Nat) (Z : bZs) (a : Int), bzOz σ n Z → bzRn0 rk n Z → 0 ≤ a → a < (n : Int) → Z.1 140 a ≠ 0 → bzBe2 a Z (bzB σ f Z a).1 (bzB σ f Z a).2 ∧ ∀ k : Nat, (k : Int) ≤ Z.1 105 a → bzBe2 a Z (bzBp σ (bzB σ f) a k Z).1 (bzBp σ (bzB σ f) a k Z).2 := by
  intro f
  induction f with
  | zero =>
    intro Z a h hr a0 a1 w
    refine ⟨bzBe2_refl, fun k => ?_⟩
    induction k with
    | zero => intro _; exact bzBe2_refl
    | succ k ih =>
      intro hk
      have ihk := ih (by omega)
      unfold bzBp
      generalize bzBp σ (bzB σ 0) a k Z = r at *
      dsimp only
      by_cases c1 : Z.1 106 (40 * a + k) < 100
      · rw [if_pos c1]; exact ihk
      rw [if_neg c1]
      by_cases c2 : r.1.1 134 (Z.1 112 (Z.1 106 (40 * a + k) - 100)) ≠ 0
      · rw [if_pos c2]; exact ihk
      rw [if_neg c2]
      have hb := ((h.1.2 a a0 a1).2.2 k (by omega) (by omega)).resolve_left (by omega)
      have hz : r.1.1 134 (Z.1 112 (Z.1 106 (40 * a + k) - 100)) = 0 := Classical.byContradiction c2
      by_cases c3 : bi σ 12 87 ≠ 0 ∧ r.1.1 135 (Z.1 112 (Z.1 106 (40 * a + k) - 100)) ≠ 0
      · rw [if_pos c3]
        have := bzBe2_s ihk (b := Z.1 106 (40 * a + k) - 100) (by omega) (by omega) hz bzBe2_refl (c := 10) (v := 0) (Or.inr ⟨rfl, rfl⟩)
        rwa [Int.add_zero, Int.add_zero] at this
      · rw [if_neg c3]
        have du := (h.2 _ (by omega) (by omega) ((h.2 a a0 a1 w).2.1 k (by omega) (by omega) hb.1)).2.2.2.2.1
        have := bzBe2_s ihk (b := Z.1 106 (40 * a + k) - 100) (by omega) (by omega) hz (bzBe2_refl (Z := r.1)) (c := 9) (v := bzDu σ Z (Z.1 106 (40 * a + k) - 100)) (Or.inl ⟨rfl, by omega, by omega⟩)
        exact this
  | succ f ihf =>
    intro Z a h hr a0 a1 w
    have P : ∀ (g : Nat), (∀ (Y : bZs) (b : Int), bzOz σ n Y → bzRn0 rk n Y → 0 ≤ b → b < (n : Int) → Y.1 140 b ≠ 0 → bzBe2 b Y (bzB σ g Y b).1 (bzB σ g Y b).2) → ∀ k : Nat, (k : Int) ≤ Z.1 105 a → bzBe2 a Z (bzBp σ (bzB σ g) a k Z).1 (bzBp σ (bzB σ g) a k Z).2 := fun g hg k => by
      induction k with
      | zero => intro _; exact bzBe2_refl
      | succ k ih =>
        intro hk
        have ihk := ih (by omega)
        unfold bzBp
        generalize bzBp σ (bzB σ g) a k Z = r at *
        dsimp only
        by_cases c1 : Z.1 106 (40 * a + k) < 100
        · rw [if_pos c1]; exact ihk
        rw [if_neg c1]
        by_cases c2 : r.1.1 134 (Z.1 112 (Z.1 106 (40 * a + k) - 100)) ≠ 0
        · rw [if_pos c2]; exact ihk
        rw [if_neg c2]
        have hb := ((h.1.2 a a0 a1).2.2 k (by omega) (by omega)).resolve_left (by omega)
        have hz : r.1.1 134 (Z.1 112 (Z.1 106 (40 * a + k) - 100)) = 0 := Classical.byContradiction c2
        by_cases c3 : bi σ 12 87 ≠ 0 ∧ r.1.1 135 (Z.1 112 (Z.1 106 (40 * a + k) - 100)) ≠ 0
        · rw [if_pos c3]
          have := bzBe2_s ihk (b := Z.1 106 (40 * a + k) - 100) (by omega) (by omega) hz bzBe2_refl (c := 10) (v := 0) (Or.inr ⟨rfl, rfl⟩)
          rwa [Int.add_zero, Int.add_zero] at this
        · rw [if_neg c3]
          have iw := (h.2 a a0 a1 w).2.1 k (by omega) (by omega) hb.1
          have du := (h.2 _ (by omega) (by omega) iw).2.2.2.2.1
          have q := hg r.1 (Z.1 106 (40 * a + k) - 100) (bzOz_u h ihk.1) (bzRn0_u hr ihk.1) (by omega) (by omega) (by rw [ihk.1 140 (by decide)]; exact iw)
          exact bzBe2_s ihk (b := Z.1 106 (40 * a + k) - 100) (by omega) (by omega) hz q (c := 9) (v := bzDu σ Z (Z.1 106 (40 * a + k) - 100)) (Or.inl ⟨rfl, by omega, by omega⟩)
    have B1 : ∀ (Y : bZs) (b : Int), bzOz σ n Y → bzRn0 rk n Y → 0 ≤ b → b < (n : Int) → Y.1 140 b ≠ 0 → bzBe2 b Y (bzB σ f Y b).1 (bzB σ f Y b).2 := fun Y b q1 q2 q3 q4 q5 => (ihf Y b q1 q2 q3 q4 q5).1
    have B2 : bzBe2 a Z (bzB σ (f + 1) Z a).1 (bzB σ (f + 1) Z a).2 := P f B1 _ (by have := (h.1.2 a a0 a1).1; omega)
    refine ⟨B2, P (f + 1) fun Y b q1 q2 q3 q4 q5 => ?_⟩
    have PY : ∀ k : Nat, (k : Int) ≤ Y.1 105 b → bzBe2 b Y (bzBp σ (bzB σ f) b k Y).1 (bzBp σ (bzB σ f) b k Y).2 := (ihf Y b q1 q2 q3 q4 q5).2
    exact PY _ (by have := (q1.1.2 b q3 q4).1; omega)
end

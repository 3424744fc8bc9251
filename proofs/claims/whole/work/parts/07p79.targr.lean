/-! TARGETS: the reference's methods that set them -/
section
variable {d : Nat} {σ : bSt} {f : Int → bSt → Prop} {fv : bSt → Prop} {t x y z v k : Int}
theorem w225 (hT : 0 ≤ bi σ 12 22 ∧ bi σ 12 22 ≤ 16) (ht : bRg t) (h1 : bTgk σ t → f 1 σ) (h0 : ¬ bTgk σ t → f 0 σ) : bWp (d + 2) 225 [.ref 12, .int (bn t)] σ (bRn f) :=
  ⟨rfl, fun A hA => sq225_0 (bWp_mono _) hA ht ⟨⟨by omega, by omega⟩, w199 ht (by decide) ⟨by omega, by omega⟩ (fun q => ⟨by decide, bRn_i (by decide) (h1 ⟨q.1, by omega⟩)⟩) (fun q => ⟨by decide, bRn_i (by decide) (h0 fun w => q ⟨w.1, by have := w.2; omega⟩)⟩)⟩⟩
theorem w210 (hx : bRg x) (h1 : 0 ≤ x ∧ x < 6 → f 1 σ) (h0 : ¬ (0 ≤ x ∧ x < 6) → f 0 σ) : bWp (d + 2) 210 [.int (bn x)] σ (bRn f) :=
  ⟨rfl, fun A hA => sq210_0 (bWp_mono _) hA hx (w199 hx (by decide) (by decide) (fun q => ⟨by decide, bRn_i (by decide) (h1 (by omega))⟩) (fun q => ⟨by decide, bRn_i (by decide) (h0 (by omega))⟩))⟩
theorem w211 (hx : bRg x) (h1 : 0 ≤ x ∧ x < 8 → f 1 σ) (h0 : ¬ (0 ≤ x ∧ x < 8) → f 0 σ) : bWp (d + 2) 211 [.int (bn x)] σ (bRn f) :=
  ⟨rfl, fun A hA => sq211_0 (bWp_mono _) hA hx (w199 hx (by decide) (by decide) (fun q => ⟨by decide, bRn_i (by decide) (h1 (by omega))⟩) (fun q => ⟨by decide, bRn_i (by decide) (h0 (by omega))⟩))⟩
theorem bTgk_16 {σ : bSt} {t : Int} (hT : 0 ≤ bi σ 12 22 ∧ bi σ 12 22 ≤ 16) (q : bTgk σ t) : 0 ≤ t ∧ t < 16 := ⟨q.1, by have := q.2; omega⟩
theorem w227 (hT : 0 ≤ bi σ 12 22 ∧ bi σ 12 22 ≤ 16) (ht : bRg t) (hx : bRg x) (hy : bRg y) (h1 : ¬ (bTgk σ t ∧ (0 ≤ x ∧ x < 6) ∧ 0 ≤ y ∧ y < 8) → fv (bw σ 12 0 1)) (h0 : bTgk σ t → 0 ≤ x ∧ x < 6 → 0 ≤ y ∧ y < 8 → fv (bw (bw (bw σ 12 0 0) 78 t x) 79 t y)) : bWp (d + 3) 227 [.ref 12, .int (bn t), .int (bn x), .int (bn y)] σ (bRv fv) :=
  ⟨rfl, fun A hA => sq227_0 (bWp_mono _) hA ht hx hy (w225 hT ht (fun q => bFf (by decide) (w210 hx (fun q2 => bFf (by decide) (w211 hy (fun q3 => bFf (by decide) (rY ⟨bTgk_16 hT q, h0 q q2 q3⟩)) (fun q3 => bTt rfl (rN (by decide) (by decide) (h1 fun w => q3 w.2.2))))) (fun q2 => bTt rfl (rN (by decide) (by decide) (h1 fun w => q2 w.2.1))))) (fun q => bTt rfl (rN (by decide) (by decide) (h1 fun w => q w.1))))⟩
theorem w228 (h16 : 0 ≤ bi σ 12 22 ∧ bi σ 12 22 ≤ 16) (hc9 : bTgk σ t → 0 ≤ bi σ 83 t ∧ bi σ 83 t ≤ 4) (ht : bRg t) (hx : bRg x) (hy : bRg y) (hz : bRg z) (h1 : ¬ (bTgk σ t ∧ 0 ≤ x ∧ x < 4) → f 0 (bw σ 12 0 1)) (h2 : bTgk σ t → 0 ≤ x ∧ x < 4 → ¬ ((0 ≤ y ∧ y ≤ 3) ∧ 0 ≤ z ∧ z ≤ 999) → f 0 (bw σ 12 0 2)) (h3 : bTgk σ t → 0 ≤ x ∧ x < 4 → (0 ≤ y ∧ y ≤ 3) ∧ 0 ≤ z ∧ z ≤ 999 → bi σ 83 t = 4 → f 0 (bw σ 12 0 3))
    (h0 : bTgk σ t → 0 ≤ x ∧ x < 4 → (0 ≤ y ∧ y ≤ 3) ∧ 0 ≤ z ∧ z ≤ 999 → bi σ 83 t < 4 → f (bi σ 83 t + 1) (bw (bw (bw (bw (bw σ 12 0 0) 84 (3 * (4 * t + bi σ 83 t)) x) 84 (3 * (4 * t + bi σ 83 t) + 1) y) 84 (3 * (4 * t + bi σ 83 t) + 2) z) 83 t (bi σ 83 t + 1))) : bWp (d + 3) 228 [.ref 12, .int (bn t), .int (bn x), .int (bn y), .int (bn z)] σ (bRn f) := by
  refine ⟨rfl, fun A hA => ?_⟩
  have fin : ∀ (v5 v6 v7 : Value) (k : Int), (k = 0 ∧ bTgk σ t ∧ bi σ 83 t < 4 ∧ (0 ≤ x ∧ x < 4) ∧ ((0 ≤ y ∧ y ≤ 3) ∧ 0 ≤ z ∧ z ≤ 999)) ∨ (0 < k ∧ k < 4 ∧ f 0 (bw σ 12 0 k)) → A (45, [.ref 12, .int (bn t), .int (bn x), .int (bn y), .int (bn z), v5, v6, v7], [.int (bn k), .ref 12], σ) := by
    intro v5 v6 v7 k hk
    refine sq228_45 (bWp_mono _) hA ht hx hy hz ⟨by omega, by omega⟩ ?_
    rcases hk with ⟨rfl, q, e, q2, q3⟩ | ⟨k0, k1, hf⟩
    · have q16 := bTgk_16 h16 q
      have e83 : bi (bw σ 12 0 0) 83 t = bi σ 83 t := bi_ne (by decide)
      have hc : True ∧ 0 ≤ bi σ 83 t ∧ bi σ 83 t ≤ 4 := ⟨trivial, hc9 q⟩
      refine rY ?_
      rw [e83]
      exact ⟨⟨by omega, by omega⟩, q16, ⟨by omega, by omega⟩, ⟨by omega, by omega⟩, ⟨by omega, by omega⟩, ⟨by omega, by omega⟩, ⟨by omega, by omega⟩, ⟨by omega, by omega⟩, ⟨by omega, by omega⟩, ⟨by omega, by omega⟩, bRn_i ⟨by omega, by omega⟩ (h0 q q2 q3 e)⟩
    · exact rN ⟨by omega, by omega⟩ (by omega) (bRn_i (by decide) hf)
  have mid : ∀ (v5 v6 v7 : Value) (a : Int), (a = 1 ∧ bTgk σ t ∧ 0 ≤ x ∧ x < 4) ∨ (a = 0 ∧ ¬ (bTgk σ t ∧ 0 ≤ x ∧ x < 4)) → A (12, [.ref 12, .int (bn t), .int (bn x), .int (bn y), .int (bn z), v5, v6, v7], [.int (bn a)], σ) := by
    intro v5 v6 v7 a ha
    have n1 : a = 0 → (0 : Int) < 1 ∧ (1 : Int) < 4 ∧ f 0 (bw σ 12 0 1) := fun e => ⟨by decide, by decide, h1 (by rcases ha with ⟨q, _⟩ | ⟨_, q⟩; omega; exact q)⟩
    refine sq228_12 (bWp_mono _) hA ht hx hy hz ⟨by omega, by omega⟩ (w199 hy (by decide) (by decide) (fun q3 => bFf (by decide) (w199 hz (by decide) (by decide) (fun q4 => bFf (by decide) ⟨fun e => fin _ _ _ _ (Or.inr (n1 e)), fun e => ?_⟩) (fun q4 => bTt rfl ⟨fun e => fin _ _ _ _ (Or.inr (n1 e)), fun e => fin _ _ _ _ (Or.inr ⟨by decide, by decide, ?_⟩)⟩))) (fun q3 => bTt rfl ⟨fun e => fin _ _ _ _ (Or.inr (n1 e)), fun e => fin _ _ _ _ (Or.inr ⟨by decide, by decide, ?_⟩)⟩))
    · rcases ha with ⟨_, q, q2⟩ | ⟨q, _⟩
      · have hc : True ∧ 0 ≤ bi σ 83 t ∧ bi σ 83 t ≤ 4 := ⟨trivial, hc9 q⟩
        exact ⟨bTgk_16 h16 q, fun e4 => fin _ _ _ _ (Or.inr ⟨by decide, by decide, h3 q q2 ⟨q3, q4⟩ e4⟩), fun e4 => fin _ _ _ _ (Or.inl ⟨rfl, q, by omega, q2, q3, q4⟩)⟩
      · exact absurd q e
    · rcases ha with ⟨_, q, q2⟩ | ⟨q, _⟩
      · exact h2 q q2 fun w => q4 w.2
      · exact absurd q e
    · rcases ha with ⟨_, q, q2⟩ | ⟨q, _⟩
      · exact h2 q q2 fun w => q3 w.1
      · exact absurd q e
  exact sq228_0 (bWp_mono _) hA ht hx hy hz (w225 h16 ht (fun q => bFf (by decide) (w199 hx (by decide) (by decide) (fun q2 => bFf (by decide) (mid _ _ _ _ (Or.inl ⟨rfl, q, q2.1, by omega⟩))) (fun q2 => bTt rfl (mid _ _ _ _ (Or.inr ⟨rfl, fun w => q2 ⟨w.2.1, by have := w.2.2; omega⟩⟩))))) (fun q => bTt rfl (mid _ _ _ _ (Or.inr ⟨rfl, fun w => q w.1⟩))))
theorem w229 (h0 : 0 ≤ t ∧ t < 16) (hc : 0 ≤ bi σ 85 t ∧ bi σ 85 t < 6) (hx : bRg x) (hy : bRg y) (hv : v = 0 ∨ v = 1) (h : f (bi σ 85 t + 1) (bw (bw (bw (bw σ 86 (6 * t + bi σ 85 t) x) 87 (6 * t + bi σ 85 t) y) 88 (6 * t + bi σ 85 t) v) 85 t (bi σ 85 t + 1))) : bWp (d + 1) 229 [.ref 12, .int (bn t), .int (bn x), .int (bn y), .int (bn v)] σ (bRn f) :=
  ⟨rfl, fun A hA => sq229_0 (bWp_mono _) hA ⟨by omega, by omega⟩ hx hy (b01_rg hv) ⟨⟨by omega, by omega⟩, h0, ⟨by omega, by omega⟩, ⟨by omega, by omega⟩, hv, ⟨by omega, by omega⟩, bRn_i ⟨by omega, by omega⟩ h⟩⟩
/-- the reference's item, behind 0 in the refusal -/
def bItw (σ : bSt) (t K W v : Int) : bSt := bw (bw (bw (bw (bw σ 12 0 0) 86 (6 * t + bi σ 85 t) K) 87 (6 * t + bi σ 85 t) W) 88 (6 * t + bi σ 85 t) v) 85 t (bi σ 85 t + 1)
theorem w229f (h0 : 0 ≤ t ∧ t < 16) (hc : 0 ≤ bi σ 85 t ∧ bi σ 85 t < 6) (hx : bRg x) (hy : bRg y) (hv : v = 0 ∨ v = 1) (h : f (bi σ 85 t + 1) (bItw σ t x y v)) : bWp (d + 1) 229 [.ref 12, .int (bn t), .int (bn x), .int (bn y), .int (bn v)] (bw σ 12 0 0) (bRn f) := by
  have e : bi (bw σ 12 0 0) 85 t = bi σ 85 t := bi_ne (by decide)
  refine w229 h0 (by rw [e]; exact hc) hx hy hv ?_
  rw [e]
  exact h
theorem w230 (h16 : 0 ≤ bi σ 12 22 ∧ bi σ 12 22 ≤ 16) (hc9 : bTgk σ t → 0 ≤ bi σ 85 t ∧ bi σ 85 t ≤ 6) (ht : bRg t) (hx : bRg x) (h1 : ¬ (bTgk σ t ∧ 0 ≤ x ∧ x < 48) → f 0 (bw σ 12 0 1)) (h3 : bTgk σ t → 0 ≤ x ∧ x < 48 → bi σ 85 t = 6 → f 0 (bw σ 12 0 2)) (h0 : bTgk σ t → 0 ≤ x ∧ x < 48 → bi σ 85 t < 6 → f (bi σ 85 t + 1) (bItw σ t 0 x 0)) : bWp (d + 3) 230 [.ref 12, .int (bn t), .int (bn x)] σ (bRn f) := by
  refine ⟨rfl, fun A hA => ?_⟩
  have mid : ∀ (v3 : Value) (a : Int), (a = 1 ∧ bTgk σ t ∧ 0 ≤ x ∧ x < 48) ∨ (a = 0 ∧ ¬ (bTgk σ t ∧ 0 ≤ x ∧ x < 48)) → A (10, [.ref 12, .int (bn t), .int (bn x), v3], [.int (bn a)], σ) := by
    intro v3 a ha
    refine sq230_10 (bWp_mono _) hA ht hx ⟨by omega, by omega⟩ ⟨fun e => rN (by decide) (by decide) (bRn_i (by decide) (h1 (by rcases ha with ⟨q, _⟩ | ⟨_, q⟩; omega; exact q))), fun e => ?_⟩
    rcases ha with ⟨_, q, q2⟩ | ⟨q, _⟩
    · have hc : True ∧ 0 ≤ bi σ 85 t ∧ bi σ 85 t ≤ 6 := ⟨trivial, hc9 q⟩
      exact ⟨bTgk_16 h16 q, fun e4 => rN (by decide) (by decide) (bRn_i (by decide) (h3 q q2 e4)), fun e4 => rY (w229f (bTgk_16 h16 q) ⟨hc.2.1, by omega⟩ (by decide) hx (Or.inl rfl) (bRn_i ⟨by omega, by omega⟩ (h0 q q2 (by omega))))⟩
    · exact absurd q e
  exact sq230_0 (bWp_mono _) hA ht hx (w225 h16 ht (fun q => bFf (by decide) (w200 hx (fun q2 => bFf (by decide) (mid _ _ (Or.inl ⟨rfl, q, q2⟩))) (fun q2 => bTt rfl (mid _ _ (Or.inr ⟨rfl, fun w => q2 w.2⟩))))) (fun q => bTt rfl (mid _ _ (Or.inr ⟨rfl, fun w => q w.1⟩))))
theorem w231 (h16 : 0 ≤ bi σ 12 22 ∧ bi σ 12 22 ≤ 16) (hc9 : bTgk σ t → 0 ≤ bi σ 85 t ∧ bi σ 85 t ≤ 6) (ht : bRg t) (hx : bRg x) (hv : v = 0 ∨ v = 1) (h1 : ¬ bTgk σ t → f 0 (bw σ 12 0 1)) (h2 : bTgk σ t → ¬ (0 ≤ x ∧ x ≤ 255) → f 0 (bw σ 12 0 2)) (h3 : bTgk σ t → 0 ≤ x ∧ x ≤ 255 → bi σ 85 t = 6 → f 0 (bw σ 12 0 3)) (h0 : bTgk σ t → 0 ≤ x ∧ x ≤ 255 → bi σ 85 t < 6 → f (bi σ 85 t + 1) (bItw σ t 1 x v)) : bWp (d + 3) 231 [.ref 12, .int (bn t), .int (bn x), .int (bn v)] σ (bRn f) := by
  refine ⟨rfl, fun A hA => sq231_0 (bWp_mono _) hA ht hx (b01_rg hv) (w225 h16 ht (fun q => bFf (by decide) (w199 hx (by decide) (by decide) (fun q2 => bFf (by decide) ⟨bTgk_16 h16 q, fun e4 => rN (by decide) (by decide) (bRn_i (by decide) (h3 q q2 e4)), fun e4 => ?_⟩) (fun q2 => bTt rfl (rN (by decide) (by decide) (bRn_i (by decide) (h2 q q2)))))) (fun q => bTt rfl (rN (by decide) (by decide) (bRn_i (by decide) (h1 q)))))⟩
  have hc : True ∧ 0 ≤ bi σ 85 t ∧ bi σ 85 t ≤ 6 := ⟨trivial, hc9 q⟩
  exact rY (w229f (bTgk_16 h16 q) ⟨hc.2.1, by omega⟩ (by decide) hx hv (bRn_i ⟨by omega, by omega⟩ (h0 q q2 (by omega))))
theorem w232 (h16 : 0 ≤ bi σ 12 22 ∧ bi σ 12 22 ≤ 16) (hc9 : bTgk σ t → 0 ≤ bi σ 85 t ∧ bi σ 85 t ≤ 6) (ht : bRg t) (hx : bRg x) (h1 : ¬ (bTgk σ t ∧ bTgk σ x) → f 0 (bw σ 12 0 1)) (h2 : bTgk σ t → bTgk σ x → ¬ x < t → f 0 (bw σ 12 0 2)) (h3 : bTgk σ t → bTgk σ x → x < t → bi σ 85 t = 6 → f 0 (bw σ 12 0 3)) (h0 : bTgk σ t → bTgk σ x → x < t → bi σ 85 t < 6 → f (bi σ 85 t + 1) (bItw σ t 2 x 0)) : bWp (d + 3) 232 [.ref 12, .int (bn t), .int (bn x)] σ (bRn f) := by
  refine ⟨rfl, fun A hA => ?_⟩
  have mid : ∀ (v3 : Value) (a : Int), (a = 1 ∧ bTgk σ t ∧ bTgk σ x) ∨ (a = 0 ∧ ¬ (bTgk σ t ∧ bTgk σ x)) → A (11, [.ref 12, .int (bn t), .int (bn x), v3], [.int (bn a)], σ) := by
    intro v3 a ha
    refine sq232_11 (bWp_mono _) hA ht hx ⟨by omega, by omega⟩ ⟨fun e => rN (by decide) (by decide) (bRn_i (by decide) (h1 (by rcases ha with ⟨q, _⟩ | ⟨_, q⟩; omega; exact q))), fun e => ?_⟩
    rcases ha with ⟨_, q, q2⟩ | ⟨q, _⟩
    · have hc : True ∧ 0 ≤ bi σ 85 t ∧ bi σ 85 t ≤ 6 := ⟨trivial, hc9 q⟩
      exact ⟨fun e3 => ⟨bTgk_16 h16 q, fun e4 => rN (by decide) (by decide) (bRn_i (by decide) (h3 q q2 e3 e4)), fun e4 => rY (w229f (bTgk_16 h16 q) ⟨hc.2.1, by omega⟩ (by decide) hx (Or.inl rfl) (bRn_i ⟨by omega, by omega⟩ (h0 q q2 e3 (by omega))))⟩, fun e3 => rN (by decide) (by decide) (bRn_i (by decide) (h2 q q2 e3))⟩
    · exact absurd q e
  exact sq232_0 (bWp_mono _) hA ht hx (w225 h16 ht (fun q => bFf (by decide) (w225 h16 hx (fun q2 => bFf (by decide) (mid _ _ (Or.inl ⟨rfl, q, q2⟩))) (fun q2 => bTt rfl (mid _ _ (Or.inr ⟨rfl, fun w => q2 w.2⟩))))) (fun q => bTt rfl (mid _ _ (Or.inr ⟨rfl, fun w => q w.1⟩))))
theorem w233 (h16 : 0 ≤ bi σ 12 22 ∧ bi σ 12 22 ≤ 16) (hc9 : bTgk σ t → 0 ≤ bi σ 85 t ∧ bi σ 85 t ≤ 6) (ht : bRg t) (h1 : ¬ bTgk σ t → f 0 (bw σ 12 0 1)) (h3 : bTgk σ t → bi σ 85 t = 0 → f 0 (bw σ 12 0 2)) (h0 : bTgk σ t → 0 < bi σ 85 t → f (bi σ 85 t - 1) (bw (bw σ 12 0 0) 85 t (bi σ 85 t - 1))) : bWp (d + 3) 233 [.ref 12, .int (bn t)] σ (bRn f) := by
  refine ⟨rfl, fun A hA => sq233_0 (bWp_mono _) hA ht (w225 h16 ht (fun q => bFf (by decide) ⟨bTgk_16 h16 q, fun e4 => rN (by decide) (by decide) (bRn_i (by decide) (h3 q e4)), fun e4 => rY ?_⟩) (fun q => bTt rfl (rN (by decide) (by decide) (bRn_i (by decide) (h1 q)))))⟩
  have hc : True ∧ 0 ≤ bi σ 85 t ∧ bi σ 85 t ≤ 6 := ⟨trivial, hc9 q⟩
  have e85 : bi (bw σ 12 0 0) 85 t = bi σ 85 t := bi_ne (by decide)
  rw [e85]
  exact ⟨⟨by omega, by omega⟩, bRn_i ⟨by omega, by omega⟩ (h0 q (by omega))⟩
theorem w234 (hT : 0 ≤ bi σ 12 22 ∧ bi σ 12 22 ≤ 16) (ht : bRg t) (hx : bRg x) (h1 : ¬ bTgk σ t → f 0 (bw σ 12 0 1)) (h2 : bTgk σ t → ¬ (-1 ≤ x ∧ x ≤ 2) → f 0 (bw σ 12 0 2)) (h0 : bTgk σ t → -1 ≤ x ∧ x ≤ 2 → f (bi σ 80 t) (bw (bw σ 12 0 0) 80 t x)) : bWp (d + 3) 234 [.ref 12, .int (bn t), .int (bn x)] σ (bRn f) :=
  ⟨rfl, fun A hA => sq234_0 (bWp_mono _) hA ht hx (w225 hT ht (fun q => bFf (by decide) (w199 hx (by decide) (by decide) (fun q2 => bFf (by decide) (rY ⟨bTgk_16 hT q, bRn_i (bi_rg _ _ _) (by rw [bi_ne (by decide)]; exact h0 q q2)⟩)) (fun q2 => bTt rfl (rN (by decide) (by decide) (bRn_i (by decide) (h2 q q2)))))) (fun q => bTt rfl (rN (by decide) (by decide) (bRn_i (by decide) (h1 q)))))⟩
theorem w235 (hT : 0 ≤ bi σ 12 22 ∧ bi σ 12 22 ≤ 16) (ht : bRg t) (hx : bRg x) (hy : bRg y) (h1 : ¬ (bTgk σ t ∧ -1 ≤ x ∧ x ≤ 3) → fv (bw σ 12 0 1)) (h2 : bTgk σ t → -1 ≤ x ∧ x ≤ 3 → ¬ (0 ≤ y ∧ y ≤ if x = -1 then 0 else 3) → fv (bw σ 12 0 2)) (h0 : bTgk σ t → -1 ≤ x ∧ x ≤ 3 → (0 ≤ y ∧ y ≤ if x = -1 then 0 else 3) → fv (bw (bw (bw σ 12 0 0) 81 t x) 82 t y)) : bWp (d + 3) 235 [.ref 12, .int (bn t), .int (bn x), .int (bn y)] σ (bRv fv) := by
  refine ⟨rfl, fun A hA => ?_⟩
  have mid : ∀ (v4 : Value) (a : Int), (a = 1 ∧ bTgk σ t ∧ -1 ≤ x ∧ x ≤ 3) ∨ (a = 0 ∧ ¬ (bTgk σ t ∧ -1 ≤ x ∧ x ≤ 3)) → A (12, [.ref 12, .int (bn t), .int (bn x), .int (bn y), v4], [.int (bn a)], σ) := by
    intro v4 a ha
    refine sq235_12 (bWp_mono _) hA ht hx hy ⟨by omega, by omega⟩ ⟨fun e => rN (by decide) (by decide) (h1 (by rcases ha with ⟨q, _⟩ | ⟨_, q⟩; omega; exact q)), fun e => ?_⟩
    rcases ha with ⟨_, q, q2⟩ | ⟨q, _⟩
    · exact ⟨fun e2 => w199 hy (by decide) (by decide) (fun q3 => bFf (by decide) (rY ⟨bTgk_16 hT q, h0 q q2 (by rw [if_pos e2]; exact q3)⟩)) (fun q3 => bTt rfl (rN (by decide) (by decide) (h2 q q2 (by rw [if_pos e2]; exact q3)))), fun e2 => w199 hy (by decide) (by decide) (fun q3 => bFf (by decide) (rY ⟨bTgk_16 hT q, h0 q q2 (by rw [if_neg e2]; exact q3)⟩)) (fun q3 => bTt rfl (rN (by decide) (by decide) (h2 q q2 (by rw [if_neg e2]; exact q3))))⟩
    · exact absurd q e
  exact sq235_0 (bWp_mono _) hA ht hx hy (w225 hT ht (fun q => bFf (by decide) (w199 hx (by decide) (by decide) (fun q2 => bFf (by decide) (mid _ _ (Or.inl ⟨rfl, q, q2⟩))) (fun q2 => bTt rfl (mid _ _ (Or.inr ⟨rfl, fun w => q2 w.2⟩))))) (fun q => bTt rfl (mid _ _ (Or.inr ⟨rfl, fun w => q w.1⟩))))
theorem w236 (hT : 0 ≤ bi σ 12 22 ∧ bi σ 12 22 ≤ 16) (ht : bRg t) (hx : bRg x) (hy : bRg y) (hv : v = 0 ∨ v = 1) (h1 : ¬ (bTgk σ t ∧ 0 ≤ x ∧ x < 3) → fv (bw σ 12 0 1)) (h2 : bTgk σ t → 0 ≤ x ∧ x < 3 → ¬ (1 ≤ y ∧ y ≤ 20) → fv (bw σ 12 0 2)) (h0 : bTgk σ t → 0 ≤ x ∧ x < 3 → 1 ≤ y ∧ y ≤ 20 → fv (bw (bw (bw (bw σ 12 0 0) 89 t x) 90 t y) 91 t v)) : bWp (d + 3) 236 [.ref 12, .int (bn t), .int (bn x), .int (bn y), .int (bn v)] σ (bRv fv) := by
  have hr := b01_rg hv
  refine ⟨rfl, fun A hA => ?_⟩
  have mid : ∀ (v5 : Value) (a : Int), (a = 1 ∧ bTgk σ t ∧ 0 ≤ x ∧ x < 3) ∨ (a = 0 ∧ ¬ (bTgk σ t ∧ 0 ≤ x ∧ x < 3)) → A (12, [.ref 12, .int (bn t), .int (bn x), .int (bn y), .int (bn v), v5], [.int (bn a)], σ) := by
    intro v5 a ha
    refine sq236_12 (bWp_mono _) hA ht hx hy hr ⟨by omega, by omega⟩ ⟨fun e => rN (by decide) (by decide) (h1 (by rcases ha with ⟨q, _⟩ | ⟨_, q⟩; omega; exact q)), fun e => ?_⟩
    rcases ha with ⟨_, q, q2⟩ | ⟨q, _⟩
    · exact w199 hy (by decide) (by decide) (fun q3 => bFf (by decide) (rY ⟨bTgk_16 hT q, hv, h0 q q2 q3⟩)) (fun q3 => bTt rfl (rN (by decide) (by decide) (h2 q q2 q3)))
    · exact absurd q e
  exact sq236_0 (bWp_mono _) hA ht hx hy hr (w225 hT ht (fun q => bFf (by decide) (w199 hx (by decide) (by decide) (fun q2 => bFf (by decide) (mid _ _ (Or.inl ⟨rfl, q, q2.1, by omega⟩))) (fun q2 => bTt rfl (mid _ _ (Or.inr ⟨rfl, fun w => q2 ⟨w.2.1, by have := w.2.2; omega⟩⟩))))) (fun q => bTt rfl (mid _ _ (Or.inr ⟨rfl, fun w => q w.1⟩))))
theorem w237 (hT : 0 ≤ bi σ 12 22 ∧ bi σ 12 22 ≤ 16) (ht : bRg t) (hx : bRg x) (hy : bRg y) (h1 : ¬ bTgk σ t → fv (bw σ 12 0 1)) (h2 : bTgk σ t → ¬ ((0 ≤ x ∧ x ≤ 4) ∧ 0 ≤ y ∧ y ≤ 9) → fv (bw σ 12 0 2)) (h0 : bTgk σ t → (0 ≤ x ∧ x ≤ 4) ∧ 0 ≤ y ∧ y ≤ 9 → fv (bw (bw (bw σ 12 0 0) 92 t x) 93 t y)) : bWp (d + 3) 237 [.ref 12, .int (bn t), .int (bn x), .int (bn y)] σ (bRv fv) := by
  refine ⟨rfl, fun A hA => ?_⟩
  have mid : ∀ (v4 : Value) (a : Int), (a = 1 ∧ (0 ≤ x ∧ x ≤ 4) ∧ 0 ≤ y ∧ y ≤ 9) ∨ (a = 0 ∧ ¬ ((0 ≤ x ∧ x ≤ 4) ∧ 0 ≤ y ∧ y ≤ 9)) → A (13, [.ref 12, .int (bn t), .int (bn x), .int (bn y), v4], [.int (bn a)], σ) := by
    intro v4 a ha
    refine sq237_13 (bWp_mono _) hA ht hx hy ⟨by omega, by omega⟩ (w225 hT ht (fun q => bFf (by decide) ⟨fun e => rN (by decide) (by decide) (h2 q (by rcases ha with ⟨w, _⟩ | ⟨_, w⟩; omega; exact w)), fun e => ?_⟩) (fun q => bTt rfl (rN (by decide) (by decide) (h1 q))))
    rcases ha with ⟨_, q2⟩ | ⟨w, _⟩
    · exact rY ⟨bTgk_16 hT q, h0 q q2⟩
    · exact absurd w e
  exact sq237_0 (bWp_mono _) hA ht hx hy (w199 hx (by decide) (by decide) (fun q => bFf (by decide) (w199 hy (by decide) (by decide) (fun q2 => bFf (by decide) (mid _ _ (Or.inl ⟨rfl, q, q2⟩))) (fun q2 => bTt rfl (mid _ _ (Or.inr ⟨rfl, fun w => q2 w.2⟩))))) (fun q => bTt rfl (mid _ _ (Or.inr ⟨rfl, fun w => q w.1⟩))))
end

/-! RULES' EVALUATION, 13: the reference's rows: a file begun, failed, a name given, a statement done -/
section
variable {d lvl : Nat} {σ s t r : bSt} {g : Int → bSt → Prop} {fv : bSt → Prop} {A : bPt → Prop} {f a x y k n m p K M : Int}
theorem w216 (hx : 0 ≤ x ∧ x < 6) (hy : bRg y) (hk : bRg k) (h : g (-1) (bw (bw (bw σ 65 x 3) 67 x y) 68 x k)) : bWp (d + 1) 216 [.ref 12, .int (bn x), .int (bn y), .int (bn k)] σ (bRn g) :=
  ⟨rfl, fun A hA => sq216_0 (bWp_mono _) hA ⟨by omega, by omega⟩ hy hk ⟨hx, bRn_i (by decide) h⟩⟩
theorem w217 (hx : 0 ≤ x ∧ x < 48) (hy : bRg y) (hk : bRg k) (h : fv (bw (bw σ 60 x y) 61 x k)) : bWp (d + 1) 217 [.ref 12, .int (bn x), .int (bn y), .int (bn k)] σ (bRv fv) :=
  ⟨rfl, fun A hA => sq217_0 (bWp_mono _) hA ⟨by omega, by omega⟩ hy hk ⟨hx, h⟩⟩
theorem w215 (hx : 0 ≤ x ∧ x < 6) (h : ∀ t, bFl 60 (8 * x) (8 * x + 8) 0 (bw (bw σ 65 x 1) 66 x 0) t → fv t) : bWp (d + 1) 215 [.ref 12, .int (bn x)] σ (bRv fv) := by
  refine ⟨rfl, fun A hA => sq215_0 (bWp_mono _) hA ⟨by omega, by omega⟩ ⟨hx, ?_⟩⟩
  have L : ∀ (n : Nat) (l : Int) (s : bSt), l + n = 8 → 0 ≤ l → bFl 60 (8 * x) (8 * x + l) 0 (bw (bw σ 65 x 1) 66 x 0) s → A (12, [.ref 12, .int (bn x), .int (bn l)], [], s) := by
    intro n
    induction n with
    | zero =>
      intro l s q l0 k
      refine sq215_12 (bWp_mono _) hA ⟨by omega, by omega⟩ ⟨by omega, by omega⟩ ⟨fun w => absurd w (by omega), fun _ => ?_⟩
      have e : l = 8 := by omega
      rw [e] at k
      exact h s k
    | succ n ih =>
      intro l s q l0 k
      refine sq215_12 (bWp_mono _) hA ⟨by omega, by omega⟩ ⟨by omega, by omega⟩ ⟨fun _ => ⟨⟨by omega, by omega⟩, ⟨by omega, by omega⟩, ⟨by omega, by omega⟩, ⟨by omega, by omega⟩, ih (l + 1) _ (by omega) (by omega) ?_⟩, fun w => absurd (show l < 8 by omega) w⟩
      have := bFl_s k (by omega) (by omega) (by decide)
      rwa [show 8 * x + l + 1 = 8 * x + (l + 1) by omega] at this
  exact L 8 0 _ (by decide) (by decide) (bFl_0 (by omega))
/-- a statement is done -/
theorem n218_242 (hA : bClosed lvl bm218 (bWp (d + 1)) (bRn g) A) {v6 v7 v8 v9 v10 : Value} {q : Int} (hf : 0 ≤ f ∧ f < 6) (ha : 0 ≤ a ∧ a + 3 < 288) (hK : 0 ≤ K ∧ K ≤ 6) (hn : 0 ≤ n ∧ n < 48) (hm : 0 ≤ m ∧ m < 48) (hq : q = 1 ∨ q = 2) (hp : 0 ≤ p ∧ p < 12)
    (k2 : K = 2 → (0 ≤ bi r 61 n ∧ bi r 61 n < 1000) ∧ 0 ≤ bi r 61 m ∧ bi r 61 m < 1000) (k3 : K = 3 → 0 ≤ bi r 12 7 ∧ bi r 12 7 < 72) (k4 : K = 4 → (0 ≤ bi r 61 n ∧ bi r 61 n < 72) ∧ 0 ≤ bi r 63 (bi r 61 n) ∧ bi r 63 (bi r 61 n) < 8)
    (h0 : K = 0 → g (-1) (bw (bw (bw r 66 f (p + q)) 60 n 1) 61 n (bi r 59 (a + 2))))
    (h1 : K = 1 ∨ K = 5 → g (-1) (bw (bw (bw r 66 f (p + q)) 60 n (bi r 60 m)) 61 n (bi r 61 m)))
    (h2 : K = 2 → g (-1) (bw (bw r 66 f (p + q)) 61 n ((bi r 61 n + bi r 61 m) % 1000)))
    (h3 : K = 3 → g (-1) (bw (bw (bw (bw (bw (bw r 66 f (p + q)) 62 (bi r 12 7) f) 63 (bi r 12 7) 0) 60 n 2) 61 n (bi r 12 7)) 12 7 (bi r 12 7 + 1)))
    (h4 : K = 4 → g (-1) (bw (bw (bw r 66 f (p + q)) 64 (8 * bi r 61 n + bi r 63 (bi r 61 n)) (bi r 61 m)) 63 (bi r 61 n) (bi r 63 (bi r 61 n) + 1)))
    (h6 : K = 6 → g (-1) (bw r 66 f (p + q))) : A (242, [.ref 12, .int (bn f), .int (bn a), .int (bn K), .int (bn n), .int (bn m), v6, v7, v8, v9, v10], [.int (bn q), .int (bn p), .int (bn f), .ref 66], r) := by
  refine sq218_242 (bWp_mono _) hA ⟨by omega, by omega⟩ ⟨by omega, by omega⟩ ⟨by omega, by omega⟩ ⟨by omega, by omega⟩ ⟨by omega, by omega⟩ ⟨by omega, by omega⟩ ⟨by omega, by omega⟩ ⟨by omega, by omega⟩ ⟨⟨by omega, by omega⟩, hf, fun e0 => ?_, fun e0 => ⟨fun e1 => ?_, fun e1 => ⟨fun e2 => ?_, fun e2 => ⟨fun e3 => ?_, fun e3 => ⟨fun e4 => ?_, fun e4 => ⟨fun e5 => ?_, fun e5 => ?_⟩⟩⟩⟩⟩⟩
  · exact ⟨⟨by omega, by omega⟩, ⟨by omega, by omega⟩, w217 hn (by decide) (bi_rg _ _ _) (bRn_i (by decide) (h0 e0))⟩
  · exact ⟨hm, w217 hn (bi_rg _ _ _) (bi_rg _ _ _) (bRn_i (by decide) (h1 (Or.inl e1)))⟩
  · obtain ⟨p1, p2⟩ := k2 e2
    exact ⟨hn, hm, ⟨by omega, by omega⟩, by omega, bRn_i (by decide) (h2 e2)⟩
  · obtain ⟨p1, p2⟩ := k3 e3
    refine ⟨⟨by omega, by omega⟩, w217 hn (by decide) (bi_rg _ _ _) ?_⟩
    have e12 : bi (bw (bw (bw (bw (bw r 66 f (p + q)) 62 (bi r 12 7) f) 63 (bi r 12 7) 0) 60 n 2) 61 n (bi r 12 7)) 12 7 = bi r 12 7 := by
      simp (disch := omega) only [bi_ne]
    rw [e12]
    exact ⟨⟨by omega, by omega⟩, bRn_i (by decide) (h3 e3)⟩
  · obtain ⟨p1, p2, p3⟩ := k4 e4
    exact ⟨hn, ⟨by omega, by omega⟩, ⟨by omega, by omega⟩, ⟨by omega, by omega⟩, hm, ⟨by omega, by omega⟩, ⟨by omega, by omega⟩, bRn_i (by decide) (h4 e4)⟩
  · exact ⟨hm, w217 hn (bi_rg _ _ _) (bi_rg _ _ _) (bRn_i (by decide) (h1 (Or.inr e5)))⟩
  · exact bRn_i (by decide) (h6 (by omega))
end

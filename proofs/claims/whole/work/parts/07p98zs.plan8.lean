/-! THE PLAN, 8: the reference's error of a configured target -/
theorem bBw_r : ∀ s v : Fin 4, ∀ c : Fin 256, (c.val : Int) + bShl ((v.val : Int) - bVi c.val s.val) (2 * (s.val : Int)) = bChg c.val s.val v.val := by decide +kernel
/-- the first condition that holds; -9: none -/
def bNr (σ : bSt) (t c : Int) : Nat → Int → Int
  | 0, _ => -9
  | m + 1, k => if bVi c (bi σ 84 (12 * t + 3 * k)) = bi σ 84 (12 * t + (3 * k + 1)) then bi σ 84 (12 * t + (3 * k + 2)) else bNr σ t c m (k + 1)
/-- the first toolchain that fits; -1: none -/
def bVrk (σ : bSt) (y c : Int) : Nat → Int → Int
  | 0, _ => -1
  | m + 1, k => if (bi σ 72 k = -1 ∨ bVi c (bi σ 72 k) = bi σ 73 k) ∧ bi σ 71 k = y then k else bVrk σ y c m (k + 1)
section
variable {d : Nat} {σ s t u e r r' : bSt} {f : Int → bSt → Prop} {fv : bSt → Prop} {F : Int → Int} {x y k n m p v w o j l a i t c q : Int}
theorem bNr_n (hT : bTg σ) (ht : bTgk σ t) {c : Int} {m : Nat} : ∀ k, 0 ≤ k → k + m = bi σ 83 t → bNuS σ t c m k = (if bNr σ t c m k = -9 then (if bi σ 78 t = -1 then bi σ 77 t else bi σ (bTi t) 4) else bNr σ t c m k) ∧ (bNr σ t c m k = -9 ∨ 0 ≤ bNr σ t c m k ∧ bNr σ t c m k < 1000) := by
  induction m with
  | zero => intro k _ _; exact ⟨rfl, Or.inl rfl⟩
  | succ m ih =>
    intro k k0 hk
    obtain ⟨_, _, _, z0, z1⟩ := bCnd_at hT ht k0 (show k < bi σ 83 t by omega)
    obtain ⟨a1, a2⟩ := ih (k + 1) (by omega) (by omega)
    unfold bNuS bNr
    by_cases w : bVi c (bi σ 84 (12 * t + 3 * k)) = bi σ 84 (12 * t + (3 * k + 1))
    · rw [if_pos w, if_pos w, if_neg (by omega)]
      exact ⟨rfl, Or.inr ⟨z0, z1⟩⟩
    · rw [if_neg w, if_neg w]
      exact ⟨a1, a2⟩
theorem bVr_n {y c : Int} {m : Nat} : ∀ k, 0 ≤ k → bVeS σ y c m k = (if bVrk σ y c m k = -1 then -1 else bi σ 74 (bVrk σ y c m k)) ∧ (bVrk σ y c m k = -1 ∨ k ≤ bVrk σ y c m k ∧ bVrk σ y c m k < k + m) := by
  induction m with
  | zero => intro k _; exact ⟨rfl, Or.inl rfl⟩
  | succ m ih =>
    intro k k0
    obtain ⟨a1, a2⟩ := ih (k + 1) (by omega)
    unfold bVeS bVrk
    by_cases w : (bi σ 72 k = -1 ∨ bVi c (bi σ 72 k) = bi σ 73 k) ∧ bi σ 71 k = y
    · rw [if_pos w, if_pos w, if_neg (by omega)]
      exact ⟨rfl, Or.inr ⟨Int.le_refl _, by omega⟩⟩
    · rw [if_neg w, if_neg w]
      exact ⟨a1, a2.imp id (fun z => ⟨by omega, by omega⟩)⟩
theorem w238 (hL : bTl σ) (h : f (bi σ 10 0) σ) : bWp (d + 1) 238 [.ref 12] σ (bRn f) := by
  have e := hL.2.2.2
  have a0 := hL.2.2.1 0 (by decide) (by decide)
  have a1 := hL.2.2.1 1 (by decide) (by decide)
  have a2 := hL.2.2.1 2 (by decide) (by decide)
  have a3 := hL.2.2.1 3 (by decide) (by decide)
  rw [e] at h
  exact ⟨rfl, fun _ hA => sq238_0 (bWp_mono _) hA ⟨⟨by omega, by omega⟩, ⟨by omega, by omega⟩, ⟨by omega, by omega⟩, ⟨by omega, by omega⟩, ⟨by omega, by omega⟩, ⟨by omega, by omega⟩, bRn_i ⟨by omega, by omega⟩ h⟩⟩
theorem w239 (h0 : 0 ≤ c) (h1 : c < 256) (s0 : 0 ≤ x) (s1 : x < 4) (h : f (bVi c x) σ) : bWp (d + 1) 239 [.int (bn c), .int (bn x)] σ (bRn f) := by
  obtain ⟨k, rfl⟩ := bFinN (n := 256) h0 h1
  obtain ⟨s, rfl⟩ := bFinN (n := 4) s0 s1
  exact ⟨rfl, fun _ hA => sq239_0 (bWp_mono _) hA ⟨by omega, by omega⟩ ⟨by omega, by omega⟩ ⟨⟨by omega, by omega⟩, bRn_i (bRgI _) (by rw [bVi_r s k]; exact h)⟩⟩
theorem w240 (hT : bTg σ) (hx : 0 ≤ x) (ht : bTgk σ (x / 256)) (i0 : 0 ≤ i) (i1 : i < bi σ 85 (x / 256)) (hK : bi σ 86 (6 * (x / 256) + i) = 2) (h : f (bNod σ x i) σ) : bWp (d + 2) 240 [.ref 12, .int (bn x), .int (bn (6 * (x / 256) + i))] σ (bRn f) := by
  have tc := hT.1.2.1
  have ht1 := ht.1
  have ht2 := ht.2
  have ic := bIc_at hT ht
  have tr := (hT.2.2.2 _ ht.1 ht.2).2.2.2.2.2.1
  obtain ⟨⟨q1, q2, q3⟩, q4, q5⟩ := bNd_at hT ht i0 i1 hK
  have q32 := q3.2
  have w0 : 0 ≤ bi σ 87 (6 * (x / 256) + i) ∧ bi σ 87 (6 * (x / 256) + i) < 16 := by rw [← q4]; omega
  have br := bBw_rg hT ht (c := x % 256) ⟨by omega, by omega⟩
  have key : bNod σ x i = 256 * bi σ 87 (6 * (x / 256) + i) + bBw σ (x / 256) (x % 256) := by unfold bNod; omega
  rw [key] at h
  unfold bBw at h br
  refine ⟨rfl, fun _ hA => sq240_0 (bWp_mono _) hA ⟨by omega, by omega⟩ ⟨by omega, by omega⟩ ⟨hx, ⟨by omega, by omega⟩, fun z => ?_, fun z => ?_⟩⟩
  · rw [if_pos z] at h
    exact ⟨⟨by omega, by omega⟩, ⟨by omega, by omega⟩, ⟨by omega, by omega⟩, bRn_i ⟨by omega, by omega⟩ h⟩
  · rw [if_neg z] at h br
    rcases tr with ⟨g, _⟩ | ⟨g0, g1, g2, g3, _⟩
    · exact absurd g z
    · refine w239 (by omega) (by omega) g0 g1 ?_
      have e : x % 256 + bShl (bi σ 82 (x / 256) - bVi (x % 256) (bi σ 81 (x / 256))) (2 * bi σ 81 (x / 256)) = bChg (x % 256) (bi σ 81 (x / 256)) (bi σ 82 (x / 256)) := by
        have c0 : 0 ≤ x % 256 ∧ x % 256 < 256 := by omega
        generalize x % 256 = c at *
        generalize bi σ 81 (x / 256) = s at *
        generalize bi σ 82 (x / 256) = v at *
        obtain ⟨c, rfl⟩ := bFinN (n := 256) c0.1 c0.2
        obtain ⟨s, rfl⟩ := bFinN (n := 4) g0 g1
        obtain ⟨v, rfl⟩ := bFinN (n := 4) g2 g3
        exact bBw_r s v c
      have vr := bVi_rg (c := x % 256) (s := bi σ 81 (x / 256))
      rw [e]
      exact ⟨⟨by omega, by omega⟩, ⟨by omega, by omega⟩, ⟨by omega, by omega⟩, ⟨by omega, by omega⟩, ⟨by omega, by omega⟩, ⟨by omega, by omega⟩, bRn_i ⟨by omega, by omega⟩ h⟩
/-- a cause is laid down -/
def bCau (σ : bSt) (x v : Int) : bSt := if v % 8 = 6 then bw σ 96 x (v / 8) else σ
theorem w243 (hF : bFi σ) (hT : bTg σ) (hx : 0 ≤ x) (ht : bTgk σ (x / 256)) (hE : ∀ k, 0 ≤ k → k < bi σ 85 (x / 256) → bi σ 86 (6 * (x / 256) + k) = 2 → (bi σ 95 (bNod σ x k) = 0 ↔ F (bNod σ x k) = 0)) (h : f (bFiS σ F (x / 256) (x % 256) (bi σ 85 (x / 256)).toNat 0 0 % 8) (bCau σ x (bFiS σ F (x / 256) (x % 256) (bi σ 85 (x / 256)).toNat 0 0))) : bWp (d + 4) 243 [.ref 12, .int (bn x)] σ (bRn f) := by
  have tc := hT.1.2.1
  have ht1 := ht.1
  have ht2 := ht.2
  have ic := bIc_at hT ht
  obtain ⟨_, d1, d2⟩ := bDir_at hT ht
  refine ⟨rfl, fun A hA => sq243_0 (bWp_mono _) hA ⟨by omega, by omega⟩ ⟨hx, ⟨by omega, by omega⟩, ?_⟩⟩
  have L : ∀ (m : Nat) (i q : Int) (v5 v6 : Value), 0 ≤ i → i + m = bi σ 85 (x / 256) → 0 ≤ q → q ≤ 48 * i → f (bFiS σ F (x / 256) (x % 256) m i q % 8) (bCau σ x (bFiS σ F (x / 256) (x % 256) m i q)) → A (10, [.ref 12, .int (bn x), .int (bn (x / 256)), .int (bn q), .int (bn (6 * (x / 256) + i)), v5, v6], [], σ) := by
    intro m
    induction m with
    | zero =>
      intro i q v5 v6 i0 hi q0 q1 hf
      unfold bFiS at hf
      refine sq243_10 (bWp_mono _) hA ⟨by omega, by omega⟩ ⟨by omega, by omega⟩ ⟨by omega, by omega⟩ ⟨by omega, by omega⟩ ⟨⟨by omega, by omega⟩, ⟨by omega, by omega⟩, ⟨by omega, by omega⟩, fun w => absurd w (by omega), fun _ => ⟨fun w => ?_, fun w => ?_⟩⟩
      · rw [if_pos w] at hf
        exact bRn_i (by decide) hf
      · rw [if_neg w] at hf
        exact bRn_i (by decide) hf
    | succ m ih =>
      intro i q v5 v6 i0 hi q0 q1 hf
      have hi2 : i < bi σ 85 (x / 256) := by omega
      rw [bFiS_s] at hf
      obtain ⟨hD, it⟩ := bItm_at hT ht i0 hi2
      refine sq243_10 (bWp_mono _) hA ⟨by omega, by omega⟩ ⟨by omega, by omega⟩ ⟨by omega, by omega⟩ ⟨by omega, by omega⟩ ⟨⟨by omega, by omega⟩, ⟨by omega, by omega⟩, ⟨by omega, by omega⟩, fun _ => ⟨⟨by omega, by omega⟩, fun w => ?_, fun w => ⟨fun z => absurd z w, fun _ => ?_⟩⟩, fun w => absurd (show 6 * (x / 256) + i < 6 * (x / 256) + bi σ 85 (x / 256) by omega) w⟩
      · have pw : 0 ≤ bi σ 87 (6 * (x / 256) + i) ∧ bi σ 87 (6 * (x / 256) + i) < 48 := by
          rcases it with ⟨_, a, b, _⟩ | ⟨a, _⟩ | ⟨a, _⟩
          · exact ⟨a, b⟩
          · omega
          · omega
        refine ⟨pw.1, w206 hF (by omega) (by omega) ⟨fun z => ⟨fun _ => ⟨pw, fun z2 => ?_, fun z2 => ?_⟩, fun z3 => absurd w z3⟩, fun z => ?_⟩⟩
        · have e : bIf σ F (x / 256) (x % 256) i = 5 := by unfold bIf; rw [if_pos w, if_pos z, if_pos z2]
          rw [e, if_neg (by decide)] at hf
          exact bRn_i (by decide) hf
        · have e : bIf σ F (x / 256) (x % 256) i = 0 := by unfold bIf; rw [if_pos w, if_pos z, if_neg z2]
          rw [e, if_pos rfl, if_pos (Or.inl w)] at hf
          refine sq243_55 (bWp_mono _) hA ⟨by omega, by omega⟩ ⟨by omega, by omega⟩ ⟨by omega, by omega⟩ ⟨by omega, by omega⟩ (bi_rg _ _ _) ⟨⟨by omega, by omega⟩, fun z3 => absurd z3 (by omega), fun _ => ⟨fun z3 => absurd z3 (by omega), fun _ => ⟨⟨by omega, by omega⟩, ⟨by omega, by omega⟩, ?_⟩⟩⟩
          rw [show 6 * (x / 256) + i + 1 = 6 * (x / 256) + (i + 1) by omega]
          exact ih (i + 1) (q + 1) _ _ (by omega) (by omega) (by omega) (by omega) hf
        · have e : bIf σ F (x / 256) (x % 256) i = 4 := by unfold bIf; rw [if_pos w, if_neg z]
          rw [e, if_neg (by decide)] at hf
          exact bRn_i (by decide) hf
      · by_cases k2 : bi σ 86 (6 * (x / 256) + i) = 2
        · obtain ⟨⟨y1, y2, y3⟩, _⟩ := bNd_at hT ht i0 hi2 k2
          have y32 := y3.2
          have he := hE i i0 hi2 k2
          have nd : bi σ 87 (6 * (x / 256) + i) * 256 + bBw σ (x / 256) (x % 256) = bNod σ x i := rfl
          refine sq243_55 (bWp_mono _) hA ⟨by omega, by omega⟩ ⟨by omega, by omega⟩ ⟨by omega, by omega⟩ ⟨by omega, by omega⟩ (bi_rg _ _ _) ⟨⟨by omega, by omega⟩, fun _ => w240 hT hx ht i0 hi2 k2 ⟨⟨y1, by omega⟩, fun z => ⟨fun z3 => absurd z3 (by omega), fun _ => ⟨⟨by omega, by omega⟩, ⟨by omega, by omega⟩, ?_⟩⟩, fun z => w240 hT hx ht i0 hi2 k2 ⟨⟨by omega, by omega⟩, ?_⟩⟩, fun z3 => absurd k2 z3⟩
          · have e : bIf σ F (x / 256) (x % 256) i = 0 := by unfold bIf; rw [if_neg w, if_pos k2, nd, if_pos (he.1 z)]
            rw [e, if_pos rfl, if_pos (Or.inr k2)] at hf
            rw [show 6 * (x / 256) + i + 1 = 6 * (x / 256) + (i + 1) by omega]
            exact ih (i + 1) (q + 1) _ _ (by omega) (by omega) (by omega) (by omega) hf
          · have e : bIf σ F (x / 256) (x % 256) i = 6 + bNod σ x i * 8 := by unfold bIf; rw [if_neg w, if_pos k2, nd, if_neg (fun z2 => z (he.2 z2))]
            rw [e, if_neg (by omega)] at hf
            unfold bCau at hf
            rw [show (6 + bNod σ x i * 8) % 8 = 6 by omega, if_pos rfl, show (6 + bNod σ x i * 8) / 8 = bNod σ x i by omega] at hf
            exact bRn_i (by decide) hf
        · have w1 : bi σ 86 (6 * (x / 256) + i) = 1 := by
            rcases it with ⟨a, _⟩ | ⟨a, _⟩ | ⟨a, _⟩
            · exact absurd a w
            · exact a
            · exact absurd a k2
          have pw : 0 ≤ bi σ 87 (6 * (x / 256) + i) ∧ bi σ 87 (6 * (x / 256) + i) < 256 := by
            rcases it with ⟨a, _⟩ | ⟨_, a, b, _⟩ | ⟨a, _⟩
            · exact absurd a w
            · exact ⟨a, b⟩
            · exact absurd a k2
          have e : bIf σ F (x / 256) (x % 256) i = 0 := by unfold bIf; rw [if_neg w, if_neg k2]
          rw [e, if_pos rfl, if_neg (fun z => z.elim w k2)] at hf
          refine sq243_55 (bWp_mono _) hA ⟨by omega, by omega⟩ ⟨by omega, by omega⟩ ⟨by omega, by omega⟩ ⟨by omega, by omega⟩ (bi_rg _ _ _) ⟨⟨by omega, by omega⟩, fun z3 => absurd z3 k2, fun _ => ⟨fun _ => ?_, fun z3 => absurd w1 z3⟩⟩
          have cb := fun n => bCn_b (P := bFd σ (bi σ 75 (x / 256)) (bi σ 87 (6 * (x / 256) + i)) (bi σ 88 (6 * (x / 256) + i))) n
          have K : ∀ (k n : Nat), n + k = 48 → A (87, [.ref 12, .int (bn x), .int (bn (x / 256)), .int (bn (q + bCnp (bFd σ (bi σ 75 (x / 256)) (bi σ 87 (6 * (x / 256) + i)) (bi σ 88 (6 * (x / 256) + i))) n)), .int (bn (6 * (x / 256) + i)), .int (bn (bi σ 87 (6 * (x / 256) + i))), .int (bn n)], [], σ) := by
            intro k
            induction k with
            | zero =>
              intro n hn
              have e48 : n = 48 := by omega
              subst e48
              have := cb 48
              refine sq243_87 (bWp_mono _) hA ⟨by omega, by omega⟩ ⟨by omega, by omega⟩ ⟨by omega, by omega⟩ ⟨by omega, by omega⟩ (bi_rg _ _ _) (by decide) ⟨fun z => absurd z (by decide), fun _ => ⟨⟨by omega, by omega⟩, ?_⟩⟩
              rw [show 6 * (x / 256) + i + 1 = 6 * (x / 256) + (i + 1) by omega]
              exact ih (i + 1) _ _ _ (by omega) (by omega) (by omega) (by omega) hf
            | succ k ihk =>
              intro n hn
              have := cb n
              refine sq243_87 (bWp_mono _) hA ⟨by omega, by omega⟩ ⟨by omega, by omega⟩ ⟨by omega, by omega⟩ ⟨by omega, by omega⟩ (bi_rg _ _ _) ⟨by omega, by omega⟩ ⟨fun _ => ⟨⟨by omega, by omega⟩, ⟨by omega, by omega⟩, w208 hF (by omega) (by omega) (bi_rg _ _ _) (bi_rg _ _ _) (bi_rg _ _ _) ?_⟩, fun z => absurd (show (n : Int) < 48 by omega) z⟩
              have nx := ihk (n + 1) (by omega)
              rw [show ((n + 1 : Nat) : Int) = (n : Int) + 1 by omega] at nx
              unfold bCnp at nx
              cases hP : bFd σ (bi σ 75 (x / 256)) (bi σ 87 (6 * (x / 256) + i)) (bi σ 88 (6 * (x / 256) + i)) n with
              | true =>
                rw [hP, if_pos rfl] at nx
                refine ⟨fun z => absurd z (by decide), fun _ => ⟨⟨by omega, by omega⟩, ⟨by omega, by omega⟩, ?_⟩⟩
                rw [Int.add_assoc, Int.add_comm (bCnp _ n) 1]
                exact nx
              | false =>
                rw [hP, if_neg (by decide), Int.zero_add] at nx
                refine ⟨fun _ => ⟨⟨by omega, by omega⟩, ⟨by omega, by omega⟩, ?_⟩, fun z => absurd rfl z⟩
                rw [Int.add_zero]
                exact nx
          have := K 48 0 (by decide)
          unfold bCnp at this
          rw [Int.add_zero] at this
          exact this
  have := L (bi σ 85 (x / 256)).toNat 0 0 (.float 0) (.float 0) (by decide) (by omega) (by decide) (by decide) h
  rw [Int.add_zero] at this
  exact this
end

/-! THE PLAN: what a configured target is, as a function of what is kept; the class's small methods -/
/-- how many paths there are of which P holds -/
def bCnp (P : Int → Bool) : Nat → Int
  | 0 => 0
  | n + 1 => (if P n then 1 else 0) + bCnp P n
theorem bCn_b {P : Int → Bool} : ∀ n : Nat, 0 ≤ bCnp P n ∧ bCnp P n ≤ n
  | 0 => ⟨Int.le_refl _, Int.le_refl _⟩
  | n + 1 => by
    have := bCn_b (P := P) n
    unfold bCnp
    split <;> omega
theorem bNt_1 : ∀ n : Fin 64, bNt (Int64.ofNat 1 <<< (bL n.val &&& 63)) = 2 ^ n.val := by decide +kernel
theorem bCn_pop {P : Int → Bool} : ∀ n : Nat, n ≤ 63 → bNt (bMk P n) < 2 ^ n ∧ (bPop 64 (bNt (bMk P n)) : Int) = bCnp P n
  | 0, _ => ⟨by show bNt (Int64.ofNat 0) < 2 ^ 0; decide, by show (bPop 64 (bNt (Int64.ofNat 0)) : Int) = 0; decide⟩
  | n + 1, h => by
    obtain ⟨i1, i2⟩ := bCn_pop (P := P) n (by omega)
    have p2 : (2 : Nat) ^ (n + 1) = 2 * 2 ^ n := by rw [Nat.pow_succ]; omega
    unfold bMk bCnp
    cases hP : P n with
    | false =>
      refine ⟨by show bNt (bMk P n) < _; omega, ?_⟩
      show (bPop 64 (bNt (bMk P n)) : Int) = (if false = true then 1 else 0) + bCnp P n
      rw [if_neg (by decide), i2]
      omega
    | true =>
      have e : bNt (bMk P n ||| (Int64.ofNat 1 <<< (bL n &&& 63))) = bNt (bMk P n) + 2 ^ n := by
        rw [bNt_or, bNt_1 ⟨n, by omega⟩, Nat.or_comm]
        have := Nat.two_pow_add_eq_or_of_lt i1 1
        rw [Nat.mul_one] at this
        rw [← this]
        exact Nat.add_comm _ _
      refine ⟨by show bNt (bMk P n ||| (Int64.ofNat 1 <<< (bL n &&& 63))) < _; rw [e]; omega, ?_⟩
      show (bPop 64 (bNt (bMk P n ||| (Int64.ofNat 1 <<< (bL n &&& 63)))) : Int) = (if true = true then 1 else 0) + bCnp P n
      rw [e, bPop_p 64 _ (by omega) i1, if_pos rfl, ← i2]
      omega
/-- the number of target t in configuration c; -1: its rule has none -/
def bNuS (σ : bSt) (t c : Int) : Nat → Int → Int
  | 0, _ => if bi σ 78 t = -1 then bi σ 77 t else bi σ (bTi t) 4
  | m + 1, k => if bVi c (bi σ 84 (12 * t + 3 * k)) = bi σ 84 (12 * t + (3 * k + 1)) then bi σ 84 (12 * t + (3 * k + 2)) else bNuS σ t c m (k + 1)
def bNu (σ : bSt) (t c : Int) : Int := bNuS σ t c (bi σ 83 t).toNat 0
/-- the version of its toolchain; -1: none fits -/
def bVeS (σ : bSt) (y c : Int) : Nat → Int → Int
  | 0, _ => -1
  | m + 1, k => if (bi σ 72 k = -1 ∨ bVi c (bi σ 72 k) = bi σ 73 k) ∧ bi σ 71 k = y then bi σ 74 k else bVeS σ y c m (k + 1)
def bVe (σ : bSt) (t c : Int) : Int := if bi σ 80 t = -1 then 0 else bVeS σ (bi σ 80 t) c (bi σ 12 17).toNat 0
/-- the configuration of targets among its items -/
def bBw (σ : bSt) (t c : Int) : Int := if bi σ 81 t = -1 then c else bChg c (bi σ 81 t) (bi σ 82 t)
/-- an error of its items, from item i on, with q inputs so far; Fb: errors of those below -/
def bFiS (σ : bSt) (Fb : Int → Int) (t c : Int) : Nat → Int → Int → Int
  | 0, _, q => if 40 < q then 7 else 0
  | m + 1, i, q => if bi σ 86 (6 * t + i) = 0 then (if bOwn σ (bi σ 87 (6 * t + i) / 8) = bi σ 75 t then (if bi σ 56 (bi σ 87 (6 * t + i)) = -1 then 5 else bFiS σ Fb t c m (i + 1) (q + 1)) else 4)
      else if bi σ 86 (6 * t + i) = 2 then (if Fb (bi σ 87 (6 * t + i) * 256 + bBw σ t c) = 0 then bFiS σ Fb t c m (i + 1) (q + 1) else 6 + (bi σ 87 (6 * t + i) * 256 + bBw σ t c) * 8)
      else bFiS σ Fb t c m (i + 1) (q + bCnp (bFd σ (bi σ 75 t) (bi σ 87 (6 * t + i)) (bi σ 88 (6 * t + i))) 48)
/-- the error of a configured target, with the errors of those below -/
def bF1 (σ : bSt) (Fb : Int → Int) (x : Int) : Int := if bi σ 57 (bi σ 75 (x / 256)) = 0 then 1 else if bNu σ (x / 256) (x % 256) = -1 then 2 else if bVe σ (x / 256) (x % 256) = -1 then 3 else bFiS σ Fb (x / 256) (x % 256) (bi σ 85 (x / 256)).toNat 0 0
def bFau (σ : bSt) : Nat → Int → Int
  | 0, _ => 0
  | n + 1, x => bF1 σ (bFau σ n) x
def bFx (σ : bSt) (x : Int) : Int := bFau σ (x / 256 + 1).toNat x
theorem bBw_a : ∀ c : Fin 256, bOr (bAnd (c.val : Int) 255) 0 = c.val := by decide +kernel
theorem bBw_b : ∀ s v : Fin 4, ∀ c : Fin 256, bOr (bAnd (c.val : Int) (bChg 255 s.val 0)) (bChg 0 s.val v.val) = bChg c.val s.val v.val := by decide +kernel
section
variable {d : Nat} {σ : bSt} {f : Int → bSt → Prop} {fv : bSt → Prop} {fj : Int64 → bSt → Prop} {t x y z v k c i : Int}
theorem bBw_rg (hT : bTg σ) (ht : bTgk σ t) (hc : 0 ≤ c ∧ c < 256) : 0 ≤ bBw σ t c ∧ bBw σ t c < 256 := by
  have h := (hT.2.2.2 t ht.1 ht.2).2.2.2.2.2.1
  unfold bBw
  by_cases w : bi σ 81 t = -1
  · rw [if_pos w]; exact hc
  · rw [if_neg w]
    rcases h with ⟨h, _⟩ | ⟨h0, h1, h2, h3, _⟩
    · exact absurd h w
    · exact bChg_rg hc.1 hc.2 h2 h3
theorem w69 (h0 : 0 ≤ t ∧ t < 16) (hc : 0 ≤ bi σ 10 0 ∧ bi σ 10 0 < 256) (h : f (t * 256 + bi σ 10 0) σ) : bWp (d + 1) 69 [.ref 6, .int (bn t)] σ (bRn f) :=
  ⟨rfl, fun _ hA => sq69_0 (bWp_mono _) hA ⟨by omega, by omega⟩ ⟨⟨by omega, by omega⟩, ⟨by omega, by omega⟩, bRn_i ⟨by omega, by omega⟩ h⟩⟩
theorem w70 (hm : bRg (bi σ 6 10 + 1)) (h : fv (bw (bw σ 6 10 (bi σ 6 10 + 1)) 6 11 0)) : bWp (d + 1) 70 [.ref 6] σ (bRv fv) :=
  ⟨rfl, fun _ hA => sq70_0 (bWp_mono _) hA ⟨hm, h⟩⟩
theorem w117 (hT : bTg σ) (ht : bTgk σ t) (hc : 0 ≤ c ∧ c < 256) (h : f (bBw σ t c) σ) : bWp (d + 1) 117 [.ref (bTi t), .int (bn c)] σ (bRn f) := by
  have e : bOr (bAnd c (bi σ (bTi t) 6)) (bi σ (bTi t) 7) = bBw σ t c := by
    unfold bBw
    rcases (hT.2.2.2 t ht.1 ht.2).2.2.2.2.2.1 with ⟨h1, h2, h3⟩ | ⟨h0, h1, h2, h3, h4, h5⟩
    · rw [h2, h3, if_pos h1]
      obtain ⟨n, rfl⟩ := bFinN (n := 256) hc.1 hc.2
      exact bBw_a n
    · rw [h4, h5, if_neg (by omega)]
      generalize bi σ 81 t = s at *
      generalize bi σ 82 t = v at *
      obtain ⟨n, rfl⟩ := bFinN (n := 256) hc.1 hc.2
      obtain ⟨s, rfl⟩ := bFinN (n := 4) h0 h1
      obtain ⟨v, rfl⟩ := bFinN (n := 4) h2 h3
      exact bBw_b s v n
  have r := bBw_rg hT ht hc
  exact ⟨rfl, fun _ hA => sq117_0 (bWp_mono _) hA bTi_m ⟨by omega, by omega⟩ (by rw [e]; exact bRn_i ⟨by omega, by omega⟩ h)⟩
theorem w73 (hT : bTg σ) (ht : bTgk σ t) (hx : 0 ≤ x ∧ x < 4096) (h0 : 0 ≤ i) (h1 : i < bi σ 85 t) (h : f (if bi σ 86 (6 * t + i) = 2 then bi σ 87 (6 * t + i) * 256 + bBw σ t (x % 256) else -1) σ) : bWp (d + 2) 73 [.ref 6, .ref (bTi t), .int (bn x), .int (bn (bi σ (bTi t + 38) i))] σ (bRn f) := by
  have it := (hT.2.2.2 t ht.1 ht.2).2.2.2.2.2.2.2.2.2.2.2.2.2.2 i h0 h1
  have tc := hT.1.2.1
  unfold bTgk at ht
  have e255 : bAnd x 255 = x % 256 := bAnd_255 hx.1 (by omega)
  refine ⟨rfl, fun _ hA => sq73_0 (bWp_mono _) hA bTi_m ⟨by omega, by omega⟩ (bi_rg _ _ _) ?_⟩
  rw [e255]
  obtain ⟨hD, it⟩ := it
  rcases it with ⟨hK, w0, w1, e⟩ | ⟨hK, w0, w1, e⟩ | ⟨hK, w0, w1, e⟩ <;> rw [hK] at h <;> rw [e]
  · rw [if_neg (by decide)] at h
    exact ⟨⟨by omega, by omega⟩, fun _ => bRn_i (by decide) h, fun w => absurd w (by omega)⟩
  · rw [if_neg (by decide)] at h
    exact ⟨⟨by omega, by omega⟩, fun _ => bRn_i (by decide) h, fun _ => ⟨fun w => absurd w (by omega), fun _ => bRn_i (by decide) h⟩⟩
  · rw [if_pos rfl] at h
    have r := bBw_rg hT ht (c := x % 256) ⟨by omega, by omega⟩
    rw [show (100 + bi σ 87 (6 * t + i) - 100) = bi σ 87 (6 * t + i) by omega]
    exact ⟨⟨by omega, by omega⟩, fun w => absurd w (by omega), fun _ => ⟨fun _ => ⟨⟨by omega, by omega⟩, w117 hT ht ⟨by omega, by omega⟩ ⟨⟨by omega, by omega⟩, bRn_i ⟨by omega, by omega⟩ h⟩⟩, fun w => absurd (show bi σ 87 (6 * t + i) < 16 by omega) w⟩⟩
theorem bCnd_at (hT : bTg σ) (ht : bTgk σ t) (k0 : 0 ≤ k) (k1 : k < bi σ 83 t) : bi σ (bTi t + 39) k = (bi σ 84 (12 * t + 3 * k) * 4 + bi σ 84 (12 * t + (3 * k + 1))) * 1000 + bi σ 84 (12 * t + (3 * k + 2)) ∧ (0 ≤ bi σ 84 (12 * t + 3 * k) ∧ bi σ 84 (12 * t + 3 * k) < 4) ∧ (0 ≤ bi σ 84 (12 * t + (3 * k + 1)) ∧ bi σ 84 (12 * t + (3 * k + 1)) < 4) ∧ 0 ≤ bi σ 84 (12 * t + (3 * k + 2)) ∧ bi σ 84 (12 * t + (3 * k + 2)) < 1000 :=
  (hT.2.2.2 t ht.1 ht.2).2.2.2.2.2.2.2.2.2.2.2.2.2.1 k k0 k1
theorem bNuS_rg (hT : bTg σ) (ht : bTgk σ t) (h4 : -1 ≤ bi σ (bTi t) 4 ∧ bi σ (bTi t) 4 < 1000) : ∀ (m : Nat) (k : Int), 0 ≤ k → k + m = bi σ 83 t → -1 ≤ bNuS σ t c m k ∧ bNuS σ t c m k < 1000
  | 0, k, _, _ => by
    unfold bNuS
    by_cases w : bi σ 78 t = -1
    · rw [if_pos w]
      have := (hT.2.2.2 t ht.1 ht.2).2.2.1.2
      omega
    · rw [if_neg w]; exact h4
  | m + 1, k, k0, hk => by
    unfold bNuS
    have := (bCnd_at hT ht k0 (by omega)).2.2.2
    by_cases w : bVi c (bi σ 84 (12 * t + 3 * k)) = bi σ 84 (12 * t + (3 * k + 1))
    · rw [if_pos w]; omega
    · rw [if_neg w]; exact bNuS_rg hT ht h4 m (k + 1) (by omega) (by omega)
theorem w116 (hT : bTg σ) (ht : bTgk σ t) (hc : 0 ≤ c ∧ c < 256) (h4 : -1 ≤ bi σ (bTi t) 4 ∧ bi σ (bTi t) 4 < 1000) (h : f (bNu σ t c) σ) : bWp (d + 2) 116 [.ref (bTi t), .int (bn c)] σ (bRn f) := by
  refine ⟨rfl, fun A hA => sq116_0 (bWp_mono _) hA bTi_m ⟨by omega, by omega⟩ ?_⟩
  have G := hT.2.2.2 t ht.1 ht.2
  have n14 := G.2.2.2.2.2.2.2.2.2.2.2.1
  have L : ∀ (m : Nat) (k : Int) (v3 v4 : Value), 0 ≤ k → k + m = bi σ 83 t → f (bNuS σ t c m k) σ → A (2, [.ref (bTi t), .int (bn c), .int (bn k), v3, v4], [], σ) := by
    intro m
    induction m with
    | zero =>
      intro k v3 v4 k0 hk hf
      unfold bNuS at hf
      refine sq116_2 (bWp_mono _) hA ⟨by omega, by omega⟩ ⟨by omega, by omega⟩ ⟨bTi_m, fun w => absurd w (by rw [n14.1]; omega), fun _ => ?_⟩
      have e3 : bi σ (bTi t) 3 = -1 ↔ bi σ 78 t = -1 := by
        rcases G.2.2.2.1 with ⟨a, b⟩ | ⟨a, a2, b, b2, e⟩
        · exact ⟨fun _ => a, fun _ => b⟩
        · rw [e]; omega
      refine ⟨fun w => bRn_i (bi_rg _ _ _) ?_, fun w => bRn_i (bi_rg _ _ _) ?_⟩
      · rw [if_pos (e3.1 w)] at hf
        rw [G.2.2.1.1]; exact hf
      · rwa [if_neg (fun z => w (e3.2 z))] at hf
    | succ m ih =>
      intro k v3 v4 k0 hk hf
      unfold bNuS at hf
      obtain ⟨ec, s0, v0, z0, z1⟩ := bCnd_at hT ht k0 (by omega)
      refine sq116_2 (bWp_mono _) hA ⟨by omega, by omega⟩ ⟨by omega, by omega⟩ ⟨bTi_m, fun _ => ?_, fun w => absurd (by rw [n14.1]; omega) w⟩
      rw [bTi_47]
      refine w140i (n := 4) bTi_t.2.1 (bTi_l _).2.1 (by decide) k0 (by omega) ?_
      rw [ec]
      generalize bi σ 84 (12 * t + 3 * k) = S at *
      generalize bi σ 84 (12 * t + (3 * k + 1)) = V at *
      generalize bi σ 84 (12 * t + (3 * k + 2)) = Z at *
      have e1 : ((S * 4 + V) * 1000 + Z) / 1000 / 4 = S := by omega
      have e2 : ((S * 4 + V) * 1000 + Z) / 1000 % 4 = V := by omega
      have e3 : ((S * 4 + V) * 1000 + Z) % 1000 = Z := by omega
      refine ⟨by omega, ?_⟩
      rw [e1, e2, e3]
      exact w129 hc.1 hc.2 s0.1 s0.2 ⟨fun w => bRn_i ⟨by omega, by omega⟩ (by rwa [if_pos w] at hf), fun w => ⟨⟨by omega, by omega⟩, ih (k + 1) _ _ (by omega) (by omega) (by rwa [if_neg w] at hf)⟩⟩
  exact L (bi σ 83 t).toNat 0 _ _ (by decide) (by omega) h
theorem bVeS_rg (hL : bTl σ) {m : Nat} : ∀ (k : Int), 0 ≤ k → k + m = bi σ 12 17 → -1 ≤ bVeS σ y c m k ∧ bVeS σ y c m k < 100 := by
  induction m with
  | zero => intro k _ _; unfold bVeS; decide
  | succ m ih =>
    intro k k0 hk
    unfold bVeS
    have g := (hL.2.1 k k0 (by omega)).2.2.2
    by_cases w : (bi σ 72 k = -1 ∨ bVi c (bi σ 72 k) = bi σ 73 k) ∧ bi σ 71 k = y
    · rw [if_pos w]; omega
    · rw [if_neg w]; exact ih (k + 1) (by omega) (by omega)
theorem w134 (hL : bTl σ) (hc : 0 ≤ c ∧ c < 256) (hy : bRg y) (h : f (bVeS σ y c (bi σ 12 17).toNat 0) σ) : bWp (d + 2) 134 [.ref 10, .int (bn y), .int (bn c)] σ (bRn f) := by
  refine ⟨rfl, fun A hA => sq134_0 (bWp_mono _) hA hy ⟨by omega, by omega⟩ ?_⟩
  have hc8 := hL.1
  have L : ∀ (m : Nat) (k : Int) (v4 v5 : Value), 0 ≤ k → k + m = bi σ 12 17 → f (bVeS σ y c m k) σ → A (2, [.ref 10, .int (bn y), .int (bn c), .int (bn k), v4, v5], [], σ) := by
    intro m
    induction m with
    | zero =>
      intro k v4 v5 k0 hk hf
      exact sq134_2 (bWp_mono _) hA hy ⟨by omega, by omega⟩ ⟨by omega, by omega⟩ ⟨fun w => absurd w (by rw [hc8.2.2]; omega), fun _ => bRn_i (by decide) hf⟩
    | succ m ih =>
      intro k v4 v5 k0 hk hf
      unfold bVeS at hf
      obtain ⟨⟨a1, a2, a3⟩, ⟨b1, b2, b3⟩, ⟨c1, c2, c3⟩, ⟨d1, d2, d3⟩⟩ := hL.2.1 k k0 (by omega)
      refine sq134_2 (bWp_mono _) hA hy ⟨by omega, by omega⟩ ⟨by omega, by omega⟩ ⟨fun _ => ?_, fun w => absurd (by rw [hc8.2.2]; omega) w⟩
      have nx : ∀ v4 v5 : Value, ¬ ((bi σ 72 k = -1 ∨ bVi c (bi σ 72 k) = bi σ 73 k) ∧ bi σ 71 k = y) → bRg (k + 1) ∧ A (2, [.ref 10, .int (bn y), .int (bn c), .int (bn (k + 1)), v4, v5], [], σ) := fun v4 v5 w => ⟨⟨by omega, by omega⟩, ih (k + 1) v4 v5 (by omega) (by omega) (by rwa [if_neg w] at hf)⟩
      refine w140i (n := 8) rfl rfl (by decide) k0 (by omega) ?_
      rw [b1]
      refine ⟨fun w => w140i (n := 8) rfl rfl (by decide) k0 (by omega) ?_, fun w => w129 hc.1 hc.2 (by omega) b3 (w140i (n := 8) rfl rfl (by decide) k0 (by omega) ?_)⟩
      · rw [a1]
        exact ⟨fun q => w140i (n := 8) rfl rfl (by decide) k0 (by omega) (bRn_i (bi_rg _ _ _) (by rw [if_pos ⟨Or.inl w, q⟩] at hf; rw [d1]; exact hf)), fun q => nx _ _ fun z => q z.2⟩
      · rw [c1]
        refine ⟨fun q => w140i (n := 8) rfl rfl (by decide) k0 (by omega) ?_, fun q => nx _ _ fun z => z.1.elim w q⟩
        rw [a1]
        exact ⟨fun q2 => w140i (n := 8) rfl rfl (by decide) k0 (by omega) (bRn_i (bi_rg _ _ _) (by rw [if_pos ⟨Or.inr q, q2⟩] at hf; rw [d1]; exact hf)), fun q2 => nx _ _ fun z => q2 z.2⟩
  exact L (bi σ 12 17).toNat 0 _ _ (by decide) (by omega) h
theorem bVe_rg (hL : bTl σ) : -1 ≤ bVe σ t c ∧ bVe σ t c < 100 := by
  unfold bVe
  have := hL.1
  by_cases w : bi σ 80 t = -1
  · rw [if_pos w]; decide
  · rw [if_neg w]; exact bVeS_rg hL 0 (by decide) (by omega)
theorem w75 (hL : bTl σ) (hT : bTg σ) (ht : bTgk σ t) (hx : 0 ≤ x ∧ x < 4096) (h : f (bVe σ t (x % 256)) σ) : bWp (d + 3) 75 [.ref 6, .ref (bTi t), .int (bn x)] σ (bRn f) := by
  have G := (hT.2.2.2 t ht.1 ht.2).2.2.2.2.1
  have r := bVe_rg hL (t := t) (c := x % 256)
  unfold bVe at h r
  refine ⟨rfl, fun _ hA => sq75_0 (bWp_mono _) hA bTi_m ⟨by omega, by omega⟩ ?_⟩
  rw [bAnd_255 hx.1 (by omega), G.1]
  refine ⟨fun w => bRn_i (by decide) (by rwa [if_pos w] at h), fun w => ?_⟩
  rw [if_neg w] at h r
  exact w134 hL ⟨by omega, by omega⟩ (bi_rg _ _ _) (bRn_i ⟨by omega, by omega⟩ h)
end

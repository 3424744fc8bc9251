/-! TESTS: luck and trials -/
/-- a shard tried with luck, n more times: its fate, how many tries, what is drawn last -/
def bLuk (l : Int) (sd : Bool) : Nat → Int → Int × Int × Int
  | 0, d => (2, 0, d)
  | n + 1, d => if bDrw d / 65536 % 10 < l ∨ sd = false then ((bLuk l sd n (bDrw d)).1, (bLuk l sd n (bDrw d)).2.1 + 1, (bLuk l sd n (bDrw d)).2.2) else (if n = 2 then 0 else 1, 1, bDrw d)
def bE11 (σ s : bSt) : Prop := s.2.2 = σ.2.2 ∧ (∀ a, a ≠ 11 → ∀ j, bi s a j = bi σ a j) ∧ ∀ a, a ≠ 11 → ∀ j, bj s a j = bj σ a j
section
variable {d : Nat} {σ s t : bSt} {f : Int → bSt → Prop} {l x y k T D q : Int} {sd : Bool}
theorem bE11_refl : bE11 σ σ := ⟨rfl, fun _ _ _ => rfl, fun _ _ _ => rfl⟩
theorem bE11_trans (h : bE11 σ s) (k : bE11 s t) : bE11 σ t := ⟨k.1.trans h.1, fun a q j => (k.2.1 a q j).trans (h.2.1 a q j), fun a q j => (k.2.2 a q j).trans (h.2.2 a q j)⟩
theorem bE11_w {i v : Int} : bE11 σ (bw σ 11 i v) := ⟨rfl, fun a q j => bi_ne q, fun _ _ _ => rfl⟩
theorem bE11_j {i : Int} {v : Int64} : bE11 σ (bwj σ 11 i v) := ⟨rfl, fun _ _ _ => rfl, fun a q j => bj_ne q⟩
theorem bLuk_rg : ∀ (n : Nat) (D : Int), n ≤ 3 → 0 ≤ D → D < 2147483648 → (0 ≤ (bLuk l sd n D).1 ∧ (bLuk l sd n D).1 ≤ 2) ∧ (0 ≤ (bLuk l sd n D).2.1 ∧ (bLuk l sd n D).2.1 ≤ n) ∧ 0 ≤ (bLuk l sd n D).2.2 ∧ (bLuk l sd n D).2.2 < 2147483648
  | 0, D, _, h0, h1 => ⟨⟨by show (0 : Int) ≤ 2; decide, by show (2 : Int) ≤ 2; decide⟩, ⟨Int.le_refl _, Int.le_refl _⟩, h0, h1⟩
  | n + 1, D, hn, h0, h1 => by
    have r := bDrw_rg (x := D)
    have ih := bLuk_rg n (bDrw D) (by omega) r.1 r.2
    unfold bLuk
    split
    · exact ⟨ih.1, ⟨by show 0 ≤ (bLuk l sd n (bDrw D)).2.1 + 1; omega, by show (bLuk l sd n (bDrw D)).2.1 + 1 ≤ ((n + 1 : Nat) : Int); omega⟩, ih.2.2⟩
    · refine ⟨?_, ⟨by show (0 : Int) ≤ 1; decide, by show (1 : Int) ≤ ((n + 1 : Nat) : Int); omega⟩, r⟩
      show 0 ≤ (if n = 2 then (0 : Int) else 1) ∧ (if n = 2 then (0 : Int) else 1) ≤ 2
      split <;> decide
theorem w188 (hl : bRg l) (hx : x = 0 ∨ x = 1) (hT : bi σ 11 6 = T) (T0 : 0 ≤ T ∧ T ≤ 100) (hD : (bj σ 11 7).toInt = D) (D0 : 0 ≤ D) (D1 : D < 2147483648)
    (h : ∀ s, bE11 σ s → bi s 11 6 = T + (bLuk l (decide (x = 1)) 3 D).2.1 → (bj s 11 7).toInt = (bLuk l (decide (x = 1)) 3 D).2.2 → f (bLuk l (decide (x = 1)) 3 D).1 s) : bWp (d + 1) 188 [.ref 11, .int (bn l), .int (bn x)] σ (bRn f) := by
  have rx : bRg x := by rcases hx with e | e <;> rw [e] <;> decide
  refine ⟨rfl, fun A hA => sq188_0 (bWp_mono _) hA hl rx ?_⟩
  have Lp : ∀ (n : Nat) (k : Int) (s : bSt) (T D : Int), k + n = 3 → 0 ≤ k → 0 ≤ T → T + n ≤ 110 → bE11 σ s → bi s 11 6 = T → (bj s 11 7).toInt = D → 0 ≤ D → D < 2147483648 → (∀ s, bE11 σ s → bi s 11 6 = T + (bLuk l (decide (x = 1)) n D).2.1 → (bj s 11 7).toInt = (bLuk l (decide (x = 1)) n D).2.2 → f (bLuk l (decide (x = 1)) n D).1 s) → A (2, [.ref 11, .int (bn l), .int (bn x), .int (bn k)], [], s) := by
    intro n
    induction n with
    | zero =>
      intro k s T D hk k0 T0 T1 E hT hD D0 D1 K
      refine sq188_2 (bWp_mono _) hA hl rx ⟨by omega, by omega⟩ ⟨fun w => absurd w (by omega), fun _ => bRn_i (by decide) (K s E ?_ hD)⟩
      show bi s 11 6 = T + 0
      rw [hT, Int.add_zero]
    | succ n ih =>
      intro k s T D hk k0 T0 T1 E hT hD D0 D1 K
      refine sq188_2 (bWp_mono _) hA hl rx ⟨by omega, by omega⟩ ⟨fun _ => ⟨by rw [hT]; exact ⟨by omega, by omega⟩, ?_⟩, fun w => absurd (show k < 3 by omega) w⟩
      have e1 : bj (bw s 11 6 (bi s 11 6 + 1)) 11 7 = bj s 11 7 := rfl
      rw [e1]
      have hV := bDrw_c hD D0 D1
      generalize (bj s 11 7 * Int64.ofNat 1103515245 + Int64.ofNat 12345 - (bj s 11 7 * Int64.ofNat 1103515245 + Int64.ofNat 12345) / Int64.ofNat 2147483648 * Int64.ofNat 2147483648) = V at *
      rw [bj_eq, hT]
      have r := bDrw_rg (x := D)
      have E2 : bE11 σ (bwj (bw s 11 6 (T + 1)) 11 7 V) := bE11_trans E (bE11_trans bE11_w bE11_j)
      have a6 : bi (bwj (bw s 11 6 (T + 1)) 11 7 V) 11 6 = T + 1 := by rw [bi_bwj, bi_eq ⟨by omega, by omega⟩]
      have a7 : (bj (bwj (bw s 11 6 (T + 1)) 11 7 V) 11 7).toInt = bDrw D := by rw [bj_eq]; exact hV
      generalize bwj (bw s 11 6 (T + 1)) 11 7 V = s2 at *
      have lt := bDrw_l hV r.1 r.2 hl
      unfold bLuk at K
      have on : bDrw D / 65536 % 10 < l ∨ decide (x = 1) = false → bRg (k + 1) ∧ A (2, [.ref 11, .int (bn l), .int (bn x), .int (bn (k + 1))], [], s2) := fun w => by
        rw [if_pos w] at K
        exact ⟨⟨by omega, by omega⟩, ih (k + 1) s2 (T + 1) (bDrw D) (by omega) (by omega) (by omega) (by omega) E2 a6 a7 r.1 r.2 (fun s3 E3 b6 b7 => K s3 E3 (by rw [b6]; show _ = T + (_ + 1); omega) b7)⟩
      refine ⟨fun w => on (Or.inl (lt.1 w)), fun w => ⟨fun z => on (Or.inr (decide_eq_false (by omega))), fun z => ?_⟩⟩
      have x1 : x = 1 := hx.resolve_left z
      rw [if_neg (fun y => y.elim (fun q => w (lt.2 q)) (fun q => by rw [decide_eq_true x1] at q; exact absurd q (by decide)))] at K
      have K2 := K s2 E2 (by rw [a6]) a7
      refine ⟨fun q => bRn_i (by decide) ?_, fun q => bRn_i (by decide) ?_⟩
      · rw [if_pos (by omega)] at K2; exact K2
      · rw [if_neg (by omega)] at K2; exact K2
  exact Lp 3 0 σ T D (by decide) (by decide) T0.1 (by omega) bE11_refl hT hD D0 D1 h
end
section
variable {d : Nat} {σ s t : bSt} {f : Int → bSt → Prop} {l x y k T D q z : Int} {sd : Bool}
theorem bTbit_m (h : ∀ j, bj s (bTi k + 41) j = bj σ (bTi k + 41) j) : bTbit s k q = bTbit σ k q := by unfold bTbit; rw [h]
theorem w118 (q0 : 0 ≤ q) (q1 : q < 4000) (h : ∀ s, s.2.2 = σ.2.2 → s.1 = σ.1 → (∀ a, a ≠ bTi k + 41 → ∀ j, bj s a j = bj σ a j) → (∀ p, 0 ≤ p → p < 4000 → bTbit s k p = (bTbit σ k p || decide (p = q))) → f (if bTbit σ k q then 0 else 1) s) : bWp (d + 1) 118 [.ref (bTi k), .int (bn q)] σ (bRn f) := by
  have m := bTi_m (t := k)
  have e41 : 256 * (1 * (bTi k / 256) + 0) + 49 = bTi k + 41 := by omega
  have l : bLen σ (bTi k + 41) = 63 := bLen_of (k := 49) (by omega) (by decide) rfl
  have ty : bTy (bTi k + 41) = 2 := bTy_of (k := 49) (by omega) rfl
  have sh : bShr q 6 = q / 64 := bShr_6 q0 (by omega)
  have sm := b64_s q0 (by omega)
  refine ⟨rfl, fun A hA => sq118_0 (bWp_mono _) hA m ⟨by omega, by omega⟩ ?_⟩
  rw [e41, l, ty, sh]
  have bit : bTbit σ k q = (bj σ (bTi k + 41) (q / 64)).toBitVec.getLsbD (q % 64).toNat := rfl
  have rd := b1_64 (w := bj σ (bTi k + 41) (q / 64)) (i := bL q) (k := (q % 64).toNat) (by omega) sm
  have Y := h (bwj σ (bTi k + 41) (q / 64) (bj σ (bTi k + 41) (q / 64) ||| (Int64.ofNat 1 <<< (bL q &&& 63)))) rfl rfl (fun a na j => bj_ne na) (fun p p0 p1 => by
    unfold bTbit
    by_cases e : p / 64 = q / 64
    · rw [e, bj_eq, b1_64o (by omega) sm]
      congr 1
      by_cases pe : p = q
      · rw [decide_eq_true pe, decide_eq_true (by rw [pe])]
      · rw [decide_eq_false pe, decide_eq_false (by omega)]
    · rw [decide_eq_false (fun w => e (by rw [w])), Bool.or_false]
      have : bj (bwj σ (bTi k + 41) (q / 64) (bj σ (bTi k + 41) (q / 64) ||| (Int64.ofNat 1 <<< (bL q &&& 63)))) (bTi k + 41) (p / 64) = bj σ (bTi k + 41) (p / 64) := by
        show bU σ.2.1 (bTi k + 41) (q / 64).toNat _ (bTi k + 41) (p / 64).toNat = _
        unfold bU
        rw [if_neg (fun w => e (by omega))]
        rfl
      rw [this])
  refine ⟨fun w => absurd w (by omega), fun _ => ⟨by decide, by decide, fun _ => ⟨rfl, ⟨by omega, by omega⟩, fun z => ⟨⟨by omega, by omega⟩, ⟨by omega, by omega⟩, by omega, bRn_i (by decide) ?_⟩, fun z => ⟨⟨by omega, by omega⟩, ⟨by omega, by omega⟩, by omega, bRn_i (by decide) ?_⟩⟩, fun w => absurd (show q / 64 < (63 : Nat) by omega) w⟩⟩
  · rw [bit, rd.1 z] at Y
    exact Y
  · rw [bit] at Y
    cases hb : (bj σ (bTi k + 41) (q / 64)).toBitVec.getLsbD (q % 64).toNat with
    | true => rw [hb] at Y; exact Y
    | false => exact absurd (rd.2 hb) z
theorem w187 (q0 : 0 ≤ q) (q1 : q < 4000) (hx : x = 0 ∨ x = 1) (hT : bi σ 11 6 = T) (T0 : 0 ≤ T ∧ T ≤ 100) (h : ∀ s, s.2.2 = σ.2.2 → (∀ a, a ≠ 11 → ∀ j, bi s a j = bi σ a j) → (∀ a, a ≠ bTi k + 41 → ∀ j, bj s a j = bj σ a j) → (∀ p, 0 ≤ p → p < 4000 → bTbit s k p = (bTbit σ k p || decide (p = q))) → bi s 11 6 = T + (if bTbit σ k q then 0 else 1) → f (if x = 0 then 2 else 0) s) : bWp (d + 2) 187 [.ref 11, .ref (bTi k), .int (bn q), .int (bn x)] σ (bRn f) := by
  have rx : bRg x := by rcases hx with e | e <;> rw [e] <;> decide
  refine ⟨rfl, fun A hA => sq187_0 (bWp_mono _) hA bTi_m ⟨by omega, by omega⟩ rx (w118 q0 q1 fun s c1 c2 c3 c4 => ?_)⟩
  have ei : ∀ a j, bi s a j = bi σ a j := fun a j => by unfold bi; rw [c2]
  have b6 : bi s 11 6 = T := (ei 11 6).trans hT
  have fin : ∀ s', s'.2.2 = σ.2.2 → (∀ a, a ≠ 11 → ∀ j, bi s' a j = bi σ a j) → (∀ a j, bj s' a j = bj s a j) → bi s' 11 6 = T + (if bTbit σ k q then 0 else 1) → (x = 0 → bRn f (.inl (some (.int (bn 2)))) s') ∧ (¬ x = 0 → bRn f (.inl (some (.int (bn 0)))) s') := fun s' g1 g2 g3 g4 => by
    have K := h s' g1 g2 (fun a na j => (g3 a j).trans (c3 a na j)) (fun p p0 p1 => (bTbit_m (fun j => g3 _ j)).trans (c4 p p0 p1)) g4
    exact ⟨fun z => bRn_i (by decide) (by rwa [if_pos z] at K), fun z => bRn_i (by decide) (by rwa [if_neg z] at K)⟩
  cases hb : bTbit σ k q with
  | true =>
    rw [hb] at fin
    exact ⟨fun _ => fin s c1 (fun a _ j => ei a j) (fun _ _ => rfl) (by rw [b6, if_pos rfl, Int.add_zero]), fun w => absurd rfl w⟩
  | false =>
    rw [hb] at fin
    refine ⟨fun w => absurd w (by decide), fun _ => ⟨by rw [b6]; exact ⟨by omega, by omega⟩, ?_⟩⟩
    rw [b6]
    exact fin (bw s 11 6 (T + 1)) c1 (fun a na j => (bi_ne na).trans (ei a j)) (fun _ _ => rfl) (by rw [bi_eq ⟨by omega, by omega⟩, if_neg (by decide)])
end

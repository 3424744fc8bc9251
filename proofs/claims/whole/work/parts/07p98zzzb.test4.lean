/-! TESTS: the shards, in the reference, as a whole -/
def bKri (t c cnt lk n : Int) (p : Int) : Bool := decide (lk = 0 ∧ 4000 * t + 4 * c ≤ p ∧ p < 4000 * t + 4 * c + n ∧ p - 4000 * t - 4 * c < cnt)
def bGtr (t c D : Int) (n : Nat) (σ s : bSt) : Prop := bRf σ s ∧ bi s 12 111 = (bTrs (bi σ 92 t) (bi σ 93 t) c (fun q => bKbit σ (4000 * t + q)) D n).1 ∧ bi s 12 112 = (bTrs (bi σ 92 t) (bi σ 93 t) c (fun q => bKbit σ (4000 * t + q)) D n).2 ∧
  (∀ k : Nat, k < n → bi s 151 (4 * t + k) = bFat (bi σ 92 t) (bi σ 93 t) c (fun q => bKbit σ (4000 * t + q)) D k) ∧ (∀ j, 0 ≤ j → j < 4 * t ∨ 4 * t + n ≤ j → bi s 151 j = bi σ 151 j) ∧
  ∀ p, 0 ≤ p → bKbit s p = (bKbit σ p || bKri t c (bi σ 92 t) (bi σ 93 t) n p)
section
variable {d lvl : Nat} {σ s r : bSt} {f : Int → bSt → Prop} {t c D cnt lk x y k T q z : Int} {B : Int → Bool} {A : bPt → Prop}
theorem bKri_n {n : Nat} (h : (n : Int) < cnt) (hl : lk = 0) : bKri t c cnt lk ((n + 1 : Nat) : Int) y = (bKri t c cnt lk n y || decide (y = 4000 * t + 4 * c + n)) := by
  unfold bKri
  by_cases e : y = 4000 * t + 4 * c + n
  · rw [decide_eq_true e, Bool.or_true, decide_eq_true ⟨hl, by omega, by omega, by omega⟩]
  · rw [decide_eq_false e, Bool.or_false]
    by_cases w : lk = 0 ∧ 4000 * t + 4 * c ≤ y ∧ y < 4000 * t + 4 * c + n ∧ y - 4000 * t - 4 * c < cnt
    · rw [decide_eq_true w, decide_eq_true ⟨w.1, w.2.1, by omega, w.2.2.2⟩]
    · rw [decide_eq_false w, decide_eq_false (fun v => w ⟨v.1, v.2.1, by omega, v.2.2.2⟩)]
theorem bKri_s {n : Nat} (h : ¬ (n : Int) < cnt ∨ lk ≠ 0) : bKri t c cnt lk ((n + 1 : Nat) : Int) y = bKri t c cnt lk n y := by
  unfold bKri
  by_cases w : lk = 0 ∧ 4000 * t + 4 * c ≤ y ∧ y < 4000 * t + 4 * c + n ∧ y - 4000 * t - 4 * c < cnt
  · rw [decide_eq_true w, decide_eq_true ⟨w.1, w.2.1, by omega, w.2.2.2⟩]
  · rw [decide_eq_false w, decide_eq_false (fun v => by
      rcases h with h | h
      · exact w ⟨v.1, v.2.1, by omega, v.2.2.2⟩
      · exact h v.1)]
theorem n304 {v2 v3 v4 v5 : Value} (hA : bClosed lvl bm304 (bWp (d + 1)) (bRn f) A) (t0 : 0 ≤ t) (t1 : t < 16) (c0 : 0 ≤ c) (c1 : c < 1000) (hT : bi σ 12 111 = 0) (hD : bi σ 12 112 = D) (D0 : 0 ≤ D)
    (h : ∀ s, bGtr t c D 4 σ s → f (bPsd (bi σ 92 t) (bi σ 93 t) c (fun q => bKbit σ (4000 * t + q)) D 4) s) : A (90, [.ref 12, .int (bn t), v2, v3, v4, v5, .int (bn c), .int (bn 0), .int (bn 0)], [], σ) := by
  have D1 : D < 2147483648 := by have := bi_rg σ 12 112; rw [hD] at this; exact this.2
  have rt : bRg t := ⟨by omega, by omega⟩
  have rc : bRg c := ⟨by omega, by omega⟩
  have hB : ∀ q, (fun q => bKbit σ (4000 * t + q)) q = bKbit σ (4000 * t + q) := fun _ => rfl
  unfold bGtr at h
  generalize hcn : bi σ 92 t = cnt at *
  generalize hlk : bi σ 93 t = lk at *
  generalize (fun q => bKbit σ (4000 * t + q)) = B at *
  have Lp : ∀ (j n : Nat) (s : bSt), n + j = 4 → (bRf σ s ∧ bi s 12 111 = (bTrs cnt lk c B D n).1 ∧ bi s 12 112 = (bTrs cnt lk c B D n).2 ∧ (∀ k : Nat, k < n → bi s 151 (4 * t + k) = bFat cnt lk c B D k) ∧ (∀ j, 0 ≤ j → j < 4 * t ∨ 4 * t + n ≤ j → bi s 151 j = bi σ 151 j) ∧ ∀ p, 0 ≤ p → bKbit s p = (bKbit σ p || bKri t c cnt lk n p)) → A (90, [.ref 12, .int (bn t), v2, v3, v4, v5, .int (bn c), .int (bn (bPsd cnt lk c B D n)), .int (bn n)], [], s) := by
    intro j
    induction j with
    | zero =>
      intro n s hn G
      have pr := bPsd_rg (cnt := cnt) (lk := lk) (c := c) (B := B) (D := D) n
      have en : n = 4 := by omega
      subst en
      exact sq304_90 (bWp_mono _) hA rt rc ⟨by omega, by omega⟩ ⟨by omega, by omega⟩ ⟨fun w => absurd w (by decide), fun _ => bRn_i ⟨by omega, by omega⟩ (h s G)⟩
    | succ j ih =>
      intro n s hn G
      have pr := bPsd_rg (cnt := cnt) (lk := lk) (c := c) (B := B) (D := D) n
      have tr := bTrs_rg (cnt := cnt) (lk := lk) (c := c) (B := B) D0 D1 n
      obtain ⟨g1, g2, g3, g4, g5, g6⟩ := G
      have s92 : bi s 92 t = cnt := (g1.2.1 92 (by decide) (by decide) (by decide) t).trans hcn
      have s93 : bi s 93 t = lk := (g1.2.1 93 (by decide) (by decide) (by decide) t).trans hlk
      have nx := ih (n + 1)
      rw [show ((n + 1 : Nat) : Int) = (n : Int) + 1 by omega] at nx
      have ePs : bPsd cnt lk c B D (n + 1) = bPsd cnt lk c B D n + (if bFat cnt lk c B D n = 0 then 1 else 0) := rfl
      have put : ∀ (s2 : bSt) (v : Int), v = bFat cnt lk c B D n → bRg v → bRf s s2 → (∀ j, bi s2 151 j = bi s 151 j) → bi s2 12 111 = (bTrs cnt lk c B D (n + 1)).1 → bi s2 12 112 = (bTrs cnt lk c B D (n + 1)).2 → (∀ p, 0 ≤ p → bKbit s2 p = (bKbit σ p || bKri t c cnt lk ((n + 1 : Nat) : Int) p)) → A (90, [.ref 12, .int (bn t), v2, v3, v4, v5, .int (bn c), .int (bn (bPsd cnt lk c B D (n + 1))), .int (bn ((n : Int) + 1))], [], bw s2 151 (4 * t + n) v) := fun s2 v hv rv k1 k2 k3 k4 k5 => by
        refine nx _ (by omega) ⟨bRf_trans g1 (bRf_trans k1 bRf_3), by rw [bi_ne (by decide)]; exact k3, by rw [bi_ne (by decide)]; exact k4, fun k hk => ?_, fun j j0 hj => ?_, fun p p0 => ?_⟩
        · rw [bi_bw (by omega) (by omega) rv]
          by_cases e : k = n
          · rw [if_pos ⟨rfl, by omega⟩, hv, e]
          · rw [if_neg (fun w => e (by omega)), k2]
            exact g4 k (by omega)
        · rw [bi_nj (by omega) j0 (by omega), k2]
          exact g5 j j0 (by omega)
        · rw [bKbit_m (fun j => bi_ne (by decide)), k5 p p0, show ((n + 1 : Nat) : Int) = (n : Int) + 1 by omega]
      refine sq304_90 (bWp_mono _) hA rt rc ⟨by omega, by omega⟩ ⟨by omega, by omega⟩ ⟨fun _ => ⟨⟨by omega, by omega⟩, ⟨by omega, by omega⟩, ⟨t0, t1⟩, ?_⟩, fun w => absurd (show (n : Int) < 4 by omega) w⟩
      rw [s92]
      refine ⟨fun w => ?_, fun w => ?_⟩
      · have fin : ∀ (s2 : bSt) (v : Int), v = bFat cnt lk c B D n → bRg v → A (90, [.ref 12, .int (bn t), v2, v3, v4, v5, .int (bn c), .int (bn (bPsd cnt lk c B D (n + 1))), .int (bn ((n : Int) + 1))], [], bw s2 151 (4 * t + n) v) → (0 ≤ 4 * t + (n : Int) ∧ 4 * t + (n : Int) < 64) ∧ (v = 0 → bRg (bPsd cnt lk c B D n + 1) ∧ bRg ((n : Int) + 1) ∧ A (90, [.ref 12, .int (bn t), v2, v3, v4, v5, .int (bn c), .int (bn (bPsd cnt lk c B D n + 1)), .int (bn ((n : Int) + 1))], [], bw s2 151 (4 * t + n) v)) ∧ (¬ v = 0 → bRg (bPsd cnt lk c B D n + 0) ∧ bRg ((n : Int) + 1) ∧ A (90, [.ref 12, .int (bn t), v2, v3, v4, v5, .int (bn c), .int (bn (bPsd cnt lk c B D n + 0)), .int (bn ((n : Int) + 1))], [], bw s2 151 (4 * t + n) v)) := fun s2 v hv rv K => by
          rw [ePs, ← hv] at K
          exact ⟨⟨by omega, by omega⟩, fun y => ⟨⟨by omega, by omega⟩, ⟨by omega, by omega⟩, by rw [if_pos y] at K; exact K⟩, fun y => ⟨⟨by omega, by omega⟩, ⟨by omega, by omega⟩, by rw [if_neg y] at K; exact K⟩⟩
        refine w305 (T := (bTrs cnt lk c B D n).1) (D := (bTrs cnt lk c B D n).2) t0 t1 c0 c1 (by omega) (by omega) g2 ⟨tr.1, by omega⟩ g3 tr.2.2.1 (fun z s2 q1 q2 q3 q4 q5 => ?_) (fun z s2 q1 q2 q3 q4 q5 => ?_)
        · rw [s93] at z
          have eT : bTrs cnt lk c B D (n + 1) = ((bTrs cnt lk c B D n).1 + (if B (4 * c + n) then 0 else 1), (bTrs cnt lk c B D n).2) := by
            show (if (n : Int) < cnt then (if lk = 0 then _ else _) else _) = _
            rw [if_pos w, if_pos z]
          have eF : bFat cnt lk c B D n = if bSnd c n then 0 else 2 := by unfold bFat; rw [if_pos w, if_pos z]
          have eb : bKbit s (4000 * t + 4 * c + n) = B (4 * c + n) := by
            rw [g6 _ (by omega), hB, show 4000 * t + (4 * c + (n : Int)) = 4000 * t + 4 * c + n by omega]
            unfold bKri
            rw [decide_eq_false (fun y => by omega), Bool.or_false]
          rw [eb] at q4
          exact fin s2 _ eF.symm (by split <;> decide) (put s2 _ eF.symm (by split <;> decide) q1 q2 (by rw [q4, eT]) (by rw [q3, eT]) (fun p p0 => by rw [q5 p p0, g6 p p0, bKri_n w z, Bool.or_assoc]))
        · rw [s93] at z q3 q4 ⊢
          have eT : bTrs cnt lk c B D (n + 1) = ((bTrs cnt lk c B D n).1 + (bLuk lk (bSnd c n) 3 (bTrs cnt lk c B D n).2).2.1, (bLuk lk (bSnd c n) 3 (bTrs cnt lk c B D n).2).2.2) := by
            show (if (n : Int) < cnt then (if lk = 0 then _ else _) else _) = _
            rw [if_pos w, if_neg z]
          have eF : bFat cnt lk c B D n = (bLuk lk (bSnd c n) 3 (bTrs cnt lk c B D n).2).1 := by unfold bFat; rw [if_pos w, if_neg z]
          have lr := bLuk_rg (l := lk) (sd := bSnd c n) 3 _ (Nat.le_refl _) tr.2.2.1 tr.2.2.2
          have rv : bRg (bLuk lk (bSnd c n) 3 (bTrs cnt lk c B D n).2).1 := ⟨Int.le_trans (by decide) lr.1.1, Int.lt_of_le_of_lt lr.1.2 (by decide)⟩
          exact fin s2 _ eF.symm rv (put s2 _ eF.symm rv q1 q2 (by rw [q4, eT]) (by rw [q3, eT]) (fun p p0 => by rw [q5 p, g6 p p0, bKri_s (Or.inr z)]))
      · have eT : bTrs cnt lk c B D (n + 1) = bTrs cnt lk c B D n := by
          show (if (n : Int) < cnt then _ else _) = _
          rw [if_neg w]
        have eF : bFat cnt lk c B D n = -1 := by unfold bFat; rw [if_neg w]
        have K := put s (-1) eF.symm (by decide) bRf_refl (fun _ => rfl) (by rw [eT]; exact g2) (by rw [eT]; exact g3) (fun p p0 => by rw [bKri_s (Or.inl w)]; exact g6 p p0)
        rw [ePs, eF, if_neg (by decide)] at K
        exact ⟨⟨by omega, by omega⟩, ⟨by omega, by omega⟩, ⟨by omega, by omega⟩, K⟩
  refine Lp 4 0 σ (by decide) ⟨bRf_refl, hT, hD, fun k hk => absurd hk (Nat.not_lt_zero _), fun _ _ _ => rfl, fun p p0 => ?_⟩
  unfold bKri
  rw [decide_eq_false (fun y => by omega), Bool.or_false]
end

/-! TESTS: the shards, in the class -/
def bSnd (c n : Int) : Bool := decide ((c + n) % 4 ≠ 3)
/-- tries and what is drawn last, behind n shards -/
def bTrs (cnt lk c : Int) (B : Int → Bool) (D : Int) : Nat → Int × Int
  | 0 => (0, D)
  | n + 1 => if (n : Int) < cnt then (if lk = 0 then ((bTrs cnt lk c B D n).1 + (if B (4 * c + n) then 0 else 1), (bTrs cnt lk c B D n).2) else ((bTrs cnt lk c B D n).1 + (bLuk lk (bSnd c n) 3 (bTrs cnt lk c B D n).2).2.1, (bLuk lk (bSnd c n) 3 (bTrs cnt lk c B D n).2).2.2)) else bTrs cnt lk c B D n
/-- how a shard ends -/
def bFat (cnt lk c : Int) (B : Int → Bool) (D : Int) (n : Nat) : Int := if (n : Int) < cnt then (if lk = 0 then (if bSnd c n then 0 else 2) else (bLuk lk (bSnd c n) 3 (bTrs cnt lk c B D n).2).1) else -1
def bPsd (cnt lk c : Int) (B : Int → Bool) (D : Int) : Nat → Int
  | 0 => 0
  | n + 1 => bPsd cnt lk c B D n + (if bFat cnt lk c B D n = 0 then 1 else 0)
/-- the trials behind n shards -/
def bTri (cnt lk c : Int) (B : Int → Bool) (n : Int) (p : Int) : Bool := B p || decide (lk = 0 ∧ 4 * c ≤ p ∧ p < 4 * c + n ∧ p - 4 * c < cnt)
def bGth (t c D : Int) (n : Nat) (σ s : bSt) : Prop := s.2.2 = σ.2.2 ∧ (∀ a, a ≠ 11 → a ≠ bTi t + 40 → ∀ j, bi s a j = bi σ a j) ∧ (∀ a, a ≠ 11 → a ≠ bTi t + 41 → ∀ j, bj s a j = bj σ a j) ∧
  bi s 11 6 = (bTrs (bi σ (bTi t) 11) (bi σ (bTi t) 12) c (bTbit σ t) D n).1 ∧ (bj s 11 7).toInt = (bTrs (bi σ (bTi t) 11) (bi σ (bTi t) 12) c (bTbit σ t) D n).2 ∧ (∀ k : Nat, k < n → bi s (bTi t + 40) k = bFat (bi σ (bTi t) 11) (bi σ (bTi t) 12) c (bTbit σ t) D k) ∧
  ∀ p, 0 ≤ p → p < 4000 → bTbit s t p = bTri (bi σ (bTi t) 11) (bi σ (bTi t) 12) c (bTbit σ t) n p
section
variable {d : Nat} {σ s r : bSt} {f : Int → bSt → Prop} {t c D cnt lk x y k T q z : Int} {B : Int → Bool}
theorem bTrs_rg (h0 : 0 ≤ D) (h1 : D < 2147483648) : ∀ n : Nat, 0 ≤ (bTrs cnt lk c B D n).1 ∧ (bTrs cnt lk c B D n).1 ≤ 3 * n ∧ 0 ≤ (bTrs cnt lk c B D n).2 ∧ (bTrs cnt lk c B D n).2 < 2147483648
  | 0 => ⟨Int.le_refl _, by show (0 : Int) ≤ 3 * ((0 : Nat) : Int); decide, h0, h1⟩
  | n + 1 => by
    obtain ⟨i1, i2, i3, i4⟩ := bTrs_rg h0 h1 n
    have r := bLuk_rg (l := lk) (sd := bSnd c n) 3 _ (Nat.le_refl _) i3 i4
    unfold bTrs
    split
    · split
      · refine ⟨?_, ?_, i3, i4⟩
        · show 0 ≤ (bTrs cnt lk c B D n).1 + (if B (4 * c + n) = true then (0 : Int) else 1)
          split <;> omega
        · show (bTrs cnt lk c B D n).1 + (if B (4 * c + n) = true then (0 : Int) else 1) ≤ 3 * ((n + 1 : Nat) : Int)
          split <;> omega
      · refine ⟨?_, ?_, r.2.2⟩
        · show 0 ≤ (bTrs cnt lk c B D n).1 + (bLuk lk (bSnd c n) 3 (bTrs cnt lk c B D n).2).2.1
          omega
        · show (bTrs cnt lk c B D n).1 + (bLuk lk (bSnd c n) 3 (bTrs cnt lk c B D n).2).2.1 ≤ 3 * ((n + 1 : Nat) : Int)
          omega
    · exact ⟨i1, by omega, i3, i4⟩
theorem bPsd_rg : ∀ n : Nat, 0 ≤ bPsd cnt lk c B D n ∧ bPsd cnt lk c B D n ≤ n
  | 0 => ⟨Int.le_refl _, Int.le_refl _⟩
  | n + 1 => by
    have ih := bPsd_rg n
    unfold bPsd
    split <;> omega
theorem bTri_n {n : Nat} (h : (n : Int) < cnt) (hl : lk = 0) : bTri cnt lk c B ((n + 1 : Nat) : Int) y = (bTri cnt lk c B n y || decide (y = c * 4 + n)) := by
  unfold bTri
  rw [Bool.or_assoc]
  congr 1
  by_cases e : y = c * 4 + n
  · rw [decide_eq_true e, Bool.or_true, decide_eq_true ⟨hl, by omega, by omega, by omega⟩]
  · rw [decide_eq_false e, Bool.or_false]
    by_cases w : lk = 0 ∧ 4 * c ≤ y ∧ y < 4 * c + n ∧ y - 4 * c < cnt
    · rw [decide_eq_true w, decide_eq_true ⟨w.1, w.2.1, by omega, w.2.2.2⟩]
    · rw [decide_eq_false w, decide_eq_false (fun v => w ⟨v.1, v.2.1, by omega, v.2.2.2⟩)]
theorem bTri_s {n : Nat} (h : ¬ (n : Int) < cnt ∨ lk ≠ 0) : bTri cnt lk c B ((n + 1 : Nat) : Int) y = bTri cnt lk c B n y := by
  unfold bTri
  congr 1
  by_cases w : lk = 0 ∧ 4 * c ≤ y ∧ y < 4 * c + n ∧ y - 4 * c < cnt
  · rw [decide_eq_true w, decide_eq_true ⟨w.1, w.2.1, by omega, w.2.2.2⟩]
  · rw [decide_eq_false w, decide_eq_false (fun v => by
      rcases h with h | h
      · exact w ⟨v.1, v.2.1, by omega, v.2.2.2⟩
      · exact h v.1)]
theorem w186 (c0 : 0 ≤ c) (c1 : c < 1000) (hT : bi σ 11 6 = 0) (hD : (bj σ 11 7).toInt = D) (D0 : 0 ≤ D) (D1 : D < 2147483648)
    (h : ∀ s, bGth t c D 4 σ s → f (bPsd (bi σ (bTi t) 11) (bi σ (bTi t) 12) c (bTbit σ t) D 4) s) : bWp (d + 4) 186 [.ref 11, .ref (bTi t), .int (bn c)] σ (bRn f) := by
  have m := bTi_m (t := t)
  have e40 : 256 * (1 * (bTi t / 256) + 0) + 48 = bTi t + 40 := by omega
  have ly : ∀ s : bSt, bLen s (bTi t + 40) = 4 := fun s => bLen_of (k := 48) (by omega) (by decide) rfl
  have ty : bTy (bTi t + 40) = 0 := bTy_of (k := 48) (by omega) rfl
  refine ⟨rfl, fun A hA => sq186_0 (bWp_mono _) hA m ⟨by omega, by omega⟩ ?_⟩
  generalize hcn : bi σ (bTi t) 11 = cnt at *
  generalize hlk : bi σ (bTi t) 12 = lk at *
  have rlk : bRg lk := by rw [← hlk]; exact bi_rg _ _ _
  have Lp : ∀ (j n : Nat) (s : bSt) (v5 v6 : Value), n + j = 4 → bGth t c D n σ s → A (4, [.ref 11, .ref (bTi t), .int (bn c), .int (bn (bPsd cnt lk c (bTbit σ t) D n)), .int (bn n), v5, v6], [], s) := by
    intro j
    induction j with
    | zero =>
      intro n s v5 v6 hn G
      have pr := bPsd_rg (cnt := cnt) (lk := lk) (c := c) (B := bTbit σ t) (D := D) n
      have en : n = 4 := by omega
      subst en
      exact sq186_4 (bWp_mono _) hA ⟨by omega, by omega⟩ ⟨by omega, by omega⟩ ⟨by omega, by omega⟩ ⟨fun w => absurd w (by decide), fun _ => bRn_i ⟨by omega, by omega⟩ (h s G)⟩
    | succ j ih =>
      intro n s v5 v6 hn G
      have pr := bPsd_rg (cnt := cnt) (lk := lk) (c := c) (B := bTbit σ t) (D := D) n
      have tr := bTrs_rg (cnt := cnt) (lk := lk) (c := c) (B := bTbit σ t) D0 D1 n
      obtain ⟨g1, g2, g3, g4, g5, g6, g7⟩ := G
      rw [hcn, hlk] at g4 g5 g6 g7
      have s11 : bi s (bTi t) 11 = cnt := (g2 _ (by omega) (by omega) 11).trans hcn
      have s12 : bi s (bTi t) 12 = lk := (g2 _ (by omega) (by omega) 12).trans hlk
      have nx := ih (n + 1)
      rw [show ((n + 1 : Nat) : Int) = (n : Int) + 1 by omega] at nx
      have ePs : bPsd cnt lk c (bTbit σ t) D (n + 1) = bPsd cnt lk c (bTbit σ t) D n + (if bFat cnt lk c (bTbit σ t) D n = 0 then 1 else 0) := rfl
      -- the shard's end is put down
      have put : ∀ (s2 : bSt) (v : Int), v = bFat cnt lk c (bTbit σ t) D n → bRg v → s2.2.2 = σ.2.2 → (∀ a, a ≠ 11 → ∀ j, bi s2 a j = bi s a j) → (∀ a, a ≠ 11 → a ≠ bTi t + 41 → ∀ j, bj s2 a j = bj s a j) → bi s2 11 6 = (bTrs cnt lk c (bTbit σ t) D (n + 1)).1 → (bj s2 11 7).toInt = (bTrs cnt lk c (bTbit σ t) D (n + 1)).2 → (∀ p, 0 ≤ p → p < 4000 → bTbit s2 t p = bTri cnt lk c (bTbit σ t) ((n + 1 : Nat) : Int) p) → ∀ fv : bSt → Prop, (bGth t c D (n + 1) σ (bw s2 (bTi t + 40) n v) → fv (bw s2 (bTi t + 40) n v)) → bWp (d + 3) 141 [.ref (bTi t + 40), .int (bn n), .int (bn v)] s2 (bRv fv) := fun s2 v hv rv k1 k2 k3 k4 k5 k6 fv K => by
        refine w141i (n := 4) rv ty (by omega) (ly _) (by decide) (by omega) (by omega) (K ⟨k1, fun a q1 q2 j => ?_, fun a q1 q2 j => ?_, ?_, ?_, fun k hk => ?_, fun p p0 p1 => ?_⟩)
        · rw [bi_ne q2, k2 a q1]; exact g2 a q1 q2 j
        · rw [bj_bw, k3 a q1 q2]; exact g3 a q1 q2 j
        · rw [hcn, hlk, bi_ne (by omega)]; exact k4
        · rw [hcn, hlk, bj_bw]; exact k5
        · rw [hcn, hlk, bi_bw (by omega) (by omega) rv]
          by_cases e : k = n
          · rw [if_pos ⟨rfl, by omega⟩, hv, e]
          · rw [if_neg (fun w => e (by omega)), k2 _ (by omega)]
            exact g6 k (by omega)
        · rw [hcn, hlk, ← k6 p p0 p1]; rfl
      refine sq186_4 (bWp_mono _) hA ⟨by omega, by omega⟩ ⟨by omega, by omega⟩ ⟨by omega, by omega⟩ ⟨fun _ => ⟨m, ?_⟩, fun w => absurd (show (n : Int) < 4 by omega) w⟩
      rw [s11, e40]
      refine ⟨fun w => ⟨⟨by omega, by omega⟩, by omega, ?_⟩, fun w => ?_⟩
      · -- a shard of the target
        have eT : bTrs cnt lk c (bTbit σ t) D (n + 1) = if lk = 0 then ((bTrs cnt lk c (bTbit σ t) D n).1 + (if bTbit σ t (4 * c + n) then 0 else 1), (bTrs cnt lk c (bTbit σ t) D n).2) else ((bTrs cnt lk c (bTbit σ t) D n).1 + (bLuk lk (bSnd c n) 3 (bTrs cnt lk c (bTbit σ t) D n).2).2.1, (bLuk lk (bSnd c n) 3 (bTrs cnt lk c (bTbit σ t) D n).2).2.2) := by
          show (if (n : Int) < cnt then _ else _) = _
          rw [if_pos w]
        have eF : bFat cnt lk c (bTbit σ t) D n = if lk = 0 then (if bSnd c n then 0 else 2) else (bLuk lk (bSnd c n) 3 (bTrs cnt lk c (bTbit σ t) D n).2).1 := by unfold bFat; rw [if_pos w]
        have go : ∀ x : Int, (x = 0 ∨ x = 1) → decide (x = 1) = bSnd c n → A (23, [.ref 11, .ref (bTi t), .int (bn c), .int (bn (bPsd cnt lk c (bTbit σ t) D n)), .int (bn n), .int (bn (-1)), v6], [.int (bn x)], s) := fun x hx xs => by
          have rx : bRg x := by rcases hx with e | e <;> rw [e] <;> decide
          refine sq186_23 (bWp_mono _) hA ⟨by omega, by omega⟩ ⟨by omega, by omega⟩ ⟨by omega, by omega⟩ rx ⟨m, ?_⟩
          rw [s12, e40]
          refine ⟨fun z => ⟨⟨by omega, by omega⟩, ⟨by omega, by omega⟩, ?_⟩, fun z => ?_⟩
          · rw [if_pos z] at eT eF
            refine w187 (T := (bTrs cnt lk c (bTbit σ t) D n).1) (by omega) (by omega) hx g4 ⟨by omega, by omega⟩ fun s2 q1 q2 q3 q4 q5 => ?_
            have eb : bTbit s t (c * 4 + n) = bTbit σ t (4 * c + n) := by
              rw [g7 _ (by omega) (by omega)]
              unfold bTri
              rw [decide_eq_false (fun y => by omega), Bool.or_false, show c * 4 + (n : Int) = 4 * c + n by omega]
            rw [eb] at q5
            have ev : (if x = 0 then (2 : Int) else 0) = bFat cnt lk c (bTbit σ t) D n := by
              rw [eF, ← xs]
              by_cases x0 : x = 0
              · rw [if_pos x0, decide_eq_false (by omega), if_neg (by decide)]
              · rw [if_neg x0, decide_eq_true (by omega), if_pos rfl]
            refine put s2 _ ev (by split <;> decide) (q1.trans g1) q2 (fun a _ => q3 a) (by rw [q5, eT]) (by rw [q3 11 (by omega), eT]; exact g5) (fun p p0 p1 => by rw [q4 p p0 p1, g7 p p0 p1, bTri_n w z]) _ fun GG => ?_
            have rn := nx _ (.int (bn (if x = 0 then 2 else 0))) (.int (bn x)) (by omega) GG
            rw [ePs, ← ev] at rn
            exact ⟨fun y => ⟨⟨by omega, by omega⟩, ⟨by omega, by omega⟩, by rw [if_pos y] at rn; exact rn⟩, fun y => ⟨⟨by omega, by omega⟩, ⟨by omega, by omega⟩, by rw [if_neg y] at rn; exact rn⟩⟩
          · rw [if_neg z] at eT eF
            have lr := bLuk_rg (l := lk) (sd := bSnd c n) 3 _ (Nat.le_refl _) tr.2.2.1 tr.2.2.2
            refine w188 (T := (bTrs cnt lk c (bTbit σ t) D n).1) (D := (bTrs cnt lk c (bTbit σ t) D n).2) rlk hx g4 ⟨by omega, by omega⟩ g5 tr.2.2.1 tr.2.2.2 fun s2 E b6 b7 => ?_
            rw [xs] at b6 b7 ⊢
            refine put s2 _ eF.symm ⟨by omega, by omega⟩ (E.1.trans g1) E.2.1 (fun a q _ => E.2.2 a q) (by rw [b6, eT]) (by rw [b7, eT]) (fun p p0 p1 => by rw [bTri_s (Or.inr z), ← g7 p p0 p1]; exact bTbit_m (E.2.2 _ (by omega))) _ fun GG => ?_
            have rn := nx _ (.int (bn (bLuk lk (bSnd c n) 3 (bTrs cnt lk c (bTbit σ t) D n).2).1)) (.int (bn x)) (by omega) GG
            rw [ePs, eF] at rn
            exact ⟨fun y => ⟨⟨by omega, by omega⟩, ⟨by omega, by omega⟩, by rw [if_pos y] at rn; exact rn⟩, fun y => ⟨⟨by omega, by omega⟩, ⟨by omega, by omega⟩, by rw [if_neg y] at rn; exact rn⟩⟩
        refine ⟨fun y => go 0 (Or.inl rfl) ?_, fun y => go 1 (Or.inr rfl) ?_⟩
        · unfold bSnd
          rw [decide_eq_false (by decide), decide_eq_false (fun q => q y)]
        · unfold bSnd
          rw [decide_eq_true rfl, decide_eq_true y]
      · -- no shard of the target
        have eT : bTrs cnt lk c (bTbit σ t) D (n + 1) = bTrs cnt lk c (bTbit σ t) D n := by
          show (if (n : Int) < cnt then _ else _) = _
          rw [if_neg w]
        have eF : bFat cnt lk c (bTbit σ t) D n = -1 := by unfold bFat; rw [if_neg w]
        refine put s (-1) eF.symm (by decide) g1 (fun _ _ _ => rfl) (fun _ _ _ _ => rfl) (by rw [eT]; exact g4) (by rw [eT]; exact g5) (fun p p0 p1 => by rw [bTri_s (Or.inl w)]; exact g7 p p0 p1) _ fun GG => ?_
        have rn := nx _ (.int (bn (-1))) v6 (by omega) GG
        rw [ePs, eF, if_neg (by decide)] at rn
        exact ⟨⟨by omega, by omega⟩, ⟨by omega, by omega⟩, rn⟩
  refine Lp 4 0 σ _ _ (by decide) ⟨rfl, fun _ _ _ _ => rfl, fun _ _ _ _ => rfl, ?_, ?_, fun k hk => absurd hk (Nat.not_lt_zero _), fun p p0 p1 => ?_⟩
  · rw [hT]; rfl
  · rw [hD]; rfl
  · rw [hcn, hlk]
    unfold bTri
    rw [decide_eq_false (fun y => by omega), Bool.or_false]
end

/-! RULES' EVALUATION, 25: the reference's answers -/
section
variable {d : Nat} {σ s t e r r' : bSt} {fv : bSt → Prop} {f g : Int → bSt → Prop} {x y k n m p v w o j l a i : Int}
theorem bRs_f (S : bRs σ) : bRs (bw σ 12 0 v) := bRs_un (S := []) (F := [0]) (bUn_f bUn_refl (by decide) (by decide)) (by decide) S
theorem bEvX_f (X : bEvX x σ) : bEvX x (bw σ 12 0 v) := bEvX_m X (fun b hb j => bi_ne (by revert hb; simp only [List.mem_cons, List.not_mem_nil, or_false]; omega))
/-- the file's own state at the reference, when it has failed -/
theorem bEvY_f (Y : bEvY x r) (q : bi r 7 14 ≠ -1) : bi r 65 x = 3 := by
  obtain ⟨_, _, y1⟩ := Y
  obtain ⟨_, y2, y3, y4⟩ := y1 q
  have := (y4 0 (by decide) (by omega)).2.2.1
  rwa [y3] at this
theorem w219 (S : bRs σ) (hx : bRg x) (hy : bRg y) (X : ((0 ≤ x ∧ x < 6) ∧ 0 ≤ y ∧ y < 8) → bEvX x σ) (h1 : ¬ ((0 ≤ x ∧ x < 6) ∧ 0 ≤ y ∧ y < 8) → f 0 (bw σ 12 0 1)) (h0 : ((0 ≤ x ∧ x < 6) ∧ 0 ≤ y ∧ y < 8) → ∀ r, bRM (bw σ 12 0 0) r → bEvY x r → f (if bEvV r x y < 1000 then bEvV r x y else -2) r) : bWp (d + 4) 219 [.ref 12, .int (bn x), .int (bn y)] σ (bRn f) := by
  refine ⟨rfl, fun A hA => ?_⟩
  have bad : ¬ ((0 ≤ x ∧ x < 6) ∧ 0 ≤ y ∧ y < 8) → A (10, [.ref 12, .int (bn x), .int (bn y), .float 0], [.int (bn 1), .ref 12], σ) := fun q =>
    sq219_10 (bWp_mono _) hA hx hy (by decide) (w197 (by decide) (fun w => absurd w (by decide)) (fun _ => ⟨fun w => absurd w (by decide), fun _ => bRn_i (by decide) (h1 q)⟩))
  refine sq219_0 (bWp_mono _) hA hx hy (w210 hx (fun qx => bFf (by decide) (w211 hy (fun qy => bFf (by decide) ?_) (fun qy => bTt rfl (bad fun w => qy w.2)))) (fun qx => bTt rfl (bad fun w => qx w.1)))
  refine sq219_10 (bWp_mono _) hA hx hy (by decide) (w197 (by decide) (fun _ => ⟨fun _ => w214 (bEvX_f (X ⟨qx, qy⟩)) (bRs_f S) fun r M Y => ⟨qx, ?_⟩, fun w => absurd rfl w⟩) (fun w => absurd rfl w))
  have k := h0 ⟨qx, qy⟩ r M Y
  unfold bEvV at k
  by_cases q : bi r 7 14 = -1
  · obtain ⟨_, y0, _⟩ := Y
    obtain ⟨y1, y2, y3, y4⟩ := y0 q
    obtain ⟨t, tb⟩ := y3 y qy.1 qy.2
    rw [if_pos q] at k
    refine ⟨fun _ => ⟨⟨by omega, by omega⟩, ⟨by omega, by omega⟩, ⟨by omega, by omega⟩, fun e => ?_, fun e => ⟨fun e2 => ?_, fun e2 => ?_⟩⟩, fun w => absurd y1 w⟩
    · have e3 : bi r 39 (x * 8 + y) = -1 := by unfold bThg at t; omega
      rw [e3] at k
      exact bRn_i (by decide) k
    · have e3 : 1000 ≤ bi r 39 (x * 8 + y) := by unfold bThg at t; omega
      rw [if_neg (by omega)] at k
      exact bRn_i (by decide) k
    · have e3 : bi r 39 (x * 8 + y) < 1000 ∧ bi r 61 (8 * x + y) = bi r 39 (x * 8 + y) := by unfold bThg at t; omega
      rw [if_pos e3.1, ← e3.2] at k
      exact bRn_i (bi_rg _ _ _) k
  · rw [if_neg q] at k
    have e := bEvY_f Y q
    exact ⟨fun w => absurd (e.symm.trans w) (by decide), fun _ => bRn_i (by decide) k⟩
theorem w220 (S : bRs σ) (hx : bRg x) (hy : bRg y) (hp : bRg p) (X : (((0 ≤ x ∧ x < 6) ∧ 0 ≤ y ∧ y < 8) ∧ 0 ≤ p) → bEvX x σ) (h1 : ¬ (((0 ≤ x ∧ x < 6) ∧ 0 ≤ y ∧ y < 8) ∧ 0 ≤ p) → f 0 (bw σ 12 0 1)) (h0 : (((0 ≤ x ∧ x < 6) ∧ 0 ≤ y ∧ y < 8) ∧ 0 ≤ p) → ∀ r, bRM (bw σ 12 0 0) r → bEvY x r → f (bEvP r x y p) r) : bWp (d + 4) 220 [.ref 12, .int (bn x), .int (bn y), .int (bn p)] σ (bRn f) := by
  refine ⟨rfl, fun A hA => ?_⟩
  have bad : ∀ {P : Int → bSt → Prop}, ¬ (((0 ≤ x ∧ x < 6) ∧ 0 ≤ y ∧ y < 8) ∧ 0 ≤ p) → (∀ s, f 0 s → P 1 s) → bWp (d + 3) 197 [.ref 12, .int (bn 1)] σ (bRn P) := fun q c => w197 (by decide) (fun w => absurd w (by decide)) (fun _ => c _ (h1 q))
  refine sq220_0 (bWp_mono _) hA hx hy hp (w210 hx (fun qx => bFf (by decide) (w211 hy (fun qy => bFf (by decide) ⟨fun q => bad (fun w => absurd w.2 (by omega)) fun s z => ⟨fun w => absurd w (by decide), fun _ => bRn_i (by decide) z⟩, fun qp => ?_⟩) (fun qy => bTt rfl (bad (fun w => qy w.1.2) fun s z => ⟨fun w => absurd w (by decide), fun _ => bRn_i (by decide) z⟩)))) (fun qx => bTt rfl (bad (fun w => qx w.1.1) fun s z => ⟨fun w => absurd w (by decide), fun _ => bRn_i (by decide) z⟩)))
  have ok : ((0 ≤ x ∧ x < 6) ∧ 0 ≤ y ∧ y < 8) ∧ 0 ≤ p := ⟨⟨qx, qy⟩, by omega⟩
  refine w197 (by decide) (fun _ => ⟨fun _ => w214 (bEvX_f (X ok)) (bRs_f S) fun r M Y => ⟨qx, ?_⟩, fun w => absurd rfl w⟩) (fun w => absurd rfl w)
  have k := h0 ok r M Y
  have r39 := bi_rg r 39 (x * 8 + y)
  unfold bEvP bEvV at k
  have none : ∀ {v4 v5 : Value}, f (-1) r → A (38, [.ref 12, .int (bn x), .int (bn y), .int (bn p), v4, v5], [.int (bn 0)], r) := fun z =>
    sq220_38 (bWp_mono _) hA hx hy hp (by decide) ⟨fun _ => ⟨fun _ => bRn_i (by decide) z, fun w => absurd rfl w⟩, fun w => absurd rfl w⟩
  by_cases q : bi r 7 14 = -1
  · obtain ⟨_, y0, _⟩ := Y
    obtain ⟨y1, y2, y3, y4⟩ := y0 q
    obtain ⟨t, tb⟩ := y3 y qy.1 qy.2
    rw [if_pos q] at k
    refine ⟨fun _ => ⟨⟨by omega, by omega⟩, ⟨by omega, by omega⟩, ⟨by omega, by omega⟩, fun e => ?_, fun e => ?_⟩, fun w => absurd y1 w⟩
    · have e3 : bi r 61 (8 * x + y) = bi r 39 (x * 8 + y) - 1000 ∧ 1000 ≤ bi r 39 (x * 8 + y) := by unfold bThg at t; omega
      obtain ⟨⟨l1, l2, l3⟩, l4⟩ := y4 (bi r 39 (x * 8 + y) - 1000) (by omega) (by omega)
      rw [if_neg (by omega)] at k
      refine sq220_38 (bWp_mono _) hA hx hy hp (by decide) ⟨fun w => absurd w (by decide), fun _ => ⟨⟨by omega, by omega⟩, ⟨by omega, by omega⟩, ⟨by omega, by omega⟩, fun w => absurd w (by decide), fun _ => ?_⟩⟩
      rw [e3.1, l1]
      refine ⟨⟨by omega, by omega⟩, fun q2 => ?_, fun q2 => bRn_i (by decide) (by rwa [if_neg q2] at k)⟩
      rw [if_pos q2, ← l4 p (by omega) q2] at k
      exact ⟨⟨by omega, by omega⟩, ⟨by omega, by omega⟩, ⟨by omega, by omega⟩, bRn_i (bi_rg _ _ _) k⟩
    · have e3 : bi r 39 (x * 8 + y) - 1000 < 0 := by unfold bThg at t; omega
      rw [if_pos e3] at k
      exact none k
  · rw [if_neg q, if_pos (by decide)] at k
    have e := bEvY_f Y q
    exact ⟨fun w => absurd (e.symm.trans w) (by decide), fun _ => none k⟩
theorem w221 (S : bRs σ) (hx : bRg x) (hp : bRg p) (X : ((0 ≤ x ∧ x < 6) ∧ 0 ≤ p) → bEvX x σ) (h1 : ¬ ((0 ≤ x ∧ x < 6) ∧ 0 ≤ p) → f 0 (bw σ 12 0 1)) (h0 : ((0 ≤ x ∧ x < 6) ∧ 0 ≤ p) → ∀ r, bRM (bw σ 12 0 0) r → bEvY x r → f (bEvQ r p) r) : bWp (d + 4) 221 [.ref 12, .int (bn x), .int (bn p)] σ (bRn f) := by
  refine ⟨rfl, fun A hA => ?_⟩
  have bad : ∀ {P : Int → bSt → Prop}, ¬ ((0 ≤ x ∧ x < 6) ∧ 0 ≤ p) → (∀ s, f 0 s → P 1 s) → bWp (d + 3) 197 [.ref 12, .int (bn 1)] σ (bRn P) := fun q c => w197 (by decide) (fun w => absurd w (by decide)) (fun _ => c _ (h1 q))
  refine sq221_0 (bWp_mono _) hA hx hp (w210 hx (fun qx => bFf (by decide) ⟨fun q => bad (fun w => absurd w.2 (by omega)) fun s z => ⟨fun w => absurd w (by decide), fun _ => bRn_i (by decide) z⟩, fun qp => ?_⟩) (fun qx => bTt rfl (bad (fun w => qx w.1) fun s z => ⟨fun w => absurd w (by decide), fun _ => bRn_i (by decide) z⟩)))
  have ok : (0 ≤ x ∧ x < 6) ∧ 0 ≤ p := ⟨qx, by omega⟩
  refine w197 (by decide) (fun _ => ⟨fun _ => w214 (bEvX_f (X ok)) (bRs_f S) fun r M Y => ?_, fun w => absurd rfl w⟩) (fun w => absurd rfl w)
  have k := h0 ok r M Y
  have F3 := bEvY_f Y
  obtain ⟨_, y0, yf⟩ := Y
  unfold bEvQ at k
  have L : ∀ (m : Nat) (c a : Int) (v1 : Value), c + m = p → 0 ≤ c → (bi r 7 14 = -1 → (c = 0 → a = x) ∧ (c ≠ 0 → a = -1)) → (bi r 7 14 ≠ -1 → (c < bi r 7 13 → a = bi r 42 c) ∧ (¬ c < bi r 7 13 → a = -1)) → A (20, [.ref 12, v1, .int (bn p), .int (bn a), .int (bn c)], [], r) := by
    intro m
    induction m with
    | zero =>
      intro c a v1 hc c0 a1 a2
      have ec : c = p := by omega
      rw [ec] at a1 a2 ⊢
      have ra : bRg a := by
        by_cases q : bi r 7 14 = -1
        · by_cases z : p = 0
          · rw [(a1 q).1 z]; exact hx
          · rw [(a1 q).2 z]; decide
        · by_cases z : p < bi r 7 13
          · rw [(a2 q).1 z]; exact bi_rg _ _ _
          · rw [(a2 q).2 z]; decide
      refine sq221_20 (bWp_mono _) hA hp ra hp ⟨fun w => absurd w (by omega), fun _ => ⟨fun e => bRn_i (by decide) ?_, fun e => ?_⟩⟩
      · by_cases q : bi r 7 14 = -1
        · rwa [if_pos q] at k
        · rw [if_neg q] at k
          by_cases z : p < bi r 7 13
          · have := (a2 q).1 z
            have := ((yf q).2.2.2 p (by omega) z).1
            omega
          · rwa [if_neg z] at k
      · by_cases q : bi r 7 14 = -1
        · have z : a = x := by
            by_cases z : p = 0
            · exact (a1 q).1 z
            · exact absurd ((a1 q).2 z) e
          rw [z]
          have y1 := (y0 q).1
          exact ⟨qx, fun w => absurd (y1.symm.trans w) (by decide), fun _ => bRn_i (by decide) (by rwa [if_pos q] at k)⟩
        · rw [if_neg q] at k
          by_cases z : p < bi r 7 13
          · rw [(a2 q).1 z]
            rw [if_pos z] at k
            obtain ⟨⟨y1, y2⟩, y3, _, y4⟩ := yf q
            obtain ⟨z1, z2, z3, z4, z5, _⟩ := y4 p (by omega) z
            refine ⟨z1, fun _ => ?_, fun w => absurd z3 w⟩
            rw [z4, z5]
            have e1 : (if p = bi r 7 13 - 1 then bi r 7 14 else 6) = (if p = bi r 7 13 - 1 then bi r 7 14 else 6) ∧ 1 ≤ (if p = bi r 7 13 - 1 then bi r 7 14 else 6) ∧ (if p = bi r 7 13 - 1 then bi r 7 14 else 6) ≤ 6 := by
              by_cases z6 : p = bi r 7 13 - 1
              · rw [if_pos z6]; omega
              · rw [if_neg z6]; decide
            generalize (if p = bi r 7 13 - 1 then bi r 7 14 else 6) = rs at *
            refine ⟨⟨by omega, by omega⟩, ⟨by omega, by omega⟩, ⟨by omega, by omega⟩, ⟨by omega, by omega⟩, bRn_i ⟨by omega, by omega⟩ ?_⟩
            rw [show 1000 * bi r 42 p + 10 * bi r 41 (bi r 42 p) + rs = bi r 42 p * 1000 + bi r 41 (bi r 42 p) * 10 + rs by omega]
            exact k
          · exact absurd ((a2 q).2 z) e
    | succ m ih =>
      intro c a v1 hc c0 a1 a2
      have ra : bRg a := by
        by_cases q : bi r 7 14 = -1
        · by_cases z : c = 0
          · rw [(a1 q).1 z]; exact hx
          · rw [(a1 q).2 z]; decide
        · by_cases z : c < bi r 7 13
          · rw [(a2 q).1 z]; exact bi_rg _ _ _
          · rw [(a2 q).2 z]; decide
      have hpr : bRg p := hp
      have rc1 : bRg (c + 1) := by
        have := hpr.1; have := hpr.2
        exact ⟨by omega, by omega⟩
      refine sq221_20 (bWp_mono _) hA hp ra ⟨by have := rc1.1; omega, by have := rc1.2; omega⟩ ⟨fun _ => ⟨fun e => ⟨fun _ => bRn_i (by decide) ?_, fun w => absurd e w⟩, fun e => ⟨fun w => ?_, fun w => ?_⟩⟩, fun w => absurd (show c < p by omega) w⟩
      · by_cases q : bi r 7 14 = -1
        · rwa [if_pos q] at k
        · rw [if_neg q] at k
          by_cases z : c < bi r 7 13
          · have := (a2 q).1 z
            have := ((yf q).2.2.2 c c0 z).1
            omega
          · rwa [if_neg (by omega)] at k
      · exfalso
        by_cases q : bi r 7 14 = -1
        · exact e ((a1 q).2 (by omega))
        · have := (yf q).2.1
          exact e ((a2 q).2 (by omega))
      · by_cases q : bi r 7 14 = -1
        · have z : a = x ∧ c = 0 := by
            by_cases z : c = 0
            · exact ⟨(a1 q).1 z, z⟩
            · exact absurd ((a1 q).2 z) e
          rw [z.1]
          have y1 := (y0 q).1
          refine ⟨qx, fun w => absurd (y1.symm.trans w) (by decide), fun _ => ⟨rc1, ?_⟩⟩
          exact ih (c + 1) (-1) _ (by omega) (by omega) (fun _ => ⟨fun w => absurd w (by omega), fun _ => rfl⟩) (fun w => absurd q w)
        · have zc : c < bi r 7 13 := by
            by_cases z : c < bi r 7 13
            · exact z
            · exact absurd ((a2 q).2 z) e
          rw [(a2 q).1 zc]
          obtain ⟨⟨y1, y2⟩, y3, _, y4⟩ := yf q
          obtain ⟨z1, z2, z3, z4, z5, z6⟩ := y4 c c0 zc
          refine ⟨z1, fun _ => ?_, fun w => absurd z3 w⟩
          rw [z5]
          by_cases z7 : c = bi r 7 13 - 1
          · rw [if_pos z7]
            exact ⟨fun w => absurd w (by omega), fun _ => ⟨rc1, ih (c + 1) (-1) _ (by omega) (by omega) (fun w => absurd w q) (fun _ => ⟨fun w => absurd w (by omega), fun _ => rfl⟩)⟩⟩
          · rw [if_neg z7]
            refine ⟨fun _ => ⟨rc1, ih (c + 1) _ _ (by omega) (by omega) (fun w => absurd w q) (fun _ => ⟨fun w => z6 w, fun w => absurd (show c + 1 < bi r 7 13 by omega) w⟩)⟩, fun w => absurd rfl w⟩
  refine L p.toNat 0 x _ (by omega) (by decide) (fun _ => ⟨fun _ => rfl, fun w => absurd rfl w⟩) (fun q => ⟨fun _ => (yf q).2.2.1.symm, fun w => absurd (show 0 < bi r 7 13 by have := (yf q).2.1; omega) w⟩)
end

/-! SMALL CASES, 3: workers -/
section
variable {d : Nat} {σ s t : bSt} {f : Int → bSt → Prop} {g : Nat → bSt → Prop} {x y : Int} {G : bSt → Prop} {H : bHp} {L n : Nat} {S : List Nat} {F : List Int}
theorem w24c (h0 : 0 ≤ x ∧ x < 3) (hy : 0 ≤ y ∧ y ≤ 4) (h : ∀ s, bFl 17 (4 * x + y) (4 * x + 4) (-1) σ s → f (bi σ 16 x) (bw s 16 x y)) : bWp (d + 2) 24 [.ref 2, .int (bn x), .int (bn y)] σ (bRn f) := by
  refine ⟨rfl, fun A hA => sq24_0 (bWp_mono _) hA ⟨by omega, by omega⟩ ⟨by omega, by omega⟩ (w140i (n := 3) rfl rfl (by decide) h0.1 (by omega) ?_)⟩
  have K : ∀ (m : Nat) (k : Int) (s : bSt), k + m = 4 → y ≤ k → bFl 17 (4 * x + y) (4 * x + k) (-1) σ s → A (7, [.ref 2, .int (bn x), .int (bn y), .int (bn (bi σ 16 x)), .int (bn k)], [], s) := by
    intro m
    induction m with
    | zero =>
      intro k s hk hk2 a
      refine sq24_7 (bWp_mono _) hA ⟨by omega, by omega⟩ ⟨by omega, by omega⟩ (bi_rg _ _ _) ⟨by omega, by omega⟩ (bFf (by omega) (w141 (n := 3) ⟨by omega, by omega⟩ ⟨by omega, by omega⟩ rfl (by decide) rfl (by decide) (fun _ => bRn_i (bi_rg _ _ _) (h s ?_)) (fun z => absurd ⟨h0.1, by omega⟩ z)))
      rwa [show k = 4 by omega] at a
    | succ m ih =>
      intro k s hk hk2 a
      refine sq24_7 (bWp_mono _) hA ⟨by omega, by omega⟩ ⟨by omega, by omega⟩ (bi_rg _ _ _) ⟨by omega, by omega⟩ (bTt (by omega) ⟨⟨by omega, by omega⟩, ⟨by omega, by omega⟩, ?_⟩)
      rw [show x * 4 + k = 4 * x + k by omega]
      refine w141 (n := 12) ⟨by omega, by omega⟩ (by decide) rfl (by decide) rfl (by decide) (fun _ => ⟨⟨by omega, by omega⟩, ih (k + 1) _ (by omega) (by omega) ?_⟩) (fun z => absurd ⟨by omega, by omega⟩ z)
      have := bFl_s a (by omega) (by omega) (by decide)
      rwa [show 4 * x + k + 1 = 4 * x + (k + 1) by omega] at this
  exact K (4 - y).toNat y σ (by omega) (Int.le_refl _) (bFl_0 (by omega))
theorem w278 (hx : bRg x) (hy : bRg y) (h1 : ¬ (0 ≤ x ∧ x < 3) → f 0 (bw σ 12 0 1)) (h2 : 0 ≤ x ∧ x < 3 → ¬ (1 ≤ y ∧ y ≤ 4) → f 0 (bw σ 12 0 2))
    (h : 0 ≤ x ∧ x < 3 → 1 ≤ y ∧ y ≤ 4 → ∀ s, bFl 137 (4 * x + y) (4 * x + 4) (-1) (bw (bw σ 12 0 0) 136 x y) s → f (bi σ 136 x) s) : bWp (d + 2) 278 [.ref 12, .int (bn x), .int (bn y)] σ (bRn f) := by
  refine ⟨rfl, fun A hA => sq278_0 (bWp_mono _) hA hx hy (w199 hx (by decide) (by decide) (fun q => bFf (by decide) (w199 hy (by decide) (by decide) (fun q2 => bFf (by decide) (rY ⟨⟨by omega, by omega⟩, ?_⟩)) (fun q2 => bTt rfl (rN (by decide) (by decide) (bRn_i (by decide) (h2 ⟨q.1, by omega⟩ q2)))))) (fun q => bTt rfl (rN (by decide) (by decide) (bRn_i (by decide) (h1 fun w => q ⟨w.1, by omega⟩)))))⟩
  rw [bi_ne (by decide)]
  have K : ∀ (m : Nat) (k : Int) (s : bSt), k + m = 4 → y ≤ k → bFl 137 (4 * x + y) (4 * x + k) (-1) (bw (bw σ 12 0 0) 136 x y) s → A (32, [.ref 12, .int (bn x), .int (bn y), .int (bn (bi σ 136 x)), .int (bn k)], [], s) := by
    intro m
    induction m with
    | zero =>
      intro k s hk hk2 a
      refine sq278_32 (bWp_mono _) hA hx (bi_rg _ _ _) ⟨by omega, by omega⟩ (bFf (by omega) (bRn_i (bi_rg _ _ _) (h ⟨q.1, by omega⟩ q2 s ?_)))
      rwa [show k = 4 by omega] at a
    | succ m ih =>
      intro k s hk hk2 a
      refine sq278_32 (bWp_mono _) hA hx (bi_rg _ _ _) ⟨by omega, by omega⟩ (bTt (by omega) ⟨⟨by omega, by omega⟩, ⟨by omega, by omega⟩, ⟨by omega, by omega⟩, ⟨by omega, by omega⟩, ih (k + 1) _ (by omega) (by omega) ?_⟩)
      have := bFl_s a (by omega) (by omega) (by decide)
      rwa [show 4 * x + k + 1 = 4 * x + (k + 1) by omega] at this
  exact K (4 - y).toNat y _ (by omega) (Int.le_refl _) (bFl_0 (by omega))
theorem k25 (hT : ∀ s, G s → bM25 s) (hS : ∀ σ s, bUn [16, 17, 136, 137] [0] σ s → bM25 s → G σ → G s) (hH : ∀ c k σ s, bUn [16, 17, 136, 137] [0] σ s → H c k σ → H c k s) (h : bI9 G H L n σ) : bK25 (bI9 G H L (n + 1)) σ := by
  have hM := hT _ h.2.2.2.1
  have fin : ∀ {s : bSt}, bUn [16, 17, 136, 137] [0] σ s → bM25 s → s.2.2.2.2.1 ≤ σ.2.2.2.2.1 + 1 → s.2.2.2.2.2 ≤ σ.2.2.2.2.2 + 6 → bI9 G H L (n + 1) s := fun u m c1 c2 => bI9_u (by decide) (by decide) u (hS _ _ u m) (fun c k => hH c k _ _ u) c1 c2 h
  have no : ∀ {v : Int}, bI9 G H L (n + 1) (bw (bC σ 1 6) 12 0 v) := fun {v} => by
    refine fin (bUn_f (bUn_C bUn_refl) (by decide) (by decide)) ⟨fun x x0 x1 => ?_, fun x x0 x1 => ?_⟩ (Nat.le_refl _) (Nat.le_refl _)
    · rw [bi_ne (by decide), bi_ne (by decide)]
      exact hM.1 x x0 x1
    · rw [bi_ne (by decide), bi_ne (by decide)]
      exact hM.2 x x0 x1
  refine wk25 fun x y hx hy => ⟨rfl, fun A hA => sq168_0 (bWp_mono _) hA hx hy (w136 hx (by decide) (by omega) (fun q => w138 hy (by decide) (by decide) (by omega) (fun q2 => w24c q ⟨by omega, q2.2⟩ fun s a => bRnx_i (bi_rg _ _ _) ?_) (fun q2 => ?_)) (fun q => ?_))⟩
  · have u1 : bUn [16, 17, 136, 137] [0] σ (bwj (bw s 16 x y) 154 0 (bL (bi σ 16 x))) := bUn_o (bUn_w (bUn_l bUn_refl a (by decide) (by decide)) (by decide) (by decide))
    refine ⟨bMid_un u1 (by decide), w278 hx hy (fun z => absurd q z) (fun _ z => absurd q2 z) (fun _ _ t b => ?_)⟩
    have u2 : bUn [16, 17, 136, 137] [0] σ t := bUn_l (bUn_w (bUn_f u1 (by decide) (by decide)) (by decide) (by decide)) b (by decide) (by decide)
    have e136 : bi (bwj (bw s 16 x y) 154 0 (bL (bi σ 16 x))) 136 x = bi σ 136 x := by rw [bi_bwj, bi_ne (by decide), a.2.1 _ _ (by decide)]
    have g16 : ∀ j, 0 ≤ j → bi t 16 j = if j = x then y else bi σ 16 j := fun j j0 => by
      rw [b.2.1 _ _ (by decide), bi_ne (by decide), bi_ne (by decide), bi_bwj, bi_bw q.1 j0 hy, a.2.1 _ _ (by decide)]
      simp only [true_and]
    have g136 : ∀ j, 0 ≤ j → bi t 136 j = if j = x then y else bi σ 136 j := fun j j0 => by
      rw [b.2.1 _ _ (by decide), bi_bw q.1 j0 hy, bi_ne (by decide), bi_bwj, bi_ne (by decide), a.2.1 _ _ (by decide)]
      simp only [true_and]
    have g17 : ∀ j, 0 ≤ j → bi t 17 j = if 4 * x + y ≤ j ∧ j < 4 * x + 4 then -1 else bi σ 17 j := fun j j0 => by
      rw [b.2.1 _ _ (by decide), bi_ne (by decide), bi_ne (by decide), bi_bwj, bi_ne (by decide), a.2.2 j j0]
    have g137 : ∀ j, 0 ≤ j → bi t 137 j = if 4 * x + y ≤ j ∧ j < 4 * x + 4 then -1 else bi σ 137 j := fun j j0 => by
      rw [b.2.2 j j0, bi_ne (by decide), bi_ne (by decide), bi_bwj, bi_ne (by decide), a.2.1 _ _ (by decide)]
    rw [e136]
    have ej : bj t 154 0 = bL (bi σ 16 x) := by
      unfold bj
      rw [b.1]
      exact bj_eq
    have ec : t.2.2.2.2 = σ.2.2.2.2 := by
      rw [b.1]
      show s.2.2.2.2 = _
      rw [a.1]
    refine ⟨by rw [b.2.1 _ _ (by decide), bi_ne (by decide)]; exact bi_eq (by decide), fun _ => by rw [ej, (hM.1 x q.1 q.2).1], fin u2 ⟨fun j j0 j1 => ?_, fun j j0 j1 => ?_⟩ (by rw [ec]; omega) (by rw [ec]; omega)⟩
    · rw [g16 j j0, g136 j j0]
      by_cases w : j = x
      · rw [if_pos w, if_pos w]
        exact ⟨rfl, q2⟩
      · rw [if_neg w, if_neg w]
        exact hM.1 j j0 j1
    · rw [g17 j j0, g137 j j0, hM.2 j j0 j1]
  · exact ⟨bMid_C, w278 hx hy (fun z => absurd q z) (fun _ _ => ⟨bi_eq (by decide), fun w => absurd w (by decide), no⟩) (fun _ z => absurd z q2)⟩
  · exact ⟨bMid_C, w278 hx hy (fun _ => ⟨bi_eq (by decide), fun w => absurd w (by decide), no⟩) (fun z => absurd z q) (fun z => absurd z q)⟩
end

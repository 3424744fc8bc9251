/-! ACTIONS: input, became, found -/
/-- a decoded finding -/
def bFnd (w : Int) : Int := if w % 1001 = 0 then -2 - w / 1001 else 1000 * (w / 1001) + w % 1001 - 1
/-- what an action's object says as the reference's row does -/
def bA1 (σ : bSt) (a : Int) (z : Nat) : Prop := (br σ 33 a = some z ∧ z % 256 = 0) ∧
  ((bi σ z 1 = bi σ 105 a ∧ 0 ≤ bi σ 105 a ∧ bi σ 105 a ≤ 40) ∧ ∀ i, 0 ≤ i → i < bi σ 105 a → bi σ (z + 13) i = bi σ 106 (40 * a + i)) ∧
  ((bi σ z 5 = 0 ↔ bi σ 140 a = 0) ∧ (bi σ 140 a ≠ 0 → bi σ z 10 = bi σ 142 a ∧ bi σ z 11 = bi σ 143 a ∧ bi σ z 12 = bi σ 144 a)) ∧
  ((bi σ 110 a = 0 → bi σ (512 * (z / 256) + 260) 5 = 0) ∧ (bi σ 110 a ≠ 0 → bi σ (512 * (z / 256) + 260) 5 = bi σ 114 a) ∧ (0 ≤ bi σ 114 a ∧ bi σ 114 a ≤ 48) ∧
    ∀ i, bi σ 110 a ≠ 0 → 0 ≤ i → i < bi σ 114 a → (0 ≤ bi σ 115 (48 * a + i) ∧ bi σ 115 (48 * a + i) < 1001 * 1001) ∧ bi σ (512 * (z / 256) + 279) i = bFnd (bi σ 115 (48 * a + i)))
def bAs (σ : bSt) : Prop := (bi σ 6 13 = bi σ 12 49 ∧ 0 ≤ bi σ 12 49 ∧ bi σ 12 49 ≤ 120) ∧ ∀ a, 0 ≤ a → a < bi σ 12 49 → ∃ z, bA1 σ a z
section
variable {d : Nat} {σ s t : bSt} {f : Int → bSt → Prop} {fa : Nat → bSt → Prop} {x y k c : Int} {z : Nat} {G : bSt → Prop} {H : bHp} {L n : Nat}
theorem w89 (hb : br σ 33 x = some z) (h0 : 0 ≤ x) (h1 : x < 121) (h : fa z σ) : bWp (d + 1) 89 [.ref 6, .int (bn x)] σ (bRa fa) :=
  ⟨rfl, fun A hA => sq89_0 (bWp_mono _) hA ⟨by omega, by omega⟩ (bFf (by omega) (bTt h1 ⟨⟨h0, h1⟩, fun q => absurd (q.symm.trans hb) (by intro z; cases z), fun z q => by cases q.symm.trans hb; exact h⟩))⟩
theorem w253 (hn : 0 ≤ bi σ 12 49 ∧ bi σ 12 49 ≤ 120) (hx : bRg x) (h1 : 0 ≤ x ∧ x < bi σ 12 49 → f 1 σ) (h0 : ¬ (0 ≤ x ∧ x < bi σ 12 49) → f 0 σ) : bWp (d + 2) 253 [.ref 12, .int (bn x)] σ (bRn f) :=
  ⟨rfl, fun A hA => sq253_0 (bWp_mono _) hA hx ⟨⟨by omega, by omega⟩, w199 hx (by decide) ⟨by omega, by omega⟩ (fun q => ⟨Or.inr rfl, bRn_i (by decide) (h1 ⟨q.1, by omega⟩)⟩) (fun q => ⟨Or.inl rfl, bRn_i (by decide) (h0 fun w => q ⟨w.1, by omega⟩)⟩)⟩⟩
theorem w4 (hz : z % 256 = 0) (h0 : 0 ≤ y) (hy : bRg y) (hc : bi σ z 1 ≤ 40) (h1 : y < bi σ z 1 → f (bi σ (z + 13) y) σ) (h2 : ¬ y < bi σ z 1 → f (-1) σ) : bWp (d + 1) 4 [.ref z, .int (bn y)] σ (bRn f) := by
  refine ⟨rfl, fun A hA => sq4_0 (bWp_mono _) hA hz hy (bFf (by omega) ?_)⟩
  rw [show 256 * (1 * (z / 256) + 0) + 13 = z + 13 by omega]
  have e1 : bLen σ (z + 13) = 40 := bLen_of (k := 13) (by omega) (by decide) rfl
  have e2 : bTy (z + 13) = 0 := bTy_of (k := 13) (by omega) rfl
  rw [e1, e2]
  exact ⟨fun q => ⟨by decide, by decide, bTt (by omega) ⟨rfl, ⟨h0, by omega⟩, bRn_i (bi_rg _ _ _) (h1 q)⟩⟩, fun q => bRn_i (by decide) (h2 q)⟩
theorem w39 {e : Nat} (he : e % 256 = 4) (h0 : 0 ≤ y) (hy : bRg y) (hc : bi σ e 5 ≤ 48) (h1 : y < bi σ e 5 → f (bi σ (e + 19) y) σ) (h2 : ¬ y < bi σ e 5 → f (-1) σ) : bWp (d + 2) 39 [.ref e, .int (bn y)] σ (bRn f) := by
  refine ⟨rfl, fun A hA => sq39_0 (bWp_mono _) hA he hy ?_⟩
  rw [show 256 * (1 * (e / 256) + 0) + 23 = e + 19 by omega]
  exact ⟨fun q => w140i (n := 48) (bTy_of (k := 23) (by omega) rfl) (bLen_of (k := 23) (by omega) (by decide) rfl) (by decide) h0 (by omega) (bRn_i (bi_rg _ _ _) (h1 q)), fun q => bRn_i (by decide) (h2 q)⟩
theorem w254 (hn : 0 ≤ bi σ 12 49 ∧ bi σ 12 49 ≤ 120) (hx : bRg x) (hy : bRg y) (hc : 0 ≤ x ∧ x < bi σ 12 49 → 0 ≤ bi σ 105 x ∧ bi σ 105 x ≤ 40) (h1 : ¬ ((0 ≤ x ∧ x < bi σ 12 49) ∧ 0 ≤ y) → f 0 (bw σ 12 0 1))
    (h0 : (0 ≤ x ∧ x < bi σ 12 49) → 0 ≤ y → f (if y < bi σ 105 x then bi σ 106 (40 * x + y) else -1) (bw σ 12 0 0)) : bWp (d + 3) 254 [.ref 12, .int (bn x), .int (bn y)] σ (bRn f) := by
  refine ⟨rfl, fun A hA => sq254_0 (bWp_mono _) hA hx hy (w253 hn hx (fun q => bFf (by decide) ⟨fun q2 => rN (by decide) (by decide) (bRn_i (by decide) (h1 fun w => by omega)), fun q2 => rY ⟨⟨by omega, by omega⟩, ?_⟩⟩) (fun q => bTt rfl (rN (by decide) (by decide) (bRn_i (by decide) (h1 fun w => q w.1)))))⟩
  rw [bi_ne (by decide), bi_ne (by decide)]
  have k := h0 q (by omega)
  have hc := hc q
  refine ⟨fun z => ⟨⟨by omega, by omega⟩, ⟨by omega, by omega⟩, ⟨by omega, by omega⟩, bRn_i (bi_rg _ _ _) (by rwa [if_pos z] at k)⟩, fun z => bRn_i (by decide) (by rwa [if_neg z] at k)⟩
theorem bIr (hG : ∀ σ s, bUn [] [0] σ s → G σ → G s) (hH : ∀ c k σ s, bUn [] [0] σ s → H c k σ → H c k s) (h : bI9 G H L n σ) {v : Int} {w : Int64} : bI9 G H L (n + 1) (bw (bwj σ 154 0 w) 12 0 v) :=
  bI9_r hG hH (bUn_f (bUn_o bUn_refl) (by decide) (by decide)) (Nat.le_succ _) (Nat.le_add_right _ _) h
theorem k37 (hT : ∀ s, G s → bAs s) (hG : ∀ σ s, bUn [] [0] σ s → G σ → G s) (hH : ∀ c k σ s, bUn [] [0] σ s → H c k σ → H c k s) (h : bI9 G H L n σ) : bK37 (bI9 G H L (n + 1)) σ := by
  obtain ⟨⟨e6, n0, n1⟩, hA1⟩ := hT _ h.2.2.2.1
  have hc : ∀ {x : Int}, 0 ≤ x ∧ x < bi σ 12 49 → 0 ≤ bi σ 105 x ∧ bi σ 105 x ≤ 40 := fun q => by
    obtain ⟨z, _, ⟨c, _⟩, _⟩ := hA1 _ q.1 q.2
    exact c.2
  have no : ∀ {x y : Int}, bRg x → bRg y → ¬ ((0 ≤ x ∧ x < bi σ 12 49) ∧ 0 ≤ y) → bAf37 (bI9 G H L (n + 1)) σ x y 1 (bC σ 1 6) := fun hx hy q =>
    ⟨bMid_C, w254 ⟨n0, n1⟩ hx hy hc (fun _ => ⟨bi_eq (by decide), fun w => absurd w (by decide), bI9_no' hG hH h⟩) (fun w w2 => absurd ⟨w, w2⟩ q)⟩
  refine wk37 fun x y hx hy => ⟨rfl, fun A hA => sq180_0 (bWp_mono _) hA hx hy ?_⟩
  rw [e6]
  refine w136 hx ⟨by omega, by omega⟩ (by omega) (fun q => w137 hy (by omega) (fun q2 => ?_) (fun q2 => no hx hy fun w => q2 w.2)) (fun q => no hx hy fun w => q w.1)
  obtain ⟨z, ⟨hz, hz0⟩, ⟨⟨c1, c2, c3⟩, ci⟩, _⟩ := hA1 x q.1 q.2
  have fin : ∀ v : Int, v = (if y < bi σ 105 x then bi σ 106 (40 * x + y) else -1) → bAf37 (bI9 G H L (n + 1)) σ x y 0 (bwj σ 154 0 (bL v)) := fun v hv =>
    ⟨bMid_un (S := []) (F := []) (bUn_o bUn_refl) (by decide), w254 (σ := bwj σ 154 0 (bL v)) ⟨n0, n1⟩ hx hy hc (fun w => absurd ⟨q, q2⟩ w) (fun _ _ => ⟨bi_eq (by decide), fun _ => by
      show bj (bwj σ 154 0 (bL v)) 154 0 = bL (if y < bi σ 105 x then bi σ 106 (40 * x + y) else -1)
      rw [← hv]; exact bj_eq, bIr hG hH h⟩)⟩
  refine w89 hz q.1 (by omega) ⟨hz0, w4 hz0 q2 hy (by omega) (fun w => bRnx_i (bi_rg _ _ _) (fin _ ?_)) (fun w => bRnx_i (by decide) (fin _ ?_))⟩
  · rw [if_pos (by omega)]
    exact ci y q2 (by omega)
  · rw [if_neg (by omega)]
theorem w303 (hn : 0 ≤ bi σ 12 49 ∧ bi σ 12 49 ≤ 120) (hx : bRg x) (hy : bRg y) (h1 : ¬ (0 ≤ x ∧ x < bi σ 12 49) → f 0 (bw σ 12 0 1)) (h2 : (0 ≤ x ∧ x < bi σ 12 49) → ¬ (0 ≤ y ∧ y ≤ 2) → f 0 (bw σ 12 0 2))
    (h0 : (0 ≤ x ∧ x < bi σ 12 49) → (0 ≤ y ∧ y ≤ 2) → f (if bi σ 140 x = 0 then -1 else if y = 0 then bi σ 142 x else if y = 1 then bi σ 143 x else bi σ 144 x) (bw σ 12 0 0)) : bWp (d + 3) 303 [.ref 12, .int (bn x), .int (bn y)] σ (bRn f) := by
  refine ⟨rfl, fun A hA => sq303_0 (bWp_mono _) hA hx hy (w253 hn hx (fun q => bFf (by decide) (w199 hy (by decide) (by decide) (fun q2 => bFf (by decide) (rY ⟨⟨by omega, by omega⟩, ?_⟩)) (fun q2 => bTt rfl (rN (by decide) (by decide) (bRn_i (by decide) (h2 q q2)))))) (fun q => bTt rfl (rN (by decide) (by decide) (bRn_i (by decide) (h1 q)))))⟩
  rw [bi_ne (by decide), bi_ne (by decide), bi_ne (by decide), bi_ne (by decide)]
  have k := h0 q q2
  exact ⟨fun a => bRn_i (by decide) (by rwa [if_pos a] at k), fun a => ⟨fun b => bRn_i (bi_rg _ _ _) (by rwa [if_neg a, if_pos b] at k), fun b => ⟨fun c => bRn_i (bi_rg _ _ _) (by rwa [if_neg a, if_neg b, if_pos c] at k), fun c => bRn_i (bi_rg _ _ _) (by rwa [if_neg a, if_neg b, if_neg c] at k)⟩⟩⟩
theorem k38 (hT : ∀ s, G s → bAs s) (hG : ∀ σ s, bUn [] [0] σ s → G σ → G s) (hH : ∀ c k σ s, bUn [] [0] σ s → H c k σ → H c k s) (h : bI9 G H L n σ) : bK38 (bI9 G H L (n + 1)) σ := by
  obtain ⟨⟨e6, n0, n1⟩, hA1⟩ := hT _ h.2.2.2.1
  refine wk38 fun x y hx hy => ⟨rfl, fun A hA => sq181_0 (bWp_mono _) hA hx hy ?_⟩
  rw [e6]
  refine w136 hx ⟨by omega, by omega⟩ (by omega) (fun q => w138 hy (by decide) (by decide) (by omega) (fun q2 => ?_) (fun q2 => ⟨bMid_C, w303 ⟨n0, n1⟩ hx hy (fun w => absurd q w) (fun _ _ => ⟨bi_eq (by decide), fun w => absurd w (by decide), bI9_no' hG hH h⟩) (fun _ w => absurd w q2)⟩)) (fun q => ⟨bMid_C, w303 ⟨n0, n1⟩ hx hy (fun _ => ⟨bi_eq (by decide), fun w => absurd w (by decide), bI9_no' hG hH h⟩) (fun w => absurd w q) (fun w => absurd w q)⟩)
  obtain ⟨z, ⟨hz, hz0⟩, _, ⟨c1, c2⟩, _⟩ := hA1 x q.1 q.2
  have fin : ∀ v : Int, v = (if bi σ 140 x = 0 then -1 else if y = 0 then bi σ 142 x else if y = 1 then bi σ 143 x else bi σ 144 x) → bAf38 (bI9 G H L (n + 1)) σ x y 0 (bwj σ 154 0 (bL v)) := fun v hv =>
    ⟨bMid_un (S := []) (F := []) (bUn_o bUn_refl) (by decide), w303 (σ := bwj σ 154 0 (bL v)) ⟨n0, n1⟩ hx hy (fun w => absurd q w) (fun _ w => absurd q2 w) (fun _ _ => ⟨bi_eq (by decide), fun _ => by
      show bj (bwj σ 154 0 (bL v)) 154 0 = bL (if bi σ 140 x = 0 then -1 else if y = 0 then bi σ 142 x else if y = 1 then bi σ 143 x else bi σ 144 x)
      rw [← hv]; exact bj_eq, bIr hG hH h⟩)⟩
  refine w89 hz q.1 (by omega) ⟨hz0, rfl, fun A hA => sq14_0 (bWp_mono _) hA hz0 hy ⟨fun a => bRn_i (by decide) (bRnx_i (by decide) (fin _ (by rw [if_pos (c1.mp a)]))), fun a => ?_⟩⟩
  have a' : ¬ bi σ 140 x = 0 := fun w => a (c1.mpr w)
  obtain ⟨g1, g2, g3⟩ := c2 a'
  exact ⟨fun b => bRn_i (bi_rg _ _ _) (bRnx_i (bi_rg _ _ _) (fin _ (by rw [if_neg a', if_pos b]; exact g1))), fun b => ⟨fun c => bRn_i (bi_rg _ _ _) (bRnx_i (bi_rg _ _ _) (fin _ (by rw [if_neg a', if_neg b, if_pos c]; exact g2))), fun c => bRn_i (bi_rg _ _ _) (bRnx_i (bi_rg _ _ _) (fin _ (by rw [if_neg a', if_neg b, if_neg c]; exact g3)))⟩⟩
theorem w255 (hn : 0 ≤ bi σ 12 49 ∧ bi σ 12 49 ≤ 120) (hx : bRg x) (hy : bRg y) (hc : (0 ≤ x ∧ x < bi σ 12 49) → (0 ≤ bi σ 114 x ∧ bi σ 114 x ≤ 48) ∧ (bi σ 110 x ≠ 0 → 0 ≤ y → y < bi σ 114 x → 0 ≤ bi σ 115 (48 * x + y) ∧ bi σ 115 (48 * x + y) < 1001 * 1001)) (h1 : ¬ ((0 ≤ x ∧ x < bi σ 12 49) ∧ 0 ≤ y) → f 0 (bw σ 12 0 1))
    (h0 : (0 ≤ x ∧ x < bi σ 12 49) → 0 ≤ y → f (if bi σ 110 x = 0 then -1 else if y < bi σ 114 x then bFnd (bi σ 115 (48 * x + y)) else -1) (bw σ 12 0 0)) : bWp (d + 3) 255 [.ref 12, .int (bn x), .int (bn y)] σ (bRn f) := by
  have no : ∀ {A : bPt → Prop} {v : Value}, bClosed (d + 3) bm255 (bWp (d + 2)) (bRn f) A → ¬ ((0 ≤ x ∧ x < bi σ 12 49) ∧ 0 ≤ y) → A (10, [.ref 12, .int (bn x), .int (bn y), v], [.int (bn 1), .ref 12], σ) := fun {A v} hA q =>
    sq255_10 (bWp_mono _) hA hx hy (by decide) (rN (by decide) (by decide) (bRn_i (by decide) (h1 q)))
  refine ⟨rfl, fun A hA => sq255_0 (bWp_mono _) hA hx hy (w253 hn hx (fun q => bFf (by decide) ⟨fun q2 => no hA fun w => by omega, fun q2 => sq255_10 (bWp_mono _) hA hx hy (by decide) (rY ⟨⟨by omega, by omega⟩, ?_⟩)⟩) (fun q => bTt rfl (no hA fun w => q w.1)))⟩
  have k := h0 q (by omega)
  obtain ⟨c1, c2⟩ := hc q
  rw [bi_ne (by decide), bi_ne (by decide), bi_ne (by decide)]
  refine ⟨fun a => bRn_i (by decide) (by rwa [if_pos a] at k), fun a => ⟨fun b => ?_, fun b => bRn_i (by decide) (by rwa [if_neg a, if_neg b] at k)⟩⟩
  have c3 := c2 a (by omega) b
  rw [if_neg a, if_pos b] at k
  unfold bFnd at k
  refine ⟨⟨by omega, by omega⟩, ⟨by omega, by omega⟩, ⟨by omega, by omega⟩, c3.1, fun e => ⟨⟨by omega, by omega⟩, bRn_i ⟨by omega, by omega⟩ (by rwa [if_pos e] at k)⟩, fun e => ⟨⟨by omega, by omega⟩, ⟨by omega, by omega⟩, ⟨by omega, by omega⟩, bRn_i ⟨by omega, by omega⟩ (by rwa [if_neg e] at k)⟩⟩
theorem k39 (hT : ∀ s, G s → bAs s) (hG : ∀ σ s, bUn [] [0] σ s → G σ → G s) (hH : ∀ c k σ s, bUn [] [0] σ s → H c k σ → H c k s) (h : bI9 G H L n σ) : bK39 (bI9 G H L (n + 1)) σ := by
  obtain ⟨⟨e6, n0, n1⟩, hA1⟩ := hT _ h.2.2.2.1
  have hc : ∀ {x y : Int}, 0 ≤ x ∧ x < bi σ 12 49 → (0 ≤ bi σ 114 x ∧ bi σ 114 x ≤ 48) ∧ (bi σ 110 x ≠ 0 → 0 ≤ y → y < bi σ 114 x → 0 ≤ bi σ 115 (48 * x + y) ∧ bi σ 115 (48 * x + y) < 1001 * 1001) := fun q => by
    obtain ⟨z, _, _, _, _, _, c, e⟩ := hA1 _ q.1 q.2
    exact ⟨c, fun a b1 b2 => (e _ a b1 b2).1⟩
  have no : ∀ {x y : Int}, bRg x → bRg y → ¬ ((0 ≤ x ∧ x < bi σ 12 49) ∧ 0 ≤ y) → bAf39 (bI9 G H L (n + 1)) σ x y 1 (bC σ 1 6) := fun hx hy q =>
    ⟨bMid_C, w255 ⟨n0, n1⟩ hx hy hc (fun _ => ⟨bi_eq (by decide), fun w => absurd w (by decide), bI9_no' hG hH h⟩) (fun w w2 => absurd ⟨w, w2⟩ q)⟩
  refine wk39 fun x y hx hy => ⟨rfl, fun A hA => sq182_0 (bWp_mono _) hA hx hy ?_⟩
  rw [e6]
  refine w136 hx ⟨by omega, by omega⟩ (by omega) (fun q => w137 hy (by omega) (fun q2 => ?_) (fun q2 => no hx hy fun w => q2 w.2)) (fun q => no hx hy fun w => q w.1)
  obtain ⟨z, ⟨hz, hz0⟩, _, _, g1, g2, g3, g4⟩ := hA1 x q.1 q.2
  have fin : ∀ v : Int, v = (if bi σ 110 x = 0 then -1 else if y < bi σ 114 x then bFnd (bi σ 115 (48 * x + y)) else -1) → bAf39 (bI9 G H L (n + 1)) σ x y 0 (bwj σ 154 0 (bL v)) := fun v hv =>
    ⟨bMid_un (S := []) (F := []) (bUn_o bUn_refl) (by decide), w255 (σ := bwj σ 154 0 (bL v)) ⟨n0, n1⟩ hx hy hc (fun w => absurd ⟨q, q2⟩ w) (fun _ _ => ⟨bi_eq (by decide), fun _ => by
      show bj (bwj σ 154 0 (bL v)) 154 0 = bL (if bi σ 110 x = 0 then -1 else if y < bi σ 114 x then bFnd (bi σ 115 (48 * x + y)) else -1)
      rw [← hv]; exact bj_eq, bIr hG hH h⟩)⟩
  refine w89 hz q.1 (by omega) ⟨hz0, by omega, ?_⟩
  rw [show 256 * (2 * (z / 256) + 1) + 4 = 512 * (z / 256) + 260 by omega]
  by_cases a : bi σ 110 x = 0
  · have g := g1 a
    exact w39 (by omega) q2 hy (by omega) (fun w => by omega) (fun w => bRnx_i (by decide) (fin _ (by rw [if_pos a])))
  · have g := g2 a
    refine w39 (by omega) q2 hy (by omega) (fun w => bRnx_i (bi_rg _ _ _) (fin _ ?_)) (fun w => bRnx_i (by decide) (fin _ ?_))
    · rw [if_neg a, if_pos (by omega)]
      exact (g4 y a q2 (by omega)).2
    · rw [if_neg a, if_neg (by omega)]
end

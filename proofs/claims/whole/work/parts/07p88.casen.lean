/-! SMALL CASES, 2: sandbox, far, lose, workers, told, failed first, actions -/
def bM26 (σ : bSt) : Prop := bi σ 3 3 = bi σ 12 68 ∧ (bi σ 12 68 = 0 ∨ bi σ 12 68 = 1)
def bM27 (σ : bSt) : Prop := (bi σ 5 5 = bi σ 12 87 ∧ (bi σ 12 87 = 0 ∨ bi σ 12 87 = 1)) ∧ bi σ 5 6 = bi σ 12 88 ∧ 1 ≤ bi σ 12 88 ∧ bi σ 12 88 ≤ 9
def bM28 (σ : bSt) : Prop := ∀ x, 0 ≤ x → x < 1000 → bi σ 271 x = bi σ 135 x ∧ (bi σ 135 x = 0 ∨ bi σ 135 x = 1)
def bM25 (σ : bSt) : Prop := (∀ x, 0 ≤ x → x < 3 → bi σ 16 x = bi σ 136 x ∧ 1 ≤ bi σ 136 x ∧ bi σ 136 x ≤ 4) ∧ ∀ x, 0 ≤ x → x < 12 → bi σ 17 x = bi σ 137 x
def bM32 (σ : bSt) : Prop := ∀ x, 0 ≤ x → x < 12 → bi σ 24 x = bi σ 139 x
def bM33 (σ : bSt) : Prop := bi σ 5 8 = bi σ 12 95
def bM35 (σ : bSt) : Prop := bi σ 6 13 = bi σ 12 49
/-- cells from lo to hi hold v, all else is as before -/
def bFl (a : Nat) (lo hi v : Int) (σ s : bSt) : Prop := s.2 = σ.2 ∧ (∀ b j, b ≠ a → bi s b j = bi σ b j) ∧ ∀ j, 0 ≤ j → bi s a j = if lo ≤ j ∧ j < hi then v else bi σ a j
theorem bFl_0 {a : Nat} {lo hi v : Int} {σ : bSt} (h : hi ≤ lo) : bFl a lo hi v σ σ := ⟨rfl, fun _ _ _ => rfl, fun j _ => by rw [if_neg (by omega)]⟩
theorem bFl_s {a : Nat} {lo hi v : Int} {σ s : bSt} (h : bFl a lo hi v σ s) (h0 : 0 ≤ lo) (h1 : lo ≤ hi) (hv : bRg v) : bFl a lo (hi + 1) v σ (bw s a hi v) :=
  ⟨h.1, fun b j q => by rw [bi_ne q]; exact h.2.1 b j q, fun j j0 => by
    rw [bi_bw (by omega) j0 hv]
    by_cases w : j = hi
    · rw [if_pos ⟨rfl, w⟩, if_pos ⟨by omega, by omega⟩]
    · rw [if_neg (fun t => w t.2), h.2.2 j j0]
      by_cases w2 : lo ≤ j ∧ j < hi
      · rw [if_pos w2, if_pos ⟨w2.1, by omega⟩]
      · rw [if_neg w2, if_neg (fun t => w2 ⟨t.1, by omega⟩)]⟩
theorem bUn_l {S : List Nat} {F : List Int} {a : Nat} {lo hi v : Int} {σ s t : bSt} (u : bUn S F σ s) (h : bFl a lo hi v s t) (ha : a % 256 ∈ S) (h12 : a % 256 ≠ 12) : bUn S F σ t :=
  bUn_trans u ⟨fun b q1 _ j => h.2.1 b j (fun e => q1 (e ▸ ha)), fun j _ _ => h.2.1 12 j (fun e => h12 (by rw [← e])), fun _ _ _ _ => by unfold bj; rw [h.1], fun _ _ _ => by unfold br; rw [h.1], fun _ _ => by rw [h.1]⟩
section
variable {d : Nat} {σ s t : bSt} {f : Int → bSt → Prop} {g : Nat → bSt → Prop} {x y : Int} {G : bSt → Prop} {H : bHp} {L n : Nat} {S : List Nat} {F : List Int}
theorem k26 (hT : ∀ s, G s → bM26 s) (hS : ∀ σ s, bUn [3] [0, 68] σ s → bM26 s → G σ → G s) (hH : ∀ c k σ s, bUn [3] [0, 68] σ s → H c k σ → H c k s) (h : bI9 G H L n σ) : bK26 (bI9 G H L (n + 1)) σ := by
  intro p h0
  have hM := hT _ h.2.2.2.1
  have u1 : bUn [3] [0, 68] σ (bw σ 3 3 p) := bUn_w bUn_refl (by decide) (by decide)
  have u2 : bUn [3] [0, 68] σ (bw (bw (bw σ 3 3 p) 12 0 0) 12 68 p) := bUn_f (bUn_f u1 (by decide) (by decide)) (by decide) (by decide)
  have e2 : bi (bw σ 3 3 p) 12 68 = bi σ 12 68 := bi_ne (by decide)
  refine ⟨rfl, fun A hA => sq169_0 (bWp_mono _) hA (b01_rg h0) ⟨h0, by rw [hM.1]; exact hM.2, bRn_i (bi_rg _ _ _) ⟨bMid_un u1 (by decide), rfl, fun A hA => sq273_0 (bWp_mono _) hA (b01_rg h0) ⟨h0, by rw [e2]; exact hM.2, bRn_i (bi_rg _ _ _) ⟨by rw [e2]; exact hM.1, ?_⟩⟩⟩⟩⟩
  refine bI9_u (by decide) (by decide) u2 (hS _ _ u2 ⟨?_, ?_⟩) (fun c k => hH c k _ _ u2) (Nat.le_succ _) (Nat.le_add_right _ _) h
  · rw [bi_eq (b01_rg h0), bi_ne (by decide), bi_ne (by decide), bi_eq (b01_rg h0)]
  · rw [bi_eq (b01_rg h0)]
    exact h0
theorem k27 (hT : ∀ s, G s → bM27 s) (hG : ∀ σ s, bUn [] [0] σ s → G σ → G s) (hS : ∀ σ s, bUn [5] [0, 87, 88] σ s → (∀ i, 0 ≤ i → i ≠ 5 → i ≠ 6 → bi s 5 i = bi σ 5 i) → bM27 s → G σ → G s) (hH : ∀ c k σ s, bUn [] [0] σ s → H c k σ → H c k s) (hH2 : ∀ c k σ s, bUn [5] [0, 87, 88] σ s → (∀ i, 0 ≤ i → i ≠ 5 → i ≠ 6 → bi s 5 i = bi σ 5 i) → H c k σ → H c k s) (h : bI9 G H L n σ) : bK27 (bI9 G H L (n + 1)) σ := by
  have hM := hT _ h.2.2.2.1
  refine wk27 fun x y hx hy => ⟨rfl, fun A hA => sq170_0 (bWp_mono _) hA (b01_rg hx) hy (w138 hy (by decide) (by decide) (by omega) (fun q => ⟨hx, by rw [hM.1.1]; exact hM.1.2, bRnx_i (bi_rg _ _ _) ?_⟩) (fun q => ?_))⟩
  · have hx' := b01_rg hx
    generalize hv : (if bi σ 5 5 = 0 then Int64.ofNat 0 else Int64.ofNat 1) = v
    have u1 : bUn [5] [0, 87, 88] σ (bwj (bw (bw σ 5 5 x) 5 6 y) 154 0 v) := bUn_o (bUn_w (bUn_w bUn_refl (by decide) (by decide)) (by decide) (by decide))
    have u2 : bUn [5] [0, 87, 88] σ (bw (bw (bw (bwj (bw (bw σ 5 5 x) 5 6 y) 154 0 v) 12 0 0) 12 87 x) 12 88 y) := bUn_f (bUn_f (bUn_f u1 (by decide) (by decide)) (by decide) (by decide)) (by decide) (by decide)
    have e87 : bi (bw (bwj (bw (bw σ 5 5 x) 5 6 y) 154 0 v) 12 0 0) 12 87 = bi σ 12 87 := by simp (disch := omega) only [bi_ne, bi_nj, bi_bwj]
    have o5 : ∀ i, 0 ≤ i → i ≠ 5 → i ≠ 6 → bi (bw (bw (bw (bwj (bw (bw σ 5 5 x) 5 6 y) 154 0 v) 12 0 0) 12 87 x) 12 88 y) 5 i = bi σ 5 i := fun i i0 i1 i2 => by simp (disch := omega) only [bi_ne, bi_nj, bi_bwj]
    have m2 : bM27 (bw (bw (bw (bwj (bw (bw σ 5 5 x) 5 6 y) 154 0 v) 12 0 0) 12 87 x) 12 88 y) := by
      unfold bM27
      rw [bi_eq hy]
      simp (disch := first | assumption | omega) only [bi_ne, bi_nj, bi_bwj, bi_eq]
      exact ⟨⟨by trivial, hx⟩, by trivial, q⟩
    refine ⟨bMid_un u1 (by decide), rfl, fun A hA => sq274_0 (bWp_mono _) hA (b01_rg hx) hy (w199 hy (by decide) (by decide) (fun _ => bFf (by decide) (rY ⟨hx, by rw [e87]; exact hM.1.2, ?_⟩)) (fun z => absurd q z))⟩
    rw [e87]
    refine bRn_i (bi_rg _ _ _) ⟨by simp (disch := omega) only [bi_ne, bi_nj, bi_bwj]; exact bi_eq (by decide), fun _ => ?_, bI9_u (by decide) (by decide) u2 (hS _ _ u2 o5 m2) (fun c k => hH2 c k _ _ u2 o5) (Nat.le_succ _) (Nat.le_add_right _ _) h⟩
    rw [← hM.1.1, hv]
    exact bj_eq
  · exact ⟨bMid_C, rfl, fun A hA => sq274_0 (bWp_mono _) hA (b01_rg hx) hy (w199 hy (by decide) (by decide) (fun z => absurd z q) (fun _ => bTt rfl (rN (by decide) (by decide) (bRn_i (by decide) ⟨bi_eq (by decide), fun w => absurd w (by decide), bI9_no' hG hH h⟩))))⟩
theorem w20c (hx : 0 ≤ x) (h1 : x < 1000) (h01 : bi σ 271 x = 0 ∨ bi σ 271 x = 1) (h : f (bi σ 271 x) σ) : bWp (d + 1) 20 [.ref 257, .int (bn x)] σ (bRn f) :=
  ⟨rfl, fun A hA => sq20_0 (bWp_mono _) hA (by decide) ⟨by omega, by omega⟩ (bFf (by omega) ⟨by decide, (show bRg ((1000 : Nat) : Int) by decide), bTt h1 ⟨by decide, ⟨hx, h1⟩, fun q => bRn_i (by decide) (q ▸ h), fun q => bRn_i (by decide) (by rcases h01 with w | w; exact absurd w q; rwa [w] at h)⟩⟩)⟩
theorem w22c (hx : 0 ≤ x) (h1 : x < 1000) (h01 : bi σ 271 x = 0 ∨ bi σ 271 x = 1) (h0 : bi σ 271 x = 0 → f 0 σ) (h : bi σ 271 x = 1 → f 1 (bw σ 271 x 0)) : bWp (d + 2) 22 [.ref 257, .int (bn x)] σ (bRn f) :=
  ⟨rfl, fun A hA => sq22_0 (bWp_mono _) hA (by decide) ⟨by omega, by omega⟩ (w20c hx h1 h01 ⟨fun q => by rw [q]; exact ⟨Or.inl rfl, bRn_i (by decide) (h0 q)⟩, fun q => by
    have q1 : bi σ 271 x = 1 := h01.resolve_left q
    rw [q1]
    exact ⟨by decide, ⟨hx, h1⟩, by decide, Or.inr rfl, bRn_i (by decide) (h q1)⟩⟩)⟩
theorem k28 (hT : ∀ s, G s → bM28 s) (hS : ∀ σ s, bUn [15, 135] [0] σ s → bM28 s → (∀ i, bi s 15 i = bi σ 15 i) → G σ → G s) (hH : ∀ c k σ s, bUn [15, 135] [0] σ s → (∀ i, bi s 15 i = bi σ 15 i) → H c k σ → H c k s) (h : bI9 G H L n σ) : bK28 (bI9 G H L (n + 1)) σ := by
  have hM := hT _ h.2.2.2.1
  have fin : ∀ {s : bSt}, bUn [15, 135] [0] σ s → (∀ i, bi s 15 i = bi σ 15 i) → bM28 s → s.2.2.2.2.1 ≤ σ.2.2.2.2.1 + 1 → s.2.2.2.2.2 ≤ σ.2.2.2.2.2 + 6 → bI9 G H L (n + 1) s := fun u o m c1 c2 => bI9_u (by decide) (by decide) u (hS _ _ u m o) (fun c k => hH c k _ _ u o) c1 c2 h
  refine wk28 fun x hx => ⟨rfl, fun A hA => sq171_0 (bWp_mono _) hA hx (w138 hx (by decide) (by decide) (by omega) (fun q => ?_) (fun q => ?_))⟩
  · have q1 : x < 1000 := by omega
    have e := hM x q.1 q1
    have ref : ∀ s, bUn [15, 135] [0] σ s → (∀ i, bi s 15 i = bi σ 15 i) → (∀ j, bi s 135 j = bi σ 135 j) → (∀ j, 0 ≤ j → j < 1000 → bi s 271 j = if j = x then 0 else bi σ 271 j) → bj s 154 0 = (if bi σ 135 x = 0 then Int64.ofNat 0 else Int64.ofNat 1) → s.2.2.2.2.1 ≤ σ.2.2.2.2.1 + 1 → s.2.2.2.2.2 ≤ σ.2.2.2.2.2 + 6 → bAf28 (bI9 G H L (n + 1)) σ x 0 s := fun s u o a1 a2 a3 c1 c2 => by
      have u2 : bUn [15, 135] [0] σ (bw (bw s 12 0 0) 135 x 0) := bUn_w (bUn_f u (by decide) (by decide)) (by decide) (by decide)
      have e1 : bi (bw s 12 0 0) 135 x = bi σ 135 x := by rw [bi_ne (by decide), a1]
      refine ⟨bMid_un u (by decide), rfl, fun A hA => sq275_0 (bWp_mono _) hA hx (w199 hx (by decide) (by decide) (fun _ => bFf (by decide) (rY ⟨⟨q.1, q1⟩, by rw [e1]; exact e.2, ?_⟩)) (fun z => absurd q z))⟩
      rw [e1]
      refine bRn_i (bi_rg _ _ _) ⟨by rw [bi_ne (by decide)]; exact bi_eq (by decide), fun _ => a3, fin u2 (fun i => by rw [bi_ne (by decide), bi_ne (by decide)]; exact o i) (fun j j0 j1 => ?_) c1 c2⟩
      have f1 : bi (bw (bw s 12 0 0) 135 x 0) 271 j = if j = x then 0 else bi σ 271 j := by rw [bi_ne (by decide), bi_ne (by decide), a2 j j0 j1]
      have f2 : bi (bw (bw s 12 0 0) 135 x 0) 135 j = if j = x then 0 else bi σ 135 j := by
        rw [bi_bw q.1 j0 (by decide), bi_ne (by decide), a1]
        simp only [true_and]
      rw [f1, f2]
      by_cases w : j = x
      · rw [if_pos w, if_pos w]
        exact ⟨rfl, Or.inl rfl⟩
      · rw [if_neg w, if_neg w]
        exact hM j j0 j1
    refine w22c q.1 q1 (by rw [e.1]; exact e.2) (fun z => ⟨Or.inl rfl, bRnx_i (by decide) ?_⟩) (fun z => ⟨Or.inr rfl, bRnx_i (by decide) ?_⟩)
    · rw [if_pos rfl]
      refine ref _ (bUn_o bUn_refl) (fun _ => rfl) (fun _ => rfl) (fun j j0 j1 => ?_) ?_ (Nat.le_succ _) (Nat.le_add_right _ _)
      · rw [bi_bwj]
        by_cases w : j = x
        · rw [if_pos w, w, z]
        · rw [if_neg w]
      · rw [if_pos (by rw [← e.1]; exact z)]
        exact bj_eq
    · rw [if_neg (by decide)]
      refine ref _ (bUn_o (bUn_w bUn_refl (by decide) (by decide))) (fun _ => by rw [bi_bwj, bi_ne (by decide)]) (fun _ => by rw [bi_bwj, bi_ne (by decide)]) (fun j j0 j1 => ?_) ?_ (Nat.le_succ _) (Nat.le_add_right _ _)
      · rw [bi_bwj, bi_bw q.1 j0 (by decide)]
        simp only [true_and]
      · rw [if_neg (by rw [← e.1, z]; decide)]
        exact bj_eq
  · refine ⟨bMid_C, rfl, fun A hA => sq275_0 (bWp_mono _) hA hx (w199 hx (by decide) (by decide) (fun z => absurd z q) (fun _ => bTt rfl (rN (by decide) (by decide) (bRn_i (by decide) ⟨bi_eq (by decide), fun w => absurd w (by decide), fin (bUn_f (bUn_C bUn_refl) (by decide) (by decide)) (fun i => by rw [bi_ne (by decide)]; rfl) (fun j j0 j1 => ?_) (Nat.le_refl _) (Nat.le_refl _)⟩))))⟩
    rw [bi_ne (by decide), bi_ne (by decide)]
    exact hM j j0 j1
theorem k32 (hT : ∀ s, G s → bM32 s) (hG : ∀ σ s, bUn [] [0] σ s → G σ → G s) (hH : ∀ c k σ s, bUn [] [0] σ s → H c k σ → H c k s) (h : bI9 G H L n σ) : bK32 (bI9 G H L (n + 1)) σ := by
  have hM := hT _ h.2.2.2.1
  refine wk32 fun x hx => ⟨rfl, fun A hA => sq175_0 (bWp_mono _) hA hx (w138 hx (by decide) (by decide) (by omega) (fun q => w140i (n := 12) rfl rfl (by decide) q.1 (by omega) (bRnx_i (bi_rg _ _ _) ?_)) (fun q => ?_))⟩
  · have u1 : bUn [] [0] σ (bwj σ 154 0 (bL (bi σ 24 x))) := bUn_o bUn_refl
    refine ⟨bMid_un u1 (by decide), rfl, fun A hA => sq299_0 (bWp_mono _) hA hx (w199 hx (by decide) (by decide) (fun _ => bFf (by decide) (rY ⟨⟨q.1, by omega⟩, ?_⟩)) (fun z => absurd q z))⟩
    rw [bi_ne (by decide), bi_bwj, ← hM x q.1 (by omega)]
    exact bRn_i (bi_rg _ _ _) ⟨bi_eq (by decide), fun _ => bj_eq, bI9_r hG hH (bUn_f u1 (by decide) (by decide)) (Nat.le_succ _) (Nat.le_add_right _ _) h⟩
  · exact ⟨bMid_C, rfl, fun A hA => sq299_0 (bWp_mono _) hA hx (w199 hx (by decide) (by decide) (fun z => absurd z q) (fun _ => bTt rfl (rN (by decide) (by decide) (bRn_i (by decide) ⟨bi_eq (by decide), fun w => absurd w (by decide), bI9_no' hG hH h⟩))))⟩
theorem k33 (hT : ∀ s, G s → bM33 s) (hG : ∀ σ s, bUn [] [0] σ s → G σ → G s) (hH : ∀ c k σ s, bUn [] [0] σ s → H c k σ → H c k s) (h : bI9 G H L n σ) : bK33 (bI9 G H L (n + 1)) σ :=
  ⟨rfl, fun A hA => sq176_0 (bWp_mono _) hA (bRn_i (bi_rg _ _ _) ⟨bMid_un (bUn_refl (S := []) (F := [])) (by decide), rfl, fun A hA => sq300_0 (bWp_mono _) hA (w198 (bi_rg _ _ _) (bRn_i (bi_rg _ _ _) ⟨hT _ h.2.2.2.1, bI9_r hG hH (bUn_f bUn_refl (by decide) (by decide)) (Nat.le_succ _) (Nat.le_add_right _ _) h⟩))⟩)⟩
theorem k35 (hT : ∀ s, G s → bM35 s) (hG : ∀ σ s, bUn [] [0] σ s → G σ → G s) (hH : ∀ c k σ s, bUn [] [0] σ s → H c k σ → H c k s) (h : bI9 G H L n σ) : bK35 (bI9 G H L (n + 1)) σ :=
  ⟨rfl, fun A hA => sq178_0 (bWp_mono _) hA (bRn_i (bi_rg _ _ _) ⟨bMid_un (bUn_refl (S := []) (F := [])) (by decide), rfl, fun A hA => sq252_0 (bWp_mono _) hA (w198 (bi_rg _ _ _) (bRn_i (bi_rg _ _ _) ⟨hT _ h.2.2.2.1, bI9_r hG hH (bUn_f bUn_refl (by decide) (by decide)) (Nat.le_succ _) (Nat.le_add_right _ _) h⟩))⟩)⟩
end

/-! A NEW TARGET -/
def bTbit (σ : bSt) (t q : Int) : Bool := (bj σ (bTi t + 41) (q / 64)).toBitVec.getLsbD (q % 64).toNat
def bKbit (σ : bSt) (m : Int) : Bool := (bn (bi σ 152 (m / 32))).toBitVec.getLsbD (m % 32).toNat
/-- what tests keep -/
def bTst (σ : bSt) : Prop := (∀ t, 0 ≤ t → t < bi σ 12 22 → (∀ k, 0 ≤ k → k < 4 → bi σ (bTi t + 40) k = bi σ 151 (4 * t + k)) ∧ ∀ q, 0 ≤ q → q < 4000 → bTbit σ t q = bKbit σ (4000 * t + q)) ∧
  (∀ t, bi σ 12 22 ≤ t → t < 16 → (∀ k, 0 ≤ k → k < 4 → bi σ 151 (4 * t + k) = -1) ∧ ∀ q, 0 ≤ q → q < 4000 → bKbit σ (4000 * t + q) = false) ∧ (bi σ 11 6 = bi σ 12 111 ∧ 0 ≤ bi σ 12 111 ∧ bi σ 12 111 ≤ 12) ∧ bj σ 11 7 = bL (bi σ 12 112) ∧ 0 ≤ bi σ 12 112
def bSb : List Nat := bSa ++ [9, 48, 49, 50, 151, 152, 11]
def bS13 : List Nat := [8, 46, 47, 48, 49, 50, 9, 75, 76, 77, 78, 80, 81, 90]
def bF13 : List Int := [0, 22]
def bFb : List Int := [0, 17, 22, 111, 112]
theorem bTst_un {S : List Nat} {F : List Int} {σ s : bSt} (h : bUn S F σ s) (hS : ∀ k ∈ [48, 49, 151, 152, 11], k ∉ S) (hF : ∀ k ∈ [22, 111, 112], k ∉ F) (k : bTst σ) : bTst s := by
  have e22 : bi s 12 22 = bi σ 12 22 := h.2.1 22 (by decide) (hF 22 (by decide))
  have e111 : bi s 12 111 = bi σ 12 111 := h.2.1 111 (by decide) (hF 111 (by decide))
  have e112 : bi s 12 112 = bi σ 12 112 := h.2.1 112 (by decide) (hF 112 (by decide))
  have e151 : ∀ j, bi s 151 j = bi σ 151 j := h.1 151 (hS 151 (by decide)) (by decide)
  have e152 : ∀ j, bi s 152 j = bi σ 152 j := h.1 152 (hS 152 (by decide)) (by decide)
  have e11 : ∀ j, bi s 11 j = bi σ 11 j := h.1 11 (hS 11 (by decide)) (by decide)
  have e40 : ∀ t j, bi s (bTi t + 40) j = bi σ (bTi t + 40) j := fun t j => by
    have := bTi_m (t := t)
    exact h.1 _ (by rw [show (bTi t + 40) % 256 = 48 by omega]; exact hS 48 (by decide)) (by omega) j
  have e41 : ∀ t j, bj s (bTi t + 41) j = bj σ (bTi t + 41) j := fun t j => by
    have := bTi_m (t := t)
    exact h.2.2.1 _ (by have := bTi_big (t := t); omega) (by rw [show (bTi t + 41) % 256 = 49 by omega]; exact hS 49 (by decide)) j
  have eK : ∀ m, bKbit s m = bKbit σ m := fun m => by unfold bKbit; rw [e152]
  have eT : ∀ t q, bTbit s t q = bTbit σ t q := fun t q => by unfold bTbit; rw [e41]
  obtain ⟨k1, k2, k3, k4, k5⟩ := k
  refine ⟨fun t t0 t1 => ?_, fun t t0 t1 => ?_, by rw [e11, e111]; exact k3, by rw [h.2.2.1 11 (by decide) (hS 11 (by decide)) 7, e112]; exact k4, by rw [e112]; exact k5⟩
  · rw [e22] at t1
    exact ⟨fun j j0 j1 => by rw [e40, e151]; exact (k1 t t0 t1).1 j j0 j1, fun q q0 q1 => by rw [eT, eK]; exact (k1 t t0 t1).2 q q0 q1⟩
  · rw [e22] at t0
    exact ⟨fun j j0 j1 => by rw [e151]; exact (k2 t t0 t1).1 j j0 j1, fun q q0 q1 => by rw [eK]; exact (k2 t t0 t1).2 q q0 q1⟩
section
variable {d : Nat} {σ : bSt} {f : Int → bSt → Prop} {g : Nat → bSt → Prop} {x y z : Int}
theorem w121 (hc : 0 ≤ bi σ 9 0 ∧ bi σ 9 0 < 16) (hx : bRg x) (hy : bRg y) (hz : bRg z) (hm : ∀ b ∈ bTid ((bi σ 9 0).toNat + 1), σ.2.2.2.1 b = 0)
    (h : ∀ s, bKp (bTid ((bi σ 9 0).toNat + 1)) σ s → bCo σ s 5 96 → (∀ j, 0 ≤ j → bi s (bTi (bi σ 9 0)) j = if j = 2 then z else if j = 1 then y else if j = 0 then x else if j = 9 then 1 else if j = 6 then 255 else if 3 ≤ j ∧ j < 6 then -1 else 0) → (∀ j, bi s (bTi (bi σ 9 0) + 38) j = 0) → (∀ j, bi s (bTi (bi σ 9 0) + 39) j = 0) → (∀ j, 0 ≤ j → j < 4 → bi s (bTi (bi σ 9 0) + 40) j = -1) → (∀ j, bj s (bTi (bi σ 9 0) + 41) j = 0) →
      f (bi σ 9 0) (bw (bwr s 50 (bi σ 9 0) (some (bTi (bi σ 9 0)))) 9 0 (bi σ 9 0 + 1))) : bWp (d + 3) 121 [.ref 9, .int (bn x), .int (bn y), .int (bn z)] σ (bRn f) := by
  have tt := fun A (hA : bClosed (d + 3) bm121 (bWp (d + 2)) (bRn f) A) => sq121_0 (σ := σ) (bWp_mono (d + 2)) hA hx hy hz
  refine ⟨rfl, fun A hA => tt A hA (bTt hc.2 ⟨hm _ (by simp [bTid]), by omega, w109 hx hy hz (fun b hb hne => ?_) fun s a1 a2 a3 a4 a5 a6 a7 a8 => ⟨a3, hc, ?_⟩⟩)⟩
  · rw [mk_bNew, if_neg hne]
    exact hm b hb
  · have e9 : bi s 9 0 = bi σ 9 0 := by rw [(a1 9 (by simp [bTid]; omega)).1, bi_nN (by omega)]
    rw [e9]
    refine ⟨⟨by omega, by omega⟩, ⟨by omega, by omega⟩, ?_⟩
    rw [show bi σ 9 0 + 1 - 1 = bi σ 9 0 by omega]
    refine bRn_i (bi_rg _ _ _) (h s (bKp_trans (bKN bKp_refl (by simp [bTid])) a1) (bCo_add (c := 1) (k := 19) ⟨Nat.le_refl _, Nat.le_refl _⟩ a2 (by decide) (by decide)) (fun j q => ?_) a5 a6 a7 a8)
    exact (a4 j q).trans (by rw [bi_bNew, if_pos rfl])
theorem w156 (hT : bTg σ) (hd : 6 ≤ d) (hx : bRg x) (hy : bRg y) (hz : bRg z) (h1 : ¬ (0 ≤ x ∧ x < 6) → g 0 (bC σ 1 6)) (h2 : 0 ≤ x ∧ x < 6 → ¬ ((0 ≤ y ∧ y ≤ 5) ∧ 0 ≤ z ∧ z ≤ 999) → g 1 (bC σ 1 6)) (h3 : 0 ≤ x ∧ x < 6 → (0 ≤ y ∧ y ≤ 5) ∧ 0 ≤ z ∧ z ≤ 999 → bi σ 12 22 = 16 → g 2 (bC σ 1 6))
    (h : 0 ≤ x ∧ x < 6 → (0 ≤ y ∧ y ≤ 5) ∧ 0 ≤ z ∧ z ≤ 999 → bi σ 12 22 < 16 → ∀ s, bKp (bTid ((bi σ 12 22).toNat + 1)) σ s → bCo σ s 5 96 → (∀ j, 0 ≤ j → bi s (bTi (bi σ 12 22)) j = if j = 2 then z else if j = 1 then y else if j = 0 then x else if j = 9 then 1 else if j = 6 then 255 else if 3 ≤ j ∧ j < 6 then -1 else 0) → (∀ j, bi s (bTi (bi σ 12 22) + 38) j = 0) → (∀ j, bi s (bTi (bi σ 12 22) + 39) j = 0) → (∀ j, 0 ≤ j → j < 4 → bi s (bTi (bi σ 12 22) + 40) j = -1) → (∀ j, bj s (bTi (bi σ 12 22) + 41) j = 0) →
      f (bi σ 12 22) (bw (bwr s 50 (bi σ 12 22) (some (bTi (bi σ 12 22)))) 9 0 (bi σ 12 22 + 1))) : bWp (d + 4) 156 [.ref 11, .int (bn x), .int (bn y), .int (bn z)] σ (bRnx f g) := by
  obtain ⟨e9, e16, e0⟩ := bTk_r hT
  refine ⟨rfl, fun A hA => sq156_0 (bWp_mono _) hA hx hy hz (w136 hx (by decide) (by omega) (fun q => w138 hy (by decide) (by decide) (by omega) (fun q2 => w138 hz (by decide) (by decide) (by omega) (fun q3 => ?_) (fun q3 => h2 q fun w => q3 w.2)) (fun q2 => h2 q fun w => q2 w.1)) h1)⟩
  rw [e9]
  refine ⟨fun e => w139 (by decide) (by omega) (fun _ => w121 (by rw [e9]; exact ⟨e0, e⟩) hx hy hz (by rw [e9]; exact (hT.2.2.1 _ (by omega) e).2.1) ?_) (fun w => absurd w (by decide)), fun e => w139 (by decide) (by omega) (fun w => absurd rfl w) (fun _ => h3 q ⟨q2, q3⟩ (by omega))⟩
  rw [e9]
  exact fun s a1 a2 a3 a4 a5 a6 a7 => bRnx_i (bi_rg _ _ _) (h q ⟨q2, q3⟩ e s a1 a2 a3 a4 a5 a6 a7)
theorem w226 (h16 : 0 ≤ bi σ 12 22 ∧ bi σ 12 22 ≤ 16) (hx : bRg x) (hy : bRg y) (hz : bRg z) (h1 : ¬ (0 ≤ x ∧ x < 6) → f 0 (bw σ 12 0 1)) (h2 : 0 ≤ x ∧ x < 6 → ¬ ((0 ≤ y ∧ y ≤ 5) ∧ 0 ≤ z ∧ z ≤ 999) → f 0 (bw σ 12 0 2)) (h3 : 0 ≤ x ∧ x < 6 → (0 ≤ y ∧ y ≤ 5) ∧ 0 ≤ z ∧ z ≤ 999 → bi σ 12 22 = 16 → f 0 (bw σ 12 0 3))
    (h0 : 0 ≤ x ∧ x < 6 → (0 ≤ y ∧ y ≤ 5) ∧ 0 ≤ z ∧ z ≤ 999 → bi σ 12 22 < 16 → f (bi σ 12 22) (bw (bw (bw (bw (bw (bw (bw (bw (bw σ 12 0 0) 75 (bi σ 12 22) x) 76 (bi σ 12 22) y) 77 (bi σ 12 22) z) 78 (bi σ 12 22) (-1)) 80 (bi σ 12 22) (-1)) 81 (bi σ 12 22) (-1)) 90 (bi σ 12 22) 1) 12 22 (bi σ 12 22 + 1))) : bWp (d + 3) 226 [.ref 12, .int (bn x), .int (bn y), .int (bn z)] σ (bRn f) := by
  refine ⟨rfl, fun A hA => ?_⟩
  have fin : ∀ (v4 : Value) (k : Int), (k = 0 ∧ bi σ 12 22 < 16 ∧ (0 ≤ x ∧ x < 6) ∧ (0 ≤ y ∧ y ≤ 5) ∧ 0 ≤ z ∧ z ≤ 999) ∨ (0 < k ∧ k < 4 ∧ f 0 (bw σ 12 0 k)) → A (31, [.ref 12, .int (bn x), .int (bn y), .int (bn z), v4], [.int (bn k), .ref 12], σ) := by
    intro v4 k hk
    refine sq226_31 (bWp_mono _) hA hx hy hz ⟨by omega, by omega⟩ ?_
    rcases hk with ⟨rfl, e, q, q2⟩ | ⟨k0, k1, hf⟩
    · have e22 : bi (bw σ 12 0 0) 12 22 = bi σ 12 22 := bi_nj (by decide) (by decide) (by decide)
      refine rY ?_
      rw [e22]
      refine ⟨⟨by omega, by omega⟩, ⟨by omega, by omega⟩, ⟨by omega, by omega⟩, ?_⟩
      rw [show bi σ 12 22 + 1 - 1 = bi σ 12 22 by omega]
      exact bRn_i (bi_rg _ _ _) (h0 q q2 e)
    · exact rN ⟨by omega, by omega⟩ (by omega) (bRn_i (by decide) hf)
  exact sq226_0 (bWp_mono _) hA hx hy hz (w199 hy (by decide) (by decide) (fun q2 => bFf (by decide) (w199 hz (by decide) (by decide) (fun q3 => bFf (by decide) (w201 hx (fun q => bFf (by decide) ⟨fun e => fin _ _ (Or.inr ⟨by decide, by decide, h3 q ⟨q2, q3⟩ e⟩), fun e => fin _ _ (Or.inl ⟨rfl, by omega, q, q2, q3⟩)⟩) (fun q => bTt rfl (fin _ _ (Or.inr ⟨by decide, by decide, h1 q⟩))))) (fun q3 => bTt rfl (w201 hx (fun q => bFf (by decide) (fin _ _ (Or.inr ⟨by decide, by decide, h2 q fun w => q3 w.2⟩))) (fun q => bTt rfl (fin _ _ (Or.inr ⟨by decide, by decide, h1 q⟩))))))) (fun q2 => bTt rfl (w201 hx (fun q => bFf (by decide) (fin _ _ (Or.inr ⟨by decide, by decide, h2 q fun w => q2 w.1⟩))) (fun q => bTt rfl (fin _ _ (Or.inr ⟨by decide, by decide, h1 q⟩))))))
variable {R : bSt → Prop} {H : bHp} {L n : Nat}
theorem k13 (hR : ∀ σ s, bUn bSb bFb σ s → R σ → R s) (hH : ∀ c k σ s, bUn bSb bFb σ s → H c k σ → H c k s) (h : bI9 (fun σ => bTg σ ∧ bTst σ ∧ R σ) H L n σ) : bK13 (bI9 (fun σ => bTg σ ∧ bTst σ ∧ R σ) H L (n + 1)) σ := by
  have hT := h.2.2.2.1.1
  have h16 : 0 ≤ bi σ 12 22 ∧ bi σ 12 22 ≤ 16 := ⟨hT.1.1, hT.1.2.1⟩
  have ma : ∀ k ∈ bSa, k ∈ bSb := fun k hk => List.mem_append_left _ hk
  have hR' : ∀ σ s, bUn bSa [0, 17] σ s → (bTst σ ∧ R σ) → (bTst s ∧ R s) := fun σ s u w => ⟨bTst_un u (by decide) (by decide) w.1, hR σ s (bUn_mono u ma (by decide)) w.2⟩
  have hH' : ∀ c k σ s, bUn bSa [0, 17] σ s → H c k σ → H c k s := fun c k σ s u w => hH c k σ s (bUn_mono u ma (by decide)) w
  refine wk13 fun x y z hx hy hz => w156 hT (by decide) hx hy hz (fun q => ?_) (fun q q2 => ?_) (fun q q2 q3 => ?_) (fun q q2 q3 s a1 a2 a3 a4 a5 a6 a7 => ?_)
  · exact ⟨bMid_C, w226 h16 hx hy hz (fun _ => ⟨bi_eq (by decide), fun w => absurd w (by decide), bI8_no hR' hH' h⟩) (fun w => absurd w q) (fun w => absurd w q) (fun w => absurd w q)⟩
  · exact ⟨bMid_C, w226 h16 hx hy hz (fun w => absurd q w) (fun _ _ => ⟨bi_eq (by decide), fun w => absurd w (by decide), bI8_no hR' hH' h⟩) (fun _ w => absurd w q2) (fun _ w => absurd w q2)⟩
  · exact ⟨bMid_C, w226 h16 hx hy hz (fun w => absurd q w) (fun _ w => absurd q2 w) (fun _ _ _ => ⟨bi_eq (by decide), fun w => absurd w (by decide), bI8_no hR' hH' h⟩) (fun _ _ w => absurd w (by show ¬ bi σ 12 22 < 16; omega))⟩
  · have hb := bTi_big (t := bi σ 12 22)
    have hmb := bTi_m (t := bi σ 12 22)
    generalize hT0 : bi σ 12 22 = T at *
    have hid : ∀ b, b ∉ bTid (T.toNat + 1) ↔ (b ≠ bTi T ∧ b ≠ bTi T + 38 ∧ b ≠ bTi T + 39 ∧ b ≠ bTi T + 40 ∧ b ≠ bTi T + 41) := fun b => by
      simp only [bTid, List.mem_cons, List.not_mem_nil, or_false, not_or]
      unfold bTi
      constructor <;> intro w <;> omega
    have hkd : ∀ b, b ∈ bTid (T.toNat + 1) → b % 256 ∈ bS13 ∧ b % 256 ≠ 12 := fun b hb2 => by
      simp only [bTid, List.mem_cons, List.not_mem_nil, or_false] at hb2
      rcases hb2 with rfl | rfl | rfl | rfl | rfl
      · rw [show (256 * (T.toNat + 1) + 8) % 256 = 8 by omega]; decide
      · rw [show (256 * (T.toNat + 1) + 46) % 256 = 46 by omega]; decide
      · rw [show (256 * (T.toNat + 1) + 47) % 256 = 47 by omega]; decide
      · rw [show (256 * (T.toNat + 1) + 48) % 256 = 48 by omega]; decide
      · rw [show (256 * (T.toNat + 1) + 49) % 256 = 49 by omega]; decide
    have us : bUn bS13 bF13 σ s := ⟨fun a w _ i => (a1 a fun w2 => w (hkd a w2).1).1 i, fun i _ _ => (a1 12 fun w2 => (hkd 12 w2).2 rfl).1 i, fun a _ w i => (a1 a fun w2 => w (hkd a w2).1).2.1 i, fun a w i => (a1 a fun w2 => w (hkd a w2).1).2.2.1 i, fun a w => (a1 a fun w2 => w (hkd a w2).1).2.2.2⟩
    have ur : bUn bS13 bF13 σ (bwr s 50 T (some (bTi T))) := bUn_trans us ⟨fun _ _ _ _ => rfl, fun _ _ _ => rfl, fun _ _ _ _ => rfl, fun a w i => br_ne (fun e => w (by rw [e]; decide)), fun _ _ => rfl⟩
    have u1 : bUn bS13 bF13 σ (bwj (bw (bwr s 50 T (some (bTi T))) 9 0 (T + 1)) 154 0 (bL T)) := bUn_o (bUn_w ur (by decide) (by decide))
    have eo : ∀ b j, b ∉ bTid (T.toNat + 1) → b ≠ 9 → bi (bwj (bw (bwr s 50 T (some (bTi T))) 9 0 (T + 1)) 154 0 (bL T)) b j = bi σ b j := fun b j w w2 => by rw [bi_bwj, bi_ne w2, bi_bwr, (a1 b w).1]
    have e22 : bi (bwj (bw (bwr s 50 T (some (bTi T))) 9 0 (T + 1)) 154 0 (bL T)) 12 22 = T := by rw [eo 12 22 ((hid 12).mpr (by omega)) (by decide)]; exact hT0
    refine ⟨bMid_un u1 (by decide), w226 (by rw [e22]; exact h16) hx hy hz (fun w => absurd q w) (fun _ w => absurd q2 w) (fun _ _ w => absurd w (by rw [e22]; omega)) (fun _ _ _ => ?_)⟩
    rw [e22]
    generalize hs1 : (bwj (bw (bwr s 50 T (some (bTi T))) 9 0 (T + 1)) 154 0 (bL T)) = s1 at u1 eo e22 ⊢
    have f9 : bi s1 9 0 = T + 1 := by rw [← hs1, bi_bwj]; exact bi_eq ⟨by omega, by omega⟩
    have fc : ∀ b j, b ≠ 9 → bi s1 b j = bi s b j := fun b j w => by rw [← hs1, bi_bwj, bi_ne w]; rfl
    have f50 : ∀ t, 0 ≤ t → br s1 50 t = if t = T then some (bTi T) else br σ 50 t := fun t t0 => by
      rw [← hs1]
      show br (bwr s 50 T (some (bTi T))) 50 t = _
      rw [br_bwr h16.1 t0, (a1 50 ((hid 50).mpr (by omega))).2.2.1]
      simp only [true_and]
    have fm : ∀ b, b ∉ bTid (T.toNat + 1) → s1.2.2.2.1 b = σ.2.2.2.1 b := fun b w => by rw [← hs1]; exact (a1 b w).2.2.2
    have fj : ∀ b j, b ≠ 154 → bj s1 b j = bj s b j := fun b j w => by rw [← hs1]; exact bj_ne w
    have f154 : bj s1 154 0 = bL T := by rw [← hs1]; exact bj_eq
    have fcs : s1.2.2.2.2 = s.2.2.2.2 := by rw [← hs1]; rfl
    have hxr : bRg x := hx
    have u2 : bUn bS13 bF13 σ (bw (bw (bw (bw (bw (bw (bw (bw (bw s1 12 0 0) 75 T x) 76 T y) 77 T z) 78 T (-1)) 80 T (-1)) 81 T (-1)) 90 T 1) 12 22 (T + 1)) := bUn_f (bUn_w (bUn_w (bUn_w (bUn_w (bUn_w (bUn_w (bUn_w (bUn_f u1 (by decide) (by decide)) (by decide) (by decide)) (by decide) (by decide)) (by decide) (by decide)) (by decide) (by decide)) (by decide) (by decide)) (by decide) (by decide)) (by decide) (by decide)) (by decide) (by decide)
    generalize hs2 : (bw (bw (bw (bw (bw (bw (bw (bw (bw s1 12 0 0) 75 T x) 76 T y) 77 T z) 78 T (-1)) 80 T (-1)) 81 T (-1)) 90 T 1) 12 22 (T + 1)) = s2 at u2 ⊢
    have r0 : ∀ b j, b ∉ [12, 75, 76, 77, 78, 80, 81, 90] → bi s2 b j = bi s1 b j := fun b j w => by
      simp only [List.mem_cons, List.not_mem_nil, or_false, not_or] at w
      rw [← hs2, bi_ne w.1, bi_ne w.2.2.2.2.2.2.2, bi_ne w.2.2.2.2.2.2.1, bi_ne w.2.2.2.2.2.1, bi_ne w.2.2.2.2.1, bi_ne w.2.2.2.1, bi_ne w.2.2.1, bi_ne w.2.1, bi_ne w.1]
    have r2 : s2.2 = s1.2 := by rw [← hs2]; rfl
    have g22 : bi s2 12 22 = T + 1 := by rw [← hs2]; exact bi_eq ⟨by omega, by omega⟩
    have rr : ∀ a ∈ [75, 76, 77, 78, 80, 81, 90], ∀ t, 0 ≤ t → t ≠ T → bi s2 a t = bi σ a t := fun a ha t t0 w => by
      simp only [List.mem_cons, List.not_mem_nil, or_false] at ha
      have e0 : bi s1 a t = bi σ a t := eo a t ((hid a).mpr (by omega)) (by omega)
      rw [← hs2]
      rcases ha with rfl | rfl | rfl | rfl | rfl | rfl | rfl <;> simp (disch := omega) only [bi_ne, bi_nj] <;> exact e0
    have rT : bi s2 75 T = x ∧ bi s2 76 T = y ∧ bi s2 77 T = z ∧ bi s2 78 T = -1 ∧ bi s2 80 T = -1 ∧ bi s2 81 T = -1 ∧ bi s2 90 T = 1 := by
      rw [← hs2]
      simp (disch := omega) only [bi_ne, bi_eq]
      exact ⟨by trivial, by trivial, by trivial, by trivial, by trivial, by trivial, by trivial⟩
    have rz : ∀ b j, b ∉ bTid (T.toNat + 1) → b ≠ 9 → b ∉ [12, 75, 76, 77, 78, 80, 81, 90] → bi s2 b j = bi σ b j := fun b j w w2 w3 => (r0 b j w3).trans (eo b j w w2)
    have hTs := h.2.2.2.1.2.1
    obtain ⟨y1, y2, y3, y4⟩ := hT
    rw [hT0] at y1 y2 y3 y4
    obtain ⟨z1, z2, z3, z4, z5⟩ := hTs
    rw [hT0] at z1 z2
    have ne9 : ∀ b, 264 ≤ b → b ∉ [12, 75, 76, 77, 78, 80, 81, 90] := fun b w => by simp; omega
    have tid : ∀ t, 0 ≤ t → t ≠ T → ∀ k : Nat, (k = 0 ∨ 38 ≤ k ∧ k ≤ 41) → bTi t + k ∉ bTid (T.toNat + 1) := fun t t0 w k hk => (hid _).mpr (by unfold bTi; omega)
    have hbt : ∀ t, 264 ≤ bTi t := fun t => bTi_big
    have tv : ∀ t, 0 ≤ t → t ≠ T → bTv σ s2 t := fun t t0 w => ⟨fun j _ => rz _ _ (tid t t0 w 0 (Or.inl rfl)) (by have := hbt t; omega) (ne9 _ (hbt t)), fun j _ => rz _ _ (tid t t0 w 38 (by omega)) (by have := hbt t; omega) (ne9 _ (by have := hbt t; omega)), fun j _ => rz _ _ (tid t t0 w 39 (by omega)) (by have := hbt t; omega) (ne9 _ (by have := hbt t; omega)), fun a ha => by
        have := bLr_ne ha
        by_cases wa : a ∈ [75, 76, 77, 78, 80, 81, 90]
        · exact rr a wa t t0 w
        · exact rz a t ((hid a).mpr (by omega)) (by omega) (fun w3 => wa (by simp at w3 ⊢; omega)), fun a ha i _ _ => rz a _ ((hid a).mpr (by simp at ha; omega)) (by simp at ha; omega) (by simp at ha ⊢; omega), fun i _ _ => rz 84 _ ((hid 84).mpr (by omega)) (by decide) (by decide)⟩
    have zz : ∀ a ∈ [83, 85, 89, 91, 92, 93], ∀ t, bi s2 a t = bi σ a t := fun a ha t => rz a t ((hid a).mpr (by simp at ha; omega)) (by simp at ha; omega) (by simp at ha ⊢; omega)
    refine ⟨by rw [← hs2]; simp (disch := omega) only [bi_nj, bi_ne, bi_eq], fun _ => ?_, ?_⟩
    · show s2.2.1 154 0 = _
      rw [r2]
      exact f154
    refine ⟨(bMid_un u2 (by decide)).2.trans h.1, bFi_un u2 (by decide) h.2.1, bTl_un u2 (by decide) (by decide) h.2.2.1, ⟨⟨⟨by omega, by omega, by rw [r0 9 0 (by decide), f9, g22]⟩, fun t t0 t1 => ?_, fun t t0 t1 => ?_, fun t t0 t1 => ?_⟩, ⟨fun t t0 t1 => ?_, fun t t0 t1 => ?_, ?_, ?_, ?_⟩, hR _ _ (bUn_mono u2 (by decide) (by decide)) h.2.2.2.1.2.2⟩, ?_⟩
    · rw [g22] at t1
      show s2.2.2.1 50 t.toNat = _
      rw [r2]
      show br s1 50 t = _
      rw [f50 t t0]
      by_cases w : t = T
      · rw [if_pos w, w]
      · rw [if_neg w]
        exact y2 t t0 (by omega)
    · rw [g22] at t0
      obtain ⟨p1, p2, p3⟩ := y3 t (by omega) t1
      refine ⟨?_, fun b hb => ?_, fun a ha => by rw [zz a ha]; exact p3 a ha⟩
      · show s2.2.2.1 50 t.toNat = _
        rw [r2]
        show br s1 50 t = _
        rw [f50 t (by omega), if_neg (by omega)]
        exact p1
      · rw [r2, fm b ((hid b).mpr (by simp [bTid] at hb; unfold bTi; omega))]
        exact p2 b hb
    · rw [g22] at t1
      by_cases w : t = T
      · rw [w]
        obtain ⟨p1, p2, p3⟩ := y3 T (by omega) q3
        obtain ⟨v75, v76, v77, v78, v80, v81, v90⟩ := rT
        have cf : ∀ j, 0 ≤ j → bi s2 (bTi T) j = if j = 2 then z else if j = 1 then y else if j = 0 then x else if j = 9 then 1 else if j = 6 then 255 else if 3 ≤ j ∧ j < 6 then -1 else 0 := fun j j0 => by rw [r0 _ _ (ne9 _ (hbt T)), fc _ _ (by have := hbt T; omega)]; exact a3 j j0
        unfold bTg1
        rw [cf 0 (by decide), cf 1 (by decide), cf 2 (by decide), cf 3 (by decide), cf 5 (by decide), cf 6 (by decide), cf 7 (by decide), cf 8 (by decide), cf 9 (by decide), cf 10 (by decide), cf 11 (by decide), cf 12 (by decide), cf 13 (by decide), cf 14 (by decide), v75, v76, v77, v78, v80, v81, v90, zz 83 (by decide), zz 85 (by decide), zz 89 (by decide), zz 91 (by decide), zz 92 (by decide), zz 93 (by decide), p3 83 (by decide), p3 85 (by decide), p3 89 (by decide), p3 91 (by decide), p3 92 (by decide), p3 93 (by decide)]
        exact ⟨⟨rfl, q.1, q.2⟩, ⟨rfl, by omega, by omega⟩, ⟨rfl, by omega, by omega⟩, Or.inl ⟨rfl, rfl⟩, ⟨rfl, by decide, by decide⟩, Or.inl ⟨rfl, rfl, rfl⟩, ⟨rfl, by decide, by decide⟩, ⟨rfl, by decide, by decide⟩, ⟨rfl, Or.inl rfl⟩, ⟨rfl, by decide, by decide⟩, ⟨rfl, by decide, by decide⟩, ⟨rfl, by decide, by decide⟩, ⟨rfl, by decide, by decide⟩, fun i i0 i1 => absurd i1 (by omega), fun i i0 i1 => absurd i1 (by omega)⟩
      · exact bTg1_v (tv t t0 w) (y4 t t0 (by omega))
    · rw [g22] at t1
      have e151 : ∀ j, bi s2 151 j = bi σ 151 j := fun j => rz 151 j ((hid 151).mpr (by omega)) (by decide) (by decide)
      have e152 : ∀ m, bKbit s2 m = bKbit σ m := fun m => by unfold bKbit; rw [rz 152 _ ((hid 152).mpr (by omega)) (by decide) (by decide)]
      by_cases w : t = T
      · rw [w]
        refine ⟨fun k k0 k1 => ?_, fun q0 q1 q9 => ?_⟩
        · rw [r0 _ _ (ne9 _ (by omega)), fc _ _ (by omega), a6 k k0 k1, e151, (z2 T (by omega) q3).1 k k0 k1]
        · rw [e152, (z2 T (by omega) q3).2 q0 q1 q9]
          unfold bTbit
          have : bj s2 (bTi T + 41) (q0 / 64) = 0 := by
            show s2.2.1 (bTi T + 41) (q0 / 64).toNat = 0
            rw [r2]
            exact (fj _ _ (by omega)).trans (a7 _)
          rw [this]
          exact BitVec.getLsbD_zero
      · refine ⟨fun k k0 k1 => ?_, fun q0 q1 q9 => ?_⟩
        · rw [rz _ _ (tid t t0 w 40 (by omega)) (by have := hbt t; omega) (ne9 _ (by have := hbt t; omega)), e151]
          exact (z1 t t0 (by omega)).1 k k0 k1
        · rw [e152, ← (z1 t t0 (by omega)).2 q0 q1 q9]
          unfold bTbit
          have : bj s2 (bTi t + 41) (q0 / 64) = bj σ (bTi t + 41) (q0 / 64) := by
            show s2.2.1 (bTi t + 41) (q0 / 64).toNat = _
            rw [r2]
            exact (fj _ _ (by have := hbt t; have := bTi_m (t := t); omega)).trans ((a1 _ (tid t t0 w 41 (by omega))).2.1 _)
          rw [this]
    · rw [g22] at t0
      have e151 : ∀ j, bi s2 151 j = bi σ 151 j := fun j => rz 151 j ((hid 151).mpr (by omega)) (by decide) (by decide)
      have e152 : ∀ m, bKbit s2 m = bKbit σ m := fun m => by unfold bKbit; rw [rz 152 _ ((hid 152).mpr (by omega)) (by decide) (by decide)]
      exact ⟨fun k k0 k1 => by rw [e151]; exact (z2 t (by omega) t1).1 k k0 k1, fun q0 q1 q9 => by rw [e152]; exact (z2 t (by omega) t1).2 q0 q1 q9⟩
    · rw [u2.2.1 111 (by decide) (by decide), rz 11 6 ((hid 11).mpr (by omega)) (by decide) (by decide)]
      exact z3
    · rw [u2.2.1 112 (by decide) (by decide), u2.2.2.1 11 (by decide) (by decide) 7]
      exact z4
    · rw [u2.2.1 112 (by decide) (by decide)]
      exact z5
    · obtain ⟨c, k, m1, m2, m3⟩ := h.2.2.2.2
      have eT1 : bT s2 = bT σ + 1 := by unfold bT; rw [g22, hT0]; omega
      refine ⟨c, k, ?_, ?_, hH _ _ _ _ (bUn_mono u2 (by decide) (by decide)) m3⟩
      · rw [r2, fcs, eT1]
        have := a2.1
        omega
      · rw [r2, fcs, eT1]
        have := a2.2
        omega
end

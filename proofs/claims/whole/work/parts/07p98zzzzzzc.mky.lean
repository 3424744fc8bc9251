/-! CASES ANEW: targetError with the number of actions, workers with what was made last -/
section
variable {d : Nat} {σ s u e r r' s1 s2 : bSt} {f : Int → bSt → Prop} {t x y k n m p v w o j l a i c q : Int} {R : bSt → Prop} {H : bHp} {L N : Nat} {g0 : Nat → bSt → Prop}
theorem w78g (hF : bFi σ) (hL : bTl σ) (hT : bTg σ) (h4 : bR4 σ) (hM : bMks σ) (hr : bRg (bi σ 6 10 + 1)) (ht : bTgk σ t) (q0 : 0 ≤ q) (hq : bRg q) (h : ∀ s, bWk σ s → bi s 6 10 = bi σ 6 10 + 1 → bi s 6 13 = bi σ 6 13 → f (bErr σ q.toNat (t * 256 + bi σ 10 0)) s) : bWp (d + 6) 78 [.ref 6, .int (bn t), .int (bn q)] σ (bRn f) := by
  have tc := hT.1.2.1
  have ht1 := ht.1
  have ht2 := ht.2
  have hc : 0 ≤ bi σ 10 0 ∧ bi σ 10 0 < 256 := by
    have e := hL.2.2.2
    have a0 := hL.2.2.1 0 (by decide) (by decide)
    have a1 := hL.2.2.1 1 (by decide) (by decide)
    have a2 := hL.2.2.1 2 (by decide) (by decide)
    have a3 := hL.2.2.1 3 (by decide) (by decide)
    omega
  refine ⟨rfl, fun A hA => sq78_0 (bWp_mono _) hA ⟨by omega, by omega⟩ hq (w70 hr ?_)⟩
  have W0 := bWk_0 hM hr
  have e0 : bi (bw (bw σ 6 10 (bi σ 6 10 + 1)) 6 11 0) 6 10 = bi σ 6 10 + 1 := by rw [bi_nj (by decide) (by decide) (by decide), bi_eq hr]
  have e013 : bi (bw (bw σ 6 10 (bi σ 6 10 + 1)) 6 11 0) 6 13 = bi σ 6 13 := by rw [bi_nj (by decide) (by decide) (by decide), bi_nj (by decide) (by decide) (by decide)]
  generalize bw (bw σ 6 10 (bi σ 6 10 + 1)) 6 11 0 = s0 at *
  have c0 : bi s0 10 0 = bi σ 10 0 := W0.1.2 10 (by decide) 0
  refine w69 ⟨ht1, by omega⟩ (by rw [c0]; exact hc) ?_
  rw [c0]
  have hx : 0 ≤ t * 256 + bi σ 10 0 ∧ (t * 256 + bi σ 10 0) / 256 = t := by omega
  refine w71 hF hL hT h4 W0 hx.1 (by rw [hx.2]; exact ht) fun s W E I => ?_
  have c1 : bi s 10 0 = bi σ 10 0 := W.1.2 10 (by decide) 0
  refine w69 ⟨ht1, by omega⟩ (by rw [c1]; exact hc) ?_
  rw [c1]
  have hk := h s W (E.1.1.trans e0) (E.1.2.trans e013)
  have L : ∀ (m : Nat) (j y : Int) (v1 v5 : Value), j + m = q → 0 ≤ j → bIno s (bi s 6 11) y → f (bErr σ m y) s → A (13, [.ref 6, v1, .int (bn q), .int (bn y), .int (bn j), v5], [], s) := by
    intro m
    induction m with
    | zero =>
      intro j y v1 v5 hj j0 I hf
      obtain ⟨i, i0, i1, i2⟩ := I
      obtain ⟨⟨y0, yt⟩, _, y29, _⟩ := W.2.1.2.2 i i0 i1
      rw [i2] at y0 yt y29
      have yt2 := yt.2
      have fr := bFx_rg hT y0 yt
      have ej : j = q := by omega
      have y8 : bShr y 8 = y / 256 := bShr_8 y0 (by omega)
      unfold bErr at hf
      rw [ej]
      refine sq78_13 (bWp_mono _) hA hq ⟨by omega, by omega⟩ hq ⟨fun w => absurd w (by omega), fun _ => w140i (n := 4096) rfl rfl (by decide) y0 (by omega) ?_⟩
      rw [y29, y8]
      refine ⟨fr.1, fun w => bRn_i (by decide) (by rwa [if_pos w] at hf), fun w => ⟨⟨by omega, by omega⟩, ⟨by omega, by omega⟩, bRn_i ⟨by omega, by omega⟩ (by rwa [if_neg w] at hf)⟩⟩
    | succ m ih =>
      intro j y v1 v5 hj j0 I hf
      obtain ⟨i, i0, i1, i2⟩ := I
      obtain ⟨⟨y0, yt⟩, _, y29, yk⟩ := W.2.1.2.2 i i0 i1
      rw [i2] at y0 yt y29 yk
      have yt2 := yt.2
      have fr := bFx_rg hT y0 yt
      have hq2 := hq.2
      unfold bErr at hf
      refine sq78_13 (bWp_mono _) hA hq ⟨by omega, by omega⟩ ⟨by omega, by omega⟩ ⟨fun _ => w140i (n := 4096) rfl rfl (by decide) y0 (by omega) ?_, fun w => absurd (show j < q by omega) w⟩
      rw [y29]
      refine ⟨fr.1, fun w => ⟨⟨by omega, by omega⟩, ?_⟩, fun w => bRn_i (by decide) (by rwa [if_neg w] at hf)⟩
      rw [if_pos w] at hf
      obtain ⟨k, k0, k1, k2, k3⟩ := bFx_6 hT y0 yt w
      rw [k3] at hf ⊢
      exact ih (j + 1) _ _ _ (by omega) (by omega) (bIno_e (yk k k0 k1 k2) (by omega) (fun _ _ _ => rfl)) hf
  exact L q.toNat 0 _ _ _ (by omega) (by decide) I hk
theorem w167g (hF : bFi σ) (hL : bTl σ) (hT : bTg σ) (hS : bRs σ) (hX : bi σ 7 15 = -1 ∨ bXe σ) (hM : bMks σ) (hr : bRg (bi σ 6 10 + 1)) (ht : bRg t) (hq : bRg q) (h1 : ¬ (bTgk σ t ∧ 0 ≤ q) → g0 0 (bC σ 1 6)) (h0 : bTgk σ t → 0 ≤ q → ∀ s1 s, bT68 σ s1 → (bi s1 7 15 = -1 ∨ bXe s1) → (∀ t, bTgk σ t → bRn1 σ s1 t) → bWk s1 s → bi s 6 10 = bi s1 6 10 + 1 → bi s 6 13 = bi s1 6 13 → f (bErr s1 q.toNat (t * 256 + bi σ 10 0)) s) : bWp (d + 9) 167 [.ref 11, .int (bn t), .int (bn q)] σ (bRnx f g0) := by
  have tc := hT.1
  refine ⟨rfl, fun A hA => sq167_0 (bWp_mono _) hA ht hq (w136 ht (by rw [tc.2.2]; exact ⟨by omega, by omega⟩) (by omega) (fun a => w137 hq (by omega) (fun b => ?_) (fun b => h1 fun w => b w.2)) (fun a => h1 fun w => a ⟨w.1.1, by rw [tc.2.2]; exact w.1.2⟩))⟩
  have tk : bTgk σ t := ⟨a.1, by rw [← tc.2.2]; exact a.2⟩
  refine w68 hT (bRs_S hS) hX fun s1 T1 X1 D1 => ?_
  have u1 := bT68_un T1
  have e22 : bi s1 12 22 = bi σ 12 22 := T1.2.1 12 (by decide) (by decide) 22
  have tk1 : ∀ t, bTgk s1 t → bTgk σ t := fun t h => ⟨h.1, by rw [← e22]; exact h.2⟩
  have e6 : bi s1 6 10 = bi σ 6 10 := T1.2.1 6 (by decide) (by decide) 10
  have e10 : bi s1 10 0 = bi σ 10 0 := T1.2.1 10 (by decide) (by decide) 0
  have M1 : bMks s1 := by
    unfold bMks
    simp only [T1.2.1 6 (by decide) (by decide), T1.2.1 27 (by decide) (by decide)]
    exact hM
  refine w78g (bFi_un u1 (by decide) hF) (bTl_un u1 (by decide) (by decide) hL) (bTg_68 T1 hT) (fun t h => (D1 t (tk1 t h)).2.2) M1 (by rw [e6]; exact hr) ⟨tk.1, by rw [e22]; exact tk.2⟩ b hq fun s W e e13 => ?_
  have er := bErr_rg (bTg_68 T1 hT) q.toNat (t * 256 + bi s1 10 0) (by
    have e := hL.2.2.2
    have a0 := hL.2.2.1 0 (by decide) (by decide)
    have a1 := hL.2.2.1 1 (by decide) (by decide)
    have a2 := hL.2.2.1 2 (by decide) (by decide)
    have a3 := hL.2.2.1 3 (by decide) (by decide)
    have := tk.1
    omega) (by
    have e := hL.2.2.2
    have a0 := hL.2.2.1 0 (by decide) (by decide)
    have a1 := hL.2.2.1 1 (by decide) (by decide)
    have a2 := hL.2.2.1 2 (by decide) (by decide)
    have a3 := hL.2.2.1 3 (by decide) (by decide)
    rw [show (t * 256 + bi s1 10 0) / 256 = t by omega]
    exact ⟨tk.1, by rw [e22]; exact tk.2⟩)
  have := h0 tk b s1 s T1 X1 D1 W e e13
  rw [e10] at er ⊢
  exact bRnx_i ⟨by omega, by omega⟩ this
theorem bPl_stepg (hR : ∀ σ s, bUn bPlK [0, 7] σ s → bi s 6 13 = bi σ 6 13 → R σ → R s) (hH : ∀ c k σ s, bUn bPlK [0, 7] σ s → H c k σ → H c k s) (h : bI9 (bGp N R) H L N σ) (u : bUn bPlK [0, 7] σ s) (e13 : bi s 6 13 = bi σ 6 13) (hT : bTg s) (hX : bi s 7 15 = -1 ∨ bXe s) (hM : bPm (N + 1) s) (h1 : s.2.2.2.2.1 ≤ σ.2.2.2.2.1 + 1) (h2 : s.2.2.2.2.2 ≤ σ.2.2.2.2.2 + 6) : bI9 (bGp (N + 1) R) H L (N + 1) s := by
  obtain ⟨a1, a2, a3, ⟨b1, b2, b3, b4, b5, b6⟩, c, k, a5, a6, a7⟩ := h
  have e : bT s = bT σ := by unfold bT; rw [u.2.1 22 (by decide) (by decide)]
  exact ⟨(bMid_un u (by decide)).2.trans a1, bFi_un u (by decide) a2, bTl_un u (by decide) (by decide) a3, ⟨hT, bTst_un u (by decide) (by decide) b2, bRs_un u (by decide) b3, hX, hM, hR _ _ u e13 b6⟩, c, k, by rw [e]; omega, by rw [e]; omega, hH _ _ _ _ u a7⟩
theorem bPl_nog (hR : ∀ σ s, bUn bPlK [0, 7] σ s → bi s 6 13 = bi σ 6 13 → R σ → R s) (hH : ∀ c k σ s, bUn bPlK [0, 7] σ s → H c k σ → H c k s) (h : bI9 (bGp N R) H L N σ) : bI9 (bGp (N + 1) R) H L (N + 1) (bw (bC σ 1 6) 12 0 v) := by
  have u0 : bUn [] [0] σ (bw (bC σ 1 6) 12 0 v) := bUn_f (bUn_C bUn_refl) (by decide) (by decide)
  obtain ⟨b1, b2, b3, b4, b5, b6⟩ := h.2.2.2.1
  exact bPl_stepg hR hH h (bUn_mono u0 (by decide) (by decide)) (u0.1 6 (by decide) (by decide) 13) (bTg_un u0 (by decide) (by decide) b1) (b4.imp (fun w => by rw [bi_ne (by decide)]; exact w) (fun w => bXe_un u0 (by decide) w)) (bPm_up (bPm_un u0 (by decide) (by decide) b5)) (Nat.le_refl _) (Nat.le_refl _)
/-- behind the class's plan and the reference's look, with the answer q between -/
theorem bPl_okg {q : Int64} (hR : ∀ σ s, bUn bPlK [0, 7] σ s → bi s 6 13 = bi σ 6 13 → R σ → R s) (hH : ∀ c k σ s, bUn bPlK [0, 7] σ s → H c k σ → H c k s) (h : bI9 (bGp N R) H L N σ) (T : bT68 σ s1) (X : bi s1 7 15 = -1 ∨ bXe s1) (W : bWk s1 s2) (e6 : bi s2 6 10 = bi s1 6 10 + 1) (e13 : bi s2 6 13 = bi s1 6 13) (LK : bLook m (bw (bwj s2 154 0 q) 12 0 0) r) : bi r 12 0 = 0 ∧ bj r 154 0 = q ∧ bI9 (bGp (N + 1) R) H L (N + 1) r := by
  obtain ⟨b1, b2, b3, b4, b5, b6⟩ := h.2.2.2.1
  have u1 : bUn bPlK [0, 7] σ s1 := bUn_mono (bT68_un T) (by decide) (by decide)
  have u2 : bUn bPlK [0, 7] σ (bw (bwj s2 154 0 q) 12 0 0) := bUn_f (bUn_o (bUn_S u1 (bSm_mono W.1 (by decide)) (by decide))) (by decide) (by decide)
  have u : bUn bPlK [0, 7] σ r := bUn_trans u2 (bUn_mono LK.2.1 (by decide) (by decide))
  have T1 := bTg_68 T b1
  have w2 : bUn bWkK [0] s1 (bw (bwj s2 154 0 q) 12 0 0) := bUn_f (bUn_o (bUn_S bUn_refl W.1 (by decide))) (by decide) (by decide)
  have e61 : bi s1 6 10 = bi σ 6 10 := T.2.1 6 (by decide) (by decide) 10
  have k6 : ∀ j, bi r 6 j = bi s2 6 j := fun j => by rw [LK.2.1.1 6 (by decide) (by decide), bi_ne (by decide), bi_bwj]
  have k27 : ∀ j, bi r 27 j = bi s2 27 j := fun j => by rw [LK.2.1.1 27 (by decide) (by decide), bi_ne (by decide), bi_bwj]
  have e2 : r.2 = (bw (bwj s2 154 0 q) 12 0 0).2 := LK.1
  have m10 := b5.1.1
  have m11 := b5.2
  refine ⟨?_, ?_, bPl_stepg hR hH h u ((k6 13).trans (e13.trans (T.2.1 6 (by decide) (by decide) 13))) (bTg_un LK.2.1 (by decide) (by decide) (bTg_un w2 (by decide) (by decide) T1)) (X.imp (fun w => ?_) (fun w => ?_)) ⟨⟨?_, fun y y0 y1 => ?_⟩, ?_⟩ ?_ ?_⟩
  · rw [LK.2.1.2.1 0 (by decide) (by decide), bi_eq (by decide)]
  · have : bj r 154 0 = bj (bw (bwj s2 154 0 q) 12 0 0) 154 0 := by unfold bj; rw [e2]
    rw [this]
    exact bj_eq
  · rw [LK.2.1.1 7 (by decide) (by decide), w2.1 7 (by decide) (by decide)]; exact w
  · exact bXe_un LK.2.1 (by decide) (bXe_un w2 (by decide) w)
  · rw [k6, e6, e61]; omega
  · rw [k27, k6]; exact W.2.1.1 y y0 y1
  · rw [k6, e6, e61]; omega
  · rw [e2]
    show s2.2.2.2.2.1 ≤ _
    rw [W.1.1, T.1]
    exact Nat.le_add_right _ _
  · rw [e2]
    show s2.2.2.2.2.2 ≤ _
    rw [W.1.1, T.1]
    exact Nat.le_add_right _ _
theorem k24g (hR : ∀ σ s, bUn bPlK [0, 7] σ s → bi s 6 13 = bi σ 6 13 → R σ → R s) (hH : ∀ c k σ s, bUn bPlK [0, 7] σ s → H c k σ → H c k s) (hN : N ≤ 100000) (h : bI9 (bGp N R) H L N σ) : bK24 (bI9 (bGp (N + 1) R) H L (N + 1)) σ := by
  obtain ⟨b1, b2, b3, b4, b5, b6⟩ := h.2.2.2.1
  have m10 := b5.1.1
  have m11 := b5.2
  refine wk24 fun t q ht hq => w167g (d := 2) h.2.1 h.2.2.1 b1 b3 b4 b5.1 ⟨by omega, by omega⟩ ht hq (fun z => ?_) (fun tk q0 s1 s2 T X D W e e13 => ?_)
  · have u0 : bUn [] [] σ (bC σ 1 6) := bUn_C bUn_refl
    exact ⟨bMid_C, w244 (bFi_un u0 (by decide) h.2.1) (bTl_un u0 (by decide) (by decide) h.2.2.1) (bTg_un u0 (by decide) (by decide) b1) (bRs_un u0 (by decide) b3) (fun w w2 => absurd ⟨w, w2⟩ z) ht hq (fun _ => ⟨bi_eq (by decide), fun w => absurd w (by decide), bPl_nog hR hH h⟩) (fun w w2 => absurd ⟨w, w2⟩ z)⟩
  · obtain ⟨p1, p2, p3, p4, p5, p6, p7, p8, p9⟩ := bPl_mid (bL (bErr s1 q.toNat (t * 256 + bi σ 10 0))) h T D W
    refine ⟨p1, w244 p2 p3 p4 p5 (fun _ _ => p7) ht hq (fun w => absurd ⟨⟨tk.1, by rw [p8]; exact tk.2⟩, q0⟩ w) (fun _ _ r LK => ?_)⟩
    obtain ⟨g1, g2, g3⟩ := bPl_okg hR hH h T X W e e13 LK
    refine ⟨g1, fun _ => ?_, g3⟩
    rw [g2, p9, bErr_m p6]
end
section
variable {d : Nat} {σ s t : bSt} {f : Int → bSt → Prop} {g : Nat → bSt → Prop} {x y : Int} {G : bSt → Prop} {H : bHp} {L n : Nat} {S : List Nat} {F : List Int}
theorem k25g (hT : ∀ s, G s → bM25 s) (hS : ∀ σ s, bUn [16, 17, 136, 137] [0] σ s → bM25 s → (∀ j, 0 ≤ j → bi s 137 j = bi σ 137 j ∨ bi s 137 j = -1) → G σ → G s) (hH : ∀ c k σ s, bUn [16, 17, 136, 137] [0] σ s → H c k σ → H c k s) (h : bI9 G H L n σ) : bK25 (bI9 G H L (n + 1)) σ := by
  have hM := hT _ h.2.2.2.1
  have fin : ∀ {s : bSt}, bUn [16, 17, 136, 137] [0] σ s → bM25 s → (∀ j, 0 ≤ j → bi s 137 j = bi σ 137 j ∨ bi s 137 j = -1) → s.2.2.2.2.1 ≤ σ.2.2.2.2.1 + 1 → s.2.2.2.2.2 ≤ σ.2.2.2.2.2 + 6 → bI9 G H L (n + 1) s := fun u m m2 c1 c2 => bI9_u (by decide) (by decide) u (hS _ _ u m m2) (fun c k => hH c k _ _ u) c1 c2 h
  have no : ∀ {v : Int}, bI9 G H L (n + 1) (bw (bC σ 1 6) 12 0 v) := fun {v} => by
    refine fin (bUn_f (bUn_C bUn_refl) (by decide) (by decide)) ⟨fun x x0 x1 => ?_, fun x x0 x1 => ?_⟩ (fun j _ => Or.inl (by rw [bi_ne (by decide)]; rfl)) (Nat.le_refl _) (Nat.le_refl _)
    · rw [bi_ne (by decide), bi_ne (by decide)]
      exact hM.1 x x0 x1
    · rw [bi_ne (by decide), bi_ne (by decide)]
      exact hM.2 x x0 x1
  refine wk25 fun x y hx hy => ⟨rfl, fun A hA => sq168_0 (bWp_mono _) hA hx hy (w136 hx (by decide) (by omega) (fun q => w138 hy (by decide) (by decide) (by omega) (fun q2 => w24c q ⟨by omega, q2.2⟩ fun s a => bRnx_i (bi_rg _ _ _) ?_) (fun q2 => ?_)) (fun q => ?_))⟩
  · have u1 : bUn [16, 17, 136, 137] [0] σ (bwj (bw s 16 x y) 154 0 (bL (bi σ 16 x))) := bUn_o (bUn_w (bUn_l bUn_refl a (by decide) (by decide)) (by decide) (by decide))
    refine ⟨bMid_un u1 (by decide), w278 hx hy (fun z => absurd q z) (fun _ z => absurd q2 z) (fun _ _ t b => ?_)⟩
    have u2 : bUn [16, 17, 136, 137] [0] σ t := bUn_l (bUn_w (bUn_f u1 (by decide) (by decide)) (by decide) (by decide)) b (by decide) (by decide)
    have e136 : bi (bwj (bw s 16 x y) 154 0 (bL (bi σ 16 x))) 136 x = bi σ 136 x := by rw [bi_bwj, bi_ne (by decide), a.2.1 _ _ (by decide)]
    have g16 : ∀ j, 0 ≤ j → bi t 16 j = if j = x then y else bi σ 16 j := fun j j0 => by
      rw [b.2.1 _ _ (by decide), bi_ne (by decide), bi_ne (by decide), bi_bwj, bi_bw q.1 j0 hy, a.2.1 _ _ (by decide)]
      simp only [true_and]
    have g136 : ∀ j, 0 ≤ j → bi t 136 j = if j = x then y else bi σ 136 j := fun j j0 => by
      rw [b.2.1 _ _ (by decide), bi_bw q.1 j0 hy, bi_ne (by decide), bi_bwj, bi_ne (by decide), a.2.1 _ _ (by decide)]
      simp only [true_and]
    have g17 : ∀ j, 0 ≤ j → bi t 17 j = if 4 * x + y ≤ j ∧ j < 4 * x + 4 then -1 else bi σ 17 j := fun j j0 => by
      rw [b.2.1 _ _ (by decide), bi_ne (by decide), bi_ne (by decide), bi_bwj, bi_ne (by decide), a.2.2 j j0]
    have g137 : ∀ j, 0 ≤ j → bi t 137 j = if 4 * x + y ≤ j ∧ j < 4 * x + 4 then -1 else bi σ 137 j := fun j j0 => by
      rw [b.2.2 j j0, bi_ne (by decide), bi_ne (by decide), bi_bwj, bi_ne (by decide), a.2.1 _ _ (by decide)]
    rw [e136]
    have ej : bj t 154 0 = bL (bi σ 16 x) := by
      unfold bj
      rw [b.1]
      exact bj_eq
    have ec : t.2.2.2.2 = σ.2.2.2.2 := by
      rw [b.1]
      show s.2.2.2.2 = _
      rw [a.1]
    refine ⟨by rw [b.2.1 _ _ (by decide), bi_ne (by decide)]; exact bi_eq (by decide), fun _ => by rw [ej, (hM.1 x q.1 q.2).1], fin u2 ⟨fun j j0 j1 => ?_, fun j j0 j1 => ?_⟩ (fun j j0 => by rw [g137 j j0]; split; exact Or.inr rfl; exact Or.inl rfl) (by rw [ec]; omega) (by rw [ec]; omega)⟩
    · rw [g16 j j0, g136 j j0]
      by_cases w : j = x
      · rw [if_pos w, if_pos w]
        exact ⟨rfl, q2⟩
      · rw [if_neg w, if_neg w]
        exact hM.1 j j0 j1
    · rw [g17 j j0, g137 j j0, hM.2 j j0 j1]
  · exact ⟨bMid_C, w278 hx hy (fun z => absurd q z) (fun _ _ => ⟨bi_eq (by decide), fun w => absurd w (by decide), no⟩) (fun _ z => absurd z q2)⟩
  · exact ⟨bMid_C, w278 hx hy (fun _ => ⟨bi_eq (by decide), fun w => absurd w (by decide), no⟩) (fun z => absurd z q) (fun z => absurd z q)⟩
end

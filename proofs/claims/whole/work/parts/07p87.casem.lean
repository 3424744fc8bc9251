/-! SMALL CASES: shards, tries, seed; sandbox, far, lose, workers, told, failed first, actions -/
section
variable {d : Nat} {σ s t : bSt} {f : Int → bSt → Prop} {x y : Int} {G : bSt → Prop} {H : bHp} {L n : Nat} {S : List Nat} {F : List Int}
theorem bI9_u (hS : ∀ k ∈ [200, 19, 20, 21, 56, 57, 201, 10, 52, 53, 54, 55, 70, 71, 72, 73, 74], k ∉ S) (hF : ∀ k ∈ [17, 22], k ∉ F) (u : bUn S F σ s) (hG : G σ → G s) (hH : ∀ c k, H c k σ → H c k s) (h1 : s.2.2.2.2.1 ≤ σ.2.2.2.2.1 + 1) (h2 : s.2.2.2.2.2 ≤ σ.2.2.2.2.2 + 6) (h : bI9 G H L n σ) : bI9 G H L (n + 1) s := by
  obtain ⟨a1, a2, a3, a4, c, k, a5, a6, a7⟩ := h
  have e : bT s = bT σ := by unfold bT; rw [u.2.1 22 (by decide) (hF 22 (by decide))]
  exact ⟨(bMid_un u (hS 200 (by decide))).2.trans a1, bFi_un u (fun k q => hS k (by simp at q ⊢; omega)) a2, bTl_un u (fun k q => hS k (by simp at q ⊢; omega)) (hF 17 (by decide)) a3, hG a4, c, k, by rw [e]; omega, by rw [e]; omega, hH _ _ a7⟩
/-- what a call that is only read leaves -/
theorem bI9_r (hG : ∀ σ s, bUn [] [0] σ s → G σ → G s) (hH : ∀ c k σ s, bUn [] [0] σ s → H c k σ → H c k s) (u : bUn [] [0] σ s) (h1 : s.2.2.2.2.1 ≤ σ.2.2.2.2.1 + 1) (h2 : s.2.2.2.2.2 ≤ σ.2.2.2.2.2 + 6) (h : bI9 G H L n σ) : bI9 G H L (n + 1) s :=
  bI9_u (by decide) (by decide) u (hG _ _ u) (fun c k => hH c k _ _ u) h1 h2 h
theorem bI9_no' {v : Int} (hG : ∀ σ s, bUn [] [0] σ s → G σ → G s) (hH : ∀ c k σ s, bUn [] [0] σ s → H c k σ → H c k s) (h : bI9 G H L n σ) : bI9 G H L (n + 1) (bw (bC σ 1 6) 12 0 v) :=
  bI9_r hG hH (bUn_f (bUn_C bUn_refl) (by decide) (by decide)) (Nat.le_refl _) (Nat.le_refl _) h
theorem k43 (hT : ∀ s, G s → bTg s ∧ bTst s) (hG : ∀ σ s, bUn [] [0] σ s → G σ → G s) (hH : ∀ c k σ s, bUn [] [0] σ s → H c k σ → H c k s) (h : bI9 G H L n σ) : bK43 (bI9 G H L (n + 1)) σ := by
  obtain ⟨hT1, hT2⟩ := hT _ h.2.2.2.1
  obtain ⟨e9, e16, e0⟩ := bTk_r hT1
  have h16 : 0 ≤ bi σ 12 22 ∧ bi σ 12 22 ≤ 16 := ⟨hT1.1.1, hT1.1.2.1⟩
  have fin : ∀ {x y : Int}, bRg x → bRg y → ¬ (bTgk σ x ∧ 0 ≤ y ∧ y < 4) → bAf43 (bI9 G H L (n + 1)) σ x y 1 (bC σ 1 6) := fun hx hy q => by
    refine ⟨bMid_C, rfl, fun A hA => sq306_0 (bWp_mono _) hA hx hy (w225 h16 hx (fun q2 => bFf (by decide) (w199 hy (by decide) (by decide) (fun q3 => absurd ⟨q2, q3.1, by omega⟩ q) (fun _ => bTt rfl ?_))) (fun _ => bTt rfl ?_))⟩
    · exact rN (by decide) (by decide) (bRn_i (by decide) ⟨bi_eq (by decide), fun w => absurd w (by decide), bI9_no' hG hH h⟩)
    · exact rN (by decide) (by decide) (bRn_i (by decide) ⟨bi_eq (by decide), fun w => absurd w (by decide), bI9_no' hG hH h⟩)
  refine wk43 fun x y hx hy => ⟨rfl, fun A hA => sq189_0 (bWp_mono _) hA hx hy ?_⟩
  rw [e9]
  refine w136 hx ⟨by omega, by omega⟩ (by omega) (fun q => w136 hy (by decide) (by omega) (fun q2 => w120 (hT1.2.1 x q.1 q.2) q.1 (by omega) ⟨bTi_m, ?_⟩) (fun q2 => fin hx hy fun w => q2 w.2)) (fun q => fin hx hy fun w => q w.1)
  rw [bTi_48]
  have hm := bTi_m (t := x)
  refine w140i (n := 4) bTi_t.2.2 (bTi_l _).2.2.1 (by decide) q2.1 q2.2 (bRnx_i (bi_rg _ _ _) ?_)
  have u1 : bUn [] [0] σ (bwj σ 154 0 (bL (bi σ (bTi x + 40) y))) := bUn_o bUn_refl
  refine ⟨bMid_un u1 (by decide), rfl, fun A hA => sq306_0 (bWp_mono _) hA hx hy (w225 h16 hx (fun _ => bFf (by decide) (w199 hy (by decide) (by decide) (fun _ => bFf (by decide) (rY ⟨⟨by omega, by omega⟩, ⟨by omega, by omega⟩, ⟨by omega, by omega⟩, ?_⟩)) (fun z => absurd ⟨q2.1, by omega⟩ z))) (fun z => absurd q z))⟩
  have e : bi σ (bTi x + 40) y = bi σ 151 (4 * x + y) := (hT2.1 x q.1 q.2).1 y q2.1 q2.2
  rw [bi_ne (by decide), bi_bwj]
  refine bRn_i (bi_rg _ _ _) ⟨bi_eq (by decide), fun _ => ?_, bI9_r hG hH (bUn_f u1 (by decide) (by decide)) (Nat.le_succ _) (Nat.le_add_right _ _) h⟩
  rw [← e]
  exact bj_eq
theorem k44 (hT : ∀ s, G s → bTst s) (hG : ∀ σ s, bUn [] [0] σ s → G σ → G s) (hH : ∀ c k σ s, bUn [] [0] σ s → H c k σ → H c k s) (h : bI9 G H L n σ) : bK44 (bI9 G H L (n + 1)) σ :=
  ⟨rfl, fun A hA => sq190_0 (bWp_mono _) hA (bRn_i (bi_rg _ _ _) ⟨bMid_un (bUn_refl (S := []) (F := [])) (by decide), rfl, fun A hA => sq307_0 (bWp_mono _) hA (w198 (bi_rg _ _ _) (bRn_i (bi_rg _ _ _) ⟨(hT _ h.2.2.2.1).2.2.1.1, bI9_r hG hH (bUn_f bUn_refl (by decide) (by decide)) (Nat.le_succ _) (Nat.le_add_right _ _) h⟩))⟩)⟩
theorem k45 (hT : ∀ s, G s → bTst s) (hS : ∀ σ s, bUn [11] [0, 112] σ s → bTst s → G σ → G s) (hH : ∀ c k σ s, bUn [11] [0, 112] σ s → H c k σ → H c k s) (h : bI9 G H L n σ) : bK45 (bI9 G H L (n + 1)) σ := by
  have hG : ∀ σ s, bUn [] [0] σ s → G σ → G s := fun σ s u w => hS σ s (bUn_mono u (by decide) (by decide)) (bTst_un u (by decide) (by decide) (hT _ w)) w
  have hH' : ∀ c k σ s, bUn [] [0] σ s → H c k σ → H c k s := fun c k σ s u w => hH c k σ s (bUn_mono u (by decide) (by decide)) w
  refine wk45 fun x hx => ⟨rfl, fun A hA => sq191_0 (bWp_mono _) hA hx (w138 hx (by decide) (by decide) (by omega) (fun q => ?_) (fun q => ?_))⟩
  · have u1 : bUn [11] [0, 112] σ (bwj σ 11 7 (bL x)) := bUn_trans bUn_refl ⟨fun _ _ _ _ => rfl, fun _ _ _ => rfl, fun a _ w _ => bj_ne (fun e => w (by rw [e]; decide)), fun _ _ _ => rfl, fun _ _ => rfl⟩
    refine ⟨bMid_un u1 (by decide), rfl, fun A hA => sq308_0 (bWp_mono _) hA hx (bFf (by omega) (rY ?_))⟩
    have u2 : bUn [11] [0, 112] σ (bw (bw (bwj σ 11 7 (bL x)) 12 0 0) 12 112 x) := bUn_f (bUn_f u1 (by decide) (by decide)) (by decide) (by decide)
    have e2 : bi (bw (bw (bwj σ 11 7 (bL x)) 12 0 0) 12 112 x) 12 112 = x := bi_eq hx
    have k := hT _ h.2.2.2.1
    have e22 : bi (bw (bw (bwj σ 11 7 (bL x)) 12 0 0) 12 112 x) 12 22 = bi σ 12 22 := u2.2.1 22 (by decide) (by decide)
    have e111 : bi (bw (bw (bwj σ 11 7 (bL x)) 12 0 0) 12 112 x) 12 111 = bi σ 12 111 := u2.2.1 111 (by decide) (by decide)
    have ne : ∀ b j, b ≠ 12 → bi (bw (bw (bwj σ 11 7 (bL x)) 12 0 0) 12 112 x) b j = bi σ b j := fun b j w => by rw [bi_ne w, bi_ne w]; rfl
    have nj : ∀ b j, b ≠ 11 → bj (bw (bw (bwj σ 11 7 (bL x)) 12 0 0) 12 112 x) b j = bj σ b j := fun b j w => bj_ne w
    have hb : bTst (bw (bw (bwj σ 11 7 (bL x)) 12 0 0) 12 112 x) := by
      obtain ⟨k1, k2, k3, k4, k5⟩ := k
      refine ⟨fun t t0 t1 => ?_, fun t t0 t1 => ?_, by rw [e111, ne 11 6 (by decide)]; exact k3, ?_, by rw [e2]; exact q.1⟩
      · rw [e22] at t1
        have hb2 := bTi_big (t := t)
        refine ⟨fun j j0 j1 => by rw [ne _ _ (by omega), ne 151 _ (by decide)]; exact (k1 t t0 t1).1 j j0 j1, fun q q0 q1 => ?_⟩
        have := (k1 t t0 t1).2 q q0 q1
        unfold bTbit bKbit at this ⊢
        rw [nj _ _ (by omega), ne 152 _ (by decide)]
        exact this
      · rw [e22] at t0
        refine ⟨fun j j0 j1 => by rw [ne 151 _ (by decide)]; exact (k2 t t0 t1).1 j j0 j1, fun q q0 q1 => ?_⟩
        have := (k2 t t0 t1).2 q q0 q1
        unfold bKbit at this ⊢
        rw [ne 152 _ (by decide)]
        exact this
      · rw [e2]
        exact bj_eq
    exact ⟨by rw [bi_nj (by decide) (by decide) (by decide)]; exact bi_eq (by decide), bI9_u (by decide) (by decide) u2 (hS _ _ u2 hb) (fun c k => hH c k _ _ u2) (Nat.le_succ _) (Nat.le_add_right _ _) h⟩
  · refine ⟨bMid_C, rfl, fun A hA => sq308_0 (bWp_mono _) hA hx (bTt (by have := hx.2; omega) (rN (by decide) (by decide) ⟨bi_eq (by decide), bI9_no' hG hH' h⟩))⟩
end

/-! THE CASES OF TARGETS (printed by gen14.py) -/
def bSa : List Nat := bSf ++ bSg
section
variable {σ s : bSt} {R : bSt → Prop} {H : bHp} {L n : Nat} {t v : Int}
theorem bTg_f {S : List Nat} (hR : ∀ σ s, bUn bSa [0, 17] σ s → R σ → R s) : ∀ σ s, bUn bSf [0, 17] σ s → (bTg σ ∧ R σ) → (bTg s ∧ R s) := fun σ s u h => ⟨bTg_un u (by decide) (by decide) h.1, hR σ s (bUn_mono u (fun k hk => List.mem_append_left _ hk) (fun k hk => hk)) h.2⟩
theorem bH_f (hH : ∀ c k σ s, bUn bSa [0, 17] σ s → H c k σ → H c k s) : ∀ c k σ s, bUn bSf [0, 17] σ s → H c k σ → H c k s := fun c k σ s u h => hH c k σ s (bUn_mono u (fun k hk => List.mem_append_left _ hk) (fun k hk => hk)) h
theorem bI8_t {t0 : Int} (hR : ∀ σ s, bUn bSa [0, 17] σ s → R σ → R s) (hH : ∀ c k σ s, bUn bSa [0, 17] σ s → H c k σ → H c k s) (h : bI9 (fun σ => bTg σ ∧ R σ) H L n σ) (u : bUn bSg [0] σ s) (hs : bTsm t0 σ s) (q : bTgk σ t0) (new : bTg1 s t0) (h1 : s.2.2.2.2.1 ≤ σ.2.2.2.2.1 + 1) (h2 : s.2.2.2.2.2 ≤ σ.2.2.2.2.2 + 6) : bI9 (fun σ => bTg σ ∧ R σ) H L (n + 1) s := by
  obtain ⟨a1, a2, a3, ⟨a4, a4'⟩, c, k, a5, a6, a7⟩ := h
  have e : bT s = bT σ := by unfold bT; rw [u.2.1 22 (by decide) (by decide)]
  have u' : bUn bSa [0, 17] σ s := bUn_mono u (fun k hk => List.mem_append_right _ hk) (by decide)
  exact ⟨(bMid_un u (by decide)).2.trans a1, bFi_un u (by decide) a2, bTl_un u (by decide) (by decide) a3, ⟨bTg_s hs a4 q.1 q.2 new, hR _ _ u' a4'⟩, c, k, by rw [e]; omega, by rw [e]; omega, hH _ _ _ _ u' a7⟩
theorem bI8_no (hR : ∀ σ s, bUn bSa [0, 17] σ s → R σ → R s) (hH : ∀ c k σ s, bUn bSa [0, 17] σ s → H c k σ → H c k s) (h : bI9 (fun σ => bTg σ ∧ R σ) H L n σ) : bI9 (fun σ => bTg σ ∧ R σ) H L (n + 1) (bw (bC σ 1 6) 12 0 v) := bI9_no (bTg_f (S := []) hR) (bH_f hH) h
theorem bTi_S {t : Int} : bTi t % 256 ∈ bSg ∧ bTi t % 256 ≠ 12 := by rw [bTi_m]; decide
theorem bTi_S38 {t : Int} : (bTi t + 38) % 256 ∈ bSg ∧ (bTi t + 38) % 256 ≠ 12 := by
  have := bTi_m (t := t)
  rw [show (bTi t + 38) % 256 = 46 by omega]; decide
theorem bTi_S39 {t : Int} : (bTi t + 39) % 256 ∈ bSg ∧ (bTi t + 39) % 256 ≠ 12 := by
  have := bTi_m (t := t)
  rw [show (bTi t + 39) % 256 = 47 by omega]; decide

theorem k14 (hR : ∀ σ s, bUn bSa [0, 17] σ s → R σ → R s) (hH : ∀ c k σ s, bUn bSa [0, 17] σ s → H c k σ → H c k s) (h : bI9 (fun σ => bTg σ ∧ R σ) H L n σ) : bK14 (bI9 (fun σ => bTg σ ∧ R σ) H L (n + 1)) σ := by
  have hT := h.2.2.2.1.1
  have h16 : 0 ≤ bi σ 12 22 ∧ bi σ 12 22 ≤ 16 := ⟨hT.1.1, hT.1.2.1⟩
  refine wk14 fun t x y ht hx hy => w157 hT (by decide) ht hx hy (fun z => ?_) (fun q q2 q3 => ?_)
  · exact ⟨bMid_C, w227 h16 ht hx hy (fun _ => ⟨bi_eq (by decide), bI8_no hR hH h⟩) (fun w w2 w3 => absurd ⟨w, w2, w3⟩ z)⟩
  ·
    have u1 : bUn bSg [0] σ (bw σ (bTi t) 3 (x * 8 + y)) := (bUn_w bUn_refl bTi_S.1 bTi_S.2)
    have e22 : bi (bw σ (bTi t) 3 (x * 8 + y)) 12 22 = bi σ 12 22 := u1.2.1 22 (by decide) (by decide)
    have g1 : ∀ g9, bTgk σ g9 → bTgk (bw σ (bTi t) 3 (x * 8 + y)) g9 := fun g9 w => ⟨w.1, by rw [e22]; exact w.2⟩
    have h16' : 0 ≤ bi (bw σ (bTi t) 3 (x * 8 + y)) 12 22 ∧ bi (bw σ (bTi t) 3 (x * 8 + y)) 12 22 ≤ 16 := by rw [e22]; exact h16
    refine ⟨bMid_un u1 (by decide), w227 h16' ht hx hy (fun z => absurd ⟨g1 t q, q2, q3⟩ z) (fun _ _ _ => ⟨?_, ?_⟩)⟩
    · rw [bi_ne (by decide), bi_ne (by decide)]
      exact bi_eq (by decide)
    · refine bI8_t (t0 := t) hR hH h (bUn_w (bUn_w (bUn_f u1 (by decide) (by decide)) (by decide) (by decide)) (by decide) (by decide)) (bTs_r (bTs_r (bTs_f (bTs_c bTs_refl q.1 (Or.inl rfl))) q.1 (by decide)) q.1 (by decide)) q ?_ (Nat.le_succ _) (Nat.le_add_right _ _)
      have hb := bTi_big (t := t)
      have ht0 := q.1
      obtain ⟨k1, k2, k3, k4, k5, k6, k7, k8, k9, k10, k11, k12, k13, k14, k15⟩ := hT.2.2.2 t q.1 q.2
      unfold bTg1
      simp (disch := omega) only [bi_ne, bi_nj, bi_bwj, bi_eq]
      refine ⟨k1, k2, k3, ?_, k5, k6, k7, k8, k9, k10, k11, k12, k13, k14, k15⟩
      · exact Or.inr ⟨q2.1, q2.2, q3.1, q3.2, rfl⟩
theorem k20 (hR : ∀ σ s, bUn bSa [0, 17] σ s → R σ → R s) (hH : ∀ c k σ s, bUn bSa [0, 17] σ s → H c k σ → H c k s) (h : bI9 (fun σ => bTg σ ∧ R σ) H L n σ) : bK20 (bI9 (fun σ => bTg σ ∧ R σ) H L (n + 1)) σ := by
  have hT := h.2.2.2.1.1
  have h16 : 0 ≤ bi σ 12 22 ∧ bi σ 12 22 ≤ 16 := ⟨hT.1.1, hT.1.2.1⟩
  refine wk20 fun t x ht hx => w163 hT (by decide) ht hx (fun z => ?_) (fun q z => ?_) (fun q q2 => ?_)
  · exact ⟨bMid_C, w234 h16 ht hx (fun _ => ⟨bi_eq (by decide), fun w => absurd w (by decide), bI8_no hR hH h⟩) (fun w => absurd w z) (fun w => absurd w z)⟩
  · exact ⟨bMid_C, w234 h16 ht hx (fun w => absurd q w) (fun _ _ => ⟨bi_eq (by decide), fun w => absurd w (by decide), bI8_no hR hH h⟩) (fun _ w => absurd w z)⟩
  ·
    have u1 : bUn bSg [0] σ (bwj (bw σ (bTi t) 5 x) 154 0 (bL (bi σ 80 t))) := (bUn_o (bUn_w bUn_refl bTi_S.1 bTi_S.2))
    have e22 : bi (bwj (bw σ (bTi t) 5 x) 154 0 (bL (bi σ 80 t))) 12 22 = bi σ 12 22 := u1.2.1 22 (by decide) (by decide)
    have g1 : ∀ g9, bTgk σ g9 → bTgk (bwj (bw σ (bTi t) 5 x) 154 0 (bL (bi σ 80 t))) g9 := fun g9 w => ⟨w.1, by rw [e22]; exact w.2⟩
    have h16' : 0 ≤ bi (bwj (bw σ (bTi t) 5 x) 154 0 (bL (bi σ 80 t))) 12 22 ∧ bi (bwj (bw σ (bTi t) 5 x) 154 0 (bL (bi σ 80 t))) 12 22 ≤ 16 := by rw [e22]; exact h16
    refine ⟨bMid_un u1 (by decide), w234 h16' ht hx (fun z => absurd (g1 t q) z) (fun _ z => absurd q2 z) (fun _ _ => ⟨?_, fun _ => ?_, ?_⟩)⟩
    · rw [bi_ne (by decide)]
      exact bi_eq (by decide)
    · show bj (bwj (bw σ (bTi t) 5 x) 154 0 (bL (bi σ 80 t))) 154 0 = bL (bi (bw σ (bTi t) 5 x) 80 t)
      rw [bj_eq, bi_ne (by have := bTi_big (t := t); omega)]
    · refine bI8_t (t0 := t) hR hH h (bUn_w (bUn_f u1 (by decide) (by decide)) (by decide) (by decide)) (bTs_r (bTs_f (bTs_o (bTs_c bTs_refl q.1 (Or.inl rfl)))) q.1 (by decide)) q ?_ (Nat.le_succ _) (Nat.le_add_right _ _)
      have hb := bTi_big (t := t)
      have ht0 := q.1
      obtain ⟨k1, k2, k3, k4, k5, k6, k7, k8, k9, k10, k11, k12, k13, k14, k15⟩ := hT.2.2.2 t q.1 q.2
      unfold bTg1
      simp (disch := omega) only [bi_ne, bi_nj, bi_bwj, bi_eq]
      refine ⟨k1, k2, k3, k4, ?_, k6, k7, k8, k9, k10, k11, k12, k13, k14, k15⟩
      · exact ⟨by trivial, q2.1, by omega⟩
theorem k21 (hR : ∀ σ s, bUn bSa [0, 17] σ s → R σ → R s) (hH : ∀ c k σ s, bUn bSa [0, 17] σ s → H c k σ → H c k s) (h : bI9 (fun σ => bTg σ ∧ R σ) H L n σ) : bK21 (bI9 (fun σ => bTg σ ∧ R σ) H L (n + 1)) σ := by
  have hT := h.2.2.2.1.1
  have h16 : 0 ≤ bi σ 12 22 ∧ bi σ 12 22 ≤ 16 := ⟨hT.1.1, hT.1.2.1⟩
  refine wk21 fun t x y ht hx hy => w164 hT (by decide) ht hx hy (fun z => ?_) (fun q q2 z => ?_) (fun q q2 q3 => ?_)
  · exact ⟨bMid_C, w235 h16 ht hx hy (fun _ => ⟨bi_eq (by decide), bI8_no hR hH h⟩) (fun w w2 => absurd ⟨w, w2⟩ z) (fun w w2 => absurd ⟨w, w2⟩ z)⟩
  · exact ⟨bMid_C, w235 h16 ht hx hy (fun w => absurd ⟨q, q2⟩ w) (fun _ _ _ => ⟨bi_eq (by decide), bI8_no hR hH h⟩) (fun _ _ w => absurd w z)⟩
  · have r6 : bRg (if x = -1 then 255 else bChg 255 x 0) := by
      split
      · decide
      · have := bChg_rg (c := 255) (s := x) (v := 0) (by decide) (by decide) (by decide) (by decide)
        exact ⟨by omega, by omega⟩
    have y3 : y ≤ 3 := by have := q3.2; split at this <;> omega
    have r7 : bRg (if x = -1 then 0 else bChg 0 x y) := by
      split
      · decide
      · have := bChg_rg (c := 0) (s := x) (v := y) (by decide) (by decide) q3.1 (by omega)
        exact ⟨by omega, by omega⟩
    generalize hg6 : (if x = -1 then 255 else bChg 255 x 0) = g6 at r6 ⊢
    generalize hg7 : (if x = -1 then 0 else bChg 0 x y) = g7 at r7 ⊢
    have u1 : bUn bSg [0] σ (bw (bw σ (bTi t) 6 g6) (bTi t) 7 g7) := (bUn_w (bUn_w bUn_refl bTi_S.1 bTi_S.2) bTi_S.1 bTi_S.2)
    have e22 : bi (bw (bw σ (bTi t) 6 g6) (bTi t) 7 g7) 12 22 = bi σ 12 22 := u1.2.1 22 (by decide) (by decide)
    have g1 : ∀ g9, bTgk σ g9 → bTgk (bw (bw σ (bTi t) 6 g6) (bTi t) 7 g7) g9 := fun g9 w => ⟨w.1, by rw [e22]; exact w.2⟩
    have h16' : 0 ≤ bi (bw (bw σ (bTi t) 6 g6) (bTi t) 7 g7) 12 22 ∧ bi (bw (bw σ (bTi t) 6 g6) (bTi t) 7 g7) 12 22 ≤ 16 := by rw [e22]; exact h16
    refine ⟨bMid_un u1 (by decide), w235 h16' ht hx hy (fun z => absurd ⟨g1 t q, q2⟩ z) (fun _ _ z => absurd q3 z) (fun _ _ _ => ⟨?_, ?_⟩)⟩
    · rw [bi_ne (by decide), bi_ne (by decide)]
      exact bi_eq (by decide)
    · refine bI8_t (t0 := t) hR hH h (bUn_w (bUn_w (bUn_f u1 (by decide) (by decide)) (by decide) (by decide)) (by decide) (by decide)) (bTs_r (bTs_r (bTs_f (bTs_c (bTs_c bTs_refl q.1 (Or.inl rfl)) q.1 (Or.inl rfl))) q.1 (by decide)) q.1 (by decide)) q ?_ (Nat.le_succ _) (Nat.le_add_right _ _)
      have hb := bTi_big (t := t)
      have ht0 := q.1
      obtain ⟨k1, k2, k3, k4, k5, k6, k7, k8, k9, k10, k11, k12, k13, k14, k15⟩ := hT.2.2.2 t q.1 q.2
      unfold bTg1
      simp (disch := omega) only [bi_ne, bi_nj, bi_bwj, bi_eq]
      refine ⟨k1, k2, k3, k4, k5, ?_, k7, k8, k9, k10, k11, k12, k13, k14, k15⟩
      · by_cases ex : x = -1
        · rw [if_pos ex] at hg6 hg7
          exact Or.inl ⟨ex, hg6.symm, hg7.symm⟩
        · rw [if_neg ex] at hg6 hg7
          exact Or.inr ⟨by omega, by omega, q3.1, by omega, hg6.symm, hg7.symm⟩
theorem k22 (hR : ∀ σ s, bUn bSa [0, 17] σ s → R σ → R s) (hH : ∀ c k σ s, bUn bSa [0, 17] σ s → H c k σ → H c k s) (h : bI9 (fun σ => bTg σ ∧ R σ) H L n σ) : bK22 (bI9 (fun σ => bTg σ ∧ R σ) H L (n + 1)) σ := by
  have hT := h.2.2.2.1.1
  have h16 : 0 ≤ bi σ 12 22 ∧ bi σ 12 22 ≤ 16 := ⟨hT.1.1, hT.1.2.1⟩
  refine wk22 fun t x y v ht hx hy hv => w165 hT (by decide) ht hx hy hv (fun z => ?_) (fun q q2 z => ?_) (fun q q2 q3 => ?_)
  · exact ⟨bMid_C, w236 h16 ht hx hy hv (fun _ => ⟨bi_eq (by decide), bI8_no hR hH h⟩) (fun w w2 => absurd ⟨w, w2⟩ z) (fun w w2 => absurd ⟨w, w2⟩ z)⟩
  · exact ⟨bMid_C, w236 h16 ht hx hy hv (fun w => absurd ⟨q, q2⟩ w) (fun _ _ _ => ⟨bi_eq (by decide), bI8_no hR hH h⟩) (fun _ _ w => absurd w z)⟩
  · have hvr := b01_rg hv
    have u1 : bUn bSg [0] σ (bw (bw (bw σ (bTi t) 8 x) (bTi t) 9 y) (bTi t) 10 v) := (bUn_w (bUn_w (bUn_w bUn_refl bTi_S.1 bTi_S.2) bTi_S.1 bTi_S.2) bTi_S.1 bTi_S.2)
    have e22 : bi (bw (bw (bw σ (bTi t) 8 x) (bTi t) 9 y) (bTi t) 10 v) 12 22 = bi σ 12 22 := u1.2.1 22 (by decide) (by decide)
    have g1 : ∀ g9, bTgk σ g9 → bTgk (bw (bw (bw σ (bTi t) 8 x) (bTi t) 9 y) (bTi t) 10 v) g9 := fun g9 w => ⟨w.1, by rw [e22]; exact w.2⟩
    have h16' : 0 ≤ bi (bw (bw (bw σ (bTi t) 8 x) (bTi t) 9 y) (bTi t) 10 v) 12 22 ∧ bi (bw (bw (bw σ (bTi t) 8 x) (bTi t) 9 y) (bTi t) 10 v) 12 22 ≤ 16 := by rw [e22]; exact h16
    refine ⟨bMid_un u1 (by decide), w236 h16' ht hx hy hv (fun z => absurd ⟨g1 t q, q2⟩ z) (fun _ _ z => absurd q3 z) (fun _ _ _ => ⟨?_, ?_⟩)⟩
    · rw [bi_ne (by decide), bi_ne (by decide), bi_ne (by decide)]
      exact bi_eq (by decide)
    · refine bI8_t (t0 := t) hR hH h (bUn_w (bUn_w (bUn_w (bUn_f u1 (by decide) (by decide)) (by decide) (by decide)) (by decide) (by decide)) (by decide) (by decide)) (bTs_r (bTs_r (bTs_r (bTs_f (bTs_c (bTs_c (bTs_c bTs_refl q.1 (Or.inl rfl)) q.1 (Or.inl rfl)) q.1 (Or.inl rfl))) q.1 (by decide)) q.1 (by decide)) q.1 (by decide)) q ?_ (Nat.le_succ _) (Nat.le_add_right _ _)
      have hb := bTi_big (t := t)
      have ht0 := q.1
      obtain ⟨k1, k2, k3, k4, k5, k6, k7, k8, k9, k10, k11, k12, k13, k14, k15⟩ := hT.2.2.2 t q.1 q.2
      unfold bTg1
      simp (disch := omega) only [bi_ne, bi_nj, bi_bwj, bi_eq]
      refine ⟨k1, k2, k3, k4, k5, k6, ?_, ?_, ?_, k10, k11, k12, k13, k14, k15⟩
      · exact ⟨by trivial, q2.1, q2.2⟩
      · exact ⟨by trivial, q3.1, q3.2⟩
      · exact ⟨by trivial, hv⟩
theorem k23 (hR : ∀ σ s, bUn bSa [0, 17] σ s → R σ → R s) (hH : ∀ c k σ s, bUn bSa [0, 17] σ s → H c k σ → H c k s) (h : bI9 (fun σ => bTg σ ∧ R σ) H L n σ) : bK23 (bI9 (fun σ => bTg σ ∧ R σ) H L (n + 1)) σ := by
  have hT := h.2.2.2.1.1
  have h16 : 0 ≤ bi σ 12 22 ∧ bi σ 12 22 ≤ 16 := ⟨hT.1.1, hT.1.2.1⟩
  refine wk23 fun t x y ht hx hy => w166 hT (by decide) ht hx hy (fun z => ?_) (fun q z => ?_) (fun q q2 => ?_)
  · exact ⟨bMid_C, w237 h16 ht hx hy (fun _ => ⟨bi_eq (by decide), bI8_no hR hH h⟩) (fun w => absurd w z) (fun w => absurd w z)⟩
  · exact ⟨bMid_C, w237 h16 ht hx hy (fun w => absurd q w) (fun _ _ => ⟨bi_eq (by decide), bI8_no hR hH h⟩) (fun _ w => absurd w z)⟩
  ·
    have u1 : bUn bSg [0] σ (bw (bw σ (bTi t) 11 x) (bTi t) 12 y) := (bUn_w (bUn_w bUn_refl bTi_S.1 bTi_S.2) bTi_S.1 bTi_S.2)
    have e22 : bi (bw (bw σ (bTi t) 11 x) (bTi t) 12 y) 12 22 = bi σ 12 22 := u1.2.1 22 (by decide) (by decide)
    have g1 : ∀ g9, bTgk σ g9 → bTgk (bw (bw σ (bTi t) 11 x) (bTi t) 12 y) g9 := fun g9 w => ⟨w.1, by rw [e22]; exact w.2⟩
    have h16' : 0 ≤ bi (bw (bw σ (bTi t) 11 x) (bTi t) 12 y) 12 22 ∧ bi (bw (bw σ (bTi t) 11 x) (bTi t) 12 y) 12 22 ≤ 16 := by rw [e22]; exact h16
    refine ⟨bMid_un u1 (by decide), w237 h16' ht hx hy (fun z => absurd (g1 t q) z) (fun _ z => absurd q2 z) (fun _ _ => ⟨?_, ?_⟩)⟩
    · rw [bi_ne (by decide), bi_ne (by decide)]
      exact bi_eq (by decide)
    · refine bI8_t (t0 := t) hR hH h (bUn_w (bUn_w (bUn_f u1 (by decide) (by decide)) (by decide) (by decide)) (by decide) (by decide)) (bTs_r (bTs_r (bTs_f (bTs_c (bTs_c bTs_refl q.1 (Or.inl rfl)) q.1 (Or.inl rfl))) q.1 (by decide)) q.1 (by decide)) q ?_ (Nat.le_succ _) (Nat.le_add_right _ _)
      have hb := bTi_big (t := t)
      have ht0 := q.1
      obtain ⟨k1, k2, k3, k4, k5, k6, k7, k8, k9, k10, k11, k12, k13, k14, k15⟩ := hT.2.2.2 t q.1 q.2
      unfold bTg1
      simp (disch := omega) only [bi_ne, bi_nj, bi_bwj, bi_eq]
      refine ⟨k1, k2, k3, k4, k5, k6, k7, k8, k9, ?_, ?_, k12, k13, k14, k15⟩
      · exact ⟨by trivial, q2.1.1, by omega⟩
      · exact ⟨by trivial, q2.2.1, by omega⟩
theorem k19 (hR : ∀ σ s, bUn bSa [0, 17] σ s → R σ → R s) (hH : ∀ c k σ s, bUn bSa [0, 17] σ s → H c k σ → H c k s) (h : bI9 (fun σ => bTg σ ∧ R σ) H L n σ) : bK19 (bI9 (fun σ => bTg σ ∧ R σ) H L (n + 1)) σ := by
  have hT := h.2.2.2.1.1
  have h16 : 0 ≤ bi σ 12 22 ∧ bi σ 12 22 ≤ 16 := ⟨hT.1.1, hT.1.2.1⟩
  refine wk19 fun t ht => w162 hT (by decide) ht (fun z => ?_) (fun q z => ?_) (fun q q2 => ?_)
  · exact ⟨bMid_C, w233 h16 (fun w => absurd w z) ht (fun _ => ⟨bi_eq (by decide), fun w => absurd w (by decide), bI8_no hR hH h⟩) (fun w => absurd w z) (fun w => absurd w z)⟩
  · exact ⟨bMid_C, w233 h16 (fun w => (hT.2.2.2 t w.1 w.2).2.2.2.2.2.2.2.2.2.2.2.2.1.2) ht (fun w => absurd q w) (fun _ _ => ⟨bi_eq (by decide), fun w => absurd w (by decide), bI8_no hR hH h⟩) (fun _ w => absurd w (by show ¬ 0 < bi σ 85 t; omega))⟩
  · have hc := (hT.2.2.2 t q.1 q.2).2.2.2.2.2.2.2.2.2.2.2.2.1
    have e85 : bi (bwj (bw σ (bTi t) 13 (bi σ 85 t - 1)) 154 0 (bL (bi σ 85 t - 1))) 85 t = bi σ 85 t := bi_ne (by have := bTi_big (t := t); omega)
    have u1 : bUn bSg [0] σ (bwj (bw σ (bTi t) 13 (bi σ 85 t - 1)) 154 0 (bL (bi σ 85 t - 1))) := (bUn_o (bUn_w bUn_refl bTi_S.1 bTi_S.2))
    have e22 : bi (bwj (bw σ (bTi t) 13 (bi σ 85 t - 1)) 154 0 (bL (bi σ 85 t - 1))) 12 22 = bi σ 12 22 := u1.2.1 22 (by decide) (by decide)
    have g1 : ∀ g9, bTgk σ g9 → bTgk (bwj (bw σ (bTi t) 13 (bi σ 85 t - 1)) 154 0 (bL (bi σ 85 t - 1))) g9 := fun g9 w => ⟨w.1, by rw [e22]; exact w.2⟩
    have h16' : 0 ≤ bi (bwj (bw σ (bTi t) 13 (bi σ 85 t - 1)) 154 0 (bL (bi σ 85 t - 1))) 12 22 ∧ bi (bwj (bw σ (bTi t) 13 (bi σ 85 t - 1)) 154 0 (bL (bi σ 85 t - 1))) 12 22 ≤ 16 := by rw [e22]; exact h16
    refine ⟨bMid_un u1 (by decide), w233 h16' (fun _ => by rw [e85]; exact hc.2) ht (fun z => absurd (g1 t q) z) (fun _ z => absurd z (by rw [e85]; omega)) (fun _ _ => ?_)⟩
    rw [e85]
    refine ⟨?_, fun _ => ?_, ?_⟩
    · rw [bi_ne (by decide)]
      exact bi_eq (by decide)
    · show bj (bwj (bw σ (bTi t) 13 (bi σ 85 t - 1)) 154 0 (bL (bi σ 85 t - 1))) 154 0 = _
      exact bj_eq
    · refine bI8_t (t0 := t) hR hH h (bUn_w (bUn_f u1 (by decide) (by decide)) (by decide) (by decide)) (bTs_r (bTs_f (bTs_o (bTs_c bTs_refl q.1 (Or.inl rfl)))) q.1 (by decide)) q ?_ (Nat.le_succ _) (Nat.le_add_right _ _)
      have hb := bTi_big (t := t)
      have ht0 := q.1
      obtain ⟨k1, k2, k3, k4, k5, k6, k7, k8, k9, k10, k11, k12, k13, k14, k15⟩ := hT.2.2.2 t q.1 q.2
      unfold bTg1
      simp (disch := omega) only [bi_ne, bi_nj, bi_bwj, bi_eq]
      refine ⟨k1, k2, k3, k4, k5, k6, k7, k8, k9, k10, k11, k12, ?_, k14, ?_⟩
      · exact ⟨by trivial, by omega, by omega⟩
      · exact fun i i0 i1 => k15 i i0 (by omega)
end

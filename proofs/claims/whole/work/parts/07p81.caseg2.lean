/-! THE CASES OF TARGETS, 2: what is added to a target (printed by gen14.py) -/
section
variable {σ s : bSt} {R : bSt → Prop} {H : bHp} {L n : Nat} {t v : Int}
theorem k16 (hR : ∀ σ s, bUn bSa [0, 17] σ s → R σ → R s) (hH : ∀ c k σ s, bUn bSa [0, 17] σ s → H c k σ → H c k s) (h : bI9 (fun σ => bTg σ ∧ R σ) H L n σ) : bK16 (bI9 (fun σ => bTg σ ∧ R σ) H L (n + 1)) σ := by
  have hT := h.2.2.2.1.1
  have h16 : 0 ≤ bi σ 12 22 ∧ bi σ 12 22 ≤ 16 := ⟨hT.1.1, hT.1.2.1⟩
  refine wk16 fun t x ht hx => w159 hT (by decide) ht hx (fun z => ?_) (fun q q2 z => ?_) (fun q q2 q3 => ?_)
  · exact ⟨bMid_C, w230 h16 (fun w => (hT.2.2.2 t w.1 w.2).2.2.2.2.2.2.2.2.2.2.2.2.1.2) ht hx (fun _ => ⟨bi_eq (by decide), fun w => absurd w (by decide), bI8_no hR hH h⟩) (fun w w2 => absurd ⟨w, w2⟩ z) (fun w w2 => absurd ⟨w, w2⟩ z)⟩
  · exact ⟨bMid_C, w230 h16 (fun w => (hT.2.2.2 t w.1 w.2).2.2.2.2.2.2.2.2.2.2.2.2.1.2) ht hx (fun w => absurd ⟨q, q2⟩ w) (fun _ _ _ => ⟨bi_eq (by decide), fun w => absurd w (by decide), bI8_no hR hH h⟩) (fun _ _ w => absurd w (by show ¬ bi σ 85 t < 6; omega))⟩
  ·
    have hc := (hT.2.2.2 t q.1 q.2).2.2.2.2.2.2.2.2.2.2.2.2.1
    have e85 : bi (bwj (bw (bw σ (bTi t + 38) (bi σ 85 t) x) (bTi t) 13 (bi σ 85 t + 1)) 154 0 (bL (bi σ 85 t + 1))) 85 t = bi σ 85 t := (bi_ne (by have := bTi_big (t := t); omega)).trans (bi_ne (by have := bTi_big (t := t); omega))
    have u1 : bUn bSg [0] σ (bwj (bw (bw σ (bTi t + 38) (bi σ 85 t) x) (bTi t) 13 (bi σ 85 t + 1)) 154 0 (bL (bi σ 85 t + 1))) := (bUn_o (bUn_w (bUn_w bUn_refl bTi_S38.1 bTi_S38.2) bTi_S.1 bTi_S.2))
    have e22 : bi (bwj (bw (bw σ (bTi t + 38) (bi σ 85 t) x) (bTi t) 13 (bi σ 85 t + 1)) 154 0 (bL (bi σ 85 t + 1))) 12 22 = bi σ 12 22 := u1.2.1 22 (by decide) (by decide)
    have g1 : ∀ g9, bTgk σ g9 → bTgk (bwj (bw (bw σ (bTi t + 38) (bi σ 85 t) x) (bTi t) 13 (bi σ 85 t + 1)) 154 0 (bL (bi σ 85 t + 1))) g9 := fun g9 w => ⟨w.1, by rw [e22]; exact w.2⟩
    have h16' : 0 ≤ bi (bwj (bw (bw σ (bTi t + 38) (bi σ 85 t) x) (bTi t) 13 (bi σ 85 t + 1)) 154 0 (bL (bi σ 85 t + 1))) 12 22 ∧ bi (bwj (bw (bw σ (bTi t + 38) (bi σ 85 t) x) (bTi t) 13 (bi σ 85 t + 1)) 154 0 (bL (bi σ 85 t + 1))) 12 22 ≤ 16 := by rw [e22]; exact h16
    refine ⟨bMid_un u1 (by decide), w230 h16' (fun _ => by rw [e85]; exact hc.2) ht hx (fun z => absurd ⟨g1 t q, q2⟩ z) (fun _ _ z => absurd z (by rw [e85]; omega)) (fun _ _ _ => ?_)⟩
    unfold bItw
    rw [e85]
    refine ⟨?_, fun _ => ?_, ?_⟩
    · rw [bi_ne (by decide), bi_ne (by decide), bi_ne (by decide), bi_ne (by decide)]
      exact bi_eq (by decide)
    · show bj (bwj (bw (bw σ (bTi t + 38) (bi σ 85 t) x) (bTi t) 13 (bi σ 85 t + 1)) 154 0 (bL (bi σ 85 t + 1))) 154 0 = _
      exact bj_eq
    · refine bI8_t (t0 := t) hR hH h (bUn_w (bUn_w (bUn_w (bUn_w (bUn_f u1 (by decide) (by decide)) (by decide) (by decide)) (by decide) (by decide)) (by decide) (by decide)) (by decide) (by decide)) (bTs_r (bTs_i (bTs_i (bTs_i (bTs_f (bTs_o (bTs_c (bTs_c bTs_refl q.1 (Or.inr (Or.inl rfl))) q.1 (Or.inl rfl)))) q.1 (by decide) hc.2.1 (by omega)) q.1 (by decide) hc.2.1 (by omega)) q.1 (by decide) hc.2.1 (by omega)) q.1 (by decide)) q ?_ (Nat.le_succ _) (Nat.le_add_right _ _)
      have hb := bTi_big (t := t)
      have ht0 := q.1
      obtain ⟨k1, k2, k3, k4, k5, k6, k7, k8, k9, k10, k11, k12, k13, k14, k15⟩ := hT.2.2.2 t q.1 q.2
      unfold bTg1
      simp (disch := omega) only [bi_ne, bi_nj, bi_bwj, bi_eq]
      refine ⟨k1, k2, k3, k4, k5, k6, k7, k8, k9, k10, k11, k12, ?_, k14, ?_⟩
      · exact ⟨by trivial, by omega, by omega⟩
      · intro i i0 i1
        by_cases w : i = bi σ 85 t
        · rw [w]
          simp (disch := omega) only [bi_ne, bi_nj, bi_bwj, bi_eq]
          exact ⟨Or.inl rfl, Or.inl ⟨rfl, q2.1, q2.2, rfl⟩⟩
        · simp (disch := omega) only [bi_ne, bi_nj, bi_bwj, bi_eq]
          exact k15 i i0 (by omega)
theorem k17 (hR : ∀ σ s, bUn bSa [0, 17] σ s → R σ → R s) (hH : ∀ c k σ s, bUn bSa [0, 17] σ s → H c k σ → H c k s) (h : bI9 (fun σ => bTg σ ∧ R σ) H L n σ) : bK17 (bI9 (fun σ => bTg σ ∧ R σ) H L (n + 1)) σ := by
  have hT := h.2.2.2.1.1
  have h16 : 0 ≤ bi σ 12 22 ∧ bi σ 12 22 ≤ 16 := ⟨hT.1.1, hT.1.2.1⟩
  refine wk17 fun t x v ht hx hv => w160 hT (by decide) ht hx hv (fun z => ?_) (fun q z => ?_) (fun q q2 z => ?_) (fun q q2 q3 => ?_)
  · exact ⟨bMid_C, w231 h16 (fun w => (hT.2.2.2 t w.1 w.2).2.2.2.2.2.2.2.2.2.2.2.2.1.2) ht hx hv (fun _ => ⟨bi_eq (by decide), fun w => absurd w (by decide), bI8_no hR hH h⟩) (fun w => absurd w z) (fun w => absurd w z) (fun w => absurd w z)⟩
  · exact ⟨bMid_C, w231 h16 (fun w => (hT.2.2.2 t w.1 w.2).2.2.2.2.2.2.2.2.2.2.2.2.1.2) ht hx hv (fun w => absurd q w) (fun _ _ => ⟨bi_eq (by decide), fun w => absurd w (by decide), bI8_no hR hH h⟩) (fun _ w => absurd w z) (fun _ w => absurd w z)⟩
  · exact ⟨bMid_C, w231 h16 (fun w => (hT.2.2.2 t w.1 w.2).2.2.2.2.2.2.2.2.2.2.2.2.1.2) ht hx hv (fun w => absurd q w) (fun _ w => absurd q2 w) (fun _ _ _ => ⟨bi_eq (by decide), fun w => absurd w (by decide), bI8_no hR hH h⟩) (fun _ _ w => absurd w (by show ¬ bi σ 85 t < 6; omega))⟩
  · have hvr := b01_rg hv
    have hc := (hT.2.2.2 t q.1 q.2).2.2.2.2.2.2.2.2.2.2.2.2.1
    have e85 : bi (bwj (bw (bw σ (bTi t + 38) (bi σ 85 t) (1000 + x * 2 + v)) (bTi t) 13 (bi σ 85 t + 1)) 154 0 (bL (bi σ 85 t + 1))) 85 t = bi σ 85 t := (bi_ne (by have := bTi_big (t := t); omega)).trans (bi_ne (by have := bTi_big (t := t); omega))
    have u1 : bUn bSg [0] σ (bwj (bw (bw σ (bTi t + 38) (bi σ 85 t) (1000 + x * 2 + v)) (bTi t) 13 (bi σ 85 t + 1)) 154 0 (bL (bi σ 85 t + 1))) := (bUn_o (bUn_w (bUn_w bUn_refl bTi_S38.1 bTi_S38.2) bTi_S.1 bTi_S.2))
    have e22 : bi (bwj (bw (bw σ (bTi t + 38) (bi σ 85 t) (1000 + x * 2 + v)) (bTi t) 13 (bi σ 85 t + 1)) 154 0 (bL (bi σ 85 t + 1))) 12 22 = bi σ 12 22 := u1.2.1 22 (by decide) (by decide)
    have g1 : ∀ g9, bTgk σ g9 → bTgk (bwj (bw (bw σ (bTi t + 38) (bi σ 85 t) (1000 + x * 2 + v)) (bTi t) 13 (bi σ 85 t + 1)) 154 0 (bL (bi σ 85 t + 1))) g9 := fun g9 w => ⟨w.1, by rw [e22]; exact w.2⟩
    have h16' : 0 ≤ bi (bwj (bw (bw σ (bTi t + 38) (bi σ 85 t) (1000 + x * 2 + v)) (bTi t) 13 (bi σ 85 t + 1)) 154 0 (bL (bi σ 85 t + 1))) 12 22 ∧ bi (bwj (bw (bw σ (bTi t + 38) (bi σ 85 t) (1000 + x * 2 + v)) (bTi t) 13 (bi σ 85 t + 1)) 154 0 (bL (bi σ 85 t + 1))) 12 22 ≤ 16 := by rw [e22]; exact h16
    refine ⟨bMid_un u1 (by decide), w231 h16' (fun _ => by rw [e85]; exact hc.2) ht hx hv (fun z => absurd (g1 t q) z) (fun _ z => absurd q2 z) (fun _ _ z => absurd z (by rw [e85]; omega)) (fun _ _ _ => ?_)⟩
    unfold bItw
    rw [e85]
    refine ⟨?_, fun _ => ?_, ?_⟩
    · rw [bi_ne (by decide), bi_ne (by decide), bi_ne (by decide), bi_ne (by decide)]
      exact bi_eq (by decide)
    · show bj (bwj (bw (bw σ (bTi t + 38) (bi σ 85 t) (1000 + x * 2 + v)) (bTi t) 13 (bi σ 85 t + 1)) 154 0 (bL (bi σ 85 t + 1))) 154 0 = _
      exact bj_eq
    · refine bI8_t (t0 := t) hR hH h (bUn_w (bUn_w (bUn_w (bUn_w (bUn_f u1 (by decide) (by decide)) (by decide) (by decide)) (by decide) (by decide)) (by decide) (by decide)) (by decide) (by decide)) (bTs_r (bTs_i (bTs_i (bTs_i (bTs_f (bTs_o (bTs_c (bTs_c bTs_refl q.1 (Or.inr (Or.inl rfl))) q.1 (Or.inl rfl)))) q.1 (by decide) hc.2.1 (by omega)) q.1 (by decide) hc.2.1 (by omega)) q.1 (by decide) hc.2.1 (by omega)) q.1 (by decide)) q ?_ (Nat.le_succ _) (Nat.le_add_right _ _)
      have hb := bTi_big (t := t)
      have ht0 := q.1
      obtain ⟨k1, k2, k3, k4, k5, k6, k7, k8, k9, k10, k11, k12, k13, k14, k15⟩ := hT.2.2.2 t q.1 q.2
      unfold bTg1
      simp (disch := omega) only [bi_ne, bi_nj, bi_bwj, bi_eq]
      refine ⟨k1, k2, k3, k4, k5, k6, k7, k8, k9, k10, k11, k12, ?_, k14, ?_⟩
      · exact ⟨by trivial, by omega, by omega⟩
      · intro i i0 i1
        by_cases w : i = bi σ 85 t
        · rw [w]
          simp (disch := omega) only [bi_ne, bi_nj, bi_bwj, bi_eq]
          exact ⟨hv, Or.inr (Or.inl ⟨rfl, q2.1, by omega, by omega⟩)⟩
        · simp (disch := omega) only [bi_ne, bi_nj, bi_bwj, bi_eq]
          exact k15 i i0 (by omega)
theorem k18 (hR : ∀ σ s, bUn bSa [0, 17] σ s → R σ → R s) (hH : ∀ c k σ s, bUn bSa [0, 17] σ s → H c k σ → H c k s) (h : bI9 (fun σ => bTg σ ∧ R σ) H L n σ) : bK18 (bI9 (fun σ => bTg σ ∧ R σ) H L (n + 1)) σ := by
  have hT := h.2.2.2.1.1
  have h16 : 0 ≤ bi σ 12 22 ∧ bi σ 12 22 ≤ 16 := ⟨hT.1.1, hT.1.2.1⟩
  refine wk18 fun t x ht hx => w161 hT (by decide) ht hx (fun z => ?_) (fun q q2 z => ?_) (fun q q2 q4 z => ?_) (fun q q2 q4 q3 => ?_)
  · exact ⟨bMid_C, w232 h16 (fun w => (hT.2.2.2 t w.1 w.2).2.2.2.2.2.2.2.2.2.2.2.2.1.2) ht hx (fun _ => ⟨bi_eq (by decide), fun w => absurd w (by decide), bI8_no hR hH h⟩) (fun w w2 => absurd ⟨w, w2⟩ z) (fun w w2 => absurd ⟨w, w2⟩ z) (fun w w2 => absurd ⟨w, w2⟩ z)⟩
  · exact ⟨bMid_C, w232 h16 (fun w => (hT.2.2.2 t w.1 w.2).2.2.2.2.2.2.2.2.2.2.2.2.1.2) ht hx (fun w => absurd ⟨q, q2⟩ w) (fun _ _ _ => ⟨bi_eq (by decide), fun w => absurd w (by decide), bI8_no hR hH h⟩) (fun _ _ w => absurd w z) (fun _ _ w => absurd w z)⟩
  · exact ⟨bMid_C, w232 h16 (fun w => (hT.2.2.2 t w.1 w.2).2.2.2.2.2.2.2.2.2.2.2.2.1.2) ht hx (fun w => absurd ⟨q, q2⟩ w) (fun _ _ w => absurd q4 w) (fun _ _ _ _ => ⟨bi_eq (by decide), fun w => absurd w (by decide), bI8_no hR hH h⟩) (fun _ _ _ w => absurd w (by show ¬ bi σ 85 t < 6; omega))⟩
  · have q20 := q2.1
    have q21 : x < 16 := by have := q2.2; omega
    have hc := (hT.2.2.2 t q.1 q.2).2.2.2.2.2.2.2.2.2.2.2.2.1
    have e85 : bi (bwj (bw (bw σ (bTi t + 38) (bi σ 85 t) (100 + x)) (bTi t) 13 (bi σ 85 t + 1)) 154 0 (bL (bi σ 85 t + 1))) 85 t = bi σ 85 t := (bi_ne (by have := bTi_big (t := t); omega)).trans (bi_ne (by have := bTi_big (t := t); omega))
    have u1 : bUn bSg [0] σ (bwj (bw (bw σ (bTi t + 38) (bi σ 85 t) (100 + x)) (bTi t) 13 (bi σ 85 t + 1)) 154 0 (bL (bi σ 85 t + 1))) := (bUn_o (bUn_w (bUn_w bUn_refl bTi_S38.1 bTi_S38.2) bTi_S.1 bTi_S.2))
    have e22 : bi (bwj (bw (bw σ (bTi t + 38) (bi σ 85 t) (100 + x)) (bTi t) 13 (bi σ 85 t + 1)) 154 0 (bL (bi σ 85 t + 1))) 12 22 = bi σ 12 22 := u1.2.1 22 (by decide) (by decide)
    have g1 : ∀ g9, bTgk σ g9 → bTgk (bwj (bw (bw σ (bTi t + 38) (bi σ 85 t) (100 + x)) (bTi t) 13 (bi σ 85 t + 1)) 154 0 (bL (bi σ 85 t + 1))) g9 := fun g9 w => ⟨w.1, by rw [e22]; exact w.2⟩
    have h16' : 0 ≤ bi (bwj (bw (bw σ (bTi t + 38) (bi σ 85 t) (100 + x)) (bTi t) 13 (bi σ 85 t + 1)) 154 0 (bL (bi σ 85 t + 1))) 12 22 ∧ bi (bwj (bw (bw σ (bTi t + 38) (bi σ 85 t) (100 + x)) (bTi t) 13 (bi σ 85 t + 1)) 154 0 (bL (bi σ 85 t + 1))) 12 22 ≤ 16 := by rw [e22]; exact h16
    refine ⟨bMid_un u1 (by decide), w232 h16' (fun _ => by rw [e85]; exact hc.2) ht hx (fun z => absurd ⟨g1 t q, g1 x q2⟩ z) (fun _ _ z => absurd q4 z) (fun _ _ _ z => absurd z (by rw [e85]; omega)) (fun _ _ _ _ => ?_)⟩
    unfold bItw
    rw [e85]
    refine ⟨?_, fun _ => ?_, ?_⟩
    · rw [bi_ne (by decide), bi_ne (by decide), bi_ne (by decide), bi_ne (by decide)]
      exact bi_eq (by decide)
    · show bj (bwj (bw (bw σ (bTi t + 38) (bi σ 85 t) (100 + x)) (bTi t) 13 (bi σ 85 t + 1)) 154 0 (bL (bi σ 85 t + 1))) 154 0 = _
      exact bj_eq
    · refine bI8_t (t0 := t) hR hH h (bUn_w (bUn_w (bUn_w (bUn_w (bUn_f u1 (by decide) (by decide)) (by decide) (by decide)) (by decide) (by decide)) (by decide) (by decide)) (by decide) (by decide)) (bTs_r (bTs_i (bTs_i (bTs_i (bTs_f (bTs_o (bTs_c (bTs_c bTs_refl q.1 (Or.inr (Or.inl rfl))) q.1 (Or.inl rfl)))) q.1 (by decide) hc.2.1 (by omega)) q.1 (by decide) hc.2.1 (by omega)) q.1 (by decide) hc.2.1 (by omega)) q.1 (by decide)) q ?_ (Nat.le_succ _) (Nat.le_add_right _ _)
      have hb := bTi_big (t := t)
      have ht0 := q.1
      obtain ⟨k1, k2, k3, k4, k5, k6, k7, k8, k9, k10, k11, k12, k13, k14, k15⟩ := hT.2.2.2 t q.1 q.2
      unfold bTg1
      simp (disch := omega) only [bi_ne, bi_nj, bi_bwj, bi_eq]
      refine ⟨k1, k2, k3, k4, k5, k6, k7, k8, k9, k10, k11, k12, ?_, k14, ?_⟩
      · exact ⟨by trivial, by omega, by omega⟩
      · intro i i0 i1
        by_cases w : i = bi σ 85 t
        · rw [w]
          simp (disch := omega) only [bi_ne, bi_nj, bi_bwj, bi_eq]
          exact ⟨Or.inl rfl, Or.inr (Or.inr ⟨rfl, q2.1, q4, rfl⟩)⟩
        · simp (disch := omega) only [bi_ne, bi_nj, bi_bwj, bi_eq]
          exact k15 i i0 (by omega)
theorem k15 (hR : ∀ σ s, bUn bSa [0, 17] σ s → R σ → R s) (hH : ∀ c k σ s, bUn bSa [0, 17] σ s → H c k σ → H c k s) (h : bI9 (fun σ => bTg σ ∧ R σ) H L n σ) : bK15 (bI9 (fun σ => bTg σ ∧ R σ) H L (n + 1)) σ := by
  have hT := h.2.2.2.1.1
  have h16 : 0 ≤ bi σ 12 22 ∧ bi σ 12 22 ≤ 16 := ⟨hT.1.1, hT.1.2.1⟩
  refine wk15 fun t x y z ht hx hy hz => w158 hT (by decide) ht hx hy hz (fun w => ?_) (fun q q2 w => ?_) (fun q q2 q4 w => ?_) (fun q q2 q4 q3 => ?_)
  · exact ⟨bMid_C, w228 h16 (fun w => (hT.2.2.2 t w.1 w.2).2.2.2.2.2.2.2.2.2.2.2.1.2) ht hx hy hz (fun _ => ⟨bi_eq (by decide), fun w => absurd w (by decide), bI8_no hR hH h⟩) (fun u u2 => absurd ⟨u, u2⟩ w) (fun u u2 => absurd ⟨u, u2⟩ w) (fun u u2 => absurd ⟨u, u2⟩ w)⟩
  · exact ⟨bMid_C, w228 h16 (fun w => (hT.2.2.2 t w.1 w.2).2.2.2.2.2.2.2.2.2.2.2.1.2) ht hx hy hz (fun u => absurd ⟨q, q2⟩ u) (fun _ _ _ => ⟨bi_eq (by decide), fun w => absurd w (by decide), bI8_no hR hH h⟩) (fun _ _ u => absurd u w) (fun _ _ u => absurd u w)⟩
  · exact ⟨bMid_C, w228 h16 (fun w => (hT.2.2.2 t w.1 w.2).2.2.2.2.2.2.2.2.2.2.2.1.2) ht hx hy hz (fun u => absurd ⟨q, q2⟩ u) (fun _ _ u => absurd q4 u) (fun _ _ _ _ => ⟨bi_eq (by decide), fun w => absurd w (by decide), bI8_no hR hH h⟩) (fun _ _ _ u => absurd u (by show ¬ bi σ 83 t < 4; omega))⟩
  · have hc := (hT.2.2.2 t q.1 q.2).2.2.2.2.2.2.2.2.2.2.2.1
    have ez0 : 3 * (4 * t + bi σ 83 t) = 12 * t + 3 * bi σ 83 t := by omega
    have ez1 : 3 * (4 * t + bi σ 83 t) + 1 = 12 * t + (3 * bi σ 83 t + 1) := by omega
    have ez2 : 3 * (4 * t + bi σ 83 t) + 2 = 12 * t + (3 * bi σ 83 t + 2) := by omega
    have rv : bRg ((x * 4 + y) * 1000 + z) := ⟨by omega, by omega⟩
    have e83 : bi (bwj (bw (bw σ (bTi t + 39) (bi σ 83 t) ((x * 4 + y) * 1000 + z)) (bTi t) 14 (bi σ 83 t + 1)) 154 0 (bL (bi σ 83 t + 1))) 83 t = bi σ 83 t := (bi_ne (by have := bTi_big (t := t); omega)).trans (bi_ne (by have := bTi_big (t := t); omega))
    have u1 : bUn bSg [0] σ (bwj (bw (bw σ (bTi t + 39) (bi σ 83 t) ((x * 4 + y) * 1000 + z)) (bTi t) 14 (bi σ 83 t + 1)) 154 0 (bL (bi σ 83 t + 1))) := (bUn_o (bUn_w (bUn_w bUn_refl bTi_S39.1 bTi_S39.2) bTi_S.1 bTi_S.2))
    have e22 : bi (bwj (bw (bw σ (bTi t + 39) (bi σ 83 t) ((x * 4 + y) * 1000 + z)) (bTi t) 14 (bi σ 83 t + 1)) 154 0 (bL (bi σ 83 t + 1))) 12 22 = bi σ 12 22 := u1.2.1 22 (by decide) (by decide)
    have g1 : ∀ g9, bTgk σ g9 → bTgk (bwj (bw (bw σ (bTi t + 39) (bi σ 83 t) ((x * 4 + y) * 1000 + z)) (bTi t) 14 (bi σ 83 t + 1)) 154 0 (bL (bi σ 83 t + 1))) g9 := fun g9 w => ⟨w.1, by rw [e22]; exact w.2⟩
    have h16' : 0 ≤ bi (bwj (bw (bw σ (bTi t + 39) (bi σ 83 t) ((x * 4 + y) * 1000 + z)) (bTi t) 14 (bi σ 83 t + 1)) 154 0 (bL (bi σ 83 t + 1))) 12 22 ∧ bi (bwj (bw (bw σ (bTi t + 39) (bi σ 83 t) ((x * 4 + y) * 1000 + z)) (bTi t) 14 (bi σ 83 t + 1)) 154 0 (bL (bi σ 83 t + 1))) 12 22 ≤ 16 := by rw [e22]; exact h16
    refine ⟨bMid_un u1 (by decide), w228 h16' (fun _ => by rw [e83]; exact hc.2) ht hx hy hz (fun u => absurd ⟨g1 t q, q2⟩ u) (fun _ _ u => absurd q4 u) (fun _ _ _ u => absurd u (by rw [e83]; omega)) (fun _ _ _ _ => ?_)⟩
    rw [e83, ez1, ez2, ez0]
    refine ⟨?_, fun _ => ?_, ?_⟩
    · rw [bi_ne (by decide), bi_ne (by decide), bi_ne (by decide), bi_ne (by decide)]
      exact bi_eq (by decide)
    · show bj (bwj (bw (bw σ (bTi t + 39) (bi σ 83 t) ((x * 4 + y) * 1000 + z)) (bTi t) 14 (bi σ 83 t + 1)) 154 0 (bL (bi σ 83 t + 1))) 154 0 = _
      exact bj_eq
    · refine bI8_t (t0 := t) hR hH h (bUn_w (bUn_w (bUn_w (bUn_w (bUn_f u1 (by decide) (by decide)) (by decide) (by decide)) (by decide) (by decide)) (by decide) (by decide)) (by decide) (by decide)) (bTs_r (bTs_z (bTs_z (bTs_z (bTs_f (bTs_o (bTs_c (bTs_c bTs_refl q.1 (Or.inr (Or.inr rfl))) q.1 (Or.inl rfl)))) q.1 (by omega) (by omega)) q.1 (by omega) (by omega)) q.1 (by omega) (by omega)) q.1 (by decide)) q ?_ (Nat.le_succ _) (Nat.le_add_right _ _)
      have hb := bTi_big (t := t)
      have ht0 := q.1
      obtain ⟨k1, k2, k3, k4, k5, k6, k7, k8, k9, k10, k11, k12, k13, k14, k15⟩ := hT.2.2.2 t q.1 q.2
      unfold bTg1
      simp (disch := omega) only [bi_ne, bi_nj, bi_bwj, bi_eq]
      refine ⟨k1, k2, k3, k4, k5, k6, k7, k8, k9, k10, k11, ?_, k13, ?_, k15⟩
      · exact ⟨by trivial, by omega, by omega⟩
      · intro i i0 i1
        by_cases w : i = bi σ 83 t
        · rw [w]
          unfold bCnd
          simp (disch := omega) only [bi_ne, bi_nj, bi_bwj, bi_eq]
          exact ⟨by trivial, ⟨q2.1, q2.2⟩, ⟨q4.1.1, by omega⟩, q4.2.1, by omega⟩
        · have := k14 i i0 (by omega)
          unfold bCnd at this ⊢
          simp (disch := omega) only [bi_ne, bi_nj, bi_bwj, bi_eq]
          exact this
end

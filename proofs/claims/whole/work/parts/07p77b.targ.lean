/-! TARGETS: what is kept of them on both sides -/
def bTi (t : Int) : Nat := 256 * (t.toNat + 1) + 8
def bTLr : List Nat := [75, 76, 77, 78, 79, 80, 81, 82, 83, 85, 89, 90, 91, 92, 93]
def bSg : List Nat := [8, 46, 47, 75, 76, 77, 78, 79, 80, 81, 82, 83, 84, 85, 86, 87, 88, 89, 90, 91, 92, 93]
def bItm (I K W D t : Int) : Prop := (D = 0 ∨ D = 1) ∧ ((K = 0 ∧ 0 ≤ W ∧ W < 48 ∧ I = W) ∨ (K = 1 ∧ 0 ≤ W ∧ W < 256 ∧ I = 1000 + 2 * W + D) ∨ (K = 2 ∧ 0 ≤ W ∧ W < t ∧ I = 100 + W))
def bCnd (C : Int) (Z : Int → Int) (i : Int) : Prop := C = (Z (3 * i) * 4 + Z (3 * i + 1)) * 1000 + Z (3 * i + 2) ∧ (0 ≤ Z (3 * i) ∧ Z (3 * i) < 4) ∧ (0 ≤ Z (3 * i + 1) ∧ Z (3 * i + 1) < 4) ∧ 0 ≤ Z (3 * i + 2) ∧ Z (3 * i + 2) < 1000
def bRul (F3 r n : Int) : Prop := (r = -1 ∧ F3 = -1) ∨ (0 ≤ r ∧ r < 6 ∧ 0 ≤ n ∧ n < 8 ∧ F3 = r * 8 + n)
def bTrn (F6 F7 s v : Int) : Prop := (s = -1 ∧ F6 = 255 ∧ F7 = 0) ∨ (0 ≤ s ∧ s < 4 ∧ 0 ≤ v ∧ v < 4 ∧ F6 = bChg 255 s 0 ∧ F7 = bChg 0 s v)
def bTg1 (σ : bSt) (t : Int) : Prop :=
  (bi σ (bTi t) 0 = bi σ 75 t ∧ 0 ≤ bi σ 75 t ∧ bi σ 75 t < 6) ∧ (bi σ (bTi t) 1 = bi σ 76 t ∧ 0 ≤ bi σ 76 t ∧ bi σ 76 t < 6) ∧ (bi σ (bTi t) 2 = bi σ 77 t ∧ 0 ≤ bi σ 77 t ∧ bi σ 77 t < 1000) ∧
  bRul (bi σ (bTi t) 3) (bi σ 78 t) (bi σ 79 t) ∧ (bi σ (bTi t) 5 = bi σ 80 t ∧ -1 ≤ bi σ 80 t ∧ bi σ 80 t < 3) ∧ bTrn (bi σ (bTi t) 6) (bi σ (bTi t) 7) (bi σ 81 t) (bi σ 82 t) ∧
  (bi σ (bTi t) 8 = bi σ 89 t ∧ 0 ≤ bi σ 89 t ∧ bi σ 89 t < 3) ∧ (bi σ (bTi t) 9 = bi σ 90 t ∧ 1 ≤ bi σ 90 t ∧ bi σ 90 t ≤ 20) ∧ (bi σ (bTi t) 10 = bi σ 91 t ∧ (bi σ 91 t = 0 ∨ bi σ 91 t = 1)) ∧
  (bi σ (bTi t) 11 = bi σ 92 t ∧ 0 ≤ bi σ 92 t ∧ bi σ 92 t < 5) ∧ (bi σ (bTi t) 12 = bi σ 93 t ∧ 0 ≤ bi σ 93 t ∧ bi σ 93 t < 10) ∧
  (bi σ (bTi t) 14 = bi σ 83 t ∧ 0 ≤ bi σ 83 t ∧ bi σ 83 t ≤ 4) ∧ (bi σ (bTi t) 13 = bi σ 85 t ∧ 0 ≤ bi σ 85 t ∧ bi σ 85 t ≤ 6) ∧
  (∀ i, 0 ≤ i → i < bi σ 83 t → bCnd (bi σ (bTi t + 39) i) (fun k => bi σ 84 (12 * t + k)) i) ∧
  ∀ i, 0 ≤ i → i < bi σ 85 t → bItm (bi σ (bTi t + 38) i) (bi σ 86 (6 * t + i)) (bi σ 87 (6 * t + i)) (bi σ 88 (6 * t + i)) t
def bTg (σ : bSt) : Prop := (0 ≤ bi σ 12 22 ∧ bi σ 12 22 ≤ 16 ∧ bi σ 9 0 = bi σ 12 22) ∧ (∀ t, 0 ≤ t → t < bi σ 12 22 → br σ 50 t = some (bTi t)) ∧
  (∀ t, bi σ 12 22 ≤ t → t < 16 → br σ 50 t = none ∧ (∀ b ∈ bTid (t.toNat + 1), σ.2.2.2.1 b = 0) ∧ ∀ a ∈ [83, 85, 89, 91, 92, 93], bi σ a t = 0) ∧ ∀ t, 0 ≤ t → t < bi σ 12 22 → bTg1 σ t
/-- what one target's data are -/
def bTv (σ s : bSt) (t : Int) : Prop := (∀ j, 0 ≤ j → bi s (bTi t) j = bi σ (bTi t) j) ∧ (∀ j, 0 ≤ j → bi s (bTi t + 38) j = bi σ (bTi t + 38) j) ∧ (∀ j, 0 ≤ j → bi s (bTi t + 39) j = bi σ (bTi t + 39) j) ∧ (∀ a ∈ bTLr, bi s a t = bi σ a t) ∧ (∀ a ∈ [86, 87, 88], ∀ i, 0 ≤ i → i < 6 → bi s a (6 * t + i) = bi σ a (6 * t + i)) ∧ ∀ i, 0 ≤ i → i < 12 → bi s 84 (12 * t + i) = bi σ 84 (12 * t + i)
theorem bTg1_v {σ s : bSt} {t : Int} (h : bTv σ s t) (k : bTg1 σ t) : bTg1 s t := by
  obtain ⟨e1, e2, e3, e4, e5, e6⟩ := h
  obtain ⟨k1, k2, k3, k4, k5, k6, k7, k8, k9, k10, k11, k12, k13, k14, k15⟩ := k
  unfold bTg1
  simp only [e1 0 (by decide), e1 1 (by decide), e1 2 (by decide), e1 3 (by decide), e1 5 (by decide), e1 6 (by decide), e1 7 (by decide), e1 8 (by decide), e1 9 (by decide), e1 10 (by decide), e1 11 (by decide), e1 12 (by decide), e1 13 (by decide), e1 14 (by decide), e4 75 (by decide), e4 76 (by decide), e4 77 (by decide), e4 78 (by decide), e4 79 (by decide), e4 80 (by decide), e4 81 (by decide), e4 82 (by decide), e4 83 (by decide), e4 85 (by decide), e4 89 (by decide), e4 90 (by decide), e4 91 (by decide), e4 92 (by decide), e4 93 (by decide)]
  refine ⟨k1, k2, k3, k4, k5, k6, k7, k8, k9, k10, k11, k12, k13, fun i i0 i1 => ?_, fun i i0 i1 => ?_⟩
  · have := k14 i i0 i1
    unfold bCnd at this ⊢
    simp only [e3 i i0, e6 (3 * i) (by omega) (by omega), e6 (3 * i + 1) (by omega) (by omega), e6 (3 * i + 2) (by omega) (by omega)]
    exact this
  · rw [e2 i i0, e5 86 (by decide) i i0 (by omega), e5 87 (by decide) i i0 (by omega), e5 88 (by decide) i i0 (by omega)]
    exact k15 i i0 i1
/-- nothing of targets has changed but what is one target's own -/
def bTsm (t0 : Int) (σ s : bSt) : Prop := (∀ t, t ≠ t0 → 0 ≤ t → bTv σ s t) ∧ (∀ a i, br s a i = br σ a i) ∧ (∀ a, s.2.2.2.1 a = σ.2.2.2.1 a) ∧ bi s 9 0 = bi σ 9 0 ∧ bi s 12 22 = bi σ 12 22
theorem bTs_refl {t0 : Int} {σ : bSt} : bTsm t0 σ σ := ⟨fun _ _ _ => ⟨fun _ _ => rfl, fun _ _ => rfl, fun _ _ => rfl, fun _ _ => rfl, fun _ _ _ _ _ => rfl, fun _ _ _ => rfl⟩, fun _ _ => rfl, fun _ => rfl, rfl, rfl⟩
theorem bLr_ne {a : Nat} (h : a ∈ bTLr) : 75 ≤ a ∧ a ≤ 93 ∧ a ≠ 84 ∧ a ≠ 86 ∧ a ≠ 87 ∧ a ≠ 88 := by
  simp [bTLr] at h
  omega
theorem bTs_c {t0 : Int} {σ s : bSt} {a : Nat} {j v : Int} (h : bTsm t0 σ s) (h0 : 0 ≤ t0) (ha : a = bTi t0 ∨ a = bTi t0 + 38 ∨ a = bTi t0 + 39) : bTsm t0 σ (bw s a j v) := by
  obtain ⟨h1, h2, h3, h4, h5⟩ := h
  have hb : 264 ≤ a := by unfold bTi at ha; omega
  refine ⟨fun t ht t1 => ?_, h2, h3, by rw [bi_ne (by omega)]; exact h4, by rw [bi_ne (by omega)]; exact h5⟩
  obtain ⟨e1, e2, e3, e4, e5, e6⟩ := h1 t ht t1
  have n1 : bTi t ≠ a := by unfold bTi at ha ⊢; omega
  have n2 : bTi t + 38 ≠ a := by unfold bTi at ha ⊢; omega
  have n3 : bTi t + 39 ≠ a := by unfold bTi at ha ⊢; omega
  exact ⟨fun i q => by rw [bi_ne n1]; exact e1 i q, fun i q => by rw [bi_ne n2]; exact e2 i q, fun i q => by rw [bi_ne n3]; exact e3 i q, fun b q => by rw [bi_ne (by have := bLr_ne q; omega)]; exact e4 b q, fun b q i q1 q2 => by rw [bi_ne (by simp at q; omega)]; exact e5 b q i q1 q2, fun i q1 q2 => by rw [bi_ne (by omega)]; exact e6 i q1 q2⟩
theorem bTi_big {t : Int} : 264 ≤ bTi t := by unfold bTi; omega
theorem bTs_r {t0 : Int} {σ s : bSt} {a : Nat} {v : Int} (h : bTsm t0 σ s) (h0 : 0 ≤ t0) (ha : a ∈ bTLr) : bTsm t0 σ (bw s a t0 v) := by
  obtain ⟨h1, h2, h3, h4, h5⟩ := h
  have hb := bLr_ne ha
  refine ⟨fun t ht t1 => ?_, h2, h3, by rw [bi_ne (by omega)]; exact h4, by rw [bi_ne (by omega)]; exact h5⟩
  obtain ⟨e1, e2, e3, e4, e5, e6⟩ := h1 t ht t1
  have n0 := bTi_big (t := t)
  refine ⟨fun i q => by rw [bi_ne (by omega)]; exact e1 i q, fun i q => by rw [bi_ne (by omega)]; exact e2 i q, fun i q => by rw [bi_ne (by omega)]; exact e3 i q, fun b q => ?_, fun b q i q1 q2 => by rw [bi_ne (by simp at q; omega)]; exact e5 b q i q1 q2, fun i q1 q2 => by rw [bi_ne (by omega)]; exact e6 i q1 q2⟩
  by_cases z : b = a
  · subst z
    rw [bi_nj h0 t1 ht]
    exact e4 b q
  · rw [bi_ne z]
    exact e4 b q
theorem bTs_i {t0 : Int} {σ s : bSt} {a : Nat} {i v : Int} (h : bTsm t0 σ s) (h0 : 0 ≤ t0) (ha : a ∈ [86, 87, 88]) (i0 : 0 ≤ i) (i1 : i < 6) : bTsm t0 σ (bw s a (6 * t0 + i) v) := by
  obtain ⟨h1, h2, h3, h4, h5⟩ := h
  have hb : 86 ≤ a ∧ a ≤ 88 := by simp at ha; omega
  refine ⟨fun t ht t1 => ?_, h2, h3, by rw [bi_ne (by omega)]; exact h4, by rw [bi_ne (by omega)]; exact h5⟩
  obtain ⟨e1, e2, e3, e4, e5, e6⟩ := h1 t ht t1
  have n0 := bTi_big (t := t)
  refine ⟨fun j q => by rw [bi_ne (by omega)]; exact e1 j q, fun j q => by rw [bi_ne (by omega)]; exact e2 j q, fun j q => by rw [bi_ne (by omega)]; exact e3 j q, fun b q => by rw [bi_ne (by have := bLr_ne q; omega)]; exact e4 b q, fun b q j q1 q2 => ?_, fun j q1 q2 => by rw [bi_ne (by omega)]; exact e6 j q1 q2⟩
  by_cases z : b = a
  · subst z
    rw [bi_nj (by omega) (by omega) (by omega)]
    exact e5 b q j q1 q2
  · rw [bi_ne z]
    exact e5 b q j q1 q2
theorem bTs_z {t0 : Int} {σ s : bSt} {i v : Int} (h : bTsm t0 σ s) (h0 : 0 ≤ t0) (i0 : 0 ≤ i) (i1 : i < 12) : bTsm t0 σ (bw s 84 (12 * t0 + i) v) := by
  obtain ⟨h1, h2, h3, h4, h5⟩ := h
  refine ⟨fun t ht t1 => ?_, h2, h3, by rw [bi_ne (by decide)]; exact h4, by rw [bi_ne (by decide)]; exact h5⟩
  obtain ⟨e1, e2, e3, e4, e5, e6⟩ := h1 t ht t1
  have n0 := bTi_big (t := t)
  refine ⟨fun j q => by rw [bi_ne (by omega)]; exact e1 j q, fun j q => by rw [bi_ne (by omega)]; exact e2 j q, fun j q => by rw [bi_ne (by omega)]; exact e3 j q, fun b q => by rw [bi_ne (by have := bLr_ne q; omega)]; exact e4 b q, fun b q j q1 q2 => by rw [bi_ne (by simp at q; omega)]; exact e5 b q j q1 q2, fun j q1 q2 => ?_⟩
  rw [bi_nj (by omega) (by omega) (by omega)]
  exact e6 j q1 q2
theorem bTs_f {t0 : Int} {σ s : bSt} {v : Int} (h : bTsm t0 σ s) : bTsm t0 σ (bw s 12 0 v) := by
  obtain ⟨h1, h2, h3, h4, h5⟩ := h
  refine ⟨fun t ht t1 => ?_, h2, h3, by rw [bi_ne (by decide)]; exact h4, by rw [bi_nj (by decide) (by decide) (by decide)]; exact h5⟩
  obtain ⟨e1, e2, e3, e4, e5, e6⟩ := h1 t ht t1
  have n0 := bTi_big (t := t)
  exact ⟨fun j q => by rw [bi_ne (by omega)]; exact e1 j q, fun j q => by rw [bi_ne (by omega)]; exact e2 j q, fun j q => by rw [bi_ne (by omega)]; exact e3 j q, fun b q => by rw [bi_ne (by have := bLr_ne q; omega)]; exact e4 b q, fun b q j q1 q2 => by rw [bi_ne (by simp at q; omega)]; exact e5 b q j q1 q2, fun j q1 q2 => by rw [bi_ne (by decide)]; exact e6 j q1 q2⟩
theorem bTs_o {t0 : Int} {σ s : bSt} {i : Int} {v : Int64} (h : bTsm t0 σ s) : bTsm t0 σ (bwj s 154 i v) := h
theorem bTg_s {t0 : Int} {σ s : bSt} (h : bTsm t0 σ s) (k : bTg σ) (h0 : 0 ≤ t0) (h1 : t0 < bi σ 12 22) (new : bTg1 s t0) : bTg s := by
  obtain ⟨u1, u2, u3, u4, u5⟩ := h
  obtain ⟨k1, k2, k3, k4⟩ := k
  refine ⟨by rw [u5, u4]; exact k1, fun t q1 q2 => by rw [u2]; exact k2 t q1 (by rwa [u5] at q2), fun t q1 q2 => ?_, fun t q1 q2 => ?_⟩
  · rw [u5] at q1
    obtain ⟨k31, k32, k33⟩ := k3 t q1 q2
    refine ⟨by rw [u2]; exact k31, fun b hb => by rw [u3]; exact k32 b hb, fun a ha => ?_⟩
    rw [(u1 t (by omega) (by omega)).2.2.2.1 a (by simp at ha; simp [bTLr]; omega)]
    exact k33 a ha
  · rw [u5] at q2
    by_cases z : t = t0
    · rw [z]; exact new
    · exact bTg1_v (u1 t z q1) (k4 t q1 q2)
theorem bTg_un {S : List Nat} {F : List Int} {σ s : bSt} (h : bUn S F σ s) (hS : ∀ k ∈ 9 :: 48 :: 49 :: 50 :: bSg, k ∉ S) (hF : 22 ∉ F) (k : bTg σ) : bTg s := by
  have e : ∀ a, a % 256 ∈ 9 :: 48 :: 49 :: 50 :: bSg → ∀ i, bi s a i = bi σ a i := fun a ha i => h.1 a (hS _ ha) (fun z => by rw [z] at ha; revert ha; decide) i
  have e22 : bi s 12 22 = bi σ 12 22 := h.2.1 22 (by decide) hF
  have tv : ∀ t, 0 ≤ t → bTv σ s t := fun t t0 => ⟨fun j _ => e _ (by unfold bTi; rw [show (256 * (t.toNat + 1) + 8) % 256 = 8 by omega]; decide) j, fun j _ => e _ (by unfold bTi; rw [show (256 * (t.toNat + 1) + 8 + 38) % 256 = 46 by omega]; decide) j, fun j _ => e _ (by unfold bTi; rw [show (256 * (t.toNat + 1) + 8 + 39) % 256 = 47 by omega]; decide) j, fun a ha => e a (by have := bLr_ne ha; rw [Nat.mod_eq_of_lt (by omega)]; revert ha; simp [bTLr, bSg]; omega) t, fun a ha i _ _ => e a (by simp at ha; rw [Nat.mod_eq_of_lt (by omega)]; simp [bSg]; omega) _, fun i _ _ => e 84 (by decide) _⟩
  obtain ⟨k1, k2, k3, k4⟩ := k
  have e50 : ∀ t, br s 50 t = br σ 50 t := fun t => h.2.2.2.1 50 (hS 50 (by decide)) t
  refine ⟨by rw [e22, e 9 (by decide)]; exact k1, fun t q1 q2 => by rw [e50]; exact k2 t q1 (by rwa [e22] at q2), fun t q1 q2 => ?_, fun t q1 q2 => bTg1_v (tv t q1) (k4 t q1 (by rwa [e22] at q2))⟩
  rw [e22] at q1
  obtain ⟨k31, k32, k33⟩ := k3 t q1 q2
  refine ⟨by rw [e50]; exact k31, fun b hb => ?_, fun a ha => by rw [e a (by simp at ha; rw [Nat.mod_eq_of_lt (by omega)]; simp [bSg]; omega)]; exact k33 a ha⟩
  rw [h.2.2.2.2 b (hS _ (by simp [bTid] at hb; simp [bSg]; omega))]
  exact k32 b hb

/-! THE PLAN, 5: a walk from a root; the class's error and its causes -/
/-- between the walks of one plan -/
def bWk (σ s : bSt) : Prop := bSm bWkK σ s ∧ bOrd σ s ∧ (∀ y, 0 ≤ y → y < 4096 → bVis s y → bIno s (bi s 6 11) y) ∧ bi s 6 11 = bVn s
/-- the marks are none of walks to come -/
def bMks (σ : bSt) : Prop := 0 ≤ bi σ 6 10 ∧ ∀ y, 0 ≤ y → y < 4096 → bi σ 27 y ≤ bi σ 6 10
def bErr (σ : bSt) : Nat → Int → Int
  | 0, y => if bFx σ y % 8 = 0 then -1 else y / 256 * 10 + bFx σ y % 8
  | n + 1, y => if bFx σ y % 8 = 6 then bErr σ n (bFx σ y / 8) else -1
section
variable {d : Nat} {σ s r : bSt} {f : Int → bSt → Prop} {fv : bSt → Prop} {F : Int → Int} {t x y z v k c i q n m : Int}
theorem bWk_mk (W : bWk σ s) (hm : 0 ≤ bi σ 6 10) (h : bi σ 6 10 ≤ bi s 6 10) : bMks s := ⟨by omega, W.2.1.1⟩
theorem bWk_0 (h : bMks σ) (hr : bRg (bi σ 6 10 + 1)) : bWk σ (bw (bw σ 6 10 (bi σ 6 10 + 1)) 6 11 0) := by
  have e10 : bi (bw (bw σ 6 10 (bi σ 6 10 + 1)) 6 11 0) 6 10 = bi σ 6 10 + 1 := by rw [bi_nj (by decide) (by decide) (by decide), bi_eq hr]
  have e11 : bi (bw (bw σ 6 10 (bi σ 6 10 + 1)) 6 11 0) 6 11 = 0 := bi_eq (by decide)
  have e27 : ∀ j, bi (bw (bw σ 6 10 (bi σ 6 10 + 1)) 6 11 0) 27 j = bi σ 27 j := fun j => by rw [bi_ne (by decide), bi_ne (by decide)]
  have nv : ∀ y, 0 ≤ y → y < 4096 → ¬ bVis (bw (bw σ 6 10 (bi σ 6 10 + 1)) 6 11 0) y := fun y y0 y1 => by
    unfold bVis
    rw [e10, e27]
    have := h.2 y y0 y1
    omega
  refine ⟨bSm_trans (bSm_bw (by decide)) (bSm_bw (by decide)), ⟨fun y y0 y1 => ?_, by rw [e11]; exact Int.le_refl _, fun i i0 i1 => ?_⟩, fun y y0 y1 w => absurd w (nv y y0 y1), ?_⟩
  · rw [e10, e27]
    have := h.2 y y0 y1
    omega
  · rw [e11] at i1; omega
  · rw [e11]
    unfold bVn
    rw [bCn_c (Q := fun _ => false) 4096 (fun k k0 k1 => decide_eq_false (show ¬ (bi (bw (bw σ 6 10 (bi σ 6 10 + 1)) 6 11 0) 27 k = bi (bw (bw σ 6 10 (bi σ 6 10 + 1)) 6 11 0) 6 10) from nv k k0 (by omega)))]
    have z : ∀ n : Nat, bCnp (fun _ => false) n = 0 := fun n => by
      induction n with
      | zero => rfl
      | succ n ih => unfold bCnp; rw [ih]; rfl
    exact (z 4096).symm
theorem w71 (hF : bFi σ) (hL : bTl σ) (hT : bTg σ) (h4 : bR4 σ) (W : bWk σ s) (x0 : 0 ≤ x) (ht : bTgk σ (x / 256)) (h : ∀ s', bWk σ s' → bExt6 0 s s' → bIno s' (bi s' 6 11) x → fv s') : bWp (d + 5) 71 [.ref 6, .int (bn x)] s (bRv fv) := by
  have tc := hT.1.2.1
  have ht2 := ht.2
  have ic := bIc_at hT ht
  obtain ⟨M, O, VI, cn⟩ := W
  have n0 := O.2.1
  have vb := bVn_b (s := s)
  have mr := bi_rg s 6 10
  refine ⟨rfl, fun A hA => sq71_0 (bWp_mono _) hA ⟨by omega, by omega⟩ ?_⟩
  have e12 : bi (bw s 6 12 0) 6 12 = 0 := bi_eq (by decide)
  have fin : ∀ (s' : bSt) (l : Int) (v1 v3 v4 v5 : Value), bRg l → bi s' 6 12 = 0 → fv s' → A (8, [.ref 6, v1, .int (bn l), v3, v4, v5], [], s') := fun s' l v1 v3 v4 v5 hl e hf =>
    sq71_8 (bWp_mono _) hA hl ⟨fun _ => ⟨fun w => absurd w (by omega), fun _ => hf⟩, fun _ => hf⟩
  generalize hs : bw s 6 12 0 = s0 at *
  have ne0 : ∀ b, b ≠ 6 → ∀ j, bi s0 b j = bi s b j := fun b q j => by rw [← hs, bi_ne q]
  have e10 : bi s0 6 10 = bi s 6 10 := by rw [← hs, bi_nj (by decide) (by decide) (by decide)]
  have e11 : bi s0 6 11 = bi s 6 11 := by rw [← hs, bi_nj (by decide) (by decide) (by decide)]
  have M0 : bSm bWkK σ s0 := by rw [← hs]; exact bSm_trans M (bSm_bw (by decide))
  have vs0 : ∀ y, bVis s0 y ↔ bVis s y := fun y => bVis_in (ne0 27 (by decide)) e10
  have cv0 : bVn s0 = bVn s := bVn_in (ne0 27 (by decide)) e10
  have i0 : ∀ {m y}, bIno s m y → bIno s0 m y := fun h => bIno_e h (Int.le_refl _) (fun i _ _ => ne0 28 (by decide) i)
  have O0 : bOrd σ s0 := ⟨fun y y0 y1 => by rw [ne0 27 (by decide), e10]; exact O.1 y y0 y1, by rw [e11]; exact n0, fun i i1 i2 => by
    rw [e11] at i2
    obtain ⟨o1, o2, o3, o4⟩ := O.2.2 i i1 i2
    rw [ne0 28 (by decide)]
    exact ⟨o1, (vs0 _).2 o2, by rw [ne0 29 (by decide)]; exact o3, fun k k0 k1 hK => i0 (o4 k k0 k1 hK)⟩⟩
  have E0 : bExt6 0 s s0 := ⟨⟨e10, by rw [← hs, bi_nj (by decide) (by decide) (by decide)]⟩, fun j j0 j1 => by omega, by rw [e11]; exact Int.le_refl _, fun i _ _ => ne0 28 (by decide) i, fun y _ _ w => (vs0 y).2 w, fun y _ _ w => Or.inl ((vs0 y).1 w)⟩
  have VI0 : ∀ y, 0 ≤ y → y < 4096 → bVis s0 y → bIno s0 (bi s0 6 11) y := fun y y0 y1 w => by rw [e11]; exact i0 (VI y y0 y1 ((vs0 y).1 w))
  refine w72 (fun w => absurd w (by omega)) (fun _ => ⟨⟨x0, by omega⟩, fun w => ?_, fun w => ?_⟩) ⟨by omega, by omega⟩
  · exact fin s0 0 _ _ _ _ (by decide) e12 (h s0 ⟨M0, O0, VI0, by rw [e11, cv0]; exact cn⟩ E0 (VI0 x x0 (by omega) w))
  · rw [e12, e10]
    refine ⟨by decide, ?_⟩
    generalize hs2 : bw (bw (bw (bw s0 27 x (bi s 6 10)) 31 0 x) 32 0 0) 6 12 (0 + 1) = s2
    have M2 : bSm bWkK σ s2 := by rw [← hs2]; exact bSm_trans M0 (bSm_trans (bSm_trans (bSm_trans (bSm_bw (by decide)) (bSm_bw (by decide))) (bSm_bw (by decide))) (bSm_bw (by decide)))
    have ne2 : ∀ b, b ≠ 27 → b ≠ 31 → b ≠ 32 → b ≠ 6 → ∀ j, bi s2 b j = bi s b j := fun b q1 q2 q3 q4 j => by rw [← hs2, bi_ne q4, bi_ne q3, bi_ne q2, bi_ne q1, ne0 b q4]
    have f10 : bi s2 6 10 = bi s 6 10 := by rw [← hs2, bi_nj (by decide) (by decide) (by decide), bi_ne (by decide), bi_ne (by decide), bi_ne (by decide), e10]
    have f11 : bi s2 6 11 = bi s 6 11 := by rw [← hs2, bi_nj (by decide) (by decide) (by decide), bi_ne (by decide), bi_ne (by decide), bi_ne (by decide), e11]
    have f13 : bi s2 6 13 = bi s 6 13 := by rw [← hs2, bi_nj (by decide) (by decide) (by decide), bi_ne (by decide), bi_ne (by decide), bi_ne (by decide), ← hs, bi_nj (by decide) (by decide) (by decide)]
    have f12 : bi s2 6 12 = 1 := by rw [← hs2, bi_eq (by decide)]; rfl
    have f27 : ∀ j, 0 ≤ j → bi s2 27 j = if j = x then bi s 6 10 else bi s 27 j := fun j j0 => by
      rw [← hs2, bi_ne (by decide), bi_ne (by decide), bi_ne (by decide), bi_bw x0 j0 mr, ne0 27 (by decide)]; simp only [true_and]
    have vis2 : ∀ z, 0 ≤ z → (bVis s2 z ↔ z = x ∨ bVis s z) := fun z z0 => by
      unfold bVis
      rw [f27 z z0, f10]
      by_cases e : z = x
      · rw [if_pos e]; exact ⟨fun _ => Or.inl e, fun _ => rfl⟩
      · rw [if_neg e]; exact ⟨Or.inr, fun h => h.resolve_left e⟩
    have ny : ¬ bVis s x := fun h => w ((vs0 x).2 h)
    have cv2 : bVn s2 = bVn s + 1 := by
      unfold bVn
      refine bCn_a (y := x) 4096 x0 (by omega) (fun k k0 k1 kn => ?_) ?_ ?_
      · simp only [f27 k k0, if_neg kn, f10]
      · exact decide_eq_false ny
      · refine decide_eq_true ?_
        rw [f27 x x0, if_pos rfl, f10]
    have pre2 : ∀ i, bi s2 28 i = bi s 28 i := ne2 28 (by decide) (by decide) (by decide) (by decide)
    have i2 : ∀ {m y}, bIno s m y → bIno s2 m y := fun h => bIno_e h (Int.le_refl _) (fun i _ _ => pre2 i)
    have o27 := O.1
    have O2 : bOrd σ s2 := ⟨fun z z0 z1 => by
      rw [f27 z z0, f10]
      by_cases e : z = x
      · rw [if_pos e]; exact Int.le_refl _
      · rw [if_neg e]; exact o27 z z0 z1, by rw [f11]; exact n0, fun i i1 i3 => by
      rw [f11] at i3
      obtain ⟨o1, o2, o3, o4⟩ := O.2.2 i i1 i3
      rw [pre2]
      exact ⟨o1, (vis2 _ o1.1).2 (Or.inr o2), by rw [ne2 29 (by decide) (by decide) (by decide) (by decide)]; exact o3, fun k k0 k1 hK => i2 (o4 k k0 k1 hK)⟩⟩
    have vb2 := bVn_b (s := s2)
    refine n71 hF hL hT h4 hA ((x / 256).toNat + 1) x x0 (by omega) ht (bi σ 85 (x / 256)).toNat 0 s2 _ _ _ _ 0 0 0 (by omega) (by decide) M2 f12 (by decide) (by omega) ?_ ?_ ((vis2 x x0).2 (Or.inl rfl)) O2 (fun z z0 z1 h h2 => ?_) (fun k k0 k1 => by omega) (by rw [f11, f12, cv2]; omega) (by decide) (by decide) (by omega) (fun s3 l3 v1' v3' v4' v5' M3 E3 h12 O3 I3 cn3 l30 bl3 => ?_)
    · rw [← hs2, bi_ne (by decide), bi_ne (by decide), bi_eq ⟨by omega, by omega⟩]
    · rw [← hs2, bi_ne (by decide), bi_eq (by decide)]
    · rw [f11]
      rcases (vis2 z z0).1 h with e | e
      · omega
      · exact i2 (VI z z0 z1 e)
    · have pre3 : ∀ i, 0 ≤ i → i < bi s 6 11 → bi s3 28 i = bi s 28 i := fun i i0 i1 => by rw [E3.2.2.2.1 i i0 (by rw [f11]; exact i1), pre2]
      have le3 : bi s 6 11 ≤ bi s3 6 11 := by have := E3.2.2.1; rw [f11] at this; exact this
      have new : ∀ y, 0 ≤ y → y < 4096 → bVis s3 y → bVis s y ∨ bIno s3 (bi s3 6 11) y := fun y y0 y1 w => by
        rcases E3.2.2.2.2.2 y y0 y1 w with e | e
        · rcases (vis2 y y0).1 e with e2 | e2
          · rw [e2]; exact Or.inr I3
          · exact Or.inl e2
        · exact Or.inr e
      have vb3 := bVn_b (s := s3)
      refine fin s3 l3 _ _ _ _ ⟨by omega, by omega⟩ h12 (h s3 ⟨M3, O3, fun y y0 y1 w => ?_, by omega⟩ ⟨⟨E3.1.1.trans f10, E3.1.2.trans f13⟩, fun j j0 j1 => by omega, le3, pre3, fun y y0 y1 w => E3.2.2.2.2.1 y y0 y1 ((vis2 y y0).2 (Or.inr w)), new⟩ I3)
      rcases new y y0 y1 w with e | e
      · exact bIno_e (VI y y0 y1 e) le3 pre3
      · exact e
theorem bFx_6 (hT : bTg σ) (x0 : 0 ≤ x) (ht : bTgk σ (x / 256)) (h : bFx σ x % 8 = 6) : ∃ k, 0 ≤ k ∧ k < bi σ 85 (x / 256) ∧ bi σ 86 (6 * (x / 256) + k) = 2 ∧ bFx σ x / 8 = bNod σ x k := by
  have ic := bIc_at hT ht
  rw [bFx_s hT x0 ht] at h ⊢
  have L : ∀ (m : Nat) (i q : Int), 0 ≤ i → i + m = bi σ 85 (x / 256) → bFiS σ (bFx σ) (x / 256) (x % 256) m i q % 8 = 6 → ∃ k, 0 ≤ k ∧ k < bi σ 85 (x / 256) ∧ bi σ 86 (6 * (x / 256) + k) = 2 ∧ bFiS σ (bFx σ) (x / 256) (x % 256) m i q / 8 = bNod σ x k := by
    intro m
    induction m with
    | zero =>
      intro i q i0 hi h
      unfold bFiS at h
      split at h <;> exact absurd h (by decide)
    | succ m ih =>
      intro i q i0 hi h
      rw [bFiS_s] at h ⊢
      by_cases w : bIf σ (bFx σ) (x / 256) (x % 256) i = 0
      · rw [if_pos w] at h ⊢
        exact ih (i + 1) _ (by omega) (by omega) h
      · rw [if_neg w] at h ⊢
        unfold bIf at h w ⊢
        by_cases k0 : bi σ 86 (6 * (x / 256) + i) = 0
        · rw [if_pos k0] at h
          split at h
          · split at h <;> exact absurd h (by decide)
          · exact absurd h (by decide)
        · rw [if_neg k0] at h w ⊢
          by_cases k2 : bi σ 86 (6 * (x / 256) + i) = 2
          · rw [if_pos k2] at h w ⊢
            by_cases z : bFx σ (bi σ 87 (6 * (x / 256) + i) * 256 + bBw σ (x / 256) (x % 256)) = 0
            · rw [if_pos z] at w; exact absurd rfl w
            · rw [if_neg z]
              refine ⟨i, i0, by omega, k2, ?_⟩
              unfold bNod
              omega
          · rw [if_neg k2] at w; exact absurd rfl w
  unfold bF1 at h ⊢
  by_cases a1 : bi σ 57 (bi σ 75 (x / 256)) = 0
  · rw [if_pos a1] at h; exact absurd h (by decide)
  rw [if_neg a1] at h ⊢
  by_cases a2 : bNu σ (x / 256) (x % 256) = -1
  · rw [if_pos a2] at h; exact absurd h (by decide)
  rw [if_neg a2] at h ⊢
  by_cases a3 : bVe σ (x / 256) (x % 256) = -1
  · rw [if_pos a3] at h; exact absurd h (by decide)
  rw [if_neg a3] at h ⊢
  exact L _ 0 0 (by decide) (by omega) h
theorem bErr_rg (hT : bTg σ) : ∀ (n : Nat) (x : Int), 0 ≤ x → bTgk σ (x / 256) → -1 ≤ bErr σ n x ∧ bErr σ n x ≤ 170
  | 0, x, x0, ht => by
    have tc := hT.1.2.1
    have ht2 := ht.2
    unfold bErr
    split <;> omega
  | n + 1, x, x0, ht => by
    unfold bErr
    by_cases w : bFx σ x % 8 = 6
    · rw [if_pos w]
      obtain ⟨k, k0, k1, k2, k3⟩ := bFx_6 hT x0 ht w
      obtain ⟨⟨q1, q2, q3⟩, _⟩ := bNd_at hT ht k0 k1 k2
      rw [k3]
      exact bErr_rg hT n _ q1 q3
    · rw [if_neg w]; decide
theorem w78 (hF : bFi σ) (hL : bTl σ) (hT : bTg σ) (h4 : bR4 σ) (hM : bMks σ) (hr : bRg (bi σ 6 10 + 1)) (ht : bTgk σ t) (q0 : 0 ≤ q) (hq : bRg q) (h : ∀ s, bWk σ s → bi s 6 10 = bi σ 6 10 + 1 → f (bErr σ q.toNat (t * 256 + bi σ 10 0)) s) : bWp (d + 6) 78 [.ref 6, .int (bn t), .int (bn q)] σ (bRn f) := by
  have tc := hT.1.2.1
  have ht1 := ht.1
  have ht2 := ht.2
  have hc : 0 ≤ bi σ 10 0 ∧ bi σ 10 0 < 256 := by
    have e := hL.2.2.2
    have a0 := hL.2.2.1 0 (by decide) (by decide)
    have a1 := hL.2.2.1 1 (by decide) (by decide)
    have a2 := hL.2.2.1 2 (by decide) (by decide)
    have a3 := hL.2.2.1 3 (by decide) (by decide)
    omega
  refine ⟨rfl, fun A hA => sq78_0 (bWp_mono _) hA ⟨by omega, by omega⟩ hq (w70 hr ?_)⟩
  have W0 := bWk_0 hM hr
  have e0 : bi (bw (bw σ 6 10 (bi σ 6 10 + 1)) 6 11 0) 6 10 = bi σ 6 10 + 1 := by rw [bi_nj (by decide) (by decide) (by decide), bi_eq hr]
  generalize bw (bw σ 6 10 (bi σ 6 10 + 1)) 6 11 0 = s0 at *
  have c0 : bi s0 10 0 = bi σ 10 0 := W0.1.2 10 (by decide) 0
  refine w69 ⟨ht1, by omega⟩ (by rw [c0]; exact hc) ?_
  rw [c0]
  have hx : 0 ≤ t * 256 + bi σ 10 0 ∧ (t * 256 + bi σ 10 0) / 256 = t := by omega
  refine w71 hF hL hT h4 W0 hx.1 (by rw [hx.2]; exact ht) fun s W E I => ?_
  have c1 : bi s 10 0 = bi σ 10 0 := W.1.2 10 (by decide) 0
  refine w69 ⟨ht1, by omega⟩ (by rw [c1]; exact hc) ?_
  rw [c1]
  have hk := h s W (E.1.1.trans e0)
  have L : ∀ (m : Nat) (j y : Int) (v1 v5 : Value), j + m = q → 0 ≤ j → bIno s (bi s 6 11) y → f (bErr σ m y) s → A (13, [.ref 6, v1, .int (bn q), .int (bn y), .int (bn j), v5], [], s) := by
    intro m
    induction m with
    | zero =>
      intro j y v1 v5 hj j0 I hf
      obtain ⟨i, i0, i1, i2⟩ := I
      obtain ⟨⟨y0, yt⟩, _, y29, _⟩ := W.2.1.2.2 i i0 i1
      rw [i2] at y0 yt y29
      have yt2 := yt.2
      have fr := bFx_rg hT y0 yt
      have ej : j = q := by omega
      have y8 : bShr y 8 = y / 256 := bShr_8 y0 (by omega)
      unfold bErr at hf
      rw [ej]
      refine sq78_13 (bWp_mono _) hA hq ⟨by omega, by omega⟩ hq ⟨fun w => absurd w (by omega), fun _ => w140i (n := 4096) rfl rfl (by decide) y0 (by omega) ?_⟩
      rw [y29, y8]
      refine ⟨fr.1, fun w => bRn_i (by decide) (by rwa [if_pos w] at hf), fun w => ⟨⟨by omega, by omega⟩, ⟨by omega, by omega⟩, bRn_i ⟨by omega, by omega⟩ (by rwa [if_neg w] at hf)⟩⟩
    | succ m ih =>
      intro j y v1 v5 hj j0 I hf
      obtain ⟨i, i0, i1, i2⟩ := I
      obtain ⟨⟨y0, yt⟩, _, y29, yk⟩ := W.2.1.2.2 i i0 i1
      rw [i2] at y0 yt y29 yk
      have yt2 := yt.2
      have fr := bFx_rg hT y0 yt
      have hq2 := hq.2
      unfold bErr at hf
      refine sq78_13 (bWp_mono _) hA hq ⟨by omega, by omega⟩ ⟨by omega, by omega⟩ ⟨fun _ => w140i (n := 4096) rfl rfl (by decide) y0 (by omega) ?_, fun w => absurd (show j < q by omega) w⟩
      rw [y29]
      refine ⟨fr.1, fun w => ⟨⟨by omega, by omega⟩, ?_⟩, fun w => bRn_i (by decide) (by rwa [if_neg w] at hf)⟩
      rw [if_pos w] at hf
      obtain ⟨k, k0, k1, k2, k3⟩ := bFx_6 hT y0 yt w
      rw [k3] at hf ⊢
      exact ih (j + 1) _ _ _ (by omega) (by omega) (bIno_e (yk k k0 k1 k2) (by omega) (fun _ _ _ => rfl)) hf
  exact L q.toNat 0 _ _ _ (by omega) (by decide) I hk
end

/-! RULES' EVALUATION, 12: the class evaluates a file -/
section
variable {d : Nat} {σ s t e : bSt} {fv : bSt → Prop} {f a x y k c o : Int} {n : Nat}
theorem bEvMs_b (h : bEvI s) : bEvMs s ≤ 90 := by
  have a := bSix_m (F := bi s 40) (G := fun _ => 2) (fun x x0 x1 => (h.2.2.1 x x0 x1).2.2)
  have b := bSix_m (F := bi s 41) (G := fun _ => 13) (fun x x0 x1 => (h.2.2.1 x x0 x1).1.2)
  unfold bEvMs
  have a2 : bSix (fun _ => 2) = 12 := by decide
  have b2 : bSix (fun _ => 13) = 78 := by decide
  omega
theorem bEvI_d6 (h : bEvI s) : 0 ≤ bi s 7 13 ∧ bi s 7 13 ≤ 6 := by
  have a := bSix_m (F := bEvD s) (G := fun _ => 1) (fun x _ _ => bEvD_b.2)
  have b := bSix_m (F := fun _ => 0) (G := bEvD s) (fun x _ _ => bEvD_b.1)
  have a2 : bSix (fun _ => 1) = 6 := by decide
  have b2 : bSix (fun _ => 0) = 0 := by decide
  have := h.2.2.2.1
  omega
theorem w101 (hx : 0 ≤ x ∧ x < 6) (hS : bEvS σ) (hX : x = bi σ 7 15 → bEvX x σ) (h : ∀ t, bSm bEvK σ t → bi t 7 15 = x → bEvX x t → fv t) : bWp (d + 6) 101 [.ref 7, .int (bn x)] σ (bRv fv) := by
  refine ⟨rfl, fun A hA => ?_⟩
  have H0 : ∀ (v1 : Value) (l : Int) (s : bSt), bRg l → bEvHt s → fv s → A (34, [.ref 7, v1, .int (bn l)], [], s) := fun v1 l s hl ht k =>
    sq101_34 (bWp_mono _) hA hl ⟨fun _ => ⟨fun q => ⟨fun q2 => absurd (ht.elim (fun w => absurd q w) id) (fun w => w q2), fun _ => k⟩, fun _ => k⟩, fun _ => k⟩
  have L : ∀ (m : Nat) (v1 : Value) (l : Int) (s : bSt), bEvI s → bEvJ x s → 90 - bEvMs s ≤ m → 0 ≤ l → l + m + 1 ≤ 10000 → (∀ n t, bEvTo n s t → fv t) → A (34, [.ref 7, v1, .int (bn l)], [], s) := by
    intro m
    induction m with
    | zero =>
      intro v1 l s i j hm l0 l1 k
      by_cases ht : bEvHt s
      · exact H0 v1 l s ⟨by omega, by omega⟩ ht (k 0 s ⟨ht, rfl⟩)
      obtain ⟨hd, hr⟩ := bEvNHt ht
      obtain ⟨hf, m1⟩ := bEvI_tp i hd
      obtain ⟨i2, g⟩ := bEvGo_I i hd hr
      have d6 := bEvI_d6 i
      have b2 := bEvMs_b i2
      refine sq101_34 (bWp_mono _) hA ⟨by omega, by omega⟩ ⟨fun _ => ⟨fun _ => ⟨fun _ => ⟨⟨by omega, by omega⟩, w140i (n := 6) rfl rfl (by decide) (by omega) (by omega) ?_⟩, fun w => absurd hr w⟩, fun w => absurd hd w⟩, fun w => absurd (show l < 10000 by omega) w⟩
      refine w103 hf i.1 i.2.1 (i.2.2.1 _ hf.1 hf.2).1 ⟨by omega, d6.2⟩ (fun q k1 m0 => ?_) (fun q => bEvI_hl i hf.1 hf.2 q) ?_
      · have o0 := (((i.1 _ hf.1 hf.2).2 _ (i.2.2.1 _ hf.1 hf.2).1.1 q)).2.2.1 k1
        exact (bEvI_he i o0.1 o0.2 (by show bi s 40 (bi s 38 (bEvTp s * 12 + bi s 41 (bEvTp s))) ≠ 1; have : bi s 40 (bi s 38 (bEvTp s * 12 + bi s 41 (bEvTp s))) = 0 := m0; omega)).2
      · exact ⟨⟨by omega, by omega⟩, H0 _ (l + 1) _ ⟨by omega, by omega⟩ (Or.inr (g.resolve_left (by omega))) (k 1 _ ⟨ht, Or.inr (g.resolve_left (by omega)), rfl⟩)⟩
    | succ m ih =>
      intro v1 l s i j hm l0 l1 k
      by_cases ht : bEvHt s
      · exact H0 v1 l s ⟨by omega, by omega⟩ ht (k 0 s ⟨ht, rfl⟩)
      obtain ⟨hd, hr⟩ := bEvNHt ht
      obtain ⟨hf, m1⟩ := bEvI_tp i hd
      obtain ⟨i2, g⟩ := bEvGo_I i hd hr
      have d6 := bEvI_d6 i
      refine sq101_34 (bWp_mono _) hA ⟨by omega, by omega⟩ ⟨fun _ => ⟨fun _ => ⟨fun _ => ⟨⟨by omega, by omega⟩, w140i (n := 6) rfl rfl (by decide) (by omega) (by omega) ?_⟩, fun w => absurd hr w⟩, fun w => absurd hd w⟩, fun w => absurd (show l < 10000 by omega) w⟩
      refine w103 hf i.1 i.2.1 (i.2.2.1 _ hf.1 hf.2).1 ⟨by omega, d6.2⟩ (fun q k1 m0 => ?_) (fun q => bEvI_hl i hf.1 hf.2 q) ?_
      · have o0 := (((i.1 _ hf.1 hf.2).2 _ (i.2.2.1 _ hf.1 hf.2).1.1 q)).2.2.1 k1
        exact (bEvI_he i o0.1 o0.2 (by show bi s 40 (bi s 38 (bEvTp s * 12 + bi s 41 (bEvTp s))) ≠ 1; have : bi s 40 (bi s 38 (bEvTp s * 12 + bi s 41 (bEvTp s))) = 0 := m0; omega)).2
      · refine ⟨⟨by omega, by omega⟩, ?_⟩
        by_cases g1 : bi (bEvGo s (bEvTp s)) 7 14 = -1
        · exact ih _ (l + 1) _ i2 (bEvGo_J i j hx hd) (by have := g.resolve_right (fun w => w g1); show 90 - bEvMs (bEvGo s (bEvTp s)) ≤ _; omega) (by omega) (by omega) (fun n t r => k (n + 1) t ⟨ht, r⟩)
        · exact H0 _ (l + 1) _ ⟨by omega, by omega⟩ (Or.inr g1) (k 1 _ ⟨ht, Or.inr g1, rfl⟩)
  refine sq101_0 (bWp_mono _) hA ⟨by omega, by omega⟩ ⟨fun q => h σ bSm_refl q.symm (hX q), fun q => ?_⟩
  refine w361 (N := 48) (by decide) rfl (by decide) (fun _ => rfl) (by decide) fun s1 a1 a2 a3 => w361 (N := 6) (by decide) rfl (by decide) (fun _ => rfl) (by decide) fun s2 b1 b2 b3 => w361 (N := 6) (by decide) rfl (by decide) (fun _ => rfl) (by decide) fun s3 c1 c2 c3 => ?_
  generalize he : bw (bw (bw s3 7 12 0) 7 13 0) 7 14 (-1) = e
  have un : ∀ b, b ∉ [39, 40, 41, 7] → ∀ j, bi e b j = bi σ b j := fun b hb j => by
    simp only [List.mem_cons, List.not_mem_nil, or_false, not_or] at hb
    rw [← he, bi_ne hb.2.2.2, bi_ne hb.2.2.2, bi_ne hb.2.2.2, c2 b j hb.2.2.1, b2 b j hb.2.1, a2 b j hb.1, bi_ne hb.2.2.2]
  have e39 : ∀ j, bi e 39 j = bi s1 39 j := fun j => by rw [← he, bi_ne (by decide), bi_ne (by decide), bi_ne (by decide), c2 39 j (by decide), b2 39 j (by decide)]
  have e40 : ∀ j, bi e 40 j = bi s2 40 j := fun j => by rw [← he, bi_ne (by decide), bi_ne (by decide), bi_ne (by decide), c2 40 j (by decide)]
  have e41 : ∀ j, bi e 41 j = bi s3 41 j := fun j => by rw [← he, bi_ne (by decide), bi_ne (by decide), bi_ne (by decide)]
  have e15 : bi e 7 15 = x := by
    rw [← he, bi_nj (by decide) (by decide) (by decide), bi_nj (by decide) (by decide) (by decide), bi_nj (by decide) (by decide) (by decide), c2 7 15 (by decide), b2 7 15 (by decide), a2 7 15 (by decide), bi_eq ⟨by omega, by omega⟩]
  have e12 : bi e 7 12 = 0 := by rw [← he, bi_nj (by decide) (by decide) (by decide), bi_nj (by decide) (by decide) (by decide), bi_eq (by decide)]
  have e13 : bi e 7 13 = 0 := by rw [← he, bi_nj (by decide) (by decide) (by decide), bi_eq (by decide)]
  have e14 : bi e 7 14 = -1 := by rw [← he, bi_eq (by decide)]
  have z : bEvZ e := ⟨fun j j0 j1 => by rw [e39]; exact a3 j j0 (by omega), fun j j0 j1 => ⟨by rw [e40]; exact b3 j j0 (by omega), by rw [e41]; exact c3 j j0 (by omega)⟩, e12, e13, e14⟩
  have zs : bEvS e := by
    unfold bEvS
    simp only [un 34 (by decide), un 35 (by decide), un 36 (by decide), un 37 (by decide), un 38 (by decide)]
    exact hS
  have ms : bSm bEvK σ e := ⟨by rw [← he]; exact (c1.trans b1).trans a1, fun b hb j => un b (fun w => hb (by revert w; simp only [List.mem_cons, List.not_mem_nil, or_false]; rintro (rfl | rfl | rfl | rfl) <;> decide)) j⟩
  have i0 := bEvZ_I z zs
  refine w102 hx (by rw [e13]; decide) (L 90 _ 0 _ (bEvI_ent i0 hx.1 hx.2 (z.2.1 x hx.1 hx.2).1) (bEvZ_J z hx) ?_ (by decide) (by decide) fun n t r => ?_)
  · have p := bSix_m (F := fun _ => 0) (G := bi (bEvEnt e x) 40) (fun y y0 y1 => ((bEvI_ent i0 hx.1 hx.2 (z.2.1 x hx.1 hx.2).1).2.2.1 y y0 y1).2.1)
    have q := bSix_m (F := fun _ => 0) (G := bi (bEvEnt e x) 41) (fun y y0 y1 => ((bEvI_ent i0 hx.1 hx.2 (z.2.1 x hx.1 hx.2).1).2.2.1 y y0 y1).1.1)
    have b2 : bSix (fun _ => 0) = 0 := by decide
    unfold bEvMs
    omega
  · obtain ⟨m1, m2⟩ := bEvTo_sm n _ r
    have me : bSm bEvK e (bEvEnt e x) := bSm_trans (bSm_trans (bSm_bw (by decide)) (bSm_bw (by decide))) (bSm_bw (by decide))
    refine h t (bSm_trans ms (bSm_trans me m1)) ?_ ⟨hx, n, e, t, z, zs, r, fun b hb j => ?_, fun _ _ _ => rfl, rfl, rfl, rfl⟩
    · rw [m2]
      unfold bEvEnt
      rw [bi_nj (by decide) (by decide) (by decide), bi_ne (by decide), bi_ne (by decide)]
      exact e15
    · exact (bSm_trans me m1).2 b (by revert hb; simp only [List.mem_cons, List.not_mem_nil, or_false]; rintro (rfl | rfl | rfl | rfl | rfl) <;> decide) j
end

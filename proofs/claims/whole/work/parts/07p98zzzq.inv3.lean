/-! BUILD, 13: an end keeps what holds -/
section
variable {σ : bSt} {Z Y X : bZs} {a b i v g w x : Int} {c n m : Nat} {S T : List Nat} {K : bKy} {L : List bKy}
theorem bzX_01 : bzX σ Z a = 0 ∨ bzX σ Z a = 1 := by
  unfold bzX bEls
  split
  · exact Or.inr rfl
  · exact Or.inl rfl
/-- what a run that leaves has changed -/
theorem bzQ_e (hr : -1 ≤ v ∧ v < 1000) : zU [137, 138, 139, 148] Z (bzQ σ Z a v) ∧ (∀ b, b ≠ a → (bzQ σ Z a v).1 148 b = Z.1 148 b) ∧ (bzQ σ Z a v).2 = Z.2 ∧ (∀ w, ((bzQ σ Z a v).1 138 w = Z.1 138 w ∨ (bzQ σ Z a v).1 138 w = 0) ∧ ((bzQ σ Z a v).1 137 w = Z.1 137 w ∨ (-1 ≤ (bzQ σ Z a v).1 137 w ∧ (bzQ σ Z a v).1 137 w < 1000))) ∧ ((∀ x, x ≠ 11 → (bzQ σ Z a v).1 139 x = Z.1 139 x) ∧ Z.1 139 11 ≤ (bzQ σ Z a v).1 139 11 ∧ (bzQ σ Z a v).1 139 11 ≤ Z.1 139 11 + 1) ∧ ((bzQ σ Z a v).1 148 a = -1 ∨ (bzQ σ Z a v).1 148 a = Z.1 148 a) := by
  have x01 := bzX_01 (σ := σ) (Z := Z) (a := a)
  unfold bzQ bzLv
  by_cases z : Z.1 148 a = -1
  · rw [if_pos z]
    refine ⟨zU_w (by decide), fun b hb => zw_a (by decide), rfl, fun w => ⟨Or.inl (zw_a (by decide)), Or.inl (zw_a (by decide))⟩, ⟨fun x hx => zw_i hx, ?_⟩, Or.inr (zw_a (by decide))⟩
    rw [zw_e]; omega
  · rw [if_neg z]
    refine ⟨zU_trans (zU_trans (zU_trans (zU_w (by decide)) (zU_w (by decide))) (zU_w (by decide))) (zU_w (by decide)), fun b hb => ?_, rfl, fun w => ⟨?_, ?_⟩, ⟨fun x hx => ?_, ?_⟩, Or.inl ?_⟩
    · rw [zw_a (by decide), zw_i hb, zw_a (by decide), zw_a (by decide)]
    · rw [zw_a (by decide), zw_a (by decide), zw_a (by decide), zw_w]
      split
      · exact Or.inr rfl
      · exact Or.inl rfl
    · rw [zw_a (by decide), zw_a (by decide), zw_w]
      split
      · exact Or.inr hr
      · exact Or.inl (zw_a (by decide))
    · rw [zw_i hx, zw_a (by decide), zw_a (by decide), zw_a (by decide)]
    · rw [zw_e]; omega
    · rw [zw_a (by decide), zw_e]
/-- done, with its entry near -/
theorem bzDn_e : zU [112, 142, 144] Z (bzDn Z a v K) ∧ (∀ b, b ≠ a → ((bzDn Z a v K).1 112 b = Z.1 112 b ∧ (bzDn Z a v K).1 142 b = Z.1 142 b ∧ (bzDn Z a v K).1 144 b = Z.1 144 b) ∧ (bzDn Z a v K).2.2.2 b = Z.2.2.2 b) ∧ (bzDn Z a v K).1 142 a = v ∧ (bzDn Z a v K).1 112 a = bKv K ∧ (bzDn Z a v K).2.2.2 a = some K ∧ (bzDn Z a v K).2.1 = bzPut 24 Z.2.1 K ∧ (bzDn Z a v K).2.2.1 = Z.2.2.1 := by
  have e : (bzDn Z a v K).1 = (zw (zw (zw Z 142 a v) 144 a (Z.1 305 0)) 112 a (bKv K)).1 := rfl
  have e3 : (bzDn Z a v K).2.2.2 = fun b => if b = a then some K else Z.2.2.2 b := rfl
  rw [e, e3]
  refine ⟨?_, fun b hb => ⟨⟨?_, ?_, ?_⟩, if_neg hb⟩, ?_, ?_, if_pos rfl, rfl, rfl⟩
  · exact zU_trans (zU_trans (zU_w (by decide)) (zU_w (by decide))) (Y := zw (zw Z 142 a v) 144 a (Z.1 305 0)) (X := bzDn Z a v K) (by
      intro c hc j
      rw [e]
      exact zw_a (fun q => hc (by rw [q]; decide)))
  · rw [zw_i hb, zw_a (by decide), zw_a (by decide)]
  · rw [zw_a (by decide), zw_a (by decide), zw_i hb]
  · rw [zw_a (by decide), zw_i hb, zw_a (by decide)]
  · rw [zw_a (by decide), zw_a (by decide), zw_e]
  · exact zw_e
/-- the end of a run with a content, or of a fetching -/
theorem bzFe_dn (hW : zU [137, 138, 139, 148] Z Y) (hW2 : ∀ b, b ≠ a → Y.1 148 b = Z.1 148 b) (hW3 : Y.2 = Z.2) (hW4 : ∀ w, (Y.1 138 w = Z.1 138 w ∨ Y.1 138 w = 0) ∧ (Y.1 137 w = Z.1 137 w ∨ (-1 ≤ Y.1 137 w ∧ Y.1 137 w < 1000))) (hW5 : (∀ x, x ≠ 11 → Y.1 139 x = Z.1 139 x) ∧ Z.1 139 11 ≤ Y.1 139 11 ∧ Y.1 139 11 ≤ Z.1 139 11 + 1) (hW6 : Y.1 148 a = -1 ∨ Y.1 148 a = Z.1 148 a) (hv : bzV σ Z a ≠ -1) (hst : 0 ≤ v ∧ v ≤ 4)
    (hX : X.1 = (bzDn Y a v (bzK σ Z a)).1 ∨ (∃ s, X.1 = (zw (bzDn Y a v (bzK σ Z a)) 134 s 1).1) ∨ (∃ s, X.1 = (zw (bzDn Y a v (bzK σ Z a)) 135 s 1).1) ∨ ∃ s, X.1 = (zw (zw (bzDn Y a v (bzK σ Z a)) 135 s 1) 134 s 1).1) (hX2 : X.2.1 = (bzDn Y a v (bzK σ Z a)).2.1) (hX3 : X.2.2.1 = Z.2.2.1 ∨ X.2.2.1 = bzPut 40 Z.2.2.1 (bzK σ Z a)) (hX4 : X.2.2.2 = (bzDn Y a v (bzK σ Z a)).2.2.2) : bzFe σ n a Z X := by
  obtain ⟨d1, d2, d3, d4, d5, d6, d7⟩ := bzDn_e (Z := Y) (a := a) (v := v) (K := bzK σ Z a)
  generalize bzDn Y a v (bzK σ Z a) = D at *
  have ex : ∀ c, c ≠ 134 → c ≠ 135 → ∀ j, X.1 c j = D.1 c j := fun c q1 q2 j => by
    rcases hX with h | ⟨s, h⟩ | ⟨s, h⟩ | ⟨s, h⟩ <;> rw [h]
    · exact zw_a q1
    · exact zw_a q2
    · rw [zw_a q1, zw_a q2]
  have eY : ∀ c, c ∉ [112, 142, 144] → c ≠ 134 → c ≠ 135 → ∀ j, X.1 c j = Y.1 c j := fun c q q1 q2 j => (ex c q1 q2 j).trans (d1 c q j)
  refine ⟨fun c hc j => ?_, fun b hb => ⟨⟨?_, ?_, ?_, ?_⟩, ?_⟩, Or.inl ⟨?_, ?_, ?_, ?_, hv⟩, ⟨Or.inr ⟨?_, hv⟩, hX3.imp id (fun q => ⟨q, hv⟩)⟩, fun w => ?_, fun x => ⟨?_, ?_⟩, ?_, ?_, ?_, ?_⟩
  · simp only [List.mem_cons, List.not_mem_nil, or_false, not_or] at hc
    rw [eY c (by simp only [List.mem_cons, List.not_mem_nil, or_false, not_or]; omega) (by omega) (by omega)]
    exact hW c (by simp only [List.mem_cons, List.not_mem_nil, or_false, not_or]; omega) j
  · rw [ex 112 (by decide) (by decide), (d2 b hb).1.1]; exact hW 112 (by decide) b
  · rw [ex 142 (by decide) (by decide), (d2 b hb).1.2.1]; exact hW 142 (by decide) b
  · rw [ex 144 (by decide) (by decide), (d2 b hb).1.2.2]; exact hW 144 (by decide) b
  · rw [eY 148 (by decide) (by decide) (by decide)]; exact hW2 b hb
  · rw [hX4, (d2 b hb).2, hW3]
  · rw [ex 142 (by decide) (by decide), d3]; exact hst.1
  · rw [ex 142 (by decide) (by decide), d3]; exact hst.2
  · rw [hX4, d5]
  · rw [ex 112 (by decide) (by decide), d4]
  · rw [hX2, d6, hW3]
  · rw [eY 138 (by decide) (by decide) (by decide), eY 137 (by decide) (by decide) (by decide)]; exact hW4 w
  · rcases hX with h | ⟨s, h⟩ | ⟨s, h⟩ | ⟨s, h⟩ <;> rw [h]
    · exact Or.inl ((d1 134 (by decide) x).trans (hW 134 (by decide) x))
    · rw [zw_w]
      split
      · exact Or.inr rfl
      · exact Or.inl ((d1 134 (by decide) x).trans (hW 134 (by decide) x))
    · rw [zw_a (by decide)]
      exact Or.inl ((d1 134 (by decide) x).trans (hW 134 (by decide) x))
    · rw [zw_w]
      split
      · exact Or.inr rfl
      · rw [zw_a (by decide)]
        exact Or.inl ((d1 134 (by decide) x).trans (hW 134 (by decide) x))
  · rcases hX with h | ⟨s, h⟩ | ⟨s, h⟩ | ⟨s, h⟩ <;> rw [h]
    · exact Or.inl ((d1 135 (by decide) x).trans (hW 135 (by decide) x))
    · rw [zw_a (by decide)]
      exact Or.inl ((d1 135 (by decide) x).trans (hW 135 (by decide) x))
    · rw [zw_w]
      split
      · exact Or.inr rfl
      · exact Or.inl ((d1 135 (by decide) x).trans (hW 135 (by decide) x))
    · rw [zw_a (by decide), zw_w]
      split
      · exact Or.inr rfl
      · exact Or.inl ((d1 135 (by decide) x).trans (hW 135 (by decide) x))
  · refine ⟨fun x hx => ?_, ?_⟩
    · rw [eY 139 (by decide) (by decide) (by decide)]; exact hW5.1 x hx
    · rw [eY 139 (by decide) (by decide) (by decide)]; exact hW5.2
  · rw [eY 306 (by decide) (by decide) (by decide)]; exact Or.inl (hW 306 (by decide) 0)
  · rw [eY 395 (by decide) (by decide) (by decide)]; exact Or.inl (hW 395 (by decide) 0)
  · rw [eY 148 (by decide) (by decide) (by decide)]; exact hW6
/-- the end of a run without a content, or cancelled -/
theorem bzFe_fl (hW : zU [137, 138, 139, 148] Z Y) (hW2 : ∀ b, b ≠ a → Y.1 148 b = Z.1 148 b) (hW3 : Y.2 = Z.2) (hW4 : ∀ w, (Y.1 138 w = Z.1 138 w ∨ Y.1 138 w = 0) ∧ (Y.1 137 w = Z.1 137 w ∨ (-1 ≤ Y.1 137 w ∧ Y.1 137 w < 1000))) (hW5 : (∀ x, x ≠ 11 → Y.1 139 x = Z.1 139 x) ∧ Z.1 139 11 ≤ Y.1 139 11 ∧ Y.1 139 11 ≤ Z.1 139 11 + 1) (hW6 : Y.1 148 a = -1 ∨ Y.1 148 a = Z.1 148 a) (hst : v = 5 ∨ v = 7)
    (hX : zU [306, 395] (bzE Y a v) X) (hX2 : X.2 = Y.2) (hX3 : X.1 306 0 = Y.1 306 0 ∨ X.1 306 0 = 1) (hX4 : X.1 395 0 = Y.1 395 0 ∨ X.1 395 0 = a) : bzFe σ n a Z X := by
  have ex : ∀ c, c ∉ [142, 144, 306, 395] → ∀ j, X.1 c j = Y.1 c j := fun c q j => by
    simp only [List.mem_cons, List.not_mem_nil, or_false, not_or] at q
    rw [hX c (by simp only [List.mem_cons, List.not_mem_nil, or_false, not_or]; omega)]
    unfold bzE
    rw [zw_a (by omega), zw_a (by omega)]
  have e142 : ∀ j, X.1 142 j = if j = a then v else Y.1 142 j := fun j => by
    rw [hX 142 (by decide)]
    unfold bzE
    rw [zw_a (by decide), zw_w]
    simp only [true_and]
  have e144 : ∀ j, j ≠ a → X.1 144 j = Y.1 144 j := fun j q => by
    rw [hX 144 (by decide)]
    unfold bzE
    rw [zw_i q, zw_a (by decide)]
  refine ⟨fun c hc j => ?_, fun b hb => ⟨⟨?_, ?_, ?_, ?_⟩, ?_⟩, Or.inr ⟨?_, ?_, ?_⟩, ⟨Or.inl ?_, Or.inl ?_⟩, fun w => ?_, fun x => ⟨Or.inl ?_, Or.inl ?_⟩, ?_, ?_, ?_, ?_⟩
  · simp only [List.mem_cons, List.not_mem_nil, or_false, not_or] at hc
    rw [ex c (by simp only [List.mem_cons, List.not_mem_nil, or_false, not_or]; omega)]
    exact hW c (by simp only [List.mem_cons, List.not_mem_nil, or_false, not_or]; omega) j
  · rw [ex 112 (by decide)]; exact hW 112 (by decide) b
  · rw [e142, if_neg hb]; exact hW 142 (by decide) b
  · rw [e144 b hb]; exact hW 144 (by decide) b
  · rw [ex 148 (by decide)]; exact hW2 b hb
  · rw [hX2, hW3]
  · rw [e142, if_pos rfl]; exact hst
  · rw [hX2, hW3]
  · rw [ex 112 (by decide)]; exact hW 112 (by decide) a
  · rw [hX2, hW3]
  · rw [hX2, hW3]
  · rw [ex 138 (by decide), ex 137 (by decide)]; exact hW4 w
  · rw [ex 134 (by decide)]; exact hW 134 (by decide) x
  · rw [ex 135 (by decide)]; exact hW 135 (by decide) x
  · refine ⟨fun x hx => ?_, ?_⟩
    · rw [ex 139 (by decide)]; exact hW5.1 x hx
    · rw [ex 139 (by decide)]; exact hW5.2
  · rw [← hW 306 (by decide) 0]; exact hX3
  · rw [← hW 395 (by decide) 0]; exact hX4
  · rw [ex 148 (by decide)]; exact hW6
theorem bzFl_e : zU [306, 395] (bzE Z a 5) (bzFl g Z a) ∧ (bzFl g Z a).2 = Z.2 ∧ ((bzFl g Z a).1 306 0 = Z.1 306 0 ∨ (bzFl g Z a).1 306 0 = 1) ∧ ((bzFl g Z a).1 395 0 = Z.1 395 0 ∨ (bzFl g Z a).1 395 0 = a) := by
  have e6 : (bzE Z a 5).1 306 0 = Z.1 306 0 := by unfold bzE; rw [zw_a (by decide), zw_a (by decide)]
  have e9 : (bzE Z a 5).1 395 0 = Z.1 395 0 := by unfold bzE; rw [zw_a (by decide), zw_a (by decide)]
  unfold bzFl
  by_cases h1 : g = 0
  · rw [if_pos h1]
    by_cases h2 : Z.1 395 0 = -1
    · rw [if_pos h2]
      exact ⟨zU_trans (zU_w (by decide)) (zU_w (by decide)), rfl, Or.inr zw_e, Or.inr (by rw [zw_a (by decide), zw_e])⟩
    · rw [if_neg h2]
      exact ⟨zU_w (by decide), rfl, Or.inr zw_e, Or.inl (by rw [zw_a (by decide)]; exact e9)⟩
  · rw [if_neg h1]
    by_cases h2 : Z.1 395 0 = -1
    · rw [if_pos h2]
      exact ⟨zU_w (by decide), rfl, Or.inl (by rw [zw_a (by decide)]; exact e6), Or.inr zw_e⟩
    · rw [if_neg h2]
      exact ⟨zU_refl, rfl, Or.inl e6, Or.inl e9⟩
theorem bzFin_fe (I : bzI σ n Z) (hg : bzG Z a) (a0 : 0 ≤ a) (a1 : a < (n : Int)) : bzFe σ n a Z (bzFin σ g Z a) := by
  have o := I.1.2.1.2 a a0 a1
  unfold bzFin
  by_cases h1 : Z.1 147 a ≠ 0
  · rw [if_pos h1]
    have hv := ((I.2.2.2.1 a a0 a1).2.2.2.1 h1).2.2 hg
    exact bzFe_dn (Y := Z) (v := 2) zU_refl (fun _ _ => rfl) rfl (fun _ => ⟨Or.inl rfl, Or.inl rfl⟩) ⟨fun _ _ => rfl, Int.le_refl _, by omega⟩ (Or.inr rfl) hv (by decide) (Or.inl rfl) rfl (Or.inl rfl) rfl
  · rw [if_neg h1]
    have run : ∀ v h, (-1 ≤ v ∧ v < 1000) → bzFe σ n a Z (if bzV σ Z a = -1 then bzFl g (bzQ σ Z a v) a else bzRn σ (bzQ σ Z a v) a h (bzX σ Z a) (bzK σ Z a)) := fun v h hr => by
      obtain ⟨q1, q2, q3, q4, q5, q6⟩ := bzQ_e (σ := σ) (Z := Z) (a := a) hr
      generalize bzQ σ Z a v = W at *
      by_cases hv : bzV σ Z a = -1
      · rw [if_pos hv]
        obtain ⟨f1, f2, f3, f4⟩ := bzFl_e (g := g) (Z := W) (a := a)
        exact bzFe_fl q1 q2 q3 q4 q5 q6 (Or.inl rfl) f1 f2 f3 f4
      · rw [if_neg hv]
        unfold bzRn
        by_cases c1 : bi σ 12 87 ≠ 0 ∧ bzX σ Z a = 0
        · rw [if_pos c1]
          by_cases c2 : h = 1
          · rw [if_pos c2]
            exact bzFe_dn (v := 3) q1 q2 q3 q4 q5 q6 hv (by decide) (Or.inr (Or.inr (Or.inr ⟨_, rfl⟩))) rfl (Or.inr (by rw [← q3]; rfl)) rfl
          · rw [if_neg c2]
            exact bzFe_dn (v := 4) q1 q2 q3 q4 q5 q6 hv (by decide) (Or.inr (Or.inr (Or.inl ⟨_, rfl⟩))) rfl (Or.inr (by rw [← q3]; rfl)) rfl
        · rw [if_neg c1]
          by_cases c2 : h = 1
          · rw [if_pos c2]
            exact bzFe_dn (v := 3) q1 q2 q3 q4 q5 q6 hv (by decide) (Or.inr (Or.inl ⟨_, rfl⟩)) rfl (Or.inl (by rw [← q3]; rfl)) rfl
          · rw [if_neg c2]
            exact bzFe_dn (v := 4) q1 q2 q3 q4 q5 q6 hv (by decide) (Or.inl rfl) rfl (Or.inl (by rw [← q3]; rfl)) rfl
    by_cases h2 : Z.1 145 a = Z.1 305 0
    · rw [if_pos h2]
      exact run (Z.1 103 a) 1 (by omega)
    · rw [if_neg h2]
      exact run (-1) 0 (by decide)
/-- an action is cancelled -/
theorem bzLv_fe : bzFe σ n a Z (bzE (bzLv Z a (-1)) a 7) := by
  have W : zU [137, 138, 139, 148] Z (bzLv Z a (-1)) ∧ (∀ b, b ≠ a → (bzLv Z a (-1)).1 148 b = Z.1 148 b) ∧ (bzLv Z a (-1)).2 = Z.2 ∧ (∀ w, ((bzLv Z a (-1)).1 138 w = Z.1 138 w ∨ (bzLv Z a (-1)).1 138 w = 0) ∧ ((bzLv Z a (-1)).1 137 w = Z.1 137 w ∨ (-1 ≤ (bzLv Z a (-1)).1 137 w ∧ (bzLv Z a (-1)).1 137 w < 1000))) ∧ ((bzLv Z a (-1)).1 148 a = -1 ∨ (bzLv Z a (-1)).1 148 a = Z.1 148 a) := by
    unfold bzLv
    by_cases z : Z.1 148 a = -1
    · rw [if_pos z]
      exact ⟨zU_refl, fun _ _ => rfl, rfl, fun _ => ⟨Or.inl rfl, Or.inl rfl⟩, Or.inr rfl⟩
    · rw [if_neg z]
      refine ⟨zU_trans (zU_trans (zU_w (by decide)) (zU_w (by decide))) (zU_w (by decide)), fun b hb => by rw [zw_i hb, zw_a (by decide), zw_a (by decide)], rfl, fun w => ⟨?_, ?_⟩, Or.inl zw_e⟩
      · rw [zw_a (by decide), zw_a (by decide), zw_w]
        split
        · exact Or.inr rfl
        · exact Or.inl rfl
      · rw [zw_a (by decide), zw_w]
        split
        · exact Or.inr (by decide)
        · exact Or.inl (zw_a (by decide))
  obtain ⟨q1, q2, q3, q4, q6⟩ := W
  have e139 : ∀ x, (bzLv Z a (-1)).1 139 x = Z.1 139 x := fun x => by
    unfold bzLv
    by_cases z : Z.1 148 a = -1
    · rw [if_pos z]
    · rw [if_neg z, zw_a (by decide), zw_a (by decide), zw_a (by decide)]
  have ee : ∀ c, c ≠ 142 → c ≠ 144 → ∀ j, (bzE (bzLv Z a (-1)) a 7).1 c j = (bzLv Z a (-1)).1 c j := fun c h1 h2 j => by unfold bzE; rw [zw_a h2, zw_a h1]
  exact bzFe_fl (v := 7) q1 q2 q3 q4 ⟨fun x _ => e139 x, by rw [e139]; exact Int.le_refl _, by rw [e139]; omega⟩ q6 (Or.inr rfl) zU_refl rfl (Or.inl (ee 306 (by decide) (by decide) 0)) (Or.inl (ee 395 (by decide) (by decide) 0))
/-- all ends keep what holds -/
theorem bzI_ends (I : bzI σ n Z) : ∀ k : Nat, k ≤ n → bzI σ n (bzEnds σ g k Z)
  | 0, _ => I
  | k + 1, hk => by
    have ih := bzI_ends I k (by omega)
    unfold bzEnds
    by_cases z : bzG (bzEnds σ g k Z) k ∧ ((bzEnds σ g k Z).1 145 k = (bzEnds σ g k Z).1 305 0 ∨ (bzEnds σ g k Z).1 146 k = (bzEnds σ g k Z).1 305 0)
    · rw [if_pos z]
      exact bzI_fe ih z.1 (by omega) (by omega) (bzFin_fe ih z.1 (by omega) (by omega))
    · rw [if_neg z]; exact ih
theorem bzI_ccl (I : bzI σ n Z) : ∀ k : Nat, k ≤ n → bzI σ n (bzCcl k Z)
  | 0, _ => I
  | k + 1, hk => by
    have ih := bzI_ccl I k (by omega)
    unfold bzCcl
    by_cases z : bzG (bzCcl k Z) k
    · rw [if_pos z]
      exact bzI_fe ih z (by omega) (by omega) bzLv_fe
    · rw [if_neg z]; exact ih
end

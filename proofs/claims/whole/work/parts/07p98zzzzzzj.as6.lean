/-! THE START, 3: the invariant holds; and the law's whole run -/
section
variable {σ0 σ s s1 s3 : bSt} {L : Nat}
theorem bqZ_0 (h : bqS1 L σ) : bqZ 0 1000 σ := by
  obtain ⟨_, z, _, ⟨k56, k57, k12, k136, k137, k151⟩, ⟨⟨a1, a2, a3, a4⟩, ⟨b1, b2⟩, ⟨d1, d2⟩, ⟨f1, f2, f3, f4⟩, ⟨g1, g2, g3, g4⟩, ⟨h1, h2, h3, h4, h5, h6⟩, i1, i2⟩, mm, _, _⟩ := h
  have e12 : ∀ i, 0 ≤ i → ¬ (i = 68 ∨ i = 87 ∨ i = 88 ∨ i = 95 ∨ i = 112) → bi σ 12 i = 0 := fun i i0 hi => by
    rw [k12 i i0, if_neg (by omega), if_neg (by omega), if_neg (by omega), if_neg (by omega), if_neg (by omega)]
  have e49 : bi σ 12 49 = 0 := e12 49 (by decide) (by decide)
  have e613 : bi σ 6 13 = 0 := g1 13
  have z' : ∀ b, b ∉ 12 :: 56 :: 57 :: 136 :: 137 :: 151 :: 200 :: 201 :: bLcA → ∀ j, bi σ b j = 0 := z
  refine ⟨⟨⟨?_, ?_⟩, ⟨fun x x0 x1 => ?_, fun x x0 x1 => ?_⟩, ⟨⟨?_, ?_⟩, ?_, ?_, ?_⟩, fun x x0 x1 => ?_, fun w w0 w1 => ?_, fun x x0 x1 => ?_, fun j _ => z' 139 (by decide) j⟩, ⟨fun x _ _ => ?_, ?_⟩, ⟨⟨⟨?_, ?_, ?_⟩, fun a a0 a1 => ?_⟩, ⟨?_, ?_, ?_⟩, fun a a0 a1 => ?_⟩, ⟨Nat.le_refl _, fun x hx hx2 => ?_⟩, ⟨fun _ => 0, 0, (fun _ _ => 0, [], [], fun _ => none), ⟨⟨⟨rfl, Nat.zero_le _, fun a a0 a1 => ?_⟩, fun a b a0 ab b1 => ?_, fun a a0 a1 => ?_⟩, fun a a0 a1 => ?_, ⟨List.nodup_nil, Nat.zero_le _, fun K hK => absurd hK List.not_mem_nil⟩, ⟨List.nodup_nil, Nat.zero_le _, fun K hK => absurd hK List.not_mem_nil⟩⟩, ⟨fun a a0 a1 => ?_, ⟨⟨?_, ?_⟩, ⟨?_, ?_⟩, fun i j _ _ e hq => ?_⟩⟩, ⟨e49, fun a a0 a1 => ?_, fun a a0 a1 => ?_, ⟨?_, ?_⟩, ⟨[], rfl, bzSP_0 fun k _ _ => z' 121 (by decide) k⟩, [], rfl, bzSP_0 fun k _ _ => z' 121 (by decide) k⟩, fun a _ _ => ?_⟩, ?_⟩
  · rw [a4, k12 68 (by decide)]; rfl
  · rw [k12 68 (by decide)]; exact Or.inr rfl
  · rw [h5 x x0 x1, k136 x x0 x1]; exact ⟨rfl, by decide, by decide⟩
  · rw [h6 x x0 x1, k137 x x0 x1]
  · rw [h1 5 (by decide), k12 87 (by decide)]; rfl
  · rw [k12 87 (by decide)]; exact Or.inr rfl
  · rw [h1 6 (by decide), k12 88 (by decide)]; rfl
  · rw [k12 88 (by decide)]; decide
  · rw [k12 88 (by decide)]; decide
  · rw [h2 271 (by decide), z' 135 (by decide)]; exact ⟨rfl, Or.inl rfl⟩
  · rw [h2 18 (by decide), z' 138 (by decide), k137 w w0 w1]; decide
  · rw [h2 15 (by decide), z' 134 (by decide)]; exact ⟨rfl, Or.inl rfl⟩
  · rw [h2 24 (by decide), z' 139 (by decide)]
  · show bi σ 5 8 = bi σ 12 95
    rw [h1 8 (by decide), k12 95 (by decide)]; rfl
  · rw [e613, e49]
  · rw [e49]; exact Int.le_refl _
  · rw [e49]; decide
  · omega
  · rw [e613, e49]
  · rw [e49]; exact Int.le_refl _
  · rw [e49]; decide
  · omega
  · refine mm x ?_ (by omega)
    simp only [bLcA, bLc1, bLc3, bLc5, bLc7, bLc9, bLcB, List.cons_append, List.nil_append, List.mem_cons, List.not_mem_nil, or_false, not_or]
    omega
  · omega
  · omega
  · omega
  · omega
  · omega
  · exact h2 1 (by decide) 0
  · exact ⟨Nat.zero_le _, fun i _ e hq => by rw [h3 i] at hq; simp at hq, fun i j _ _ e hq => by rw [h3 i] at hq; simp at hq, fun i K hK => by simp at hK⟩
  · exact h2 257 (by decide) 0
  · exact ⟨Nat.zero_le _, fun i _ e hq => by rw [h4 i] at hq; simp at hq, fun i j _ _ e hq => by rw [h4 i] at hq; simp at hq, fun i K hK => by simp at hK⟩
  · rw [h3 i] at hq; simp at hq
  · omega
  · omega
  · rw [e12 73 (by decide) (by decide)]; exact Int.le_refl _
  · rw [e12 73 (by decide) (by decide)]; decide
  · rw [z' 112 (by decide), z' 114 (by decide)]; decide
  · rw [e12 73 (by decide) (by decide)]; decide
theorem bqJ_0 (h : bqS1 L σ) : bqJ L 0 σ := by
  have hZ := bqZ_0 h
  obtain ⟨hL, z, hp, ⟨k56, k57, k12, k136, k137, k151⟩, ⟨⟨a1, a2, a3, a4⟩, ⟨b1, b2⟩, ⟨d1, d2⟩, ⟨f1, f2, f3, f4⟩, ⟨g1, g2, g3, g4⟩, ⟨h1, h2, h3, h4, h5, h6⟩, i1, i2⟩, mm, n1, n2⟩ := h
  have e12 : ∀ i, 0 ≤ i → ¬ (i = 68 ∨ i = 87 ∨ i = 88 ∨ i = 95 ∨ i = 112) → bi σ 12 i = 0 := fun i i0 hi => by
    rw [k12 i i0, if_neg (by omega), if_neg (by omega), if_neg (by omega), if_neg (by omega), if_neg (by omega)]
  have e49 : bi σ 12 49 = 0 := e12 49 (by decide) (by decide)
  have e22 : bi σ 12 22 = 0 := e12 22 (by decide) (by decide)
  have e17 : bi σ 12 17 = 0 := e12 17 (by decide) (by decide)
  have e111 : bi σ 12 111 = 0 := e12 111 (by decide) (by decide)
  have e613 : bi σ 6 13 = 0 := g1 13
  have kb : ∀ p, bKbit σ p = false := fun p => by
    unfold bKbit
    rw [z 152 (by decide)]
    show (0#32).getLsbD _ = false
    exact BitVec.getLsbD_zero
  refine ⟨1000, Nat.le_add_right _ _, hL, ⟨fun p p0 p1 => ?_, ?_, fun d d0 d1' => ?_, fun d d0 d1' => ?_, fun d d0 d1' => ?_, hp⟩, ⟨⟨?_, ?_, ?_⟩, fun k k0 k1 => ?_, fun k k0 k1 => ?_, ?_⟩, ⟨⟨⟨?_, ?_, ?_⟩, fun t t0 t1 => ?_, fun t t0 t1 => ⟨f2 t, fun b hb => ?_, fun a ha => ?_⟩, fun t t0 t1 => ?_⟩, ⟨fun t t0 t1 => ?_, fun t t0 t1 => ⟨fun k k0 k1 => ?_, fun q q0 q1 => kb _⟩, ⟨?_, ?_, ?_⟩, ?_, ?_⟩, fun x x0 x1 => ⟨⟨?_, ?_, ?_⟩, fun i i0 i1' => ?_⟩, Or.inl ?_, ⟨⟨?_, fun y y0 y1 => ?_⟩, ?_⟩, ⟨⟨?_, ?_, ?_⟩, fun a a0 a1' => ?_, fun a b a0 ab b1' => ?_, fun a a0 a1' => Or.inl ⟨g3 a, fun b hb => ?_⟩⟩, fun y y0 y1 => ?_, hZ⟩, 0, 0, ?_, ?_, ?_, ?_⟩
  · rw [a1 p p0 p1, k56 p p0 p1]; decide
  · rw [k57 0 (by decide) (by decide)]; rfl
  · rw [k57 d d0 d1']; split
    · exact Or.inr rfl
    · exact Or.inl rfl
  · rw [a2, k57 d (by omega) d1', if_neg (by omega)]
  · rw [a3]
    have q0 : bi σ 57 0 = 1 := k57 0 (by decide) (by decide)
    have q1 : bi σ 57 1 = 0 := k57 1 (by decide) (by decide)
    have q2 : bi σ 57 2 = 0 := k57 2 (by decide) (by decide)
    have q3 : bi σ 57 3 = 0 := k57 3 (by decide) (by decide)
    have q4 : bi σ 57 4 = 0 := k57 4 (by decide) (by decide)
    have q5 : bi σ 57 5 = 0 := k57 5 (by decide) (by decide)
    have hd : d = 0 ∨ d = 1 ∨ d = 2 ∨ d = 3 ∨ d = 4 ∨ d = 5 := by omega
    rcases hd with e | e | e | e | e | e <;> subst e <;> simp [bOwn, bPa, q0, q1, q2, q3, q4, q5]
  · rw [e17]; exact Int.le_refl _
  · rw [e17]; decide
  · rw [e17]; exact d2 1
  · omega
  · rw [z 70 (by decide)]; decide
  · rw [d2, z 70 (by decide), z 70 (by decide), z 70 (by decide), z 70 (by decide)]; rfl
  · rw [e22]; exact Int.le_refl _
  · rw [e22]; decide
  · rw [e22]; exact f1 0
  · omega
  · refine mm b ?_ ?_
    · unfold bTid at hb
      simp only [bLcA, bLc1, bLc3, bLc5, bLc7, bLc9, bLcB, List.cons_append, List.nil_append, List.mem_cons, List.not_mem_nil, or_false, not_or] at hb ⊢
      omega
    · unfold bTid at hb
      simp only [List.mem_cons, List.not_mem_nil, or_false] at hb
      omega
  · simp only [List.mem_cons, List.not_mem_nil, or_false] at ha
    rcases ha with rfl | rfl | rfl | rfl | rfl | rfl <;> exact z _ (by decide) t
  · omega
  · omega
  · exact k151 _ (by omega) (by omega)
  · rw [e111]; exact i1 6
  · rw [e111]; exact Int.le_refl _
  · rw [e111]; decide
  · rw [i2, k12 112 (by decide)]; rfl
  · rw [k12 112 (by decide)]; decide
  · rw [b1 34 (by decide) (by decide), z 58 (by decide)]
  · rw [z 58 (by decide)]; exact Int.le_refl _
  · rw [z 58 (by decide)]; decide
  · rw [z 58 (by decide)] at i1'; omega
  · rw [b2 15 (by decide)]; rfl
  · rw [g1]; exact Int.le_refl _
  · rw [g1, g2 27 (by decide) (by decide)]; exact Int.le_refl _
  · rw [g1]; decide
  · rw [e613, e49]
  · rw [e49]; exact Int.le_refl _
  · rw [e49]; decide
  · omega
  · omega
  · refine mm b ?_ ?_
    · unfold bAd bAid at hb
      simp only [bLcA, bLc1, bLc3, bLc5, bLc7, bLc9, bLcB, List.cons_append, List.nil_append, List.mem_cons, List.not_mem_nil, or_false, not_or] at hb ⊢
      omega
    · unfold bAd bAid at hb
      simp only [List.mem_cons, List.not_mem_nil, or_false] at hb
      omega
  · rw [g2 30 (by decide) (by decide)]; decide
  · omega
  · omega
  · have := bmN_b (s := σ); have := bzSo_b (s := σ); omega
  · have := bmN_b (s := σ); have := bzSo_b (s := σ); omega
/-- the whole run -/
theorem law_0 (hL3 : L ≤ 3072) (z : ∀ a j, a ≠ 200 → a ≠ 201 → bi σ0 a j = 0) (zj : ∀ a j, a ≠ 200 → bj σ0 a j = 0) (p : ∀ d, 0 ≤ d → d < 6 → bi σ0 201 d = bPa d) (zm : ∀ a, σ0.2.2.2.1 a = 0) (zc : σ0.2.2.2.2 = (0, 0)) (hL : bLen σ0 200 = L) {A : bPt → Prop} (hA : bClosed 13 bm357 (bWp 12) (fun o σ => o = .inl (some (.int 1)) ∧ σ.2.2.2.2.1 ≤ 601024 ∧ σ.2.2.2.2.2 ≤ 7293034) A) : A (0, [.ref 200, .float 0, .float 0, .float 0, .float 0, .float 0, .float 0, .float 0], [], σ0) := by
  refine sq357_0 (bWp_mono _) hA ⟨zm 11, w135 (d := 8) (fun b hb hne => by rw [mk_bNew, if_neg hne]; exact zm b) (fun j => by rw [bi_bNew, if_pos rfl]) fun s1 k1 c1 m1 Cz => ⟨m1, ?_, w195g (d := 11) (fun a h1 h2 => ⟨fun j => ?_, fun j => ?_⟩) (fun a h1 h2 => ?_) fun s3 Rz => ⟨Rz.2.2.2.2.2.2.2.2.2.1, ?_, ?_⟩⟩⟩
  · rw [(k1 12 (by decide)).2.2.2, mk_bNew, if_neg (by decide)]; exact zm 12
  · have hb : a ∉ bLcA := by
      simp only [bLcA, bLc1, bLc3, bLc5, bLc7, bLc9, bLcB, List.cons_append, List.nil_append, List.mem_cons, List.not_mem_nil, or_false, not_or]
      omega
    rw [bi_bNew, if_neg (by omega), (k1 a hb).1, bi_bNew, if_neg (by omega)]
    exact z a j (by omega) (by omega)
  · have hb : a ∉ bLcA := by
      simp only [bLcA, bLc1, bLc3, bLc5, bLc7, bLc9, bLcB, List.cons_append, List.nil_append, List.mem_cons, List.not_mem_nil, or_false, not_or]
      omega
    rw [bj_bNew, if_neg (by omega), (k1 a hb).2.1, bj_bNew, if_neg (by omega)]
    exact zj a j (by omega)
  · have hb : a ∉ bLcA := by
      simp only [bLcA, bLc1, bLc3, bLc5, bLc7, bLc9, bLcB, List.cons_append, List.nil_append, List.mem_cons, List.not_mem_nil, or_false, not_or]
      omega
    rw [mk_bNew, if_neg (by omega), (k1 a hb).2.2.2, mk_bNew, if_neg (by omega)]
    exact zm a
  · rw [(Rz.2.2.2.2.2.2.2.2.1 154 (by decide) (by decide)).2, mk_bNew, if_neg (by decide), (k1 154 (by decide)).2.2.2, mk_bNew, if_neg (by decide)]
    exact zm 154
  · refine law_goes (xs := fun _ => 0) hL3 (bqJ L) (fun n σ h => ?_) (fun n σ h => ?_) (fun n σ hn h => ?_) (fun n σ hn h => bqJ_c (by omega) h) hA 512 0 _ _ _ _ rfl (bqJ_0 (bqS1_of z p zm zc hL k1 c1 Cz Rz))
    · obtain ⟨μ, _, h⟩ := h
      exact h.1
    · obtain ⟨μ, hμ, a1, a2, a3, a4, c, k, a5, a6, a7⟩ := h
      exact ⟨μ, hμ, a1, a2, a3, bqG_n a4 (Nat.le_succ _), c, k, by omega, by omega, a7⟩
    · obtain ⟨μ, hμ, a1, a2, a3, a4, c, k, a5, a6, a7, a8⟩ := h
      have t1 := a4.1.1.1
      have t2 := a4.1.1.2.1
      have t3 : bT σ ≤ 16 := by unfold bT; omega
      have n1 : bmN σ ≤ 121 := (bCn_b 121).2
      have n2 : bzSo σ ≤ 64 := by
        unfold bzSo bzSm
        have q1 := (bCn_b (P := fun i => (br σ 14 i).isSome) 24).2
        have q2 := (bCn_b (P := fun i => (br σ 270 i).isSome) 40).2
        omega
      exact ⟨rfl, by omega, by omega⟩
end

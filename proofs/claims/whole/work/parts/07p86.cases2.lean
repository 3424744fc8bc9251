/-! THE CASES OF STATEMENTS, 2: one is taken out -/
section
variable {d : Nat} {σ s : bSt} {f : Int → bSt → Prop} {g : Nat → bSt → Prop} {x k n m o y : Int} {X R : bSt → Prop} {H : bHp} {L N : Nat}
theorem w93 (h0 : 0 ≤ x ∧ x < 6) (hc : 0 ≤ bi σ 34 x ∧ bi σ 34 x ≤ 12) (hy : 0 ≤ y ∧ y < bi σ 34 x)
    (h : ∀ s, s.2 = σ.2 → (∀ b j, b ∉ [35, 36, 37, 38] → bi s b j = bi σ b j) → bSh σ s (x * 12 + y) (x * 12 + bi σ 34 x) [35, 36, 37, 38] → f (bi σ 34 x - 1) (bw (bw s 34 x (bi σ 34 x - 1)) 7 15 (-1))) : bWp (d + 4) 93 [.ref 7, .int (bn x), .int (bn y)] σ (bRn f) := by
  refine ⟨rfl, fun A hA => sq93_0 (bWp_mono _) hA ⟨by omega, by omega⟩ ⟨by omega, by omega⟩ ⟨⟨by omega, by omega⟩, ⟨by omega, by omega⟩, w91 h0 ⟨⟨by omega, by omega⟩, ?_⟩⟩⟩
  refine w142 (N := 72) rfl (by decide) (fun _ => rfl) (by decide) (by omega) (by omega) (by omega) (by omega) fun s1 a1 a2 a3 => ?_
  refine w142 (N := 72) rfl (by decide) (fun _ => rfl) (by decide) (by omega) (by omega) (by omega) (by omega) fun s2 b1 b2 b3 => ?_
  refine w142 (N := 72) rfl (by decide) (fun _ => rfl) (by decide) (by omega) (by omega) (by omega) (by omega) fun s3 c1 c2 c3 => ?_
  refine w142 (N := 72) rfl (by decide) (fun _ => rfl) (by decide) (by omega) (by omega) (by omega) (by omega) fun s4 d1 d2 d3 => ?_
  have e34 : bi s4 34 x = bi σ 34 x := by rw [d2 34 _ (by decide), c2 34 _ (by decide), b2 34 _ (by decide), a2 34 _ (by decide)]
  refine w94 h0 (by rw [e34]; exact ⟨by omega, by omega⟩) (by decide) ?_
  rw [e34, show bi σ 34 x + -1 = bi σ 34 x - 1 by omega]
  refine bRn_i ⟨by omega, by omega⟩ (h s4 (((d1.trans c1).trans b1).trans a1) (fun b j hb => ?_) ?_)
  · simp only [List.mem_cons, List.not_mem_nil, or_false, not_or] at hb
    rw [d2 b j hb.2.2.2, c2 b j hb.2.2.1, b2 b j hb.2.1, a2 b j hb.1]
  · intro a ha j q
    simp only [List.mem_cons, List.not_mem_nil, or_false] at ha
    rcases ha with rfl | rfl | rfl | rfl
    · rw [d2 35 j (by decide), c2 35 j (by decide), b2 35 j (by decide)]
      exact a3 j q
    · rw [d2 36 j (by decide), c2 36 j (by decide), b3 j q, a2 36 _ (by decide), a2 36 _ (by decide)]
    · rw [d2 37 j (by decide), c3 j q, b2 37 _ (by decide), a2 37 _ (by decide), b2 37 _ (by decide), a2 37 _ (by decide)]
    · rw [d3 j q, c2 38 _ (by decide), b2 38 _ (by decide), a2 38 _ (by decide), c2 38 _ (by decide), b2 38 _ (by decide), a2 38 _ (by decide)]
/-- the statement's number is in range -/
def bSk (c x y : Int) : Prop := (0 ≤ x ∧ x < 6) ∧ 0 ≤ y ∧ y < c
theorem w149 (hd : 6 ≤ d) (hs : bRs σ) (hx : bRg x) (hy : bRg y) (h1 : ¬ bSk (bi σ 34 x) x y → g 0 (bC σ 1 6))
    (h0 : bSk (bi σ 34 x) x y → ∀ s, s.2 = σ.2 → (∀ b j, b ∉ [35, 36, 37, 38] → bi s b j = bi σ b j) → bSh σ s (x * 12 + y) (x * 12 + bi σ 34 x) [35, 36, 37, 38] → f (bi σ 34 x - 1) (bw (bw s 34 x (bi σ 34 x - 1)) 7 15 (-1))) : bWp (d + 5) 149 [.ref 11, .int (bn x), .int (bn y)] σ (bRnx f g) :=
  ⟨rfl, fun A hA => sq149_0 (bWp_mono _) hA hx hy (w136 hx (by decide) (by omega) (fun q => w91 q (w136 hy (bi_rg _ _ _) (by omega) (fun q2 => by
    have hq := (hs x q.1 q.2).1
    exact w93 q ⟨by omega, by omega⟩ q2 fun s a1 a2 a3 => bRnx_i ⟨by omega, by omega⟩ (h0 ⟨q, q2⟩ s a1 a2 a3)) (fun q2 => h1 fun w => q2 w.2))) (fun q => h1 fun w => q w.1))⟩
theorem w213 (hc : 0 ≤ x → x < 6 → 0 ≤ bi σ 58 x ∧ bi σ 58 x ≤ 12) (hx : bRg x) (hy : bRg y) (h1 : ¬ bSk (bi σ 58 x) x y → f 0 (bw σ 12 0 1))
    (h0 : bSk (bi σ 58 x) x y → ∀ s, s.2 = σ.2 → (∀ b j, b ≠ 59 → bi s b j = bi (bw σ 12 0 0) b j) → (∀ j, 0 ≤ j → bi s 59 j = if 4 * (12 * x + y) ≤ j ∧ j < 4 * (12 * x + bi σ 58 x - 1) then bi σ 59 (j + 4) else bi σ 59 j) → f (bi σ 58 x - 1) (bw s 58 x (bi σ 58 x - 1))) : bWp (d + 3) 213 [.ref 12, .int (bn x), .int (bn y)] σ (bRn f) := by
  refine ⟨rfl, fun A hA => sq213_0 (bWp_mono _) hA hx hy (w210 hx (fun q => bFf (by decide) ?_) (fun q => bTt rfl (rN (by decide) (by decide) (bRn_i (by decide) (h1 fun w => q w.1)))))⟩
  have hcx := hc q.1 q.2
  refine ⟨q, ⟨by omega, by omega⟩, w199 hy (by decide) ⟨by omega, by omega⟩ (fun q2 => bFf (by decide) (rY ⟨⟨by omega, by omega⟩, ⟨by omega, by omega⟩, ⟨by omega, by omega⟩, ?_⟩)) (fun q2 => bTt rfl (rN (by decide) (by decide) (bRn_i (by decide) (h1 fun w => q2 ⟨w.2.1, by have := w.2.2; omega⟩))))⟩
  have K : ∀ (m : Nat) (k : Int) (v3 : Value) (s : bSt), k + m = 4 * (12 * x + bi σ 58 x - 1) → 4 * (12 * x + y) ≤ k → s.2 = σ.2 → (∀ b j, b ≠ 59 → bi s b j = bi (bw σ 12 0 0) b j) → (∀ j, 0 ≤ j → bi s 59 j = if 4 * (12 * x + y) ≤ j ∧ j < k then bi σ 59 (j + 4) else bi σ 59 j) → A (35, [.ref 12, .int (bn x), .int (bn y), v3, .int (bn k)], [], s) := by
    intro m
    induction m with
    | zero =>
      intro k v3 s hk hk2 a1 a2 a3
      have e58 : bi s 58 x = bi σ 58 x := by rw [a2 58 _ (by decide), bi_ne (by decide)]
      refine sq213_35 (bWp_mono _) hA hx ⟨by omega, by omega⟩ ?_
      rw [e58]
      refine ⟨⟨by omega, by omega⟩, q, ⟨by omega, by omega⟩, ⟨by omega, by omega⟩, ⟨by omega, by omega⟩, bFf (by omega) ⟨⟨by omega, by omega⟩, bRn_i ⟨by omega, by omega⟩ (h0 ⟨q, q2.1, by omega⟩ s a1 a2 fun j j0 => ?_)⟩⟩
      rw [a3 j j0, show k = 4 * (12 * x + bi σ 58 x - 1) by omega]
    | succ m ih =>
      intro k v3 s hk hk2 a1 a2 a3
      have e58 : bi s 58 x = bi σ 58 x := by rw [a2 58 _ (by decide), bi_ne (by decide)]
      refine sq213_35 (bWp_mono _) hA hx ⟨by omega, by omega⟩ ?_
      rw [e58]
      refine ⟨⟨by omega, by omega⟩, q, ⟨by omega, by omega⟩, ⟨by omega, by omega⟩, ⟨by omega, by omega⟩, bTt (by omega) ⟨⟨by omega, by omega⟩, ⟨by omega, by omega⟩, ⟨by omega, by omega⟩, ⟨by omega, by omega⟩, ih (k + 1) _ _ (by omega) (by omega) a1 (fun b j hb => by rw [bi_ne hb]; exact a2 b j hb) fun j j0 => ?_⟩⟩
      rw [bi_bw (by omega) j0 (bi_rg _ _ _)]
      by_cases w : j = k
      · rw [if_pos ⟨rfl, w⟩, if_pos ⟨by omega, by omega⟩, a3 _ (by omega), if_neg (by omega), w]
      · rw [if_neg (fun t => w t.2), a3 j j0]
        by_cases w2 : 4 * (12 * x + y) ≤ j ∧ j < k
        · rw [if_pos w2, if_pos ⟨w2.1, by omega⟩]
        · rw [if_neg w2, if_neg (fun t => w2 ⟨t.1, by omega⟩)]
  exact K (4 * (12 * x + bi σ 58 x - 1) - 4 * (12 * x + y)).toNat _ _ _ (by omega) (by omega) rfl (fun _ _ _ => rfl) (fun j j0 => by rw [if_neg (by omega), bi_ne (by decide)])
theorem k6 (hX : ∀ σ s, bUn [] [0] σ s → X σ → X s) (hR : ∀ σ s, bUn bSs [0] σ s → R σ → R s) (hH : ∀ c k σ s, bUn bSs [0] σ s → H c k σ → H c k s) (h : bI9 (bGs X R) H L N σ) : bK6 (bI9 (bGs X R) H L (N + 1)) σ := by
  have hs := h.2.2.2.1.2.2.1
  have hc : ∀ {x : Int}, 0 ≤ x → x < 6 → 0 ≤ bi σ 58 x ∧ bi σ 58 x ≤ 12 := fun q1 q2 => (hs _ q1 q2).1.2
  have e34 : ∀ {x : Int}, 0 ≤ x → x < 6 → bi σ 34 x = bi σ 58 x := fun q1 q2 => (hs _ q1 q2).1.1
  refine wk6 fun x y hx hy => w149 (by decide) hs hx hy (fun q => ?_) (fun q s a1 a2 a3 => ?_)
  · exact ⟨bMid_C, w213 hc hx hy (fun _ => ⟨bi_eq (by decide), fun w => absurd w (by decide), bSs_no hX hR hH h⟩) (fun w => absurd (by rw [e34 w.1.1 w.1.2]; exact w) q)⟩
  · obtain ⟨qx, q1, q2⟩ := q
    have hcx := hc qx.1 qx.2
    rw [e34 qx.1 qx.2] at a3 q2 ⊢
    generalize hs1 : bwj (bw (bw s 34 x (bi σ 58 x - 1)) 7 15 (-1)) 154 0 (bL (bi σ 58 x - 1)) = s1
    have u0 : bUn bSs [0] σ s := bUn_S bUn_refl ⟨a1, fun a ha i => a2 a i (fun z => ha (by simp at z; simp [bSs]; omega))⟩ (by decide)
    have u1 : bUn bSs [0] σ s1 := by
      rw [← hs1]
      exact bUn_o (bUn_w (bUn_w u0 (by decide) (by decide)) (by decide) (by decide))
    have eo : ∀ b j, b ∉ [35, 36, 37, 38, 34, 7] → bi s1 b j = bi σ b j := fun b j hb => by
      simp only [List.mem_cons, List.not_mem_nil, or_false, not_or] at hb
      rw [← hs1, bi_bwj, bi_ne hb.2.2.2.2.2, bi_ne hb.2.2.2.2.1, a2 b j (by simp; omega)]
    have e58 : ∀ j, bi s1 58 j = bi σ 58 j := fun j => eo 58 j (by decide)
    have e59 : ∀ j, bi s1 59 j = bi σ 59 j := fun j => eo 59 j (by decide)
    refine ⟨bMid_un u1 (by decide), w213 (fun q1 q2 => by rw [e58]; exact hc q1 q2) hx hy (fun w => absurd ⟨qx, q1, by rw [e58]; exact q2⟩ w) (fun _ t b1 b2 b3 => ?_)⟩
    rw [e58] at b3 ⊢
    have u2 : bUn bSs [0] σ t := bUn_trans (bUn_f u1 (i := 0) (v := 0) (by decide) (by decide)) (bUn_S bUn_refl ⟨by rw [b1]; rfl, fun a ha i => b2 a i (fun z => ha (by rw [z]; decide))⟩ (by decide))
    have u3 : bUn bSs [0] σ (bw t 58 x (bi σ 58 x - 1)) := bUn_w u2 (by decide) (by decide)
    have hr : bRg (bi σ 58 x - 1) := ⟨by omega, by omega⟩
    have f58 : ∀ j, 0 ≤ j → bi (bw t 58 x (bi σ 58 x - 1)) 58 j = if j = x then bi σ 58 x - 1 else bi σ 58 j := fun j j0 => by
      rw [bi_bw qx.1 j0 hr, b2 58 _ (by decide), bi_ne (by decide), e58]
      simp only [true_and]
    have f59 : ∀ j, 0 ≤ j → bi (bw t 58 x (bi σ 58 x - 1)) 59 j = if 4 * (12 * x + y) ≤ j ∧ j < 4 * (12 * x + bi σ 58 x - 1) then bi σ 59 (j + 4) else bi σ 59 j := fun j j0 => by
      rw [bi_ne (by decide), b3 j j0, e59, e59]
    have f34 : ∀ j, 0 ≤ j → bi (bw t 58 x (bi σ 58 x - 1)) 34 j = if j = x then bi σ 58 x - 1 else bi σ 34 j := fun j j0 => by
      rw [bi_ne (by decide), b2 34 _ (by decide), bi_ne (by decide), ← hs1, bi_bwj, bi_ne (by decide), bi_bw qx.1 j0 hr, a2 34 _ (by decide)]
      simp only [true_and]
    have fc : ∀ a ∈ [35, 36, 37, 38], ∀ j, 0 ≤ j → bi (bw t 58 x (bi σ 58 x - 1)) a j = if 12 * x + y ≤ j ∧ j + 1 < 12 * x + bi σ 58 x then bi σ a (j + 1) else bi σ a j := fun a ha j j0 => by
      have ha' := ha
      simp only [List.mem_cons, List.not_mem_nil, or_false] at ha'
      rw [bi_ne (by omega), b2 a _ (by omega), bi_ne (by omega), ← hs1, bi_bwj, bi_ne (by omega), bi_ne (by omega), a3 a ha j j0, show x * 12 + y = 12 * x + y by omega, show x * 12 + bi σ 58 x = 12 * x + bi σ 58 x by omega]
    refine ⟨?_, fun _ => ?_, bSs_step hR hH h u3 (fun f f0 f1 => ?_) (Or.inl ?_) ?_ ?_⟩
    · rw [bi_ne (by decide), b2 12 _ (by decide)]
      exact bi_eq (by decide)
    · show t.2.1 154 0 = _
      rw [b1]
      show bj s1 154 0 = _
      rw [← hs1]
      exact bj_eq
    · obtain ⟨⟨g34, g0, g1⟩, gst⟩ := hs f f0 f1
      rw [f34 f f0, f58 f f0]
      by_cases w : f = x
      · rw [if_pos w, if_pos w]
        refine ⟨⟨rfl, by omega, by omega⟩, fun i i0 i1 => ?_⟩
        rw [fc 35 (by decide) _ (by omega), fc 36 (by decide) _ (by omega), fc 37 (by decide) _ (by omega), fc 38 (by decide) _ (by omega), f59 _ (by omega), f59 _ (by omega), f59 _ (by omega), f59 _ (by omega), w]
        by_cases w2 : y ≤ i
        · have := gst (i + 1) (by omega) (by rw [w]; omega)
          rw [w] at this
          simp only [if_pos (show 12 * x + y ≤ 12 * x + i ∧ 12 * x + i + 1 < 12 * x + bi σ 58 x by omega), if_pos (show 4 * (12 * x + y) ≤ 4 * (12 * x + i) ∧ 4 * (12 * x + i) < 4 * (12 * x + bi σ 58 x - 1) by omega), if_pos (show 4 * (12 * x + y) ≤ 4 * (12 * x + i) + 1 ∧ 4 * (12 * x + i) + 1 < 4 * (12 * x + bi σ 58 x - 1) by omega), if_pos (show 4 * (12 * x + y) ≤ 4 * (12 * x + i) + 2 ∧ 4 * (12 * x + i) + 2 < 4 * (12 * x + bi σ 58 x - 1) by omega), if_pos (show 4 * (12 * x + y) ≤ 4 * (12 * x + i) + 3 ∧ 4 * (12 * x + i) + 3 < 4 * (12 * x + bi σ 58 x - 1) by omega)]
          rw [show 12 * x + i + 1 = 12 * x + (i + 1) by omega, show 4 * (12 * x + i) + 4 = 4 * (12 * x + (i + 1)) by omega, show 4 * (12 * x + i) + 1 + 4 = 4 * (12 * x + (i + 1)) + 1 by omega, show 4 * (12 * x + i) + 2 + 4 = 4 * (12 * x + (i + 1)) + 2 by omega, show 4 * (12 * x + i) + 3 + 4 = 4 * (12 * x + (i + 1)) + 3 by omega]
          exact this
        · have := gst i i0 (by rw [w]; omega)
          rw [w] at this
          simp only [if_neg (show ¬ (12 * x + y ≤ 12 * x + i ∧ 12 * x + i + 1 < 12 * x + bi σ 58 x) by omega), if_neg (show ¬ (4 * (12 * x + y) ≤ 4 * (12 * x + i) ∧ 4 * (12 * x + i) < 4 * (12 * x + bi σ 58 x - 1)) by omega), if_neg (show ¬ (4 * (12 * x + y) ≤ 4 * (12 * x + i) + 1 ∧ 4 * (12 * x + i) + 1 < 4 * (12 * x + bi σ 58 x - 1)) by omega), if_neg (show ¬ (4 * (12 * x + y) ≤ 4 * (12 * x + i) + 2 ∧ 4 * (12 * x + i) + 2 < 4 * (12 * x + bi σ 58 x - 1)) by omega), if_neg (show ¬ (4 * (12 * x + y) ≤ 4 * (12 * x + i) + 3 ∧ 4 * (12 * x + i) + 3 < 4 * (12 * x + bi σ 58 x - 1)) by omega)]
          exact this
      · rw [if_neg w, if_neg w]
        refine ⟨⟨g34, g0, g1⟩, fun i i0 i1 => ?_⟩
        rw [fc 35 (by decide) _ (by omega), fc 36 (by decide) _ (by omega), fc 37 (by decide) _ (by omega), fc 38 (by decide) _ (by omega), f59 _ (by omega), f59 _ (by omega), f59 _ (by omega), f59 _ (by omega)]
        rw [if_neg (by omega), if_neg (by omega), if_neg (by omega), if_neg (by omega), if_neg (by omega), if_neg (by omega), if_neg (by omega), if_neg (by omega)]
        exact gst i i0 i1
    · rw [bi_ne (by decide), b2 7 _ (by decide), bi_ne (by decide), ← hs1, bi_bwj]
      exact bi_eq (by decide)
    · show t.2.2.2.2.1 ≤ _
      rw [b1, ← hs1]
      show s.2.2.2.2.1 ≤ _
      rw [a1]
      exact Nat.le_succ _
    · show t.2.2.2.2.2 ≤ _
      rw [b1, ← hs1]
      show s.2.2.2.2.2 ≤ _
      rw [a1]
      exact Nat.le_add_right _ _
end

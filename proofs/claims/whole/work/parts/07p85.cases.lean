/-! THE CASES OF STATEMENTS -/
def bSs : List Nat := [34, 35, 36, 37, 38, 58, 59, 7]
section
variable {d : Nat} {σ s : bSt} {f : Int → bSt → Prop} {g : Nat → bSt → Prop} {x k n m o y : Int} {X R : bSt → Prop} {H : bHp} {L N : Nat}
/-- targets, tests, statements, what was evaluated last, the rest -/
def bGs (X R : bSt → Prop) (σ : bSt) : Prop := bTg σ ∧ bTst σ ∧ bRs σ ∧ (bi σ 7 15 = -1 ∨ X σ) ∧ R σ
theorem bSs_step (hR : ∀ σ s, bUn bSs [0] σ s → R σ → R s) (hH : ∀ c k σ s, bUn bSs [0] σ s → H c k σ → H c k s) (h : bI9 (bGs X R) H L N σ) (u : bUn bSs [0] σ s) (hs : bRs s) (hx : bi s 7 15 = -1 ∨ X s) (h1 : s.2.2.2.2.1 ≤ σ.2.2.2.2.1 + 1) (h2 : s.2.2.2.2.2 ≤ σ.2.2.2.2.2 + 6) : bI9 (bGs X R) H L (N + 1) s := by
  obtain ⟨a1, a2, a3, ⟨b1, b2, b3, b4, b5⟩, c, k, a5, a6, a7⟩ := h
  have e : bT s = bT σ := by unfold bT; rw [u.2.1 22 (by decide) (by decide)]
  exact ⟨(bMid_un u (by decide)).2.trans a1, bFi_un u (by decide) a2, bTl_un u (by decide) (by decide) a3, ⟨bTg_un u (by decide) (by decide) b1, bTst_un u (by decide) (by decide) b2, hs, hx, hR _ _ u b5⟩, c, k, by rw [e]; omega, by rw [e]; omega, hH _ _ _ _ u a7⟩
theorem bSs_no {v : Int} (hX : ∀ σ s, bUn [] [0] σ s → X σ → X s) (hR : ∀ σ s, bUn bSs [0] σ s → R σ → R s) (hH : ∀ c k σ s, bUn bSs [0] σ s → H c k σ → H c k s) (h : bI9 (bGs X R) H L N σ) : bI9 (bGs X R) H L (N + 1) (bw (bC σ 1 6) 12 0 v) := by
  have u0 : bUn [] [0] σ (bw (bC σ 1 6) 12 0 v) := bUn_f (bUn_C bUn_refl) (by decide) (by decide)
  obtain ⟨b1, b2, b3, b4, b5⟩ := h.2.2.2.1
  exact bSs_step hR hH h (bUn_mono u0 (by decide) (by decide)) (bRs_un u0 (by decide) b3) (b4.imp (fun w => by rw [bi_ne (by decide)]; exact w) (fun w => hX _ _ u0 w)) (Nat.le_refl _) (Nat.le_refl _)
theorem k5 (hX : ∀ σ s, bUn [] [0] σ s → X σ → X s) (hR : ∀ σ s, bUn bSs [0] σ s → R σ → R s) (hH : ∀ c k σ s, bUn bSs [0] σ s → H c k σ → H c k s) (h : bI9 (bGs X R) H L N σ) : bK5 (bI9 (bGs X R) H L (N + 1)) σ := by
  have hs := h.2.2.2.1.2.2.1
  have hc : ∀ {x : Int}, 0 ≤ x → x < 6 → 0 ≤ bi σ 58 x ∧ bi σ 58 x ≤ 12 := fun q1 q2 => (hs _ q1 q2).1.2
  refine wk5 fun x k n m o hx hk hn hm ho => w148 hs (by decide) hx hk hn hm ho (fun q => ?_) (fun q q2 => ?_) (fun q q2 q3 => ?_) (fun q q2 q3 => ?_)
  · exact ⟨bMid_C, w212 hc hx hk hn hm ho (fun _ => ⟨bi_eq (by decide), fun w => absurd w (by decide), bSs_no hX hR hH h⟩) (fun w => absurd w q) (fun w => absurd w q) (fun w => absurd w q)⟩
  · exact ⟨bMid_C, w212 hc hx hk hn hm ho (fun w => absurd q w) (fun _ _ => ⟨bi_eq (by decide), fun w => absurd w (by decide), bSs_no hX hR hH h⟩) (fun _ w => absurd w q2) (fun _ w => absurd w q2)⟩
  · have e := (hs x q.1.1 q.1.2).1.1
    exact ⟨bMid_C, w212 hc hx hk hn hm ho (fun w => absurd q w) (fun _ w => absurd q2 w) (fun _ _ _ => ⟨bi_eq (by decide), fun w => absurd w (by decide), bSs_no hX hR hH h⟩) (fun _ _ w => absurd w (by show ¬ bi σ 58 x < 12; omega))⟩
  · obtain ⟨⟨e34, c0, c1⟩, hst⟩ := hs x q.1.1 q.1.2
    have qx := q.1
    rw [e34] at q3 ⊢
    unfold bStw
    rw [e34, show x * 12 + bi σ 58 x = 12 * x + bi σ 58 x by omega]
    generalize hs1 : bwj (bw (bw (bw (bw (bw (bw σ 35 (12 * x + bi σ 58 x) k) 36 (12 * x + bi σ 58 x) n) 37 (12 * x + bi σ 58 x) m) 38 (12 * x + bi σ 58 x) o) 34 x (bi σ 58 x + 1)) 7 15 (-1)) 154 0 (bL (bi σ 58 x + 1)) = s1
    have u1 : bUn bSs [0] σ s1 := by
      rw [← hs1]
      exact bUn_o (bUn_w (bUn_w (bUn_w (bUn_w (bUn_w (bUn_w bUn_refl (by decide) (by decide)) (by decide) (by decide)) (by decide) (by decide)) (by decide) (by decide)) (by decide) (by decide)) (by decide) (by decide))
    have e58 : ∀ j, bi s1 58 j = bi σ 58 j := fun j => by rw [← hs1]; simp (disch := omega) only [bi_ne, bi_bwj]
    have e59 : ∀ j, bi s1 59 j = bi σ 59 j := fun j => by rw [← hs1]; simp (disch := omega) only [bi_ne, bi_bwj]
    refine ⟨bMid_un u1 (by decide), w212 (fun q1 q2 => by rw [e58]; exact hc q1 q2) hx hk hn hm ho (fun w => absurd q w) (fun _ w => absurd q2 w) (fun _ _ w => absurd w (by rw [e58]; omega)) (fun _ _ _ => ?_)⟩
    unfold bSrw
    rw [e58]
    have u2 : bUn bSs [0] σ (bw (bw (bw (bw (bw (bw s1 12 0 0) 59 (4 * (12 * x + bi σ 58 x)) k) 59 (4 * (12 * x + bi σ 58 x) + 1) n) 59 (4 * (12 * x + bi σ 58 x) + 2) m) 59 (4 * (12 * x + bi σ 58 x) + 3) o) 58 x (bi σ 58 x + 1)) := bUn_w (bUn_w (bUn_w (bUn_w (bUn_w (bUn_f u1 (by decide) (by decide)) (by decide) (by decide)) (by decide) (by decide)) (by decide) (by decide)) (by decide) (by decide)) (by decide) (by decide)
    refine ⟨?_, fun _ => ?_, bSs_step hR hH h u2 (fun f f0 f1 => ?_) (Or.inl ?_) ?_ ?_⟩
    · simp (disch := omega) only [bi_ne, bi_eq]
    · show bj s1 154 0 = _
      rw [← hs1]
      exact bj_eq
    · obtain ⟨⟨g34, g0, g1⟩, gst⟩ := hs f f0 f1
      rw [← hs1]
      by_cases w : f = x
      · subst w
        simp (disch := omega) only [bi_ne, bi_bwj, bi_eq]
        refine ⟨⟨by trivial, by omega, by omega⟩, fun i i0 i1 => ?_⟩
        by_cases w2 : i = bi σ 58 f
        · rw [w2]
          simp (disch := omega) only [bi_ne, bi_nj, bi_bwj, bi_eq]
          exact ⟨⟨by trivial, by trivial, by trivial, by trivial⟩, q.2.1, q.2.2.1, q.2.2.2, q2⟩
        · simp (disch := omega) only [bi_ne, bi_nj, bi_bwj, bi_eq]
          exact gst i i0 (by omega)
      · simp (disch := omega) only [bi_ne, bi_nj, bi_bwj]
        refine ⟨⟨g34, g0, g1⟩, fun i i0 i1 => ?_⟩
        simp (disch := omega) only [bi_ne, bi_nj, bi_bwj]
        exact gst i i0 i1
    · rw [← hs1]
      simp (disch := omega) only [bi_ne, bi_bwj, bi_eq]
    · show s1.2.2.2.2.1 ≤ _
      rw [← hs1]
      exact Nat.le_succ _
    · show s1.2.2.2.2.2 ≤ _
      rw [← hs1]
      exact Nat.le_add_right _ _
end

/-! THE CASES OF FILES AND PACKAGES -/
def bSf : List Nat := [19, 20, 21, 56, 57, 10, 52, 53, 54, 55, 70, 71, 72, 73, 74]
section
variable {d : Nat} {σ : bSt} {f : Int → bSt → Prop} {fj : Int64 → bSt → Prop} {fv : bSt → Prop} {g : Nat → bSt → Prop} {p c x v : Int}
theorem w143 (hp : bRg p) (hc : bRg c) (hd : 6 ≤ d) (h1 : ¬ (0 ≤ p ∧ p < 48) → g 0 (bC σ 1 6)) (h2 : 0 ≤ p ∧ p < 48 → ¬ (0 ≤ c ∧ c ≤ 999) → g 1 (bC σ 1 6)) (h0 : 0 ≤ p ∧ p < 48 → 0 ≤ c ∧ c ≤ 999 → f (bi σ 19 p) (bw σ 19 p c)) : bWp (d + 3) 143 [.ref 11, .int (bn p), .int (bn c)] σ (bRnx f g) :=
  ⟨rfl, fun A hA => sq143_0 (bWp_mono _) hA hp hc (w136 hp (by decide) (by omega) (fun q => w138 hc (by decide) (by decide) (by omega) (fun q2 => w32 q.1 q.2 hc (bRnx_i (bi_rg _ _ _) (h0 q q2))) (fun q2 => h2 q q2)) h1)⟩
theorem w144 (hp : bRg p) (hd : 6 ≤ d) (h1 : ¬ (0 ≤ p ∧ p < 48) → g 0 (bC σ 1 6)) (h0 : 0 ≤ p ∧ p < 48 → f (bi σ 19 p) (bw σ 19 p (-1))) : bWp (d + 3) 144 [.ref 11, .int (bn p)] σ (bRnx f g) :=
  ⟨rfl, fun A hA => sq144_0 (bWp_mono _) hA hp (w136 hp (by decide) (by omega) (fun q => w32 q.1 q.2 (by decide) (bRnx_i (bi_rg _ _ _) (h0 q))) h1)⟩
theorem w146 (hp : bRg p) (hd : 6 ≤ d) (h1 : ¬ (0 ≤ p ∧ p < 48) → g 0 (bC σ 1 6)) (h0 : 0 ≤ p ∧ p < 48 → f (bi σ 21 (p / 8)) σ) : bWp (d + 2) 146 [.ref 11, .int (bn p)] σ (bRnx f g) :=
  ⟨rfl, fun A hA => sq146_0 (bWp_mono _) hA hp (w136 hp (by decide) (by omega) (fun q => w35 q.1 q.2 (bRnx_i (bi_rg _ _ _) (h0 q))) h1)⟩
theorem w202 (hp : bRg p) (hc : bRg c) (h1 : ¬ (0 ≤ p ∧ p < 48) → f 0 (bw σ 12 0 1)) (h2 : 0 ≤ p ∧ p < 48 → ¬ (0 ≤ c ∧ c ≤ 999) → f 0 (bw σ 12 0 2)) (h0 : 0 ≤ p ∧ p < 48 → 0 ≤ c ∧ c ≤ 999 → f (bi σ 56 p) (bw (bw σ 12 0 0) 56 p c)) : bWp (d + 3) 202 [.ref 12, .int (bn p), .int (bn c)] σ (bRn f) :=
  ⟨rfl, fun A hA => sq202_0 (bWp_mono _) hA hp hc (w200 hp (fun q => bFf (by decide) (w199 hc (by decide) (by decide) (fun q2 => bFf (by decide) (w197z (bTt rfl ⟨q, bRn_i (bi_rg _ _ _) (by rw [bi_ne (by decide)]; exact h0 q q2)⟩))) (fun q2 => bTt rfl (w197n (by decide) (by decide) (bFf (by decide) (bRn_i (by decide) (h2 q q2))))))) (fun q => bTt rfl (w197n (by decide) (by decide) (bFf (by decide) (bRn_i (by decide) (h1 q))))))⟩
theorem w203 (hp : bRg p) (h1 : ¬ (0 ≤ p ∧ p < 48) → f 0 (bw σ 12 0 1)) (h0 : 0 ≤ p ∧ p < 48 → f (bi σ 56 p) (bw (bw σ 12 0 0) 56 p (-1))) : bWp (d + 3) 203 [.ref 12, .int (bn p)] σ (bRn f) :=
  ⟨rfl, fun A hA => sq203_0 (bWp_mono _) hA hp (w200 hp (fun q => bFf (by decide) (w197z (bTt rfl ⟨q, bRn_i (bi_rg _ _ _) (by rw [bi_ne (by decide)]; exact h0 q)⟩))) (fun q => bTt rfl (w197n (by decide) (by decide) (bFf (by decide) (bRn_i (by decide) (h1 q))))))⟩
theorem w207 (hF : bFi σ) (hp : bRg p) (h1 : ¬ (0 ≤ p ∧ p < 48) → f 0 (bw σ 12 0 1)) (h0 : 0 ≤ p ∧ p < 48 → f (bOwn σ (p / 8)) (bw σ 12 0 0)) : bWp (d + 3) 207 [.ref 12, .int (bn p)] σ (bRn f) := by
  refine ⟨rfl, fun A hA => sq207_0 (bWp_mono _) hA hp (w200 hp (fun q => bFf (by decide) (w197z (bTt rfl ⟨q.1, w206 (bFi_un (S := []) (F := [0]) (bUn_f bUn_refl (by decide) (by decide)) (by decide) hF) (by omega) (by omega) (bRn_i ?_ ?_)⟩))) (fun q => bTt rfl (w197n (by decide) (by decide) (bFf (by decide) (bRn_i (by decide) (h1 q))))))⟩
  · have := hF.2.2.2.2.1 (p / 8) (by omega) (by omega)
    have e : bOwn (bw σ 12 0 0) (p / 8) = bOwn σ (p / 8) := by unfold bOwn; rw [bi_ne (by decide), bi_ne (by decide)]
    rw [e, ← this]
    exact bi_rg _ _ _
  · have e : bOwn (bw σ 12 0 0) (p / 8) = bOwn σ (p / 8) := by unfold bOwn; rw [bi_ne (by decide), bi_ne (by decide)]
    rw [e]
    exact h0 q
variable {G : bSt → Prop} {H : bHp} {L n : Nat}
theorem bI9_step {s : bSt} (hG : ∀ σ s, bUn bSf [0, 17] σ s → G σ → G s) (hH : ∀ c k σ s, bUn bSf [0, 17] σ s → H c k σ → H c k s) (h : bI9 G H L n σ) (u : bUn bSf [0, 17] σ s) (hF : bFi s) (hT : bTl s) (h1 : s.2.2.2.2.1 ≤ σ.2.2.2.2.1 + 1) (h2 : s.2.2.2.2.2 ≤ σ.2.2.2.2.2 + 6) : bI9 G H L (n + 1) s := by
  obtain ⟨a1, a2, a3, a4, c, k, a5, a6, a7⟩ := h
  have e : bT s = bT σ := by unfold bT; rw [u.2.1 22 (by decide) (by decide)]
  exact ⟨(bMid_un u (by decide)).2.trans a1, hF, hT, hG _ _ u a4, c, k, by rw [e]; omega, by rw [e]; omega, hH _ _ _ _ u a7⟩
theorem bI9_un {s : bSt} (hG : ∀ σ s, bUn bSf [0, 17] σ s → G σ → G s) (hH : ∀ c k σ s, bUn bSf [0, 17] σ s → H c k σ → H c k s) (h : bI9 G H L n σ) (u : bUn [] [0] σ s) (h1 : s.2.2.2.2.1 ≤ σ.2.2.2.2.1 + 1) (h2 : s.2.2.2.2.2 ≤ σ.2.2.2.2.2 + 6) : bI9 G H L (n + 1) s :=
  bI9_step hG hH h (bUn_mono u (by decide) (by decide)) (bFi_un u (by decide) h.2.1) (bTl_un u (by decide) (by decide) h.2.2.1) h1 h2
theorem bI9_no (hG : ∀ σ s, bUn bSf [0, 17] σ s → G σ → G s) (hH : ∀ c k σ s, bUn bSf [0, 17] σ s → H c k σ → H c k s) (h : bI9 G H L n σ) : bI9 G H L (n + 1) (bw (bC σ 1 6) 12 0 v) :=
  bI9_un hG hH h (bUn_f (bUn_C bUn_refl) (by decide) (by decide)) (Nat.le_refl _) (Nat.le_refl _)
theorem bMid_C : bMid σ (bC σ 1 6) := bMid_un (S := []) (F := []) (bUn_C bUn_refl) (by decide)
theorem k0 (hG : ∀ σ s, bUn bSf [0, 17] σ s → G σ → G s) (hH : ∀ c k σ s, bUn bSf [0, 17] σ s → H c k σ → H c k s) (h : bI9 G H L n σ) : bK0 (bI9 G H L (n + 1)) σ := by
  refine wk0 fun p c hp hc => w143 hp hc (by decide) (fun q => ?_) (fun q q2 => ?_) (fun q q2 => ?_)
  · exact ⟨bMid_C, w202 hp hc (fun _ => ⟨bi_eq (by decide), fun z => absurd z (by decide), bI9_no hG hH h⟩) (fun z _ => absurd z q) (fun z _ => absurd z q)⟩
  · exact ⟨bMid_C, w202 hp hc (fun z => absurd q z) (fun _ _ => ⟨bi_eq (by decide), fun z => absurd z (by decide), bI9_no hG hH h⟩) (fun _ z => absurd z q2)⟩
  · have u1 : bUn bSf [0, 17] σ (bwj (bw σ 19 p c) 154 0 (bL (bi σ 19 p))) := bUn_o (bUn_w bUn_refl (by decide) (by decide))
    refine ⟨bMid_un u1 (by decide), w202 hp hc (fun z => absurd q z) (fun _ z => absurd q2 z) (fun _ _ => ⟨?_, fun _ => ?_, ?_⟩)⟩
    · rw [bi_ne (by decide)]
      exact bi_eq (by decide)
    · show bj (bwj (bw σ 19 p c) 154 0 (bL (bi σ 19 p))) 154 0 = bL (bi (bw σ 19 p c) 56 p)
      rw [bj_eq, bi_ne (by decide), (h.2.1.1 p q.1 q.2).1]
    · have u2 : bUn bSf [0, 17] σ (bw (bw (bwj (bw σ 19 p c) 154 0 (bL (bi σ 19 p))) 12 0 0) 56 p c) := bUn_w (bUn_f u1 (by decide) (by decide)) (by decide) (by decide)
      refine bI9_step hG hH h u2 ?_ ?_ (Nat.le_succ _) (Nat.le_add_right _ _)
      · obtain ⟨b1, b2, b3, b4, b5, b6⟩ := h.2.1
        have e : ∀ a : Nat, a ≠ 19 → a ≠ 12 → a ≠ 56 → ∀ i, bi (bw (bw (bwj (bw σ 19 p c) 154 0 (bL (bi σ 19 p))) 12 0 0) 56 p c) a i = bi σ a i := fun a q1 q2 q3 i => by rw [bi_ne q3, bi_ne q2, bi_bwj, bi_ne q1]
        have o : ∀ d, bOwn (bw (bw (bwj (bw σ 19 p c) 154 0 (bL (bi σ 19 p))) 12 0 0) 56 p c) d = bOwn σ d := fun d => by unfold bOwn; rw [e 57 (by decide) (by decide) (by decide), e 57 (by decide) (by decide) (by decide)]
        refine ⟨fun r r1 r2 => ?_, by rw [e 57 (by decide) (by decide) (by decide)]; exact b2, fun r r1 r2 => by rw [e 57 (by decide) (by decide) (by decide)]; exact b3 r r1 r2, fun r r1 r2 => by rw [e 57 (by decide) (by decide) (by decide), e 20 (by decide) (by decide) (by decide)]; exact b4 r r1 r2, fun r r1 r2 => by rw [e 21 (by decide) (by decide) (by decide), o]; exact b5 r r1 r2, fun r r1 r2 => by rw [e 201 (by decide) (by decide) (by decide)]; exact b6 r r1 r2⟩
        rw [bi_ne (by decide), bi_ne (by decide), bi_bwj, bi_bw q.1 r1 hc, bi_bw q.1 r1 hc]
        by_cases z : r = p
        · rw [if_pos ⟨rfl, z⟩, if_pos ⟨rfl, z⟩]
          omega
        · rw [if_neg (fun y => z y.2), if_neg (fun y => z y.2), bi_ne (by decide), bi_bwj, bi_ne (by decide)]
          exact b1 r r1 r2
      · have u3 : bUn [19, 56] [0] σ (bw (bw (bwj (bw σ 19 p c) 154 0 (bL (bi σ 19 p))) 12 0 0) 56 p c) := bUn_w (bUn_f (bUn_o (bUn_w bUn_refl (by decide) (by decide))) (by decide) (by decide)) (by decide) (by decide)
        exact bTl_un u3 (by decide) (by decide) h.2.2.1
end

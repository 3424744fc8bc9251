/-! THE CASES OF SETTINGS AND TOOLCHAINS, 2 -/
section
variable {d : Nat} {σ : bSt} {f : Int → bSt → Prop} {fv : bSt → Prop} {g : Nat → bSt → Prop} {p c x v y z : Int}
theorem w132 (hc : 0 ≤ bi σ 10 1 ∧ bi σ 10 1 < 8) (hx : bRg x) (hy : bRg y) (hz : bRg z) (hv : bRg v) (h : f (bi σ 10 1 + 1) (bw (bw (bw (bw (bw σ 52 (bi σ 10 1) x) 53 (bi σ 10 1) y) 54 (bi σ 10 1) z) 55 (bi σ 10 1) v) 10 1 (bi σ 10 1 + 1))) : bWp (d + 2) 132 [.ref 10, .int (bn x), .int (bn y), .int (bn z), .int (bn v)] σ (bRn f) := by
  refine ⟨rfl, fun A hA => sq132_0 (bWp_mono _) hA hx hy hz hv (w141i (n := 8) hx rfl (by decide) rfl (by decide) hc.1 hc.2 ?_)⟩
  rw [show bi (bw σ 52 (bi σ 10 1) x) 10 1 = bi σ 10 1 from bi_ne (by decide)]
  refine w141i (n := 8) hy rfl (by decide) rfl (by decide) hc.1 hc.2 ?_
  rw [show bi (bw (bw σ 52 (bi σ 10 1) x) 53 (bi σ 10 1) y) 10 1 = bi σ 10 1 from (bi_ne (by decide)).trans (bi_ne (by decide))]
  refine w141i (n := 8) hz rfl (by decide) rfl (by decide) hc.1 hc.2 ?_
  rw [show bi (bw (bw (bw σ 52 (bi σ 10 1) x) 53 (bi σ 10 1) y) 54 (bi σ 10 1) z) 10 1 = bi σ 10 1 from ((bi_ne (by decide)).trans (bi_ne (by decide))).trans (bi_ne (by decide))]
  refine w141i (n := 8) hv rfl (by decide) rfl (by decide) hc.1 hc.2 ?_
  rw [show bi (bw (bw (bw (bw σ 52 (bi σ 10 1) x) 53 (bi σ 10 1) y) 54 (bi σ 10 1) z) 55 (bi σ 10 1) v) 10 1 = bi σ 10 1 from (((bi_ne (by decide)).trans (bi_ne (by decide))).trans (bi_ne (by decide))).trans (bi_ne (by decide))]
  exact ⟨⟨by omega, by omega⟩, bRn_i ⟨by omega, by omega⟩ h⟩
/-- what toolchain asks of its numbers -/
def bTc (x y z v : Int) : Prop := (0 ≤ x ∧ x ≤ 2) ∧ (0 ≤ z ∧ z ≤ if y = -1 then 0 else 3) ∧ 0 ≤ v ∧ v ≤ 99
theorem w154 (hc : 0 ≤ bi σ 10 1 ∧ bi σ 10 1 ≤ 8) (hx : bRg x) (hy : bRg y) (hz : bRg z) (hv : bRg v) (hd : 6 ≤ d) (h1 : ¬ (-1 ≤ y ∧ y ≤ 3) → g 0 (bC σ 1 6)) (h2 : -1 ≤ y ∧ y ≤ 3 → ¬ bTc x y z v → g 1 (bC σ 1 6)) (h3 : -1 ≤ y ∧ y ≤ 3 → bTc x y z v → bi σ 10 1 = 8 → g 2 (bC σ 1 6))
    (h0 : -1 ≤ y ∧ y ≤ 3 → bTc x y z v → bi σ 10 1 < 8 → f (bi σ 10 1 + 1) (bw (bw (bw (bw (bw σ 52 (bi σ 10 1) x) 53 (bi σ 10 1) y) 54 (bi σ 10 1) z) 55 (bi σ 10 1) v) 10 1 (bi σ 10 1 + 1))) : bWp (d + 3) 154 [.ref 11, .int (bn x), .int (bn y), .int (bn z), .int (bn v)] σ (bRnx f g) := by
  refine ⟨rfl, fun A hA => ?_⟩
  have key : -1 ≤ y ∧ y ≤ 3 → A (6, [.ref 11, .int (bn x), .int (bn y), .int (bn z), .int (bn v)], [], σ) := fun qy => by
    have fin : bTc x y z v → ((bi σ 10 1 < 8 → bWp (d + 2) 139 [.int (bn 1)] σ (bRvx (fun s9 => bWp (d + 2) 132 [.ref 10, .int (bn x), .int (bn y), .int (bn z), .int (bn v)] s9 (bRn fun r13 s11 => bRnx f g (.inl (some (.int (bn r13)))) s11)) (fun E s9 => bRnx f g (.inr E) s9))) ∧ (¬ bi σ 10 1 < 8 → bWp (d + 2) 139 [.int (bn 0)] σ (bRvx (fun s9 => bWp (d + 2) 132 [.ref 10, .int (bn x), .int (bn y), .int (bn z), .int (bn v)] s9 (bRn fun r13 s11 => bRnx f g (.inl (some (.int (bn r13)))) s11)) (fun E s9 => bRnx f g (.inr E) s9)))) := fun qt =>
      ⟨fun q => w139 (by decide) (by omega) (fun _ => w132 ⟨hc.1, q⟩ hx hy hz hv (bRnx_i ⟨by omega, by omega⟩ (h0 qy qt q))) (fun q2 => absurd q2 (by decide)), fun q => w139 (by decide) (by omega) (fun q2 => absurd rfl q2) (fun _ => h3 qy qt (by omega))⟩
    refine sq154_6 (bWp_mono _) hA hx hy hz hv (w138 hx (by decide) (by decide) (by omega) (fun q1 => ⟨fun e => w138 hz (by decide) (by decide) (by omega) (fun q2 => w138 hv (by decide) (by decide) (by omega) (fun q3 => fin ⟨q1, by rw [if_pos e]; exact q2, q3⟩) (fun q3 => h2 qy fun t => q3 t.2.2)) (fun q2 => h2 qy fun t => q2 (by have := t.2.1; rwa [if_pos e] at this)), fun e => w138 hz (by decide) (by decide) (by omega) (fun q2 => w138 hv (by decide) (by decide) (by omega) (fun q3 => fin ⟨q1, by rw [if_neg e]; exact q2, q3⟩) (fun q3 => h2 qy fun t => q3 t.2.2)) (fun q2 => h2 qy fun t => q2 (by have := t.2.1; rwa [if_neg e] at this))⟩) (fun q1 => h2 qy fun t => q1 t.1))
  exact sq154_0 (bWp_mono _) hA hx hy hz hv ⟨fun e => key (by omega), fun e => w136 hy (by decide) (by omega) (fun q => key (by omega)) (fun q => h1 (by omega))⟩
theorem w223 (hc : 0 ≤ bi σ 12 17 ∧ bi σ 12 17 ≤ 8) (hx : bRg x) (hy : bRg y) (hz : bRg z) (hv : bRg v) (h1 : ¬ (-1 ≤ y ∧ y ≤ 3) → f 0 (bw σ 12 0 1)) (h2 : -1 ≤ y ∧ y ≤ 3 → ¬ bTc x y z v → f 0 (bw σ 12 0 2)) (h3 : -1 ≤ y ∧ y ≤ 3 → bTc x y z v → bi σ 12 17 = 8 → f 0 (bw σ 12 0 3))
    (h0 : -1 ≤ y ∧ y ≤ 3 → bTc x y z v → bi σ 12 17 < 8 → f (bi σ 12 17 + 1) (bw (bw (bw (bw (bw (bw σ 12 0 0) 71 (bi σ 12 17) x) 72 (bi σ 12 17) y) 73 (bi σ 12 17) z) 74 (bi σ 12 17) v) 12 17 (bi σ 12 17 + 1))) : bWp (d + 2) 223 [.ref 12, .int (bn x), .int (bn y), .int (bn z), .int (bn v)] σ (bRn f) := by
  refine ⟨rfl, fun A hA => ?_⟩
  have cut : ∀ t0 l5 : Int, ((-1 ≤ y ∧ y ≤ 3) ∧ l5 = 1 ∨ ¬ (-1 ≤ y ∧ y ≤ 3) ∧ l5 = 0) → (bTc x y z v ∧ t0 = 1 ∨ ¬ bTc x y z v ∧ t0 = 0) → A (28, [.ref 12, .int (bn x), .int (bn y), .int (bn z), .int (bn v), .int (bn l5), .float 0], [.int (bn t0)], σ) := by
    intro t0 l5 c5 c0
    refine sq223_28 (bWp_mono _) hA hx hy hz hv ⟨by omega, by omega⟩ ⟨by omega, by omega⟩ ⟨fun e => w197n (by decide) (by decide) (bFf (by decide) (bRn_i (by decide) (h1 (by omega)))), fun e => ?_⟩
    have qy : -1 ≤ y ∧ y ≤ 3 := by omega
    refine ⟨fun e2 => w197n (by decide) (by decide) (bFf (by decide) (bRn_i (by decide) (h2 qy (by rcases c0 with ⟨_, c0⟩ | ⟨c0, _⟩; exact absurd (c0.symm.trans e2) (by decide); exact c0)))), fun e2 => ?_⟩
    have qt : bTc x y z v := by rcases c0 with ⟨c0, _⟩ | ⟨_, c0⟩; exact c0; exact absurd c0 e2
    refine ⟨fun e3 => w197n (by decide) (by decide) (bFf (by decide) (bRn_i (by decide) (h3 qy qt e3))), fun e3 => w197z (bTt rfl ?_)⟩
    have e17 : bi (bw σ 12 0 0) 12 17 = bi σ 12 17 := bi_nj (by decide) (by decide) (by decide)
    rw [e17]
    exact ⟨⟨by omega, by omega⟩, ⟨by omega, by omega⟩, ⟨by omega, by omega⟩, ⟨by omega, by omega⟩, ⟨by omega, by omega⟩, bRn_i ⟨by omega, by omega⟩ (h0 qy qt (by omega))⟩
  have mid : ∀ l5 : Int, bRg l5 → ((-1 ≤ y ∧ y ≤ 3) ∧ l5 = 1 ∨ ¬ (-1 ≤ y ∧ y ≤ 3) ∧ l5 = 0) → bWp (d + 1) 199 [.int (bn x), .int (bn 0), .int (bn 2)] σ (bRn (fun r7 s5 => ((r7 = 0 → A (28, [.ref 12, .int (bn x), .int (bn y), .int (bn z), .int (bn v), .int (bn l5), .float 0], [.int (bn 0)], s5)) ∧ (¬ r7 = 0 → ((y = (-1) → (bWp (d + 1) 199 [.int (bn z), .int (bn 0), .int (bn 0)] s5 (bRn (fun r13 s11 => ((r13 = 0 → A (28, [.ref 12, .int (bn x), .int (bn y), .int (bn z), .int (bn v), .int (bn l5), .float 0], [.int (bn 0)], s11)) ∧ (¬ r13 = 0 → (bWp (d + 1) 199 [.int (bn v), .int (bn 0), .int (bn 99)] s11 (bRn (fun r18 s16 => ((r18 = 0 → A (28, [.ref 12, .int (bn x), .int (bn y), .int (bn z), .int (bn v), .int (bn l5), .float 0], [.int (bn 0)], s16)) ∧ (¬ r18 = 0 → A (28, [.ref 12, .int (bn x), .int (bn y), .int (bn z), .int (bn v), .int (bn l5), .float 0], [.int (bn 1)], s16)))))))))))) ∧ (¬ y = (-1) → (bWp (d + 1) 199 [.int (bn z), .int (bn 0), .int (bn 3)] s5 (bRn (fun r23 s21 => ((r23 = 0 → A (28, [.ref 12, .int (bn x), .int (bn y), .int (bn z), .int (bn v), .int (bn l5), .float 0], [.int (bn 0)], s21)) ∧ (¬ r23 = 0 → (bWp (d + 1) 199 [.int (bn v), .int (bn 0), .int (bn 99)] s21 (bRn (fun r28 s26 => ((r28 = 0 → A (28, [.ref 12, .int (bn x), .int (bn y), .int (bn z), .int (bn v), .int (bn l5), .float 0], [.int (bn 0)], s26)) ∧ (¬ r28 = 0 → A (28, [.ref 12, .int (bn x), .int (bn y), .int (bn z), .int (bn v), .int (bn l5), .float 0], [.int (bn 1)], s26))))))))))))))))) := by
    intro l5 hl5 c5
    refine w199 hx (by decide) (by decide) (fun q1 => bFf (by decide) ⟨fun e => w199 hz (by decide) (by decide) (fun q2 => bFf (by decide) (w199 hv (by decide) (by decide) (fun q3 => bFf (by decide) (cut 1 l5 c5 (Or.inl ⟨⟨q1, by rw [if_pos e]; exact q2, q3⟩, rfl⟩))) (fun q3 => bTt rfl (cut 0 l5 c5 (Or.inr ⟨fun t => q3 t.2.2, rfl⟩))))) (fun q2 => bTt rfl (cut 0 l5 c5 (Or.inr ⟨fun t => q2 (by have := t.2.1; rwa [if_pos e] at this), rfl⟩))), fun e => w199 hz (by decide) (by decide) (fun q2 => bFf (by decide) (w199 hv (by decide) (by decide) (fun q3 => bFf (by decide) (cut 1 l5 c5 (Or.inl ⟨⟨q1, by rw [if_neg e]; exact q2, q3⟩, rfl⟩))) (fun q3 => bTt rfl (cut 0 l5 c5 (Or.inr ⟨fun t => q3 t.2.2, rfl⟩))))) (fun q2 => bTt rfl (cut 0 l5 c5 (Or.inr ⟨fun t => q2 (by have := t.2.1; rwa [if_neg e] at this), rfl⟩)))⟩) (fun q1 => bTt rfl (cut 0 l5 c5 (Or.inr ⟨fun t => q1 t.1, rfl⟩)))
  exact sq223_0 (bWp_mono _) hA hx hy hz hv (w199 hy (by decide) (by decide) (fun q => mid 1 (by decide) (Or.inl ⟨q, rfl⟩)) (fun q => mid 0 (by decide) (Or.inr ⟨q, rfl⟩)))
variable {G : bSt → Prop} {H : bHp} {L n : Nat}
theorem k10 (hG : ∀ σ s, bUn bSf [0, 17] σ s → G σ → G s) (hH : ∀ c k σ s, bUn bSf [0, 17] σ s → H c k σ → H c k s) (h : bI9 G H L n σ) : bK10 (bI9 G H L (n + 1)) σ := by
  obtain ⟨⟨t1, t2, t3⟩, t4, t5, t6⟩ := h.2.2.1
  have r0 := t5 0 (by decide) (by decide)
  have r1 := t5 1 (by decide) (by decide)
  have r2 := t5 2 (by decide) (by decide)
  have r3 := t5 3 (by decide) (by decide)
  refine wk10 fun x v hx hv => w153 ⟨by omega, by omega⟩ hx hv (by decide) (fun q => ?_) (fun q q2 => ?_) (fun q q2 => ?_)
  · exact ⟨bMid_C, w222 hx hv (fun _ => ⟨bi_eq (by decide), fun z => absurd z (by decide), bI9_no hG hH h⟩) (fun z _ => absurd z q) (fun z _ => absurd z q)⟩
  · exact ⟨bMid_C, w222 hx hv (fun z => absurd q z) (fun _ _ => ⟨bi_eq (by decide), fun z => absurd z (by decide), bI9_no hG hH h⟩) (fun _ z => absurd z q2)⟩
  · have hcr := bChg_rg (c := bi σ 10 0) (s := x) (v := v) (by omega) (by omega) q2.1 (by omega)
    have u1 : bUn [10, 70] [0] σ (bwj (bw σ 10 0 (bChg (bi σ 10 0) x v)) 154 0 (bL (bVi (bi σ 10 0) x))) := bUn_o (bUn_w bUn_refl (by decide) (by decide))
    have u2 : bUn [10, 70] [0] σ (bw (bw (bwj (bw σ 10 0 (bChg (bi σ 10 0) x v)) 154 0 (bL (bVi (bi σ 10 0) x))) 12 0 0) 70 x v) := bUn_w (bUn_f u1 (by decide) (by decide)) (by decide) (by decide)
    refine ⟨bMid_un u1 (by decide), w222 hx hv (fun z => absurd q z) (fun _ z => absurd q2 z) (fun _ _ => ⟨?_, fun _ => ?_, ?_⟩)⟩
    · rw [bi_ne (by decide)]
      exact bi_eq (by decide)
    · show bj (bwj (bw σ 10 0 (bChg (bi σ 10 0) x v)) 154 0 (bL (bVi (bi σ 10 0) x))) 154 0 = bL (bi (bw σ 10 0 (bChg (bi σ 10 0) x v)) 70 x)
      rw [bj_eq, bi_ne (by decide), t6]
      have key : x = 0 ∨ x = 1 ∨ x = 2 ∨ x = 3 := by omega
      unfold bVi
      rcases key with rfl | rfl | rfl | rfl
      · rw [if_pos rfl]; congr 1; omega
      · rw [if_neg (by decide), if_pos rfl]; congr 1; omega
      · rw [if_neg (by decide), if_neg (by decide), if_pos rfl]; congr 1; omega
      · rw [if_neg (by decide), if_neg (by decide), if_neg (by decide)]; congr 1; omega
    · refine bI9_step hG hH h (bUn_mono u2 (by decide) (by decide)) (bFi_un u2 (by decide) h.2.1) ?_ (Nat.le_succ _) (Nat.le_add_right _ _)
      have e70 : ∀ k, 0 ≤ k → bi (bw (bw (bwj (bw σ 10 0 (bChg (bi σ 10 0) x v)) 154 0 (bL (bVi (bi σ 10 0) x))) 12 0 0) 70 x v) 70 k = if k = x then v else bi σ 70 k := fun k qk => by
        rw [bi_bw q.1 qk hv, bi_ne (by decide), bi_bwj, bi_ne (by decide)]
        simp only [true_and]
      have e10 : bi (bw (bw (bwj (bw σ 10 0 (bChg (bi σ 10 0) x v)) 154 0 (bL (bVi (bi σ 10 0) x))) 12 0 0) 70 x v) 10 0 = bChg (bi σ 10 0) x v := by
        rw [bi_ne (by decide), bi_ne (by decide), bi_bwj, bi_eq ⟨by omega, by omega⟩]
      have e101 : bi (bw (bw (bwj (bw σ 10 0 (bChg (bi σ 10 0) x v)) 154 0 (bL (bVi (bi σ 10 0) x))) 12 0 0) 70 x v) 10 1 = bi σ 10 1 := by
        rw [bi_ne (by decide), bi_ne (by decide), bi_bwj, bi_nj (by decide) (by decide) (by decide)]
      have e17 : bi (bw (bw (bwj (bw σ 10 0 (bChg (bi σ 10 0) x v)) 154 0 (bL (bVi (bi σ 10 0) x))) 12 0 0) 70 x v) 12 17 = bi σ 12 17 := u2.2.1 17 (by decide) (by decide)
      have eo : ∀ a ∈ [52, 53, 54, 55, 71, 72, 73, 74], ∀ i, bi (bw (bw (bwj (bw σ 10 0 (bChg (bi σ 10 0) x v)) 154 0 (bL (bVi (bi σ 10 0) x))) 12 0 0) 70 x v) a i = bi σ a i := fun a ha i => by
        simp only [List.mem_cons, List.not_mem_nil, or_false] at ha
        rw [bi_ne (by omega), bi_ne (by omega), bi_bwj, bi_ne (by omega)]
      refine ⟨⟨by rw [e17]; exact t1, by rw [e17]; exact t2, by rw [e101, e17]; exact t3⟩, fun k k0 k1 => ?_, fun k k0 k1 => ?_, ?_⟩
      · rw [e17] at k1
        rw [eo 52 (by decide), eo 53 (by decide), eo 54 (by decide), eo 55 (by decide), eo 71 (by decide), eo 72 (by decide), eo 73 (by decide), eo 74 (by decide)]
        exact t4 k k0 k1
      · rw [e70 k k0]
        split
        · omega
        · exact t5 k k0 k1
      · rw [e10, e70 0 (by decide), e70 1 (by decide), e70 2 (by decide), e70 3 (by decide), t6]
        have key : x = 0 ∨ x = 1 ∨ x = 2 ∨ x = 3 := by omega
        unfold bChg
        rcases key with rfl | rfl | rfl | rfl
        · rw [if_pos rfl, if_pos rfl, if_neg (by decide), if_neg (by decide), if_neg (by decide)]; omega
        · rw [if_neg (by decide), if_pos rfl, if_neg (by decide), if_pos rfl, if_neg (by decide), if_neg (by decide)]; omega
        · rw [if_neg (by decide), if_neg (by decide), if_pos rfl, if_neg (by decide), if_neg (by decide), if_pos rfl, if_neg (by decide)]; omega
        · rw [if_neg (by decide), if_neg (by decide), if_neg (by decide), if_neg (by decide), if_neg (by decide), if_neg (by decide), if_pos rfl]; omega
theorem k12 (hG : ∀ σ s, bUn bSf [0, 17] σ s → G σ → G s) (hH : ∀ c k σ s, bUn bSf [0, 17] σ s → H c k σ → H c k s) (h : bI9 G H L n σ) : bK12 (bI9 G H L (n + 1)) σ := by
  obtain ⟨⟨t1, t2, t3⟩, t4, t5, t6⟩ := h.2.2.1
  refine wk12 fun x hx => w155 ⟨by omega, by omega⟩ hx (by decide) (fun q => ?_) (fun q s a1 a2 a3 => ?_)
  · exact ⟨bMid_C, w224 ⟨t1, t2⟩ hx (fun _ => ⟨bi_eq (by decide), fun z => absurd z (by decide), bI9_no hG hH h⟩) (fun z => absurd (by rw [t3]; exact z) q)⟩
  · have u0 : bUn [10, 52, 53, 54, 55, 71, 72, 73, 74] [0, 17] σ s := bUn_S bUn_refl ⟨a1, fun a ha i => a2 a i (fun z => ha (by simp at z ⊢; omega))⟩ (by decide)
    have u1 : bUn [10, 52, 53, 54, 55, 71, 72, 73, 74] [0, 17] σ (bwj (bw s 10 1 (bi σ 10 1 - 1)) 154 0 (bL (bi σ 10 1 - 1))) := bUn_o (bUn_w u0 (by decide) (by decide))
    have e17 : bi (bwj (bw s 10 1 (bi σ 10 1 - 1)) 154 0 (bL (bi σ 10 1 - 1))) 12 17 = bi σ 12 17 := by rw [bi_bwj, bi_ne (by decide), a2 12 _ (by decide)]
    refine ⟨bMid_un u1 (by decide), w224 (by rw [e17]; exact ⟨t1, t2⟩) hx (fun z => absurd (by rw [e17, ← t3]; exact q) z) fun _ t b1 b2 b3 => ?_⟩
    rw [e17] at b3 ⊢
    have hr : bRg (bi σ 12 17 - 1) := ⟨by omega, by omega⟩
    have u2 : bUn [10, 52, 53, 54, 55, 71, 72, 73, 74] [0, 17] σ t := bUn_trans (bUn_f u1 (i := 0) (v := 0) (by decide) (by decide)) (bUn_S bUn_refl ⟨by rw [b1]; rfl, fun a ha i => b2 a i (fun z => ha (by simp at z ⊢; omega))⟩ (by decide))
    have u3 : bUn [10, 52, 53, 54, 55, 71, 72, 73, 74] [0, 17] σ (bw t 12 17 (bi σ 12 17 - 1)) := bUn_f u2 (by decide) (by decide)
    refine ⟨?_, fun _ => ?_, bI9_step hG hH h (bUn_mono u3 (by decide) (by decide)) (bFi_un u3 (by decide) h.2.1) ?_ ?_ ?_⟩
    · rw [bi_nj (by decide) (by decide) (by decide), b2 12 _ (by decide)]
      exact bi_eq (by decide)
    · show t.2.1 154 0 = _
      rw [b1]
      show bj (bwj (bw s 10 1 (bi σ 10 1 - 1)) 154 0 (bL (bi σ 10 1 - 1))) 154 0 = _
      rw [bj_eq, t3]
    · have e1 : bi (bw t 12 17 (bi σ 12 17 - 1)) 12 17 = bi σ 12 17 - 1 := bi_eq hr
      have e2 : bi (bw t 12 17 (bi σ 12 17 - 1)) 10 1 = bi σ 12 17 - 1 := by
        rw [bi_ne (by decide), b2 10 _ (by decide), bi_ne (by decide), bi_bwj, bi_eq ⟨by omega, by omega⟩, t3]
      have e3 : ∀ a ∈ [52, 53, 54, 55], ∀ k, 0 ≤ k → bi (bw t 12 17 (bi σ 12 17 - 1)) a k = if x ≤ k ∧ k + 1 < bi σ 12 17 then bi σ a (k + 1) else bi σ a k := fun a ha k k0 => by
        have ha' := ha
        simp only [List.mem_cons, List.not_mem_nil, or_false] at ha'
        rw [bi_ne (by omega), b2 a _ (by simp; omega), bi_ne (by omega), bi_bwj, bi_ne (by omega), a3 a ha k k0, t3]
      have e4 : ∀ a ∈ [71, 72, 73, 74], ∀ k, 0 ≤ k → bi (bw t 12 17 (bi σ 12 17 - 1)) a k = if x ≤ k ∧ k + 1 < bi σ 12 17 then bi σ a (k + 1) else bi σ a k := fun a ha k k0 => by
        have ha' := ha
        simp only [List.mem_cons, List.not_mem_nil, or_false] at ha'
        have eo : ∀ i, bi (bwj (bw s 10 1 (bi σ 10 1 - 1)) 154 0 (bL (bi σ 10 1 - 1))) a i = bi σ a i := fun i => by rw [bi_bwj, bi_ne (by omega), a2 a _ (by simp; omega)]
        rw [bi_ne (by omega), b3 a ha k k0, eo, eo]
      have e5 : ∀ k, bi (bw t 12 17 (bi σ 12 17 - 1)) 70 k = bi σ 70 k := fun k => by rw [bi_ne (by decide), b2 70 _ (by decide), bi_ne (by decide), bi_bwj, bi_ne (by decide), a2 70 _ (by decide)]
      have e6 : bi (bw t 12 17 (bi σ 12 17 - 1)) 10 0 = bi σ 10 0 := by rw [bi_ne (by decide), b2 10 _ (by decide), bi_ne (by decide), bi_bwj, bi_nj (by decide) (by decide) (by decide), a2 10 _ (by decide)]
      refine ⟨⟨by rw [e1]; omega, by rw [e1]; omega, by rw [e1, e2]⟩, fun k k0 k1 => ?_, fun k k0 k1 => by rw [e5]; exact t5 k k0 k1, by rw [e6, e5, e5, e5, e5]; exact t6⟩
      rw [e1] at k1
      rw [e3 52 (by decide) k k0, e3 53 (by decide) k k0, e3 54 (by decide) k k0, e3 55 (by decide) k k0, e4 71 (by decide) k k0, e4 72 (by decide) k k0, e4 73 (by decide) k k0, e4 74 (by decide) k k0]
      by_cases z : x ≤ k ∧ k + 1 < bi σ 12 17
      · simp only [if_pos z]
        exact t4 (k + 1) (by omega) z.2
      · simp only [if_neg z]
        exact t4 k k0 (by omega)
    · show t.2.2.2.2.1 ≤ _
      rw [b1]
      show s.2.2.2.2.1 ≤ _
      rw [a1]
      exact Nat.le_succ _
    · show t.2.2.2.2.2 ≤ _
      rw [b1]
      show s.2.2.2.2.2 ≤ _
      rw [a1]
      exact Nat.le_add_right _ _
theorem k11 (hG : ∀ σ s, bUn bSf [0, 17] σ s → G σ → G s) (hH : ∀ c k σ s, bUn bSf [0, 17] σ s → H c k σ → H c k s) (h : bI9 G H L n σ) : bK11 (bI9 G H L (n + 1)) σ := by
  obtain ⟨⟨t1, t2, t3⟩, t4, t5, t6⟩ := h.2.2.1
  refine wk11 fun x y z v hx hy hz hv => w154 ⟨by omega, by omega⟩ hx hy hz hv (by decide) (fun q => ?_) (fun q q2 => ?_) (fun q q2 q3 => ?_) (fun q q2 q3 => ?_)
  · exact ⟨bMid_C, w223 ⟨t1, t2⟩ hx hy hz hv (fun _ => ⟨bi_eq (by decide), fun z => absurd z (by decide), bI9_no hG hH h⟩) (fun w => absurd w q) (fun w => absurd w q) (fun w => absurd w q)⟩
  · exact ⟨bMid_C, w223 ⟨t1, t2⟩ hx hy hz hv (fun w => absurd q w) (fun _ _ => ⟨bi_eq (by decide), fun z => absurd z (by decide), bI9_no hG hH h⟩) (fun _ w => absurd w q2) (fun _ w => absurd w q2)⟩
  · exact ⟨bMid_C, w223 ⟨t1, t2⟩ hx hy hz hv (fun w => absurd q w) (fun _ w => absurd q2 w) (fun _ _ _ => ⟨bi_eq (by decide), fun z => absurd z (by decide), bI9_no hG hH h⟩) (fun _ _ w => absurd w (by rw [bi_bC]; omega))⟩
  · have hT : bi σ 10 1 = bi σ 12 17 := t3
    rw [hT] at q3 ⊢
    obtain ⟨qx, qz, qv⟩ := q2
    have hz3 : z ≤ 3 := by have := qz.2; split at this <;> omega
    generalize hS : (bwj (bw (bw (bw (bw (bw σ 52 (bi σ 12 17) x) 53 (bi σ 12 17) y) 54 (bi σ 12 17) z) 55 (bi σ 12 17) v) 10 1 (bi σ 12 17 + 1)) 154 0 (bL (bi σ 12 17 + 1))) = s1
    have u1 : bUn [10, 52, 53, 54, 55, 71, 72, 73, 74] [0, 17] σ s1 := by
      rw [← hS]
      exact bUn_o (bUn_w (bUn_w (bUn_w (bUn_w (bUn_w bUn_refl (by decide) (by decide)) (by decide) (by decide)) (by decide) (by decide)) (by decide) (by decide)) (by decide) (by decide))
    have e17 : bi s1 12 17 = bi σ 12 17 := by rw [← hS, bi_bwj, bi_ne (by decide), bi_ne (by decide), bi_ne (by decide), bi_ne (by decide), bi_ne (by decide)]
    refine ⟨bMid_un u1 (by decide), w223 (by rw [e17]; exact ⟨t1, t2⟩) hx hy hz hv (fun w => absurd q w) (fun _ w => absurd ⟨qx, qz, qv⟩ w) (fun _ _ w => absurd w (by rw [e17]; omega)) fun _ _ _ => ?_⟩
    rw [e17]
    have u2 : bUn [10, 52, 53, 54, 55, 71, 72, 73, 74] [0, 17] σ (bw (bw (bw (bw (bw (bw s1 12 0 0) 71 (bi σ 12 17) x) 72 (bi σ 12 17) y) 73 (bi σ 12 17) z) 74 (bi σ 12 17) v) 12 17 (bi σ 12 17 + 1)) := bUn_f (bUn_w (bUn_w (bUn_w (bUn_w (bUn_f u1 (by decide) (by decide)) (by decide) (by decide)) (by decide) (by decide)) (by decide) (by decide)) (by decide) (by decide)) (by decide) (by decide)
    refine ⟨?_, fun _ => ?_, bI9_step hG hH h (bUn_mono u2 (by decide) (by decide)) (bFi_un u2 (by decide) h.2.1) ?_ ?_ ?_⟩
    · rw [bi_nj (by decide) (by decide) (by decide), bi_ne (by decide), bi_ne (by decide), bi_ne (by decide), bi_ne (by decide)]
      exact bi_eq (by decide)
    · show bj s1 154 0 = _
      rw [← hS]
      exact bj_eq
    · have e1 : bi (bw (bw (bw (bw (bw (bw s1 12 0 0) 71 (bi σ 12 17) x) 72 (bi σ 12 17) y) 73 (bi σ 12 17) z) 74 (bi σ 12 17) v) 12 17 (bi σ 12 17 + 1)) 12 17 = bi σ 12 17 + 1 := bi_eq ⟨by omega, by omega⟩
      have eo : ∀ a, a ∉ [71, 72, 73, 74, 12] → ∀ i, bi (bw (bw (bw (bw (bw (bw s1 12 0 0) 71 (bi σ 12 17) x) 72 (bi σ 12 17) y) 73 (bi σ 12 17) z) 74 (bi σ 12 17) v) 12 17 (bi σ 12 17 + 1)) a i = bi s1 a i := fun a ha i => by
        simp only [List.mem_cons, List.not_mem_nil, or_false, not_or] at ha
        rw [bi_ne ha.2.2.2.2, bi_ne ha.2.2.2.1, bi_ne ha.2.2.1, bi_ne ha.2.1, bi_ne ha.1, bi_ne ha.2.2.2.2]
      have es : ∀ a, a ∉ [52, 53, 54, 55, 10] → ∀ i, bi s1 a i = bi σ a i := fun a ha i => by
        simp only [List.mem_cons, List.not_mem_nil, or_false, not_or] at ha
        rw [← hS, bi_bwj, bi_ne ha.2.2.2.2, bi_ne ha.2.2.2.1, bi_ne ha.2.2.1, bi_ne ha.2.1, bi_ne ha.1]
      have e71 : ∀ k, 0 ≤ k → bi (bw (bw (bw (bw (bw (bw s1 12 0 0) 71 (bi σ 12 17) x) 72 (bi σ 12 17) y) 73 (bi σ 12 17) z) 74 (bi σ 12 17) v) 12 17 (bi σ 12 17 + 1)) 71 k = if k = bi σ 12 17 then x else bi σ 71 k := fun k k0 => by
        rw [bi_ne (by decide), bi_ne (by decide), bi_ne (by decide), bi_ne (by decide), bi_bw t1 k0 hx, bi_ne (by decide), es 71 (by decide)]
        simp only [true_and]
      have e72 : ∀ k, 0 ≤ k → bi (bw (bw (bw (bw (bw (bw s1 12 0 0) 71 (bi σ 12 17) x) 72 (bi σ 12 17) y) 73 (bi σ 12 17) z) 74 (bi σ 12 17) v) 12 17 (bi σ 12 17 + 1)) 72 k = if k = bi σ 12 17 then y else bi σ 72 k := fun k k0 => by
        rw [bi_ne (by decide), bi_ne (by decide), bi_ne (by decide), bi_bw t1 k0 hy, bi_ne (by decide), bi_ne (by decide), es 72 (by decide)]
        simp only [true_and]
      have e73 : ∀ k, 0 ≤ k → bi (bw (bw (bw (bw (bw (bw s1 12 0 0) 71 (bi σ 12 17) x) 72 (bi σ 12 17) y) 73 (bi σ 12 17) z) 74 (bi σ 12 17) v) 12 17 (bi σ 12 17 + 1)) 73 k = if k = bi σ 12 17 then z else bi σ 73 k := fun k k0 => by
        rw [bi_ne (by decide), bi_ne (by decide), bi_bw t1 k0 hz, bi_ne (by decide), bi_ne (by decide), bi_ne (by decide), es 73 (by decide)]
        simp only [true_and]
      have e74 : ∀ k, 0 ≤ k → bi (bw (bw (bw (bw (bw (bw s1 12 0 0) 71 (bi σ 12 17) x) 72 (bi σ 12 17) y) 73 (bi σ 12 17) z) 74 (bi σ 12 17) v) 12 17 (bi σ 12 17 + 1)) 74 k = if k = bi σ 12 17 then v else bi σ 74 k := fun k k0 => by
        rw [bi_ne (by decide), bi_bw t1 k0 hv, bi_ne (by decide), bi_ne (by decide), bi_ne (by decide), bi_ne (by decide), es 74 (by decide)]
        simp only [true_and]
      have e52 : ∀ k, 0 ≤ k → bi (bw (bw (bw (bw (bw (bw s1 12 0 0) 71 (bi σ 12 17) x) 72 (bi σ 12 17) y) 73 (bi σ 12 17) z) 74 (bi σ 12 17) v) 12 17 (bi σ 12 17 + 1)) 52 k = if k = bi σ 12 17 then x else bi σ 52 k := fun k k0 => by
        rw [eo 52 (by decide), ← hS, bi_bwj, bi_ne (by decide), bi_ne (by decide), bi_ne (by decide), bi_ne (by decide), bi_bw t1 k0 hx]
        simp only [true_and]
      have e53 : ∀ k, 0 ≤ k → bi (bw (bw (bw (bw (bw (bw s1 12 0 0) 71 (bi σ 12 17) x) 72 (bi σ 12 17) y) 73 (bi σ 12 17) z) 74 (bi σ 12 17) v) 12 17 (bi σ 12 17 + 1)) 53 k = if k = bi σ 12 17 then y else bi σ 53 k := fun k k0 => by
        rw [eo 53 (by decide), ← hS, bi_bwj, bi_ne (by decide), bi_ne (by decide), bi_ne (by decide), bi_bw t1 k0 hy, bi_ne (by decide)]
        simp only [true_and]
      have e54 : ∀ k, 0 ≤ k → bi (bw (bw (bw (bw (bw (bw s1 12 0 0) 71 (bi σ 12 17) x) 72 (bi σ 12 17) y) 73 (bi σ 12 17) z) 74 (bi σ 12 17) v) 12 17 (bi σ 12 17 + 1)) 54 k = if k = bi σ 12 17 then z else bi σ 54 k := fun k k0 => by
        rw [eo 54 (by decide), ← hS, bi_bwj, bi_ne (by decide), bi_ne (by decide), bi_bw t1 k0 hz, bi_ne (by decide), bi_ne (by decide)]
        simp only [true_and]
      have e55 : ∀ k, 0 ≤ k → bi (bw (bw (bw (bw (bw (bw s1 12 0 0) 71 (bi σ 12 17) x) 72 (bi σ 12 17) y) 73 (bi σ 12 17) z) 74 (bi σ 12 17) v) 12 17 (bi σ 12 17 + 1)) 55 k = if k = bi σ 12 17 then v else bi σ 55 k := fun k k0 => by
        rw [eo 55 (by decide), ← hS, bi_bwj, bi_ne (by decide), bi_bw t1 k0 hv, bi_ne (by decide), bi_ne (by decide), bi_ne (by decide)]
        simp only [true_and]
      have e10 : bi (bw (bw (bw (bw (bw (bw s1 12 0 0) 71 (bi σ 12 17) x) 72 (bi σ 12 17) y) 73 (bi σ 12 17) z) 74 (bi σ 12 17) v) 12 17 (bi σ 12 17 + 1)) 10 1 = bi σ 12 17 + 1 := by
        rw [eo 10 (by decide), ← hS, bi_bwj, bi_eq ⟨by omega, by omega⟩]
      have e100 : bi (bw (bw (bw (bw (bw (bw s1 12 0 0) 71 (bi σ 12 17) x) 72 (bi σ 12 17) y) 73 (bi σ 12 17) z) 74 (bi σ 12 17) v) 12 17 (bi σ 12 17 + 1)) 10 0 = bi σ 10 0 := by
        rw [eo 10 (by decide), ← hS, bi_bwj, bi_nj (by decide) (by decide) (by decide), bi_ne (by decide), bi_ne (by decide), bi_ne (by decide), bi_ne (by decide)]
      have e70 : ∀ k, bi (bw (bw (bw (bw (bw (bw s1 12 0 0) 71 (bi σ 12 17) x) 72 (bi σ 12 17) y) 73 (bi σ 12 17) z) 74 (bi σ 12 17) v) 12 17 (bi σ 12 17 + 1)) 70 k = bi σ 70 k := fun k => by rw [eo 70 (by decide), es 70 (by decide)]
      refine ⟨⟨by rw [e1]; omega, by rw [e1]; omega, by rw [e1, e10]⟩, fun k k0 k1 => ?_, fun k k0 k1 => by rw [e70]; exact t5 k k0 k1, by rw [e100, e70, e70, e70, e70]; exact t6⟩
      rw [e1] at k1
      rw [e52 k k0, e53 k k0, e54 k k0, e55 k k0, e71 k k0, e72 k k0, e73 k k0, e74 k k0]
      by_cases w : k = bi σ 12 17
      · simp only [if_pos w]
        exact ⟨⟨trivial, by omega, by omega⟩, ⟨trivial, by omega, by omega⟩, ⟨trivial, by omega, by omega⟩, trivial, by omega, by omega⟩
      · simp only [if_neg w]
        exact t4 k k0 (by omega)
    · show s1.2.2.2.2.1 ≤ _
      rw [← hS]
      exact Nat.le_succ _
    · show s1.2.2.2.2.2 ≤ _
      rw [← hS]
      exact Nat.le_add_right _ _
end

/-! segments of methods 172,276,173,277,269,19, by program (wip/whole/gen13.py): from a cut of a method on to the next cuts -/
theorem sq172_0 {lvl : Nat} {C : bCall} {Q : bPost} {A : bPt → Prop} (hC : bMono C) (hA : bClosed lvl bm172 C Q A) {x1 : Int} {σ : bSt}  (h_x1 : bRg x1)
  (h : ((x1 = 0 → (C 19 [.ref 1] σ (bRn (fun r4 s2 => Q (.inl (some (.int (bn r4)))) s2)))) ∧ (¬ x1 = 0 → (C 19 [.ref 257] σ (bRn (fun r8 s6 => Q (.inl (some (.int (bn r8)))) s6)))))) : A (0, [.ref 11, .int (bn x1)], [], σ) := by
  refine bGo hA 0 0 (0, .iload_n 1, 1, 1, 0, [1], []) rfl rfl rfl ?_
  refine bGo hA 0 1 (1, .ifCond .eq (16), 3, 2, 7, [], []) rfl rfl rfl ?_
  refine bB_eq0 (x := x1) h_x1 (fun c1 => ?_) (fun c1 => ?_)
  · refine bGo hA 0 7 (17, .aload_n 0, 1, 8, 0, [0], []) rfl rfl rfl ?_
    refine bGo hA 0 8 (18, .getfield 51, 3, 9, 0, [11, 5, 3, 5, 0, 0], []) rfl rfl rfl ?_
    refine ⟨rfl, ?_⟩
    refine bGo hA 0 9 (21, .getfield 225, 3, 10, 0, [5, 2, 3, 1, 0, 0], []) rfl rfl rfl ?_
    refine ⟨rfl, ?_⟩
    refine bGo hA 0 10 (24, .invokevirtual 222, 3, 11, 0, [0, 1, 19, 0], []) rfl rfl rfl ?_
    refine ⟨rfl, ?_⟩
    refine hC _ _ _ _ _ (bRn_e (fun r4 s2 q5 k3 => ?_)) (h.1 c1)
    show A (11, [.ref 11, .int (bn x1)], [.int (bn r4)], s2)
    refine bGo hA 0 11 (27, .ireturn, 1, 0, 0, [1], []) rfl rfl rfl ?_
    exact k3
  · refine bGo hA 0 2 (4, .aload_n 0, 1, 3, 0, [0], []) rfl rfl rfl ?_
    refine bGo hA 0 3 (5, .getfield 51, 3, 4, 0, [11, 5, 3, 5, 0, 0], []) rfl rfl rfl ?_
    refine ⟨rfl, ?_⟩
    refine bGo hA 0 4 (8, .getfield 213, 3, 5, 0, [5, 3, 3, 1, 0, 1], []) rfl rfl rfl ?_
    refine ⟨rfl, ?_⟩
    refine bGo hA 0 5 (11, .invokevirtual 222, 3, 6, 0, [0, 1, 19, 0], []) rfl rfl rfl ?_
    refine ⟨rfl, ?_⟩
    refine hC _ _ _ _ _ (bRn_e (fun r8 s6 q9 k7 => ?_)) (h.2 c1)
    show A (6, [.ref 11, .int (bn x1)], [.int (bn r8)], s6)
    refine bGo hA 0 6 (14, .goto (13), 3, 7, 11, [], []) rfl rfl rfl ?_
    refine bGo hA 0 11 (27, .ireturn, 1, 0, 0, [1], []) rfl rfl rfl ?_
    exact k7

theorem sq276_0 {lvl : Nat} {C : bCall} {Q : bPost} {A : bPt → Prop} (hC : bMono C) (hA : bClosed lvl bm276 C Q A) {x1 : Int} {σ : bSt}  (h_x1 : bRg x1)
  (h : (C 269 [.ref 12, .int (bn x1)] σ (bRn (fun r3 s1 => ((x1 = 0 → A (10, [.ref 12, .int (bn x1), .int (bn r3), .int (bn 0)], [], s1)) ∧ (¬ x1 = 0 → A (10, [.ref 12, .int (bn x1), .int (bn r3), .int (bn 32)], [], s1))))))) : A (0, [.ref 12, .int (bn x1), .float 0, .float 0], [], σ) := by
  refine bGo hA 0 0 (0, .aload_n 0, 1, 1, 0, [0], []) rfl rfl rfl ?_
  refine bGo hA 0 1 (1, .iload_n 1, 1, 2, 0, [1], []) rfl rfl rfl ?_
  refine bGo hA 0 2 (2, .invokevirtual 473, 3, 3, 0, [0, 12, 269, 1], []) rfl rfl rfl ?_
  refine ⟨rfl, ?_⟩
  refine hC _ _ _ _ _ (bRn_e (fun r3 s1 q4 k2 => ?_)) h
  show A (3, [.ref 12, .int (bn x1), .float 0, .float 0], [.int (bn r3)], s1)
  refine bGo hA 0 3 (5, .istore_n 2, 1, 4, 0, [2], []) rfl rfl rfl ?_
  refine bGo hA 0 4 (6, .iload_n 1, 1, 5, 0, [1], []) rfl rfl rfl ?_
  refine bGo hA 0 5 (7, .ifCond .eq (8), 3, 6, 8, [], []) rfl rfl rfl ?_
  refine bB_eq0 (x := x1) h_x1 (fun c5 => ?_) (fun c5 => ?_)
  · refine bGo hA 0 8 (15, .iconst (0), 1, 9, 0, [], [(0, 0)]) rfl rfl rfl ?_
    refine bEqI bl_0 ?_
    refine bGo hA 0 9 (16, .istore_n 3, 1, 10, 0, [3], []) rfl rfl rfl ?_
    exact (k2.1 c5)
  · refine bGo hA 0 6 (10, .bipush (32), 2, 7, 0, [], [(32, 0)]) rfl rfl rfl ?_
    refine bEqI bl_32 ?_
    refine bGo hA 0 7 (12, .goto (4), 3, 8, 9, [], []) rfl rfl rfl ?_
    refine bGo hA 0 9 (16, .istore_n 3, 1, 10, 0, [3], []) rfl rfl rfl ?_
    exact (k2.2 c5)

theorem sq276_10 {lvl : Nat} {C : bCall} {Q : bPost} {A : bPt → Prop} (hC : bMono C) (hA : bClosed lvl bm276 C Q A) {l1 : Int} {l2 : Int} {l3 : Int} {σ : bSt}  (h_l1 : bRg l1) (h_l2 : bRg l2) (h_l3 : bRg l3)
  (h : ((l1 = 0 → ((l3 < 32 → ((0 ≤ l3 ∧ l3 < 80) ∧ (bRg (l3 + 1) ∧ A (10, [.ref 12, .int (bn l1), .int (bn l2), .int (bn (l3 + 1))], [], (bw σ 121 l3 0))))) ∧ (¬ l3 < 32 → (C 198 [.ref 12, .int (bn l2)] σ (bRn (fun r5 s3 => Q (.inl (some (.int (bn r5)))) s3)))))) ∧ (¬ l1 = 0 → ((l3 < 80 → ((0 ≤ l3 ∧ l3 < 80) ∧ (bRg (l3 + 1) ∧ A (10, [.ref 12, .int (bn l1), .int (bn l2), .int (bn (l3 + 1))], [], (bw σ 121 l3 0))))) ∧ (¬ l3 < 80 → (C 198 [.ref 12, .int (bn l2)] σ (bRn (fun r10 s8 => Q (.inl (some (.int (bn r10)))) s8)))))))) : A (10, [.ref 12, .int (bn l1), .int (bn l2), .int (bn l3)], [], σ) := by
  refine bGo hA 0 10 (17, .iload_n 3, 1, 11, 0, [3], []) rfl rfl rfl ?_
  refine bGo hA 0 11 (18, .iload_n 1, 1, 12, 0, [1], []) rfl rfl rfl ?_
  refine bGo hA 0 12 (19, .ifCond .eq (8), 3, 13, 15, [], []) rfl rfl rfl ?_
  refine bB_eq0 (x := l1) h_l1 (fun c1 => ?_) (fun c1 => ?_)
  · refine bGo hA 0 15 (27, .bipush (32), 2, 16, 0, [], [(32, 0)]) rfl rfl rfl ?_
    refine bEqI bl_32 ?_
    refine bGo hA 1 0 (29, .if_icmp .ge (16), 3, 17, 24, [], []) rfl rfl rfl ?_
    refine bB_lt (x := l3) (y := 32) h_l3 (by decide : bRg 32) (fun c2 => ?_) (fun c2 => ?_)
    · refine bGo hA 1 1 (32, .aload_n 0, 1, 18, 0, [0], []) rfl rfl rfl ?_
      refine bGo hA 1 2 (33, .getfield 206, 3, 19, 0, [12, 74, 3, 121, 1, 0], []) rfl rfl rfl ?_
      refine ⟨rfl, ?_⟩
      refine bGo hA 1 3 (36, .iload_n 3, 1, 20, 0, [3], []) rfl rfl rfl ?_
      refine bGo hA 1 4 (37, .iconst (0), 1, 21, 0, [], [(0, 0)]) rfl rfl rfl ?_
      refine bEqI bl_0 ?_
      refine bGo hA 1 5 (38, .iastore, 1, 22, 0, [], []) rfl rfl rfl ?_
      refine ⟨rfl, (bIxP (x := l3) (n := 80) h_l3 ((h.1 c1).1 c2).1), by decide, ?_⟩
      refine bEqS (x := l3) h_l3 ?_
      refine bGo hA 1 6 (39, .iinc 3 (1), 3, 23, 0, [3], [(1, 0)]) rfl rfl rfl ?_
      refine bEqC (fun v => A (23, [.ref 12, .int (bn l1), .int (bn l2), .int v], [], (bw σ 121 l3 0))) ((congrArg (fun w => bn l3 + w) bl_1).trans (bn_add l3 1)) ?_
      refine bGo hA 1 7 (42, .goto (-25), 3, 24, 10, [], []) rfl rfl rfl ?_
      exact ((h.1 c1).1 c2).2.2
    · refine bGo hA 1 8 (45, .aload_n 0, 1, 25, 0, [0], []) rfl rfl rfl ?_
      refine bGo hA 1 9 (46, .iload_n 2, 1, 26, 0, [2], []) rfl rfl rfl ?_
      refine bGo hA 1 10 (47, .invokevirtual 428, 3, 27, 0, [0, 12, 198, 1], []) rfl rfl rfl ?_
      refine ⟨rfl, ?_⟩
      refine hC _ _ _ _ _ (bRn_e (fun r5 s3 q6 k4 => ?_)) ((h.1 c1).2 c2)
      show A (27, [.ref 12, .int (bn l1), .int (bn l2), .int (bn l3)], [.int (bn r5)], s3)
      refine bGo hA 1 11 (50, .ireturn, 1, 0, 0, [1], []) rfl rfl rfl ?_
      exact k4
  · refine bGo hA 0 13 (22, .bipush (80), 2, 14, 0, [], [(80, 0)]) rfl rfl rfl ?_
    refine bEqI bl_80 ?_
    refine bGo hA 0 14 (24, .goto (5), 3, 15, 16, [], []) rfl rfl rfl ?_
    refine bGo hA 1 0 (29, .if_icmp .ge (16), 3, 17, 24, [], []) rfl rfl rfl ?_
    refine bB_lt (x := l3) (y := 80) h_l3 (by decide : bRg 80) (fun c7 => ?_) (fun c7 => ?_)
    · refine bGo hA 1 1 (32, .aload_n 0, 1, 18, 0, [0], []) rfl rfl rfl ?_
      refine bGo hA 1 2 (33, .getfield 206, 3, 19, 0, [12, 74, 3, 121, 1, 0], []) rfl rfl rfl ?_
      refine ⟨rfl, ?_⟩
      refine bGo hA 1 3 (36, .iload_n 3, 1, 20, 0, [3], []) rfl rfl rfl ?_
      refine bGo hA 1 4 (37, .iconst (0), 1, 21, 0, [], [(0, 0)]) rfl rfl rfl ?_
      refine bEqI bl_0 ?_
      refine bGo hA 1 5 (38, .iastore, 1, 22, 0, [], []) rfl rfl rfl ?_
      refine ⟨rfl, (bIxP (x := l3) (n := 80) h_l3 ((h.2 c1).1 c7).1), by decide, ?_⟩
      refine bEqS (x := l3) h_l3 ?_
      refine bGo hA 1 6 (39, .iinc 3 (1), 3, 23, 0, [3], [(1, 0)]) rfl rfl rfl ?_
      refine bEqC (fun v => A (23, [.ref 12, .int (bn l1), .int (bn l2), .int v], [], (bw σ 121 l3 0))) ((congrArg (fun w => bn l3 + w) bl_1).trans (bn_add l3 1)) ?_
      refine bGo hA 1 7 (42, .goto (-25), 3, 24, 10, [], []) rfl rfl rfl ?_
      exact ((h.2 c1).1 c7).2.2
    · refine bGo hA 1 8 (45, .aload_n 0, 1, 25, 0, [0], []) rfl rfl rfl ?_
      refine bGo hA 1 9 (46, .iload_n 2, 1, 26, 0, [2], []) rfl rfl rfl ?_
      refine bGo hA 1 10 (47, .invokevirtual 428, 3, 27, 0, [0, 12, 198, 1], []) rfl rfl rfl ?_
      refine ⟨rfl, ?_⟩
      refine hC _ _ _ _ _ (bRn_e (fun r10 s8 q11 k9 => ?_)) ((h.2 c1).2 c7)
      show A (27, [.ref 12, .int (bn l1), .int (bn l2), .int (bn l3)], [.int (bn r10)], s8)
      refine bGo hA 1 11 (50, .ireturn, 1, 0, 0, [1], []) rfl rfl rfl ?_
      exact k9

theorem sq173_0 {lvl : Nat} {C : bCall} {Q : bPost} {A : bPt → Prop} (hC : bMono C) (hA : bClosed lvl bm173 C Q A) {x1 : Int} {σ : bSt}  (h_x1 : bRg x1)
  (h : ((x1 = 0 → Q (.inl (some (.int (bn (bi σ 1 0))))) σ) ∧ (¬ x1 = 0 → Q (.inl (some (.int (bn (bi σ 257 0))))) σ))) : A (0, [.ref 11, .int (bn x1)], [], σ) := by
  refine bGo hA 0 0 (0, .iload_n 1, 1, 1, 0, [1], []) rfl rfl rfl ?_
  refine bGo hA 0 1 (1, .ifCond .eq (16), 3, 2, 7, [], []) rfl rfl rfl ?_
  refine bB_eq0 (x := x1) h_x1 (fun c1 => ?_) (fun c1 => ?_)
  · refine bGo hA 0 7 (17, .aload_n 0, 1, 8, 0, [0], []) rfl rfl rfl ?_
    refine bGo hA 0 8 (18, .getfield 51, 3, 9, 0, [11, 5, 3, 5, 0, 0], []) rfl rfl rfl ?_
    refine ⟨rfl, ?_⟩
    refine bGo hA 0 9 (21, .getfield 225, 3, 10, 0, [5, 2, 3, 1, 0, 0], []) rfl rfl rfl ?_
    refine ⟨rfl, ?_⟩
    refine bGo hA 0 10 (24, .getfield 228, 3, 11, 0, [1, 0, 0, 0, 0, 0], []) rfl rfl rfl ?_
    refine ⟨rfl, ?_⟩
    refine bEqI (bn_bi σ 1 0) ?_
    refine bGo hA 0 11 (27, .ireturn, 1, 0, 0, [1], []) rfl rfl rfl ?_
    exact (h.1 c1)
  · refine bGo hA 0 2 (4, .aload_n 0, 1, 3, 0, [0], []) rfl rfl rfl ?_
    refine bGo hA 0 3 (5, .getfield 51, 3, 4, 0, [11, 5, 3, 5, 0, 0], []) rfl rfl rfl ?_
    refine ⟨rfl, ?_⟩
    refine bGo hA 0 4 (8, .getfield 213, 3, 5, 0, [5, 3, 3, 1, 0, 1], []) rfl rfl rfl ?_
    refine ⟨rfl, ?_⟩
    refine bGo hA 0 5 (11, .getfield 228, 3, 6, 0, [1, 0, 0, 0, 0, 0], []) rfl rfl rfl ?_
    refine ⟨rfl, ?_⟩
    refine bEqI (bn_bi σ 257 0) ?_
    refine bGo hA 0 6 (14, .goto (13), 3, 7, 11, [], []) rfl rfl rfl ?_
    refine bGo hA 0 11 (27, .ireturn, 1, 0, 0, [1], []) rfl rfl rfl ?_
    exact (h.2 c1)

theorem sq277_0 {lvl : Nat} {C : bCall} {Q : bPost} {A : bPt → Prop} (hC : bMono C) (hA : bClosed lvl bm277 C Q A) {x1 : Int} {σ : bSt}  (h_x1 : bRg x1)
  (h : (C 269 [.ref 12, .int (bn x1)] σ (bRn (fun r3 s1 => (C 198 [.ref 12, .int (bn r3)] s1 (bRn (fun r7 s5 => Q (.inl (some (.int (bn r7)))) s5))))))) : A (0, [.ref 12, .int (bn x1)], [], σ) := by
  refine bGo hA 0 0 (0, .aload_n 0, 1, 1, 0, [0], []) rfl rfl rfl ?_
  refine bGo hA 0 1 (1, .aload_n 0, 1, 2, 0, [0], []) rfl rfl rfl ?_
  refine bGo hA 0 2 (2, .iload_n 1, 1, 3, 0, [1], []) rfl rfl rfl ?_
  refine bGo hA 0 3 (3, .invokevirtual 473, 3, 4, 0, [0, 12, 269, 1], []) rfl rfl rfl ?_
  refine ⟨rfl, ?_⟩
  refine hC _ _ _ _ _ (bRn_e (fun r3 s1 q4 k2 => ?_)) h
  show A (4, [.ref 12, .int (bn x1)], [.int (bn r3), .ref 12], s1)
  refine bGo hA 0 4 (6, .invokevirtual 428, 3, 5, 0, [0, 12, 198, 1], []) rfl rfl rfl ?_
  refine ⟨rfl, ?_⟩
  refine hC _ _ _ _ _ (bRn_e (fun r7 s5 q8 k6 => ?_)) k2
  show A (5, [.ref 12, .int (bn x1)], [.int (bn r7)], s5)
  refine bGo hA 0 5 (9, .ireturn, 1, 0, 0, [1], []) rfl rfl rfl ?_
  exact k6

theorem sq269_0 {lvl : Nat} {C : bCall} {Q : bPost} {A : bPt → Prop} (hC : bMono C) (hA : bClosed lvl bm269 C Q A) {x1 : Int} {σ : bSt}  (h_x1 : bRg x1)
  (h : ((x1 = 0 → A (8, [.ref 12, .int (bn x1), .int (bn 0), .int (bn 0)], [], σ)) ∧ (¬ x1 = 0 → A (8, [.ref 12, .int (bn x1), .int (bn 0), .int (bn 32)], [], σ)))) : A (0, [.ref 12, .int (bn x1), .float 0, .float 0], [], σ) := by
  refine bGo hA 0 0 (0, .iconst (0), 1, 1, 0, [], [(0, 0)]) rfl rfl rfl ?_
  refine bEqI bl_0 ?_
  refine bGo hA 0 1 (1, .istore_n 2, 1, 2, 0, [2], []) rfl rfl rfl ?_
  refine bGo hA 0 2 (2, .iload_n 1, 1, 3, 0, [1], []) rfl rfl rfl ?_
  refine bGo hA 0 3 (3, .ifCond .eq (8), 3, 4, 6, [], []) rfl rfl rfl ?_
  refine bB_eq0 (x := x1) h_x1 (fun c1 => ?_) (fun c1 => ?_)
  · refine bGo hA 0 6 (11, .iconst (0), 1, 7, 0, [], [(0, 0)]) rfl rfl rfl ?_
    refine bEqI bl_0 ?_
    refine bGo hA 0 7 (12, .istore_n 3, 1, 8, 0, [3], []) rfl rfl rfl ?_
    exact (h.1 c1)
  · refine bGo hA 0 4 (6, .bipush (32), 2, 5, 0, [], [(32, 0)]) rfl rfl rfl ?_
    refine bEqI bl_32 ?_
    refine bGo hA 0 5 (8, .goto (4), 3, 6, 7, [], []) rfl rfl rfl ?_
    refine bGo hA 0 7 (12, .istore_n 3, 1, 8, 0, [3], []) rfl rfl rfl ?_
    exact (h.2 c1)

theorem sq269_8 {lvl : Nat} {C : bCall} {Q : bPost} {A : bPt → Prop} (hC : bMono C) (hA : bClosed lvl bm269 C Q A) {l1 : Int} {l2 : Int} {l3 : Int} {σ : bSt}  (h_l1 : bRg l1) (h_l2 : bRg l2) (h_l3 : bRg l3)
  (h : ((l1 = 0 → ((l3 < 32 → ((0 ≤ l3 ∧ l3 < 80) ∧ (((0 : Int) < (bi σ 121 l3) → (bRg (l2 + 1) ∧ (bRg (l3 + 1) ∧ A (8, [.ref 12, .int (bn l1), .int (bn (l2 + 1)), .int (bn (l3 + 1))], [], σ)))) ∧ (¬ (0 : Int) < (bi σ 121 l3) → (bRg (l2 + 0) ∧ (bRg (l3 + 1) ∧ A (8, [.ref 12, .int (bn l1), .int (bn (l2 + 0)), .int (bn (l3 + 1))], [], σ))))))) ∧ (¬ l3 < 32 → Q (.inl (some (.int (bn l2)))) σ))) ∧ (¬ l1 = 0 → ((l3 < 80 → ((0 ≤ l3 ∧ l3 < 80) ∧ (((0 : Int) < (bi σ 121 l3) → (bRg (l2 + 1) ∧ (bRg (l3 + 1) ∧ A (8, [.ref 12, .int (bn l1), .int (bn (l2 + 1)), .int (bn (l3 + 1))], [], σ)))) ∧ (¬ (0 : Int) < (bi σ 121 l3) → (bRg (l2 + 0) ∧ (bRg (l3 + 1) ∧ A (8, [.ref 12, .int (bn l1), .int (bn (l2 + 0)), .int (bn (l3 + 1))], [], σ))))))) ∧ (¬ l3 < 80 → Q (.inl (some (.int (bn l2)))) σ))))) : A (8, [.ref 12, .int (bn l1), .int (bn l2), .int (bn l3)], [], σ) := by
  refine bGo hA 0 8 (13, .iload_n 3, 1, 9, 0, [3], []) rfl rfl rfl ?_
  refine bGo hA 0 9 (14, .iload_n 1, 1, 10, 0, [1], []) rfl rfl rfl ?_
  refine bGo hA 0 10 (15, .ifCond .eq (8), 3, 11, 13, [], []) rfl rfl rfl ?_
  refine bB_eq0 (x := l1) h_l1 (fun c1 => ?_) (fun c1 => ?_)
  · refine bGo hA 0 13 (23, .bipush (32), 2, 14, 0, [], [(32, 0)]) rfl rfl rfl ?_
    refine bEqI bl_32 ?_
    refine bGo hA 0 14 (25, .if_icmp .ge (26), 3, 15, 28, [], []) rfl rfl rfl ?_
    refine bB_lt (x := l3) (y := 32) h_l3 (by decide : bRg 32) (fun c2 => ?_) (fun c2 => ?_)
    · refine bGo hA 0 15 (28, .iload_n 2, 1, 16, 0, [2], []) rfl rfl rfl ?_
      refine bGo hA 1 0 (29, .aload_n 0, 1, 17, 0, [0], []) rfl rfl rfl ?_
      refine bGo hA 1 1 (30, .getfield 206, 3, 18, 0, [12, 74, 3, 121, 1, 0], []) rfl rfl rfl ?_
      refine ⟨rfl, ?_⟩
      refine bGo hA 1 2 (33, .iload_n 3, 1, 19, 0, [3], []) rfl rfl rfl ?_
      refine bGo hA 1 3 (34, .iaload, 1, 20, 0, [], []) rfl rfl rfl ?_
      refine ⟨rfl, (bIxP (x := l3) (n := 80) h_l3 ((h.1 c1).1 c2).1), ?_⟩
      refine bEqL (x := l3) h_l3 ?_
      refine bGo hA 1 4 (35, .ifCond .le (7), 3, 21, 23, [], []) rfl rfl rfl ?_
      refine bB_gt0 (x := (bi σ 121 l3)) (bi_rg _ _ _) (fun c3 => ?_) (fun c3 => ?_)
      · refine bGo hA 1 5 (38, .iconst (1), 1, 22, 0, [], [(1, 0)]) rfl rfl rfl ?_
        refine bEqI bl_1 ?_
        refine bGo hA 1 6 (39, .goto (4), 3, 23, 24, [], []) rfl rfl rfl ?_
        refine bGo hA 1 8 (43, .iadd, 1, 25, 0, [], []) rfl rfl rfl ?_
        refine bEqI (bn_add l2 1) ?_
        refine bGo hA 1 9 (44, .istore_n 2, 1, 26, 0, [2], []) rfl rfl rfl ?_
        refine bGo hA 1 10 (45, .iinc 3 (1), 3, 27, 0, [3], [(1, 0)]) rfl rfl rfl ?_
        refine bEqC (fun v => A (27, [.ref 12, .int (bn l1), .int (bn (l2 + 1)), .int v], [], σ)) ((congrArg (fun w => bn l3 + w) bl_1).trans (bn_add l3 1)) ?_
        refine bGo hA 1 11 (48, .goto (-35), 3, 28, 8, [], []) rfl rfl rfl ?_
        exact (((h.1 c1).1 c2).2.1 c3).2.2
      · refine bGo hA 1 7 (42, .iconst (0), 1, 24, 0, [], [(0, 0)]) rfl rfl rfl ?_
        refine bEqI bl_0 ?_
        refine bGo hA 1 8 (43, .iadd, 1, 25, 0, [], []) rfl rfl rfl ?_
        refine bEqI (bn_add l2 0) ?_
        refine bGo hA 1 9 (44, .istore_n 2, 1, 26, 0, [2], []) rfl rfl rfl ?_
        refine bGo hA 1 10 (45, .iinc 3 (1), 3, 27, 0, [3], [(1, 0)]) rfl rfl rfl ?_
        refine bEqC (fun v => A (27, [.ref 12, .int (bn l1), .int (bn (l2 + 0)), .int v], [], σ)) ((congrArg (fun w => bn l3 + w) bl_1).trans (bn_add l3 1)) ?_
        refine bGo hA 1 11 (48, .goto (-35), 3, 28, 8, [], []) rfl rfl rfl ?_
        exact (((h.1 c1).1 c2).2.2 c3).2.2
    · refine bGo hA 1 12 (51, .iload_n 2, 1, 29, 0, [2], []) rfl rfl rfl ?_
      refine bGo hA 1 13 (52, .ireturn, 1, 0, 0, [1], []) rfl rfl rfl ?_
      exact ((h.1 c1).2 c2)
  · refine bGo hA 0 11 (18, .bipush (80), 2, 12, 0, [], [(80, 0)]) rfl rfl rfl ?_
    refine bEqI bl_80 ?_
    refine bGo hA 0 12 (20, .goto (5), 3, 13, 14, [], []) rfl rfl rfl ?_
    refine bGo hA 0 14 (25, .if_icmp .ge (26), 3, 15, 28, [], []) rfl rfl rfl ?_
    refine bB_lt (x := l3) (y := 80) h_l3 (by decide : bRg 80) (fun c4 => ?_) (fun c4 => ?_)
    · refine bGo hA 0 15 (28, .iload_n 2, 1, 16, 0, [2], []) rfl rfl rfl ?_
      refine bGo hA 1 0 (29, .aload_n 0, 1, 17, 0, [0], []) rfl rfl rfl ?_
      refine bGo hA 1 1 (30, .getfield 206, 3, 18, 0, [12, 74, 3, 121, 1, 0], []) rfl rfl rfl ?_
      refine ⟨rfl, ?_⟩
      refine bGo hA 1 2 (33, .iload_n 3, 1, 19, 0, [3], []) rfl rfl rfl ?_
      refine bGo hA 1 3 (34, .iaload, 1, 20, 0, [], []) rfl rfl rfl ?_
      refine ⟨rfl, (bIxP (x := l3) (n := 80) h_l3 ((h.2 c1).1 c4).1), ?_⟩
      refine bEqL (x := l3) h_l3 ?_
      refine bGo hA 1 4 (35, .ifCond .le (7), 3, 21, 23, [], []) rfl rfl rfl ?_
      refine bB_gt0 (x := (bi σ 121 l3)) (bi_rg _ _ _) (fun c5 => ?_) (fun c5 => ?_)
      · refine bGo hA 1 5 (38, .iconst (1), 1, 22, 0, [], [(1, 0)]) rfl rfl rfl ?_
        refine bEqI bl_1 ?_
        refine bGo hA 1 6 (39, .goto (4), 3, 23, 24, [], []) rfl rfl rfl ?_
        refine bGo hA 1 8 (43, .iadd, 1, 25, 0, [], []) rfl rfl rfl ?_
        refine bEqI (bn_add l2 1) ?_
        refine bGo hA 1 9 (44, .istore_n 2, 1, 26, 0, [2], []) rfl rfl rfl ?_
        refine bGo hA 1 10 (45, .iinc 3 (1), 3, 27, 0, [3], [(1, 0)]) rfl rfl rfl ?_
        refine bEqC (fun v => A (27, [.ref 12, .int (bn l1), .int (bn (l2 + 1)), .int v], [], σ)) ((congrArg (fun w => bn l3 + w) bl_1).trans (bn_add l3 1)) ?_
        refine bGo hA 1 11 (48, .goto (-35), 3, 28, 8, [], []) rfl rfl rfl ?_
        exact (((h.2 c1).1 c4).2.1 c5).2.2
      · refine bGo hA 1 7 (42, .iconst (0), 1, 24, 0, [], [(0, 0)]) rfl rfl rfl ?_
        refine bEqI bl_0 ?_
        refine bGo hA 1 8 (43, .iadd, 1, 25, 0, [], []) rfl rfl rfl ?_
        refine bEqI (bn_add l2 0) ?_
        refine bGo hA 1 9 (44, .istore_n 2, 1, 26, 0, [2], []) rfl rfl rfl ?_
        refine bGo hA 1 10 (45, .iinc 3 (1), 3, 27, 0, [3], [(1, 0)]) rfl rfl rfl ?_
        refine bEqC (fun v => A (27, [.ref 12, .int (bn l1), .int (bn (l2 + 0)), .int v], [], σ)) ((congrArg (fun w => bn l3 + w) bl_1).trans (bn_add l3 1)) ?_
        refine bGo hA 1 11 (48, .goto (-35), 3, 28, 8, [], []) rfl rfl rfl ?_
        exact (((h.2 c1).1 c4).2.2 c5).2.2
    · refine bGo hA 1 12 (51, .iload_n 2, 1, 29, 0, [2], []) rfl rfl rfl ?_
      refine bGo hA 1 13 (52, .ireturn, 1, 0, 0, [1], []) rfl rfl rfl ?_
      exact ((h.2 c1).2 c4)

theorem sq19_0 {lvl : Nat} {C : bCall} {Q : bPost} {A : bPt → Prop} (hC : bMono C) (hA : bClosed lvl bm19 C Q A) {a0 : Nat} {σ : bSt} (h_a0 : a0 % 256 = 1) 
  (h : Q (.inl (some (.int (bn (bi σ a0 0))))) (bw σ a0 0 0)) : A (0, [.ref a0, .float 0], [], σ) := by
  refine bGo hA 0 0 (0, .aload_n 0, 1, 1, 0, [0], []) rfl rfl rfl ?_
  refine bGo hA 0 1 (1, .getfield 21, 3, 2, 0, [1, 0, 0, 0, 0, 0], []) rfl rfl rfl ?_
  refine ⟨h_a0, ?_⟩
  refine bEqI (bn_bi σ a0 0) ?_
  refine bGo hA 0 2 (4, .istore_n 1, 1, 3, 0, [1], []) rfl rfl rfl ?_
  refine bGo hA 0 3 (5, .aload_n 0, 1, 4, 0, [0], []) rfl rfl rfl ?_
  refine bGo hA 0 4 (6, .iconst (0), 1, 5, 0, [], [(0, 0)]) rfl rfl rfl ?_
  refine bEqI bl_0 ?_
  refine bGo hA 0 5 (7, .putfield 21, 3, 6, 0, [1, 0, 0, 0, 0, 0], []) rfl rfl rfl ?_
  refine ⟨h_a0, ?_⟩
  refine bGo hA 0 6 (10, .iload_n 1, 1, 7, 0, [1], []) rfl rfl rfl ?_
  refine bGo hA 0 7 (11, .ireturn, 1, 0, 0, [1], []) rfl rfl rfl ?_
  exact h


/-! segments of methods 214-221, by program (wip/whole/gen13.py): from a cut of a method on to the next cuts -/
theorem sq214_0 {lvl : Nat} {C : bCall} {Q : bPost} {A : bPt → Prop} (hC : bMono C) (hA : bClosed lvl bm214 C Q A) {x1 : Int} {σ : bSt}  (h_x1 : bRg x1)
  (h : A (5, [.ref 12, .int (bn x1), .int (bn 0), .float 0, .float 0], [], (bw σ 12 7 0))) : A (0, [.ref 12, .int (bn x1), .float 0, .float 0, .float 0], [], σ) := by
  refine bGo hA 0 0 (0, .aload_n 0, 1, 1, 0, [0], []) rfl rfl rfl ?_
  refine bGo hA 0 1 (1, .iconst (0), 1, 2, 0, [], [(0, 0)]) rfl rfl rfl ?_
  refine bEqI bl_0 ?_
  refine bGo hA 0 2 (2, .putfield 356, 3, 3, 0, [12, 7, 0, 0, 0, 0], []) rfl rfl rfl ?_
  refine ⟨rfl, ?_⟩
  refine bGo hA 0 3 (5, .iconst (0), 1, 4, 0, [], [(0, 0)]) rfl rfl rfl ?_
  refine bEqI bl_0 ?_
  refine bGo hA 0 4 (6, .istore_n 2, 1, 5, 0, [2], []) rfl rfl rfl ?_
  exact h

theorem sq214_5 {lvl : Nat} {C : bCall} {Q : bPost} {A : bPt → Prop} (hC : bMono C) (hA : bClosed lvl bm214 C Q A) {l1 : Int} {l2 : Int} {v3 : Value} {v4 : Value} {σ : bSt}  (h_l1 : bRg l1) (h_l2 : bRg l2)
  (h : ((l2 < 6 → ((0 ≤ l2 ∧ l2 < 6) ∧ (bRg (l2 + 1) ∧ A (5, [.ref 12, .int (bn l1), .int (bn (l2 + 1)), v3, v4], [], (bw σ 65 l2 0))))) ∧ (¬ l2 < 6 → (C 215 [.ref 12, .int (bn l1)] (bw σ 69 0 l1) (bRv (fun s2 => A (25, [.ref 12, .int (bn l1), .int (bn 0), v3, v4], [], s2))))))) : A (5, [.ref 12, .int (bn l1), .int (bn l2), v3, v4], [], σ) := by
  refine bGo hA 0 5 (7, .iload_n 2, 1, 6, 0, [2], []) rfl rfl rfl ?_
  refine bGo hA 0 6 (8, .bipush (6), 2, 7, 0, [], [(6, 0)]) rfl rfl rfl ?_
  refine bEqI bl_6 ?_
  refine bGo hA 0 7 (10, .if_icmp .ge (16), 3, 8, 15, [], []) rfl rfl rfl ?_
  refine bB_lt (x := l2) (y := 6) h_l2 (by decide : bRg 6) (fun c1 => ?_) (fun c1 => ?_)
  · refine bGo hA 0 8 (13, .aload_n 0, 1, 9, 0, [0], []) rfl rfl rfl ?_
    refine bGo hA 0 9 (14, .getfield 38, 3, 10, 0, [12, 11, 3, 65, 1, 0], []) rfl rfl rfl ?_
    refine ⟨rfl, ?_⟩
    refine bGo hA 0 10 (17, .iload_n 2, 1, 11, 0, [2], []) rfl rfl rfl ?_
    refine bGo hA 0 11 (18, .iconst (0), 1, 12, 0, [], [(0, 0)]) rfl rfl rfl ?_
    refine bEqI bl_0 ?_
    refine bGo hA 0 12 (19, .iastore, 1, 13, 0, [], []) rfl rfl rfl ?_
    refine ⟨rfl, (bIxP (x := l2) (n := 6) h_l2 (h.1 c1).1), by decide, ?_⟩
    refine bEqS (x := l2) h_l2 ?_
    refine bGo hA 0 13 (20, .iinc 2 (1), 3, 14, 0, [2], [(1, 0)]) rfl rfl rfl ?_
    refine bEqC (fun v => A (14, [.ref 12, .int (bn l1), .int v, v3, v4], [], (bw σ 65 l2 0))) ((congrArg (fun w => bn l2 + w) bl_1).trans (bn_add l2 1)) ?_
    refine bGo hA 0 14 (23, .goto (-16), 3, 15, 5, [], []) rfl rfl rfl ?_
    exact (h.1 c1).2.2
  · refine bGo hA 0 15 (26, .iconst (0), 1, 16, 0, [], [(0, 0)]) rfl rfl rfl ?_
    refine bEqI bl_0 ?_
    refine bGo hA 1 0 (27, .istore_n 2, 1, 17, 0, [2], []) rfl rfl rfl ?_
    refine bGo hA 1 1 (28, .aload_n 0, 1, 18, 0, [0], []) rfl rfl rfl ?_
    refine bGo hA 1 2 (29, .getfield 50, 3, 19, 0, [12, 15, 3, 69, 1, 0], []) rfl rfl rfl ?_
    refine ⟨rfl, ?_⟩
    refine bGo hA 1 3 (32, .iconst (0), 1, 20, 0, [], [(0, 0)]) rfl rfl rfl ?_
    refine bEqI bl_0 ?_
    refine bGo hA 1 4 (33, .iload_n 1, 1, 21, 0, [1], []) rfl rfl rfl ?_
    refine bGo hA 1 5 (34, .iastore, 1, 22, 0, [], []) rfl rfl rfl ?_
    refine ⟨rfl, (bIxP (x := 0) (n := 8) (by decide) (by decide)), by decide, ?_⟩
    refine bEqS (x := 0) (by decide : bRg 0) ?_
    refine bGo hA 1 6 (35, .aload_n 0, 1, 23, 0, [0], []) rfl rfl rfl ?_
    refine bGo hA 1 7 (36, .iload_n 1, 1, 24, 0, [1], []) rfl rfl rfl ?_
    refine bGo hA 1 8 (37, .invokevirtual 359, 3, 25, 0, [0, 12, 215, 1], []) rfl rfl rfl ?_
    refine ⟨rfl, ?_⟩
    refine hC _ _ _ _ _ (bRv_e (fun s2 k3 => ?_)) (h.2 c1)
    show A (25, [.ref 12, .int (bn l1), .int (bn 0), v3, v4], [], s2)
    exact k3

theorem sq214_25 {lvl : Nat} {C : bCall} {Q : bPost} {A : bPt → Prop} (hC : bMono C) (hA : bClosed lvl bm214 C Q A) {v1 : Value} {l2 : Int} {v3 : Value} {v4 : Value} {σ : bSt}  (h_l2 : bRg l2)
  (h : ((l2 < 0 → Q (.inl none) σ) ∧ (¬ l2 < 0 → ((0 ≤ l2 ∧ l2 < 8) ∧ ((0 ≤ (bi σ 69 l2) ∧ (bi σ 69 l2) < 6) ∧ (((bi σ 66 (bi σ 69 l2)) < (bi σ 58 (bi σ 69 l2)) → (C 218 [.ref 12, .int (bn (bi σ 69 l2))] σ (bRn (fun r5 s3 => A (46, [.ref 12, v1, .int (bn l2), .int (bn (bi σ 69 l2)), v4], [.int (bn r5)], s3))))) ∧ (¬ (bi σ 66 (bi σ 69 l2)) < (bi σ 58 (bi σ 69 l2)) → A (46, [.ref 12, v1, .int (bn l2), .int (bn (bi σ 69 l2)), v4], [.int (bn (-1))], σ)))))))) : A (25, [.ref 12, v1, .int (bn l2), v3, v4], [], σ) := by
  refine bGo hA 1 9 (40, .iload_n 2, 1, 26, 0, [2], []) rfl rfl rfl ?_
  refine bGo hA 1 10 (41, .ifCond .lt (129), 3, 27, 100, [], []) rfl rfl rfl ?_
  refine bB_lt0 (x := l2) h_l2 (fun c1 => ?_) (fun c1 => ?_)
  · refine bGo hA 6 4 (170, .return_, 1, 0, 0, [0], []) rfl rfl rfl ?_
    exact (h.1 c1)
  · refine bGo hA 1 11 (44, .aload_n 0, 1, 28, 0, [0], []) rfl rfl rfl ?_
    refine bGo hA 1 12 (45, .getfield 50, 3, 29, 0, [12, 15, 3, 69, 1, 0], []) rfl rfl rfl ?_
    refine ⟨rfl, ?_⟩
    refine bGo hA 1 13 (48, .iload_n 2, 1, 30, 0, [2], []) rfl rfl rfl ?_
    refine bGo hA 1 14 (49, .iaload, 1, 31, 0, [], []) rfl rfl rfl ?_
    refine ⟨rfl, (bIxP (x := l2) (n := 8) h_l2 (h.2 c1).1), ?_⟩
    refine bEqL (x := l2) h_l2 ?_
    refine bGo hA 1 15 (50, .istore_n 3, 1, 32, 0, [3], []) rfl rfl rfl ?_
    refine bGo hA 2 0 (51, .aload_n 0, 1, 33, 0, [0], []) rfl rfl rfl ?_
    refine bGo hA 2 1 (52, .getfield 41, 3, 34, 0, [12, 12, 3, 66, 1, 0], []) rfl rfl rfl ?_
    refine ⟨rfl, ?_⟩
    refine bGo hA 2 2 (55, .iload_n 3, 1, 35, 0, [3], []) rfl rfl rfl ?_
    refine bGo hA 2 3 (56, .iaload, 1, 36, 0, [], []) rfl rfl rfl ?_
    refine ⟨rfl, (bIxP (x := (bi σ 69 l2)) (n := 6) (bi_rg _ _ _) (h.2 c1).2.1), ?_⟩
    refine bEqL (x := (bi σ 69 l2)) (bi_rg _ _ _) ?_
    refine bGo hA 2 4 (57, .aload_n 0, 1, 37, 0, [0], []) rfl rfl rfl ?_
    refine bGo hA 2 5 (58, .getfield 17, 3, 38, 0, [12, 3, 3, 58, 1, 0], []) rfl rfl rfl ?_
    refine ⟨rfl, ?_⟩
    refine bGo hA 2 6 (61, .iload_n 3, 1, 39, 0, [3], []) rfl rfl rfl ?_
    refine bGo hA 2 7 (62, .iaload, 1, 40, 0, [], []) rfl rfl rfl ?_
    refine ⟨rfl, (bIxP (x := (bi σ 69 l2)) (n := 6) (bi_rg _ _ _) (h.2 c1).2.1), ?_⟩
    refine bEqL (x := (bi σ 69 l2)) (bi_rg _ _ _) ?_
    refine bGo hA 2 8 (63, .if_icmp .lt (7), 3, 41, 43, [], []) rfl rfl rfl ?_
    refine bB_lt (x := (bi σ 66 (bi σ 69 l2))) (y := (bi σ 58 (bi σ 69 l2))) (bi_rg _ _ _) (bi_rg _ _ _) (fun c2 => ?_) (fun c2 => ?_)
    · refine bGo hA 2 11 (70, .aload_n 0, 1, 44, 0, [0], []) rfl rfl rfl ?_
      refine bGo hA 2 12 (71, .iload_n 3, 1, 45, 0, [3], []) rfl rfl rfl ?_
      refine bGo hA 2 13 (72, .invokevirtual 363, 3, 46, 0, [0, 12, 218, 1], []) rfl rfl rfl ?_
      refine ⟨rfl, ?_⟩
      refine hC _ _ _ _ _ (bRn_e (fun r5 s3 q6 k4 => ?_)) ((h.2 c1).2.2.1 c2)
      show A (46, [.ref 12, v1, .int (bn l2), .int (bn (bi σ 69 l2)), v4], [.int (bn r5)], s3)
      exact k4
    · refine bGo hA 2 9 (66, .iconst (-1), 1, 42, 0, [], [(-1, 0)]) rfl rfl rfl ?_
      refine bEqI bl_m1 ?_
      refine bGo hA 2 10 (67, .goto (8), 3, 43, 46, [], []) rfl rfl rfl ?_
      exact ((h.2 c1).2.2.2 c2)

theorem sq214_46 {lvl : Nat} {C : bCall} {Q : bPost} {A : bPt → Prop} (hC : bMono C) (hA : bClosed lvl bm214 C Q A) {v1 : Value} {l2 : Int} {l3 : Int} {v4 : Value} {t0 : Int} {σ : bSt}  (h_l2 : bRg l2) (h_l3 : bRg l3) (h_t0 : bRg t0)
  (h : ((t0 < 0 → ((t0 = (-1) → ((0 ≤ l3 ∧ l3 < 6) ∧ (((bi σ 66 l3) < (bi σ 58 l3) → (((bi σ 65 l3) = 1 → (bRg (l2 - 0) ∧ A (25, [.ref 12, (bUnl v1), .int (bn (l2 - 0)), .int (bn l3), .int (bn t0)], [], (bw σ 65 l3 (bi σ 65 l3))))) ∧ (¬ (bi σ 65 l3) = 1 → (bRg (l2 - 1) ∧ A (25, [.ref 12, (bUnl v1), .int (bn (l2 - 1)), .int (bn l3), .int (bn t0)], [], (bw σ 65 l3 (bi σ 65 l3))))))) ∧ (¬ (bi σ 66 l3) < (bi σ 58 l3) → (((bi σ 65 l3) = 1 → (bRg (l2 - 1) ∧ A (25, [.ref 12, (bUnl v1), .int (bn (l2 - 1)), .int (bn l3), .int (bn t0)], [], (bw σ 65 l3 2)))) ∧ (¬ (bi σ 65 l3) = 1 → (((bi σ 65 l3) = 1 → (bRg (l2 - 0) ∧ A (25, [.ref 12, (bUnl v1), .int (bn (l2 - 0)), .int (bn l3), .int (bn t0)], [], (bw σ 65 l3 (bi σ 65 l3))))) ∧ (¬ (bi σ 65 l3) = 1 → (bRg (l2 - 1) ∧ A (25, [.ref 12, (bUnl v1), .int (bn (l2 - 1)), .int (bn l3), .int (bn t0)], [], (bw σ 65 l3 (bi σ 65 l3)))))))))))) ∧ (¬ t0 = (-1) → A (25, [.ref 12, v1, .int (bn l2), .int (bn l3), .int (bn t0)], [], σ)))) ∧ (¬ t0 < 0 → (bRg (l2 + 1) ∧ ((0 ≤ (l2 + 1) ∧ (l2 + 1) < 8) ∧ (C 215 [.ref 12, .int (bn t0)] (bw σ 69 (l2 + 1) t0) (bRv (fun s8 => A (25, [.ref 12, (bUnl v1), .int (bn (l2 + 1)), .int (bn l3), .int (bn t0)], [], s8))))))))) : A (46, [.ref 12, v1, .int (bn l2), .int (bn l3), v4], [.int (bn t0)], σ) := by
  refine bGo hA 2 14 (75, .istore 4, 2, 47, 0, [4], []) rfl rfl rfl ?_
  refine bGo hA 2 15 (77, .iload 4, 2, 48, 0, [4], []) rfl rfl rfl ?_
  refine bGo hA 3 0 (79, .ifCond .lt (23), 3, 49, 59, [], []) rfl rfl rfl ?_
  refine bB_lt0 (x := t0) h_t0 (fun c1 => ?_) (fun c1 => ?_)
  · refine bGo hA 3 11 (102, .iload 4, 2, 60, 0, [4], []) rfl rfl rfl ?_
    refine bGo hA 3 12 (104, .iconst (-1), 1, 61, 0, [], [(-1, 0)]) rfl rfl rfl ?_
    refine bEqI bl_m1 ?_
    refine bGo hA 3 13 (105, .if_icmp .ne (62), 3, 62, 99, [], []) rfl rfl rfl ?_
    refine bB_eq (x := t0) (y := (-1)) h_t0 (by decide : bRg (-1)) (fun c2 => ?_) (fun c2 => ?_)
    · refine bGo hA 3 14 (108, .aload_n 0, 1, 63, 0, [0], []) rfl rfl rfl ?_
      refine bGo hA 3 15 (109, .getfield 38, 3, 64, 0, [12, 11, 3, 65, 1, 0], []) rfl rfl rfl ?_
      refine ⟨rfl, ?_⟩
      refine bGo hA 4 0 (112, .iload_n 3, 1, 65, 0, [3], []) rfl rfl rfl ?_
      refine bGo hA 4 1 (113, .aload_n 0, 1, 66, 0, [0], []) rfl rfl rfl ?_
      refine bGo hA 4 2 (114, .getfield 41, 3, 67, 0, [12, 12, 3, 66, 1, 0], []) rfl rfl rfl ?_
      refine ⟨rfl, ?_⟩
      refine bGo hA 4 3 (117, .iload_n 3, 1, 68, 0, [3], []) rfl rfl rfl ?_
      refine bGo hA 4 4 (118, .iaload, 1, 69, 0, [], []) rfl rfl rfl ?_
      refine ⟨rfl, (bIxP (x := l3) (n := 6) h_l3 ((h.1 c1).1 c2).1), ?_⟩
      refine bEqL (x := l3) h_l3 ?_
      refine bGo hA 4 5 (119, .aload_n 0, 1, 70, 0, [0], []) rfl rfl rfl ?_
      refine bGo hA 4 6 (120, .getfield 17, 3, 71, 0, [12, 3, 3, 58, 1, 0], []) rfl rfl rfl ?_
      refine ⟨rfl, ?_⟩
      refine bGo hA 4 7 (123, .iload_n 3, 1, 72, 0, [3], []) rfl rfl rfl ?_
      refine bGo hA 4 8 (124, .iaload, 1, 73, 0, [], []) rfl rfl rfl ?_
      refine ⟨rfl, (bIxP (x := l3) (n := 6) h_l3 ((h.1 c1).1 c2).1), ?_⟩
      refine bEqL (x := l3) h_l3 ?_
      refine bGo hA 4 9 (125, .if_icmp .lt (17), 3, 74, 82, [], []) rfl rfl rfl ?_
      refine bB_lt (x := (bi σ 66 l3)) (y := (bi σ 58 l3)) (bi_rg _ _ _) (bi_rg _ _ _) (fun c3 => ?_) (fun c3 => ?_)
      · refine bGo hA 5 2 (142, .aload_n 0, 1, 83, 0, [0], []) rfl rfl rfl ?_
        refine bGo hA 5 3 (143, .getfield 38, 3, 84, 0, [12, 11, 3, 65, 1, 0], []) rfl rfl rfl ?_
        refine ⟨rfl, ?_⟩
        refine bGo hA 5 4 (146, .iload_n 3, 1, 85, 0, [3], []) rfl rfl rfl ?_
        refine bGo hA 5 5 (147, .iaload, 1, 86, 0, [], []) rfl rfl rfl ?_
        refine ⟨rfl, (bIxP (x := l3) (n := 6) h_l3 ((h.1 c1).1 c2).1), ?_⟩
        refine bEqL (x := l3) h_l3 ?_
        refine bGo hA 5 6 (148, .iastore, 1, 87, 0, [], []) rfl rfl rfl ?_
        refine ⟨rfl, (bIxP (x := l3) (n := 6) h_l3 ((h.1 c1).1 c2).1), by decide, ?_⟩
        refine bEqS (x := l3) h_l3 ?_
        refine bGo hA 5 7 (149, .iload_n 2, 1, 88, 0, [2], []) rfl rfl rfl ?_
        refine bGo hA 5 8 (150, .aload_n 0, 1, 89, 0, [0], []) rfl rfl rfl ?_
        refine bGo hA 5 9 (151, .getfield 38, 3, 90, 0, [12, 11, 3, 65, 1, 0], []) rfl rfl rfl ?_
        refine ⟨rfl, ?_⟩
        refine bGo hA 5 10 (154, .iload_n 3, 1, 91, 0, [3], []) rfl rfl rfl ?_
        refine bGo hA 5 11 (155, .iaload, 1, 92, 0, [], []) rfl rfl rfl ?_
        refine ⟨rfl, (bIxP (x := l3) (n := 6) h_l3 ((h.1 c1).1 c2).1), ?_⟩
        refine bEqL (x := l3) h_l3 ?_
        refine bEqI (congrArg bn (bi_eq (bi_rg _ _ _))) ?_
        refine bGo hA 5 12 (156, .iconst (1), 1, 93, 0, [], [(1, 0)]) rfl rfl rfl ?_
        refine bEqI bl_1 ?_
        refine bGo hA 5 13 (157, .if_icmp .ne (7), 3, 94, 96, [], []) rfl rfl rfl ?_
        refine bB_eq (x := (bi σ 65 l3)) (y := 1) (bi_rg _ _ _) (by decide : bRg 1) (fun c4 => ?_) (fun c4 => ?_)
        · refine bGo hA 5 14 (160, .iconst (0), 1, 95, 0, [], [(0, 0)]) rfl rfl rfl ?_
          refine bEqI bl_0 ?_
          refine bGo hA 5 15 (161, .goto (4), 3, 96, 97, [], []) rfl rfl rfl ?_
          refine bGo hA 6 1 (165, .isub, 1, 98, 0, [], []) rfl rfl rfl ?_
          refine bEqI (bn_sub l2 0) ?_
          refine bGo hA 6 2 (166, .istore_n 2, 1, 99, 0, [2], []) rfl rfl rfl ?_
          refine bGo hA 6 3 (167, .goto (-127), 3, 100, 25, [], []) rfl rfl rfl ?_
          exact ((((h.1 c1).1 c2).2.1 c3).1 c4).2
        · refine bGo hA 6 0 (164, .iconst (1), 1, 97, 0, [], [(1, 0)]) rfl rfl rfl ?_
          refine bEqI bl_1 ?_
          refine bGo hA 6 1 (165, .isub, 1, 98, 0, [], []) rfl rfl rfl ?_
          refine bEqI (bn_sub l2 1) ?_
          refine bGo hA 6 2 (166, .istore_n 2, 1, 99, 0, [2], []) rfl rfl rfl ?_
          refine bGo hA 6 3 (167, .goto (-127), 3, 100, 25, [], []) rfl rfl rfl ?_
          exact ((((h.1 c1).1 c2).2.1 c3).2 c4).2
      · refine bGo hA 4 10 (128, .aload_n 0, 1, 75, 0, [0], []) rfl rfl rfl ?_
        refine bGo hA 4 11 (129, .getfield 38, 3, 76, 0, [12, 11, 3, 65, 1, 0], []) rfl rfl rfl ?_
        refine ⟨rfl, ?_⟩
        refine bGo hA 4 12 (132, .iload_n 3, 1, 77, 0, [3], []) rfl rfl rfl ?_
        refine bGo hA 4 13 (133, .iaload, 1, 78, 0, [], []) rfl rfl rfl ?_
        refine ⟨rfl, (bIxP (x := l3) (n := 6) h_l3 ((h.1 c1).1 c2).1), ?_⟩
        refine bEqL (x := l3) h_l3 ?_
        refine bGo hA 4 14 (134, .iconst (1), 1, 79, 0, [], [(1, 0)]) rfl rfl rfl ?_
        refine bEqI bl_1 ?_
        refine bGo hA 4 15 (135, .if_icmp .ne (7), 3, 80, 82, [], []) rfl rfl rfl ?_
        refine bB_eq (x := (bi σ 65 l3)) (y := 1) (bi_rg _ _ _) (by decide : bRg 1) (fun c5 => ?_) (fun c5 => ?_)
        · refine bGo hA 5 0 (138, .iconst (2), 1, 81, 0, [], [(2, 0)]) rfl rfl rfl ?_
          refine bEqI bl_2 ?_
          refine bGo hA 5 1 (139, .goto (9), 3, 82, 86, [], []) rfl rfl rfl ?_
          refine bGo hA 5 6 (148, .iastore, 1, 87, 0, [], []) rfl rfl rfl ?_
          refine ⟨rfl, (bIxP (x := l3) (n := 6) h_l3 ((h.1 c1).1 c2).1), by decide, ?_⟩
          refine bEqS (x := l3) h_l3 ?_
          refine bGo hA 5 7 (149, .iload_n 2, 1, 88, 0, [2], []) rfl rfl rfl ?_
          refine bGo hA 5 8 (150, .aload_n 0, 1, 89, 0, [0], []) rfl rfl rfl ?_
          refine bGo hA 5 9 (151, .getfield 38, 3, 90, 0, [12, 11, 3, 65, 1, 0], []) rfl rfl rfl ?_
          refine ⟨rfl, ?_⟩
          refine bGo hA 5 10 (154, .iload_n 3, 1, 91, 0, [3], []) rfl rfl rfl ?_
          refine bGo hA 5 11 (155, .iaload, 1, 92, 0, [], []) rfl rfl rfl ?_
          refine ⟨rfl, (bIxP (x := l3) (n := 6) h_l3 ((h.1 c1).1 c2).1), ?_⟩
          refine bEqL (x := l3) h_l3 ?_
          refine bEqI (congrArg bn (bi_eq (by decide : bRg 2))) ?_
          refine bGo hA 5 12 (156, .iconst (1), 1, 93, 0, [], [(1, 0)]) rfl rfl rfl ?_
          refine bEqI bl_1 ?_
          refine bGo hA 5 13 (157, .if_icmp .ne (7), 3, 94, 96, [], []) rfl rfl rfl ?_
          refine ⟨fun c => absurd c (by decide), fun _ => ?_⟩
          refine bGo hA 6 0 (164, .iconst (1), 1, 97, 0, [], [(1, 0)]) rfl rfl rfl ?_
          refine bEqI bl_1 ?_
          refine bGo hA 6 1 (165, .isub, 1, 98, 0, [], []) rfl rfl rfl ?_
          refine bEqI (bn_sub l2 1) ?_
          refine bGo hA 6 2 (166, .istore_n 2, 1, 99, 0, [2], []) rfl rfl rfl ?_
          refine bGo hA 6 3 (167, .goto (-127), 3, 100, 25, [], []) rfl rfl rfl ?_
          exact ((((h.1 c1).1 c2).2.2 c3).1 c5).2
        · refine bGo hA 5 2 (142, .aload_n 0, 1, 83, 0, [0], []) rfl rfl rfl ?_
          refine bGo hA 5 3 (143, .getfield 38, 3, 84, 0, [12, 11, 3, 65, 1, 0], []) rfl rfl rfl ?_
          refine ⟨rfl, ?_⟩
          refine bGo hA 5 4 (146, .iload_n 3, 1, 85, 0, [3], []) rfl rfl rfl ?_
          refine bGo hA 5 5 (147, .iaload, 1, 86, 0, [], []) rfl rfl rfl ?_
          refine ⟨rfl, (bIxP (x := l3) (n := 6) h_l3 ((h.1 c1).1 c2).1), ?_⟩
          refine bEqL (x := l3) h_l3 ?_
          refine bGo hA 5 6 (148, .iastore, 1, 87, 0, [], []) rfl rfl rfl ?_
          refine ⟨rfl, (bIxP (x := l3) (n := 6) h_l3 ((h.1 c1).1 c2).1), by decide, ?_⟩
          refine bEqS (x := l3) h_l3 ?_
          refine bGo hA 5 7 (149, .iload_n 2, 1, 88, 0, [2], []) rfl rfl rfl ?_
          refine bGo hA 5 8 (150, .aload_n 0, 1, 89, 0, [0], []) rfl rfl rfl ?_
          refine bGo hA 5 9 (151, .getfield 38, 3, 90, 0, [12, 11, 3, 65, 1, 0], []) rfl rfl rfl ?_
          refine ⟨rfl, ?_⟩
          refine bGo hA 5 10 (154, .iload_n 3, 1, 91, 0, [3], []) rfl rfl rfl ?_
          refine bGo hA 5 11 (155, .iaload, 1, 92, 0, [], []) rfl rfl rfl ?_
          refine ⟨rfl, (bIxP (x := l3) (n := 6) h_l3 ((h.1 c1).1 c2).1), ?_⟩
          refine bEqL (x := l3) h_l3 ?_
          refine bEqI (congrArg bn (bi_eq (bi_rg _ _ _))) ?_
          refine bGo hA 5 12 (156, .iconst (1), 1, 93, 0, [], [(1, 0)]) rfl rfl rfl ?_
          refine bEqI bl_1 ?_
          refine bGo hA 5 13 (157, .if_icmp .ne (7), 3, 94, 96, [], []) rfl rfl rfl ?_
          refine bB_eq (x := (bi σ 65 l3)) (y := 1) (bi_rg _ _ _) (by decide : bRg 1) (fun c7 => ?_) (fun c7 => ?_)
          · refine bGo hA 5 14 (160, .iconst (0), 1, 95, 0, [], [(0, 0)]) rfl rfl rfl ?_
            refine bEqI bl_0 ?_
            refine bGo hA 5 15 (161, .goto (4), 3, 96, 97, [], []) rfl rfl rfl ?_
            refine bGo hA 6 1 (165, .isub, 1, 98, 0, [], []) rfl rfl rfl ?_
            refine bEqI (bn_sub l2 0) ?_
            refine bGo hA 6 2 (166, .istore_n 2, 1, 99, 0, [2], []) rfl rfl rfl ?_
            refine bGo hA 6 3 (167, .goto (-127), 3, 100, 25, [], []) rfl rfl rfl ?_
            exact (((((h.1 c1).1 c2).2.2 c3).2 c5).1 c7).2
          · refine bGo hA 6 0 (164, .iconst (1), 1, 97, 0, [], [(1, 0)]) rfl rfl rfl ?_
            refine bEqI bl_1 ?_
            refine bGo hA 6 1 (165, .isub, 1, 98, 0, [], []) rfl rfl rfl ?_
            refine bEqI (bn_sub l2 1) ?_
            refine bGo hA 6 2 (166, .istore_n 2, 1, 99, 0, [2], []) rfl rfl rfl ?_
            refine bGo hA 6 3 (167, .goto (-127), 3, 100, 25, [], []) rfl rfl rfl ?_
            exact (((((h.1 c1).1 c2).2.2 c3).2 c5).2 c7).2
    · refine bGo hA 6 3 (167, .goto (-127), 3, 100, 25, [], []) rfl rfl rfl ?_
      exact ((h.1 c1).2 c2)
  · refine bGo hA 3 1 (82, .iinc 2 (1), 3, 50, 0, [2], [(1, 0)]) rfl rfl rfl ?_
    refine bEqC (fun v => A (50, [.ref 12, (bUnl v1), .int v, .int (bn l3), .int (bn t0)], [], σ)) ((congrArg (fun w => bn l2 + w) bl_1).trans (bn_add l2 1)) ?_
    refine bGo hA 3 2 (85, .aload_n 0, 1, 51, 0, [0], []) rfl rfl rfl ?_
    refine bGo hA 3 3 (86, .getfield 50, 3, 52, 0, [12, 15, 3, 69, 1, 0], []) rfl rfl rfl ?_
    refine ⟨rfl, ?_⟩
    refine bGo hA 3 4 (89, .iload_n 2, 1, 53, 0, [2], []) rfl rfl rfl ?_
    refine bGo hA 3 5 (90, .iload 4, 2, 54, 0, [4], []) rfl rfl rfl ?_
    refine bGo hA 3 6 (92, .iastore, 1, 55, 0, [], []) rfl rfl rfl ?_
    refine ⟨rfl, (bIxP (x := (l2 + 1)) (n := 8) (h.2 c1).1 (h.2 c1).2.1), by decide, ?_⟩
    refine bEqS (x := (l2 + 1)) (h.2 c1).1 ?_
    refine bGo hA 3 7 (93, .aload_n 0, 1, 56, 0, [0], []) rfl rfl rfl ?_
    refine bGo hA 3 8 (94, .iload 4, 2, 57, 0, [4], []) rfl rfl rfl ?_
    refine bGo hA 3 9 (96, .invokevirtual 359, 3, 58, 0, [0, 12, 215, 1], []) rfl rfl rfl ?_
    refine ⟨rfl, ?_⟩
    refine hC _ _ _ _ _ (bRv_e (fun s8 k9 => ?_)) (h.2 c1).2.2
    show A (58, [.ref 12, (bUnl v1), .int (bn (l2 + 1)), .int (bn l3), .int (bn t0)], [], s8)
    refine bGo hA 3 10 (99, .goto (68), 3, 59, 99, [], []) rfl rfl rfl ?_
    refine bGo hA 6 3 (167, .goto (-127), 3, 100, 25, [], []) rfl rfl rfl ?_
    exact k9

theorem sq215_0 {lvl : Nat} {C : bCall} {Q : bPost} {A : bPt → Prop} (hC : bMono C) (hA : bClosed lvl bm215 C Q A) {x1 : Int} {σ : bSt}  (h_x1 : bRg x1)
  (h : ((0 ≤ x1 ∧ x1 < 6) ∧ A (12, [.ref 12, .int (bn x1), .int (bn 0)], [], (bw (bw σ 65 x1 1) 66 x1 0)))) : A (0, [.ref 12, .int (bn x1), .float 0], [], σ) := by
  refine bGo hA 0 0 (0, .aload_n 0, 1, 1, 0, [0], []) rfl rfl rfl ?_
  refine bGo hA 0 1 (1, .getfield 38, 3, 2, 0, [12, 11, 3, 65, 1, 0], []) rfl rfl rfl ?_
  refine ⟨rfl, ?_⟩
  refine bGo hA 0 2 (4, .iload_n 1, 1, 3, 0, [1], []) rfl rfl rfl ?_
  refine bGo hA 0 3 (5, .iconst (1), 1, 4, 0, [], [(1, 0)]) rfl rfl rfl ?_
  refine bEqI bl_1 ?_
  refine bGo hA 0 4 (6, .iastore, 1, 5, 0, [], []) rfl rfl rfl ?_
  refine ⟨rfl, (bIxP (x := x1) (n := 6) h_x1 h.1), by decide, ?_⟩
  refine bEqS (x := x1) h_x1 ?_
  refine bGo hA 0 5 (7, .aload_n 0, 1, 6, 0, [0], []) rfl rfl rfl ?_
  refine bGo hA 0 6 (8, .getfield 41, 3, 7, 0, [12, 12, 3, 66, 1, 0], []) rfl rfl rfl ?_
  refine ⟨rfl, ?_⟩
  refine bGo hA 0 7 (11, .iload_n 1, 1, 8, 0, [1], []) rfl rfl rfl ?_
  refine bGo hA 0 8 (12, .iconst (0), 1, 9, 0, [], [(0, 0)]) rfl rfl rfl ?_
  refine bEqI bl_0 ?_
  refine bGo hA 0 9 (13, .iastore, 1, 10, 0, [], []) rfl rfl rfl ?_
  refine ⟨rfl, (bIxP (x := x1) (n := 6) h_x1 h.1), by decide, ?_⟩
  refine bEqS (x := x1) h_x1 ?_
  refine bGo hA 0 10 (14, .iconst (0), 1, 11, 0, [], [(0, 0)]) rfl rfl rfl ?_
  refine bEqI bl_0 ?_
  refine bGo hA 0 11 (15, .istore_n 2, 1, 12, 0, [2], []) rfl rfl rfl ?_
  exact h.2

theorem sq215_12 {lvl : Nat} {C : bCall} {Q : bPost} {A : bPt → Prop} (hC : bMono C) (hA : bClosed lvl bm215 C Q A) {l1 : Int} {l2 : Int} {σ : bSt}  (h_l1 : bRg l1) (h_l2 : bRg l2)
  (h : ((l2 < 8 → (bRg (8 * l1) ∧ (bRg ((8 * l1) + l2) ∧ ((0 ≤ ((8 * l1) + l2) ∧ ((8 * l1) + l2) < 48) ∧ (bRg (l2 + 1) ∧ A (12, [.ref 12, .int (bn l1), .int (bn (l2 + 1))], [], (bw σ 60 ((8 * l1) + l2) 0))))))) ∧ (¬ l2 < 8 → Q (.inl none) σ))) : A (12, [.ref 12, .int (bn l1), .int (bn l2)], [], σ) := by
  refine bGo hA 0 12 (16, .iload_n 2, 1, 13, 0, [2], []) rfl rfl rfl ?_
  refine bGo hA 0 13 (17, .bipush (8), 2, 14, 0, [], [(8, 0)]) rfl rfl rfl ?_
  refine bEqI bl_8 ?_
  refine bGo hA 0 14 (19, .if_icmp .ge (21), 3, 15, 26, [], []) rfl rfl rfl ?_
  refine bB_lt (x := l2) (y := 8) h_l2 (by decide : bRg 8) (fun c1 => ?_) (fun c1 => ?_)
  · refine bGo hA 0 15 (22, .aload_n 0, 1, 16, 0, [0], []) rfl rfl rfl ?_
    refine bGo hA 1 0 (23, .getfield 23, 3, 17, 0, [12, 5, 3, 60, 1, 0], []) rfl rfl rfl ?_
    refine ⟨rfl, ?_⟩
    refine bGo hA 1 1 (26, .bipush (8), 2, 18, 0, [], [(8, 0)]) rfl rfl rfl ?_
    refine bEqI bl_8 ?_
    refine bGo hA 1 2 (28, .iload_n 1, 1, 19, 0, [1], []) rfl rfl rfl ?_
    refine bGo hA 1 3 (29, .imul, 1, 20, 0, [], []) rfl rfl rfl ?_
    refine bEqI (bn_mul 8 l1) ?_
    refine bGo hA 1 4 (30, .iload_n 2, 1, 21, 0, [2], []) rfl rfl rfl ?_
    refine bGo hA 1 5 (31, .iadd, 1, 22, 0, [], []) rfl rfl rfl ?_
    refine bEqI (bn_add (8 * l1) l2) ?_
    refine bGo hA 1 6 (32, .iconst (0), 1, 23, 0, [], [(0, 0)]) rfl rfl rfl ?_
    refine bEqI bl_0 ?_
    refine bGo hA 1 7 (33, .iastore, 1, 24, 0, [], []) rfl rfl rfl ?_
    refine ⟨rfl, (bIxP (x := ((8 * l1) + l2)) (n := 48) (h.1 c1).2.1 (h.1 c1).2.2.1), by decide, ?_⟩
    refine bEqS (x := ((8 * l1) + l2)) (h.1 c1).2.1 ?_
    refine bGo hA 1 8 (34, .iinc 2 (1), 3, 25, 0, [2], [(1, 0)]) rfl rfl rfl ?_
    refine bEqC (fun v => A (25, [.ref 12, .int (bn l1), .int v], [], (bw σ 60 ((8 * l1) + l2) 0))) ((congrArg (fun w => bn l2 + w) bl_1).trans (bn_add l2 1)) ?_
    refine bGo hA 1 9 (37, .goto (-21), 3, 26, 12, [], []) rfl rfl rfl ?_
    exact (h.1 c1).2.2.2.2
  · refine bGo hA 1 10 (40, .return_, 1, 0, 0, [0], []) rfl rfl rfl ?_
    exact (h.2 c1)

theorem sq216_0 {lvl : Nat} {C : bCall} {Q : bPost} {A : bPt → Prop} (hC : bMono C) (hA : bClosed lvl bm216 C Q A) {x1 : Int} {x2 : Int} {x3 : Int} {σ : bSt}  (h_x1 : bRg x1) (h_x2 : bRg x2) (h_x3 : bRg x3)
  (h : ((0 ≤ x1 ∧ x1 < 6) ∧ Q (.inl (some (.int (bn (-1))))) (bw (bw (bw σ 65 x1 3) 67 x1 x2) 68 x1 x3))) : A (0, [.ref 12, .int (bn x1), .int (bn x2), .int (bn x3)], [], σ) := by
  refine bGo hA 0 0 (0, .aload_n 0, 1, 1, 0, [0], []) rfl rfl rfl ?_
  refine bGo hA 0 1 (1, .getfield 38, 3, 2, 0, [12, 11, 3, 65, 1, 0], []) rfl rfl rfl ?_
  refine ⟨rfl, ?_⟩
  refine bGo hA 0 2 (4, .iload_n 1, 1, 3, 0, [1], []) rfl rfl rfl ?_
  refine bGo hA 0 3 (5, .iconst (3), 1, 4, 0, [], [(3, 0)]) rfl rfl rfl ?_
  refine bEqI bl_3 ?_
  refine bGo hA 0 4 (6, .iastore, 1, 5, 0, [], []) rfl rfl rfl ?_
  refine ⟨rfl, (bIxP (x := x1) (n := 6) h_x1 h.1), by decide, ?_⟩
  refine bEqS (x := x1) h_x1 ?_
  refine bGo hA 0 5 (7, .aload_n 0, 1, 6, 0, [0], []) rfl rfl rfl ?_
  refine bGo hA 0 6 (8, .getfield 44, 3, 7, 0, [12, 13, 3, 67, 1, 0], []) rfl rfl rfl ?_
  refine ⟨rfl, ?_⟩
  refine bGo hA 0 7 (11, .iload_n 1, 1, 8, 0, [1], []) rfl rfl rfl ?_
  refine bGo hA 0 8 (12, .iload_n 2, 1, 9, 0, [2], []) rfl rfl rfl ?_
  refine bGo hA 0 9 (13, .iastore, 1, 10, 0, [], []) rfl rfl rfl ?_
  refine ⟨rfl, (bIxP (x := x1) (n := 6) h_x1 h.1), by decide, ?_⟩
  refine bEqS (x := x1) h_x1 ?_
  refine bGo hA 0 10 (14, .aload_n 0, 1, 11, 0, [0], []) rfl rfl rfl ?_
  refine bGo hA 0 11 (15, .getfield 47, 3, 12, 0, [12, 14, 3, 68, 1, 0], []) rfl rfl rfl ?_
  refine ⟨rfl, ?_⟩
  refine bGo hA 0 12 (18, .iload_n 1, 1, 13, 0, [1], []) rfl rfl rfl ?_
  refine bGo hA 0 13 (19, .iload_n 3, 1, 14, 0, [3], []) rfl rfl rfl ?_
  refine bGo hA 0 14 (20, .iastore, 1, 15, 0, [], []) rfl rfl rfl ?_
  refine ⟨rfl, (bIxP (x := x1) (n := 6) h_x1 h.1), by decide, ?_⟩
  refine bEqS (x := x1) h_x1 ?_
  refine bGo hA 0 15 (21, .iconst (-1), 1, 16, 0, [], [(-1, 0)]) rfl rfl rfl ?_
  refine bEqI bl_m1 ?_
  refine bGo hA 1 0 (22, .ireturn, 1, 0, 0, [1], []) rfl rfl rfl ?_
  exact h.2

theorem sq217_0 {lvl : Nat} {C : bCall} {Q : bPost} {A : bPt → Prop} (hC : bMono C) (hA : bClosed lvl bm217 C Q A) {x1 : Int} {x2 : Int} {x3 : Int} {σ : bSt}  (h_x1 : bRg x1) (h_x2 : bRg x2) (h_x3 : bRg x3)
  (h : ((0 ≤ x1 ∧ x1 < 48) ∧ Q (.inl none) (bw (bw σ 60 x1 x2) 61 x1 x3))) : A (0, [.ref 12, .int (bn x1), .int (bn x2), .int (bn x3)], [], σ) := by
  refine bGo hA 0 0 (0, .aload_n 0, 1, 1, 0, [0], []) rfl rfl rfl ?_
  refine bGo hA 0 1 (1, .getfield 23, 3, 2, 0, [12, 5, 3, 60, 1, 0], []) rfl rfl rfl ?_
  refine ⟨rfl, ?_⟩
  refine bGo hA 0 2 (4, .iload_n 1, 1, 3, 0, [1], []) rfl rfl rfl ?_
  refine bGo hA 0 3 (5, .iload_n 2, 1, 4, 0, [2], []) rfl rfl rfl ?_
  refine bGo hA 0 4 (6, .iastore, 1, 5, 0, [], []) rfl rfl rfl ?_
  refine ⟨rfl, (bIxP (x := x1) (n := 48) h_x1 h.1), by decide, ?_⟩
  refine bEqS (x := x1) h_x1 ?_
  refine bGo hA 0 5 (7, .aload_n 0, 1, 6, 0, [0], []) rfl rfl rfl ?_
  refine bGo hA 0 6 (8, .getfield 26, 3, 7, 0, [12, 6, 3, 61, 1, 0], []) rfl rfl rfl ?_
  refine ⟨rfl, ?_⟩
  refine bGo hA 0 7 (11, .iload_n 1, 1, 8, 0, [1], []) rfl rfl rfl ?_
  refine bGo hA 0 8 (12, .iload_n 3, 1, 9, 0, [3], []) rfl rfl rfl ?_
  refine bGo hA 0 9 (13, .iastore, 1, 10, 0, [], []) rfl rfl rfl ?_
  refine ⟨rfl, (bIxP (x := x1) (n := 48) h_x1 h.1), by decide, ?_⟩
  refine bEqS (x := x1) h_x1 ?_
  refine bGo hA 0 10 (14, .return_, 1, 0, 0, [0], []) rfl rfl rfl ?_
  exact h.2

theorem sq218_0 {lvl : Nat} {C : bCall} {Q : bPost} {A : bPt → Prop} (hC : bMono C) (hA : bClosed lvl bm218 C Q A) {x1 : Int} {σ : bSt}  (h_x1 : bRg x1)
  (h : (bRg (12 * x1) ∧ ((0 ≤ x1 ∧ x1 < 6) ∧ (bRg ((12 * x1) + (bi σ 66 x1)) ∧ (bRg (4 * ((12 * x1) + (bi σ 66 x1))) ∧ ((0 ≤ (4 * ((12 * x1) + (bi σ 66 x1))) ∧ (4 * ((12 * x1) + (bi σ 66 x1))) < 288) ∧ (bRg (8 * x1) ∧ (bRg ((4 * ((12 * x1) + (bi σ 66 x1))) + 1) ∧ ((0 ≤ ((4 * ((12 * x1) + (bi σ 66 x1))) + 1) ∧ ((4 * ((12 * x1) + (bi σ 66 x1))) + 1) < 288) ∧ (bRg ((8 * x1) + (bi σ 59 ((4 * ((12 * x1) + (bi σ 66 x1))) + 1))) ∧ (((bi σ 59 (4 * ((12 * x1) + (bi σ 66 x1)))) = 0 → A (40, [.ref 12, .int (bn x1), .int (bn (4 * ((12 * x1) + (bi σ 66 x1)))), .int (bn (bi σ 59 (4 * ((12 * x1) + (bi σ 66 x1))))), .int (bn ((8 * x1) + (bi σ 59 ((4 * ((12 * x1) + (bi σ 66 x1))) + 1)))), .float 0, .float 0, .float 0, .float 0, .float 0, .float 0], [.int (bn 0), .int (bn (8 * x1))], σ)) ∧ (¬ (bi σ 59 (4 * ((12 * x1) + (bi σ 66 x1)))) = 0 → (bRg ((4 * ((12 * x1) + (bi σ 66 x1))) + 2) ∧ ((0 ≤ ((4 * ((12 * x1) + (bi σ 66 x1))) + 2) ∧ ((4 * ((12 * x1) + (bi σ 66 x1))) + 2) < 288) ∧ A (40, [.ref 12, .int (bn x1), .int (bn (4 * ((12 * x1) + (bi σ 66 x1)))), .int (bn (bi σ 59 (4 * ((12 * x1) + (bi σ 66 x1))))), .int (bn ((8 * x1) + (bi σ 59 ((4 * ((12 * x1) + (bi σ 66 x1))) + 1)))), .float 0, .float 0, .float 0, .float 0, .float 0, .float 0], [.int (bn (bi σ 59 ((4 * ((12 * x1) + (bi σ 66 x1))) + 2))), .int (bn (8 * x1))], σ))))))))))))))) : A (0, [.ref 12, .int (bn x1), .float 0, .float 0, .float 0, .float 0, .float 0, .float 0, .float 0, .float 0, .float 0], [], σ) := by
  refine bGo hA 0 0 (0, .iconst (4), 1, 1, 0, [], [(4, 0)]) rfl rfl rfl ?_
  refine bEqI bl_4 ?_
  refine bGo hA 0 1 (1, .bipush (12), 2, 2, 0, [], [(12, 0)]) rfl rfl rfl ?_
  refine bEqI bl_12 ?_
  refine bGo hA 0 2 (3, .iload_n 1, 1, 3, 0, [1], []) rfl rfl rfl ?_
  refine bGo hA 0 3 (4, .imul, 1, 4, 0, [], []) rfl rfl rfl ?_
  refine bEqI (bn_mul 12 x1) ?_
  refine bGo hA 0 4 (5, .aload_n 0, 1, 5, 0, [0], []) rfl rfl rfl ?_
  refine bGo hA 0 5 (6, .getfield 41, 3, 6, 0, [12, 12, 3, 66, 1, 0], []) rfl rfl rfl ?_
  refine ⟨rfl, ?_⟩
  refine bGo hA 0 6 (9, .iload_n 1, 1, 7, 0, [1], []) rfl rfl rfl ?_
  refine bGo hA 0 7 (10, .iaload, 1, 8, 0, [], []) rfl rfl rfl ?_
  refine ⟨rfl, (bIxP (x := x1) (n := 6) h_x1 h.2.1), ?_⟩
  refine bEqL (x := x1) h_x1 ?_
  refine bGo hA 0 8 (11, .iadd, 1, 9, 0, [], []) rfl rfl rfl ?_
  refine bEqI (bn_add (12 * x1) (bi σ 66 x1)) ?_
  refine bGo hA 0 9 (12, .imul, 1, 10, 0, [], []) rfl rfl rfl ?_
  refine bEqI (bn_mul 4 ((12 * x1) + (bi σ 66 x1))) ?_
  refine bGo hA 0 10 (13, .istore_n 2, 1, 11, 0, [2], []) rfl rfl rfl ?_
  refine bGo hA 0 11 (14, .aload_n 0, 1, 12, 0, [0], []) rfl rfl rfl ?_
  refine bGo hA 0 12 (15, .getfield 20, 3, 13, 0, [12, 4, 3, 59, 1, 0], []) rfl rfl rfl ?_
  refine ⟨rfl, ?_⟩
  refine bGo hA 0 13 (18, .iload_n 2, 1, 14, 0, [2], []) rfl rfl rfl ?_
  refine bGo hA 0 14 (19, .iaload, 1, 15, 0, [], []) rfl rfl rfl ?_
  refine ⟨rfl, (bIxP (x := (4 * ((12 * x1) + (bi σ 66 x1)))) (n := 288) h.2.2.2.1 h.2.2.2.2.1), ?_⟩
  refine bEqL (x := (4 * ((12 * x1) + (bi σ 66 x1)))) h.2.2.2.1 ?_
  refine bGo hA 0 15 (20, .istore_n 3, 1, 16, 0, [3], []) rfl rfl rfl ?_
  refine bGo hA 1 0 (21, .bipush (8), 2, 17, 0, [], [(8, 0)]) rfl rfl rfl ?_
  refine bEqI bl_8 ?_
  refine bGo hA 1 1 (23, .iload_n 1, 1, 18, 0, [1], []) rfl rfl rfl ?_
  refine bGo hA 1 2 (24, .imul, 1, 19, 0, [], []) rfl rfl rfl ?_
  refine bEqI (bn_mul 8 x1) ?_
  refine bGo hA 1 3 (25, .aload_n 0, 1, 20, 0, [0], []) rfl rfl rfl ?_
  refine bGo hA 1 4 (26, .getfield 20, 3, 21, 0, [12, 4, 3, 59, 1, 0], []) rfl rfl rfl ?_
  refine ⟨rfl, ?_⟩
  refine bGo hA 1 5 (29, .iload_n 2, 1, 22, 0, [2], []) rfl rfl rfl ?_
  refine bGo hA 1 6 (30, .iconst (1), 1, 23, 0, [], [(1, 0)]) rfl rfl rfl ?_
  refine bEqI bl_1 ?_
  refine bGo hA 1 7 (31, .iadd, 1, 24, 0, [], []) rfl rfl rfl ?_
  refine bEqI (bn_add (4 * ((12 * x1) + (bi σ 66 x1))) 1) ?_
  refine bGo hA 1 8 (32, .iaload, 1, 25, 0, [], []) rfl rfl rfl ?_
  refine ⟨rfl, (bIxP (x := ((4 * ((12 * x1) + (bi σ 66 x1))) + 1)) (n := 288) h.2.2.2.2.2.2.1 h.2.2.2.2.2.2.2.1), ?_⟩
  refine bEqL (x := ((4 * ((12 * x1) + (bi σ 66 x1))) + 1)) h.2.2.2.2.2.2.1 ?_
  refine bGo hA 1 9 (33, .iadd, 1, 26, 0, [], []) rfl rfl rfl ?_
  refine bEqI (bn_add (8 * x1) (bi σ 59 ((4 * ((12 * x1) + (bi σ 66 x1))) + 1))) ?_
  refine bGo hA 1 10 (34, .istore 4, 2, 27, 0, [4], []) rfl rfl rfl ?_
  refine bGo hA 1 11 (36, .bipush (8), 2, 28, 0, [], [(8, 0)]) rfl rfl rfl ?_
  refine bEqI bl_8 ?_
  refine bGo hA 1 12 (38, .iload_n 1, 1, 29, 0, [1], []) rfl rfl rfl ?_
  refine bGo hA 1 13 (39, .imul, 1, 30, 0, [], []) rfl rfl rfl ?_
  refine bEqI (bn_mul 8 x1) ?_
  refine bGo hA 1 14 (40, .iload_n 3, 1, 31, 0, [3], []) rfl rfl rfl ?_
  refine bGo hA 1 15 (41, .ifCond .ne (7), 3, 32, 34, [], []) rfl rfl rfl ?_
  refine bB_eq0 (x := (bi σ 59 (4 * ((12 * x1) + (bi σ 66 x1))))) (bi_rg _ _ _) (fun c1 => ?_) (fun c1 => ?_)
  · refine bGo hA 2 0 (44, .iconst (0), 1, 33, 0, [], [(0, 0)]) rfl rfl rfl ?_
    refine bEqI bl_0 ?_
    refine bGo hA 2 1 (45, .goto (11), 3, 34, 40, [], []) rfl rfl rfl ?_
    exact (h.2.2.2.2.2.2.2.2.2.1 c1)
  · refine bGo hA 2 2 (48, .aload_n 0, 1, 35, 0, [0], []) rfl rfl rfl ?_
    refine bGo hA 2 3 (49, .getfield 20, 3, 36, 0, [12, 4, 3, 59, 1, 0], []) rfl rfl rfl ?_
    refine ⟨rfl, ?_⟩
    refine bGo hA 2 4 (52, .iload_n 2, 1, 37, 0, [2], []) rfl rfl rfl ?_
    refine bGo hA 2 5 (53, .iconst (2), 1, 38, 0, [], [(2, 0)]) rfl rfl rfl ?_
    refine bEqI bl_2 ?_
    refine bGo hA 2 6 (54, .iadd, 1, 39, 0, [], []) rfl rfl rfl ?_
    refine bEqI (bn_add (4 * ((12 * x1) + (bi σ 66 x1))) 2) ?_
    refine bGo hA 2 7 (55, .iaload, 1, 40, 0, [], []) rfl rfl rfl ?_
    refine ⟨rfl, (bIxP (x := ((4 * ((12 * x1) + (bi σ 66 x1))) + 2)) (n := 288) (h.2.2.2.2.2.2.2.2.2.2 c1).1 (h.2.2.2.2.2.2.2.2.2.2 c1).2.1), ?_⟩
    refine bEqL (x := ((4 * ((12 * x1) + (bi σ 66 x1))) + 2)) (h.2.2.2.2.2.2.2.2.2.2 c1).1 ?_
    exact (h.2.2.2.2.2.2.2.2.2.2 c1).2.2

theorem sq218_40 {lvl : Nat} {C : bCall} {Q : bPost} {A : bPt → Prop} (hC : bMono C) (hA : bClosed lvl bm218 C Q A) {l1 : Int} {l2 : Int} {l3 : Int} {l4 : Int} {v5 : Value} {v6 : Value} {v7 : Value} {v8 : Value} {v9 : Value} {v10 : Value} {t0 : Int} {t1 : Int} {σ : bSt}  (h_l1 : bRg l1) (h_l2 : bRg l2) (h_l3 : bRg l3) (h_l4 : bRg l4) (h_t0 : bRg t0) (h_t1 : bRg t1)
  (h : (bRg (t1 + t0) ∧ (bRg (l2 + 3) ∧ ((0 ≤ (l2 + 3) ∧ (l2 + 3) < 288) ∧ ((l3 = 1 → ((0 ≤ (bi σ 59 (l2 + 3)) ∧ (bi σ 59 (l2 + 3)) < 6) ∧ (((bi σ 65 (bi σ 59 (l2 + 3))) = 0 → Q (.inl (some (.int (bn (bi σ 59 (l2 + 3)))))) σ) ∧ (¬ (bi σ 65 (bi σ 59 (l2 + 3))) = 0 → (((bi σ 65 (bi σ 59 (l2 + 3))) = 2 → (bRg (8 * (bi σ 59 (l2 + 3))) ∧ (bRg (l2 + 2) ∧ ((0 ≤ (l2 + 2) ∧ (l2 + 2) < 288) ∧ (bRg ((8 * (bi σ 59 (l2 + 3))) + (bi σ 59 (l2 + 2))) ∧ ((l3 = 2 → A (102, [.ref 12, .int (bn l1), .int (bn l2), .int (bn l3), .int (bn l4), .int (bn ((8 * (bi σ 59 (l2 + 3))) + (bi σ 59 (l2 + 2)))), .int (bn (bi σ 59 (l2 + 3))), v7, v8, v9, v10], [.int (bn 1)], σ)) ∧ (¬ l3 = 2 → ((l3 = 4 → A (102, [.ref 12, .int (bn l1), .int (bn l2), .int (bn l3), .int (bn l4), .int (bn ((8 * (bi σ 59 (l2 + 3))) + (bi σ 59 (l2 + 2)))), .int (bn (bi σ 59 (l2 + 3))), v7, v8, v9, v10], [.int (bn 1)], σ)) ∧ (¬ l3 = 4 → ((l3 = 6 → A (102, [.ref 12, .int (bn l1), .int (bn l2), .int (bn l3), .int (bn l4), .int (bn ((8 * (bi σ 59 (l2 + 3))) + (bi σ 59 (l2 + 2)))), .int (bn (bi σ 59 (l2 + 3))), v7, v8, v9, v10], [.int (bn 1)], σ)) ∧ (¬ l3 = 6 → A (102, [.ref 12, .int (bn l1), .int (bn l2), .int (bn l3), .int (bn l4), .int (bn ((8 * (bi σ 59 (l2 + 3))) + (bi σ 59 (l2 + 2)))), .int (bn (bi σ 59 (l2 + 3))), v7, v8, v9, v10], [.int (bn 0)], σ)))))))))))) ∧ (¬ (bi σ 65 (bi σ 59 (l2 + 3))) = 2 → (((bi σ 65 (bi σ 59 (l2 + 3))) = 1 → (C 216 [.ref 12, .int (bn l1), .int (bn 5), .int (bn (bi σ 59 (l2 + 3)))] σ (bRn (fun r10 s8 => Q (.inl (some (.int (bn r10)))) s8)))) ∧ (¬ (bi σ 65 (bi σ 59 (l2 + 3))) = 1 → (C 216 [.ref 12, .int (bn l1), .int (bn 6), .int (bn (bi σ 59 (l2 + 3)))] σ (bRn (fun r14 s12 => Q (.inl (some (.int (bn r14)))) s12))))))))))) ∧ (¬ l3 = 1 → ((l3 = 2 → A (102, [.ref 12, .int (bn l1), .int (bn l2), .int (bn l3), .int (bn l4), .int (bn (t1 + t0)), .int (bn (bi σ 59 (l2 + 3))), v7, v8, v9, v10], [.int (bn 1)], σ)) ∧ (¬ l3 = 2 → ((l3 = 4 → A (102, [.ref 12, .int (bn l1), .int (bn l2), .int (bn l3), .int (bn l4), .int (bn (t1 + t0)), .int (bn (bi σ 59 (l2 + 3))), v7, v8, v9, v10], [.int (bn 1)], σ)) ∧ (¬ l3 = 4 → ((l3 = 6 → A (102, [.ref 12, .int (bn l1), .int (bn l2), .int (bn l3), .int (bn l4), .int (bn (t1 + t0)), .int (bn (bi σ 59 (l2 + 3))), v7, v8, v9, v10], [.int (bn 1)], σ)) ∧ (¬ l3 = 6 → A (102, [.ref 12, .int (bn l1), .int (bn l2), .int (bn l3), .int (bn l4), .int (bn (t1 + t0)), .int (bn (bi σ 59 (l2 + 3))), v7, v8, v9, v10], [.int (bn 0)], σ))))))))))))) : A (40, [.ref 12, .int (bn l1), .int (bn l2), .int (bn l3), .int (bn l4), v5, v6, v7, v8, v9, v10], [.int (bn t0), .int (bn t1)], σ) := by
  refine bGo hA 2 8 (56, .iadd, 1, 41, 0, [], []) rfl rfl rfl ?_
  refine bEqI (bn_add t1 t0) ?_
  refine bGo hA 2 9 (57, .istore 5, 2, 42, 0, [5], []) rfl rfl rfl ?_
  refine bGo hA 2 10 (59, .aload_n 0, 1, 43, 0, [0], []) rfl rfl rfl ?_
  refine bGo hA 2 11 (60, .getfield 20, 3, 44, 0, [12, 4, 3, 59, 1, 0], []) rfl rfl rfl ?_
  refine ⟨rfl, ?_⟩
  refine bGo hA 2 12 (63, .iload_n 2, 1, 45, 0, [2], []) rfl rfl rfl ?_
  refine bGo hA 2 13 (64, .iconst (3), 1, 46, 0, [], [(3, 0)]) rfl rfl rfl ?_
  refine bEqI bl_3 ?_
  refine bGo hA 2 14 (65, .iadd, 1, 47, 0, [], []) rfl rfl rfl ?_
  refine bEqI (bn_add l2 3) ?_
  refine bGo hA 2 15 (66, .iaload, 1, 48, 0, [], []) rfl rfl rfl ?_
  refine ⟨rfl, (bIxP (x := (l2 + 3)) (n := 288) h.2.1 h.2.2.1), ?_⟩
  refine bEqL (x := (l2 + 3)) h.2.1 ?_
  refine bGo hA 3 0 (67, .istore 6, 2, 49, 0, [6], []) rfl rfl rfl ?_
  refine bGo hA 3 1 (69, .iload_n 3, 1, 50, 0, [3], []) rfl rfl rfl ?_
  refine bGo hA 3 2 (70, .iconst (1), 1, 51, 0, [], [(1, 0)]) rfl rfl rfl ?_
  refine bEqI bl_1 ?_
  refine bGo hA 3 3 (71, .if_icmp .ne (68), 3, 52, 90, [], []) rfl rfl rfl ?_
  refine bB_eq (x := l3) (y := 1) h_l3 (by decide : bRg 1) (fun c1 => ?_) (fun c1 => ?_)
  · refine bGo hA 3 4 (74, .aload_n 0, 1, 53, 0, [0], []) rfl rfl rfl ?_
    refine bGo hA 3 5 (75, .getfield 38, 3, 54, 0, [12, 11, 3, 65, 1, 0], []) rfl rfl rfl ?_
    refine ⟨rfl, ?_⟩
    refine bGo hA 3 6 (78, .iload 6, 2, 55, 0, [6], []) rfl rfl rfl ?_
    refine bGo hA 3 7 (80, .iaload, 1, 56, 0, [], []) rfl rfl rfl ?_
    refine ⟨rfl, (bIxP (x := (bi σ 59 (l2 + 3))) (n := 6) (bi_rg _ _ _) (h.2.2.2.1 c1).1), ?_⟩
    refine bEqL (x := (bi σ 59 (l2 + 3))) (bi_rg _ _ _) ?_
    refine bGo hA 3 8 (81, .ifCond .ne (6), 3, 57, 59, [], []) rfl rfl rfl ?_
    refine bB_eq0 (x := (bi σ 65 (bi σ 59 (l2 + 3)))) (bi_rg _ _ _) (fun c2 => ?_) (fun c2 => ?_)
    · refine bGo hA 3 9 (84, .iload 6, 2, 58, 0, [6], []) rfl rfl rfl ?_
      refine bGo hA 3 10 (86, .ireturn, 1, 59, 0, [1], []) rfl rfl rfl ?_
      exact ((h.2.2.2.1 c1).2.1 c2)
    · refine bGo hA 3 11 (87, .aload_n 0, 1, 60, 0, [0], []) rfl rfl rfl ?_
      refine bGo hA 3 12 (88, .getfield 38, 3, 61, 0, [12, 11, 3, 65, 1, 0], []) rfl rfl rfl ?_
      refine ⟨rfl, ?_⟩
      refine bGo hA 3 13 (91, .iload 6, 2, 62, 0, [6], []) rfl rfl rfl ?_
      refine bGo hA 3 14 (93, .iaload, 1, 63, 0, [], []) rfl rfl rfl ?_
      refine ⟨rfl, (bIxP (x := (bi σ 59 (l2 + 3))) (n := 6) (bi_rg _ _ _) (h.2.2.2.1 c1).1), ?_⟩
      refine bEqL (x := (bi σ 59 (l2 + 3))) (bi_rg _ _ _) ?_
      refine bGo hA 3 15 (94, .iconst (2), 1, 64, 0, [], [(2, 0)]) rfl rfl rfl ?_
      refine bEqI bl_2 ?_
      refine bGo hA 4 0 (95, .if_icmp .eq (28), 3, 65, 79, [], []) rfl rfl rfl ?_
      refine bB_eq (x := (bi σ 65 (bi σ 59 (l2 + 3)))) (y := 2) (bi_rg _ _ _) (by decide : bRg 2) (fun c3 => ?_) (fun c3 => ?_)
      · refine bGo hA 4 15 (123, .bipush (8), 2, 80, 0, [], [(8, 0)]) rfl rfl rfl ?_
        refine bEqI bl_8 ?_
        refine bGo hA 5 0 (125, .iload 6, 2, 81, 0, [6], []) rfl rfl rfl ?_
        refine bGo hA 5 1 (127, .imul, 1, 82, 0, [], []) rfl rfl rfl ?_
        refine bEqI (bn_mul 8 (bi σ 59 (l2 + 3))) ?_
        refine bGo hA 5 2 (128, .aload_n 0, 1, 83, 0, [0], []) rfl rfl rfl ?_
        refine bGo hA 5 3 (129, .getfield 20, 3, 84, 0, [12, 4, 3, 59, 1, 0], []) rfl rfl rfl ?_
        refine ⟨rfl, ?_⟩
        refine bGo hA 5 4 (132, .iload_n 2, 1, 85, 0, [2], []) rfl rfl rfl ?_
        refine bGo hA 5 5 (133, .iconst (2), 1, 86, 0, [], [(2, 0)]) rfl rfl rfl ?_
        refine bEqI bl_2 ?_
        refine bGo hA 5 6 (134, .iadd, 1, 87, 0, [], []) rfl rfl rfl ?_
        refine bEqI (bn_add l2 2) ?_
        refine bGo hA 5 7 (135, .iaload, 1, 88, 0, [], []) rfl rfl rfl ?_
        refine ⟨rfl, (bIxP (x := (l2 + 2)) (n := 288) (((h.2.2.2.1 c1).2.2 c2).1 c3).2.1 (((h.2.2.2.1 c1).2.2 c2).1 c3).2.2.1), ?_⟩
        refine bEqL (x := (l2 + 2)) (((h.2.2.2.1 c1).2.2 c2).1 c3).2.1 ?_
        refine bGo hA 5 8 (136, .iadd, 1, 89, 0, [], []) rfl rfl rfl ?_
        refine bEqI (bn_add (8 * (bi σ 59 (l2 + 3))) (bi σ 59 (l2 + 2))) ?_
        refine bGo hA 5 9 (137, .istore 5, 2, 90, 0, [5], []) rfl rfl rfl ?_
        refine bGo hA 5 10 (139, .iload_n 3, 1, 91, 0, [3], []) rfl rfl rfl ?_
        refine bGo hA 5 11 (140, .iconst (2), 1, 92, 0, [], [(2, 0)]) rfl rfl rfl ?_
        refine bEqI bl_2 ?_
        refine bGo hA 5 12 (141, .if_icmp .eq (14), 3, 93, 99, [], []) rfl rfl rfl ?_
        refine bB_eq (x := l3) (y := 2) h_l3 (by decide : bRg 2) (fun c4 => ?_) (fun c4 => ?_)
        · refine bGo hA 6 3 (155, .iconst (1), 1, 100, 0, [], [(1, 0)]) rfl rfl rfl ?_
          refine bEqI bl_1 ?_
          refine bGo hA 6 4 (156, .goto (4), 3, 101, 102, [], []) rfl rfl rfl ?_
          exact ((((h.2.2.2.1 c1).2.2 c2).1 c3).2.2.2.2.1 c4)
        · refine bGo hA 5 13 (144, .iload_n 3, 1, 94, 0, [3], []) rfl rfl rfl ?_
          refine bGo hA 5 14 (145, .iconst (4), 1, 95, 0, [], [(4, 0)]) rfl rfl rfl ?_
          refine bEqI bl_4 ?_
          refine bGo hA 5 15 (146, .if_icmp .eq (9), 3, 96, 99, [], []) rfl rfl rfl ?_
          refine bB_eq (x := l3) (y := 4) h_l3 (by decide : bRg 4) (fun c5 => ?_) (fun c5 => ?_)
          · refine bGo hA 6 3 (155, .iconst (1), 1, 100, 0, [], [(1, 0)]) rfl rfl rfl ?_
            refine bEqI bl_1 ?_
            refine bGo hA 6 4 (156, .goto (4), 3, 101, 102, [], []) rfl rfl rfl ?_
            exact (((((h.2.2.2.1 c1).2.2 c2).1 c3).2.2.2.2.2 c4).1 c5)
          · refine bGo hA 6 0 (149, .iload_n 3, 1, 97, 0, [3], []) rfl rfl rfl ?_
            refine bGo hA 6 1 (150, .bipush (6), 2, 98, 0, [], [(6, 0)]) rfl rfl rfl ?_
            refine bEqI bl_6 ?_
            refine bGo hA 6 2 (152, .if_icmp .ne (7), 3, 99, 101, [], []) rfl rfl rfl ?_
            refine bB_eq (x := l3) (y := 6) h_l3 (by decide : bRg 6) (fun c6 => ?_) (fun c6 => ?_)
            · refine bGo hA 6 3 (155, .iconst (1), 1, 100, 0, [], [(1, 0)]) rfl rfl rfl ?_
              refine bEqI bl_1 ?_
              refine bGo hA 6 4 (156, .goto (4), 3, 101, 102, [], []) rfl rfl rfl ?_
              exact ((((((h.2.2.2.1 c1).2.2 c2).1 c3).2.2.2.2.2 c4).2 c5).1 c6)
            · refine bGo hA 6 5 (159, .iconst (0), 1, 102, 0, [], [(0, 0)]) rfl rfl rfl ?_
              refine bEqI bl_0 ?_
              exact ((((((h.2.2.2.1 c1).2.2 c2).1 c3).2.2.2.2.2 c4).2 c5).2 c6)
      · refine bGo hA 4 1 (98, .aload_n 0, 1, 66, 0, [0], []) rfl rfl rfl ?_
        refine bGo hA 4 2 (99, .iload_n 1, 1, 67, 0, [1], []) rfl rfl rfl ?_
        refine bGo hA 4 3 (100, .aload_n 0, 1, 68, 0, [0], []) rfl rfl rfl ?_
        refine bGo hA 4 4 (101, .getfield 38, 3, 69, 0, [12, 11, 3, 65, 1, 0], []) rfl rfl rfl ?_
        refine ⟨rfl, ?_⟩
        refine bGo hA 4 5 (104, .iload 6, 2, 70, 0, [6], []) rfl rfl rfl ?_
        refine bGo hA 4 6 (106, .iaload, 1, 71, 0, [], []) rfl rfl rfl ?_
        refine ⟨rfl, (bIxP (x := (bi σ 59 (l2 + 3))) (n := 6) (bi_rg _ _ _) (h.2.2.2.1 c1).1), ?_⟩
        refine bEqL (x := (bi σ 59 (l2 + 3))) (bi_rg _ _ _) ?_
        refine bGo hA 4 7 (107, .iconst (1), 1, 72, 0, [], [(1, 0)]) rfl rfl rfl ?_
        refine bEqI bl_1 ?_
        refine bGo hA 4 8 (108, .if_icmp .ne (7), 3, 73, 75, [], []) rfl rfl rfl ?_
        refine bB_eq (x := (bi σ 65 (bi σ 59 (l2 + 3)))) (y := 1) (bi_rg _ _ _) (by decide : bRg 1) (fun c7 => ?_) (fun c7 => ?_)
        · refine bGo hA 4 9 (111, .iconst (5), 1, 74, 0, [], [(5, 0)]) rfl rfl rfl ?_
          refine bEqI bl_5 ?_
          refine bGo hA 4 10 (112, .goto (5), 3, 75, 76, [], []) rfl rfl rfl ?_
          refine bGo hA 4 12 (117, .iload 6, 2, 77, 0, [6], []) rfl rfl rfl ?_
          refine bGo hA 4 13 (119, .invokevirtual 366, 3, 78, 0, [0, 12, 216, 3], []) rfl rfl rfl ?_
          refine ⟨rfl, ?_⟩
          refine hC _ _ _ _ _ (bRn_e (fun r10 s8 q11 k9 => ?_)) ((((h.2.2.2.1 c1).2.2 c2).2 c3).1 c7)
          show A (78, [.ref 12, .int (bn l1), .int (bn l2), .int (bn l3), .int (bn l4), .int (bn (t1 + t0)), .int (bn (bi σ 59 (l2 + 3))), v7, v8, v9, v10], [.int (bn r10)], s8)
          refine bGo hA 4 14 (122, .ireturn, 1, 79, 0, [1], []) rfl rfl rfl ?_
          exact k9
        · refine bGo hA 4 11 (115, .bipush (6), 2, 76, 0, [], [(6, 0)]) rfl rfl rfl ?_
          refine bEqI bl_6 ?_
          refine bGo hA 4 12 (117, .iload 6, 2, 77, 0, [6], []) rfl rfl rfl ?_
          refine bGo hA 4 13 (119, .invokevirtual 366, 3, 78, 0, [0, 12, 216, 3], []) rfl rfl rfl ?_
          refine ⟨rfl, ?_⟩
          refine hC _ _ _ _ _ (bRn_e (fun r14 s12 q15 k13 => ?_)) ((((h.2.2.2.1 c1).2.2 c2).2 c3).2 c7)
          show A (78, [.ref 12, .int (bn l1), .int (bn l2), .int (bn l3), .int (bn l4), .int (bn (t1 + t0)), .int (bn (bi σ 59 (l2 + 3))), v7, v8, v9, v10], [.int (bn r14)], s12)
          refine bGo hA 4 14 (122, .ireturn, 1, 79, 0, [1], []) rfl rfl rfl ?_
          exact k13
  · refine bGo hA 5 10 (139, .iload_n 3, 1, 91, 0, [3], []) rfl rfl rfl ?_
    refine bGo hA 5 11 (140, .iconst (2), 1, 92, 0, [], [(2, 0)]) rfl rfl rfl ?_
    refine bEqI bl_2 ?_
    refine bGo hA 5 12 (141, .if_icmp .eq (14), 3, 93, 99, [], []) rfl rfl rfl ?_
    refine bB_eq (x := l3) (y := 2) h_l3 (by decide : bRg 2) (fun c16 => ?_) (fun c16 => ?_)
    · refine bGo hA 6 3 (155, .iconst (1), 1, 100, 0, [], [(1, 0)]) rfl rfl rfl ?_
      refine bEqI bl_1 ?_
      refine bGo hA 6 4 (156, .goto (4), 3, 101, 102, [], []) rfl rfl rfl ?_
      exact ((h.2.2.2.2 c1).1 c16)
    · refine bGo hA 5 13 (144, .iload_n 3, 1, 94, 0, [3], []) rfl rfl rfl ?_
      refine bGo hA 5 14 (145, .iconst (4), 1, 95, 0, [], [(4, 0)]) rfl rfl rfl ?_
      refine bEqI bl_4 ?_
      refine bGo hA 5 15 (146, .if_icmp .eq (9), 3, 96, 99, [], []) rfl rfl rfl ?_
      refine bB_eq (x := l3) (y := 4) h_l3 (by decide : bRg 4) (fun c17 => ?_) (fun c17 => ?_)
      · refine bGo hA 6 3 (155, .iconst (1), 1, 100, 0, [], [(1, 0)]) rfl rfl rfl ?_
        refine bEqI bl_1 ?_
        refine bGo hA 6 4 (156, .goto (4), 3, 101, 102, [], []) rfl rfl rfl ?_
        exact (((h.2.2.2.2 c1).2 c16).1 c17)
      · refine bGo hA 6 0 (149, .iload_n 3, 1, 97, 0, [3], []) rfl rfl rfl ?_
        refine bGo hA 6 1 (150, .bipush (6), 2, 98, 0, [], [(6, 0)]) rfl rfl rfl ?_
        refine bEqI bl_6 ?_
        refine bGo hA 6 2 (152, .if_icmp .ne (7), 3, 99, 101, [], []) rfl rfl rfl ?_
        refine bB_eq (x := l3) (y := 6) h_l3 (by decide : bRg 6) (fun c18 => ?_) (fun c18 => ?_)
        · refine bGo hA 6 3 (155, .iconst (1), 1, 100, 0, [], [(1, 0)]) rfl rfl rfl ?_
          refine bEqI bl_1 ?_
          refine bGo hA 6 4 (156, .goto (4), 3, 101, 102, [], []) rfl rfl rfl ?_
          exact ((((h.2.2.2.2 c1).2 c16).2 c17).1 c18)
        · refine bGo hA 6 5 (159, .iconst (0), 1, 102, 0, [], [(0, 0)]) rfl rfl rfl ?_
          refine bEqI bl_0 ?_
          exact ((((h.2.2.2.2 c1).2 c16).2 c17).2 c18)

theorem sq218_102 {lvl : Nat} {C : bCall} {Q : bPost} {A : bPt → Prop} (hC : bMono C) (hA : bClosed lvl bm218 C Q A) {l1 : Int} {l2 : Int} {l3 : Int} {l4 : Int} {l5 : Int} {v6 : Value} {v7 : Value} {v8 : Value} {v9 : Value} {v10 : Value} {t0 : Int} {σ : bSt}  (h_l1 : bRg l1) (h_l2 : bRg l2) (h_l3 : bRg l3) (h_l4 : bRg l4) (h_l5 : bRg l5) (h_t0 : bRg t0)
  (h : ((l3 = 1 → ((t0 = 0 → A (126, [.ref 12, .int (bn l1), .int (bn l2), .int (bn l3), .int (bn l4), .int (bn l5), (bUnl v6), .int (bn t0), .int (bn 1), v9, v10], [], σ)) ∧ (¬ t0 = 0 → ((0 ≤ l4 ∧ l4 < 48) ∧ (((bi σ 60 l4) = 0 → ((l3 = 2 → (((bi σ 60 l4) = 2 → A (173, [.ref 12, .int (bn l1), .int (bn l2), .int (bn l3), .int (bn l4), .int (bn l5), (bUnl v6), .int (bn t0), .int (bn 1), .int (bn 1), v10], [.int (bn 1)], σ)) ∧ (¬ (bi σ 60 l4) = 2 → A (149, [.ref 12, .int (bn l1), .int (bn l2), .int (bn l3), .int (bn l4), .int (bn l5), (bUnl v6), .int (bn t0), .int (bn 1), .int (bn 1), v10], [], σ)))) ∧ (¬ l3 = 2 → ((l3 = 6 → (((bi σ 60 l4) = 2 → A (173, [.ref 12, .int (bn l1), .int (bn l2), .int (bn l3), .int (bn l4), .int (bn l5), (bUnl v6), .int (bn t0), .int (bn 1), .int (bn 1), v10], [.int (bn 1)], σ)) ∧ (¬ (bi σ 60 l4) = 2 → A (149, [.ref 12, .int (bn l1), .int (bn l2), .int (bn l3), .int (bn l4), .int (bn l5), (bUnl v6), .int (bn t0), .int (bn 1), .int (bn 1), v10], [], σ)))) ∧ (¬ l3 = 6 → A (149, [.ref 12, .int (bn l1), .int (bn l2), .int (bn l3), .int (bn l4), .int (bn l5), (bUnl v6), .int (bn t0), .int (bn 1), .int (bn 1), v10], [], σ)))))) ∧ (¬ (bi σ 60 l4) = 0 → A (126, [.ref 12, .int (bn l1), .int (bn l2), .int (bn l3), .int (bn l4), .int (bn l5), (bUnl v6), .int (bn t0), .int (bn 1), v9, v10], [], σ))))))) ∧ (¬ l3 = 1 → ((l3 = 2 → ((t0 = 0 → A (126, [.ref 12, .int (bn l1), .int (bn l2), .int (bn l3), .int (bn l4), .int (bn l5), (bUnl v6), .int (bn t0), .int (bn 1), v9, v10], [], σ)) ∧ (¬ t0 = 0 → ((0 ≤ l4 ∧ l4 < 48) ∧ (((bi σ 60 l4) = 0 → ((l3 = 2 → (((bi σ 60 l4) = 2 → A (173, [.ref 12, .int (bn l1), .int (bn l2), .int (bn l3), .int (bn l4), .int (bn l5), (bUnl v6), .int (bn t0), .int (bn 1), .int (bn 1), v10], [.int (bn 1)], σ)) ∧ (¬ (bi σ 60 l4) = 2 → A (149, [.ref 12, .int (bn l1), .int (bn l2), .int (bn l3), .int (bn l4), .int (bn l5), (bUnl v6), .int (bn t0), .int (bn 1), .int (bn 1), v10], [], σ)))) ∧ (¬ l3 = 2 → ((l3 = 6 → (((bi σ 60 l4) = 2 → A (173, [.ref 12, .int (bn l1), .int (bn l2), .int (bn l3), .int (bn l4), .int (bn l5), (bUnl v6), .int (bn t0), .int (bn 1), .int (bn 1), v10], [.int (bn 1)], σ)) ∧ (¬ (bi σ 60 l4) = 2 → A (149, [.ref 12, .int (bn l1), .int (bn l2), .int (bn l3), .int (bn l4), .int (bn l5), (bUnl v6), .int (bn t0), .int (bn 1), .int (bn 1), v10], [], σ)))) ∧ (¬ l3 = 6 → A (149, [.ref 12, .int (bn l1), .int (bn l2), .int (bn l3), .int (bn l4), .int (bn l5), (bUnl v6), .int (bn t0), .int (bn 1), .int (bn 1), v10], [], σ)))))) ∧ (¬ (bi σ 60 l4) = 0 → A (126, [.ref 12, .int (bn l1), .int (bn l2), .int (bn l3), .int (bn l4), .int (bn l5), (bUnl v6), .int (bn t0), .int (bn 1), v9, v10], [], σ))))))) ∧ (¬ l3 = 2 → ((l3 = 4 → ((t0 = 0 → A (126, [.ref 12, .int (bn l1), .int (bn l2), .int (bn l3), .int (bn l4), .int (bn l5), (bUnl v6), .int (bn t0), .int (bn 1), v9, v10], [], σ)) ∧ (¬ t0 = 0 → ((0 ≤ l4 ∧ l4 < 48) ∧ (((bi σ 60 l4) = 0 → ((l3 = 2 → (((bi σ 60 l4) = 2 → A (173, [.ref 12, .int (bn l1), .int (bn l2), .int (bn l3), .int (bn l4), .int (bn l5), (bUnl v6), .int (bn t0), .int (bn 1), .int (bn 1), v10], [.int (bn 1)], σ)) ∧ (¬ (bi σ 60 l4) = 2 → A (149, [.ref 12, .int (bn l1), .int (bn l2), .int (bn l3), .int (bn l4), .int (bn l5), (bUnl v6), .int (bn t0), .int (bn 1), .int (bn 1), v10], [], σ)))) ∧ (¬ l3 = 2 → ((l3 = 6 → (((bi σ 60 l4) = 2 → A (173, [.ref 12, .int (bn l1), .int (bn l2), .int (bn l3), .int (bn l4), .int (bn l5), (bUnl v6), .int (bn t0), .int (bn 1), .int (bn 1), v10], [.int (bn 1)], σ)) ∧ (¬ (bi σ 60 l4) = 2 → A (149, [.ref 12, .int (bn l1), .int (bn l2), .int (bn l3), .int (bn l4), .int (bn l5), (bUnl v6), .int (bn t0), .int (bn 1), .int (bn 1), v10], [], σ)))) ∧ (¬ l3 = 6 → A (149, [.ref 12, .int (bn l1), .int (bn l2), .int (bn l3), .int (bn l4), .int (bn l5), (bUnl v6), .int (bn t0), .int (bn 1), .int (bn 1), v10], [], σ)))))) ∧ (¬ (bi σ 60 l4) = 0 → A (126, [.ref 12, .int (bn l1), .int (bn l2), .int (bn l3), .int (bn l4), .int (bn l5), (bUnl v6), .int (bn t0), .int (bn 1), v9, v10], [], σ))))))) ∧ (¬ l3 = 4 → ((l3 = 5 → ((t0 = 0 → A (126, [.ref 12, .int (bn l1), .int (bn l2), .int (bn l3), .int (bn l4), .int (bn l5), (bUnl v6), .int (bn t0), .int (bn 1), v9, v10], [], σ)) ∧ (¬ t0 = 0 → ((0 ≤ l4 ∧ l4 < 48) ∧ (((bi σ 60 l4) = 0 → ((l3 = 2 → (((bi σ 60 l4) = 2 → A (173, [.ref 12, .int (bn l1), .int (bn l2), .int (bn l3), .int (bn l4), .int (bn l5), (bUnl v6), .int (bn t0), .int (bn 1), .int (bn 1), v10], [.int (bn 1)], σ)) ∧ (¬ (bi σ 60 l4) = 2 → A (149, [.ref 12, .int (bn l1), .int (bn l2), .int (bn l3), .int (bn l4), .int (bn l5), (bUnl v6), .int (bn t0), .int (bn 1), .int (bn 1), v10], [], σ)))) ∧ (¬ l3 = 2 → ((l3 = 6 → (((bi σ 60 l4) = 2 → A (173, [.ref 12, .int (bn l1), .int (bn l2), .int (bn l3), .int (bn l4), .int (bn l5), (bUnl v6), .int (bn t0), .int (bn 1), .int (bn 1), v10], [.int (bn 1)], σ)) ∧ (¬ (bi σ 60 l4) = 2 → A (149, [.ref 12, .int (bn l1), .int (bn l2), .int (bn l3), .int (bn l4), .int (bn l5), (bUnl v6), .int (bn t0), .int (bn 1), .int (bn 1), v10], [], σ)))) ∧ (¬ l3 = 6 → A (149, [.ref 12, .int (bn l1), .int (bn l2), .int (bn l3), .int (bn l4), .int (bn l5), (bUnl v6), .int (bn t0), .int (bn 1), .int (bn 1), v10], [], σ)))))) ∧ (¬ (bi σ 60 l4) = 0 → A (126, [.ref 12, .int (bn l1), .int (bn l2), .int (bn l3), .int (bn l4), .int (bn l5), (bUnl v6), .int (bn t0), .int (bn 1), v9, v10], [], σ))))))) ∧ (¬ l3 = 5 → ((t0 = 0 → A (126, [.ref 12, .int (bn l1), .int (bn l2), .int (bn l3), .int (bn l4), .int (bn l5), (bUnl v6), .int (bn t0), .int (bn 0), v9, v10], [], σ)) ∧ (¬ t0 = 0 → ((0 ≤ l4 ∧ l4 < 48) ∧ (((bi σ 60 l4) = 0 → ((l3 = 2 → (((bi σ 60 l4) = 2 → A (173, [.ref 12, .int (bn l1), .int (bn l2), .int (bn l3), .int (bn l4), .int (bn l5), (bUnl v6), .int (bn t0), .int (bn 0), .int (bn 1), v10], [.int (bn 1)], σ)) ∧ (¬ (bi σ 60 l4) = 2 → A (149, [.ref 12, .int (bn l1), .int (bn l2), .int (bn l3), .int (bn l4), .int (bn l5), (bUnl v6), .int (bn t0), .int (bn 0), .int (bn 1), v10], [], σ)))) ∧ (¬ l3 = 2 → ((l3 = 6 → (((bi σ 60 l4) = 2 → A (173, [.ref 12, .int (bn l1), .int (bn l2), .int (bn l3), .int (bn l4), .int (bn l5), (bUnl v6), .int (bn t0), .int (bn 0), .int (bn 1), v10], [.int (bn 1)], σ)) ∧ (¬ (bi σ 60 l4) = 2 → A (149, [.ref 12, .int (bn l1), .int (bn l2), .int (bn l3), .int (bn l4), .int (bn l5), (bUnl v6), .int (bn t0), .int (bn 0), .int (bn 1), v10], [], σ)))) ∧ (¬ l3 = 6 → A (149, [.ref 12, .int (bn l1), .int (bn l2), .int (bn l3), .int (bn l4), .int (bn l5), (bUnl v6), .int (bn t0), .int (bn 0), .int (bn 1), v10], [], σ)))))) ∧ (¬ (bi σ 60 l4) = 0 → A (126, [.ref 12, .int (bn l1), .int (bn l2), .int (bn l3), .int (bn l4), .int (bn l5), (bUnl v6), .int (bn t0), .int (bn 0), v9, v10], [], σ))))))))))))))) : A (102, [.ref 12, .int (bn l1), .int (bn l2), .int (bn l3), .int (bn l4), .int (bn l5), v6, v7, v8, v9, v10], [.int (bn t0)], σ) := by
  refine bGo hA 6 6 (160, .istore 7, 2, 103, 0, [7], []) rfl rfl rfl ?_
  refine bGo hA 6 7 (162, .iload_n 3, 1, 104, 0, [3], []) rfl rfl rfl ?_
  refine bGo hA 6 8 (163, .iconst (1), 1, 105, 0, [], [(1, 0)]) rfl rfl rfl ?_
  refine bEqI bl_1 ?_
  refine bGo hA 6 9 (164, .if_icmp .eq (18), 3, 106, 115, [], []) rfl rfl rfl ?_
  refine bB_eq (x := l3) (y := 1) h_l3 (by decide : bRg 1) (fun c1 => ?_) (fun c1 => ?_)
  · refine bGo hA 7 3 (182, .iconst (1), 1, 116, 0, [], [(1, 0)]) rfl rfl rfl ?_
    refine bEqI bl_1 ?_
    refine bGo hA 7 4 (183, .goto (4), 3, 117, 118, [], []) rfl rfl rfl ?_
    refine bGo hA 7 6 (187, .istore 8, 2, 119, 0, [8], []) rfl rfl rfl ?_
    refine bGo hA 7 7 (189, .iload 7, 2, 120, 0, [7], []) rfl rfl rfl ?_
    refine bGo hA 7 8 (191, .ifCond .eq (13), 3, 121, 126, [], []) rfl rfl rfl ?_
    refine bB_eq0 (x := t0) h_t0 (fun c2 => ?_) (fun c2 => ?_)
    · exact ((h.1 c1).1 c2)
    · refine bGo hA 7 9 (194, .aload_n 0, 1, 122, 0, [0], []) rfl rfl rfl ?_
      refine bGo hA 7 10 (195, .getfield 23, 3, 123, 0, [12, 5, 3, 60, 1, 0], []) rfl rfl rfl ?_
      refine ⟨rfl, ?_⟩
      refine bGo hA 7 11 (198, .iload 4, 2, 124, 0, [4], []) rfl rfl rfl ?_
      refine bGo hA 7 12 (200, .iaload, 1, 125, 0, [], []) rfl rfl rfl ?_
      refine ⟨rfl, (bIxP (x := l4) (n := 48) h_l4 ((h.1 c1).2 c2).1), ?_⟩
      refine bEqL (x := l4) h_l4 ?_
      refine bGo hA 7 13 (201, .ifCond .eq (18), 3, 126, 133, [], []) rfl rfl rfl ?_
      refine bB_eq0 (x := (bi σ 60 l4)) (bi_rg _ _ _) (fun c3 => ?_) (fun c3 => ?_)
      · refine bGo hA 8 5 (219, .iconst (1), 1, 134, 0, [], [(1, 0)]) rfl rfl rfl ?_
        refine bEqI bl_1 ?_
        refine bGo hA 8 6 (220, .goto (4), 3, 135, 136, [], []) rfl rfl rfl ?_
        refine bGo hA 8 8 (224, .istore 9, 2, 137, 0, [9], []) rfl rfl rfl ?_
        refine bGo hA 8 9 (226, .iload_n 3, 1, 138, 0, [3], []) rfl rfl rfl ?_
        refine bGo hA 8 10 (227, .iconst (2), 1, 139, 0, [], [(2, 0)]) rfl rfl rfl ?_
        refine bEqI bl_2 ?_
        refine bGo hA 8 11 (228, .if_icmp .eq (9), 3, 140, 143, [], []) rfl rfl rfl ?_
        refine bB_eq (x := l3) (y := 2) h_l3 (by decide : bRg 2) (fun c4 => ?_) (fun c4 => ?_)
        · refine bGo hA 8 15 (237, .aload_n 0, 1, 144, 0, [0], []) rfl rfl rfl ?_
          refine bGo hA 9 0 (238, .getfield 23, 3, 145, 0, [12, 5, 3, 60, 1, 0], []) rfl rfl rfl ?_
          refine ⟨rfl, ?_⟩
          refine bGo hA 9 1 (241, .iload 4, 2, 146, 0, [4], []) rfl rfl rfl ?_
          refine bGo hA 9 2 (243, .iaload, 1, 147, 0, [], []) rfl rfl rfl ?_
          refine ⟨rfl, (bIxP (x := l4) (n := 48) h_l4 ((h.1 c1).2 c2).1), ?_⟩
          refine bEqL (x := l4) h_l4 ?_
          refine bGo hA 9 3 (244, .iconst (2), 1, 148, 0, [], [(2, 0)]) rfl rfl rfl ?_
          refine bEqI bl_2 ?_
          refine bGo hA 9 4 (245, .if_icmp .eq (40), 3, 149, 170, [], []) rfl rfl rfl ?_
          refine bB_eq (x := (bi σ 60 l4)) (y := 2) (bi_rg _ _ _) (by decide : bRg 2) (fun c5 => ?_) (fun c5 => ?_)
          · refine bGo hA 10 10 (285, .iconst (1), 1, 171, 0, [], [(1, 0)]) rfl rfl rfl ?_
            refine bEqI bl_1 ?_
            refine bGo hA 10 11 (286, .goto (4), 3, 172, 173, [], []) rfl rfl rfl ?_
            exact (((((h.1 c1).2 c2).2.1 c3).1 c4).1 c5)
          · exact (((((h.1 c1).2 c2).2.1 c3).1 c4).2 c5)
        · refine bGo hA 8 12 (231, .iload_n 3, 1, 141, 0, [3], []) rfl rfl rfl ?_
          refine bGo hA 8 13 (232, .bipush (6), 2, 142, 0, [], [(6, 0)]) rfl rfl rfl ?_
          refine bEqI bl_6 ?_
          refine bGo hA 8 14 (234, .if_icmp .ne (14), 3, 143, 149, [], []) rfl rfl rfl ?_
          refine bB_eq (x := l3) (y := 6) h_l3 (by decide : bRg 6) (fun c6 => ?_) (fun c6 => ?_)
          · refine bGo hA 8 15 (237, .aload_n 0, 1, 144, 0, [0], []) rfl rfl rfl ?_
            refine bGo hA 9 0 (238, .getfield 23, 3, 145, 0, [12, 5, 3, 60, 1, 0], []) rfl rfl rfl ?_
            refine ⟨rfl, ?_⟩
            refine bGo hA 9 1 (241, .iload 4, 2, 146, 0, [4], []) rfl rfl rfl ?_
            refine bGo hA 9 2 (243, .iaload, 1, 147, 0, [], []) rfl rfl rfl ?_
            refine ⟨rfl, (bIxP (x := l4) (n := 48) h_l4 ((h.1 c1).2 c2).1), ?_⟩
            refine bEqL (x := l4) h_l4 ?_
            refine bGo hA 9 3 (244, .iconst (2), 1, 148, 0, [], [(2, 0)]) rfl rfl rfl ?_
            refine bEqI bl_2 ?_
            refine bGo hA 9 4 (245, .if_icmp .eq (40), 3, 149, 170, [], []) rfl rfl rfl ?_
            refine bB_eq (x := (bi σ 60 l4)) (y := 2) (bi_rg _ _ _) (by decide : bRg 2) (fun c7 => ?_) (fun c7 => ?_)
            · refine bGo hA 10 10 (285, .iconst (1), 1, 171, 0, [], [(1, 0)]) rfl rfl rfl ?_
              refine bEqI bl_1 ?_
              refine bGo hA 10 11 (286, .goto (4), 3, 172, 173, [], []) rfl rfl rfl ?_
              exact ((((((h.1 c1).2 c2).2.1 c3).2 c4).1 c6).1 c7)
            · exact ((((((h.1 c1).2 c2).2.1 c3).2 c4).1 c6).2 c7)
          · exact (((((h.1 c1).2 c2).2.1 c3).2 c4).2 c6)
      · exact (((h.1 c1).2 c2).2.2 c3)
  · refine bGo hA 6 10 (167, .iload_n 3, 1, 107, 0, [3], []) rfl rfl rfl ?_
    refine bGo hA 6 11 (168, .iconst (2), 1, 108, 0, [], [(2, 0)]) rfl rfl rfl ?_
    refine bEqI bl_2 ?_
    refine bGo hA 6 12 (169, .if_icmp .eq (13), 3, 109, 115, [], []) rfl rfl rfl ?_
    refine bB_eq (x := l3) (y := 2) h_l3 (by decide : bRg 2) (fun c8 => ?_) (fun c8 => ?_)
    · refine bGo hA 7 3 (182, .iconst (1), 1, 116, 0, [], [(1, 0)]) rfl rfl rfl ?_
      refine bEqI bl_1 ?_
      refine bGo hA 7 4 (183, .goto (4), 3, 117, 118, [], []) rfl rfl rfl ?_
      refine bGo hA 7 6 (187, .istore 8, 2, 119, 0, [8], []) rfl rfl rfl ?_
      refine bGo hA 7 7 (189, .iload 7, 2, 120, 0, [7], []) rfl rfl rfl ?_
      refine bGo hA 7 8 (191, .ifCond .eq (13), 3, 121, 126, [], []) rfl rfl rfl ?_
      refine bB_eq0 (x := t0) h_t0 (fun c9 => ?_) (fun c9 => ?_)
      · exact (((h.2 c1).1 c8).1 c9)
      · refine bGo hA 7 9 (194, .aload_n 0, 1, 122, 0, [0], []) rfl rfl rfl ?_
        refine bGo hA 7 10 (195, .getfield 23, 3, 123, 0, [12, 5, 3, 60, 1, 0], []) rfl rfl rfl ?_
        refine ⟨rfl, ?_⟩
        refine bGo hA 7 11 (198, .iload 4, 2, 124, 0, [4], []) rfl rfl rfl ?_
        refine bGo hA 7 12 (200, .iaload, 1, 125, 0, [], []) rfl rfl rfl ?_
        refine ⟨rfl, (bIxP (x := l4) (n := 48) h_l4 (((h.2 c1).1 c8).2 c9).1), ?_⟩
        refine bEqL (x := l4) h_l4 ?_
        refine bGo hA 7 13 (201, .ifCond .eq (18), 3, 126, 133, [], []) rfl rfl rfl ?_
        refine bB_eq0 (x := (bi σ 60 l4)) (bi_rg _ _ _) (fun c10 => ?_) (fun c10 => ?_)
        · refine bGo hA 8 5 (219, .iconst (1), 1, 134, 0, [], [(1, 0)]) rfl rfl rfl ?_
          refine bEqI bl_1 ?_
          refine bGo hA 8 6 (220, .goto (4), 3, 135, 136, [], []) rfl rfl rfl ?_
          refine bGo hA 8 8 (224, .istore 9, 2, 137, 0, [9], []) rfl rfl rfl ?_
          refine bGo hA 8 9 (226, .iload_n 3, 1, 138, 0, [3], []) rfl rfl rfl ?_
          refine bGo hA 8 10 (227, .iconst (2), 1, 139, 0, [], [(2, 0)]) rfl rfl rfl ?_
          refine bEqI bl_2 ?_
          refine bGo hA 8 11 (228, .if_icmp .eq (9), 3, 140, 143, [], []) rfl rfl rfl ?_
          refine bB_eq (x := l3) (y := 2) h_l3 (by decide : bRg 2) (fun c11 => ?_) (fun c11 => ?_)
          · refine bGo hA 8 15 (237, .aload_n 0, 1, 144, 0, [0], []) rfl rfl rfl ?_
            refine bGo hA 9 0 (238, .getfield 23, 3, 145, 0, [12, 5, 3, 60, 1, 0], []) rfl rfl rfl ?_
            refine ⟨rfl, ?_⟩
            refine bGo hA 9 1 (241, .iload 4, 2, 146, 0, [4], []) rfl rfl rfl ?_
            refine bGo hA 9 2 (243, .iaload, 1, 147, 0, [], []) rfl rfl rfl ?_
            refine ⟨rfl, (bIxP (x := l4) (n := 48) h_l4 (((h.2 c1).1 c8).2 c9).1), ?_⟩
            refine bEqL (x := l4) h_l4 ?_
            refine bGo hA 9 3 (244, .iconst (2), 1, 148, 0, [], [(2, 0)]) rfl rfl rfl ?_
            refine bEqI bl_2 ?_
            refine bGo hA 9 4 (245, .if_icmp .eq (40), 3, 149, 170, [], []) rfl rfl rfl ?_
            refine bB_eq (x := (bi σ 60 l4)) (y := 2) (bi_rg _ _ _) (by decide : bRg 2) (fun c12 => ?_) (fun c12 => ?_)
            · refine bGo hA 10 10 (285, .iconst (1), 1, 171, 0, [], [(1, 0)]) rfl rfl rfl ?_
              refine bEqI bl_1 ?_
              refine bGo hA 10 11 (286, .goto (4), 3, 172, 173, [], []) rfl rfl rfl ?_
              exact ((((((h.2 c1).1 c8).2 c9).2.1 c10).1 c11).1 c12)
            · exact ((((((h.2 c1).1 c8).2 c9).2.1 c10).1 c11).2 c12)
          · refine bGo hA 8 12 (231, .iload_n 3, 1, 141, 0, [3], []) rfl rfl rfl ?_
            refine bGo hA 8 13 (232, .bipush (6), 2, 142, 0, [], [(6, 0)]) rfl rfl rfl ?_
            refine bEqI bl_6 ?_
            refine bGo hA 8 14 (234, .if_icmp .ne (14), 3, 143, 149, [], []) rfl rfl rfl ?_
            refine bB_eq (x := l3) (y := 6) h_l3 (by decide : bRg 6) (fun c13 => ?_) (fun c13 => ?_)
            · refine bGo hA 8 15 (237, .aload_n 0, 1, 144, 0, [0], []) rfl rfl rfl ?_
              refine bGo hA 9 0 (238, .getfield 23, 3, 145, 0, [12, 5, 3, 60, 1, 0], []) rfl rfl rfl ?_
              refine ⟨rfl, ?_⟩
              refine bGo hA 9 1 (241, .iload 4, 2, 146, 0, [4], []) rfl rfl rfl ?_
              refine bGo hA 9 2 (243, .iaload, 1, 147, 0, [], []) rfl rfl rfl ?_
              refine ⟨rfl, (bIxP (x := l4) (n := 48) h_l4 (((h.2 c1).1 c8).2 c9).1), ?_⟩
              refine bEqL (x := l4) h_l4 ?_
              refine bGo hA 9 3 (244, .iconst (2), 1, 148, 0, [], [(2, 0)]) rfl rfl rfl ?_
              refine bEqI bl_2 ?_
              refine bGo hA 9 4 (245, .if_icmp .eq (40), 3, 149, 170, [], []) rfl rfl rfl ?_
              refine bB_eq (x := (bi σ 60 l4)) (y := 2) (bi_rg _ _ _) (by decide : bRg 2) (fun c14 => ?_) (fun c14 => ?_)
              · refine bGo hA 10 10 (285, .iconst (1), 1, 171, 0, [], [(1, 0)]) rfl rfl rfl ?_
                refine bEqI bl_1 ?_
                refine bGo hA 10 11 (286, .goto (4), 3, 172, 173, [], []) rfl rfl rfl ?_
                exact (((((((h.2 c1).1 c8).2 c9).2.1 c10).2 c11).1 c13).1 c14)
              · exact (((((((h.2 c1).1 c8).2 c9).2.1 c10).2 c11).1 c13).2 c14)
            · exact ((((((h.2 c1).1 c8).2 c9).2.1 c10).2 c11).2 c13)
        · exact ((((h.2 c1).1 c8).2 c9).2.2 c10)
    · refine bGo hA 6 13 (172, .iload_n 3, 1, 110, 0, [3], []) rfl rfl rfl ?_
      refine bGo hA 6 14 (173, .iconst (4), 1, 111, 0, [], [(4, 0)]) rfl rfl rfl ?_
      refine bEqI bl_4 ?_
      refine bGo hA 6 15 (174, .if_icmp .eq (8), 3, 112, 115, [], []) rfl rfl rfl ?_
      refine bB_eq (x := l3) (y := 4) h_l3 (by decide : bRg 4) (fun c15 => ?_) (fun c15 => ?_)
      · refine bGo hA 7 3 (182, .iconst (1), 1, 116, 0, [], [(1, 0)]) rfl rfl rfl ?_
        refine bEqI bl_1 ?_
        refine bGo hA 7 4 (183, .goto (4), 3, 117, 118, [], []) rfl rfl rfl ?_
        refine bGo hA 7 6 (187, .istore 8, 2, 119, 0, [8], []) rfl rfl rfl ?_
        refine bGo hA 7 7 (189, .iload 7, 2, 120, 0, [7], []) rfl rfl rfl ?_
        refine bGo hA 7 8 (191, .ifCond .eq (13), 3, 121, 126, [], []) rfl rfl rfl ?_
        refine bB_eq0 (x := t0) h_t0 (fun c16 => ?_) (fun c16 => ?_)
        · exact ((((h.2 c1).2 c8).1 c15).1 c16)
        · refine bGo hA 7 9 (194, .aload_n 0, 1, 122, 0, [0], []) rfl rfl rfl ?_
          refine bGo hA 7 10 (195, .getfield 23, 3, 123, 0, [12, 5, 3, 60, 1, 0], []) rfl rfl rfl ?_
          refine ⟨rfl, ?_⟩
          refine bGo hA 7 11 (198, .iload 4, 2, 124, 0, [4], []) rfl rfl rfl ?_
          refine bGo hA 7 12 (200, .iaload, 1, 125, 0, [], []) rfl rfl rfl ?_
          refine ⟨rfl, (bIxP (x := l4) (n := 48) h_l4 ((((h.2 c1).2 c8).1 c15).2 c16).1), ?_⟩
          refine bEqL (x := l4) h_l4 ?_
          refine bGo hA 7 13 (201, .ifCond .eq (18), 3, 126, 133, [], []) rfl rfl rfl ?_
          refine bB_eq0 (x := (bi σ 60 l4)) (bi_rg _ _ _) (fun c17 => ?_) (fun c17 => ?_)
          · refine bGo hA 8 5 (219, .iconst (1), 1, 134, 0, [], [(1, 0)]) rfl rfl rfl ?_
            refine bEqI bl_1 ?_
            refine bGo hA 8 6 (220, .goto (4), 3, 135, 136, [], []) rfl rfl rfl ?_
            refine bGo hA 8 8 (224, .istore 9, 2, 137, 0, [9], []) rfl rfl rfl ?_
            refine bGo hA 8 9 (226, .iload_n 3, 1, 138, 0, [3], []) rfl rfl rfl ?_
            refine bGo hA 8 10 (227, .iconst (2), 1, 139, 0, [], [(2, 0)]) rfl rfl rfl ?_
            refine bEqI bl_2 ?_
            refine bGo hA 8 11 (228, .if_icmp .eq (9), 3, 140, 143, [], []) rfl rfl rfl ?_
            refine bB_eq (x := l3) (y := 2) h_l3 (by decide : bRg 2) (fun c18 => ?_) (fun c18 => ?_)
            · refine bGo hA 8 15 (237, .aload_n 0, 1, 144, 0, [0], []) rfl rfl rfl ?_
              refine bGo hA 9 0 (238, .getfield 23, 3, 145, 0, [12, 5, 3, 60, 1, 0], []) rfl rfl rfl ?_
              refine ⟨rfl, ?_⟩
              refine bGo hA 9 1 (241, .iload 4, 2, 146, 0, [4], []) rfl rfl rfl ?_
              refine bGo hA 9 2 (243, .iaload, 1, 147, 0, [], []) rfl rfl rfl ?_
              refine ⟨rfl, (bIxP (x := l4) (n := 48) h_l4 ((((h.2 c1).2 c8).1 c15).2 c16).1), ?_⟩
              refine bEqL (x := l4) h_l4 ?_
              refine bGo hA 9 3 (244, .iconst (2), 1, 148, 0, [], [(2, 0)]) rfl rfl rfl ?_
              refine bEqI bl_2 ?_
              refine bGo hA 9 4 (245, .if_icmp .eq (40), 3, 149, 170, [], []) rfl rfl rfl ?_
              refine bB_eq (x := (bi σ 60 l4)) (y := 2) (bi_rg _ _ _) (by decide : bRg 2) (fun c19 => ?_) (fun c19 => ?_)
              · refine bGo hA 10 10 (285, .iconst (1), 1, 171, 0, [], [(1, 0)]) rfl rfl rfl ?_
                refine bEqI bl_1 ?_
                refine bGo hA 10 11 (286, .goto (4), 3, 172, 173, [], []) rfl rfl rfl ?_
                exact (((((((h.2 c1).2 c8).1 c15).2 c16).2.1 c17).1 c18).1 c19)
              · exact (((((((h.2 c1).2 c8).1 c15).2 c16).2.1 c17).1 c18).2 c19)
            · refine bGo hA 8 12 (231, .iload_n 3, 1, 141, 0, [3], []) rfl rfl rfl ?_
              refine bGo hA 8 13 (232, .bipush (6), 2, 142, 0, [], [(6, 0)]) rfl rfl rfl ?_
              refine bEqI bl_6 ?_
              refine bGo hA 8 14 (234, .if_icmp .ne (14), 3, 143, 149, [], []) rfl rfl rfl ?_
              refine bB_eq (x := l3) (y := 6) h_l3 (by decide : bRg 6) (fun c20 => ?_) (fun c20 => ?_)
              · refine bGo hA 8 15 (237, .aload_n 0, 1, 144, 0, [0], []) rfl rfl rfl ?_
                refine bGo hA 9 0 (238, .getfield 23, 3, 145, 0, [12, 5, 3, 60, 1, 0], []) rfl rfl rfl ?_
                refine ⟨rfl, ?_⟩
                refine bGo hA 9 1 (241, .iload 4, 2, 146, 0, [4], []) rfl rfl rfl ?_
                refine bGo hA 9 2 (243, .iaload, 1, 147, 0, [], []) rfl rfl rfl ?_
                refine ⟨rfl, (bIxP (x := l4) (n := 48) h_l4 ((((h.2 c1).2 c8).1 c15).2 c16).1), ?_⟩
                refine bEqL (x := l4) h_l4 ?_
                refine bGo hA 9 3 (244, .iconst (2), 1, 148, 0, [], [(2, 0)]) rfl rfl rfl ?_
                refine bEqI bl_2 ?_
                refine bGo hA 9 4 (245, .if_icmp .eq (40), 3, 149, 170, [], []) rfl rfl rfl ?_
                refine bB_eq (x := (bi σ 60 l4)) (y := 2) (bi_rg _ _ _) (by decide : bRg 2) (fun c21 => ?_) (fun c21 => ?_)
                · refine bGo hA 10 10 (285, .iconst (1), 1, 171, 0, [], [(1, 0)]) rfl rfl rfl ?_
                  refine bEqI bl_1 ?_
                  refine bGo hA 10 11 (286, .goto (4), 3, 172, 173, [], []) rfl rfl rfl ?_
                  exact ((((((((h.2 c1).2 c8).1 c15).2 c16).2.1 c17).2 c18).1 c20).1 c21)
                · exact ((((((((h.2 c1).2 c8).1 c15).2 c16).2.1 c17).2 c18).1 c20).2 c21)
              · exact (((((((h.2 c1).2 c8).1 c15).2 c16).2.1 c17).2 c18).2 c20)
          · exact (((((h.2 c1).2 c8).1 c15).2 c16).2.2 c17)
      · refine bGo hA 7 0 (177, .iload_n 3, 1, 113, 0, [3], []) rfl rfl rfl ?_
        refine bGo hA 7 1 (178, .iconst (5), 1, 114, 0, [], [(5, 0)]) rfl rfl rfl ?_
        refine bEqI bl_5 ?_
        refine bGo hA 7 2 (179, .if_icmp .ne (7), 3, 115, 117, [], []) rfl rfl rfl ?_
        refine bB_eq (x := l3) (y := 5) h_l3 (by decide : bRg 5) (fun c22 => ?_) (fun c22 => ?_)
        · refine bGo hA 7 3 (182, .iconst (1), 1, 116, 0, [], [(1, 0)]) rfl rfl rfl ?_
          refine bEqI bl_1 ?_
          refine bGo hA 7 4 (183, .goto (4), 3, 117, 118, [], []) rfl rfl rfl ?_
          refine bGo hA 7 6 (187, .istore 8, 2, 119, 0, [8], []) rfl rfl rfl ?_
          refine bGo hA 7 7 (189, .iload 7, 2, 120, 0, [7], []) rfl rfl rfl ?_
          refine bGo hA 7 8 (191, .ifCond .eq (13), 3, 121, 126, [], []) rfl rfl rfl ?_
          refine bB_eq0 (x := t0) h_t0 (fun c23 => ?_) (fun c23 => ?_)
          · exact (((((h.2 c1).2 c8).2 c15).1 c22).1 c23)
          · refine bGo hA 7 9 (194, .aload_n 0, 1, 122, 0, [0], []) rfl rfl rfl ?_
            refine bGo hA 7 10 (195, .getfield 23, 3, 123, 0, [12, 5, 3, 60, 1, 0], []) rfl rfl rfl ?_
            refine ⟨rfl, ?_⟩
            refine bGo hA 7 11 (198, .iload 4, 2, 124, 0, [4], []) rfl rfl rfl ?_
            refine bGo hA 7 12 (200, .iaload, 1, 125, 0, [], []) rfl rfl rfl ?_
            refine ⟨rfl, (bIxP (x := l4) (n := 48) h_l4 (((((h.2 c1).2 c8).2 c15).1 c22).2 c23).1), ?_⟩
            refine bEqL (x := l4) h_l4 ?_
            refine bGo hA 7 13 (201, .ifCond .eq (18), 3, 126, 133, [], []) rfl rfl rfl ?_
            refine bB_eq0 (x := (bi σ 60 l4)) (bi_rg _ _ _) (fun c24 => ?_) (fun c24 => ?_)
            · refine bGo hA 8 5 (219, .iconst (1), 1, 134, 0, [], [(1, 0)]) rfl rfl rfl ?_
              refine bEqI bl_1 ?_
              refine bGo hA 8 6 (220, .goto (4), 3, 135, 136, [], []) rfl rfl rfl ?_
              refine bGo hA 8 8 (224, .istore 9, 2, 137, 0, [9], []) rfl rfl rfl ?_
              refine bGo hA 8 9 (226, .iload_n 3, 1, 138, 0, [3], []) rfl rfl rfl ?_
              refine bGo hA 8 10 (227, .iconst (2), 1, 139, 0, [], [(2, 0)]) rfl rfl rfl ?_
              refine bEqI bl_2 ?_
              refine bGo hA 8 11 (228, .if_icmp .eq (9), 3, 140, 143, [], []) rfl rfl rfl ?_
              refine bB_eq (x := l3) (y := 2) h_l3 (by decide : bRg 2) (fun c25 => ?_) (fun c25 => ?_)
              · refine bGo hA 8 15 (237, .aload_n 0, 1, 144, 0, [0], []) rfl rfl rfl ?_
                refine bGo hA 9 0 (238, .getfield 23, 3, 145, 0, [12, 5, 3, 60, 1, 0], []) rfl rfl rfl ?_
                refine ⟨rfl, ?_⟩
                refine bGo hA 9 1 (241, .iload 4, 2, 146, 0, [4], []) rfl rfl rfl ?_
                refine bGo hA 9 2 (243, .iaload, 1, 147, 0, [], []) rfl rfl rfl ?_
                refine ⟨rfl, (bIxP (x := l4) (n := 48) h_l4 (((((h.2 c1).2 c8).2 c15).1 c22).2 c23).1), ?_⟩
                refine bEqL (x := l4) h_l4 ?_
                refine bGo hA 9 3 (244, .iconst (2), 1, 148, 0, [], [(2, 0)]) rfl rfl rfl ?_
                refine bEqI bl_2 ?_
                refine bGo hA 9 4 (245, .if_icmp .eq (40), 3, 149, 170, [], []) rfl rfl rfl ?_
                refine bB_eq (x := (bi σ 60 l4)) (y := 2) (bi_rg _ _ _) (by decide : bRg 2) (fun c26 => ?_) (fun c26 => ?_)
                · refine bGo hA 10 10 (285, .iconst (1), 1, 171, 0, [], [(1, 0)]) rfl rfl rfl ?_
                  refine bEqI bl_1 ?_
                  refine bGo hA 10 11 (286, .goto (4), 3, 172, 173, [], []) rfl rfl rfl ?_
                  exact ((((((((h.2 c1).2 c8).2 c15).1 c22).2 c23).2.1 c24).1 c25).1 c26)
                · exact ((((((((h.2 c1).2 c8).2 c15).1 c22).2 c23).2.1 c24).1 c25).2 c26)
              · refine bGo hA 8 12 (231, .iload_n 3, 1, 141, 0, [3], []) rfl rfl rfl ?_
                refine bGo hA 8 13 (232, .bipush (6), 2, 142, 0, [], [(6, 0)]) rfl rfl rfl ?_
                refine bEqI bl_6 ?_
                refine bGo hA 8 14 (234, .if_icmp .ne (14), 3, 143, 149, [], []) rfl rfl rfl ?_
                refine bB_eq (x := l3) (y := 6) h_l3 (by decide : bRg 6) (fun c27 => ?_) (fun c27 => ?_)
                · refine bGo hA 8 15 (237, .aload_n 0, 1, 144, 0, [0], []) rfl rfl rfl ?_
                  refine bGo hA 9 0 (238, .getfield 23, 3, 145, 0, [12, 5, 3, 60, 1, 0], []) rfl rfl rfl ?_
                  refine ⟨rfl, ?_⟩
                  refine bGo hA 9 1 (241, .iload 4, 2, 146, 0, [4], []) rfl rfl rfl ?_
                  refine bGo hA 9 2 (243, .iaload, 1, 147, 0, [], []) rfl rfl rfl ?_
                  refine ⟨rfl, (bIxP (x := l4) (n := 48) h_l4 (((((h.2 c1).2 c8).2 c15).1 c22).2 c23).1), ?_⟩
                  refine bEqL (x := l4) h_l4 ?_
                  refine bGo hA 9 3 (244, .iconst (2), 1, 148, 0, [], [(2, 0)]) rfl rfl rfl ?_
                  refine bEqI bl_2 ?_
                  refine bGo hA 9 4 (245, .if_icmp .eq (40), 3, 149, 170, [], []) rfl rfl rfl ?_
                  refine bB_eq (x := (bi σ 60 l4)) (y := 2) (bi_rg _ _ _) (by decide : bRg 2) (fun c28 => ?_) (fun c28 => ?_)
                  · refine bGo hA 10 10 (285, .iconst (1), 1, 171, 0, [], [(1, 0)]) rfl rfl rfl ?_
                    refine bEqI bl_1 ?_
                    refine bGo hA 10 11 (286, .goto (4), 3, 172, 173, [], []) rfl rfl rfl ?_
                    exact (((((((((h.2 c1).2 c8).2 c15).1 c22).2 c23).2.1 c24).2 c25).1 c27).1 c28)
                  · exact (((((((((h.2 c1).2 c8).2 c15).1 c22).2 c23).2.1 c24).2 c25).1 c27).2 c28)
                · exact ((((((((h.2 c1).2 c8).2 c15).1 c22).2 c23).2.1 c24).2 c25).2 c27)
            · exact ((((((h.2 c1).2 c8).2 c15).1 c22).2 c23).2.2 c24)
        · refine bGo hA 7 5 (186, .iconst (0), 1, 118, 0, [], [(0, 0)]) rfl rfl rfl ?_
          refine bEqI bl_0 ?_
          refine bGo hA 7 6 (187, .istore 8, 2, 119, 0, [8], []) rfl rfl rfl ?_
          refine bGo hA 7 7 (189, .iload 7, 2, 120, 0, [7], []) rfl rfl rfl ?_
          refine bGo hA 7 8 (191, .ifCond .eq (13), 3, 121, 126, [], []) rfl rfl rfl ?_
          refine bB_eq0 (x := t0) h_t0 (fun c29 => ?_) (fun c29 => ?_)
          · exact (((((h.2 c1).2 c8).2 c15).2 c22).1 c29)
          · refine bGo hA 7 9 (194, .aload_n 0, 1, 122, 0, [0], []) rfl rfl rfl ?_
            refine bGo hA 7 10 (195, .getfield 23, 3, 123, 0, [12, 5, 3, 60, 1, 0], []) rfl rfl rfl ?_
            refine ⟨rfl, ?_⟩
            refine bGo hA 7 11 (198, .iload 4, 2, 124, 0, [4], []) rfl rfl rfl ?_
            refine bGo hA 7 12 (200, .iaload, 1, 125, 0, [], []) rfl rfl rfl ?_
            refine ⟨rfl, (bIxP (x := l4) (n := 48) h_l4 (((((h.2 c1).2 c8).2 c15).2 c22).2 c29).1), ?_⟩
            refine bEqL (x := l4) h_l4 ?_
            refine bGo hA 7 13 (201, .ifCond .eq (18), 3, 126, 133, [], []) rfl rfl rfl ?_
            refine bB_eq0 (x := (bi σ 60 l4)) (bi_rg _ _ _) (fun c30 => ?_) (fun c30 => ?_)
            · refine bGo hA 8 5 (219, .iconst (1), 1, 134, 0, [], [(1, 0)]) rfl rfl rfl ?_
              refine bEqI bl_1 ?_
              refine bGo hA 8 6 (220, .goto (4), 3, 135, 136, [], []) rfl rfl rfl ?_
              refine bGo hA 8 8 (224, .istore 9, 2, 137, 0, [9], []) rfl rfl rfl ?_
              refine bGo hA 8 9 (226, .iload_n 3, 1, 138, 0, [3], []) rfl rfl rfl ?_
              refine bGo hA 8 10 (227, .iconst (2), 1, 139, 0, [], [(2, 0)]) rfl rfl rfl ?_
              refine bEqI bl_2 ?_
              refine bGo hA 8 11 (228, .if_icmp .eq (9), 3, 140, 143, [], []) rfl rfl rfl ?_
              refine bB_eq (x := l3) (y := 2) h_l3 (by decide : bRg 2) (fun c31 => ?_) (fun c31 => ?_)
              · refine bGo hA 8 15 (237, .aload_n 0, 1, 144, 0, [0], []) rfl rfl rfl ?_
                refine bGo hA 9 0 (238, .getfield 23, 3, 145, 0, [12, 5, 3, 60, 1, 0], []) rfl rfl rfl ?_
                refine ⟨rfl, ?_⟩
                refine bGo hA 9 1 (241, .iload 4, 2, 146, 0, [4], []) rfl rfl rfl ?_
                refine bGo hA 9 2 (243, .iaload, 1, 147, 0, [], []) rfl rfl rfl ?_
                refine ⟨rfl, (bIxP (x := l4) (n := 48) h_l4 (((((h.2 c1).2 c8).2 c15).2 c22).2 c29).1), ?_⟩
                refine bEqL (x := l4) h_l4 ?_
                refine bGo hA 9 3 (244, .iconst (2), 1, 148, 0, [], [(2, 0)]) rfl rfl rfl ?_
                refine bEqI bl_2 ?_
                refine bGo hA 9 4 (245, .if_icmp .eq (40), 3, 149, 170, [], []) rfl rfl rfl ?_
                refine bB_eq (x := (bi σ 60 l4)) (y := 2) (bi_rg _ _ _) (by decide : bRg 2) (fun c32 => ?_) (fun c32 => ?_)
                · refine bGo hA 10 10 (285, .iconst (1), 1, 171, 0, [], [(1, 0)]) rfl rfl rfl ?_
                  refine bEqI bl_1 ?_
                  refine bGo hA 10 11 (286, .goto (4), 3, 172, 173, [], []) rfl rfl rfl ?_
                  exact ((((((((h.2 c1).2 c8).2 c15).2 c22).2 c29).2.1 c30).1 c31).1 c32)
                · exact ((((((((h.2 c1).2 c8).2 c15).2 c22).2 c29).2.1 c30).1 c31).2 c32)
              · refine bGo hA 8 12 (231, .iload_n 3, 1, 141, 0, [3], []) rfl rfl rfl ?_
                refine bGo hA 8 13 (232, .bipush (6), 2, 142, 0, [], [(6, 0)]) rfl rfl rfl ?_
                refine bEqI bl_6 ?_
                refine bGo hA 8 14 (234, .if_icmp .ne (14), 3, 143, 149, [], []) rfl rfl rfl ?_
                refine bB_eq (x := l3) (y := 6) h_l3 (by decide : bRg 6) (fun c33 => ?_) (fun c33 => ?_)
                · refine bGo hA 8 15 (237, .aload_n 0, 1, 144, 0, [0], []) rfl rfl rfl ?_
                  refine bGo hA 9 0 (238, .getfield 23, 3, 145, 0, [12, 5, 3, 60, 1, 0], []) rfl rfl rfl ?_
                  refine ⟨rfl, ?_⟩
                  refine bGo hA 9 1 (241, .iload 4, 2, 146, 0, [4], []) rfl rfl rfl ?_
                  refine bGo hA 9 2 (243, .iaload, 1, 147, 0, [], []) rfl rfl rfl ?_
                  refine ⟨rfl, (bIxP (x := l4) (n := 48) h_l4 (((((h.2 c1).2 c8).2 c15).2 c22).2 c29).1), ?_⟩
                  refine bEqL (x := l4) h_l4 ?_
                  refine bGo hA 9 3 (244, .iconst (2), 1, 148, 0, [], [(2, 0)]) rfl rfl rfl ?_
                  refine bEqI bl_2 ?_
                  refine bGo hA 9 4 (245, .if_icmp .eq (40), 3, 149, 170, [], []) rfl rfl rfl ?_
                  refine bB_eq (x := (bi σ 60 l4)) (y := 2) (bi_rg _ _ _) (by decide : bRg 2) (fun c34 => ?_) (fun c34 => ?_)
                  · refine bGo hA 10 10 (285, .iconst (1), 1, 171, 0, [], [(1, 0)]) rfl rfl rfl ?_
                    refine bEqI bl_1 ?_
                    refine bGo hA 10 11 (286, .goto (4), 3, 172, 173, [], []) rfl rfl rfl ?_
                    exact (((((((((h.2 c1).2 c8).2 c15).2 c22).2 c29).2.1 c30).2 c31).1 c33).1 c34)
                  · exact (((((((((h.2 c1).2 c8).2 c15).2 c22).2 c29).2.1 c30).2 c31).1 c33).2 c34)
                · exact ((((((((h.2 c1).2 c8).2 c15).2 c22).2 c29).2.1 c30).2 c31).2 c33)
            · exact ((((((h.2 c1).2 c8).2 c15).2 c22).2 c29).2.2 c30)

theorem sq218_126 {lvl : Nat} {C : bCall} {Q : bPost} {A : bPt → Prop} (hC : bMono C) (hA : bClosed lvl bm218 C Q A) {l1 : Int} {l2 : Int} {l3 : Int} {l4 : Int} {l5 : Int} {v6 : Value} {v7 : Value} {l8 : Int} {v9 : Value} {v10 : Value} {σ : bSt}  (h_l1 : bRg l1) (h_l2 : bRg l2) (h_l3 : bRg l3) (h_l4 : bRg l4) (h_l5 : bRg l5) (h_l8 : bRg l8)
  (h : ((l8 = 0 → ((l3 = 2 → ((0 ≤ l4 ∧ l4 < 48) ∧ (((bi σ 60 l4) = 2 → A (173, [.ref 12, .int (bn l1), .int (bn l2), .int (bn l3), .int (bn l4), .int (bn l5), v6, v7, .int (bn l8), .int (bn 0), v10], [.int (bn 1)], σ)) ∧ (¬ (bi σ 60 l4) = 2 → A (149, [.ref 12, .int (bn l1), .int (bn l2), .int (bn l3), .int (bn l4), .int (bn l5), v6, v7, .int (bn l8), .int (bn 0), v10], [], σ))))) ∧ (¬ l3 = 2 → ((l3 = 6 → ((0 ≤ l4 ∧ l4 < 48) ∧ (((bi σ 60 l4) = 2 → A (173, [.ref 12, .int (bn l1), .int (bn l2), .int (bn l3), .int (bn l4), .int (bn l5), v6, v7, .int (bn l8), .int (bn 0), v10], [.int (bn 1)], σ)) ∧ (¬ (bi σ 60 l4) = 2 → A (149, [.ref 12, .int (bn l1), .int (bn l2), .int (bn l3), .int (bn l4), .int (bn l5), v6, v7, .int (bn l8), .int (bn 0), v10], [], σ))))) ∧ (¬ l3 = 6 → A (149, [.ref 12, .int (bn l1), .int (bn l2), .int (bn l3), .int (bn l4), .int (bn l5), v6, v7, .int (bn l8), .int (bn 0), v10], [], σ)))))) ∧ (¬ l8 = 0 → ((0 ≤ l5 ∧ l5 < 48) ∧ (((bi σ 60 l5) = 0 → ((l3 = 2 → ((0 ≤ l4 ∧ l4 < 48) ∧ (((bi σ 60 l4) = 2 → A (173, [.ref 12, .int (bn l1), .int (bn l2), .int (bn l3), .int (bn l4), .int (bn l5), v6, v7, .int (bn l8), .int (bn 1), v10], [.int (bn 1)], σ)) ∧ (¬ (bi σ 60 l4) = 2 → A (149, [.ref 12, .int (bn l1), .int (bn l2), .int (bn l3), .int (bn l4), .int (bn l5), v6, v7, .int (bn l8), .int (bn 1), v10], [], σ))))) ∧ (¬ l3 = 2 → ((l3 = 6 → ((0 ≤ l4 ∧ l4 < 48) ∧ (((bi σ 60 l4) = 2 → A (173, [.ref 12, .int (bn l1), .int (bn l2), .int (bn l3), .int (bn l4), .int (bn l5), v6, v7, .int (bn l8), .int (bn 1), v10], [.int (bn 1)], σ)) ∧ (¬ (bi σ 60 l4) = 2 → A (149, [.ref 12, .int (bn l1), .int (bn l2), .int (bn l3), .int (bn l4), .int (bn l5), v6, v7, .int (bn l8), .int (bn 1), v10], [], σ))))) ∧ (¬ l3 = 6 → A (149, [.ref 12, .int (bn l1), .int (bn l2), .int (bn l3), .int (bn l4), .int (bn l5), v6, v7, .int (bn l8), .int (bn 1), v10], [], σ)))))) ∧ (¬ (bi σ 60 l5) = 0 → ((l3 = 2 → ((0 ≤ l4 ∧ l4 < 48) ∧ (((bi σ 60 l4) = 2 → A (173, [.ref 12, .int (bn l1), .int (bn l2), .int (bn l3), .int (bn l4), .int (bn l5), v6, v7, .int (bn l8), .int (bn 0), v10], [.int (bn 1)], σ)) ∧ (¬ (bi σ 60 l4) = 2 → A (149, [.ref 12, .int (bn l1), .int (bn l2), .int (bn l3), .int (bn l4), .int (bn l5), v6, v7, .int (bn l8), .int (bn 0), v10], [], σ))))) ∧ (¬ l3 = 2 → ((l3 = 6 → ((0 ≤ l4 ∧ l4 < 48) ∧ (((bi σ 60 l4) = 2 → A (173, [.ref 12, .int (bn l1), .int (bn l2), .int (bn l3), .int (bn l4), .int (bn l5), v6, v7, .int (bn l8), .int (bn 0), v10], [.int (bn 1)], σ)) ∧ (¬ (bi σ 60 l4) = 2 → A (149, [.ref 12, .int (bn l1), .int (bn l2), .int (bn l3), .int (bn l4), .int (bn l5), v6, v7, .int (bn l8), .int (bn 0), v10], [], σ))))) ∧ (¬ l3 = 6 → A (149, [.ref 12, .int (bn l1), .int (bn l2), .int (bn l3), .int (bn l4), .int (bn l5), v6, v7, .int (bn l8), .int (bn 0), v10], [], σ))))))))))) : A (126, [.ref 12, .int (bn l1), .int (bn l2), .int (bn l3), .int (bn l4), .int (bn l5), v6, v7, .int (bn l8), v9, v10], [], σ) := by
  refine bGo hA 7 14 (204, .iload 8, 2, 127, 0, [8], []) rfl rfl rfl ?_
  refine bGo hA 7 15 (206, .ifCond .eq (17), 3, 128, 135, [], []) rfl rfl rfl ?_
  refine bB_eq0 (x := l8) h_l8 (fun c1 => ?_) (fun c1 => ?_)
  · refine bGo hA 8 7 (223, .iconst (0), 1, 136, 0, [], [(0, 0)]) rfl rfl rfl ?_
    refine bEqI bl_0 ?_
    refine bGo hA 8 8 (224, .istore 9, 2, 137, 0, [9], []) rfl rfl rfl ?_
    refine bGo hA 8 9 (226, .iload_n 3, 1, 138, 0, [3], []) rfl rfl rfl ?_
    refine bGo hA 8 10 (227, .iconst (2), 1, 139, 0, [], [(2, 0)]) rfl rfl rfl ?_
    refine bEqI bl_2 ?_
    refine bGo hA 8 11 (228, .if_icmp .eq (9), 3, 140, 143, [], []) rfl rfl rfl ?_
    refine bB_eq (x := l3) (y := 2) h_l3 (by decide : bRg 2) (fun c2 => ?_) (fun c2 => ?_)
    · refine bGo hA 8 15 (237, .aload_n 0, 1, 144, 0, [0], []) rfl rfl rfl ?_
      refine bGo hA 9 0 (238, .getfield 23, 3, 145, 0, [12, 5, 3, 60, 1, 0], []) rfl rfl rfl ?_
      refine ⟨rfl, ?_⟩
      refine bGo hA 9 1 (241, .iload 4, 2, 146, 0, [4], []) rfl rfl rfl ?_
      refine bGo hA 9 2 (243, .iaload, 1, 147, 0, [], []) rfl rfl rfl ?_
      refine ⟨rfl, (bIxP (x := l4) (n := 48) h_l4 ((h.1 c1).1 c2).1), ?_⟩
      refine bEqL (x := l4) h_l4 ?_
      refine bGo hA 9 3 (244, .iconst (2), 1, 148, 0, [], [(2, 0)]) rfl rfl rfl ?_
      refine bEqI bl_2 ?_
      refine bGo hA 9 4 (245, .if_icmp .eq (40), 3, 149, 170, [], []) rfl rfl rfl ?_
      refine bB_eq (x := (bi σ 60 l4)) (y := 2) (bi_rg _ _ _) (by decide : bRg 2) (fun c3 => ?_) (fun c3 => ?_)
      · refine bGo hA 10 10 (285, .iconst (1), 1, 171, 0, [], [(1, 0)]) rfl rfl rfl ?_
        refine bEqI bl_1 ?_
        refine bGo hA 10 11 (286, .goto (4), 3, 172, 173, [], []) rfl rfl rfl ?_
        exact (((h.1 c1).1 c2).2.1 c3)
      · exact (((h.1 c1).1 c2).2.2 c3)
    · refine bGo hA 8 12 (231, .iload_n 3, 1, 141, 0, [3], []) rfl rfl rfl ?_
      refine bGo hA 8 13 (232, .bipush (6), 2, 142, 0, [], [(6, 0)]) rfl rfl rfl ?_
      refine bEqI bl_6 ?_
      refine bGo hA 8 14 (234, .if_icmp .ne (14), 3, 143, 149, [], []) rfl rfl rfl ?_
      refine bB_eq (x := l3) (y := 6) h_l3 (by decide : bRg 6) (fun c4 => ?_) (fun c4 => ?_)
      · refine bGo hA 8 15 (237, .aload_n 0, 1, 144, 0, [0], []) rfl rfl rfl ?_
        refine bGo hA 9 0 (238, .getfield 23, 3, 145, 0, [12, 5, 3, 60, 1, 0], []) rfl rfl rfl ?_
        refine ⟨rfl, ?_⟩
        refine bGo hA 9 1 (241, .iload 4, 2, 146, 0, [4], []) rfl rfl rfl ?_
        refine bGo hA 9 2 (243, .iaload, 1, 147, 0, [], []) rfl rfl rfl ?_
        refine ⟨rfl, (bIxP (x := l4) (n := 48) h_l4 (((h.1 c1).2 c2).1 c4).1), ?_⟩
        refine bEqL (x := l4) h_l4 ?_
        refine bGo hA 9 3 (244, .iconst (2), 1, 148, 0, [], [(2, 0)]) rfl rfl rfl ?_
        refine bEqI bl_2 ?_
        refine bGo hA 9 4 (245, .if_icmp .eq (40), 3, 149, 170, [], []) rfl rfl rfl ?_
        refine bB_eq (x := (bi σ 60 l4)) (y := 2) (bi_rg _ _ _) (by decide : bRg 2) (fun c5 => ?_) (fun c5 => ?_)
        · refine bGo hA 10 10 (285, .iconst (1), 1, 171, 0, [], [(1, 0)]) rfl rfl rfl ?_
          refine bEqI bl_1 ?_
          refine bGo hA 10 11 (286, .goto (4), 3, 172, 173, [], []) rfl rfl rfl ?_
          exact ((((h.1 c1).2 c2).1 c4).2.1 c5)
        · exact ((((h.1 c1).2 c2).1 c4).2.2 c5)
      · exact (((h.1 c1).2 c2).2 c4)
  · refine bGo hA 8 0 (209, .aload_n 0, 1, 129, 0, [0], []) rfl rfl rfl ?_
    refine bGo hA 8 1 (210, .getfield 23, 3, 130, 0, [12, 5, 3, 60, 1, 0], []) rfl rfl rfl ?_
    refine ⟨rfl, ?_⟩
    refine bGo hA 8 2 (213, .iload 5, 2, 131, 0, [5], []) rfl rfl rfl ?_
    refine bGo hA 8 3 (215, .iaload, 1, 132, 0, [], []) rfl rfl rfl ?_
    refine ⟨rfl, (bIxP (x := l5) (n := 48) h_l5 (h.2 c1).1), ?_⟩
    refine bEqL (x := l5) h_l5 ?_
    refine bGo hA 8 4 (216, .ifCond .ne (7), 3, 133, 135, [], []) rfl rfl rfl ?_
    refine bB_eq0 (x := (bi σ 60 l5)) (bi_rg _ _ _) (fun c6 => ?_) (fun c6 => ?_)
    · refine bGo hA 8 5 (219, .iconst (1), 1, 134, 0, [], [(1, 0)]) rfl rfl rfl ?_
      refine bEqI bl_1 ?_
      refine bGo hA 8 6 (220, .goto (4), 3, 135, 136, [], []) rfl rfl rfl ?_
      refine bGo hA 8 8 (224, .istore 9, 2, 137, 0, [9], []) rfl rfl rfl ?_
      refine bGo hA 8 9 (226, .iload_n 3, 1, 138, 0, [3], []) rfl rfl rfl ?_
      refine bGo hA 8 10 (227, .iconst (2), 1, 139, 0, [], [(2, 0)]) rfl rfl rfl ?_
      refine bEqI bl_2 ?_
      refine bGo hA 8 11 (228, .if_icmp .eq (9), 3, 140, 143, [], []) rfl rfl rfl ?_
      refine bB_eq (x := l3) (y := 2) h_l3 (by decide : bRg 2) (fun c7 => ?_) (fun c7 => ?_)
      · refine bGo hA 8 15 (237, .aload_n 0, 1, 144, 0, [0], []) rfl rfl rfl ?_
        refine bGo hA 9 0 (238, .getfield 23, 3, 145, 0, [12, 5, 3, 60, 1, 0], []) rfl rfl rfl ?_
        refine ⟨rfl, ?_⟩
        refine bGo hA 9 1 (241, .iload 4, 2, 146, 0, [4], []) rfl rfl rfl ?_
        refine bGo hA 9 2 (243, .iaload, 1, 147, 0, [], []) rfl rfl rfl ?_
        refine ⟨rfl, (bIxP (x := l4) (n := 48) h_l4 (((h.2 c1).2.1 c6).1 c7).1), ?_⟩
        refine bEqL (x := l4) h_l4 ?_
        refine bGo hA 9 3 (244, .iconst (2), 1, 148, 0, [], [(2, 0)]) rfl rfl rfl ?_
        refine bEqI bl_2 ?_
        refine bGo hA 9 4 (245, .if_icmp .eq (40), 3, 149, 170, [], []) rfl rfl rfl ?_
        refine bB_eq (x := (bi σ 60 l4)) (y := 2) (bi_rg _ _ _) (by decide : bRg 2) (fun c8 => ?_) (fun c8 => ?_)
        · refine bGo hA 10 10 (285, .iconst (1), 1, 171, 0, [], [(1, 0)]) rfl rfl rfl ?_
          refine bEqI bl_1 ?_
          refine bGo hA 10 11 (286, .goto (4), 3, 172, 173, [], []) rfl rfl rfl ?_
          exact ((((h.2 c1).2.1 c6).1 c7).2.1 c8)
        · exact ((((h.2 c1).2.1 c6).1 c7).2.2 c8)
      · refine bGo hA 8 12 (231, .iload_n 3, 1, 141, 0, [3], []) rfl rfl rfl ?_
        refine bGo hA 8 13 (232, .bipush (6), 2, 142, 0, [], [(6, 0)]) rfl rfl rfl ?_
        refine bEqI bl_6 ?_
        refine bGo hA 8 14 (234, .if_icmp .ne (14), 3, 143, 149, [], []) rfl rfl rfl ?_
        refine bB_eq (x := l3) (y := 6) h_l3 (by decide : bRg 6) (fun c9 => ?_) (fun c9 => ?_)
        · refine bGo hA 8 15 (237, .aload_n 0, 1, 144, 0, [0], []) rfl rfl rfl ?_
          refine bGo hA 9 0 (238, .getfield 23, 3, 145, 0, [12, 5, 3, 60, 1, 0], []) rfl rfl rfl ?_
          refine ⟨rfl, ?_⟩
          refine bGo hA 9 1 (241, .iload 4, 2, 146, 0, [4], []) rfl rfl rfl ?_
          refine bGo hA 9 2 (243, .iaload, 1, 147, 0, [], []) rfl rfl rfl ?_
          refine ⟨rfl, (bIxP (x := l4) (n := 48) h_l4 ((((h.2 c1).2.1 c6).2 c7).1 c9).1), ?_⟩
          refine bEqL (x := l4) h_l4 ?_
          refine bGo hA 9 3 (244, .iconst (2), 1, 148, 0, [], [(2, 0)]) rfl rfl rfl ?_
          refine bEqI bl_2 ?_
          refine bGo hA 9 4 (245, .if_icmp .eq (40), 3, 149, 170, [], []) rfl rfl rfl ?_
          refine bB_eq (x := (bi σ 60 l4)) (y := 2) (bi_rg _ _ _) (by decide : bRg 2) (fun c10 => ?_) (fun c10 => ?_)
          · refine bGo hA 10 10 (285, .iconst (1), 1, 171, 0, [], [(1, 0)]) rfl rfl rfl ?_
            refine bEqI bl_1 ?_
            refine bGo hA 10 11 (286, .goto (4), 3, 172, 173, [], []) rfl rfl rfl ?_
            exact (((((h.2 c1).2.1 c6).2 c7).1 c9).2.1 c10)
          · exact (((((h.2 c1).2.1 c6).2 c7).1 c9).2.2 c10)
        · exact ((((h.2 c1).2.1 c6).2 c7).2 c9)
    · refine bGo hA 8 7 (223, .iconst (0), 1, 136, 0, [], [(0, 0)]) rfl rfl rfl ?_
      refine bEqI bl_0 ?_
      refine bGo hA 8 8 (224, .istore 9, 2, 137, 0, [9], []) rfl rfl rfl ?_
      refine bGo hA 8 9 (226, .iload_n 3, 1, 138, 0, [3], []) rfl rfl rfl ?_
      refine bGo hA 8 10 (227, .iconst (2), 1, 139, 0, [], [(2, 0)]) rfl rfl rfl ?_
      refine bEqI bl_2 ?_
      refine bGo hA 8 11 (228, .if_icmp .eq (9), 3, 140, 143, [], []) rfl rfl rfl ?_
      refine bB_eq (x := l3) (y := 2) h_l3 (by decide : bRg 2) (fun c11 => ?_) (fun c11 => ?_)
      · refine bGo hA 8 15 (237, .aload_n 0, 1, 144, 0, [0], []) rfl rfl rfl ?_
        refine bGo hA 9 0 (238, .getfield 23, 3, 145, 0, [12, 5, 3, 60, 1, 0], []) rfl rfl rfl ?_
        refine ⟨rfl, ?_⟩
        refine bGo hA 9 1 (241, .iload 4, 2, 146, 0, [4], []) rfl rfl rfl ?_
        refine bGo hA 9 2 (243, .iaload, 1, 147, 0, [], []) rfl rfl rfl ?_
        refine ⟨rfl, (bIxP (x := l4) (n := 48) h_l4 (((h.2 c1).2.2 c6).1 c11).1), ?_⟩
        refine bEqL (x := l4) h_l4 ?_
        refine bGo hA 9 3 (244, .iconst (2), 1, 148, 0, [], [(2, 0)]) rfl rfl rfl ?_
        refine bEqI bl_2 ?_
        refine bGo hA 9 4 (245, .if_icmp .eq (40), 3, 149, 170, [], []) rfl rfl rfl ?_
        refine bB_eq (x := (bi σ 60 l4)) (y := 2) (bi_rg _ _ _) (by decide : bRg 2) (fun c12 => ?_) (fun c12 => ?_)
        · refine bGo hA 10 10 (285, .iconst (1), 1, 171, 0, [], [(1, 0)]) rfl rfl rfl ?_
          refine bEqI bl_1 ?_
          refine bGo hA 10 11 (286, .goto (4), 3, 172, 173, [], []) rfl rfl rfl ?_
          exact ((((h.2 c1).2.2 c6).1 c11).2.1 c12)
        · exact ((((h.2 c1).2.2 c6).1 c11).2.2 c12)
      · refine bGo hA 8 12 (231, .iload_n 3, 1, 141, 0, [3], []) rfl rfl rfl ?_
        refine bGo hA 8 13 (232, .bipush (6), 2, 142, 0, [], [(6, 0)]) rfl rfl rfl ?_
        refine bEqI bl_6 ?_
        refine bGo hA 8 14 (234, .if_icmp .ne (14), 3, 143, 149, [], []) rfl rfl rfl ?_
        refine bB_eq (x := l3) (y := 6) h_l3 (by decide : bRg 6) (fun c13 => ?_) (fun c13 => ?_)
        · refine bGo hA 8 15 (237, .aload_n 0, 1, 144, 0, [0], []) rfl rfl rfl ?_
          refine bGo hA 9 0 (238, .getfield 23, 3, 145, 0, [12, 5, 3, 60, 1, 0], []) rfl rfl rfl ?_
          refine ⟨rfl, ?_⟩
          refine bGo hA 9 1 (241, .iload 4, 2, 146, 0, [4], []) rfl rfl rfl ?_
          refine bGo hA 9 2 (243, .iaload, 1, 147, 0, [], []) rfl rfl rfl ?_
          refine ⟨rfl, (bIxP (x := l4) (n := 48) h_l4 ((((h.2 c1).2.2 c6).2 c11).1 c13).1), ?_⟩
          refine bEqL (x := l4) h_l4 ?_
          refine bGo hA 9 3 (244, .iconst (2), 1, 148, 0, [], [(2, 0)]) rfl rfl rfl ?_
          refine bEqI bl_2 ?_
          refine bGo hA 9 4 (245, .if_icmp .eq (40), 3, 149, 170, [], []) rfl rfl rfl ?_
          refine bB_eq (x := (bi σ 60 l4)) (y := 2) (bi_rg _ _ _) (by decide : bRg 2) (fun c14 => ?_) (fun c14 => ?_)
          · refine bGo hA 10 10 (285, .iconst (1), 1, 171, 0, [], [(1, 0)]) rfl rfl rfl ?_
            refine bEqI bl_1 ?_
            refine bGo hA 10 11 (286, .goto (4), 3, 172, 173, [], []) rfl rfl rfl ?_
            exact (((((h.2 c1).2.2 c6).2 c11).1 c13).2.1 c14)
          · exact (((((h.2 c1).2.2 c6).2 c11).1 c13).2.2 c14)
        · exact ((((h.2 c1).2.2 c6).2 c11).2 c13)

theorem sq218_173 {lvl : Nat} {C : bCall} {Q : bPost} {A : bPt → Prop} (hC : bMono C) (hA : bClosed lvl bm218 C Q A) {l1 : Int} {l2 : Int} {l3 : Int} {l4 : Int} {l5 : Int} {v6 : Value} {v7 : Value} {v8 : Value} {l9 : Int} {v10 : Value} {t0 : Int} {σ : bSt}  (h_l1 : bRg l1) (h_l2 : bRg l2) (h_l3 : bRg l3) (h_l4 : bRg l4) (h_l5 : bRg l5) (h_l9 : bRg l9) (h_t0 : bRg t0)
  (h : ((l9 = 0 → ((t0 = 0 → ((l9 = 0 → ((l3 = 4 → ((0 ≤ l4 ∧ l4 < 48) ∧ ((0 ≤ (bi σ 61 l4) ∧ (bi σ 61 l4) < 96) ∧ (((bi σ 62 (bi σ 61 l4)) = l1 → A (199, [.ref 12, .int (bn l1), .int (bn l2), .int (bn l3), .int (bn l4), .int (bn l5), v6, v7, (bUnl v8), .int (bn l9), .int (bn t0)], [.int (bn l9)], σ)) ∧ (¬ (bi σ 62 (bi σ 61 l4)) = l1 → A (199, [.ref 12, .int (bn l1), .int (bn l2), .int (bn l3), .int (bn l4), .int (bn l5), v6, v7, (bUnl v8), .int (bn l9), .int (bn t0)], [.int (bn 3)], σ)))))) ∧ (¬ l3 = 4 → A (199, [.ref 12, .int (bn l1), .int (bn l2), .int (bn l3), .int (bn l4), .int (bn l5), v6, v7, (bUnl v8), .int (bn l9), .int (bn t0)], [.int (bn l9)], σ)))) ∧ (¬ l9 = 0 → A (199, [.ref 12, .int (bn l1), .int (bn l2), .int (bn l3), .int (bn l4), .int (bn l5), v6, v7, (bUnl v8), .int (bn l9), .int (bn t0)], [.int (bn l9)], σ)))) ∧ (¬ t0 = 0 → A (199, [.ref 12, .int (bn l1), .int (bn l2), .int (bn l3), .int (bn l4), .int (bn l5), v6, v7, (bUnl v8), .int (bn 2), .int (bn t0)], [.int (bn 2)], σ)))) ∧ (¬ l9 = 0 → ((l9 = 0 → ((l3 = 4 → ((0 ≤ l4 ∧ l4 < 48) ∧ ((0 ≤ (bi σ 61 l4) ∧ (bi σ 61 l4) < 96) ∧ (((bi σ 62 (bi σ 61 l4)) = l1 → A (199, [.ref 12, .int (bn l1), .int (bn l2), .int (bn l3), .int (bn l4), .int (bn l5), v6, v7, (bUnl v8), .int (bn l9), .int (bn t0)], [.int (bn l9)], σ)) ∧ (¬ (bi σ 62 (bi σ 61 l4)) = l1 → A (199, [.ref 12, .int (bn l1), .int (bn l2), .int (bn l3), .int (bn l4), .int (bn l5), v6, v7, (bUnl v8), .int (bn l9), .int (bn t0)], [.int (bn 3)], σ)))))) ∧ (¬ l3 = 4 → A (199, [.ref 12, .int (bn l1), .int (bn l2), .int (bn l3), .int (bn l4), .int (bn l5), v6, v7, (bUnl v8), .int (bn l9), .int (bn t0)], [.int (bn l9)], σ)))) ∧ (¬ l9 = 0 → A (199, [.ref 12, .int (bn l1), .int (bn l2), .int (bn l3), .int (bn l4), .int (bn l5), v6, v7, (bUnl v8), .int (bn l9), .int (bn t0)], [.int (bn l9)], σ)))))) : A (173, [.ref 12, .int (bn l1), .int (bn l2), .int (bn l3), .int (bn l4), .int (bn l5), v6, v7, v8, .int (bn l9), v10], [.int (bn t0)], σ) := by
  refine bGo hA 10 13 (290, .istore 10, 2, 174, 0, [10], []) rfl rfl rfl ?_
  refine bGo hA 10 14 (292, .iload 9, 2, 175, 0, [9], []) rfl rfl rfl ?_
  refine bGo hA 10 15 (294, .ifCond .ne (12), 3, 176, 180, [], []) rfl rfl rfl ?_
  refine bB_eq0 (x := l9) h_l9 (fun c1 => ?_) (fun c1 => ?_)
  · refine bGo hA 11 0 (297, .iload 10, 2, 177, 0, [10], []) rfl rfl rfl ?_
    refine bGo hA 11 1 (299, .ifCond .eq (7), 3, 178, 180, [], []) rfl rfl rfl ?_
    refine bB_eq0 (x := t0) h_t0 (fun c2 => ?_) (fun c2 => ?_)
    · refine bGo hA 11 4 (306, .iload 9, 2, 181, 0, [9], []) rfl rfl rfl ?_
      refine bGo hA 11 5 (308, .istore 9, 2, 182, 0, [9], []) rfl rfl rfl ?_
      refine bGo hA 11 6 (310, .iload 9, 2, 183, 0, [9], []) rfl rfl rfl ?_
      refine bGo hA 11 7 (312, .ifCond .ne (28), 3, 184, 198, [], []) rfl rfl rfl ?_
      refine bB_eq0 (x := l9) h_l9 (fun c3 => ?_) (fun c3 => ?_)
      · refine bGo hA 11 8 (315, .iload_n 3, 1, 185, 0, [3], []) rfl rfl rfl ?_
        refine bGo hA 11 9 (316, .iconst (4), 1, 186, 0, [], [(4, 0)]) rfl rfl rfl ?_
        refine bEqI bl_4 ?_
        refine bGo hA 11 10 (317, .if_icmp .ne (23), 3, 187, 198, [], []) rfl rfl rfl ?_
        refine bB_eq (x := l3) (y := 4) h_l3 (by decide : bRg 4) (fun c4 => ?_) (fun c4 => ?_)
        · refine bGo hA 11 11 (320, .aload_n 0, 1, 188, 0, [0], []) rfl rfl rfl ?_
          refine bGo hA 11 12 (321, .getfield 29, 3, 189, 0, [12, 8, 3, 62, 1, 0], []) rfl rfl rfl ?_
          refine ⟨rfl, ?_⟩
          refine bGo hA 11 13 (324, .aload_n 0, 1, 190, 0, [0], []) rfl rfl rfl ?_
          refine bGo hA 11 14 (325, .getfield 26, 3, 191, 0, [12, 6, 3, 61, 1, 0], []) rfl rfl rfl ?_
          refine ⟨rfl, ?_⟩
          refine bGo hA 11 15 (328, .iload 4, 2, 192, 0, [4], []) rfl rfl rfl ?_
          refine bGo hA 12 0 (330, .iaload, 1, 193, 0, [], []) rfl rfl rfl ?_
          refine ⟨rfl, (bIxP (x := l4) (n := 48) h_l4 ((((h.1 c1).1 c2).1 c3).1 c4).1), ?_⟩
          refine bEqL (x := l4) h_l4 ?_
          refine bGo hA 12 1 (331, .iaload, 1, 194, 0, [], []) rfl rfl rfl ?_
          refine ⟨rfl, (bIxP (x := (bi σ 61 l4)) (n := 96) (bi_rg _ _ _) ((((h.1 c1).1 c2).1 c3).1 c4).2.1), ?_⟩
          refine bEqL (x := (bi σ 61 l4)) (bi_rg _ _ _) ?_
          refine bGo hA 12 2 (332, .iload_n 1, 1, 195, 0, [1], []) rfl rfl rfl ?_
          refine bGo hA 12 3 (333, .if_icmp .eq (7), 3, 196, 198, [], []) rfl rfl rfl ?_
          refine bB_eq (x := (bi σ 62 (bi σ 61 l4))) (y := l1) (bi_rg _ _ _) h_l1 (fun c5 => ?_) (fun c5 => ?_)
          · refine bGo hA 12 6 (340, .iload 9, 2, 199, 0, [9], []) rfl rfl rfl ?_
            exact (((((h.1 c1).1 c2).1 c3).1 c4).2.2.1 c5)
          · refine bGo hA 12 4 (336, .iconst (3), 1, 197, 0, [], [(3, 0)]) rfl rfl rfl ?_
            refine bEqI bl_3 ?_
            refine bGo hA 12 5 (337, .goto (5), 3, 198, 199, [], []) rfl rfl rfl ?_
            exact (((((h.1 c1).1 c2).1 c3).1 c4).2.2.2 c5)
        · refine bGo hA 12 6 (340, .iload 9, 2, 199, 0, [9], []) rfl rfl rfl ?_
          exact ((((h.1 c1).1 c2).1 c3).2 c4)
      · refine bGo hA 12 6 (340, .iload 9, 2, 199, 0, [9], []) rfl rfl rfl ?_
        exact (((h.1 c1).1 c2).2 c3)
    · refine bGo hA 11 2 (302, .iconst (2), 1, 179, 0, [], [(2, 0)]) rfl rfl rfl ?_
      refine bEqI bl_2 ?_
      refine bGo hA 11 3 (303, .goto (5), 3, 180, 181, [], []) rfl rfl rfl ?_
      refine bGo hA 11 5 (308, .istore 9, 2, 182, 0, [9], []) rfl rfl rfl ?_
      refine bGo hA 11 6 (310, .iload 9, 2, 183, 0, [9], []) rfl rfl rfl ?_
      refine bGo hA 11 7 (312, .ifCond .ne (28), 3, 184, 198, [], []) rfl rfl rfl ?_
      refine ⟨fun c => absurd c (by decide), fun _ => ?_⟩
      refine bGo hA 12 6 (340, .iload 9, 2, 199, 0, [9], []) rfl rfl rfl ?_
      exact ((h.1 c1).2 c2)
  · refine bGo hA 11 4 (306, .iload 9, 2, 181, 0, [9], []) rfl rfl rfl ?_
    refine bGo hA 11 5 (308, .istore 9, 2, 182, 0, [9], []) rfl rfl rfl ?_
    refine bGo hA 11 6 (310, .iload 9, 2, 183, 0, [9], []) rfl rfl rfl ?_
    refine bGo hA 11 7 (312, .ifCond .ne (28), 3, 184, 198, [], []) rfl rfl rfl ?_
    refine bB_eq0 (x := l9) h_l9 (fun c7 => ?_) (fun c7 => ?_)
    · refine bGo hA 11 8 (315, .iload_n 3, 1, 185, 0, [3], []) rfl rfl rfl ?_
      refine bGo hA 11 9 (316, .iconst (4), 1, 186, 0, [], [(4, 0)]) rfl rfl rfl ?_
      refine bEqI bl_4 ?_
      refine bGo hA 11 10 (317, .if_icmp .ne (23), 3, 187, 198, [], []) rfl rfl rfl ?_
      refine bB_eq (x := l3) (y := 4) h_l3 (by decide : bRg 4) (fun c8 => ?_) (fun c8 => ?_)
      · refine bGo hA 11 11 (320, .aload_n 0, 1, 188, 0, [0], []) rfl rfl rfl ?_
        refine bGo hA 11 12 (321, .getfield 29, 3, 189, 0, [12, 8, 3, 62, 1, 0], []) rfl rfl rfl ?_
        refine ⟨rfl, ?_⟩
        refine bGo hA 11 13 (324, .aload_n 0, 1, 190, 0, [0], []) rfl rfl rfl ?_
        refine bGo hA 11 14 (325, .getfield 26, 3, 191, 0, [12, 6, 3, 61, 1, 0], []) rfl rfl rfl ?_
        refine ⟨rfl, ?_⟩
        refine bGo hA 11 15 (328, .iload 4, 2, 192, 0, [4], []) rfl rfl rfl ?_
        refine bGo hA 12 0 (330, .iaload, 1, 193, 0, [], []) rfl rfl rfl ?_
        refine ⟨rfl, (bIxP (x := l4) (n := 48) h_l4 (((h.2 c1).1 c7).1 c8).1), ?_⟩
        refine bEqL (x := l4) h_l4 ?_
        refine bGo hA 12 1 (331, .iaload, 1, 194, 0, [], []) rfl rfl rfl ?_
        refine ⟨rfl, (bIxP (x := (bi σ 61 l4)) (n := 96) (bi_rg _ _ _) (((h.2 c1).1 c7).1 c8).2.1), ?_⟩
        refine bEqL (x := (bi σ 61 l4)) (bi_rg _ _ _) ?_
        refine bGo hA 12 2 (332, .iload_n 1, 1, 195, 0, [1], []) rfl rfl rfl ?_
        refine bGo hA 12 3 (333, .if_icmp .eq (7), 3, 196, 198, [], []) rfl rfl rfl ?_
        refine bB_eq (x := (bi σ 62 (bi σ 61 l4))) (y := l1) (bi_rg _ _ _) h_l1 (fun c9 => ?_) (fun c9 => ?_)
        · refine bGo hA 12 6 (340, .iload 9, 2, 199, 0, [9], []) rfl rfl rfl ?_
          exact ((((h.2 c1).1 c7).1 c8).2.2.1 c9)
        · refine bGo hA 12 4 (336, .iconst (3), 1, 197, 0, [], [(3, 0)]) rfl rfl rfl ?_
          refine bEqI bl_3 ?_
          refine bGo hA 12 5 (337, .goto (5), 3, 198, 199, [], []) rfl rfl rfl ?_
          exact ((((h.2 c1).1 c7).1 c8).2.2.2 c9)
      · refine bGo hA 12 6 (340, .iload 9, 2, 199, 0, [9], []) rfl rfl rfl ?_
        exact (((h.2 c1).1 c7).2 c8)
    · refine bGo hA 12 6 (340, .iload 9, 2, 199, 0, [9], []) rfl rfl rfl ?_
      exact ((h.2 c1).2 c7)

theorem sq218_149 {lvl : Nat} {C : bCall} {Q : bPost} {A : bPt → Prop} (hC : bMono C) (hA : bClosed lvl bm218 C Q A) {l1 : Int} {l2 : Int} {l3 : Int} {l4 : Int} {l5 : Int} {v6 : Value} {v7 : Value} {v8 : Value} {l9 : Int} {v10 : Value} {σ : bSt}  (h_l1 : bRg l1) (h_l2 : bRg l2) (h_l3 : bRg l3) (h_l4 : bRg l4) (h_l5 : bRg l5) (h_l9 : bRg l9)
  (h : ((l3 = 4 → ((0 ≤ l4 ∧ l4 < 48) ∧ (((bi σ 60 l4) = 1 → A (173, [.ref 12, .int (bn l1), .int (bn l2), .int (bn l3), .int (bn l4), .int (bn l5), v6, v7, v8, .int (bn l9), v10], [.int (bn 1)], σ)) ∧ (¬ (bi σ 60 l4) = 1 → ((l3 = 2 → ((0 ≤ l5 ∧ l5 < 48) ∧ (((bi σ 60 l5) = 2 → A (173, [.ref 12, .int (bn l1), .int (bn l2), .int (bn l3), .int (bn l4), .int (bn l5), v6, v7, v8, .int (bn l9), v10], [.int (bn 1)], σ)) ∧ (¬ (bi σ 60 l5) = 2 → A (173, [.ref 12, .int (bn l1), .int (bn l2), .int (bn l3), .int (bn l4), .int (bn l5), v6, v7, v8, .int (bn l9), v10], [.int (bn 0)], σ))))) ∧ (¬ l3 = 2 → ((l3 = 4 → ((0 ≤ l5 ∧ l5 < 48) ∧ (((bi σ 60 l5) = 2 → A (173, [.ref 12, .int (bn l1), .int (bn l2), .int (bn l3), .int (bn l4), .int (bn l5), v6, v7, v8, .int (bn l9), v10], [.int (bn 1)], σ)) ∧ (¬ (bi σ 60 l5) = 2 → A (173, [.ref 12, .int (bn l1), .int (bn l2), .int (bn l3), .int (bn l4), .int (bn l5), v6, v7, v8, .int (bn l9), v10], [.int (bn 0)], σ))))) ∧ (¬ l3 = 4 → A (173, [.ref 12, .int (bn l1), .int (bn l2), .int (bn l3), .int (bn l4), .int (bn l5), v6, v7, v8, .int (bn l9), v10], [.int (bn 0)], σ))))))))) ∧ (¬ l3 = 4 → ((l3 = 2 → ((0 ≤ l5 ∧ l5 < 48) ∧ (((bi σ 60 l5) = 2 → A (173, [.ref 12, .int (bn l1), .int (bn l2), .int (bn l3), .int (bn l4), .int (bn l5), v6, v7, v8, .int (bn l9), v10], [.int (bn 1)], σ)) ∧ (¬ (bi σ 60 l5) = 2 → A (173, [.ref 12, .int (bn l1), .int (bn l2), .int (bn l3), .int (bn l4), .int (bn l5), v6, v7, v8, .int (bn l9), v10], [.int (bn 0)], σ))))) ∧ (¬ l3 = 2 → ((l3 = 4 → ((0 ≤ l5 ∧ l5 < 48) ∧ (((bi σ 60 l5) = 2 → A (173, [.ref 12, .int (bn l1), .int (bn l2), .int (bn l3), .int (bn l4), .int (bn l5), v6, v7, v8, .int (bn l9), v10], [.int (bn 1)], σ)) ∧ (¬ (bi σ 60 l5) = 2 → A (173, [.ref 12, .int (bn l1), .int (bn l2), .int (bn l3), .int (bn l4), .int (bn l5), v6, v7, v8, .int (bn l9), v10], [.int (bn 0)], σ))))) ∧ (¬ l3 = 4 → A (173, [.ref 12, .int (bn l1), .int (bn l2), .int (bn l3), .int (bn l4), .int (bn l5), v6, v7, v8, .int (bn l9), v10], [.int (bn 0)], σ)))))))) : A (149, [.ref 12, .int (bn l1), .int (bn l2), .int (bn l3), .int (bn l4), .int (bn l5), v6, v7, v8, .int (bn l9), v10], [], σ) := by
  refine bGo hA 9 5 (248, .iload_n 3, 1, 150, 0, [3], []) rfl rfl rfl ?_
  refine bGo hA 9 6 (249, .iconst (4), 1, 151, 0, [], [(4, 0)]) rfl rfl rfl ?_
  refine bEqI bl_4 ?_
  refine bGo hA 9 7 (250, .if_icmp .ne (14), 3, 152, 158, [], []) rfl rfl rfl ?_
  refine bB_eq (x := l3) (y := 4) h_l3 (by decide : bRg 4) (fun c1 => ?_) (fun c1 => ?_)
  · refine bGo hA 9 8 (253, .aload_n 0, 1, 153, 0, [0], []) rfl rfl rfl ?_
    refine bGo hA 9 9 (254, .getfield 23, 3, 154, 0, [12, 5, 3, 60, 1, 0], []) rfl rfl rfl ?_
    refine ⟨rfl, ?_⟩
    refine bGo hA 9 10 (257, .iload 4, 2, 155, 0, [4], []) rfl rfl rfl ?_
    refine bGo hA 9 11 (259, .iaload, 1, 156, 0, [], []) rfl rfl rfl ?_
    refine ⟨rfl, (bIxP (x := l4) (n := 48) h_l4 (h.1 c1).1), ?_⟩
    refine bEqL (x := l4) h_l4 ?_
    refine bGo hA 9 12 (260, .iconst (1), 1, 157, 0, [], [(1, 0)]) rfl rfl rfl ?_
    refine bEqI bl_1 ?_
    refine bGo hA 9 13 (261, .if_icmp .eq (24), 3, 158, 170, [], []) rfl rfl rfl ?_
    refine bB_eq (x := (bi σ 60 l4)) (y := 1) (bi_rg _ _ _) (by decide : bRg 1) (fun c2 => ?_) (fun c2 => ?_)
    · refine bGo hA 10 10 (285, .iconst (1), 1, 171, 0, [], [(1, 0)]) rfl rfl rfl ?_
      refine bEqI bl_1 ?_
      refine bGo hA 10 11 (286, .goto (4), 3, 172, 173, [], []) rfl rfl rfl ?_
      exact ((h.1 c1).2.1 c2)
    · refine bGo hA 9 14 (264, .iload_n 3, 1, 159, 0, [3], []) rfl rfl rfl ?_
      refine bGo hA 9 15 (265, .iconst (2), 1, 160, 0, [], [(2, 0)]) rfl rfl rfl ?_
      refine bEqI bl_2 ?_
      refine bGo hA 10 0 (266, .if_icmp .eq (8), 3, 161, 164, [], []) rfl rfl rfl ?_
      refine bB_eq (x := l3) (y := 2) h_l3 (by decide : bRg 2) (fun c3 => ?_) (fun c3 => ?_)
      · refine bGo hA 10 4 (274, .aload_n 0, 1, 165, 0, [0], []) rfl rfl rfl ?_
        refine bGo hA 10 5 (275, .getfield 23, 3, 166, 0, [12, 5, 3, 60, 1, 0], []) rfl rfl rfl ?_
        refine ⟨rfl, ?_⟩
        refine bGo hA 10 6 (278, .iload 5, 2, 167, 0, [5], []) rfl rfl rfl ?_
        refine bGo hA 10 7 (280, .iaload, 1, 168, 0, [], []) rfl rfl rfl ?_
        refine ⟨rfl, (bIxP (x := l5) (n := 48) h_l5 (((h.1 c1).2.2 c2).1 c3).1), ?_⟩
        refine bEqL (x := l5) h_l5 ?_
        refine bGo hA 10 8 (281, .iconst (2), 1, 169, 0, [], [(2, 0)]) rfl rfl rfl ?_
        refine bEqI bl_2 ?_
        refine bGo hA 10 9 (282, .if_icmp .ne (7), 3, 170, 172, [], []) rfl rfl rfl ?_
        refine bB_eq (x := (bi σ 60 l5)) (y := 2) (bi_rg _ _ _) (by decide : bRg 2) (fun c4 => ?_) (fun c4 => ?_)
        · refine bGo hA 10 10 (285, .iconst (1), 1, 171, 0, [], [(1, 0)]) rfl rfl rfl ?_
          refine bEqI bl_1 ?_
          refine bGo hA 10 11 (286, .goto (4), 3, 172, 173, [], []) rfl rfl rfl ?_
          exact ((((h.1 c1).2.2 c2).1 c3).2.1 c4)
        · refine bGo hA 10 12 (289, .iconst (0), 1, 173, 0, [], [(0, 0)]) rfl rfl rfl ?_
          refine bEqI bl_0 ?_
          exact ((((h.1 c1).2.2 c2).1 c3).2.2 c4)
      · refine bGo hA 10 1 (269, .iload_n 3, 1, 162, 0, [3], []) rfl rfl rfl ?_
        refine bGo hA 10 2 (270, .iconst (4), 1, 163, 0, [], [(4, 0)]) rfl rfl rfl ?_
        refine bEqI bl_4 ?_
        refine bGo hA 10 3 (271, .if_icmp .ne (18), 3, 164, 172, [], []) rfl rfl rfl ?_
        refine bB_eq (x := l3) (y := 4) h_l3 (by decide : bRg 4) (fun c5 => ?_) (fun c5 => ?_)
        · refine bGo hA 10 4 (274, .aload_n 0, 1, 165, 0, [0], []) rfl rfl rfl ?_
          refine bGo hA 10 5 (275, .getfield 23, 3, 166, 0, [12, 5, 3, 60, 1, 0], []) rfl rfl rfl ?_
          refine ⟨rfl, ?_⟩
          refine bGo hA 10 6 (278, .iload 5, 2, 167, 0, [5], []) rfl rfl rfl ?_
          refine bGo hA 10 7 (280, .iaload, 1, 168, 0, [], []) rfl rfl rfl ?_
          refine ⟨rfl, (bIxP (x := l5) (n := 48) h_l5 ((((h.1 c1).2.2 c2).2 c3).1 c5).1), ?_⟩
          refine bEqL (x := l5) h_l5 ?_
          refine bGo hA 10 8 (281, .iconst (2), 1, 169, 0, [], [(2, 0)]) rfl rfl rfl ?_
          refine bEqI bl_2 ?_
          refine bGo hA 10 9 (282, .if_icmp .ne (7), 3, 170, 172, [], []) rfl rfl rfl ?_
          refine bB_eq (x := (bi σ 60 l5)) (y := 2) (bi_rg _ _ _) (by decide : bRg 2) (fun c6 => ?_) (fun c6 => ?_)
          · refine bGo hA 10 10 (285, .iconst (1), 1, 171, 0, [], [(1, 0)]) rfl rfl rfl ?_
            refine bEqI bl_1 ?_
            refine bGo hA 10 11 (286, .goto (4), 3, 172, 173, [], []) rfl rfl rfl ?_
            exact (((((h.1 c1).2.2 c2).2 c3).1 c5).2.1 c6)
          · refine bGo hA 10 12 (289, .iconst (0), 1, 173, 0, [], [(0, 0)]) rfl rfl rfl ?_
            refine bEqI bl_0 ?_
            exact (((((h.1 c1).2.2 c2).2 c3).1 c5).2.2 c6)
        · refine bGo hA 10 12 (289, .iconst (0), 1, 173, 0, [], [(0, 0)]) rfl rfl rfl ?_
          refine bEqI bl_0 ?_
          exact ((((h.1 c1).2.2 c2).2 c3).2 c5)
  · refine bGo hA 9 14 (264, .iload_n 3, 1, 159, 0, [3], []) rfl rfl rfl ?_
    refine bGo hA 9 15 (265, .iconst (2), 1, 160, 0, [], [(2, 0)]) rfl rfl rfl ?_
    refine bEqI bl_2 ?_
    refine bGo hA 10 0 (266, .if_icmp .eq (8), 3, 161, 164, [], []) rfl rfl rfl ?_
    refine bB_eq (x := l3) (y := 2) h_l3 (by decide : bRg 2) (fun c7 => ?_) (fun c7 => ?_)
    · refine bGo hA 10 4 (274, .aload_n 0, 1, 165, 0, [0], []) rfl rfl rfl ?_
      refine bGo hA 10 5 (275, .getfield 23, 3, 166, 0, [12, 5, 3, 60, 1, 0], []) rfl rfl rfl ?_
      refine ⟨rfl, ?_⟩
      refine bGo hA 10 6 (278, .iload 5, 2, 167, 0, [5], []) rfl rfl rfl ?_
      refine bGo hA 10 7 (280, .iaload, 1, 168, 0, [], []) rfl rfl rfl ?_
      refine ⟨rfl, (bIxP (x := l5) (n := 48) h_l5 ((h.2 c1).1 c7).1), ?_⟩
      refine bEqL (x := l5) h_l5 ?_
      refine bGo hA 10 8 (281, .iconst (2), 1, 169, 0, [], [(2, 0)]) rfl rfl rfl ?_
      refine bEqI bl_2 ?_
      refine bGo hA 10 9 (282, .if_icmp .ne (7), 3, 170, 172, [], []) rfl rfl rfl ?_
      refine bB_eq (x := (bi σ 60 l5)) (y := 2) (bi_rg _ _ _) (by decide : bRg 2) (fun c8 => ?_) (fun c8 => ?_)
      · refine bGo hA 10 10 (285, .iconst (1), 1, 171, 0, [], [(1, 0)]) rfl rfl rfl ?_
        refine bEqI bl_1 ?_
        refine bGo hA 10 11 (286, .goto (4), 3, 172, 173, [], []) rfl rfl rfl ?_
        exact (((h.2 c1).1 c7).2.1 c8)
      · refine bGo hA 10 12 (289, .iconst (0), 1, 173, 0, [], [(0, 0)]) rfl rfl rfl ?_
        refine bEqI bl_0 ?_
        exact (((h.2 c1).1 c7).2.2 c8)
    · refine bGo hA 10 1 (269, .iload_n 3, 1, 162, 0, [3], []) rfl rfl rfl ?_
      refine bGo hA 10 2 (270, .iconst (4), 1, 163, 0, [], [(4, 0)]) rfl rfl rfl ?_
      refine bEqI bl_4 ?_
      refine bGo hA 10 3 (271, .if_icmp .ne (18), 3, 164, 172, [], []) rfl rfl rfl ?_
      refine bB_eq (x := l3) (y := 4) h_l3 (by decide : bRg 4) (fun c9 => ?_) (fun c9 => ?_)
      · refine bGo hA 10 4 (274, .aload_n 0, 1, 165, 0, [0], []) rfl rfl rfl ?_
        refine bGo hA 10 5 (275, .getfield 23, 3, 166, 0, [12, 5, 3, 60, 1, 0], []) rfl rfl rfl ?_
        refine ⟨rfl, ?_⟩
        refine bGo hA 10 6 (278, .iload 5, 2, 167, 0, [5], []) rfl rfl rfl ?_
        refine bGo hA 10 7 (280, .iaload, 1, 168, 0, [], []) rfl rfl rfl ?_
        refine ⟨rfl, (bIxP (x := l5) (n := 48) h_l5 (((h.2 c1).2 c7).1 c9).1), ?_⟩
        refine bEqL (x := l5) h_l5 ?_
        refine bGo hA 10 8 (281, .iconst (2), 1, 169, 0, [], [(2, 0)]) rfl rfl rfl ?_
        refine bEqI bl_2 ?_
        refine bGo hA 10 9 (282, .if_icmp .ne (7), 3, 170, 172, [], []) rfl rfl rfl ?_
        refine bB_eq (x := (bi σ 60 l5)) (y := 2) (bi_rg _ _ _) (by decide : bRg 2) (fun c10 => ?_) (fun c10 => ?_)
        · refine bGo hA 10 10 (285, .iconst (1), 1, 171, 0, [], [(1, 0)]) rfl rfl rfl ?_
          refine bEqI bl_1 ?_
          refine bGo hA 10 11 (286, .goto (4), 3, 172, 173, [], []) rfl rfl rfl ?_
          exact ((((h.2 c1).2 c7).1 c9).2.1 c10)
        · refine bGo hA 10 12 (289, .iconst (0), 1, 173, 0, [], [(0, 0)]) rfl rfl rfl ?_
          refine bEqI bl_0 ?_
          exact ((((h.2 c1).2 c7).1 c9).2.2 c10)
      · refine bGo hA 10 12 (289, .iconst (0), 1, 173, 0, [], [(0, 0)]) rfl rfl rfl ?_
        refine bEqI bl_0 ?_
        exact (((h.2 c1).2 c7).2 c9)

theorem sq218_199 {lvl : Nat} {C : bCall} {Q : bPost} {A : bPt → Prop} (hC : bMono C) (hA : bClosed lvl bm218 C Q A) {l1 : Int} {l2 : Int} {l3 : Int} {l4 : Int} {l5 : Int} {v6 : Value} {v7 : Value} {v8 : Value} {v9 : Value} {v10 : Value} {t0 : Int} {σ : bSt}  (h_l1 : bRg l1) (h_l2 : bRg l2) (h_l3 : bRg l3) (h_l4 : bRg l4) (h_l5 : bRg l5) (h_t0 : bRg t0)
  (h : ((t0 = 0 → ((l3 = 4 → ((0 ≤ l4 ∧ l4 < 48) ∧ ((0 ≤ (bi σ 61 l4) ∧ (bi σ 61 l4) < 96) ∧ (((bi σ 63 (bi σ 61 l4)) = 8 → (C 216 [.ref 12, .int (bn l1), .int (bn 4), .int (bn (-1))] σ (bRn (fun r7 s5 => Q (.inl (some (.int (bn r7)))) s5)))) ∧ (¬ (bi σ 63 (bi σ 61 l4)) = 8 → (((0 : Int) < t0 → (C 216 [.ref 12, .int (bn l1), .int (bn t0), .int (bn (-1))] σ (bRn (fun r12 s10 => Q (.inl (some (.int (bn r12)))) s10)))) ∧ (¬ (0 : Int) < t0 → ((0 ≤ l1 ∧ l1 < 6) ∧ ((l3 = 6 → (((bi σ 61 l4) = 0 → A (242, [.ref 12, .int (bn l1), .int (bn l2), .int (bn l3), .int (bn l4), .int (bn l5), v6, v7, (bUnl (bUnl v8)), .int (bn t0), v10], [.int (bn 2), .int (bn (bi σ 66 l1)), .int (bn l1), .ref 66], σ)) ∧ (¬ (bi σ 61 l4) = 0 → A (242, [.ref 12, .int (bn l1), .int (bn l2), .int (bn l3), .int (bn l4), .int (bn l5), v6, v7, (bUnl (bUnl v8)), .int (bn t0), v10], [.int (bn 1), .int (bn (bi σ 66 l1)), .int (bn l1), .ref 66], σ)))) ∧ (¬ l3 = 6 → A (242, [.ref 12, .int (bn l1), .int (bn l2), .int (bn l3), .int (bn l4), .int (bn l5), v6, v7, (bUnl (bUnl v8)), .int (bn t0), v10], [.int (bn 1), .int (bn (bi σ 66 l1)), .int (bn l1), .ref 66], σ))))))))))) ∧ (¬ l3 = 4 → (((0 : Int) < t0 → (C 216 [.ref 12, .int (bn l1), .int (bn t0), .int (bn (-1))] σ (bRn (fun r19 s17 => Q (.inl (some (.int (bn r19)))) s17)))) ∧ (¬ (0 : Int) < t0 → ((0 ≤ l1 ∧ l1 < 6) ∧ ((l3 = 6 → ((0 ≤ l4 ∧ l4 < 48) ∧ (((bi σ 61 l4) = 0 → A (242, [.ref 12, .int (bn l1), .int (bn l2), .int (bn l3), .int (bn l4), .int (bn l5), v6, v7, (bUnl (bUnl v8)), .int (bn t0), v10], [.int (bn 2), .int (bn (bi σ 66 l1)), .int (bn l1), .ref 66], σ)) ∧ (¬ (bi σ 61 l4) = 0 → A (242, [.ref 12, .int (bn l1), .int (bn l2), .int (bn l3), .int (bn l4), .int (bn l5), v6, v7, (bUnl (bUnl v8)), .int (bn t0), v10], [.int (bn 1), .int (bn (bi σ 66 l1)), .int (bn l1), .ref 66], σ))))) ∧ (¬ l3 = 6 → A (242, [.ref 12, .int (bn l1), .int (bn l2), .int (bn l3), .int (bn l4), .int (bn l5), v6, v7, (bUnl (bUnl v8)), .int (bn t0), v10], [.int (bn 1), .int (bn (bi σ 66 l1)), .int (bn l1), .ref 66], σ))))))))) ∧ (¬ t0 = 0 → (((0 : Int) < t0 → (C 216 [.ref 12, .int (bn l1), .int (bn t0), .int (bn (-1))] σ (bRn (fun r26 s24 => Q (.inl (some (.int (bn r26)))) s24)))) ∧ (¬ (0 : Int) < t0 → ((0 ≤ l1 ∧ l1 < 6) ∧ ((l3 = 6 → ((0 ≤ l4 ∧ l4 < 48) ∧ (((bi σ 61 l4) = 0 → A (242, [.ref 12, .int (bn l1), .int (bn l2), .int (bn l3), .int (bn l4), .int (bn l5), v6, v7, (bUnl (bUnl v8)), .int (bn t0), v10], [.int (bn 2), .int (bn (bi σ 66 l1)), .int (bn l1), .ref 66], σ)) ∧ (¬ (bi σ 61 l4) = 0 → A (242, [.ref 12, .int (bn l1), .int (bn l2), .int (bn l3), .int (bn l4), .int (bn l5), v6, v7, (bUnl (bUnl v8)), .int (bn t0), v10], [.int (bn 1), .int (bn (bi σ 66 l1)), .int (bn l1), .ref 66], σ))))) ∧ (¬ l3 = 6 → A (242, [.ref 12, .int (bn l1), .int (bn l2), .int (bn l3), .int (bn l4), .int (bn l5), v6, v7, (bUnl (bUnl v8)), .int (bn t0), v10], [.int (bn 1), .int (bn (bi σ 66 l1)), .int (bn l1), .ref 66], σ))))))))) : A (199, [.ref 12, .int (bn l1), .int (bn l2), .int (bn l3), .int (bn l4), .int (bn l5), v6, v7, v8, v9, v10], [.int (bn t0)], σ) := by
  refine bGo hA 12 7 (342, .istore 9, 2, 200, 0, [9], []) rfl rfl rfl ?_
  refine bGo hA 12 8 (344, .iload 9, 2, 201, 0, [9], []) rfl rfl rfl ?_
  refine bGo hA 12 9 (346, .ifCond .ne (29), 3, 202, 216, [], []) rfl rfl rfl ?_
  refine bB_eq0 (x := t0) h_t0 (fun c1 => ?_) (fun c1 => ?_)
  · refine bGo hA 12 10 (349, .iload_n 3, 1, 203, 0, [3], []) rfl rfl rfl ?_
    refine bGo hA 12 11 (350, .iconst (4), 1, 204, 0, [], [(4, 0)]) rfl rfl rfl ?_
    refine bEqI bl_4 ?_
    refine bGo hA 12 12 (351, .if_icmp .ne (24), 3, 205, 216, [], []) rfl rfl rfl ?_
    refine bB_eq (x := l3) (y := 4) h_l3 (by decide : bRg 4) (fun c2 => ?_) (fun c2 => ?_)
    · refine bGo hA 12 13 (354, .aload_n 0, 1, 206, 0, [0], []) rfl rfl rfl ?_
      refine bGo hA 12 14 (355, .getfield 32, 3, 207, 0, [12, 9, 3, 63, 1, 0], []) rfl rfl rfl ?_
      refine ⟨rfl, ?_⟩
      refine bGo hA 12 15 (358, .aload_n 0, 1, 208, 0, [0], []) rfl rfl rfl ?_
      refine bGo hA 13 0 (359, .getfield 26, 3, 209, 0, [12, 6, 3, 61, 1, 0], []) rfl rfl rfl ?_
      refine ⟨rfl, ?_⟩
      refine bGo hA 13 1 (362, .iload 4, 2, 210, 0, [4], []) rfl rfl rfl ?_
      refine bGo hA 13 2 (364, .iaload, 1, 211, 0, [], []) rfl rfl rfl ?_
      refine ⟨rfl, (bIxP (x := l4) (n := 48) h_l4 ((h.1 c1).1 c2).1), ?_⟩
      refine bEqL (x := l4) h_l4 ?_
      refine bGo hA 13 3 (365, .iaload, 1, 212, 0, [], []) rfl rfl rfl ?_
      refine ⟨rfl, (bIxP (x := (bi σ 61 l4)) (n := 96) (bi_rg _ _ _) ((h.1 c1).1 c2).2.1), ?_⟩
      refine bEqL (x := (bi σ 61 l4)) (bi_rg _ _ _) ?_
      refine bGo hA 13 4 (366, .bipush (8), 2, 213, 0, [], [(8, 0)]) rfl rfl rfl ?_
      refine bEqI bl_8 ?_
      refine bGo hA 13 5 (368, .if_icmp .ne (7), 3, 214, 216, [], []) rfl rfl rfl ?_
      refine bB_eq (x := (bi σ 63 (bi σ 61 l4))) (y := 8) (bi_rg _ _ _) (by decide : bRg 8) (fun c3 => ?_) (fun c3 => ?_)
      · refine bGo hA 13 6 (371, .iconst (4), 1, 215, 0, [], [(4, 0)]) rfl rfl rfl ?_
        refine bEqI bl_4 ?_
        refine bGo hA 13 7 (372, .goto (5), 3, 216, 217, [], []) rfl rfl rfl ?_
        refine bGo hA 13 9 (377, .istore 9, 2, 218, 0, [9], []) rfl rfl rfl ?_
        refine bGo hA 13 10 (379, .iload 9, 2, 219, 0, [9], []) rfl rfl rfl ?_
        refine bGo hA 13 11 (381, .ifCond .le (12), 3, 220, 226, [], []) rfl rfl rfl ?_
        refine ⟨fun _ => ?_, fun c => absurd (by decide) c⟩
        refine bGo hA 13 12 (384, .aload_n 0, 1, 221, 0, [0], []) rfl rfl rfl ?_
        refine bGo hA 13 13 (385, .iload_n 1, 1, 222, 0, [1], []) rfl rfl rfl ?_
        refine bGo hA 13 14 (386, .iload 9, 2, 223, 0, [9], []) rfl rfl rfl ?_
        refine bGo hA 13 15 (388, .iconst (-1), 1, 224, 0, [], [(-1, 0)]) rfl rfl rfl ?_
        refine bEqI bl_m1 ?_
        refine bGo hA 14 0 (389, .invokevirtual 366, 3, 225, 0, [0, 12, 216, 3], []) rfl rfl rfl ?_
        refine ⟨rfl, ?_⟩
        refine hC _ _ _ _ _ (bRn_e (fun r7 s5 q8 k6 => ?_)) (((h.1 c1).1 c2).2.2.1 c3)
        show A (225, [.ref 12, .int (bn l1), .int (bn l2), .int (bn l3), .int (bn l4), .int (bn l5), v6, v7, (bUnl (bUnl v8)), .int (bn 4), v10], [.int (bn r7)], s5)
        refine bGo hA 14 1 (392, .ireturn, 1, 226, 0, [1], []) rfl rfl rfl ?_
        exact k6
      · refine bGo hA 13 8 (375, .iload 9, 2, 217, 0, [9], []) rfl rfl rfl ?_
        refine bGo hA 13 9 (377, .istore 9, 2, 218, 0, [9], []) rfl rfl rfl ?_
        refine bGo hA 13 10 (379, .iload 9, 2, 219, 0, [9], []) rfl rfl rfl ?_
        refine bGo hA 13 11 (381, .ifCond .le (12), 3, 220, 226, [], []) rfl rfl rfl ?_
        refine bB_gt0 (x := t0) h_t0 (fun c9 => ?_) (fun c9 => ?_)
        · refine bGo hA 13 12 (384, .aload_n 0, 1, 221, 0, [0], []) rfl rfl rfl ?_
          refine bGo hA 13 13 (385, .iload_n 1, 1, 222, 0, [1], []) rfl rfl rfl ?_
          refine bGo hA 13 14 (386, .iload 9, 2, 223, 0, [9], []) rfl rfl rfl ?_
          refine bGo hA 13 15 (388, .iconst (-1), 1, 224, 0, [], [(-1, 0)]) rfl rfl rfl ?_
          refine bEqI bl_m1 ?_
          refine bGo hA 14 0 (389, .invokevirtual 366, 3, 225, 0, [0, 12, 216, 3], []) rfl rfl rfl ?_
          refine ⟨rfl, ?_⟩
          refine hC _ _ _ _ _ (bRn_e (fun r12 s10 q13 k11 => ?_)) ((((h.1 c1).1 c2).2.2.2 c3).1 c9)
          show A (225, [.ref 12, .int (bn l1), .int (bn l2), .int (bn l3), .int (bn l4), .int (bn l5), v6, v7, (bUnl (bUnl v8)), .int (bn t0), v10], [.int (bn r12)], s10)
          refine bGo hA 14 1 (392, .ireturn, 1, 226, 0, [1], []) rfl rfl rfl ?_
          exact k11
        · refine bGo hA 14 2 (393, .aload_n 0, 1, 227, 0, [0], []) rfl rfl rfl ?_
          refine bGo hA 14 3 (394, .getfield 41, 3, 228, 0, [12, 12, 3, 66, 1, 0], []) rfl rfl rfl ?_
          refine ⟨rfl, ?_⟩
          refine bGo hA 14 4 (397, .iload_n 1, 1, 229, 0, [1], []) rfl rfl rfl ?_
          refine bGo hA 14 5 (398, .dup2, 1, 230, 0, [], []) rfl rfl rfl ?_
          refine bGo hA 14 6 (399, .iaload, 1, 231, 0, [], []) rfl rfl rfl ?_
          refine ⟨rfl, (bIxP (x := l1) (n := 6) h_l1 ((((h.1 c1).1 c2).2.2.2 c3).2 c9).1), ?_⟩
          refine bEqL (x := l1) h_l1 ?_
          refine bGo hA 14 7 (400, .iload_n 3, 1, 232, 0, [3], []) rfl rfl rfl ?_
          refine bGo hA 14 8 (401, .bipush (6), 2, 233, 0, [], [(6, 0)]) rfl rfl rfl ?_
          refine bEqI bl_6 ?_
          refine bGo hA 14 9 (403, .if_icmp .ne (17), 3, 234, 241, [], []) rfl rfl rfl ?_
          refine bB_eq (x := l3) (y := 6) h_l3 (by decide : bRg 6) (fun c14 => ?_) (fun c14 => ?_)
          · refine bGo hA 14 10 (406, .aload_n 0, 1, 235, 0, [0], []) rfl rfl rfl ?_
            refine bGo hA 14 11 (407, .getfield 26, 3, 236, 0, [12, 6, 3, 61, 1, 0], []) rfl rfl rfl ?_
            refine ⟨rfl, ?_⟩
            refine bGo hA 14 12 (410, .iload 4, 2, 237, 0, [4], []) rfl rfl rfl ?_
            refine bGo hA 14 13 (412, .iaload, 1, 238, 0, [], []) rfl rfl rfl ?_
            refine ⟨rfl, (bIxP (x := l4) (n := 48) h_l4 ((h.1 c1).1 c2).1), ?_⟩
            refine bEqL (x := l4) h_l4 ?_
            refine bGo hA 14 14 (413, .ifCond .ne (7), 3, 239, 241, [], []) rfl rfl rfl ?_
            refine bB_eq0 (x := (bi σ 61 l4)) (bi_rg _ _ _) (fun c15 => ?_) (fun c15 => ?_)
            · refine bGo hA 14 15 (416, .iconst (2), 1, 240, 0, [], [(2, 0)]) rfl rfl rfl ?_
              refine bEqI bl_2 ?_
              refine bGo hA 15 0 (417, .goto (4), 3, 241, 242, [], []) rfl rfl rfl ?_
              exact ((((((h.1 c1).1 c2).2.2.2 c3).2 c9).2.1 c14).1 c15)
            · refine bGo hA 15 1 (420, .iconst (1), 1, 242, 0, [], [(1, 0)]) rfl rfl rfl ?_
              refine bEqI bl_1 ?_
              exact ((((((h.1 c1).1 c2).2.2.2 c3).2 c9).2.1 c14).2 c15)
          · refine bGo hA 15 1 (420, .iconst (1), 1, 242, 0, [], [(1, 0)]) rfl rfl rfl ?_
            refine bEqI bl_1 ?_
            exact (((((h.1 c1).1 c2).2.2.2 c3).2 c9).2.2 c14)
    · refine bGo hA 13 8 (375, .iload 9, 2, 217, 0, [9], []) rfl rfl rfl ?_
      refine bGo hA 13 9 (377, .istore 9, 2, 218, 0, [9], []) rfl rfl rfl ?_
      refine bGo hA 13 10 (379, .iload 9, 2, 219, 0, [9], []) rfl rfl rfl ?_
      refine bGo hA 13 11 (381, .ifCond .le (12), 3, 220, 226, [], []) rfl rfl rfl ?_
      refine bB_gt0 (x := t0) h_t0 (fun c16 => ?_) (fun c16 => ?_)
      · refine bGo hA 13 12 (384, .aload_n 0, 1, 221, 0, [0], []) rfl rfl rfl ?_
        refine bGo hA 13 13 (385, .iload_n 1, 1, 222, 0, [1], []) rfl rfl rfl ?_
        refine bGo hA 13 14 (386, .iload 9, 2, 223, 0, [9], []) rfl rfl rfl ?_
        refine bGo hA 13 15 (388, .iconst (-1), 1, 224, 0, [], [(-1, 0)]) rfl rfl rfl ?_
        refine bEqI bl_m1 ?_
        refine bGo hA 14 0 (389, .invokevirtual 366, 3, 225, 0, [0, 12, 216, 3], []) rfl rfl rfl ?_
        refine ⟨rfl, ?_⟩
        refine hC _ _ _ _ _ (bRn_e (fun r19 s17 q20 k18 => ?_)) (((h.1 c1).2 c2).1 c16)
        show A (225, [.ref 12, .int (bn l1), .int (bn l2), .int (bn l3), .int (bn l4), .int (bn l5), v6, v7, (bUnl (bUnl v8)), .int (bn t0), v10], [.int (bn r19)], s17)
        refine bGo hA 14 1 (392, .ireturn, 1, 226, 0, [1], []) rfl rfl rfl ?_
        exact k18
      · refine bGo hA 14 2 (393, .aload_n 0, 1, 227, 0, [0], []) rfl rfl rfl ?_
        refine bGo hA 14 3 (394, .getfield 41, 3, 228, 0, [12, 12, 3, 66, 1, 0], []) rfl rfl rfl ?_
        refine ⟨rfl, ?_⟩
        refine bGo hA 14 4 (397, .iload_n 1, 1, 229, 0, [1], []) rfl rfl rfl ?_
        refine bGo hA 14 5 (398, .dup2, 1, 230, 0, [], []) rfl rfl rfl ?_
        refine bGo hA 14 6 (399, .iaload, 1, 231, 0, [], []) rfl rfl rfl ?_
        refine ⟨rfl, (bIxP (x := l1) (n := 6) h_l1 (((h.1 c1).2 c2).2 c16).1), ?_⟩
        refine bEqL (x := l1) h_l1 ?_
        refine bGo hA 14 7 (400, .iload_n 3, 1, 232, 0, [3], []) rfl rfl rfl ?_
        refine bGo hA 14 8 (401, .bipush (6), 2, 233, 0, [], [(6, 0)]) rfl rfl rfl ?_
        refine bEqI bl_6 ?_
        refine bGo hA 14 9 (403, .if_icmp .ne (17), 3, 234, 241, [], []) rfl rfl rfl ?_
        refine bB_eq (x := l3) (y := 6) h_l3 (by decide : bRg 6) (fun c21 => ?_) (fun c21 => ?_)
        · refine bGo hA 14 10 (406, .aload_n 0, 1, 235, 0, [0], []) rfl rfl rfl ?_
          refine bGo hA 14 11 (407, .getfield 26, 3, 236, 0, [12, 6, 3, 61, 1, 0], []) rfl rfl rfl ?_
          refine ⟨rfl, ?_⟩
          refine bGo hA 14 12 (410, .iload 4, 2, 237, 0, [4], []) rfl rfl rfl ?_
          refine bGo hA 14 13 (412, .iaload, 1, 238, 0, [], []) rfl rfl rfl ?_
          refine ⟨rfl, (bIxP (x := l4) (n := 48) h_l4 ((((h.1 c1).2 c2).2 c16).2.1 c21).1), ?_⟩
          refine bEqL (x := l4) h_l4 ?_
          refine bGo hA 14 14 (413, .ifCond .ne (7), 3, 239, 241, [], []) rfl rfl rfl ?_
          refine bB_eq0 (x := (bi σ 61 l4)) (bi_rg _ _ _) (fun c22 => ?_) (fun c22 => ?_)
          · refine bGo hA 14 15 (416, .iconst (2), 1, 240, 0, [], [(2, 0)]) rfl rfl rfl ?_
            refine bEqI bl_2 ?_
            refine bGo hA 15 0 (417, .goto (4), 3, 241, 242, [], []) rfl rfl rfl ?_
            exact (((((h.1 c1).2 c2).2 c16).2.1 c21).2.1 c22)
          · refine bGo hA 15 1 (420, .iconst (1), 1, 242, 0, [], [(1, 0)]) rfl rfl rfl ?_
            refine bEqI bl_1 ?_
            exact (((((h.1 c1).2 c2).2 c16).2.1 c21).2.2 c22)
        · refine bGo hA 15 1 (420, .iconst (1), 1, 242, 0, [], [(1, 0)]) rfl rfl rfl ?_
          refine bEqI bl_1 ?_
          exact ((((h.1 c1).2 c2).2 c16).2.2 c21)
  · refine bGo hA 13 8 (375, .iload 9, 2, 217, 0, [9], []) rfl rfl rfl ?_
    refine bGo hA 13 9 (377, .istore 9, 2, 218, 0, [9], []) rfl rfl rfl ?_
    refine bGo hA 13 10 (379, .iload 9, 2, 219, 0, [9], []) rfl rfl rfl ?_
    refine bGo hA 13 11 (381, .ifCond .le (12), 3, 220, 226, [], []) rfl rfl rfl ?_
    refine bB_gt0 (x := t0) h_t0 (fun c23 => ?_) (fun c23 => ?_)
    · refine bGo hA 13 12 (384, .aload_n 0, 1, 221, 0, [0], []) rfl rfl rfl ?_
      refine bGo hA 13 13 (385, .iload_n 1, 1, 222, 0, [1], []) rfl rfl rfl ?_
      refine bGo hA 13 14 (386, .iload 9, 2, 223, 0, [9], []) rfl rfl rfl ?_
      refine bGo hA 13 15 (388, .iconst (-1), 1, 224, 0, [], [(-1, 0)]) rfl rfl rfl ?_
      refine bEqI bl_m1 ?_
      refine bGo hA 14 0 (389, .invokevirtual 366, 3, 225, 0, [0, 12, 216, 3], []) rfl rfl rfl ?_
      refine ⟨rfl, ?_⟩
      refine hC _ _ _ _ _ (bRn_e (fun r26 s24 q27 k25 => ?_)) ((h.2 c1).1 c23)
      show A (225, [.ref 12, .int (bn l1), .int (bn l2), .int (bn l3), .int (bn l4), .int (bn l5), v6, v7, (bUnl (bUnl v8)), .int (bn t0), v10], [.int (bn r26)], s24)
      refine bGo hA 14 1 (392, .ireturn, 1, 226, 0, [1], []) rfl rfl rfl ?_
      exact k25
    · refine bGo hA 14 2 (393, .aload_n 0, 1, 227, 0, [0], []) rfl rfl rfl ?_
      refine bGo hA 14 3 (394, .getfield 41, 3, 228, 0, [12, 12, 3, 66, 1, 0], []) rfl rfl rfl ?_
      refine ⟨rfl, ?_⟩
      refine bGo hA 14 4 (397, .iload_n 1, 1, 229, 0, [1], []) rfl rfl rfl ?_
      refine bGo hA 14 5 (398, .dup2, 1, 230, 0, [], []) rfl rfl rfl ?_
      refine bGo hA 14 6 (399, .iaload, 1, 231, 0, [], []) rfl rfl rfl ?_
      refine ⟨rfl, (bIxP (x := l1) (n := 6) h_l1 ((h.2 c1).2 c23).1), ?_⟩
      refine bEqL (x := l1) h_l1 ?_
      refine bGo hA 14 7 (400, .iload_n 3, 1, 232, 0, [3], []) rfl rfl rfl ?_
      refine bGo hA 14 8 (401, .bipush (6), 2, 233, 0, [], [(6, 0)]) rfl rfl rfl ?_
      refine bEqI bl_6 ?_
      refine bGo hA 14 9 (403, .if_icmp .ne (17), 3, 234, 241, [], []) rfl rfl rfl ?_
      refine bB_eq (x := l3) (y := 6) h_l3 (by decide : bRg 6) (fun c28 => ?_) (fun c28 => ?_)
      · refine bGo hA 14 10 (406, .aload_n 0, 1, 235, 0, [0], []) rfl rfl rfl ?_
        refine bGo hA 14 11 (407, .getfield 26, 3, 236, 0, [12, 6, 3, 61, 1, 0], []) rfl rfl rfl ?_
        refine ⟨rfl, ?_⟩
        refine bGo hA 14 12 (410, .iload 4, 2, 237, 0, [4], []) rfl rfl rfl ?_
        refine bGo hA 14 13 (412, .iaload, 1, 238, 0, [], []) rfl rfl rfl ?_
        refine ⟨rfl, (bIxP (x := l4) (n := 48) h_l4 (((h.2 c1).2 c23).2.1 c28).1), ?_⟩
        refine bEqL (x := l4) h_l4 ?_
        refine bGo hA 14 14 (413, .ifCond .ne (7), 3, 239, 241, [], []) rfl rfl rfl ?_
        refine bB_eq0 (x := (bi σ 61 l4)) (bi_rg _ _ _) (fun c29 => ?_) (fun c29 => ?_)
        · refine bGo hA 14 15 (416, .iconst (2), 1, 240, 0, [], [(2, 0)]) rfl rfl rfl ?_
          refine bEqI bl_2 ?_
          refine bGo hA 15 0 (417, .goto (4), 3, 241, 242, [], []) rfl rfl rfl ?_
          exact ((((h.2 c1).2 c23).2.1 c28).2.1 c29)
        · refine bGo hA 15 1 (420, .iconst (1), 1, 242, 0, [], [(1, 0)]) rfl rfl rfl ?_
          refine bEqI bl_1 ?_
          exact ((((h.2 c1).2 c23).2.1 c28).2.2 c29)
      · refine bGo hA 15 1 (420, .iconst (1), 1, 242, 0, [], [(1, 0)]) rfl rfl rfl ?_
        refine bEqI bl_1 ?_
        exact (((h.2 c1).2 c23).2.2 c28)

theorem sq218_242 {lvl : Nat} {C : bCall} {Q : bPost} {A : bPt → Prop} (hC : bMono C) (hA : bClosed lvl bm218 C Q A) {l1 : Int} {l2 : Int} {l3 : Int} {l4 : Int} {l5 : Int} {v6 : Value} {v7 : Value} {v8 : Value} {v9 : Value} {v10 : Value} {t0 : Int} {t1 : Int} {t2 : Int} {σ : bSt}  (h_l1 : bRg l1) (h_l2 : bRg l2) (h_l3 : bRg l3) (h_l4 : bRg l4) (h_l5 : bRg l5) (h_t0 : bRg t0) (h_t1 : bRg t1) (h_t2 : bRg t2)
  (h : (bRg (t1 + t0) ∧ ((0 ≤ t2 ∧ t2 < 6) ∧ ((l3 = 0 → (bRg (l2 + 2) ∧ ((0 ≤ (l2 + 2) ∧ (l2 + 2) < 288) ∧ (C 217 [.ref 12, .int (bn l4), .int (bn 1), .int (bn (bi σ 59 (l2 + 2)))] (bw σ 66 t2 (t1 + t0)) (bRv (fun s2 => Q (.inl (some (.int (bn (-1))))) s2)))))) ∧ (¬ l3 = 0 → ((l3 = 1 → ((0 ≤ l5 ∧ l5 < 48) ∧ (C 217 [.ref 12, .int (bn l4), .int (bn (bi σ 60 l5)), .int (bn (bi σ 61 l5))] (bw σ 66 t2 (t1 + t0)) (bRv (fun s5 => Q (.inl (some (.int (bn (-1))))) s5))))) ∧ (¬ l3 = 1 → ((l3 = 2 → ((0 ≤ l4 ∧ l4 < 48) ∧ ((0 ≤ l5 ∧ l5 < 48) ∧ (bRg ((bi σ 61 l4) + (bi σ 61 l5)) ∧ (0 ≤ ((bi σ 61 l4) + (bi σ 61 l5)) ∧ Q (.inl (some (.int (bn (-1))))) (bw (bw σ 66 t2 (t1 + t0)) 61 l4 (((bi σ 61 l4) + (bi σ 61 l5)) % 1000))))))) ∧ (¬ l3 = 2 → ((l3 = 3 → ((0 ≤ (bi σ 12 7) ∧ (bi σ 12 7) < 96) ∧ (C 217 [.ref 12, .int (bn l4), .int (bn 2), .int (bn (bi σ 12 7))] (bw (bw (bw σ 66 t2 (t1 + t0)) 62 (bi σ 12 7) l1) 63 (bi σ 12 7) 0) (bRv (fun s9 => (bRg ((bi s9 12 7) + 1) ∧ Q (.inl (some (.int (bn (-1))))) (bw s9 12 7 ((bi s9 12 7) + 1)))))))) ∧ (¬ l3 = 3 → ((l3 = 4 → ((0 ≤ l4 ∧ l4 < 48) ∧ (bRg (8 * (bi σ 61 l4)) ∧ ((0 ≤ (bi σ 61 l4) ∧ (bi σ 61 l4) < 96) ∧ (bRg ((8 * (bi σ 61 l4)) + (bi σ 63 (bi σ 61 l4))) ∧ ((0 ≤ l5 ∧ l5 < 48) ∧ ((0 ≤ ((8 * (bi σ 61 l4)) + (bi σ 63 (bi σ 61 l4))) ∧ ((8 * (bi σ 61 l4)) + (bi σ 63 (bi σ 61 l4))) < 768) ∧ (bRg ((bi σ 63 (bi σ 61 l4)) + 1) ∧ Q (.inl (some (.int (bn (-1))))) (bw (bw (bw σ 66 t2 (t1 + t0)) 64 ((8 * (bi σ 61 l4)) + (bi σ 63 (bi σ 61 l4))) (bi σ 61 l5)) 63 (bi σ 61 l4) ((bi σ 63 (bi σ 61 l4)) + 1)))))))))) ∧ (¬ l3 = 4 → ((l3 = 5 → ((0 ≤ l5 ∧ l5 < 48) ∧ (C 217 [.ref 12, .int (bn l4), .int (bn (bi σ 60 l5)), .int (bn (bi σ 61 l5))] (bw σ 66 t2 (t1 + t0)) (bRv (fun s13 => Q (.inl (some (.int (bn (-1))))) s13))))) ∧ (¬ l3 = 5 → Q (.inl (some (.int (bn (-1))))) (bw σ 66 t2 (t1 + t0))))))))))))))))) : A (242, [.ref 12, .int (bn l1), .int (bn l2), .int (bn l3), .int (bn l4), .int (bn l5), v6, v7, v8, v9, v10], [.int (bn t0), .int (bn t1), .int (bn t2), .ref 66], σ) := by
  refine bGo hA 15 2 (421, .iadd, 1, 243, 0, [], []) rfl rfl rfl ?_
  refine bEqI (bn_add t1 t0) ?_
  refine bGo hA 15 3 (422, .iastore, 1, 244, 0, [], []) rfl rfl rfl ?_
  refine ⟨rfl, (bIxP (x := t2) (n := 6) h_t2 h.2.1), by decide, ?_⟩
  refine bEqS (x := t2) h_t2 ?_
  refine bGo hA 15 4 (423, .iload_n 3, 1, 245, 0, [3], []) rfl rfl rfl ?_
  refine bGo hA 15 5 (424, .tableswitch (208) (0) (5) #[40, 185, 58, 87, 131, 185], 40, 246, 343, [], [(0, 246), (1, 331), (2, 257), (3, 273), (4, 298), (5, 331)]) rfl rfl rfl ?_
  refine bB_sw (x := l3) (k := 0) bl_0 h_l3 (by decide) (fun c1 => ?_) (fun c1 => ?_)
  · refine bGo hA 15 6 (464, .aload_n 0, 1, 247, 0, [0], []) rfl rfl rfl ?_
    refine bGo hA 15 7 (465, .iload 4, 2, 248, 0, [4], []) rfl rfl rfl ?_
    refine bGo hA 15 8 (467, .iconst (1), 1, 249, 0, [], [(1, 0)]) rfl rfl rfl ?_
    refine bEqI bl_1 ?_
    refine bGo hA 15 9 (468, .aload_n 0, 1, 250, 0, [0], []) rfl rfl rfl ?_
    refine bGo hA 15 10 (469, .getfield 20, 3, 251, 0, [12, 4, 3, 59, 1, 0], []) rfl rfl rfl ?_
    refine ⟨rfl, ?_⟩
    refine bGo hA 15 11 (472, .iload_n 2, 1, 252, 0, [2], []) rfl rfl rfl ?_
    refine bGo hA 15 12 (473, .iconst (2), 1, 253, 0, [], [(2, 0)]) rfl rfl rfl ?_
    refine bEqI bl_2 ?_
    refine bGo hA 15 13 (474, .iadd, 1, 254, 0, [], []) rfl rfl rfl ?_
    refine bEqI (bn_add l2 2) ?_
    refine bGo hA 15 14 (475, .iaload, 1, 255, 0, [], []) rfl rfl rfl ?_
    refine ⟨rfl, (bIxP (x := (l2 + 2)) (n := 288) (h.2.2.1 c1).1 (h.2.2.1 c1).2.1), ?_⟩
    refine bEqL (x := (l2 + 2)) (h.2.2.1 c1).1 ?_
    refine bEqI (congrArg bn (bi_ne (by decide))) ?_
    refine bGo hA 15 15 (476, .invokevirtual 370, 3, 256, 0, [0, 12, 217, 3], []) rfl rfl rfl ?_
    refine ⟨rfl, ?_⟩
    refine hC _ _ _ _ _ (bRv_e (fun s2 k3 => ?_)) (h.2.2.1 c1).2.2
    show A (256, [.ref 12, .int (bn l1), .int (bn l2), .int (bn l3), .int (bn l4), .int (bn l5), v6, v7, v8, v9, v10], [], s2)
    refine bGo hA 16 0 (479, .goto (153), 3, 257, 343, [], []) rfl rfl rfl ?_
    refine bGo hA 21 7 (632, .iconst (-1), 1, 344, 0, [], [(-1, 0)]) rfl rfl rfl ?_
    refine bEqI bl_m1 ?_
    refine bGo hA 21 8 (633, .ireturn, 1, 0, 0, [1], []) rfl rfl rfl ?_
    exact k3
  · refine bB_sw (x := l3) (k := 1) bl_1 h_l3 (by decide) (fun c4 => ?_) (fun c4 => ?_)
    · refine bGo hA 20 11 (609, .aload_n 0, 1, 332, 0, [0], []) rfl rfl rfl ?_
      refine bGo hA 20 12 (610, .iload 4, 2, 333, 0, [4], []) rfl rfl rfl ?_
      refine bGo hA 20 13 (612, .aload_n 0, 1, 334, 0, [0], []) rfl rfl rfl ?_
      refine bGo hA 20 14 (613, .getfield 23, 3, 335, 0, [12, 5, 3, 60, 1, 0], []) rfl rfl rfl ?_
      refine ⟨rfl, ?_⟩
      refine bGo hA 20 15 (616, .iload 5, 2, 336, 0, [5], []) rfl rfl rfl ?_
      refine bGo hA 21 0 (618, .iaload, 1, 337, 0, [], []) rfl rfl rfl ?_
      refine ⟨rfl, (bIxP (x := l5) (n := 48) h_l5 ((h.2.2.2 c1).1 c4).1), ?_⟩
      refine bEqL (x := l5) h_l5 ?_
      refine bEqI (congrArg bn (bi_ne (by decide))) ?_
      refine bGo hA 21 1 (619, .aload_n 0, 1, 338, 0, [0], []) rfl rfl rfl ?_
      refine bGo hA 21 2 (620, .getfield 26, 3, 339, 0, [12, 6, 3, 61, 1, 0], []) rfl rfl rfl ?_
      refine ⟨rfl, ?_⟩
      refine bGo hA 21 3 (623, .iload 5, 2, 340, 0, [5], []) rfl rfl rfl ?_
      refine bGo hA 21 4 (625, .iaload, 1, 341, 0, [], []) rfl rfl rfl ?_
      refine ⟨rfl, (bIxP (x := l5) (n := 48) h_l5 ((h.2.2.2 c1).1 c4).1), ?_⟩
      refine bEqL (x := l5) h_l5 ?_
      refine bEqI (congrArg bn (bi_ne (by decide))) ?_
      refine bGo hA 21 5 (626, .invokevirtual 370, 3, 342, 0, [0, 12, 217, 3], []) rfl rfl rfl ?_
      refine ⟨rfl, ?_⟩
      refine hC _ _ _ _ _ (bRv_e (fun s5 k6 => ?_)) ((h.2.2.2 c1).1 c4).2
      show A (342, [.ref 12, .int (bn l1), .int (bn l2), .int (bn l3), .int (bn l4), .int (bn l5), v6, v7, v8, v9, v10], [], s5)
      refine bGo hA 21 6 (629, .goto (3), 3, 343, 343, [], []) rfl rfl rfl ?_
      refine bGo hA 21 7 (632, .iconst (-1), 1, 344, 0, [], [(-1, 0)]) rfl rfl rfl ?_
      refine bEqI bl_m1 ?_
      refine bGo hA 21 8 (633, .ireturn, 1, 0, 0, [1], []) rfl rfl rfl ?_
      exact k6
    · refine bB_sw (x := l3) (k := 2) bl_2 h_l3 (by decide) (fun c7 => ?_) (fun c7 => ?_)
      · refine bGo hA 16 1 (482, .aload_n 0, 1, 258, 0, [0], []) rfl rfl rfl ?_
        refine bGo hA 16 2 (483, .getfield 26, 3, 259, 0, [12, 6, 3, 61, 1, 0], []) rfl rfl rfl ?_
        refine ⟨rfl, ?_⟩
        refine bGo hA 16 3 (486, .iload 4, 2, 260, 0, [4], []) rfl rfl rfl ?_
        refine bGo hA 16 4 (488, .aload_n 0, 1, 261, 0, [0], []) rfl rfl rfl ?_
        refine bGo hA 16 5 (489, .getfield 26, 3, 262, 0, [12, 6, 3, 61, 1, 0], []) rfl rfl rfl ?_
        refine ⟨rfl, ?_⟩
        refine bGo hA 16 6 (492, .iload 4, 2, 263, 0, [4], []) rfl rfl rfl ?_
        refine bGo hA 16 7 (494, .iaload, 1, 264, 0, [], []) rfl rfl rfl ?_
        refine ⟨rfl, (bIxP (x := l4) (n := 48) h_l4 (((h.2.2.2 c1).2 c4).1 c7).1), ?_⟩
        refine bEqL (x := l4) h_l4 ?_
        refine bEqI (congrArg bn (bi_ne (by decide))) ?_
        refine bGo hA 16 8 (495, .aload_n 0, 1, 265, 0, [0], []) rfl rfl rfl ?_
        refine bGo hA 16 9 (496, .getfield 26, 3, 266, 0, [12, 6, 3, 61, 1, 0], []) rfl rfl rfl ?_
        refine ⟨rfl, ?_⟩
        refine bGo hA 16 10 (499, .iload 5, 2, 267, 0, [5], []) rfl rfl rfl ?_
        refine bGo hA 16 11 (501, .iaload, 1, 268, 0, [], []) rfl rfl rfl ?_
        refine ⟨rfl, (bIxP (x := l5) (n := 48) h_l5 (((h.2.2.2 c1).2 c4).1 c7).2.1), ?_⟩
        refine bEqL (x := l5) h_l5 ?_
        refine bEqI (congrArg bn (bi_ne (by decide))) ?_
        refine bGo hA 16 12 (502, .iadd, 1, 269, 0, [], []) rfl rfl rfl ?_
        refine bEqI (bn_add (bi σ 61 l4) (bi σ 61 l5)) ?_
        refine bGo hA 16 13 (503, .sipush (1000), 3, 270, 0, [], [(1000, 0)]) rfl rfl rfl ?_
        refine bEqI bl_1000 ?_
        refine bGo hA 16 14 (506, .irem, 1, 271, 0, [], []) rfl rfl rfl ?_
        refine ⟨by decide, ?_⟩
        refine bEqI (bn_rem (((h.2.2.2 c1).2 c4).1 c7).2.2.1 (by decide) (((h.2.2.2 c1).2 c4).1 c7).2.2.2.1) ?_
        refine bGo hA 16 15 (507, .iastore, 1, 272, 0, [], []) rfl rfl rfl ?_
        refine ⟨rfl, (bIxP (x := l4) (n := 48) h_l4 (((h.2.2.2 c1).2 c4).1 c7).1), by decide, ?_⟩
        refine bEqS (x := l4) h_l4 ?_
        refine bGo hA 17 0 (508, .goto (124), 3, 273, 343, [], []) rfl rfl rfl ?_
        refine bGo hA 21 7 (632, .iconst (-1), 1, 344, 0, [], [(-1, 0)]) rfl rfl rfl ?_
        refine bEqI bl_m1 ?_
        refine bGo hA 21 8 (633, .ireturn, 1, 0, 0, [1], []) rfl rfl rfl ?_
        exact (((h.2.2.2 c1).2 c4).1 c7).2.2.2.2
      · refine bB_sw (x := l3) (k := 3) bl_3 h_l3 (by decide) (fun c8 => ?_) (fun c8 => ?_)
        · refine bGo hA 17 1 (511, .aload_n 0, 1, 274, 0, [0], []) rfl rfl rfl ?_
          refine bGo hA 17 2 (512, .getfield 29, 3, 275, 0, [12, 8, 3, 62, 1, 0], []) rfl rfl rfl ?_
          refine ⟨rfl, ?_⟩
          refine bGo hA 17 3 (515, .aload_n 0, 1, 276, 0, [0], []) rfl rfl rfl ?_
          refine bGo hA 17 4 (516, .getfield 356, 3, 277, 0, [12, 7, 0, 0, 0, 0], []) rfl rfl rfl ?_
          refine ⟨rfl, ?_⟩
          refine bEqI ((bn_bi (bw σ 66 t2 (t1 + t0)) 12 7).trans (congrArg bn (bi_ne (by decide)))) ?_
          refine bGo hA 17 5 (519, .iload_n 1, 1, 278, 0, [1], []) rfl rfl rfl ?_
          refine bGo hA 17 6 (520, .iastore, 1, 279, 0, [], []) rfl rfl rfl ?_
          refine ⟨rfl, (bIxP (x := (bi σ 12 7)) (n := 96) (bi_rg _ _ _) ((((h.2.2.2 c1).2 c4).2 c7).1 c8).1), by decide, ?_⟩
          refine bEqS (x := (bi σ 12 7)) (bi_rg _ _ _) ?_
          refine bGo hA 17 7 (521, .aload_n 0, 1, 280, 0, [0], []) rfl rfl rfl ?_
          refine bGo hA 17 8 (522, .getfield 32, 3, 281, 0, [12, 9, 3, 63, 1, 0], []) rfl rfl rfl ?_
          refine ⟨rfl, ?_⟩
          refine bGo hA 17 9 (525, .aload_n 0, 1, 282, 0, [0], []) rfl rfl rfl ?_
          refine bGo hA 17 10 (526, .getfield 356, 3, 283, 0, [12, 7, 0, 0, 0, 0], []) rfl rfl rfl ?_
          refine ⟨rfl, ?_⟩
          refine bEqI ((bn_bi (bw (bw σ 66 t2 (t1 + t0)) 62 (bi σ 12 7) l1) 12 7).trans (congrArg bn ((bi_ne (by decide)).trans (bi_ne (by decide))))) ?_
          refine bGo hA 17 11 (529, .iconst (0), 1, 284, 0, [], [(0, 0)]) rfl rfl rfl ?_
          refine bEqI bl_0 ?_
          refine bGo hA 17 12 (530, .iastore, 1, 285, 0, [], []) rfl rfl rfl ?_
          refine ⟨rfl, (bIxP (x := (bi σ 12 7)) (n := 96) (bi_rg _ _ _) ((((h.2.2.2 c1).2 c4).2 c7).1 c8).1), by decide, ?_⟩
          refine bEqS (x := (bi σ 12 7)) (bi_rg _ _ _) ?_
          refine bGo hA 17 13 (531, .aload_n 0, 1, 286, 0, [0], []) rfl rfl rfl ?_
          refine bGo hA 17 14 (532, .iload 4, 2, 287, 0, [4], []) rfl rfl rfl ?_
          refine bGo hA 17 15 (534, .iconst (2), 1, 288, 0, [], [(2, 0)]) rfl rfl rfl ?_
          refine bEqI bl_2 ?_
          refine bGo hA 18 0 (535, .aload_n 0, 1, 289, 0, [0], []) rfl rfl rfl ?_
          refine bGo hA 18 1 (536, .getfield 356, 3, 290, 0, [12, 7, 0, 0, 0, 0], []) rfl rfl rfl ?_
          refine ⟨rfl, ?_⟩
          refine bEqI ((bn_bi (bw (bw (bw σ 66 t2 (t1 + t0)) 62 (bi σ 12 7) l1) 63 (bi σ 12 7) 0) 12 7).trans (congrArg bn (((bi_ne (by decide)).trans (bi_ne (by decide))).trans (bi_ne (by decide))))) ?_
          refine bGo hA 18 2 (539, .invokevirtual 370, 3, 291, 0, [0, 12, 217, 3], []) rfl rfl rfl ?_
          refine ⟨rfl, ?_⟩
          refine hC _ _ _ _ _ (bRv_e (fun s9 k10 => ?_)) ((((h.2.2.2 c1).2 c4).2 c7).1 c8).2
          show A (291, [.ref 12, .int (bn l1), .int (bn l2), .int (bn l3), .int (bn l4), .int (bn l5), v6, v7, v8, v9, v10], [], s9)
          refine bGo hA 18 3 (542, .aload_n 0, 1, 292, 0, [0], []) rfl rfl rfl ?_
          refine bGo hA 18 4 (543, .dup, 1, 293, 0, [], []) rfl rfl rfl ?_
          refine bGo hA 18 5 (544, .getfield 356, 3, 294, 0, [12, 7, 0, 0, 0, 0], []) rfl rfl rfl ?_
          refine ⟨rfl, ?_⟩
          refine bEqI (bn_bi s9 12 7) ?_
          refine bGo hA 18 6 (547, .iconst (1), 1, 295, 0, [], [(1, 0)]) rfl rfl rfl ?_
          refine bEqI bl_1 ?_
          refine bGo hA 18 7 (548, .iadd, 1, 296, 0, [], []) rfl rfl rfl ?_
          refine bEqI (bn_add (bi s9 12 7) 1) ?_
          refine bGo hA 18 8 (549, .putfield 356, 3, 297, 0, [12, 7, 0, 0, 0, 0], []) rfl rfl rfl ?_
          refine ⟨rfl, ?_⟩
          refine bGo hA 18 9 (552, .goto (80), 3, 298, 343, [], []) rfl rfl rfl ?_
          refine bGo hA 21 7 (632, .iconst (-1), 1, 344, 0, [], [(-1, 0)]) rfl rfl rfl ?_
          refine bEqI bl_m1 ?_
          refine bGo hA 21 8 (633, .ireturn, 1, 0, 0, [1], []) rfl rfl rfl ?_
          exact k10.2
        · refine bB_sw (x := l3) (k := 4) bl_4 h_l3 (by decide) (fun c11 => ?_) (fun c11 => ?_)
          · refine bGo hA 18 10 (555, .aload_n 0, 1, 299, 0, [0], []) rfl rfl rfl ?_
            refine bGo hA 18 11 (556, .getfield 35, 3, 300, 0, [12, 10, 3, 64, 1, 0], []) rfl rfl rfl ?_
            refine ⟨rfl, ?_⟩
            refine bGo hA 18 12 (559, .bipush (8), 2, 301, 0, [], [(8, 0)]) rfl rfl rfl ?_
            refine bEqI bl_8 ?_
            refine bGo hA 18 13 (561, .aload_n 0, 1, 302, 0, [0], []) rfl rfl rfl ?_
            refine bGo hA 18 14 (562, .getfield 26, 3, 303, 0, [12, 6, 3, 61, 1, 0], []) rfl rfl rfl ?_
            refine ⟨rfl, ?_⟩
            refine bGo hA 18 15 (565, .iload 4, 2, 304, 0, [4], []) rfl rfl rfl ?_
            refine bGo hA 19 0 (567, .iaload, 1, 305, 0, [], []) rfl rfl rfl ?_
            refine ⟨rfl, (bIxP (x := l4) (n := 48) h_l4 (((((h.2.2.2 c1).2 c4).2 c7).2 c8).1 c11).1), ?_⟩
            refine bEqL (x := l4) h_l4 ?_
            refine bEqI (congrArg bn (bi_ne (by decide))) ?_
            refine bGo hA 19 1 (568, .imul, 1, 306, 0, [], []) rfl rfl rfl ?_
            refine bEqI (bn_mul 8 (bi σ 61 l4)) ?_
            refine bGo hA 19 2 (569, .aload_n 0, 1, 307, 0, [0], []) rfl rfl rfl ?_
            refine bGo hA 19 3 (570, .getfield 32, 3, 308, 0, [12, 9, 3, 63, 1, 0], []) rfl rfl rfl ?_
            refine ⟨rfl, ?_⟩
            refine bGo hA 19 4 (573, .aload_n 0, 1, 309, 0, [0], []) rfl rfl rfl ?_
            refine bGo hA 19 5 (574, .getfield 26, 3, 310, 0, [12, 6, 3, 61, 1, 0], []) rfl rfl rfl ?_
            refine ⟨rfl, ?_⟩
            refine bGo hA 19 6 (577, .iload 4, 2, 311, 0, [4], []) rfl rfl rfl ?_
            refine bGo hA 19 7 (579, .iaload, 1, 312, 0, [], []) rfl rfl rfl ?_
            refine ⟨rfl, (bIxP (x := l4) (n := 48) h_l4 (((((h.2.2.2 c1).2 c4).2 c7).2 c8).1 c11).1), ?_⟩
            refine bEqL (x := l4) h_l4 ?_
            refine bEqI (congrArg bn (bi_ne (by decide))) ?_
            refine bGo hA 19 8 (580, .iaload, 1, 313, 0, [], []) rfl rfl rfl ?_
            refine ⟨rfl, (bIxP (x := (bi σ 61 l4)) (n := 96) (bi_rg _ _ _) (((((h.2.2.2 c1).2 c4).2 c7).2 c8).1 c11).2.2.1), ?_⟩
            refine bEqL (x := (bi σ 61 l4)) (bi_rg _ _ _) ?_
            refine bEqI (congrArg bn (bi_ne (by decide))) ?_
            refine bGo hA 19 9 (581, .iadd, 1, 314, 0, [], []) rfl rfl rfl ?_
            refine bEqI (bn_add (8 * (bi σ 61 l4)) (bi σ 63 (bi σ 61 l4))) ?_
            refine bGo hA 19 10 (582, .aload_n 0, 1, 315, 0, [0], []) rfl rfl rfl ?_
            refine bGo hA 19 11 (583, .getfield 26, 3, 316, 0, [12, 6, 3, 61, 1, 0], []) rfl rfl rfl ?_
            refine ⟨rfl, ?_⟩
            refine bGo hA 19 12 (586, .iload 5, 2, 317, 0, [5], []) rfl rfl rfl ?_
            refine bGo hA 19 13 (588, .iaload, 1, 318, 0, [], []) rfl rfl rfl ?_
            refine ⟨rfl, (bIxP (x := l5) (n := 48) h_l5 (((((h.2.2.2 c1).2 c4).2 c7).2 c8).1 c11).2.2.2.2.1), ?_⟩
            refine bEqL (x := l5) h_l5 ?_
            refine bEqI (congrArg bn (bi_ne (by decide))) ?_
            refine bGo hA 19 14 (589, .iastore, 1, 319, 0, [], []) rfl rfl rfl ?_
            refine ⟨rfl, (bIxP (x := ((8 * (bi σ 61 l4)) + (bi σ 63 (bi σ 61 l4)))) (n := 768) (((((h.2.2.2 c1).2 c4).2 c7).2 c8).1 c11).2.2.2.1 (((((h.2.2.2 c1).2 c4).2 c7).2 c8).1 c11).2.2.2.2.2.1), by decide, ?_⟩
            refine bEqS (x := ((8 * (bi σ 61 l4)) + (bi σ 63 (bi σ 61 l4)))) (((((h.2.2.2 c1).2 c4).2 c7).2 c8).1 c11).2.2.2.1 ?_
            refine bGo hA 19 15 (590, .aload_n 0, 1, 320, 0, [0], []) rfl rfl rfl ?_
            refine bGo hA 20 0 (591, .getfield 32, 3, 321, 0, [12, 9, 3, 63, 1, 0], []) rfl rfl rfl ?_
            refine ⟨rfl, ?_⟩
            refine bGo hA 20 1 (594, .aload_n 0, 1, 322, 0, [0], []) rfl rfl rfl ?_
            refine bGo hA 20 2 (595, .getfield 26, 3, 323, 0, [12, 6, 3, 61, 1, 0], []) rfl rfl rfl ?_
            refine ⟨rfl, ?_⟩
            refine bGo hA 20 3 (598, .iload 4, 2, 324, 0, [4], []) rfl rfl rfl ?_
            refine bGo hA 20 4 (600, .iaload, 1, 325, 0, [], []) rfl rfl rfl ?_
            refine ⟨rfl, (bIxP (x := l4) (n := 48) h_l4 (((((h.2.2.2 c1).2 c4).2 c7).2 c8).1 c11).1), ?_⟩
            refine bEqL (x := l4) h_l4 ?_
            refine bEqI (congrArg bn ((bi_ne (by decide)).trans (bi_ne (by decide)))) ?_
            refine bGo hA 20 5 (601, .dup2, 1, 326, 0, [], []) rfl rfl rfl ?_
            refine bGo hA 20 6 (602, .iaload, 1, 327, 0, [], []) rfl rfl rfl ?_
            refine ⟨rfl, (bIxP (x := (bi σ 61 l4)) (n := 96) (bi_rg _ _ _) (((((h.2.2.2 c1).2 c4).2 c7).2 c8).1 c11).2.2.1), ?_⟩
            refine bEqL (x := (bi σ 61 l4)) (bi_rg _ _ _) ?_
            refine bEqI (congrArg bn ((bi_ne (by decide)).trans (bi_ne (by decide)))) ?_
            refine bGo hA 20 7 (603, .iconst (1), 1, 328, 0, [], [(1, 0)]) rfl rfl rfl ?_
            refine bEqI bl_1 ?_
            refine bGo hA 20 8 (604, .iadd, 1, 329, 0, [], []) rfl rfl rfl ?_
            refine bEqI (bn_add (bi σ 63 (bi σ 61 l4)) 1) ?_
            refine bGo hA 20 9 (605, .iastore, 1, 330, 0, [], []) rfl rfl rfl ?_
            refine ⟨rfl, (bIxP (x := (bi σ 61 l4)) (n := 96) (bi_rg _ _ _) (((((h.2.2.2 c1).2 c4).2 c7).2 c8).1 c11).2.2.1), by decide, ?_⟩
            refine bEqS (x := (bi σ 61 l4)) (bi_rg _ _ _) ?_
            refine bGo hA 20 10 (606, .goto (26), 3, 331, 343, [], []) rfl rfl rfl ?_
            refine bGo hA 21 7 (632, .iconst (-1), 1, 344, 0, [], [(-1, 0)]) rfl rfl rfl ?_
            refine bEqI bl_m1 ?_
            refine bGo hA 21 8 (633, .ireturn, 1, 0, 0, [1], []) rfl rfl rfl ?_
            exact (((((h.2.2.2 c1).2 c4).2 c7).2 c8).1 c11).2.2.2.2.2.2.2
          · refine bB_sw (x := l3) (k := 5) bl_5 h_l3 (by decide) (fun c12 => ?_) (fun c12 => ?_)
            · refine bGo hA 20 11 (609, .aload_n 0, 1, 332, 0, [0], []) rfl rfl rfl ?_
              refine bGo hA 20 12 (610, .iload 4, 2, 333, 0, [4], []) rfl rfl rfl ?_
              refine bGo hA 20 13 (612, .aload_n 0, 1, 334, 0, [0], []) rfl rfl rfl ?_
              refine bGo hA 20 14 (613, .getfield 23, 3, 335, 0, [12, 5, 3, 60, 1, 0], []) rfl rfl rfl ?_
              refine ⟨rfl, ?_⟩
              refine bGo hA 20 15 (616, .iload 5, 2, 336, 0, [5], []) rfl rfl rfl ?_
              refine bGo hA 21 0 (618, .iaload, 1, 337, 0, [], []) rfl rfl rfl ?_
              refine ⟨rfl, (bIxP (x := l5) (n := 48) h_l5 ((((((h.2.2.2 c1).2 c4).2 c7).2 c8).2 c11).1 c12).1), ?_⟩
              refine bEqL (x := l5) h_l5 ?_
              refine bEqI (congrArg bn (bi_ne (by decide))) ?_
              refine bGo hA 21 1 (619, .aload_n 0, 1, 338, 0, [0], []) rfl rfl rfl ?_
              refine bGo hA 21 2 (620, .getfield 26, 3, 339, 0, [12, 6, 3, 61, 1, 0], []) rfl rfl rfl ?_
              refine ⟨rfl, ?_⟩
              refine bGo hA 21 3 (623, .iload 5, 2, 340, 0, [5], []) rfl rfl rfl ?_
              refine bGo hA 21 4 (625, .iaload, 1, 341, 0, [], []) rfl rfl rfl ?_
              refine ⟨rfl, (bIxP (x := l5) (n := 48) h_l5 ((((((h.2.2.2 c1).2 c4).2 c7).2 c8).2 c11).1 c12).1), ?_⟩
              refine bEqL (x := l5) h_l5 ?_
              refine bEqI (congrArg bn (bi_ne (by decide))) ?_
              refine bGo hA 21 5 (626, .invokevirtual 370, 3, 342, 0, [0, 12, 217, 3], []) rfl rfl rfl ?_
              refine ⟨rfl, ?_⟩
              refine hC _ _ _ _ _ (bRv_e (fun s13 k14 => ?_)) ((((((h.2.2.2 c1).2 c4).2 c7).2 c8).2 c11).1 c12).2
              show A (342, [.ref 12, .int (bn l1), .int (bn l2), .int (bn l3), .int (bn l4), .int (bn l5), v6, v7, v8, v9, v10], [], s13)
              refine bGo hA 21 6 (629, .goto (3), 3, 343, 343, [], []) rfl rfl rfl ?_
              refine bGo hA 21 7 (632, .iconst (-1), 1, 344, 0, [], [(-1, 0)]) rfl rfl rfl ?_
              refine bEqI bl_m1 ?_
              refine bGo hA 21 8 (633, .ireturn, 1, 0, 0, [1], []) rfl rfl rfl ?_
              exact k14
            · refine bGo hA 21 7 (632, .iconst (-1), 1, 344, 0, [], [(-1, 0)]) rfl rfl rfl ?_
              refine bEqI bl_m1 ?_
              refine bGo hA 21 8 (633, .ireturn, 1, 0, 0, [1], []) rfl rfl rfl ?_
              exact ((((((h.2.2.2 c1).2 c4).2 c7).2 c8).2 c11).2 c12)

theorem sq219_0 {lvl : Nat} {C : bCall} {Q : bPost} {A : bPt → Prop} (hC : bMono C) (hA : bClosed lvl bm219 C Q A) {x1 : Int} {x2 : Int} {σ : bSt}  (h_x1 : bRg x1) (h_x2 : bRg x2)
  (h : (C 210 [.int (bn x1)] σ (bRn (fun r3 s1 => ((r3 = 0 → A (10, [.ref 12, .int (bn x1), .int (bn x2), .float 0], [.int (bn 1), .ref 12], s1)) ∧ (¬ r3 = 0 → (C 211 [.int (bn x2)] s1 (bRn (fun r8 s6 => ((r8 = 0 → A (10, [.ref 12, .int (bn x1), .int (bn x2), .float 0], [.int (bn 1), .ref 12], s6)) ∧ (¬ r8 = 0 → A (10, [.ref 12, .int (bn x1), .int (bn x2), .float 0], [.int (bn 0), .ref 12], s6)))))))))))) : A (0, [.ref 12, .int (bn x1), .int (bn x2), .float 0], [], σ) := by
  refine bGo hA 0 0 (0, .aload_n 0, 1, 1, 0, [0], []) rfl rfl rfl ?_
  refine bGo hA 0 1 (1, .iload_n 1, 1, 2, 0, [1], []) rfl rfl rfl ?_
  refine bGo hA 0 2 (2, .invokestatic 350, 3, 3, 0, [2, 210, 1], []) rfl rfl rfl ?_
  refine hC _ _ _ _ _ (bRn_e (fun r3 s1 q4 k2 => ?_)) h
  show A (3, [.ref 12, .int (bn x1), .int (bn x2), .float 0], [.int (bn r3), .ref 12], s1)
  refine bGo hA 0 3 (5, .ifCond .eq (14), 3, 4, 9, [], []) rfl rfl rfl ?_
  refine bB_eq0 (x := r3) q4 (fun c5 => ?_) (fun c5 => ?_)
  · refine bGo hA 0 9 (19, .iconst (1), 1, 10, 0, [], [(1, 0)]) rfl rfl rfl ?_
    refine bEqI bl_1 ?_
    exact (k2.1 c5)
  · refine bGo hA 0 4 (8, .iload_n 2, 1, 5, 0, [2], []) rfl rfl rfl ?_
    refine bGo hA 0 5 (9, .invokestatic 353, 3, 6, 0, [2, 211, 1], []) rfl rfl rfl ?_
    refine hC _ _ _ _ _ (bRn_e (fun r8 s6 q9 k7 => ?_)) (k2.2 c5)
    show A (6, [.ref 12, .int (bn x1), .int (bn x2), .float 0], [.int (bn r8), .ref 12], s6)
    refine bGo hA 0 6 (12, .ifCond .eq (7), 3, 7, 9, [], []) rfl rfl rfl ?_
    refine bB_eq0 (x := r8) q9 (fun c10 => ?_) (fun c10 => ?_)
    · refine bGo hA 0 9 (19, .iconst (1), 1, 10, 0, [], [(1, 0)]) rfl rfl rfl ?_
      refine bEqI bl_1 ?_
      exact (k7.1 c10)
    · refine bGo hA 0 7 (15, .iconst (0), 1, 8, 0, [], [(0, 0)]) rfl rfl rfl ?_
      refine bEqI bl_0 ?_
      refine bGo hA 0 8 (16, .goto (4), 3, 9, 10, [], []) rfl rfl rfl ?_
      exact (k7.2 c10)

theorem sq219_10 {lvl : Nat} {C : bCall} {Q : bPost} {A : bPt → Prop} (hC : bMono C) (hA : bClosed lvl bm219 C Q A) {l1 : Int} {l2 : Int} {v3 : Value} {t0 : Int} {σ : bSt}  (h_l1 : bRg l1) (h_l2 : bRg l2) (h_t0 : bRg t0)
  (h : (C 197 [.ref 12, .int (bn t0)] σ (bRn (fun r3 s1 => ((r3 = 0 → (C 214 [.ref 12, .int (bn l1)] s1 (bRv (fun s6 => ((0 ≤ l1 ∧ l1 < 6) ∧ (((bi s6 65 l1) = 2 → (bRg (8 * l1) ∧ (bRg ((8 * l1) + l2) ∧ ((0 ≤ ((8 * l1) + l2) ∧ ((8 * l1) + l2) < 48) ∧ (((bi s6 60 ((8 * l1) + l2)) = 0 → Q (.inl (some (.int (bn (-1))))) s6) ∧ (¬ (bi s6 60 ((8 * l1) + l2)) = 0 → (((bi s6 60 ((8 * l1) + l2)) = 2 → Q (.inl (some (.int (bn (-2))))) s6) ∧ (¬ (bi s6 60 ((8 * l1) + l2)) = 2 → Q (.inl (some (.int (bn (bi s6 61 ((8 * l1) + l2)))))) s6)))))))) ∧ (¬ (bi s6 65 l1) = 2 → Q (.inl (some (.int (bn (-1))))) s6))))))) ∧ (¬ r3 = 0 → Q (.inl (some (.int (bn 0)))) s1)))))) : A (10, [.ref 12, .int (bn l1), .int (bn l2), v3], [.int (bn t0), .ref 12], σ) := by
  refine bGo hA 0 10 (20, .invokevirtual 333, 3, 11, 0, [0, 12, 197, 1], []) rfl rfl rfl ?_
  refine ⟨rfl, ?_⟩
  refine hC _ _ _ _ _ (bRn_e (fun r3 s1 q4 k2 => ?_)) h
  show A (11, [.ref 12, .int (bn l1), .int (bn l2), v3], [.int (bn r3)], s1)
  refine bGo hA 0 11 (23, .ifCond .eq (5), 3, 12, 14, [], []) rfl rfl rfl ?_
  refine bB_eq0 (x := r3) q4 (fun c5 => ?_) (fun c5 => ?_)
  · refine bGo hA 0 14 (28, .aload_n 0, 1, 15, 0, [0], []) rfl rfl rfl ?_
    refine bGo hA 0 15 (29, .iload_n 1, 1, 16, 0, [1], []) rfl rfl rfl ?_
    refine bGo hA 1 0 (30, .invokevirtual 374, 3, 17, 0, [0, 12, 214, 1], []) rfl rfl rfl ?_
    refine ⟨rfl, ?_⟩
    refine hC _ _ _ _ _ (bRv_e (fun s6 k7 => ?_)) (k2.1 c5)
    show A (17, [.ref 12, .int (bn l1), .int (bn l2), v3], [], s6)
    refine bGo hA 1 1 (33, .aload_n 0, 1, 18, 0, [0], []) rfl rfl rfl ?_
    refine bGo hA 1 2 (34, .getfield 38, 3, 19, 0, [12, 11, 3, 65, 1, 0], []) rfl rfl rfl ?_
    refine ⟨rfl, ?_⟩
    refine bGo hA 1 3 (37, .iload_n 1, 1, 20, 0, [1], []) rfl rfl rfl ?_
    refine bGo hA 1 4 (38, .iaload, 1, 21, 0, [], []) rfl rfl rfl ?_
    refine ⟨rfl, (bIxP (x := l1) (n := 6) h_l1 k7.1), ?_⟩
    refine bEqL (x := l1) h_l1 ?_
    refine bGo hA 1 5 (39, .iconst (2), 1, 22, 0, [], [(2, 0)]) rfl rfl rfl ?_
    refine bEqI bl_2 ?_
    refine bGo hA 1 6 (40, .if_icmp .ne (17), 3, 23, 32, [], []) rfl rfl rfl ?_
    refine bB_eq (x := (bi s6 65 l1)) (y := 2) (bi_rg _ _ _) (by decide : bRg 2) (fun c8 => ?_) (fun c8 => ?_)
    · refine bGo hA 1 7 (43, .aload_n 0, 1, 24, 0, [0], []) rfl rfl rfl ?_
      refine bGo hA 1 8 (44, .getfield 23, 3, 25, 0, [12, 5, 3, 60, 1, 0], []) rfl rfl rfl ?_
      refine ⟨rfl, ?_⟩
      refine bGo hA 1 9 (47, .bipush (8), 2, 26, 0, [], [(8, 0)]) rfl rfl rfl ?_
      refine bEqI bl_8 ?_
      refine bGo hA 1 10 (49, .iload_n 1, 1, 27, 0, [1], []) rfl rfl rfl ?_
      refine bGo hA 1 11 (50, .imul, 1, 28, 0, [], []) rfl rfl rfl ?_
      refine bEqI (bn_mul 8 l1) ?_
      refine bGo hA 1 12 (51, .iload_n 2, 1, 29, 0, [2], []) rfl rfl rfl ?_
      refine bGo hA 1 13 (52, .iadd, 1, 30, 0, [], []) rfl rfl rfl ?_
      refine bEqI (bn_add (8 * l1) l2) ?_
      refine bGo hA 1 14 (53, .iaload, 1, 31, 0, [], []) rfl rfl rfl ?_
      refine ⟨rfl, (bIxP (x := ((8 * l1) + l2)) (n := 48) (k7.2.1 c8).2.1 (k7.2.1 c8).2.2.1), ?_⟩
      refine bEqL (x := ((8 * l1) + l2)) (k7.2.1 c8).2.1 ?_
      refine bGo hA 1 15 (54, .goto (4), 3, 32, 33, [], []) rfl rfl rfl ?_
      refine bGo hA 2 1 (58, .istore_n 3, 1, 34, 0, [3], []) rfl rfl rfl ?_
      refine bGo hA 2 2 (59, .iload_n 3, 1, 35, 0, [3], []) rfl rfl rfl ?_
      refine bGo hA 2 3 (60, .ifCond .ne (7), 3, 36, 38, [], []) rfl rfl rfl ?_
      refine bB_eq0 (x := (bi s6 60 ((8 * l1) + l2))) (bi_rg _ _ _) (fun c9 => ?_) (fun c9 => ?_)
      · refine bGo hA 2 4 (63, .iconst (-1), 1, 37, 0, [], [(-1, 0)]) rfl rfl rfl ?_
        refine bEqI bl_m1 ?_
        refine bGo hA 2 5 (64, .goto (24), 3, 38, 51, [], []) rfl rfl rfl ?_
        refine bGo hA 3 3 (88, .ireturn, 1, 0, 0, [1], []) rfl rfl rfl ?_
        exact ((k7.2.1 c8).2.2.2.1 c9)
      · refine bGo hA 2 6 (67, .iload_n 3, 1, 39, 0, [3], []) rfl rfl rfl ?_
        refine bGo hA 2 7 (68, .iconst (2), 1, 40, 0, [], [(2, 0)]) rfl rfl rfl ?_
        refine bEqI bl_2 ?_
        refine bGo hA 2 8 (69, .if_icmp .ne (8), 3, 41, 43, [], []) rfl rfl rfl ?_
        refine bB_eq (x := (bi s6 60 ((8 * l1) + l2))) (y := 2) (bi_rg _ _ _) (by decide : bRg 2) (fun c10 => ?_) (fun c10 => ?_)
        · refine bGo hA 2 9 (72, .bipush (-2), 2, 42, 0, [], [(-2, 0)]) rfl rfl rfl ?_
          refine bEqI bl_m2 ?_
          refine bGo hA 2 10 (74, .goto (14), 3, 43, 51, [], []) rfl rfl rfl ?_
          refine bGo hA 3 3 (88, .ireturn, 1, 0, 0, [1], []) rfl rfl rfl ?_
          exact (((k7.2.1 c8).2.2.2.2 c9).1 c10)
        · refine bGo hA 2 11 (77, .aload_n 0, 1, 44, 0, [0], []) rfl rfl rfl ?_
          refine bGo hA 2 12 (78, .getfield 26, 3, 45, 0, [12, 6, 3, 61, 1, 0], []) rfl rfl rfl ?_
          refine ⟨rfl, ?_⟩
          refine bGo hA 2 13 (81, .bipush (8), 2, 46, 0, [], [(8, 0)]) rfl rfl rfl ?_
          refine bEqI bl_8 ?_
          refine bGo hA 2 14 (83, .iload_n 1, 1, 47, 0, [1], []) rfl rfl rfl ?_
          refine bGo hA 2 15 (84, .imul, 1, 48, 0, [], []) rfl rfl rfl ?_
          refine bEqI (bn_mul 8 l1) ?_
          refine bGo hA 3 0 (85, .iload_n 2, 1, 49, 0, [2], []) rfl rfl rfl ?_
          refine bGo hA 3 1 (86, .iadd, 1, 50, 0, [], []) rfl rfl rfl ?_
          refine bEqI (bn_add (8 * l1) l2) ?_
          refine bGo hA 3 2 (87, .iaload, 1, 51, 0, [], []) rfl rfl rfl ?_
          refine ⟨rfl, (bIxP (x := ((8 * l1) + l2)) (n := 48) (k7.2.1 c8).2.1 (k7.2.1 c8).2.2.1), ?_⟩
          refine bEqL (x := ((8 * l1) + l2)) (k7.2.1 c8).2.1 ?_
          refine bGo hA 3 3 (88, .ireturn, 1, 0, 0, [1], []) rfl rfl rfl ?_
          exact (((k7.2.1 c8).2.2.2.2 c9).2 c10)
    · refine bGo hA 2 0 (57, .iconst (0), 1, 33, 0, [], [(0, 0)]) rfl rfl rfl ?_
      refine bEqI bl_0 ?_
      refine bGo hA 2 1 (58, .istore_n 3, 1, 34, 0, [3], []) rfl rfl rfl ?_
      refine bGo hA 2 2 (59, .iload_n 3, 1, 35, 0, [3], []) rfl rfl rfl ?_
      refine bGo hA 2 3 (60, .ifCond .ne (7), 3, 36, 38, [], []) rfl rfl rfl ?_
      refine ⟨fun _ => ?_, fun c => absurd (by decide) c⟩
      refine bGo hA 2 4 (63, .iconst (-1), 1, 37, 0, [], [(-1, 0)]) rfl rfl rfl ?_
      refine bEqI bl_m1 ?_
      refine bGo hA 2 5 (64, .goto (24), 3, 38, 51, [], []) rfl rfl rfl ?_
      refine bGo hA 3 3 (88, .ireturn, 1, 0, 0, [1], []) rfl rfl rfl ?_
      exact (k7.2.2 c8)
  · refine bGo hA 0 12 (26, .iconst (0), 1, 13, 0, [], [(0, 0)]) rfl rfl rfl ?_
    refine bEqI bl_0 ?_
    refine bGo hA 0 13 (27, .ireturn, 1, 14, 0, [1], []) rfl rfl rfl ?_
    exact (k2.2 c5)

theorem sq220_0 {lvl : Nat} {C : bCall} {Q : bPost} {A : bPt → Prop} (hC : bMono C) (hA : bClosed lvl bm220 C Q A) {x1 : Int} {x2 : Int} {x3 : Int} {σ : bSt}  (h_x1 : bRg x1) (h_x2 : bRg x2) (h_x3 : bRg x3)
  (h : (C 210 [.int (bn x1)] σ (bRn (fun r3 s1 => ((r3 = 0 → (C 197 [.ref 12, .int (bn 1)] s1 (bRn (fun r8 s6 => ((r8 = 0 → (C 214 [.ref 12, .int (bn x1)] s6 (bRv (fun s11 => ((0 ≤ x1 ∧ x1 < 6) ∧ (((bi s11 65 x1) = 2 → (bRg (8 * x1) ∧ (bRg ((8 * x1) + x2) ∧ ((0 ≤ ((8 * x1) + x2) ∧ ((8 * x1) + x2) < 48) ∧ (((bi s11 60 ((8 * x1) + x2)) = 2 → A (38, [.ref 12, .int (bn x1), .int (bn x2), .int (bn x3), .float 0, .float 0], [.int (bn 1)], s11)) ∧ (¬ (bi s11 60 ((8 * x1) + x2)) = 2 → A (38, [.ref 12, .int (bn x1), .int (bn x2), .int (bn x3), .float 0, .float 0], [.int (bn 0)], s11))))))) ∧ (¬ (bi s11 65 x1) = 2 → A (38, [.ref 12, .int (bn x1), .int (bn x2), .int (bn x3), .float 0, .float 0], [.int (bn 0)], s11)))))))) ∧ (¬ r8 = 0 → Q (.inl (some (.int (bn 0)))) s6)))))) ∧ (¬ r3 = 0 → (C 211 [.int (bn x2)] s1 (bRn (fun r17 s15 => ((r17 = 0 → (C 197 [.ref 12, .int (bn 1)] s15 (bRn (fun r22 s20 => ((r22 = 0 → (C 214 [.ref 12, .int (bn x1)] s20 (bRv (fun s25 => ((0 ≤ x1 ∧ x1 < 6) ∧ (((bi s25 65 x1) = 2 → (bRg (8 * x1) ∧ (bRg ((8 * x1) + x2) ∧ ((0 ≤ ((8 * x1) + x2) ∧ ((8 * x1) + x2) < 48) ∧ (((bi s25 60 ((8 * x1) + x2)) = 2 → A (38, [.ref 12, .int (bn x1), .int (bn x2), .int (bn x3), .float 0, .float 0], [.int (bn 1)], s25)) ∧ (¬ (bi s25 60 ((8 * x1) + x2)) = 2 → A (38, [.ref 12, .int (bn x1), .int (bn x2), .int (bn x3), .float 0, .float 0], [.int (bn 0)], s25))))))) ∧ (¬ (bi s25 65 x1) = 2 → A (38, [.ref 12, .int (bn x1), .int (bn x2), .int (bn x3), .float 0, .float 0], [.int (bn 0)], s25)))))))) ∧ (¬ r22 = 0 → Q (.inl (some (.int (bn 0)))) s20)))))) ∧ (¬ r17 = 0 → ((x3 < 0 → (C 197 [.ref 12, .int (bn 1)] s15 (bRn (fun r32 s30 => ((r32 = 0 → (C 214 [.ref 12, .int (bn x1)] s30 (bRv (fun s35 => ((0 ≤ x1 ∧ x1 < 6) ∧ (((bi s35 65 x1) = 2 → (bRg (8 * x1) ∧ (bRg ((8 * x1) + x2) ∧ ((0 ≤ ((8 * x1) + x2) ∧ ((8 * x1) + x2) < 48) ∧ (((bi s35 60 ((8 * x1) + x2)) = 2 → A (38, [.ref 12, .int (bn x1), .int (bn x2), .int (bn x3), .float 0, .float 0], [.int (bn 1)], s35)) ∧ (¬ (bi s35 60 ((8 * x1) + x2)) = 2 → A (38, [.ref 12, .int (bn x1), .int (bn x2), .int (bn x3), .float 0, .float 0], [.int (bn 0)], s35))))))) ∧ (¬ (bi s35 65 x1) = 2 → A (38, [.ref 12, .int (bn x1), .int (bn x2), .int (bn x3), .float 0, .float 0], [.int (bn 0)], s35)))))))) ∧ (¬ r32 = 0 → Q (.inl (some (.int (bn 0)))) s30)))))) ∧ (¬ x3 < 0 → (C 197 [.ref 12, .int (bn 0)] s15 (bRn (fun r41 s39 => ((r41 = 0 → (C 214 [.ref 12, .int (bn x1)] s39 (bRv (fun s44 => ((0 ≤ x1 ∧ x1 < 6) ∧ (((bi s44 65 x1) = 2 → (bRg (8 * x1) ∧ (bRg ((8 * x1) + x2) ∧ ((0 ≤ ((8 * x1) + x2) ∧ ((8 * x1) + x2) < 48) ∧ (((bi s44 60 ((8 * x1) + x2)) = 2 → A (38, [.ref 12, .int (bn x1), .int (bn x2), .int (bn x3), .float 0, .float 0], [.int (bn 1)], s44)) ∧ (¬ (bi s44 60 ((8 * x1) + x2)) = 2 → A (38, [.ref 12, .int (bn x1), .int (bn x2), .int (bn x3), .float 0, .float 0], [.int (bn 0)], s44))))))) ∧ (¬ (bi s44 65 x1) = 2 → A (38, [.ref 12, .int (bn x1), .int (bn x2), .int (bn x3), .float 0, .float 0], [.int (bn 0)], s44)))))))) ∧ (¬ r41 = 0 → Q (.inl (some (.int (bn 0)))) s39)))))))))))))))))) : A (0, [.ref 12, .int (bn x1), .int (bn x2), .int (bn x3), .float 0, .float 0], [], σ) := by
  refine bGo hA 0 0 (0, .aload_n 0, 1, 1, 0, [0], []) rfl rfl rfl ?_
  refine bGo hA 0 1 (1, .iload_n 1, 1, 2, 0, [1], []) rfl rfl rfl ?_
  refine bGo hA 0 2 (2, .invokestatic 350, 3, 3, 0, [2, 210, 1], []) rfl rfl rfl ?_
  refine hC _ _ _ _ _ (bRn_e (fun r3 s1 q4 k2 => ?_)) h
  show A (3, [.ref 12, .int (bn x1), .int (bn x2), .int (bn x3), .float 0, .float 0], [.int (bn r3), .ref 12], s1)
  refine bGo hA 0 3 (5, .ifCond .eq (18), 3, 4, 11, [], []) rfl rfl rfl ?_
  refine bB_eq0 (x := r3) q4 (fun c5 => ?_) (fun c5 => ?_)
  · refine bGo hA 0 11 (23, .iconst (1), 1, 12, 0, [], [(1, 0)]) rfl rfl rfl ?_
    refine bEqI bl_1 ?_
    refine bGo hA 0 12 (24, .invokevirtual 333, 3, 13, 0, [0, 12, 197, 1], []) rfl rfl rfl ?_
    refine ⟨rfl, ?_⟩
    refine hC _ _ _ _ _ (bRn_e (fun r8 s6 q9 k7 => ?_)) (k2.1 c5)
    show A (13, [.ref 12, .int (bn x1), .int (bn x2), .int (bn x3), .float 0, .float 0], [.int (bn r8)], s6)
    refine bGo hA 0 13 (27, .ifCond .eq (5), 3, 14, 16, [], []) rfl rfl rfl ?_
    refine bB_eq0 (x := r8) q9 (fun c10 => ?_) (fun c10 => ?_)
    · refine bGo hA 1 0 (32, .aload_n 0, 1, 17, 0, [0], []) rfl rfl rfl ?_
      refine bGo hA 1 1 (33, .iload_n 1, 1, 18, 0, [1], []) rfl rfl rfl ?_
      refine bGo hA 1 2 (34, .invokevirtual 374, 3, 19, 0, [0, 12, 214, 1], []) rfl rfl rfl ?_
      refine ⟨rfl, ?_⟩
      refine hC _ _ _ _ _ (bRv_e (fun s11 k12 => ?_)) (k7.1 c10)
      show A (19, [.ref 12, .int (bn x1), .int (bn x2), .int (bn x3), .float 0, .float 0], [], s11)
      refine bGo hA 1 3 (37, .aload_n 0, 1, 20, 0, [0], []) rfl rfl rfl ?_
      refine bGo hA 1 4 (38, .getfield 38, 3, 21, 0, [12, 11, 3, 65, 1, 0], []) rfl rfl rfl ?_
      refine ⟨rfl, ?_⟩
      refine bGo hA 1 5 (41, .iload_n 1, 1, 22, 0, [1], []) rfl rfl rfl ?_
      refine bGo hA 1 6 (42, .iaload, 1, 23, 0, [], []) rfl rfl rfl ?_
      refine ⟨rfl, (bIxP (x := x1) (n := 6) h_x1 k12.1), ?_⟩
      refine bEqL (x := x1) h_x1 ?_
      refine bGo hA 1 7 (43, .iconst (2), 1, 24, 0, [], [(2, 0)]) rfl rfl rfl ?_
      refine bEqI bl_2 ?_
      refine bGo hA 1 8 (44, .if_icmp .ne (22), 3, 25, 37, [], []) rfl rfl rfl ?_
      refine bB_eq (x := (bi s11 65 x1)) (y := 2) (bi_rg _ _ _) (by decide : bRg 2) (fun c13 => ?_) (fun c13 => ?_)
      · refine bGo hA 1 9 (47, .aload_n 0, 1, 26, 0, [0], []) rfl rfl rfl ?_
        refine bGo hA 1 10 (48, .getfield 23, 3, 27, 0, [12, 5, 3, 60, 1, 0], []) rfl rfl rfl ?_
        refine ⟨rfl, ?_⟩
        refine bGo hA 1 11 (51, .bipush (8), 2, 28, 0, [], [(8, 0)]) rfl rfl rfl ?_
        refine bEqI bl_8 ?_
        refine bGo hA 1 12 (53, .iload_n 1, 1, 29, 0, [1], []) rfl rfl rfl ?_
        refine bGo hA 1 13 (54, .imul, 1, 30, 0, [], []) rfl rfl rfl ?_
        refine bEqI (bn_mul 8 x1) ?_
        refine bGo hA 1 14 (55, .iload_n 2, 1, 31, 0, [2], []) rfl rfl rfl ?_
        refine bGo hA 1 15 (56, .iadd, 1, 32, 0, [], []) rfl rfl rfl ?_
        refine bEqI (bn_add (8 * x1) x2) ?_
        refine bGo hA 2 0 (57, .iaload, 1, 33, 0, [], []) rfl rfl rfl ?_
        refine ⟨rfl, (bIxP (x := ((8 * x1) + x2)) (n := 48) (k12.2.1 c13).2.1 (k12.2.1 c13).2.2.1), ?_⟩
        refine bEqL (x := ((8 * x1) + x2)) (k12.2.1 c13).2.1 ?_
        refine bGo hA 2 1 (58, .iconst (2), 1, 34, 0, [], [(2, 0)]) rfl rfl rfl ?_
        refine bEqI bl_2 ?_
        refine bGo hA 2 2 (59, .if_icmp .ne (7), 3, 35, 37, [], []) rfl rfl rfl ?_
        refine bB_eq (x := (bi s11 60 ((8 * x1) + x2))) (y := 2) (bi_rg _ _ _) (by decide : bRg 2) (fun c14 => ?_) (fun c14 => ?_)
        · refine bGo hA 2 3 (62, .iconst (1), 1, 36, 0, [], [(1, 0)]) rfl rfl rfl ?_
          refine bEqI bl_1 ?_
          refine bGo hA 2 4 (63, .goto (4), 3, 37, 38, [], []) rfl rfl rfl ?_
          exact ((k12.2.1 c13).2.2.2.1 c14)
        · refine bGo hA 2 5 (66, .iconst (0), 1, 38, 0, [], [(0, 0)]) rfl rfl rfl ?_
          refine bEqI bl_0 ?_
          exact ((k12.2.1 c13).2.2.2.2 c14)
      · refine bGo hA 2 5 (66, .iconst (0), 1, 38, 0, [], [(0, 0)]) rfl rfl rfl ?_
        refine bEqI bl_0 ?_
        exact (k12.2.2 c13)
    · refine bGo hA 0 14 (30, .iconst (0), 1, 15, 0, [], [(0, 0)]) rfl rfl rfl ?_
      refine bEqI bl_0 ?_
      refine bGo hA 0 15 (31, .ireturn, 1, 16, 0, [1], []) rfl rfl rfl ?_
      exact (k7.2 c10)
  · refine bGo hA 0 4 (8, .iload_n 2, 1, 5, 0, [2], []) rfl rfl rfl ?_
    refine bGo hA 0 5 (9, .invokestatic 353, 3, 6, 0, [2, 211, 1], []) rfl rfl rfl ?_
    refine hC _ _ _ _ _ (bRn_e (fun r17 s15 q18 k16 => ?_)) (k2.2 c5)
    show A (6, [.ref 12, .int (bn x1), .int (bn x2), .int (bn x3), .float 0, .float 0], [.int (bn r17), .ref 12], s15)
    refine bGo hA 0 6 (12, .ifCond .eq (11), 3, 7, 11, [], []) rfl rfl rfl ?_
    refine bB_eq0 (x := r17) q18 (fun c19 => ?_) (fun c19 => ?_)
    · refine bGo hA 0 11 (23, .iconst (1), 1, 12, 0, [], [(1, 0)]) rfl rfl rfl ?_
      refine bEqI bl_1 ?_
      refine bGo hA 0 12 (24, .invokevirtual 333, 3, 13, 0, [0, 12, 197, 1], []) rfl rfl rfl ?_
      refine ⟨rfl, ?_⟩
      refine hC _ _ _ _ _ (bRn_e (fun r22 s20 q23 k21 => ?_)) (k16.1 c19)
      show A (13, [.ref 12, .int (bn x1), .int (bn x2), .int (bn x3), .float 0, .float 0], [.int (bn r22)], s20)
      refine bGo hA 0 13 (27, .ifCond .eq (5), 3, 14, 16, [], []) rfl rfl rfl ?_
      refine bB_eq0 (x := r22) q23 (fun c24 => ?_) (fun c24 => ?_)
      · refine bGo hA 1 0 (32, .aload_n 0, 1, 17, 0, [0], []) rfl rfl rfl ?_
        refine bGo hA 1 1 (33, .iload_n 1, 1, 18, 0, [1], []) rfl rfl rfl ?_
        refine bGo hA 1 2 (34, .invokevirtual 374, 3, 19, 0, [0, 12, 214, 1], []) rfl rfl rfl ?_
        refine ⟨rfl, ?_⟩
        refine hC _ _ _ _ _ (bRv_e (fun s25 k26 => ?_)) (k21.1 c24)
        show A (19, [.ref 12, .int (bn x1), .int (bn x2), .int (bn x3), .float 0, .float 0], [], s25)
        refine bGo hA 1 3 (37, .aload_n 0, 1, 20, 0, [0], []) rfl rfl rfl ?_
        refine bGo hA 1 4 (38, .getfield 38, 3, 21, 0, [12, 11, 3, 65, 1, 0], []) rfl rfl rfl ?_
        refine ⟨rfl, ?_⟩
        refine bGo hA 1 5 (41, .iload_n 1, 1, 22, 0, [1], []) rfl rfl rfl ?_
        refine bGo hA 1 6 (42, .iaload, 1, 23, 0, [], []) rfl rfl rfl ?_
        refine ⟨rfl, (bIxP (x := x1) (n := 6) h_x1 k26.1), ?_⟩
        refine bEqL (x := x1) h_x1 ?_
        refine bGo hA 1 7 (43, .iconst (2), 1, 24, 0, [], [(2, 0)]) rfl rfl rfl ?_
        refine bEqI bl_2 ?_
        refine bGo hA 1 8 (44, .if_icmp .ne (22), 3, 25, 37, [], []) rfl rfl rfl ?_
        refine bB_eq (x := (bi s25 65 x1)) (y := 2) (bi_rg _ _ _) (by decide : bRg 2) (fun c27 => ?_) (fun c27 => ?_)
        · refine bGo hA 1 9 (47, .aload_n 0, 1, 26, 0, [0], []) rfl rfl rfl ?_
          refine bGo hA 1 10 (48, .getfield 23, 3, 27, 0, [12, 5, 3, 60, 1, 0], []) rfl rfl rfl ?_
          refine ⟨rfl, ?_⟩
          refine bGo hA 1 11 (51, .bipush (8), 2, 28, 0, [], [(8, 0)]) rfl rfl rfl ?_
          refine bEqI bl_8 ?_
          refine bGo hA 1 12 (53, .iload_n 1, 1, 29, 0, [1], []) rfl rfl rfl ?_
          refine bGo hA 1 13 (54, .imul, 1, 30, 0, [], []) rfl rfl rfl ?_
          refine bEqI (bn_mul 8 x1) ?_
          refine bGo hA 1 14 (55, .iload_n 2, 1, 31, 0, [2], []) rfl rfl rfl ?_
          refine bGo hA 1 15 (56, .iadd, 1, 32, 0, [], []) rfl rfl rfl ?_
          refine bEqI (bn_add (8 * x1) x2) ?_
          refine bGo hA 2 0 (57, .iaload, 1, 33, 0, [], []) rfl rfl rfl ?_
          refine ⟨rfl, (bIxP (x := ((8 * x1) + x2)) (n := 48) (k26.2.1 c27).2.1 (k26.2.1 c27).2.2.1), ?_⟩
          refine bEqL (x := ((8 * x1) + x2)) (k26.2.1 c27).2.1 ?_
          refine bGo hA 2 1 (58, .iconst (2), 1, 34, 0, [], [(2, 0)]) rfl rfl rfl ?_
          refine bEqI bl_2 ?_
          refine bGo hA 2 2 (59, .if_icmp .ne (7), 3, 35, 37, [], []) rfl rfl rfl ?_
          refine bB_eq (x := (bi s25 60 ((8 * x1) + x2))) (y := 2) (bi_rg _ _ _) (by decide : bRg 2) (fun c28 => ?_) (fun c28 => ?_)
          · refine bGo hA 2 3 (62, .iconst (1), 1, 36, 0, [], [(1, 0)]) rfl rfl rfl ?_
            refine bEqI bl_1 ?_
            refine bGo hA 2 4 (63, .goto (4), 3, 37, 38, [], []) rfl rfl rfl ?_
            exact ((k26.2.1 c27).2.2.2.1 c28)
          · refine bGo hA 2 5 (66, .iconst (0), 1, 38, 0, [], [(0, 0)]) rfl rfl rfl ?_
            refine bEqI bl_0 ?_
            exact ((k26.2.1 c27).2.2.2.2 c28)
        · refine bGo hA 2 5 (66, .iconst (0), 1, 38, 0, [], [(0, 0)]) rfl rfl rfl ?_
          refine bEqI bl_0 ?_
          exact (k26.2.2 c27)
      · refine bGo hA 0 14 (30, .iconst (0), 1, 15, 0, [], [(0, 0)]) rfl rfl rfl ?_
        refine bEqI bl_0 ?_
        refine bGo hA 0 15 (31, .ireturn, 1, 16, 0, [1], []) rfl rfl rfl ?_
        exact (k21.2 c24)
    · refine bGo hA 0 7 (15, .iload_n 3, 1, 8, 0, [3], []) rfl rfl rfl ?_
      refine bGo hA 0 8 (16, .ifCond .lt (7), 3, 9, 11, [], []) rfl rfl rfl ?_
      refine bB_lt0 (x := x3) h_x3 (fun c29 => ?_) (fun c29 => ?_)
      · refine bGo hA 0 11 (23, .iconst (1), 1, 12, 0, [], [(1, 0)]) rfl rfl rfl ?_
        refine bEqI bl_1 ?_
        refine bGo hA 0 12 (24, .invokevirtual 333, 3, 13, 0, [0, 12, 197, 1], []) rfl rfl rfl ?_
        refine ⟨rfl, ?_⟩
        refine hC _ _ _ _ _ (bRn_e (fun r32 s30 q33 k31 => ?_)) ((k16.2 c19).1 c29)
        show A (13, [.ref 12, .int (bn x1), .int (bn x2), .int (bn x3), .float 0, .float 0], [.int (bn r32)], s30)
        refine bGo hA 0 13 (27, .ifCond .eq (5), 3, 14, 16, [], []) rfl rfl rfl ?_
        refine bB_eq0 (x := r32) q33 (fun c34 => ?_) (fun c34 => ?_)
        · refine bGo hA 1 0 (32, .aload_n 0, 1, 17, 0, [0], []) rfl rfl rfl ?_
          refine bGo hA 1 1 (33, .iload_n 1, 1, 18, 0, [1], []) rfl rfl rfl ?_
          refine bGo hA 1 2 (34, .invokevirtual 374, 3, 19, 0, [0, 12, 214, 1], []) rfl rfl rfl ?_
          refine ⟨rfl, ?_⟩
          refine hC _ _ _ _ _ (bRv_e (fun s35 k36 => ?_)) (k31.1 c34)
          show A (19, [.ref 12, .int (bn x1), .int (bn x2), .int (bn x3), .float 0, .float 0], [], s35)
          refine bGo hA 1 3 (37, .aload_n 0, 1, 20, 0, [0], []) rfl rfl rfl ?_
          refine bGo hA 1 4 (38, .getfield 38, 3, 21, 0, [12, 11, 3, 65, 1, 0], []) rfl rfl rfl ?_
          refine ⟨rfl, ?_⟩
          refine bGo hA 1 5 (41, .iload_n 1, 1, 22, 0, [1], []) rfl rfl rfl ?_
          refine bGo hA 1 6 (42, .iaload, 1, 23, 0, [], []) rfl rfl rfl ?_
          refine ⟨rfl, (bIxP (x := x1) (n := 6) h_x1 k36.1), ?_⟩
          refine bEqL (x := x1) h_x1 ?_
          refine bGo hA 1 7 (43, .iconst (2), 1, 24, 0, [], [(2, 0)]) rfl rfl rfl ?_
          refine bEqI bl_2 ?_
          refine bGo hA 1 8 (44, .if_icmp .ne (22), 3, 25, 37, [], []) rfl rfl rfl ?_
          refine bB_eq (x := (bi s35 65 x1)) (y := 2) (bi_rg _ _ _) (by decide : bRg 2) (fun c37 => ?_) (fun c37 => ?_)
          · refine bGo hA 1 9 (47, .aload_n 0, 1, 26, 0, [0], []) rfl rfl rfl ?_
            refine bGo hA 1 10 (48, .getfield 23, 3, 27, 0, [12, 5, 3, 60, 1, 0], []) rfl rfl rfl ?_
            refine ⟨rfl, ?_⟩
            refine bGo hA 1 11 (51, .bipush (8), 2, 28, 0, [], [(8, 0)]) rfl rfl rfl ?_
            refine bEqI bl_8 ?_
            refine bGo hA 1 12 (53, .iload_n 1, 1, 29, 0, [1], []) rfl rfl rfl ?_
            refine bGo hA 1 13 (54, .imul, 1, 30, 0, [], []) rfl rfl rfl ?_
            refine bEqI (bn_mul 8 x1) ?_
            refine bGo hA 1 14 (55, .iload_n 2, 1, 31, 0, [2], []) rfl rfl rfl ?_
            refine bGo hA 1 15 (56, .iadd, 1, 32, 0, [], []) rfl rfl rfl ?_
            refine bEqI (bn_add (8 * x1) x2) ?_
            refine bGo hA 2 0 (57, .iaload, 1, 33, 0, [], []) rfl rfl rfl ?_
            refine ⟨rfl, (bIxP (x := ((8 * x1) + x2)) (n := 48) (k36.2.1 c37).2.1 (k36.2.1 c37).2.2.1), ?_⟩
            refine bEqL (x := ((8 * x1) + x2)) (k36.2.1 c37).2.1 ?_
            refine bGo hA 2 1 (58, .iconst (2), 1, 34, 0, [], [(2, 0)]) rfl rfl rfl ?_
            refine bEqI bl_2 ?_
            refine bGo hA 2 2 (59, .if_icmp .ne (7), 3, 35, 37, [], []) rfl rfl rfl ?_
            refine bB_eq (x := (bi s35 60 ((8 * x1) + x2))) (y := 2) (bi_rg _ _ _) (by decide : bRg 2) (fun c38 => ?_) (fun c38 => ?_)
            · refine bGo hA 2 3 (62, .iconst (1), 1, 36, 0, [], [(1, 0)]) rfl rfl rfl ?_
              refine bEqI bl_1 ?_
              refine bGo hA 2 4 (63, .goto (4), 3, 37, 38, [], []) rfl rfl rfl ?_
              exact ((k36.2.1 c37).2.2.2.1 c38)
            · refine bGo hA 2 5 (66, .iconst (0), 1, 38, 0, [], [(0, 0)]) rfl rfl rfl ?_
              refine bEqI bl_0 ?_
              exact ((k36.2.1 c37).2.2.2.2 c38)
          · refine bGo hA 2 5 (66, .iconst (0), 1, 38, 0, [], [(0, 0)]) rfl rfl rfl ?_
            refine bEqI bl_0 ?_
            exact (k36.2.2 c37)
        · refine bGo hA 0 14 (30, .iconst (0), 1, 15, 0, [], [(0, 0)]) rfl rfl rfl ?_
          refine bEqI bl_0 ?_
          refine bGo hA 0 15 (31, .ireturn, 1, 16, 0, [1], []) rfl rfl rfl ?_
          exact (k31.2 c34)
      · refine bGo hA 0 9 (19, .iconst (0), 1, 10, 0, [], [(0, 0)]) rfl rfl rfl ?_
        refine bEqI bl_0 ?_
        refine bGo hA 0 10 (20, .goto (4), 3, 11, 12, [], []) rfl rfl rfl ?_
        refine bGo hA 0 12 (24, .invokevirtual 333, 3, 13, 0, [0, 12, 197, 1], []) rfl rfl rfl ?_
        refine ⟨rfl, ?_⟩
        refine hC _ _ _ _ _ (bRn_e (fun r41 s39 q42 k40 => ?_)) ((k16.2 c19).2 c29)
        show A (13, [.ref 12, .int (bn x1), .int (bn x2), .int (bn x3), .float 0, .float 0], [.int (bn r41)], s39)
        refine bGo hA 0 13 (27, .ifCond .eq (5), 3, 14, 16, [], []) rfl rfl rfl ?_
        refine bB_eq0 (x := r41) q42 (fun c43 => ?_) (fun c43 => ?_)
        · refine bGo hA 1 0 (32, .aload_n 0, 1, 17, 0, [0], []) rfl rfl rfl ?_
          refine bGo hA 1 1 (33, .iload_n 1, 1, 18, 0, [1], []) rfl rfl rfl ?_
          refine bGo hA 1 2 (34, .invokevirtual 374, 3, 19, 0, [0, 12, 214, 1], []) rfl rfl rfl ?_
          refine ⟨rfl, ?_⟩
          refine hC _ _ _ _ _ (bRv_e (fun s44 k45 => ?_)) (k40.1 c43)
          show A (19, [.ref 12, .int (bn x1), .int (bn x2), .int (bn x3), .float 0, .float 0], [], s44)
          refine bGo hA 1 3 (37, .aload_n 0, 1, 20, 0, [0], []) rfl rfl rfl ?_
          refine bGo hA 1 4 (38, .getfield 38, 3, 21, 0, [12, 11, 3, 65, 1, 0], []) rfl rfl rfl ?_
          refine ⟨rfl, ?_⟩
          refine bGo hA 1 5 (41, .iload_n 1, 1, 22, 0, [1], []) rfl rfl rfl ?_
          refine bGo hA 1 6 (42, .iaload, 1, 23, 0, [], []) rfl rfl rfl ?_
          refine ⟨rfl, (bIxP (x := x1) (n := 6) h_x1 k45.1), ?_⟩
          refine bEqL (x := x1) h_x1 ?_
          refine bGo hA 1 7 (43, .iconst (2), 1, 24, 0, [], [(2, 0)]) rfl rfl rfl ?_
          refine bEqI bl_2 ?_
          refine bGo hA 1 8 (44, .if_icmp .ne (22), 3, 25, 37, [], []) rfl rfl rfl ?_
          refine bB_eq (x := (bi s44 65 x1)) (y := 2) (bi_rg _ _ _) (by decide : bRg 2) (fun c46 => ?_) (fun c46 => ?_)
          · refine bGo hA 1 9 (47, .aload_n 0, 1, 26, 0, [0], []) rfl rfl rfl ?_
            refine bGo hA 1 10 (48, .getfield 23, 3, 27, 0, [12, 5, 3, 60, 1, 0], []) rfl rfl rfl ?_
            refine ⟨rfl, ?_⟩
            refine bGo hA 1 11 (51, .bipush (8), 2, 28, 0, [], [(8, 0)]) rfl rfl rfl ?_
            refine bEqI bl_8 ?_
            refine bGo hA 1 12 (53, .iload_n 1, 1, 29, 0, [1], []) rfl rfl rfl ?_
            refine bGo hA 1 13 (54, .imul, 1, 30, 0, [], []) rfl rfl rfl ?_
            refine bEqI (bn_mul 8 x1) ?_
            refine bGo hA 1 14 (55, .iload_n 2, 1, 31, 0, [2], []) rfl rfl rfl ?_
            refine bGo hA 1 15 (56, .iadd, 1, 32, 0, [], []) rfl rfl rfl ?_
            refine bEqI (bn_add (8 * x1) x2) ?_
            refine bGo hA 2 0 (57, .iaload, 1, 33, 0, [], []) rfl rfl rfl ?_
            refine ⟨rfl, (bIxP (x := ((8 * x1) + x2)) (n := 48) (k45.2.1 c46).2.1 (k45.2.1 c46).2.2.1), ?_⟩
            refine bEqL (x := ((8 * x1) + x2)) (k45.2.1 c46).2.1 ?_
            refine bGo hA 2 1 (58, .iconst (2), 1, 34, 0, [], [(2, 0)]) rfl rfl rfl ?_
            refine bEqI bl_2 ?_
            refine bGo hA 2 2 (59, .if_icmp .ne (7), 3, 35, 37, [], []) rfl rfl rfl ?_
            refine bB_eq (x := (bi s44 60 ((8 * x1) + x2))) (y := 2) (bi_rg _ _ _) (by decide : bRg 2) (fun c47 => ?_) (fun c47 => ?_)
            · refine bGo hA 2 3 (62, .iconst (1), 1, 36, 0, [], [(1, 0)]) rfl rfl rfl ?_
              refine bEqI bl_1 ?_
              refine bGo hA 2 4 (63, .goto (4), 3, 37, 38, [], []) rfl rfl rfl ?_
              exact ((k45.2.1 c46).2.2.2.1 c47)
            · refine bGo hA 2 5 (66, .iconst (0), 1, 38, 0, [], [(0, 0)]) rfl rfl rfl ?_
              refine bEqI bl_0 ?_
              exact ((k45.2.1 c46).2.2.2.2 c47)
          · refine bGo hA 2 5 (66, .iconst (0), 1, 38, 0, [], [(0, 0)]) rfl rfl rfl ?_
            refine bEqI bl_0 ?_
            exact (k45.2.2 c46)
        · refine bGo hA 0 14 (30, .iconst (0), 1, 15, 0, [], [(0, 0)]) rfl rfl rfl ?_
          refine bEqI bl_0 ?_
          refine bGo hA 0 15 (31, .ireturn, 1, 16, 0, [1], []) rfl rfl rfl ?_
          exact (k40.2 c43)

theorem sq220_38 {lvl : Nat} {C : bCall} {Q : bPost} {A : bPt → Prop} (hC : bMono C) (hA : bClosed lvl bm220 C Q A) {l1 : Int} {l2 : Int} {l3 : Int} {v4 : Value} {v5 : Value} {t0 : Int} {σ : bSt}  (h_l1 : bRg l1) (h_l2 : bRg l2) (h_l3 : bRg l3) (h_t0 : bRg t0)
  (h : ((t0 = 0 → ((t0 = 0 → Q (.inl (some (.int (bn (-1))))) σ) ∧ (¬ t0 = 0 → ((l3 < (bi σ 63 0) → (bRg (0 + l3) ∧ ((0 ≤ (0 + l3) ∧ (0 + l3) < 768) ∧ Q (.inl (some (.int (bn (bi σ 64 (0 + l3)))))) σ))) ∧ (¬ l3 < (bi σ 63 0) → Q (.inl (some (.int (bn (-1))))) σ))))) ∧ (¬ t0 = 0 → (bRg (8 * l1) ∧ (bRg ((8 * l1) + l2) ∧ ((0 ≤ ((8 * l1) + l2) ∧ ((8 * l1) + l2) < 48) ∧ ((t0 = 0 → Q (.inl (some (.int (bn (-1))))) σ) ∧ (¬ t0 = 0 → ((0 ≤ (bi σ 61 ((8 * l1) + l2)) ∧ (bi σ 61 ((8 * l1) + l2)) < 96) ∧ ((l3 < (bi σ 63 (bi σ 61 ((8 * l1) + l2))) → (bRg (8 * (bi σ 61 ((8 * l1) + l2))) ∧ (bRg ((8 * (bi σ 61 ((8 * l1) + l2))) + l3) ∧ ((0 ≤ ((8 * (bi σ 61 ((8 * l1) + l2))) + l3) ∧ ((8 * (bi σ 61 ((8 * l1) + l2))) + l3) < 768) ∧ Q (.inl (some (.int (bn (bi σ 64 ((8 * (bi σ 61 ((8 * l1) + l2))) + l3)))))) σ)))) ∧ (¬ l3 < (bi σ 63 (bi σ 61 ((8 * l1) + l2))) → Q (.inl (some (.int (bn (-1))))) σ))))))))))) : A (38, [.ref 12, .int (bn l1), .int (bn l2), .int (bn l3), v4, v5], [.int (bn t0)], σ) := by
  refine bGo hA 2 6 (67, .istore 4, 2, 39, 0, [4], []) rfl rfl rfl ?_
  refine bGo hA 2 7 (69, .iload 4, 2, 40, 0, [4], []) rfl rfl rfl ?_
  refine bGo hA 2 8 (71, .ifCond .eq (17), 3, 41, 50, [], []) rfl rfl rfl ?_
  refine bB_eq0 (x := t0) h_t0 (fun c1 => ?_) (fun c1 => ?_)
  · refine bGo hA 3 2 (88, .iconst (0), 1, 51, 0, [], [(0, 0)]) rfl rfl rfl ?_
    refine bEqI bl_0 ?_
    refine bGo hA 3 3 (89, .istore 5, 2, 52, 0, [5], []) rfl rfl rfl ?_
    refine bGo hA 3 4 (91, .iload 4, 2, 53, 0, [4], []) rfl rfl rfl ?_
    refine bGo hA 3 5 (93, .ifCond .eq (29), 3, 54, 69, [], []) rfl rfl rfl ?_
    refine bB_eq0 (x := t0) h_t0 (fun c2 => ?_) (fun c2 => ?_)
    · refine bGo hA 4 5 (122, .iconst (-1), 1, 70, 0, [], [(-1, 0)]) rfl rfl rfl ?_
      refine bEqI bl_m1 ?_
      refine bGo hA 4 6 (123, .ireturn, 1, 0, 0, [1], []) rfl rfl rfl ?_
      exact ((h.1 c1).1 c2)
    · refine bGo hA 3 6 (96, .iload_n 3, 1, 55, 0, [3], []) rfl rfl rfl ?_
      refine bGo hA 3 7 (97, .aload_n 0, 1, 56, 0, [0], []) rfl rfl rfl ?_
      refine bGo hA 3 8 (98, .getfield 32, 3, 57, 0, [12, 9, 3, 63, 1, 0], []) rfl rfl rfl ?_
      refine ⟨rfl, ?_⟩
      refine bGo hA 3 9 (101, .iload 5, 2, 58, 0, [5], []) rfl rfl rfl ?_
      refine bGo hA 3 10 (103, .iaload, 1, 59, 0, [], []) rfl rfl rfl ?_
      refine ⟨rfl, (bIxP (x := 0) (n := 96) (by decide) (by decide)), ?_⟩
      refine bEqL (x := 0) (by decide : bRg 0) ?_
      refine bGo hA 3 11 (104, .if_icmp .ge (18), 3, 60, 69, [], []) rfl rfl rfl ?_
      refine bB_lt (x := l3) (y := (bi σ 63 0)) h_l3 (bi_rg _ _ _) (fun c3 => ?_) (fun c3 => ?_)
      · refine bGo hA 3 12 (107, .aload_n 0, 1, 61, 0, [0], []) rfl rfl rfl ?_
        refine bGo hA 3 13 (108, .getfield 35, 3, 62, 0, [12, 10, 3, 64, 1, 0], []) rfl rfl rfl ?_
        refine ⟨rfl, ?_⟩
        refine bGo hA 3 14 (111, .bipush (8), 2, 63, 0, [], [(8, 0)]) rfl rfl rfl ?_
        refine bEqI bl_8 ?_
        refine bGo hA 3 15 (113, .iload 5, 2, 64, 0, [5], []) rfl rfl rfl ?_
        refine bGo hA 4 0 (115, .imul, 1, 65, 0, [], []) rfl rfl rfl ?_
        refine bEqI ((bn_mul 8 0).trans (by decide : bn ((8 : Int) * (0 : Int)) = bn 0)) ?_
        refine bGo hA 4 1 (116, .iload_n 3, 1, 66, 0, [3], []) rfl rfl rfl ?_
        refine bGo hA 4 2 (117, .iadd, 1, 67, 0, [], []) rfl rfl rfl ?_
        refine bEqI (bn_add 0 l3) ?_
        refine bGo hA 4 3 (118, .iaload, 1, 68, 0, [], []) rfl rfl rfl ?_
        refine ⟨rfl, (bIxP (x := (0 + l3)) (n := 768) (((h.1 c1).2 c2).1 c3).1 (((h.1 c1).2 c2).1 c3).2.1), ?_⟩
        refine bEqL (x := (0 + l3)) (((h.1 c1).2 c2).1 c3).1 ?_
        refine bGo hA 4 4 (119, .goto (4), 3, 69, 70, [], []) rfl rfl rfl ?_
        refine bGo hA 4 6 (123, .ireturn, 1, 0, 0, [1], []) rfl rfl rfl ?_
        exact (((h.1 c1).2 c2).1 c3).2.2
      · refine bGo hA 4 5 (122, .iconst (-1), 1, 70, 0, [], [(-1, 0)]) rfl rfl rfl ?_
        refine bEqI bl_m1 ?_
        refine bGo hA 4 6 (123, .ireturn, 1, 0, 0, [1], []) rfl rfl rfl ?_
        exact (((h.1 c1).2 c2).2 c3)
  · refine bGo hA 2 9 (74, .aload_n 0, 1, 42, 0, [0], []) rfl rfl rfl ?_
    refine bGo hA 2 10 (75, .getfield 26, 3, 43, 0, [12, 6, 3, 61, 1, 0], []) rfl rfl rfl ?_
    refine ⟨rfl, ?_⟩
    refine bGo hA 2 11 (78, .bipush (8), 2, 44, 0, [], [(8, 0)]) rfl rfl rfl ?_
    refine bEqI bl_8 ?_
    refine bGo hA 2 12 (80, .iload_n 1, 1, 45, 0, [1], []) rfl rfl rfl ?_
    refine bGo hA 2 13 (81, .imul, 1, 46, 0, [], []) rfl rfl rfl ?_
    refine bEqI (bn_mul 8 l1) ?_
    refine bGo hA 2 14 (82, .iload_n 2, 1, 47, 0, [2], []) rfl rfl rfl ?_
    refine bGo hA 2 15 (83, .iadd, 1, 48, 0, [], []) rfl rfl rfl ?_
    refine bEqI (bn_add (8 * l1) l2) ?_
    refine bGo hA 3 0 (84, .iaload, 1, 49, 0, [], []) rfl rfl rfl ?_
    refine ⟨rfl, (bIxP (x := ((8 * l1) + l2)) (n := 48) (h.2 c1).2.1 (h.2 c1).2.2.1), ?_⟩
    refine bEqL (x := ((8 * l1) + l2)) (h.2 c1).2.1 ?_
    refine bGo hA 3 1 (85, .goto (4), 3, 50, 51, [], []) rfl rfl rfl ?_
    refine bGo hA 3 3 (89, .istore 5, 2, 52, 0, [5], []) rfl rfl rfl ?_
    refine bGo hA 3 4 (91, .iload 4, 2, 53, 0, [4], []) rfl rfl rfl ?_
    refine bGo hA 3 5 (93, .ifCond .eq (29), 3, 54, 69, [], []) rfl rfl rfl ?_
    refine bB_eq0 (x := t0) h_t0 (fun c4 => ?_) (fun c4 => ?_)
    · refine bGo hA 4 5 (122, .iconst (-1), 1, 70, 0, [], [(-1, 0)]) rfl rfl rfl ?_
      refine bEqI bl_m1 ?_
      refine bGo hA 4 6 (123, .ireturn, 1, 0, 0, [1], []) rfl rfl rfl ?_
      exact ((h.2 c1).2.2.2.1 c4)
    · refine bGo hA 3 6 (96, .iload_n 3, 1, 55, 0, [3], []) rfl rfl rfl ?_
      refine bGo hA 3 7 (97, .aload_n 0, 1, 56, 0, [0], []) rfl rfl rfl ?_
      refine bGo hA 3 8 (98, .getfield 32, 3, 57, 0, [12, 9, 3, 63, 1, 0], []) rfl rfl rfl ?_
      refine ⟨rfl, ?_⟩
      refine bGo hA 3 9 (101, .iload 5, 2, 58, 0, [5], []) rfl rfl rfl ?_
      refine bGo hA 3 10 (103, .iaload, 1, 59, 0, [], []) rfl rfl rfl ?_
      refine ⟨rfl, (bIxP (x := (bi σ 61 ((8 * l1) + l2))) (n := 96) (bi_rg _ _ _) ((h.2 c1).2.2.2.2 c4).1), ?_⟩
      refine bEqL (x := (bi σ 61 ((8 * l1) + l2))) (bi_rg _ _ _) ?_
      refine bGo hA 3 11 (104, .if_icmp .ge (18), 3, 60, 69, [], []) rfl rfl rfl ?_
      refine bB_lt (x := l3) (y := (bi σ 63 (bi σ 61 ((8 * l1) + l2)))) h_l3 (bi_rg _ _ _) (fun c5 => ?_) (fun c5 => ?_)
      · refine bGo hA 3 12 (107, .aload_n 0, 1, 61, 0, [0], []) rfl rfl rfl ?_
        refine bGo hA 3 13 (108, .getfield 35, 3, 62, 0, [12, 10, 3, 64, 1, 0], []) rfl rfl rfl ?_
        refine ⟨rfl, ?_⟩
        refine bGo hA 3 14 (111, .bipush (8), 2, 63, 0, [], [(8, 0)]) rfl rfl rfl ?_
        refine bEqI bl_8 ?_
        refine bGo hA 3 15 (113, .iload 5, 2, 64, 0, [5], []) rfl rfl rfl ?_
        refine bGo hA 4 0 (115, .imul, 1, 65, 0, [], []) rfl rfl rfl ?_
        refine bEqI (bn_mul 8 (bi σ 61 ((8 * l1) + l2))) ?_
        refine bGo hA 4 1 (116, .iload_n 3, 1, 66, 0, [3], []) rfl rfl rfl ?_
        refine bGo hA 4 2 (117, .iadd, 1, 67, 0, [], []) rfl rfl rfl ?_
        refine bEqI (bn_add (8 * (bi σ 61 ((8 * l1) + l2))) l3) ?_
        refine bGo hA 4 3 (118, .iaload, 1, 68, 0, [], []) rfl rfl rfl ?_
        refine ⟨rfl, (bIxP (x := ((8 * (bi σ 61 ((8 * l1) + l2))) + l3)) (n := 768) (((h.2 c1).2.2.2.2 c4).2.1 c5).2.1 (((h.2 c1).2.2.2.2 c4).2.1 c5).2.2.1), ?_⟩
        refine bEqL (x := ((8 * (bi σ 61 ((8 * l1) + l2))) + l3)) (((h.2 c1).2.2.2.2 c4).2.1 c5).2.1 ?_
        refine bGo hA 4 4 (119, .goto (4), 3, 69, 70, [], []) rfl rfl rfl ?_
        refine bGo hA 4 6 (123, .ireturn, 1, 0, 0, [1], []) rfl rfl rfl ?_
        exact (((h.2 c1).2.2.2.2 c4).2.1 c5).2.2.2
      · refine bGo hA 4 5 (122, .iconst (-1), 1, 70, 0, [], [(-1, 0)]) rfl rfl rfl ?_
        refine bEqI bl_m1 ?_
        refine bGo hA 4 6 (123, .ireturn, 1, 0, 0, [1], []) rfl rfl rfl ?_
        exact (((h.2 c1).2.2.2.2 c4).2.2 c5)

theorem sq221_0 {lvl : Nat} {C : bCall} {Q : bPost} {A : bPt → Prop} (hC : bMono C) (hA : bClosed lvl bm221 C Q A) {x1 : Int} {x2 : Int} {σ : bSt}  (h_x1 : bRg x1) (h_x2 : bRg x2)
  (h : (C 210 [.int (bn x1)] σ (bRn (fun r3 s1 => ((r3 = 0 → (C 197 [.ref 12, .int (bn 1)] s1 (bRn (fun r8 s6 => ((r8 = 0 → (C 214 [.ref 12, .int (bn x1)] s6 (bRv (fun s11 => A (20, [.ref 12, .int (bn x1), .int (bn x2), .int (bn x1), .int (bn 0)], [], s11))))) ∧ (¬ r8 = 0 → Q (.inl (some (.int (bn 0)))) s6)))))) ∧ (¬ r3 = 0 → ((x2 < 0 → (C 197 [.ref 12, .int (bn 1)] s1 (bRn (fun r16 s14 => ((r16 = 0 → (C 214 [.ref 12, .int (bn x1)] s14 (bRv (fun s19 => A (20, [.ref 12, .int (bn x1), .int (bn x2), .int (bn x1), .int (bn 0)], [], s19))))) ∧ (¬ r16 = 0 → Q (.inl (some (.int (bn 0)))) s14)))))) ∧ (¬ x2 < 0 → (C 197 [.ref 12, .int (bn 0)] s1 (bRn (fun r23 s21 => ((r23 = 0 → (C 214 [.ref 12, .int (bn x1)] s21 (bRv (fun s26 => A (20, [.ref 12, .int (bn x1), .int (bn x2), .int (bn x1), .int (bn 0)], [], s26))))) ∧ (¬ r23 = 0 → Q (.inl (some (.int (bn 0)))) s21))))))))))))) : A (0, [.ref 12, .int (bn x1), .int (bn x2), .float 0, .float 0], [], σ) := by
  refine bGo hA 0 0 (0, .aload_n 0, 1, 1, 0, [0], []) rfl rfl rfl ?_
  refine bGo hA 0 1 (1, .iload_n 1, 1, 2, 0, [1], []) rfl rfl rfl ?_
  refine bGo hA 0 2 (2, .invokestatic 350, 3, 3, 0, [2, 210, 1], []) rfl rfl rfl ?_
  refine hC _ _ _ _ _ (bRn_e (fun r3 s1 q4 k2 => ?_)) h
  show A (3, [.ref 12, .int (bn x1), .int (bn x2), .float 0, .float 0], [.int (bn r3), .ref 12], s1)
  refine bGo hA 0 3 (5, .ifCond .eq (11), 3, 4, 8, [], []) rfl rfl rfl ?_
  refine bB_eq0 (x := r3) q4 (fun c5 => ?_) (fun c5 => ?_)
  · refine bGo hA 0 8 (16, .iconst (1), 1, 9, 0, [], [(1, 0)]) rfl rfl rfl ?_
    refine bEqI bl_1 ?_
    refine bGo hA 0 9 (17, .invokevirtual 333, 3, 10, 0, [0, 12, 197, 1], []) rfl rfl rfl ?_
    refine ⟨rfl, ?_⟩
    refine hC _ _ _ _ _ (bRn_e (fun r8 s6 q9 k7 => ?_)) (k2.1 c5)
    show A (10, [.ref 12, .int (bn x1), .int (bn x2), .float 0, .float 0], [.int (bn r8)], s6)
    refine bGo hA 0 10 (20, .ifCond .eq (5), 3, 11, 13, [], []) rfl rfl rfl ?_
    refine bB_eq0 (x := r8) q9 (fun c10 => ?_) (fun c10 => ?_)
    · refine bGo hA 0 13 (25, .aload_n 0, 1, 14, 0, [0], []) rfl rfl rfl ?_
      refine bGo hA 0 14 (26, .iload_n 1, 1, 15, 0, [1], []) rfl rfl rfl ?_
      refine bGo hA 0 15 (27, .invokevirtual 374, 3, 16, 0, [0, 12, 214, 1], []) rfl rfl rfl ?_
      refine ⟨rfl, ?_⟩
      refine hC _ _ _ _ _ (bRv_e (fun s11 k12 => ?_)) (k7.1 c10)
      show A (16, [.ref 12, .int (bn x1), .int (bn x2), .float 0, .float 0], [], s11)
      refine bGo hA 1 0 (30, .iload_n 1, 1, 17, 0, [1], []) rfl rfl rfl ?_
      refine bGo hA 1 1 (31, .istore_n 3, 1, 18, 0, [3], []) rfl rfl rfl ?_
      refine bGo hA 1 2 (32, .iconst (0), 1, 19, 0, [], [(0, 0)]) rfl rfl rfl ?_
      refine bEqI bl_0 ?_
      refine bGo hA 1 3 (33, .istore 4, 2, 20, 0, [4], []) rfl rfl rfl ?_
      exact k12
    · refine bGo hA 0 11 (23, .iconst (0), 1, 12, 0, [], [(0, 0)]) rfl rfl rfl ?_
      refine bEqI bl_0 ?_
      refine bGo hA 0 12 (24, .ireturn, 1, 13, 0, [1], []) rfl rfl rfl ?_
      exact (k7.2 c10)
  · refine bGo hA 0 4 (8, .iload_n 2, 1, 5, 0, [2], []) rfl rfl rfl ?_
    refine bGo hA 0 5 (9, .ifCond .lt (7), 3, 6, 8, [], []) rfl rfl rfl ?_
    refine bB_lt0 (x := x2) h_x2 (fun c13 => ?_) (fun c13 => ?_)
    · refine bGo hA 0 8 (16, .iconst (1), 1, 9, 0, [], [(1, 0)]) rfl rfl rfl ?_
      refine bEqI bl_1 ?_
      refine bGo hA 0 9 (17, .invokevirtual 333, 3, 10, 0, [0, 12, 197, 1], []) rfl rfl rfl ?_
      refine ⟨rfl, ?_⟩
      refine hC _ _ _ _ _ (bRn_e (fun r16 s14 q17 k15 => ?_)) ((k2.2 c5).1 c13)
      show A (10, [.ref 12, .int (bn x1), .int (bn x2), .float 0, .float 0], [.int (bn r16)], s14)
      refine bGo hA 0 10 (20, .ifCond .eq (5), 3, 11, 13, [], []) rfl rfl rfl ?_
      refine bB_eq0 (x := r16) q17 (fun c18 => ?_) (fun c18 => ?_)
      · refine bGo hA 0 13 (25, .aload_n 0, 1, 14, 0, [0], []) rfl rfl rfl ?_
        refine bGo hA 0 14 (26, .iload_n 1, 1, 15, 0, [1], []) rfl rfl rfl ?_
        refine bGo hA 0 15 (27, .invokevirtual 374, 3, 16, 0, [0, 12, 214, 1], []) rfl rfl rfl ?_
        refine ⟨rfl, ?_⟩
        refine hC _ _ _ _ _ (bRv_e (fun s19 k20 => ?_)) (k15.1 c18)
        show A (16, [.ref 12, .int (bn x1), .int (bn x2), .float 0, .float 0], [], s19)
        refine bGo hA 1 0 (30, .iload_n 1, 1, 17, 0, [1], []) rfl rfl rfl ?_
        refine bGo hA 1 1 (31, .istore_n 3, 1, 18, 0, [3], []) rfl rfl rfl ?_
        refine bGo hA 1 2 (32, .iconst (0), 1, 19, 0, [], [(0, 0)]) rfl rfl rfl ?_
        refine bEqI bl_0 ?_
        refine bGo hA 1 3 (33, .istore 4, 2, 20, 0, [4], []) rfl rfl rfl ?_
        exact k20
      · refine bGo hA 0 11 (23, .iconst (0), 1, 12, 0, [], [(0, 0)]) rfl rfl rfl ?_
        refine bEqI bl_0 ?_
        refine bGo hA 0 12 (24, .ireturn, 1, 13, 0, [1], []) rfl rfl rfl ?_
        exact (k15.2 c18)
    · refine bGo hA 0 6 (12, .iconst (0), 1, 7, 0, [], [(0, 0)]) rfl rfl rfl ?_
      refine bEqI bl_0 ?_
      refine bGo hA 0 7 (13, .goto (4), 3, 8, 9, [], []) rfl rfl rfl ?_
      refine bGo hA 0 9 (17, .invokevirtual 333, 3, 10, 0, [0, 12, 197, 1], []) rfl rfl rfl ?_
      refine ⟨rfl, ?_⟩
      refine hC _ _ _ _ _ (bRn_e (fun r23 s21 q24 k22 => ?_)) ((k2.2 c5).2 c13)
      show A (10, [.ref 12, .int (bn x1), .int (bn x2), .float 0, .float 0], [.int (bn r23)], s21)
      refine bGo hA 0 10 (20, .ifCond .eq (5), 3, 11, 13, [], []) rfl rfl rfl ?_
      refine bB_eq0 (x := r23) q24 (fun c25 => ?_) (fun c25 => ?_)
      · refine bGo hA 0 13 (25, .aload_n 0, 1, 14, 0, [0], []) rfl rfl rfl ?_
        refine bGo hA 0 14 (26, .iload_n 1, 1, 15, 0, [1], []) rfl rfl rfl ?_
        refine bGo hA 0 15 (27, .invokevirtual 374, 3, 16, 0, [0, 12, 214, 1], []) rfl rfl rfl ?_
        refine ⟨rfl, ?_⟩
        refine hC _ _ _ _ _ (bRv_e (fun s26 k27 => ?_)) (k22.1 c25)
        show A (16, [.ref 12, .int (bn x1), .int (bn x2), .float 0, .float 0], [], s26)
        refine bGo hA 1 0 (30, .iload_n 1, 1, 17, 0, [1], []) rfl rfl rfl ?_
        refine bGo hA 1 1 (31, .istore_n 3, 1, 18, 0, [3], []) rfl rfl rfl ?_
        refine bGo hA 1 2 (32, .iconst (0), 1, 19, 0, [], [(0, 0)]) rfl rfl rfl ?_
        refine bEqI bl_0 ?_
        refine bGo hA 1 3 (33, .istore 4, 2, 20, 0, [4], []) rfl rfl rfl ?_
        exact k27
      · refine bGo hA 0 11 (23, .iconst (0), 1, 12, 0, [], [(0, 0)]) rfl rfl rfl ?_
        refine bEqI bl_0 ?_
        refine bGo hA 0 12 (24, .ireturn, 1, 13, 0, [1], []) rfl rfl rfl ?_
        exact (k22.2 c25)

theorem sq221_20 {lvl : Nat} {C : bCall} {Q : bPost} {A : bPt → Prop} (hC : bMono C) (hA : bClosed lvl bm221 C Q A) {v1 : Value} {l2 : Int} {l3 : Int} {l4 : Int} {σ : bSt}  (h_l2 : bRg l2) (h_l3 : bRg l3) (h_l4 : bRg l4)
  (h : ((l4 < l2 → ((l3 = (-1) → ((l3 = (-1) → Q (.inl (some (.int (bn (-1))))) σ) ∧ (¬ l3 = (-1) → ((0 ≤ l3 ∧ l3 < 6) ∧ (((bi σ 65 l3) = 3 → (bRg (1000 * l3) ∧ (bRg (10 * (bi σ 66 l3)) ∧ (bRg ((1000 * l3) + (10 * (bi σ 66 l3))) ∧ (bRg (((1000 * l3) + (10 * (bi σ 66 l3))) + (bi σ 67 l3)) ∧ Q (.inl (some (.int (bn (((1000 * l3) + (10 * (bi σ 66 l3))) + (bi σ 67 l3)))))) σ))))) ∧ (¬ (bi σ 65 l3) = 3 → Q (.inl (some (.int (bn (-1))))) σ)))))) ∧ (¬ l3 = (-1) → (((6 : Int) < l4 → ((l3 = (-1) → Q (.inl (some (.int (bn (-1))))) σ) ∧ (¬ l3 = (-1) → ((0 ≤ l3 ∧ l3 < 6) ∧ (((bi σ 65 l3) = 3 → (bRg (1000 * l3) ∧ (bRg (10 * (bi σ 66 l3)) ∧ (bRg ((1000 * l3) + (10 * (bi σ 66 l3))) ∧ (bRg (((1000 * l3) + (10 * (bi σ 66 l3))) + (bi σ 67 l3)) ∧ Q (.inl (some (.int (bn (((1000 * l3) + (10 * (bi σ 66 l3))) + (bi σ 67 l3)))))) σ))))) ∧ (¬ (bi σ 65 l3) = 3 → Q (.inl (some (.int (bn (-1))))) σ)))))) ∧ (¬ (6 : Int) < l4 → ((0 ≤ l3 ∧ l3 < 6) ∧ (((bi σ 65 l3) = 3 → (((bi σ 67 l3) = 6 → (bRg (l4 + 1) ∧ A (20, [.ref 12, v1, .int (bn l2), .int (bn (bi σ 68 l3)), .int (bn (l4 + 1))], [], σ))) ∧ (¬ (bi σ 67 l3) = 6 → (bRg (l4 + 1) ∧ A (20, [.ref 12, v1, .int (bn l2), .int (bn (-1)), .int (bn (l4 + 1))], [], σ))))) ∧ (¬ (bi σ 65 l3) = 3 → (bRg (l4 + 1) ∧ A (20, [.ref 12, v1, .int (bn l2), .int (bn (-1)), .int (bn (l4 + 1))], [], σ)))))))))) ∧ (¬ l4 < l2 → ((l3 = (-1) → Q (.inl (some (.int (bn (-1))))) σ) ∧ (¬ l3 = (-1) → ((0 ≤ l3 ∧ l3 < 6) ∧ (((bi σ 65 l3) = 3 → (bRg (1000 * l3) ∧ (bRg (10 * (bi σ 66 l3)) ∧ (bRg ((1000 * l3) + (10 * (bi σ 66 l3))) ∧ (bRg (((1000 * l3) + (10 * (bi σ 66 l3))) + (bi σ 67 l3)) ∧ Q (.inl (some (.int (bn (((1000 * l3) + (10 * (bi σ 66 l3))) + (bi σ 67 l3)))))) σ))))) ∧ (¬ (bi σ 65 l3) = 3 → Q (.inl (some (.int (bn (-1))))) σ)))))))) : A (20, [.ref 12, v1, .int (bn l2), .int (bn l3), .int (bn l4)], [], σ) := by
  refine bGo hA 1 4 (35, .iload 4, 2, 21, 0, [4], []) rfl rfl rfl ?_
  refine bGo hA 1 5 (37, .iload_n 2, 1, 22, 0, [2], []) rfl rfl rfl ?_
  refine bGo hA 1 6 (38, .if_icmp .ge (53), 3, 23, 50, [], []) rfl rfl rfl ?_
  refine bB_lt (x := l4) (y := l2) h_l4 h_l2 (fun c1 => ?_) (fun c1 => ?_)
  · refine bGo hA 1 7 (41, .iload_n 3, 1, 24, 0, [3], []) rfl rfl rfl ?_
    refine bGo hA 1 8 (42, .iconst (-1), 1, 25, 0, [], [(-1, 0)]) rfl rfl rfl ?_
    refine bEqI bl_m1 ?_
    refine bGo hA 1 9 (43, .if_icmp .eq (48), 3, 26, 50, [], []) rfl rfl rfl ?_
    refine bB_eq (x := l3) (y := (-1)) h_l3 (by decide : bRg (-1)) (fun c2 => ?_) (fun c2 => ?_)
    · refine bGo hA 3 2 (91, .iload_n 3, 1, 51, 0, [3], []) rfl rfl rfl ?_
      refine bGo hA 3 3 (92, .iconst (-1), 1, 52, 0, [], [(-1, 0)]) rfl rfl rfl ?_
      refine bEqI bl_m1 ?_
      refine bGo hA 3 4 (93, .if_icmp .eq (13), 3, 53, 59, [], []) rfl rfl rfl ?_
      refine bB_eq (x := l3) (y := (-1)) h_l3 (by decide : bRg (-1)) (fun c3 => ?_) (fun c3 => ?_)
      · refine bGo hA 3 11 (106, .iconst (-1), 1, 60, 0, [], [(-1, 0)]) rfl rfl rfl ?_
        refine bEqI bl_m1 ?_
        refine bGo hA 3 12 (107, .goto (25), 3, 61, 76, [], []) rfl rfl rfl ?_
        refine bGo hA 4 12 (132, .ireturn, 1, 0, 0, [1], []) rfl rfl rfl ?_
        exact (((h.1 c1).1 c2).1 c3)
      · refine bGo hA 3 5 (96, .aload_n 0, 1, 54, 0, [0], []) rfl rfl rfl ?_
        refine bGo hA 3 6 (97, .getfield 38, 3, 55, 0, [12, 11, 3, 65, 1, 0], []) rfl rfl rfl ?_
        refine ⟨rfl, ?_⟩
        refine bGo hA 3 7 (100, .iload_n 3, 1, 56, 0, [3], []) rfl rfl rfl ?_
        refine bGo hA 3 8 (101, .iaload, 1, 57, 0, [], []) rfl rfl rfl ?_
        refine ⟨rfl, (bIxP (x := l3) (n := 6) h_l3 (((h.1 c1).1 c2).2 c3).1), ?_⟩
        refine bEqL (x := l3) h_l3 ?_
        refine bGo hA 3 9 (102, .iconst (3), 1, 58, 0, [], [(3, 0)]) rfl rfl rfl ?_
        refine bEqI bl_3 ?_
        refine bGo hA 3 10 (103, .if_icmp .eq (7), 3, 59, 61, [], []) rfl rfl rfl ?_
        refine bB_eq (x := (bi σ 65 l3)) (y := 3) (bi_rg _ _ _) (by decide : bRg 3) (fun c4 => ?_) (fun c4 => ?_)
        · refine bGo hA 3 13 (110, .sipush (1000), 3, 62, 0, [], [(1000, 0)]) rfl rfl rfl ?_
          refine bEqI bl_1000 ?_
          refine bGo hA 3 14 (113, .iload_n 3, 1, 63, 0, [3], []) rfl rfl rfl ?_
          refine bGo hA 3 15 (114, .imul, 1, 64, 0, [], []) rfl rfl rfl ?_
          refine bEqI (bn_mul 1000 l3) ?_
          refine bGo hA 4 0 (115, .bipush (10), 2, 65, 0, [], [(10, 0)]) rfl rfl rfl ?_
          refine bEqI bl_10 ?_
          refine bGo hA 4 1 (117, .aload_n 0, 1, 66, 0, [0], []) rfl rfl rfl ?_
          refine bGo hA 4 2 (118, .getfield 41, 3, 67, 0, [12, 12, 3, 66, 1, 0], []) rfl rfl rfl ?_
          refine ⟨rfl, ?_⟩
          refine bGo hA 4 3 (121, .iload_n 3, 1, 68, 0, [3], []) rfl rfl rfl ?_
          refine bGo hA 4 4 (122, .iaload, 1, 69, 0, [], []) rfl rfl rfl ?_
          refine ⟨rfl, (bIxP (x := l3) (n := 6) h_l3 (((h.1 c1).1 c2).2 c3).1), ?_⟩
          refine bEqL (x := l3) h_l3 ?_
          refine bGo hA 4 5 (123, .imul, 1, 70, 0, [], []) rfl rfl rfl ?_
          refine bEqI (bn_mul 10 (bi σ 66 l3)) ?_
          refine bGo hA 4 6 (124, .iadd, 1, 71, 0, [], []) rfl rfl rfl ?_
          refine bEqI (bn_add (1000 * l3) (10 * (bi σ 66 l3))) ?_
          refine bGo hA 4 7 (125, .aload_n 0, 1, 72, 0, [0], []) rfl rfl rfl ?_
          refine bGo hA 4 8 (126, .getfield 44, 3, 73, 0, [12, 13, 3, 67, 1, 0], []) rfl rfl rfl ?_
          refine ⟨rfl, ?_⟩
          refine bGo hA 4 9 (129, .iload_n 3, 1, 74, 0, [3], []) rfl rfl rfl ?_
          refine bGo hA 4 10 (130, .iaload, 1, 75, 0, [], []) rfl rfl rfl ?_
          refine ⟨rfl, (bIxP (x := l3) (n := 6) h_l3 (((h.1 c1).1 c2).2 c3).1), ?_⟩
          refine bEqL (x := l3) h_l3 ?_
          refine bGo hA 4 11 (131, .iadd, 1, 76, 0, [], []) rfl rfl rfl ?_
          refine bEqI (bn_add ((1000 * l3) + (10 * (bi σ 66 l3))) (bi σ 67 l3)) ?_
          refine bGo hA 4 12 (132, .ireturn, 1, 0, 0, [1], []) rfl rfl rfl ?_
          exact ((((h.1 c1).1 c2).2 c3).2.1 c4).2.2.2.2
        · refine bGo hA 3 11 (106, .iconst (-1), 1, 60, 0, [], [(-1, 0)]) rfl rfl rfl ?_
          refine bEqI bl_m1 ?_
          refine bGo hA 3 12 (107, .goto (25), 3, 61, 76, [], []) rfl rfl rfl ?_
          refine bGo hA 4 12 (132, .ireturn, 1, 0, 0, [1], []) rfl rfl rfl ?_
          exact ((((h.1 c1).1 c2).2 c3).2.2 c4)
    · refine bGo hA 1 10 (46, .iload 4, 2, 27, 0, [4], []) rfl rfl rfl ?_
      refine bGo hA 1 11 (48, .bipush (6), 2, 28, 0, [], [(6, 0)]) rfl rfl rfl ?_
      refine bEqI bl_6 ?_
      refine bGo hA 1 12 (50, .if_icmp .gt (41), 3, 29, 50, [], []) rfl rfl rfl ?_
      refine bB_lt (x := 6) (y := l4) (by decide : bRg 6) h_l4 (fun c5 => ?_) (fun c5 => ?_)
      · refine bGo hA 3 2 (91, .iload_n 3, 1, 51, 0, [3], []) rfl rfl rfl ?_
        refine bGo hA 3 3 (92, .iconst (-1), 1, 52, 0, [], [(-1, 0)]) rfl rfl rfl ?_
        refine bEqI bl_m1 ?_
        refine bGo hA 3 4 (93, .if_icmp .eq (13), 3, 53, 59, [], []) rfl rfl rfl ?_
        refine bB_eq (x := l3) (y := (-1)) h_l3 (by decide : bRg (-1)) (fun c6 => ?_) (fun c6 => ?_)
        · refine bGo hA 3 11 (106, .iconst (-1), 1, 60, 0, [], [(-1, 0)]) rfl rfl rfl ?_
          refine bEqI bl_m1 ?_
          refine bGo hA 3 12 (107, .goto (25), 3, 61, 76, [], []) rfl rfl rfl ?_
          refine bGo hA 4 12 (132, .ireturn, 1, 0, 0, [1], []) rfl rfl rfl ?_
          exact ((((h.1 c1).2 c2).1 c5).1 c6)
        · refine bGo hA 3 5 (96, .aload_n 0, 1, 54, 0, [0], []) rfl rfl rfl ?_
          refine bGo hA 3 6 (97, .getfield 38, 3, 55, 0, [12, 11, 3, 65, 1, 0], []) rfl rfl rfl ?_
          refine ⟨rfl, ?_⟩
          refine bGo hA 3 7 (100, .iload_n 3, 1, 56, 0, [3], []) rfl rfl rfl ?_
          refine bGo hA 3 8 (101, .iaload, 1, 57, 0, [], []) rfl rfl rfl ?_
          refine ⟨rfl, (bIxP (x := l3) (n := 6) h_l3 ((((h.1 c1).2 c2).1 c5).2 c6).1), ?_⟩
          refine bEqL (x := l3) h_l3 ?_
          refine bGo hA 3 9 (102, .iconst (3), 1, 58, 0, [], [(3, 0)]) rfl rfl rfl ?_
          refine bEqI bl_3 ?_
          refine bGo hA 3 10 (103, .if_icmp .eq (7), 3, 59, 61, [], []) rfl rfl rfl ?_
          refine bB_eq (x := (bi σ 65 l3)) (y := 3) (bi_rg _ _ _) (by decide : bRg 3) (fun c7 => ?_) (fun c7 => ?_)
          · refine bGo hA 3 13 (110, .sipush (1000), 3, 62, 0, [], [(1000, 0)]) rfl rfl rfl ?_
            refine bEqI bl_1000 ?_
            refine bGo hA 3 14 (113, .iload_n 3, 1, 63, 0, [3], []) rfl rfl rfl ?_
            refine bGo hA 3 15 (114, .imul, 1, 64, 0, [], []) rfl rfl rfl ?_
            refine bEqI (bn_mul 1000 l3) ?_
            refine bGo hA 4 0 (115, .bipush (10), 2, 65, 0, [], [(10, 0)]) rfl rfl rfl ?_
            refine bEqI bl_10 ?_
            refine bGo hA 4 1 (117, .aload_n 0, 1, 66, 0, [0], []) rfl rfl rfl ?_
            refine bGo hA 4 2 (118, .getfield 41, 3, 67, 0, [12, 12, 3, 66, 1, 0], []) rfl rfl rfl ?_
            refine ⟨rfl, ?_⟩
            refine bGo hA 4 3 (121, .iload_n 3, 1, 68, 0, [3], []) rfl rfl rfl ?_
            refine bGo hA 4 4 (122, .iaload, 1, 69, 0, [], []) rfl rfl rfl ?_
            refine ⟨rfl, (bIxP (x := l3) (n := 6) h_l3 ((((h.1 c1).2 c2).1 c5).2 c6).1), ?_⟩
            refine bEqL (x := l3) h_l3 ?_
            refine bGo hA 4 5 (123, .imul, 1, 70, 0, [], []) rfl rfl rfl ?_
            refine bEqI (bn_mul 10 (bi σ 66 l3)) ?_
            refine bGo hA 4 6 (124, .iadd, 1, 71, 0, [], []) rfl rfl rfl ?_
            refine bEqI (bn_add (1000 * l3) (10 * (bi σ 66 l3))) ?_
            refine bGo hA 4 7 (125, .aload_n 0, 1, 72, 0, [0], []) rfl rfl rfl ?_
            refine bGo hA 4 8 (126, .getfield 44, 3, 73, 0, [12, 13, 3, 67, 1, 0], []) rfl rfl rfl ?_
            refine ⟨rfl, ?_⟩
            refine bGo hA 4 9 (129, .iload_n 3, 1, 74, 0, [3], []) rfl rfl rfl ?_
            refine bGo hA 4 10 (130, .iaload, 1, 75, 0, [], []) rfl rfl rfl ?_
            refine ⟨rfl, (bIxP (x := l3) (n := 6) h_l3 ((((h.1 c1).2 c2).1 c5).2 c6).1), ?_⟩
            refine bEqL (x := l3) h_l3 ?_
            refine bGo hA 4 11 (131, .iadd, 1, 76, 0, [], []) rfl rfl rfl ?_
            refine bEqI (bn_add ((1000 * l3) + (10 * (bi σ 66 l3))) (bi σ 67 l3)) ?_
            refine bGo hA 4 12 (132, .ireturn, 1, 0, 0, [1], []) rfl rfl rfl ?_
            exact (((((h.1 c1).2 c2).1 c5).2 c6).2.1 c7).2.2.2.2
          · refine bGo hA 3 11 (106, .iconst (-1), 1, 60, 0, [], [(-1, 0)]) rfl rfl rfl ?_
            refine bEqI bl_m1 ?_
            refine bGo hA 3 12 (107, .goto (25), 3, 61, 76, [], []) rfl rfl rfl ?_
            refine bGo hA 4 12 (132, .ireturn, 1, 0, 0, [1], []) rfl rfl rfl ?_
            exact (((((h.1 c1).2 c2).1 c5).2 c6).2.2 c7)
      · refine bGo hA 1 13 (53, .aload_n 0, 1, 30, 0, [0], []) rfl rfl rfl ?_
        refine bGo hA 1 14 (54, .getfield 38, 3, 31, 0, [12, 11, 3, 65, 1, 0], []) rfl rfl rfl ?_
        refine ⟨rfl, ?_⟩
        refine bGo hA 1 15 (57, .iload_n 3, 1, 32, 0, [3], []) rfl rfl rfl ?_
        refine bGo hA 2 0 (58, .iaload, 1, 33, 0, [], []) rfl rfl rfl ?_
        refine ⟨rfl, (bIxP (x := l3) (n := 6) h_l3 (((h.1 c1).2 c2).2 c5).1), ?_⟩
        refine bEqL (x := l3) h_l3 ?_
        refine bGo hA 2 1 (59, .iconst (3), 1, 34, 0, [], [(3, 0)]) rfl rfl rfl ?_
        refine bEqI bl_3 ?_
        refine bGo hA 2 2 (60, .if_icmp .ne (23), 3, 35, 46, [], []) rfl rfl rfl ?_
        refine bB_eq (x := (bi σ 65 l3)) (y := 3) (bi_rg _ _ _) (by decide : bRg 3) (fun c8 => ?_) (fun c8 => ?_)
        · refine bGo hA 2 3 (63, .aload_n 0, 1, 36, 0, [0], []) rfl rfl rfl ?_
          refine bGo hA 2 4 (64, .getfield 44, 3, 37, 0, [12, 13, 3, 67, 1, 0], []) rfl rfl rfl ?_
          refine ⟨rfl, ?_⟩
          refine bGo hA 2 5 (67, .iload_n 3, 1, 38, 0, [3], []) rfl rfl rfl ?_
          refine bGo hA 2 6 (68, .iaload, 1, 39, 0, [], []) rfl rfl rfl ?_
          refine ⟨rfl, (bIxP (x := l3) (n := 6) h_l3 (((h.1 c1).2 c2).2 c5).1), ?_⟩
          refine bEqL (x := l3) h_l3 ?_
          refine bGo hA 2 7 (69, .bipush (6), 2, 40, 0, [], [(6, 0)]) rfl rfl rfl ?_
          refine bEqI bl_6 ?_
          refine bGo hA 2 8 (71, .if_icmp .ne (12), 3, 41, 46, [], []) rfl rfl rfl ?_
          refine bB_eq (x := (bi σ 67 l3)) (y := 6) (bi_rg _ _ _) (by decide : bRg 6) (fun c9 => ?_) (fun c9 => ?_)
          · refine bGo hA 2 9 (74, .aload_n 0, 1, 42, 0, [0], []) rfl rfl rfl ?_
            refine bGo hA 2 10 (75, .getfield 47, 3, 43, 0, [12, 14, 3, 68, 1, 0], []) rfl rfl rfl ?_
            refine ⟨rfl, ?_⟩
            refine bGo hA 2 11 (78, .iload_n 3, 1, 44, 0, [3], []) rfl rfl rfl ?_
            refine bGo hA 2 12 (79, .iaload, 1, 45, 0, [], []) rfl rfl rfl ?_
            refine ⟨rfl, (bIxP (x := l3) (n := 6) h_l3 (((h.1 c1).2 c2).2 c5).1), ?_⟩
            refine bEqL (x := l3) h_l3 ?_
            refine bGo hA 2 13 (80, .goto (4), 3, 46, 47, [], []) rfl rfl rfl ?_
            refine bGo hA 2 15 (84, .istore_n 3, 1, 48, 0, [3], []) rfl rfl rfl ?_
            refine bGo hA 3 0 (85, .iinc 4 (1), 3, 49, 0, [4], [(1, 0)]) rfl rfl rfl ?_
            refine bEqC (fun v => A (49, [.ref 12, v1, .int (bn l2), .int (bn (bi σ 68 l3)), .int v], [], σ)) ((congrArg (fun w => bn l4 + w) bl_1).trans (bn_add l4 1)) ?_
            refine bGo hA 3 1 (88, .goto (-53), 3, 50, 20, [], []) rfl rfl rfl ?_
            exact (((((h.1 c1).2 c2).2 c5).2.1 c8).1 c9).2
          · refine bGo hA 2 14 (83, .iconst (-1), 1, 47, 0, [], [(-1, 0)]) rfl rfl rfl ?_
            refine bEqI bl_m1 ?_
            refine bGo hA 2 15 (84, .istore_n 3, 1, 48, 0, [3], []) rfl rfl rfl ?_
            refine bGo hA 3 0 (85, .iinc 4 (1), 3, 49, 0, [4], [(1, 0)]) rfl rfl rfl ?_
            refine bEqC (fun v => A (49, [.ref 12, v1, .int (bn l2), .int (bn (-1)), .int v], [], σ)) ((congrArg (fun w => bn l4 + w) bl_1).trans (bn_add l4 1)) ?_
            refine bGo hA 3 1 (88, .goto (-53), 3, 50, 20, [], []) rfl rfl rfl ?_
            exact (((((h.1 c1).2 c2).2 c5).2.1 c8).2 c9).2
        · refine bGo hA 2 14 (83, .iconst (-1), 1, 47, 0, [], [(-1, 0)]) rfl rfl rfl ?_
          refine bEqI bl_m1 ?_
          refine bGo hA 2 15 (84, .istore_n 3, 1, 48, 0, [3], []) rfl rfl rfl ?_
          refine bGo hA 3 0 (85, .iinc 4 (1), 3, 49, 0, [4], [(1, 0)]) rfl rfl rfl ?_
          refine bEqC (fun v => A (49, [.ref 12, v1, .int (bn l2), .int (bn (-1)), .int v], [], σ)) ((congrArg (fun w => bn l4 + w) bl_1).trans (bn_add l4 1)) ?_
          refine bGo hA 3 1 (88, .goto (-53), 3, 50, 20, [], []) rfl rfl rfl ?_
          exact ((((h.1 c1).2 c2).2 c5).2.2 c8).2
  · refine bGo hA 3 2 (91, .iload_n 3, 1, 51, 0, [3], []) rfl rfl rfl ?_
    refine bGo hA 3 3 (92, .iconst (-1), 1, 52, 0, [], [(-1, 0)]) rfl rfl rfl ?_
    refine bEqI bl_m1 ?_
    refine bGo hA 3 4 (93, .if_icmp .eq (13), 3, 53, 59, [], []) rfl rfl rfl ?_
    refine bB_eq (x := l3) (y := (-1)) h_l3 (by decide : bRg (-1)) (fun c10 => ?_) (fun c10 => ?_)
    · refine bGo hA 3 11 (106, .iconst (-1), 1, 60, 0, [], [(-1, 0)]) rfl rfl rfl ?_
      refine bEqI bl_m1 ?_
      refine bGo hA 3 12 (107, .goto (25), 3, 61, 76, [], []) rfl rfl rfl ?_
      refine bGo hA 4 12 (132, .ireturn, 1, 0, 0, [1], []) rfl rfl rfl ?_
      exact ((h.2 c1).1 c10)
    · refine bGo hA 3 5 (96, .aload_n 0, 1, 54, 0, [0], []) rfl rfl rfl ?_
      refine bGo hA 3 6 (97, .getfield 38, 3, 55, 0, [12, 11, 3, 65, 1, 0], []) rfl rfl rfl ?_
      refine ⟨rfl, ?_⟩
      refine bGo hA 3 7 (100, .iload_n 3, 1, 56, 0, [3], []) rfl rfl rfl ?_
      refine bGo hA 3 8 (101, .iaload, 1, 57, 0, [], []) rfl rfl rfl ?_
      refine ⟨rfl, (bIxP (x := l3) (n := 6) h_l3 ((h.2 c1).2 c10).1), ?_⟩
      refine bEqL (x := l3) h_l3 ?_
      refine bGo hA 3 9 (102, .iconst (3), 1, 58, 0, [], [(3, 0)]) rfl rfl rfl ?_
      refine bEqI bl_3 ?_
      refine bGo hA 3 10 (103, .if_icmp .eq (7), 3, 59, 61, [], []) rfl rfl rfl ?_
      refine bB_eq (x := (bi σ 65 l3)) (y := 3) (bi_rg _ _ _) (by decide : bRg 3) (fun c11 => ?_) (fun c11 => ?_)
      · refine bGo hA 3 13 (110, .sipush (1000), 3, 62, 0, [], [(1000, 0)]) rfl rfl rfl ?_
        refine bEqI bl_1000 ?_
        refine bGo hA 3 14 (113, .iload_n 3, 1, 63, 0, [3], []) rfl rfl rfl ?_
        refine bGo hA 3 15 (114, .imul, 1, 64, 0, [], []) rfl rfl rfl ?_
        refine bEqI (bn_mul 1000 l3) ?_
        refine bGo hA 4 0 (115, .bipush (10), 2, 65, 0, [], [(10, 0)]) rfl rfl rfl ?_
        refine bEqI bl_10 ?_
        refine bGo hA 4 1 (117, .aload_n 0, 1, 66, 0, [0], []) rfl rfl rfl ?_
        refine bGo hA 4 2 (118, .getfield 41, 3, 67, 0, [12, 12, 3, 66, 1, 0], []) rfl rfl rfl ?_
        refine ⟨rfl, ?_⟩
        refine bGo hA 4 3 (121, .iload_n 3, 1, 68, 0, [3], []) rfl rfl rfl ?_
        refine bGo hA 4 4 (122, .iaload, 1, 69, 0, [], []) rfl rfl rfl ?_
        refine ⟨rfl, (bIxP (x := l3) (n := 6) h_l3 ((h.2 c1).2 c10).1), ?_⟩
        refine bEqL (x := l3) h_l3 ?_
        refine bGo hA 4 5 (123, .imul, 1, 70, 0, [], []) rfl rfl rfl ?_
        refine bEqI (bn_mul 10 (bi σ 66 l3)) ?_
        refine bGo hA 4 6 (124, .iadd, 1, 71, 0, [], []) rfl rfl rfl ?_
        refine bEqI (bn_add (1000 * l3) (10 * (bi σ 66 l3))) ?_
        refine bGo hA 4 7 (125, .aload_n 0, 1, 72, 0, [0], []) rfl rfl rfl ?_
        refine bGo hA 4 8 (126, .getfield 44, 3, 73, 0, [12, 13, 3, 67, 1, 0], []) rfl rfl rfl ?_
        refine ⟨rfl, ?_⟩
        refine bGo hA 4 9 (129, .iload_n 3, 1, 74, 0, [3], []) rfl rfl rfl ?_
        refine bGo hA 4 10 (130, .iaload, 1, 75, 0, [], []) rfl rfl rfl ?_
        refine ⟨rfl, (bIxP (x := l3) (n := 6) h_l3 ((h.2 c1).2 c10).1), ?_⟩
        refine bEqL (x := l3) h_l3 ?_
        refine bGo hA 4 11 (131, .iadd, 1, 76, 0, [], []) rfl rfl rfl ?_
        refine bEqI (bn_add ((1000 * l3) + (10 * (bi σ 66 l3))) (bi σ 67 l3)) ?_
        refine bGo hA 4 12 (132, .ireturn, 1, 0, 0, [1], []) rfl rfl rfl ?_
        exact (((h.2 c1).2 c10).2.1 c11).2.2.2.2
      · refine bGo hA 3 11 (106, .iconst (-1), 1, 60, 0, [], [(-1, 0)]) rfl rfl rfl ?_
        refine bEqI bl_m1 ?_
        refine bGo hA 3 12 (107, .goto (25), 3, 61, 76, [], []) rfl rfl rfl ?_
        refine bGo hA 4 12 (132, .ireturn, 1, 0, 0, [1], []) rfl rfl rfl ?_
        exact (((h.2 c1).2 c10).2.2 c11)


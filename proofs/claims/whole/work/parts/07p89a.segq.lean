/-! segments of methods 122,123,124,125,126,127,192,193,194,309,310,311,312,313, by program (wip/whole/gen13.py): from a cut of a method on to the next cuts -/
theorem sq122_0 {lvl : Nat} {C : bCall} {Q : bPost} {A : bPt → Prop} (hC : bMono C) (hA : bClosed lvl bm122 C Q A) {x1 : Int} {σ : bSt}  (h_x1 : bRg x1)
  (h : (C 120 [.ref 9, .int (bn x1)] σ (bRa (fun r3 s1 => A (8, [.ref 9, .int (bn x1), .ref r3, .int (bn 0), .int (bn 0), .float 0], [], s1))))) : A (0, [.ref 9, .int (bn x1), .float 0, .float 0, .float 0, .float 0], [], σ) := by
  refine bGo hA 0 0 (0, .aload_n 0, 1, 1, 0, [0], []) rfl rfl rfl ?_
  refine bGo hA 0 1 (1, .iload_n 1, 1, 2, 0, [1], []) rfl rfl rfl ?_
  refine bGo hA 0 2 (2, .invokevirtual 32, 3, 3, 0, [0, 9, 120, 1], []) rfl rfl rfl ?_
  refine ⟨rfl, ?_⟩
  refine hC _ _ _ _ _ (bRa_e (fun r3 s1 k2 => ?_)) h
  show A (3, [.ref 9, .int (bn x1), .float 0, .float 0, .float 0, .float 0], [.ref r3], s1)
  refine bGo hA 0 3 (5, .astore_n 2, 1, 4, 0, [2], []) rfl rfl rfl ?_
  refine bGo hA 0 4 (6, .iconst (0), 1, 5, 0, [], [(0, 0)]) rfl rfl rfl ?_
  refine bEqI bl_0 ?_
  refine bGo hA 0 5 (7, .istore_n 3, 1, 6, 0, [3], []) rfl rfl rfl ?_
  refine bGo hA 0 6 (8, .iconst (0), 1, 7, 0, [], [(0, 0)]) rfl rfl rfl ?_
  refine bEqI bl_0 ?_
  refine bGo hA 0 7 (9, .istore 4, 2, 8, 0, [4], []) rfl rfl rfl ?_
  exact k2

theorem sq122_8 {lvl : Nat} {C : bCall} {Q : bPost} {A : bPt → Prop} (hC : bMono C) (hA : bClosed lvl bm122 C Q A) {v0 : Value} {v1 : Value} {l2 : Nat} {l3 : Int} {l4 : Int} {v5 : Value} {σ : bSt}  (h_l3 : bRg l3) (h_l4 : bRg l4)
  (h : (l2 % 256 = 8 ∧ ((l4 < (bi σ l2 13) → (C 112 [.ref l2, .int (bn l4)] σ (bRn (fun r4 s2 => ((r4 < 100 → (bRg (l4 + 1) ∧ A (8, [v0, v1, .ref l2, .int (bn l3), .int (bn (l4 + 1)), .int (bn r4)], [], s2))) ∧ (¬ r4 < 100 → ((r4 < 1000 → (bRg (r4 - 100) ∧ (bRg (l4 + 1) ∧ A (8, [v0, v1, .ref l2, .int (bn (bOr l3 (bShl 1 (r4 - 100)))), .int (bn (l4 + 1)), .int (bn r4)], [], s2)))) ∧ (¬ r4 < 1000 → (bRg (l4 + 1) ∧ A (8, [v0, v1, .ref l2, .int (bn l3), .int (bn (l4 + 1)), .int (bn r4)], [], s2)))))))))) ∧ (¬ l4 < (bi σ l2 13) → Q (.inl (some (.int (bn l3)))) σ)))) : A (8, [v0, v1, .ref l2, .int (bn l3), .int (bn l4), v5], [], σ) := by
  refine bGo hA 0 8 (11, .iload 4, 2, 9, 0, [4], []) rfl rfl rfl ?_
  refine bGo hA 0 9 (13, .aload_n 2, 1, 10, 0, [2], []) rfl rfl rfl ?_
  refine bGo hA 0 10 (14, .getfield 36, 3, 11, 0, [8, 13, 0, 0, 0, 0], []) rfl rfl rfl ?_
  refine ⟨h.1, ?_⟩
  refine bEqI (bn_bi σ l2 13) ?_
  refine bGo hA 0 11 (17, .if_icmp .ge (42), 3, 12, 32, [], []) rfl rfl rfl ?_
  refine bB_lt (x := l4) (y := (bi σ l2 13)) h_l4 (bi_rg _ _ _) (fun c1 => ?_) (fun c1 => ?_)
  · refine bGo hA 0 12 (20, .aload_n 2, 1, 13, 0, [2], []) rfl rfl rfl ?_
    refine bGo hA 0 13 (21, .iload 4, 2, 14, 0, [4], []) rfl rfl rfl ?_
    refine bGo hA 0 14 (23, .invokevirtual 39, 3, 15, 0, [0, 8, 112, 1], []) rfl rfl rfl ?_
    refine ⟨h.1, ?_⟩
    refine hC _ _ _ _ _ (bRn_e (fun r4 s2 q5 k3 => ?_)) (h.2.1 c1)
    show A (15, [v0, v1, .ref l2, .int (bn l3), .int (bn l4), v5], [.int (bn r4)], s2)
    refine bGo hA 0 15 (26, .istore 5, 2, 16, 0, [5], []) rfl rfl rfl ?_
    refine bGo hA 1 0 (28, .iload 5, 2, 17, 0, [5], []) rfl rfl rfl ?_
    refine bGo hA 1 1 (30, .bipush (100), 2, 18, 0, [], [(100, 0)]) rfl rfl rfl ?_
    refine bEqI bl_100 ?_
    refine bGo hA 1 2 (32, .if_icmp .lt (21), 3, 19, 30, [], []) rfl rfl rfl ?_
    refine bB_lt (x := r4) (y := 100) q5 (by decide : bRg 100) (fun c6 => ?_) (fun c6 => ?_)
    · refine bGo hA 1 14 (53, .iinc 4 (1), 3, 31, 0, [4], [(1, 0)]) rfl rfl rfl ?_
      refine bEqC (fun v => A (31, [v0, v1, .ref l2, .int (bn l3), .int v, .int (bn r4)], [], s2)) ((congrArg (fun w => bn l4 + w) bl_1).trans (bn_add l4 1)) ?_
      refine bGo hA 1 15 (56, .goto (-45), 3, 32, 8, [], []) rfl rfl rfl ?_
      exact (k3.1 c6).2
    · refine bGo hA 1 3 (35, .iload 5, 2, 20, 0, [5], []) rfl rfl rfl ?_
      refine bGo hA 1 4 (37, .sipush (1000), 3, 21, 0, [], [(1000, 0)]) rfl rfl rfl ?_
      refine bEqI bl_1000 ?_
      refine bGo hA 1 5 (40, .if_icmp .ge (13), 3, 22, 30, [], []) rfl rfl rfl ?_
      refine bB_lt (x := r4) (y := 1000) q5 (by decide : bRg 1000) (fun c7 => ?_) (fun c7 => ?_)
      · refine bGo hA 1 6 (43, .iload_n 3, 1, 23, 0, [3], []) rfl rfl rfl ?_
        refine bGo hA 1 7 (44, .iconst (1), 1, 24, 0, [], [(1, 0)]) rfl rfl rfl ?_
        refine bEqI bl_1 ?_
        refine bGo hA 1 8 (45, .iload 5, 2, 25, 0, [5], []) rfl rfl rfl ?_
        refine bGo hA 1 9 (47, .bipush (100), 2, 26, 0, [], [(100, 0)]) rfl rfl rfl ?_
        refine bEqI bl_100 ?_
        refine bGo hA 1 10 (49, .isub, 1, 27, 0, [], []) rfl rfl rfl ?_
        refine bEqI (bn_sub r4 100) ?_
        refine bGo hA 1 11 (50, .ishl, 1, 28, 0, [], []) rfl rfl rfl ?_
        refine bEqI (bn_shl 1 (r4 - 100)) ?_
        refine bGo hA 1 12 (51, .ior, 1, 29, 0, [], []) rfl rfl rfl ?_
        refine bEqI (bn_or l3 (bShl 1 (r4 - 100))) ?_
        refine bGo hA 1 13 (52, .istore_n 3, 1, 30, 0, [3], []) rfl rfl rfl ?_
        refine bGo hA 1 14 (53, .iinc 4 (1), 3, 31, 0, [4], [(1, 0)]) rfl rfl rfl ?_
        refine bEqC (fun v => A (31, [v0, v1, .ref l2, .int (bn (bOr l3 (bShl 1 (r4 - 100)))), .int v, .int (bn r4)], [], s2)) ((congrArg (fun w => bn l4 + w) bl_1).trans (bn_add l4 1)) ?_
        refine bGo hA 1 15 (56, .goto (-45), 3, 32, 8, [], []) rfl rfl rfl ?_
        exact ((k3.2 c6).1 c7).2.2
      · refine bGo hA 1 14 (53, .iinc 4 (1), 3, 31, 0, [4], [(1, 0)]) rfl rfl rfl ?_
        refine bEqC (fun v => A (31, [v0, v1, .ref l2, .int (bn l3), .int v, .int (bn r4)], [], s2)) ((congrArg (fun w => bn l4 + w) bl_1).trans (bn_add l4 1)) ?_
        refine bGo hA 1 15 (56, .goto (-45), 3, 32, 8, [], []) rfl rfl rfl ?_
        exact ((k3.2 c6).2 c7).2
  · refine bGo hA 2 0 (59, .iload_n 3, 1, 33, 0, [3], []) rfl rfl rfl ?_
    refine bGo hA 2 1 (60, .ireturn, 1, 0, 0, [1], []) rfl rfl rfl ?_
    exact (h.2.2 c1)

theorem sq123_0 {lvl : Nat} {C : bCall} {Q : bPost} {A : bPt → Prop} (hC : bMono C) (hA : bClosed lvl bm123 C Q A) {x1 : Int} {σ : bSt}  (h_x1 : bRg x1)
  (h : A (6, [.ref 9, .int (bn x1), .int (bn (bShl 1 x1)), .int (bn x1)], [], σ)) : A (0, [.ref 9, .int (bn x1), .float 0, .float 0], [], σ) := by
  refine bGo hA 0 0 (0, .iconst (1), 1, 1, 0, [], [(1, 0)]) rfl rfl rfl ?_
  refine bEqI bl_1 ?_
  refine bGo hA 0 1 (1, .iload_n 1, 1, 2, 0, [1], []) rfl rfl rfl ?_
  refine bGo hA 0 2 (2, .ishl, 1, 3, 0, [], []) rfl rfl rfl ?_
  refine bEqI (bn_shl 1 x1) ?_
  refine bGo hA 0 3 (3, .istore_n 2, 1, 4, 0, [2], []) rfl rfl rfl ?_
  refine bGo hA 0 4 (4, .iload_n 1, 1, 5, 0, [1], []) rfl rfl rfl ?_
  refine bGo hA 0 5 (5, .istore_n 3, 1, 6, 0, [3], []) rfl rfl rfl ?_
  exact h

theorem sq123_6 {lvl : Nat} {C : bCall} {Q : bPost} {A : bPt → Prop} (hC : bMono C) (hA : bClosed lvl bm123 C Q A) {v1 : Value} {l2 : Int} {l3 : Int} {σ : bSt}  (h_l2 : bRg l2) (h_l3 : bRg l3)
  (h : ((l3 < 0 → Q (.inl (some (.int (bn l2)))) σ) ∧ (¬ l3 < 0 → (((bAnd (bShr l2 l3) 1) = 1 → (C 122 [.ref 9, .int (bn l3)] σ (bRn (fun r5 s3 => (bRg (l3 + (-1)) ∧ A (6, [.ref 9, (bUnl v1), .int (bn (bOr l2 r5)), .int (bn (l3 + (-1)))], [], s3)))))) ∧ (¬ (bAnd (bShr l2 l3) 1) = 1 → (bRg (l3 + (-1)) ∧ A (6, [.ref 9, v1, .int (bn l2), .int (bn (l3 + (-1)))], [], σ))))))) : A (6, [.ref 9, v1, .int (bn l2), .int (bn l3)], [], σ) := by
  refine bGo hA 0 6 (6, .iload_n 3, 1, 7, 0, [3], []) rfl rfl rfl ?_
  refine bGo hA 0 7 (7, .ifCond .lt (26), 3, 8, 23, [], []) rfl rfl rfl ?_
  refine bB_lt0 (x := l3) h_l3 (fun c1 => ?_) (fun c1 => ?_)
  · refine bGo hA 1 7 (33, .iload_n 2, 1, 24, 0, [2], []) rfl rfl rfl ?_
    refine bGo hA 1 8 (34, .ireturn, 1, 0, 0, [1], []) rfl rfl rfl ?_
    exact (h.1 c1)
  · refine bGo hA 0 8 (10, .iload_n 2, 1, 9, 0, [2], []) rfl rfl rfl ?_
    refine bGo hA 0 9 (11, .iload_n 3, 1, 10, 0, [3], []) rfl rfl rfl ?_
    refine bGo hA 0 10 (12, .ishr, 1, 11, 0, [], []) rfl rfl rfl ?_
    refine bEqI (bn_shr l2 l3) ?_
    refine bGo hA 0 11 (13, .iconst (1), 1, 12, 0, [], [(1, 0)]) rfl rfl rfl ?_
    refine bEqI bl_1 ?_
    refine bGo hA 0 12 (14, .iand, 1, 13, 0, [], []) rfl rfl rfl ?_
    refine bEqI (bn_and (bShr l2 l3) 1) ?_
    refine bGo hA 0 13 (15, .iconst (1), 1, 14, 0, [], [(1, 0)]) rfl rfl rfl ?_
    refine bEqI bl_1 ?_
    refine bGo hA 0 14 (16, .if_icmp .ne (11), 3, 15, 21, [], []) rfl rfl rfl ?_
    refine bB_eq (x := (bAnd (bShr l2 l3) 1)) (y := 1) (bRgI _) (by decide : bRg 1) (fun c2 => ?_) (fun c2 => ?_)
    · refine bGo hA 0 15 (19, .iload_n 2, 1, 16, 0, [2], []) rfl rfl rfl ?_
      refine bGo hA 1 0 (20, .aload_n 0, 1, 17, 0, [0], []) rfl rfl rfl ?_
      refine bGo hA 1 1 (21, .iload_n 3, 1, 18, 0, [3], []) rfl rfl rfl ?_
      refine bGo hA 1 2 (22, .invokevirtual 43, 3, 19, 0, [0, 9, 122, 1], []) rfl rfl rfl ?_
      refine ⟨rfl, ?_⟩
      refine hC _ _ _ _ _ (bRn_e (fun r5 s3 q6 k4 => ?_)) ((h.2 c1).1 c2)
      show A (19, [.ref 9, v1, .int (bn l2), .int (bn l3)], [.int (bn r5), .int (bn l2)], s3)
      refine bGo hA 1 3 (25, .ior, 1, 20, 0, [], []) rfl rfl rfl ?_
      refine bEqI (bn_or l2 r5) ?_
      refine bGo hA 1 4 (26, .istore_n 2, 1, 21, 0, [2], []) rfl rfl rfl ?_
      refine bGo hA 1 5 (27, .iinc 3 (-1), 3, 22, 0, [3], [(-1, 0)]) rfl rfl rfl ?_
      refine bEqC (fun v => A (22, [.ref 9, (bUnl v1), .int (bn (bOr l2 r5)), .int v], [], s3)) ((congrArg (fun w => bn l3 + w) bl_m1).trans (bn_add l3 (-1))) ?_
      refine bGo hA 1 6 (30, .goto (-24), 3, 23, 6, [], []) rfl rfl rfl ?_
      exact k4.2
    · refine bGo hA 1 5 (27, .iinc 3 (-1), 3, 22, 0, [3], [(-1, 0)]) rfl rfl rfl ?_
      refine bEqC (fun v => A (22, [.ref 9, v1, .int (bn l2), .int v], [], σ)) ((congrArg (fun w => bn l3 + w) bl_m1).trans (bn_add l3 (-1))) ?_
      refine bGo hA 1 6 (30, .goto (-24), 3, 23, 6, [], []) rfl rfl rfl ?_
      exact ((h.2 c1).2 c2).2

theorem sq124_0 {lvl : Nat} {C : bCall} {Q : bPost} {A : bPt → Prop} (hC : bMono C) (hA : bClosed lvl bm124 C Q A) {x1 : Int} {σ : bSt}  (h_x1 : bRg x1)
  (h : (bRg (x1 + 1) ∧ A (8, [.ref 9, .int (bn x1), .int (bn (bShl 1 x1)), .int (bn (x1 + 1))], [], σ))) : A (0, [.ref 9, .int (bn x1), .float 0, .float 0], [], σ) := by
  refine bGo hA 0 0 (0, .iconst (1), 1, 1, 0, [], [(1, 0)]) rfl rfl rfl ?_
  refine bEqI bl_1 ?_
  refine bGo hA 0 1 (1, .iload_n 1, 1, 2, 0, [1], []) rfl rfl rfl ?_
  refine bGo hA 0 2 (2, .ishl, 1, 3, 0, [], []) rfl rfl rfl ?_
  refine bEqI (bn_shl 1 x1) ?_
  refine bGo hA 0 3 (3, .istore_n 2, 1, 4, 0, [2], []) rfl rfl rfl ?_
  refine bGo hA 0 4 (4, .iload_n 1, 1, 5, 0, [1], []) rfl rfl rfl ?_
  refine bGo hA 0 5 (5, .iconst (1), 1, 6, 0, [], [(1, 0)]) rfl rfl rfl ?_
  refine bEqI bl_1 ?_
  refine bGo hA 0 6 (6, .iadd, 1, 7, 0, [], []) rfl rfl rfl ?_
  refine bEqI (bn_add x1 1) ?_
  refine bGo hA 0 7 (7, .istore_n 3, 1, 8, 0, [3], []) rfl rfl rfl ?_
  exact h.2

theorem sq124_8 {lvl : Nat} {C : bCall} {Q : bPost} {A : bPt → Prop} (hC : bMono C) (hA : bClosed lvl bm124 C Q A) {v1 : Value} {l2 : Int} {l3 : Int} {σ : bSt}  (h_l2 : bRg l2) (h_l3 : bRg l3)
  (h : ((l3 < (bi σ 9 0) → (C 122 [.ref 9, .int (bn l3)] σ (bRn (fun r4 s2 => (((bAnd r4 l2) = 0 → (bRg (l3 + 1) ∧ A (8, [.ref 9, v1, .int (bn l2), .int (bn (l3 + 1))], [], s2))) ∧ (¬ (bAnd r4 l2) = 0 → (bRg (l3 + 1) ∧ A (8, [.ref 9, (bUnl v1), .int (bn (bOr l2 (bShl 1 l3))), .int (bn (l3 + 1))], [], s2)))))))) ∧ (¬ l3 < (bi σ 9 0) → Q (.inl (some (.int (bn l2)))) σ))) : A (8, [.ref 9, v1, .int (bn l2), .int (bn l3)], [], σ) := by
  refine bGo hA 0 8 (8, .iload_n 3, 1, 9, 0, [3], []) rfl rfl rfl ?_
  refine bGo hA 0 9 (9, .aload_n 0, 1, 10, 0, [0], []) rfl rfl rfl ?_
  refine bGo hA 0 10 (10, .getfield 28, 3, 11, 0, [9, 0, 0, 0, 0, 0], []) rfl rfl rfl ?_
  refine ⟨rfl, ?_⟩
  refine bEqI (bn_bi σ 9 0) ?_
  refine bGo hA 0 11 (13, .if_icmp .ge (25), 3, 12, 26, [], []) rfl rfl rfl ?_
  refine bB_lt (x := l3) (y := (bi σ 9 0)) h_l3 (bi_rg _ _ _) (fun c1 => ?_) (fun c1 => ?_)
  · refine bGo hA 0 12 (16, .aload_n 0, 1, 13, 0, [0], []) rfl rfl rfl ?_
    refine bGo hA 0 13 (17, .iload_n 3, 1, 14, 0, [3], []) rfl rfl rfl ?_
    refine bGo hA 0 14 (18, .invokevirtual 43, 3, 15, 0, [0, 9, 122, 1], []) rfl rfl rfl ?_
    refine ⟨rfl, ?_⟩
    refine hC _ _ _ _ _ (bRn_e (fun r4 s2 q5 k3 => ?_)) (h.1 c1)
    show A (15, [.ref 9, v1, .int (bn l2), .int (bn l3)], [.int (bn r4)], s2)
    refine bGo hA 0 15 (21, .iload_n 2, 1, 16, 0, [2], []) rfl rfl rfl ?_
    refine bGo hA 1 0 (22, .iand, 1, 17, 0, [], []) rfl rfl rfl ?_
    refine bEqI (bn_and r4 l2) ?_
    refine bGo hA 1 1 (23, .ifCond .eq (9), 3, 18, 24, [], []) rfl rfl rfl ?_
    refine bB_eq0 (x := (bAnd r4 l2)) (bRgI _) (fun c6 => ?_) (fun c6 => ?_)
    · refine bGo hA 1 8 (32, .iinc 3 (1), 3, 25, 0, [3], [(1, 0)]) rfl rfl rfl ?_
      refine bEqC (fun v => A (25, [.ref 9, v1, .int (bn l2), .int v], [], s2)) ((congrArg (fun w => bn l3 + w) bl_1).trans (bn_add l3 1)) ?_
      refine bGo hA 1 9 (35, .goto (-27), 3, 26, 8, [], []) rfl rfl rfl ?_
      exact (k3.1 c6).2
    · refine bGo hA 1 2 (26, .iload_n 2, 1, 19, 0, [2], []) rfl rfl rfl ?_
      refine bGo hA 1 3 (27, .iconst (1), 1, 20, 0, [], [(1, 0)]) rfl rfl rfl ?_
      refine bEqI bl_1 ?_
      refine bGo hA 1 4 (28, .iload_n 3, 1, 21, 0, [3], []) rfl rfl rfl ?_
      refine bGo hA 1 5 (29, .ishl, 1, 22, 0, [], []) rfl rfl rfl ?_
      refine bEqI (bn_shl 1 l3) ?_
      refine bGo hA 1 6 (30, .ior, 1, 23, 0, [], []) rfl rfl rfl ?_
      refine bEqI (bn_or l2 (bShl 1 l3)) ?_
      refine bGo hA 1 7 (31, .istore_n 2, 1, 24, 0, [2], []) rfl rfl rfl ?_
      refine bGo hA 1 8 (32, .iinc 3 (1), 3, 25, 0, [3], [(1, 0)]) rfl rfl rfl ?_
      refine bEqC (fun v => A (25, [.ref 9, (bUnl v1), .int (bn (bOr l2 (bShl 1 l3))), .int v], [], s2)) ((congrArg (fun w => bn l3 + w) bl_1).trans (bn_add l3 1)) ?_
      refine bGo hA 1 9 (35, .goto (-27), 3, 26, 8, [], []) rfl rfl rfl ?_
      exact (k3.2 c6).2
  · refine bGo hA 1 10 (38, .iload_n 2, 1, 27, 0, [2], []) rfl rfl rfl ?_
    refine bGo hA 1 11 (39, .ireturn, 1, 0, 0, [1], []) rfl rfl rfl ?_
    exact (h.2 c1)

theorem sq125_0 {lvl : Nat} {C : bCall} {Q : bPost} {A : bPt → Prop} (hC : bMono C) (hA : bClosed lvl bm125 C Q A) {x1 : Int} {x2 : Int} {x3 : Int} {σ : bSt}  (h_x1 : bRg x1) (h_x2 : bRg x2) (h_x3 : bRg x3)
  (h : (C 126 [.ref 9, .int (bn x2)] σ (bRv (fun s1 => (C 140 [.ref 51, .int (bn x1)] s1 (bRn (fun r5 s3 => ((r5 = (-1) → Q (.inl (some (.int (bn (-1))))) s3) ∧ (¬ r5 = (-1) → ((r5 < x3 → Q (.inl (some (.int (bn (-1))))) s3) ∧ (¬ r5 < x3 → A (20, [.ref 9, .int (bn x1), .int (bn x2), .int (bn x3), .int (bn r5), .int (bn x1), .int (bn 0)], [], s3)))))))))))) : A (0, [.ref 9, .int (bn x1), .int (bn x2), .int (bn x3), .float 0, .float 0, .float 0], [], σ) := by
  refine bGo hA 0 0 (0, .aload_n 0, 1, 1, 0, [0], []) rfl rfl rfl ?_
  refine bGo hA 0 1 (1, .iload_n 2, 1, 2, 0, [2], []) rfl rfl rfl ?_
  refine bGo hA 0 2 (2, .invokevirtual 46, 3, 3, 0, [0, 9, 126, 1], []) rfl rfl rfl ?_
  refine ⟨rfl, ?_⟩
  refine hC _ _ _ _ _ (bRv_e (fun s1 k2 => ?_)) h
  show A (3, [.ref 9, .int (bn x1), .int (bn x2), .int (bn x3), .float 0, .float 0, .float 0], [], s1)
  refine bGo hA 0 3 (5, .aload_n 0, 1, 4, 0, [0], []) rfl rfl rfl ?_
  refine bGo hA 0 4 (6, .getfield 24, 3, 5, 0, [9, 3, 3, 51, 1, 0], []) rfl rfl rfl ?_
  refine ⟨rfl, ?_⟩
  refine bGo hA 0 5 (9, .iload_n 1, 1, 6, 0, [1], []) rfl rfl rfl ?_
  refine bGo hA 0 6 (10, .invokestatic 50, 3, 7, 1, [2, 140, 2], []) rfl rfl rfl ?_
  refine hC _ _ _ _ _ (bRn_e (fun r5 s3 q6 k4 => ?_)) k2
  show A (7, [.ref 9, .int (bn x1), .int (bn x2), .int (bn x3), .float 0, .float 0, .float 0], [.int (bn r5)], s3)
  refine bGo hA 0 7 (13, .istore 4, 2, 8, 0, [4], []) rfl rfl rfl ?_
  refine bGo hA 0 8 (15, .iload 4, 2, 9, 0, [4], []) rfl rfl rfl ?_
  refine bGo hA 0 9 (17, .iconst (-1), 1, 10, 0, [], [(-1, 0)]) rfl rfl rfl ?_
  refine bEqI bl_m1 ?_
  refine bGo hA 0 10 (18, .if_icmp .eq (9), 3, 11, 14, [], []) rfl rfl rfl ?_
  refine bB_eq (x := r5) (y := (-1)) q6 (by decide : bRg (-1)) (fun c7 => ?_) (fun c7 => ?_)
  · refine bGo hA 0 14 (27, .iconst (-1), 1, 15, 0, [], [(-1, 0)]) rfl rfl rfl ?_
    refine bEqI bl_m1 ?_
    refine bGo hA 0 15 (28, .ireturn, 1, 16, 0, [1], []) rfl rfl rfl ?_
    exact (k4.1 c7)
  · refine bGo hA 0 11 (21, .iload_n 3, 1, 12, 0, [3], []) rfl rfl rfl ?_
    refine bGo hA 0 12 (22, .iload 4, 2, 13, 0, [4], []) rfl rfl rfl ?_
    refine bGo hA 0 13 (24, .if_icmp .le (5), 3, 14, 16, [], []) rfl rfl rfl ?_
    refine bB_lt (x := r5) (y := x3) q6 h_x3 (fun c8 => ?_) (fun c8 => ?_)
    · refine bGo hA 0 14 (27, .iconst (-1), 1, 15, 0, [], [(-1, 0)]) rfl rfl rfl ?_
      refine bEqI bl_m1 ?_
      refine bGo hA 0 15 (28, .ireturn, 1, 16, 0, [1], []) rfl rfl rfl ?_
      exact ((k4.2 c7).1 c8)
    · refine bGo hA 1 0 (29, .iload_n 1, 1, 17, 0, [1], []) rfl rfl rfl ?_
      refine bGo hA 1 1 (30, .istore 5, 2, 18, 0, [5], []) rfl rfl rfl ?_
      refine bGo hA 1 2 (32, .iconst (0), 1, 19, 0, [], [(0, 0)]) rfl rfl rfl ?_
      refine bEqI bl_0 ?_
      refine bGo hA 1 3 (33, .istore 6, 2, 20, 0, [6], []) rfl rfl rfl ?_
      exact ((k4.2 c7).2 c8)

theorem sq125_20 {lvl : Nat} {C : bCall} {Q : bPost} {A : bPt → Prop} (hC : bMono C) (hA : bClosed lvl bm125 C Q A) {v1 : Value} {v2 : Value} {l3 : Int} {l4 : Int} {l5 : Int} {l6 : Int} {σ : bSt}  (h_l3 : bRg l3) (h_l4 : bRg l4) (h_l5 : bRg l5) (h_l6 : bRg l6)
  (h : ((l6 < l3 → (bRg (l4 - l6) ∧ (bRg ((l4 - l6) - 1) ∧ (C 122 [.ref 9, .int (bn l5)] σ (bRn (fun r4 s2 => (C 127 [.ref 9, .int (bn ((l4 - l6) - 1)), .int (bn r4)] s2 (bRn (fun r8 s6 => (bRg (l6 + 1) ∧ A (20, [.ref 9, v1, v2, .int (bn l3), .int (bn l4), .int (bn r8), .int (bn (l6 + 1))], [], s6))))))))))) ∧ (¬ l6 < l3 → Q (.inl (some (.int (bn l5)))) σ))) : A (20, [.ref 9, v1, v2, .int (bn l3), .int (bn l4), .int (bn l5), .int (bn l6)], [], σ) := by
  refine bGo hA 1 4 (35, .iload 6, 2, 21, 0, [6], []) rfl rfl rfl ?_
  refine bGo hA 1 5 (37, .iload_n 3, 1, 22, 0, [3], []) rfl rfl rfl ?_
  refine bGo hA 1 6 (38, .if_icmp .ge (28), 3, 23, 36, [], []) rfl rfl rfl ?_
  refine bB_lt (x := l6) (y := l3) h_l6 h_l3 (fun c1 => ?_) (fun c1 => ?_)
  · refine bGo hA 1 7 (41, .aload_n 0, 1, 24, 0, [0], []) rfl rfl rfl ?_
    refine bGo hA 1 8 (42, .iload 4, 2, 25, 0, [4], []) rfl rfl rfl ?_
    refine bGo hA 1 9 (44, .iload 6, 2, 26, 0, [6], []) rfl rfl rfl ?_
    refine bGo hA 1 10 (46, .isub, 1, 27, 0, [], []) rfl rfl rfl ?_
    refine bEqI (bn_sub l4 l6) ?_
    refine bGo hA 1 11 (47, .iconst (1), 1, 28, 0, [], [(1, 0)]) rfl rfl rfl ?_
    refine bEqI bl_1 ?_
    refine bGo hA 1 12 (48, .isub, 1, 29, 0, [], []) rfl rfl rfl ?_
    refine bEqI (bn_sub (l4 - l6) 1) ?_
    refine bGo hA 1 13 (49, .aload_n 0, 1, 30, 0, [0], []) rfl rfl rfl ?_
    refine bGo hA 1 14 (50, .iload 5, 2, 31, 0, [5], []) rfl rfl rfl ?_
    refine bGo hA 1 15 (52, .invokevirtual 43, 3, 32, 0, [0, 9, 122, 1], []) rfl rfl rfl ?_
    refine ⟨rfl, ?_⟩
    refine hC _ _ _ _ _ (bRn_e (fun r4 s2 q5 k3 => ?_)) (h.1 c1).2.2
    show A (32, [.ref 9, v1, v2, .int (bn l3), .int (bn l4), .int (bn l5), .int (bn l6)], [.int (bn r4), .int (bn ((l4 - l6) - 1)), .ref 9], s2)
    refine bGo hA 2 0 (55, .invokevirtual 54, 3, 33, 0, [0, 9, 127, 2], []) rfl rfl rfl ?_
    refine ⟨rfl, ?_⟩
    refine hC _ _ _ _ _ (bRn_e (fun r8 s6 q9 k7 => ?_)) k3
    show A (33, [.ref 9, v1, v2, .int (bn l3), .int (bn l4), .int (bn l5), .int (bn l6)], [.int (bn r8)], s6)
    refine bGo hA 2 1 (58, .istore 5, 2, 34, 0, [5], []) rfl rfl rfl ?_
    refine bGo hA 2 2 (60, .iinc 6 (1), 3, 35, 0, [6], [(1, 0)]) rfl rfl rfl ?_
    refine bEqC (fun v => A (35, [.ref 9, v1, v2, .int (bn l3), .int (bn l4), .int (bn r8), .int v], [], s6)) ((congrArg (fun w => bn l6 + w) bl_1).trans (bn_add l6 1)) ?_
    refine bGo hA 2 3 (63, .goto (-28), 3, 36, 20, [], []) rfl rfl rfl ?_
    exact k7.2
  · refine bGo hA 2 4 (66, .iload 5, 2, 37, 0, [5], []) rfl rfl rfl ?_
    refine bGo hA 2 5 (68, .ireturn, 1, 0, 0, [1], []) rfl rfl rfl ?_
    exact (h.2 c1)

theorem sq126_0 {lvl : Nat} {C : bCall} {Q : bPost} {A : bPt → Prop} (hC : bMono C) (hA : bClosed lvl bm126 C Q A) {x1 : Int} {σ : bSt}  (h_x1 : bRg x1)
  (h : (C 361 [.ref 51, .int (bn (-1))] σ (bRv (fun s1 => (C 141 [.ref 51, .int (bn x1), .int (bn 0)] s1 (bRv (fun s3 => (bRg (x1 + 1) ∧ A (13, [.ref 9, .int (bn x1), .int (bn (x1 + 1)), .float 0, .float 0, .float 0, .float 0], [], s3))))))))) : A (0, [.ref 9, .int (bn x1), .float 0, .float 0, .float 0, .float 0, .float 0], [], σ) := by
  refine bGo hA 0 0 (0, .aload_n 0, 1, 1, 0, [0], []) rfl rfl rfl ?_
  refine bGo hA 0 1 (1, .getfield 24, 3, 2, 0, [9, 3, 3, 51, 1, 0], []) rfl rfl rfl ?_
  refine ⟨rfl, ?_⟩
  refine bGo hA 0 2 (4, .iconst (-1), 1, 3, 0, [], [(-1, 0)]) rfl rfl rfl ?_
  refine bEqI bl_m1 ?_
  refine bGo hA 0 3 (5, .invokestatic 58, 3, 4, 0, [2, 361, 2], []) rfl rfl rfl ?_
  refine hC _ _ _ _ _ (bRv_e (fun s1 k2 => ?_)) h
  show A (4, [.ref 9, .int (bn x1), .float 0, .float 0, .float 0, .float 0, .float 0], [], s1)
  refine bGo hA 0 4 (8, .aload_n 0, 1, 5, 0, [0], []) rfl rfl rfl ?_
  refine bGo hA 0 5 (9, .getfield 24, 3, 6, 0, [9, 3, 3, 51, 1, 0], []) rfl rfl rfl ?_
  refine ⟨rfl, ?_⟩
  refine bGo hA 0 6 (12, .iload_n 1, 1, 7, 0, [1], []) rfl rfl rfl ?_
  refine bGo hA 0 7 (13, .iconst (0), 1, 8, 0, [], [(0, 0)]) rfl rfl rfl ?_
  refine bEqI bl_0 ?_
  refine bGo hA 0 8 (14, .invokestatic 64, 3, 9, 1, [2, 141, 3], []) rfl rfl rfl ?_
  refine hC _ _ _ _ _ (bRv_e (fun s3 k4 => ?_)) k2
  show A (9, [.ref 9, .int (bn x1), .float 0, .float 0, .float 0, .float 0, .float 0], [], s3)
  refine bGo hA 0 9 (17, .iload_n 1, 1, 10, 0, [1], []) rfl rfl rfl ?_
  refine bGo hA 0 10 (18, .iconst (1), 1, 11, 0, [], [(1, 0)]) rfl rfl rfl ?_
  refine bEqI bl_1 ?_
  refine bGo hA 0 11 (19, .iadd, 1, 12, 0, [], []) rfl rfl rfl ?_
  refine bEqI (bn_add x1 1) ?_
  refine bGo hA 0 12 (20, .istore_n 2, 1, 13, 0, [2], []) rfl rfl rfl ?_
  exact k4.2

theorem sq126_13 {lvl : Nat} {C : bCall} {Q : bPost} {A : bPt → Prop} (hC : bMono C) (hA : bClosed lvl bm126 C Q A) {l1 : Int} {l2 : Int} {v3 : Value} {v4 : Value} {v5 : Value} {v6 : Value} {σ : bSt}  (h_l1 : bRg l1) (h_l2 : bRg l2)
  (h : ((l2 < (bi σ 9 0) → (C 122 [.ref 9, .int (bn l2)] σ (bRn (fun r4 s2 => A (23, [.ref 9, .int (bn l1), .int (bn l2), .int (bn r4), .int (bn l1), v5, v6], [], s2))))) ∧ (¬ l2 < (bi σ 9 0) → Q (.inl none) σ))) : A (13, [.ref 9, .int (bn l1), .int (bn l2), v3, v4, v5, v6], [], σ) := by
  refine bGo hA 0 13 (21, .iload_n 2, 1, 14, 0, [2], []) rfl rfl rfl ?_
  refine bGo hA 0 14 (22, .aload_n 0, 1, 15, 0, [0], []) rfl rfl rfl ?_
  refine bGo hA 0 15 (23, .getfield 28, 3, 16, 0, [9, 0, 0, 0, 0, 0], []) rfl rfl rfl ?_
  refine ⟨rfl, ?_⟩
  refine bEqI (bn_bi σ 9 0) ?_
  refine bGo hA 1 0 (26, .if_icmp .ge (98), 3, 17, 67, [], []) rfl rfl rfl ?_
  refine bB_lt (x := l2) (y := (bi σ 9 0)) h_l2 (bi_rg _ _ _) (fun c1 => ?_) (fun c1 => ?_)
  · refine bGo hA 1 1 (29, .aload_n 0, 1, 18, 0, [0], []) rfl rfl rfl ?_
    refine bGo hA 1 2 (30, .iload_n 2, 1, 19, 0, [2], []) rfl rfl rfl ?_
    refine bGo hA 1 3 (31, .invokevirtual 43, 3, 20, 0, [0, 9, 122, 1], []) rfl rfl rfl ?_
    refine ⟨rfl, ?_⟩
    refine hC _ _ _ _ _ (bRn_e (fun r4 s2 q5 k3 => ?_)) (h.1 c1)
    show A (20, [.ref 9, .int (bn l1), .int (bn l2), v3, v4, v5, v6], [.int (bn r4)], s2)
    refine bGo hA 1 4 (34, .istore_n 3, 1, 21, 0, [3], []) rfl rfl rfl ?_
    refine bGo hA 1 5 (35, .iload_n 1, 1, 22, 0, [1], []) rfl rfl rfl ?_
    refine bGo hA 1 6 (36, .istore 4, 2, 23, 0, [4], []) rfl rfl rfl ?_
    exact k3
  · refine bGo hA 4 3 (124, .return_, 1, 0, 0, [0], []) rfl rfl rfl ?_
    exact (h.2 c1)

theorem sq126_23 {lvl : Nat} {C : bCall} {Q : bPost} {A : bPt → Prop} (hC : bMono C) (hA : bClosed lvl bm126 C Q A) {l1 : Int} {l2 : Int} {l3 : Int} {l4 : Int} {v5 : Value} {v6 : Value} {σ : bSt}  (h_l1 : bRg l1) (h_l2 : bRg l2) (h_l3 : bRg l3) (h_l4 : bRg l4)
  (h : ((l4 < l2 → (((bAnd (bShr l3 l4) 1) = 1 → (C 140 [.ref 51, .int (bn l4)] σ (bRn (fun r5 s3 => (C 140 [.ref 51, .int (bn l2)] s3 (bRn (fun r9 s7 => ((r5 = (-1) → (bRg (l4 + 1) ∧ A (23, [.ref 9, .int (bn l1), .int (bn l2), .int (bn l3), .int (bn (l4 + 1)), .int (bn r5), .int (bn r9)], [], s7))) ∧ (¬ r5 = (-1) → ((r9 = (-1) → (bRg (r5 + 1) ∧ (C 141 [.ref 51, .int (bn l2), .int (bn (r5 + 1))] s7 (bRv (fun s13 => (bRg (l4 + 1) ∧ A (23, [.ref 9, .int (bn l1), .int (bn l2), .int (bn l3), .int (bn (l4 + 1)), .int (bn r5), .int (bn r9)], [], s13))))))) ∧ (¬ r9 = (-1) → (bRg (r5 + 1) ∧ (((r5 + 1) < r9 → (C 141 [.ref 51, .int (bn l2), .int (bn (r5 + 1))] s7 (bRv (fun s16 => (bRg (l4 + 1) ∧ A (23, [.ref 9, .int (bn l1), .int (bn l2), .int (bn l3), .int (bn (l4 + 1)), .int (bn r5), .int (bn r9)], [], s16)))))) ∧ (¬ (r5 + 1) < r9 → (bRg (l4 + 1) ∧ A (23, [.ref 9, .int (bn l1), .int (bn l2), .int (bn l3), .int (bn (l4 + 1)), .int (bn r5), .int (bn r9)], [], s7)))))))))))))))) ∧ (¬ (bAnd (bShr l3 l4) 1) = 1 → (C 140 [.ref 51, .int (bn l2)] σ (bRn (fun r20 s18 => (bRg (l4 + 1) ∧ A (23, [.ref 9, .int (bn l1), .int (bn l2), .int (bn l3), .int (bn (l4 + 1)), .int (bn (-1)), .int (bn r20)], [], s18)))))))) ∧ (¬ l4 < l2 → (bRg (l2 + 1) ∧ A (13, [.ref 9, .int (bn l1), .int (bn (l2 + 1)), .int (bn l3), .int (bn l4), v5, v6], [], σ))))) : A (23, [.ref 9, .int (bn l1), .int (bn l2), .int (bn l3), .int (bn l4), v5, v6], [], σ) := by
  refine bGo hA 1 7 (38, .iload 4, 2, 24, 0, [4], []) rfl rfl rfl ?_
  refine bGo hA 1 8 (40, .iload_n 2, 1, 25, 0, [2], []) rfl rfl rfl ?_
  refine bGo hA 1 9 (41, .if_icmp .ge (77), 3, 26, 65, [], []) rfl rfl rfl ?_
  refine bB_lt (x := l4) (y := l2) h_l4 h_l2 (fun c1 => ?_) (fun c1 => ?_)
  · refine bGo hA 1 10 (44, .iload_n 3, 1, 27, 0, [3], []) rfl rfl rfl ?_
    refine bGo hA 1 11 (45, .iload 4, 2, 28, 0, [4], []) rfl rfl rfl ?_
    refine bGo hA 1 12 (47, .ishr, 1, 29, 0, [], []) rfl rfl rfl ?_
    refine bEqI (bn_shr l3 l4) ?_
    refine bGo hA 1 13 (48, .iconst (1), 1, 30, 0, [], [(1, 0)]) rfl rfl rfl ?_
    refine bEqI bl_1 ?_
    refine bGo hA 1 14 (49, .iand, 1, 31, 0, [], []) rfl rfl rfl ?_
    refine bEqI (bn_and (bShr l3 l4) 1) ?_
    refine bGo hA 1 15 (50, .iconst (1), 1, 32, 0, [], [(1, 0)]) rfl rfl rfl ?_
    refine bEqI bl_1 ?_
    refine bGo hA 2 0 (51, .if_icmp .ne (15), 3, 33, 38, [], []) rfl rfl rfl ?_
    refine bB_eq (x := (bAnd (bShr l3 l4) 1)) (y := 1) (bRgI _) (by decide : bRg 1) (fun c2 => ?_) (fun c2 => ?_)
    · refine bGo hA 2 1 (54, .aload_n 0, 1, 34, 0, [0], []) rfl rfl rfl ?_
      refine bGo hA 2 2 (55, .getfield 24, 3, 35, 0, [9, 3, 3, 51, 1, 0], []) rfl rfl rfl ?_
      refine ⟨rfl, ?_⟩
      refine bGo hA 2 3 (58, .iload 4, 2, 36, 0, [4], []) rfl rfl rfl ?_
      refine bGo hA 2 4 (60, .invokestatic 50, 3, 37, 1, [2, 140, 2], []) rfl rfl rfl ?_
      refine hC _ _ _ _ _ (bRn_e (fun r5 s3 q6 k4 => ?_)) ((h.1 c1).1 c2)
      show A (37, [.ref 9, .int (bn l1), .int (bn l2), .int (bn l3), .int (bn l4), v5, v6], [.int (bn r5)], s3)
      refine bGo hA 2 5 (63, .goto (4), 3, 38, 39, [], []) rfl rfl rfl ?_
      refine bGo hA 2 7 (67, .istore 5, 2, 40, 0, [5], []) rfl rfl rfl ?_
      refine bGo hA 2 8 (69, .aload_n 0, 1, 41, 0, [0], []) rfl rfl rfl ?_
      refine bGo hA 2 9 (70, .getfield 24, 3, 42, 0, [9, 3, 3, 51, 1, 0], []) rfl rfl rfl ?_
      refine ⟨rfl, ?_⟩
      refine bGo hA 2 10 (73, .iload_n 2, 1, 43, 0, [2], []) rfl rfl rfl ?_
      refine bGo hA 2 11 (74, .invokestatic 50, 3, 44, 1, [2, 140, 2], []) rfl rfl rfl ?_
      refine hC _ _ _ _ _ (bRn_e (fun r9 s7 q10 k8 => ?_)) k4
      show A (44, [.ref 9, .int (bn l1), .int (bn l2), .int (bn l3), .int (bn l4), .int (bn r5), v6], [.int (bn r9)], s7)
      refine bGo hA 2 12 (77, .istore 6, 2, 45, 0, [6], []) rfl rfl rfl ?_
      refine bGo hA 2 13 (79, .iload 5, 2, 46, 0, [5], []) rfl rfl rfl ?_
      refine bGo hA 2 14 (81, .iconst (-1), 1, 47, 0, [], [(-1, 0)]) rfl rfl rfl ?_
      refine bEqI bl_m1 ?_
      refine bGo hA 2 15 (82, .if_icmp .eq (30), 3, 48, 63, [], []) rfl rfl rfl ?_
      refine bB_eq (x := r5) (y := (-1)) q6 (by decide : bRg (-1)) (fun c11 => ?_) (fun c11 => ?_)
      · refine bGo hA 3 15 (112, .iinc 4 (1), 3, 64, 0, [4], [(1, 0)]) rfl rfl rfl ?_
        refine bEqC (fun v => A (64, [.ref 9, .int (bn l1), .int (bn l2), .int (bn l3), .int v, .int (bn r5), .int (bn r9)], [], s7)) ((congrArg (fun w => bn l4 + w) bl_1).trans (bn_add l4 1)) ?_
        refine bGo hA 4 0 (115, .goto (-77), 3, 65, 23, [], []) rfl rfl rfl ?_
        exact (k8.1 c11).2
      · refine bGo hA 3 0 (85, .iload 6, 2, 49, 0, [6], []) rfl rfl rfl ?_
        refine bGo hA 3 1 (87, .iconst (-1), 1, 50, 0, [], [(-1, 0)]) rfl rfl rfl ?_
        refine bEqI bl_m1 ?_
        refine bGo hA 3 2 (88, .if_icmp .eq (12), 3, 51, 56, [], []) rfl rfl rfl ?_
        refine bB_eq (x := r9) (y := (-1)) q10 (by decide : bRg (-1)) (fun c12 => ?_) (fun c12 => ?_)
        · refine bGo hA 3 8 (100, .aload_n 0, 1, 57, 0, [0], []) rfl rfl rfl ?_
          refine bGo hA 3 9 (101, .getfield 24, 3, 58, 0, [9, 3, 3, 51, 1, 0], []) rfl rfl rfl ?_
          refine ⟨rfl, ?_⟩
          refine bGo hA 3 10 (104, .iload_n 2, 1, 59, 0, [2], []) rfl rfl rfl ?_
          refine bGo hA 3 11 (105, .iload 5, 2, 60, 0, [5], []) rfl rfl rfl ?_
          refine bGo hA 3 12 (107, .iconst (1), 1, 61, 0, [], [(1, 0)]) rfl rfl rfl ?_
          refine bEqI bl_1 ?_
          refine bGo hA 3 13 (108, .iadd, 1, 62, 0, [], []) rfl rfl rfl ?_
          refine bEqI (bn_add r5 1) ?_
          refine bGo hA 3 14 (109, .invokestatic 64, 3, 63, 1, [2, 141, 3], []) rfl rfl rfl ?_
          refine hC _ _ _ _ _ (bRv_e (fun s13 k14 => ?_)) ((k8.2 c11).1 c12).2
          show A (63, [.ref 9, .int (bn l1), .int (bn l2), .int (bn l3), .int (bn l4), .int (bn r5), .int (bn r9)], [], s13)
          refine bGo hA 3 15 (112, .iinc 4 (1), 3, 64, 0, [4], [(1, 0)]) rfl rfl rfl ?_
          refine bEqC (fun v => A (64, [.ref 9, .int (bn l1), .int (bn l2), .int (bn l3), .int v, .int (bn r5), .int (bn r9)], [], s13)) ((congrArg (fun w => bn l4 + w) bl_1).trans (bn_add l4 1)) ?_
          refine bGo hA 4 0 (115, .goto (-77), 3, 65, 23, [], []) rfl rfl rfl ?_
          exact k14.2
        · refine bGo hA 3 3 (91, .iload 5, 2, 52, 0, [5], []) rfl rfl rfl ?_
          refine bGo hA 3 4 (93, .iconst (1), 1, 53, 0, [], [(1, 0)]) rfl rfl rfl ?_
          refine bEqI bl_1 ?_
          refine bGo hA 3 5 (94, .iadd, 1, 54, 0, [], []) rfl rfl rfl ?_
          refine bEqI (bn_add r5 1) ?_
          refine bGo hA 3 6 (95, .iload 6, 2, 55, 0, [6], []) rfl rfl rfl ?_
          refine bGo hA 3 7 (97, .if_icmp .ge (15), 3, 56, 63, [], []) rfl rfl rfl ?_
          refine bB_lt (x := (r5 + 1)) (y := r9) ((k8.2 c11).2 c12).1 q10 (fun c15 => ?_) (fun c15 => ?_)
          · refine bGo hA 3 8 (100, .aload_n 0, 1, 57, 0, [0], []) rfl rfl rfl ?_
            refine bGo hA 3 9 (101, .getfield 24, 3, 58, 0, [9, 3, 3, 51, 1, 0], []) rfl rfl rfl ?_
            refine ⟨rfl, ?_⟩
            refine bGo hA 3 10 (104, .iload_n 2, 1, 59, 0, [2], []) rfl rfl rfl ?_
            refine bGo hA 3 11 (105, .iload 5, 2, 60, 0, [5], []) rfl rfl rfl ?_
            refine bGo hA 3 12 (107, .iconst (1), 1, 61, 0, [], [(1, 0)]) rfl rfl rfl ?_
            refine bEqI bl_1 ?_
            refine bGo hA 3 13 (108, .iadd, 1, 62, 0, [], []) rfl rfl rfl ?_
            refine bEqI (bn_add r5 1) ?_
            refine bGo hA 3 14 (109, .invokestatic 64, 3, 63, 1, [2, 141, 3], []) rfl rfl rfl ?_
            refine hC _ _ _ _ _ (bRv_e (fun s16 k17 => ?_)) (((k8.2 c11).2 c12).2.1 c15)
            show A (63, [.ref 9, .int (bn l1), .int (bn l2), .int (bn l3), .int (bn l4), .int (bn r5), .int (bn r9)], [], s16)
            refine bGo hA 3 15 (112, .iinc 4 (1), 3, 64, 0, [4], [(1, 0)]) rfl rfl rfl ?_
            refine bEqC (fun v => A (64, [.ref 9, .int (bn l1), .int (bn l2), .int (bn l3), .int v, .int (bn r5), .int (bn r9)], [], s16)) ((congrArg (fun w => bn l4 + w) bl_1).trans (bn_add l4 1)) ?_
            refine bGo hA 4 0 (115, .goto (-77), 3, 65, 23, [], []) rfl rfl rfl ?_
            exact k17.2
          · refine bGo hA 3 15 (112, .iinc 4 (1), 3, 64, 0, [4], [(1, 0)]) rfl rfl rfl ?_
            refine bEqC (fun v => A (64, [.ref 9, .int (bn l1), .int (bn l2), .int (bn l3), .int v, .int (bn r5), .int (bn r9)], [], s7)) ((congrArg (fun w => bn l4 + w) bl_1).trans (bn_add l4 1)) ?_
            refine bGo hA 4 0 (115, .goto (-77), 3, 65, 23, [], []) rfl rfl rfl ?_
            exact (((k8.2 c11).2 c12).2.2 c15).2
    · refine bGo hA 2 6 (66, .iconst (-1), 1, 39, 0, [], [(-1, 0)]) rfl rfl rfl ?_
      refine bEqI bl_m1 ?_
      refine bGo hA 2 7 (67, .istore 5, 2, 40, 0, [5], []) rfl rfl rfl ?_
      refine bGo hA 2 8 (69, .aload_n 0, 1, 41, 0, [0], []) rfl rfl rfl ?_
      refine bGo hA 2 9 (70, .getfield 24, 3, 42, 0, [9, 3, 3, 51, 1, 0], []) rfl rfl rfl ?_
      refine ⟨rfl, ?_⟩
      refine bGo hA 2 10 (73, .iload_n 2, 1, 43, 0, [2], []) rfl rfl rfl ?_
      refine bGo hA 2 11 (74, .invokestatic 50, 3, 44, 1, [2, 140, 2], []) rfl rfl rfl ?_
      refine hC _ _ _ _ _ (bRn_e (fun r20 s18 q21 k19 => ?_)) ((h.1 c1).2 c2)
      show A (44, [.ref 9, .int (bn l1), .int (bn l2), .int (bn l3), .int (bn l4), .int (bn (-1)), v6], [.int (bn r20)], s18)
      refine bGo hA 2 12 (77, .istore 6, 2, 45, 0, [6], []) rfl rfl rfl ?_
      refine bGo hA 2 13 (79, .iload 5, 2, 46, 0, [5], []) rfl rfl rfl ?_
      refine bGo hA 2 14 (81, .iconst (-1), 1, 47, 0, [], [(-1, 0)]) rfl rfl rfl ?_
      refine bEqI bl_m1 ?_
      refine bGo hA 2 15 (82, .if_icmp .eq (30), 3, 48, 63, [], []) rfl rfl rfl ?_
      refine ⟨fun _ => ?_, fun c => absurd (by decide) c⟩
      refine bGo hA 3 15 (112, .iinc 4 (1), 3, 64, 0, [4], [(1, 0)]) rfl rfl rfl ?_
      refine bEqC (fun v => A (64, [.ref 9, .int (bn l1), .int (bn l2), .int (bn l3), .int v, .int (bn (-1)), .int (bn r20)], [], s18)) ((congrArg (fun w => bn l4 + w) bl_1).trans (bn_add l4 1)) ?_
      refine bGo hA 4 0 (115, .goto (-77), 3, 65, 23, [], []) rfl rfl rfl ?_
      exact k19.2
  · refine bGo hA 4 1 (118, .iinc 2 (1), 3, 66, 0, [2], [(1, 0)]) rfl rfl rfl ?_
    refine bEqC (fun v => A (66, [.ref 9, .int (bn l1), .int v, .int (bn l3), .int (bn l4), v5, v6], [], σ)) ((congrArg (fun w => bn l2 + w) bl_1).trans (bn_add l2 1)) ?_
    refine bGo hA 4 2 (121, .goto (-100), 3, 67, 13, [], []) rfl rfl rfl ?_
    exact (h.2 c1).2

theorem sq127_0 {lvl : Nat} {C : bCall} {Q : bPost} {A : bPt → Prop} (hC : bMono C) (hA : bClosed lvl bm127 C Q A) {x1 : Int} {x2 : Int} {σ : bSt}  (h_x1 : bRg x1) (h_x2 : bRg x2)
  (h : A (2, [.ref 9, .int (bn x1), .int (bn x2), .int (bn 0)], [], σ)) : A (0, [.ref 9, .int (bn x1), .int (bn x2), .float 0], [], σ) := by
  refine bGo hA 0 0 (0, .iconst (0), 1, 1, 0, [], [(0, 0)]) rfl rfl rfl ?_
  refine bEqI bl_0 ?_
  refine bGo hA 0 1 (1, .istore_n 3, 1, 2, 0, [3], []) rfl rfl rfl ?_
  exact h

theorem sq127_2 {lvl : Nat} {C : bCall} {Q : bPost} {A : bPt → Prop} (hC : bMono C) (hA : bClosed lvl bm127 C Q A) {l1 : Int} {l2 : Int} {l3 : Int} {σ : bSt}  (h_l1 : bRg l1) (h_l2 : bRg l2) (h_l3 : bRg l3)
  (h : ((l3 < (bi σ 9 0) → (((bAnd (bShr l2 l3) 1) = 1 → (C 140 [.ref 51, .int (bn l3)] σ (bRn (fun r5 s3 => ((r5 = l1 → Q (.inl (some (.int (bn l3)))) s3) ∧ (¬ r5 = l1 → (bRg (l3 + 1) ∧ A (2, [.ref 9, .int (bn l1), .int (bn l2), .int (bn (l3 + 1))], [], s3)))))))) ∧ (¬ (bAnd (bShr l2 l3) 1) = 1 → (bRg (l3 + 1) ∧ A (2, [.ref 9, .int (bn l1), .int (bn l2), .int (bn (l3 + 1))], [], σ))))) ∧ (¬ l3 < (bi σ 9 0) → Q (.inl (some (.int (bn (-1))))) σ))) : A (2, [.ref 9, .int (bn l1), .int (bn l2), .int (bn l3)], [], σ) := by
  refine bGo hA 0 2 (2, .iload_n 3, 1, 3, 0, [3], []) rfl rfl rfl ?_
  refine bGo hA 0 3 (3, .aload_n 0, 1, 4, 0, [0], []) rfl rfl rfl ?_
  refine bGo hA 0 4 (4, .getfield 28, 3, 5, 0, [9, 0, 0, 0, 0, 0], []) rfl rfl rfl ?_
  refine ⟨rfl, ?_⟩
  refine bEqI (bn_bi σ 9 0) ?_
  refine bGo hA 0 5 (7, .if_icmp .ge (32), 3, 6, 23, [], []) rfl rfl rfl ?_
  refine bB_lt (x := l3) (y := (bi σ 9 0)) h_l3 (bi_rg _ _ _) (fun c1 => ?_) (fun c1 => ?_)
  · refine bGo hA 0 6 (10, .iload_n 2, 1, 7, 0, [2], []) rfl rfl rfl ?_
    refine bGo hA 0 7 (11, .iload_n 3, 1, 8, 0, [3], []) rfl rfl rfl ?_
    refine bGo hA 0 8 (12, .ishr, 1, 9, 0, [], []) rfl rfl rfl ?_
    refine bEqI (bn_shr l2 l3) ?_
    refine bGo hA 0 9 (13, .iconst (1), 1, 10, 0, [], [(1, 0)]) rfl rfl rfl ?_
    refine bEqI bl_1 ?_
    refine bGo hA 0 10 (14, .iand, 1, 11, 0, [], []) rfl rfl rfl ?_
    refine bEqI (bn_and (bShr l2 l3) 1) ?_
    refine bGo hA 0 11 (15, .iconst (1), 1, 12, 0, [], [(1, 0)]) rfl rfl rfl ?_
    refine bEqI bl_1 ?_
    refine bGo hA 0 12 (16, .if_icmp .ne (17), 3, 13, 21, [], []) rfl rfl rfl ?_
    refine bB_eq (x := (bAnd (bShr l2 l3) 1)) (y := 1) (bRgI _) (by decide : bRg 1) (fun c2 => ?_) (fun c2 => ?_)
    · refine bGo hA 0 13 (19, .aload_n 0, 1, 14, 0, [0], []) rfl rfl rfl ?_
      refine bGo hA 0 14 (20, .getfield 24, 3, 15, 0, [9, 3, 3, 51, 1, 0], []) rfl rfl rfl ?_
      refine ⟨rfl, ?_⟩
      refine bGo hA 0 15 (23, .iload_n 3, 1, 16, 0, [3], []) rfl rfl rfl ?_
      refine bGo hA 1 0 (24, .invokestatic 50, 3, 17, 1, [2, 140, 2], []) rfl rfl rfl ?_
      refine hC _ _ _ _ _ (bRn_e (fun r5 s3 q6 k4 => ?_)) ((h.1 c1).1 c2)
      show A (17, [.ref 9, .int (bn l1), .int (bn l2), .int (bn l3)], [.int (bn r5)], s3)
      refine bGo hA 1 1 (27, .iload_n 1, 1, 18, 0, [1], []) rfl rfl rfl ?_
      refine bGo hA 1 2 (28, .if_icmp .ne (5), 3, 19, 21, [], []) rfl rfl rfl ?_
      refine bB_eq (x := r5) (y := l1) q6 h_l1 (fun c7 => ?_) (fun c7 => ?_)
      · refine bGo hA 1 3 (31, .iload_n 3, 1, 20, 0, [3], []) rfl rfl rfl ?_
        refine bGo hA 1 4 (32, .ireturn, 1, 21, 0, [1], []) rfl rfl rfl ?_
        exact (k4.1 c7)
      · refine bGo hA 1 5 (33, .iinc 3 (1), 3, 22, 0, [3], [(1, 0)]) rfl rfl rfl ?_
        refine bEqC (fun v => A (22, [.ref 9, .int (bn l1), .int (bn l2), .int v], [], s3)) ((congrArg (fun w => bn l3 + w) bl_1).trans (bn_add l3 1)) ?_
        refine bGo hA 1 6 (36, .goto (-34), 3, 23, 2, [], []) rfl rfl rfl ?_
        exact (k4.2 c7).2
    · refine bGo hA 1 5 (33, .iinc 3 (1), 3, 22, 0, [3], [(1, 0)]) rfl rfl rfl ?_
      refine bEqC (fun v => A (22, [.ref 9, .int (bn l1), .int (bn l2), .int v], [], σ)) ((congrArg (fun w => bn l3 + w) bl_1).trans (bn_add l3 1)) ?_
      refine bGo hA 1 6 (36, .goto (-34), 3, 23, 2, [], []) rfl rfl rfl ?_
      exact ((h.1 c1).2 c2).2
  · refine bGo hA 1 7 (39, .iconst (-1), 1, 24, 0, [], [(-1, 0)]) rfl rfl rfl ?_
    refine bEqI bl_m1 ?_
    refine bGo hA 1 8 (40, .ireturn, 1, 0, 0, [1], []) rfl rfl rfl ?_
    exact (h.2 c1)

theorem sq192_0 {lvl : Nat} {C : bCall} {Q : bPost} {A : bPt → Prop} (hC : bMono C) (hA : bClosed lvl bm192 C Q A) {x1 : Int} {x2 : Int} {x3 : Int} {σ : bSt}  (h_x1 : bRg x1) (h_x2 : bRg x2) (h_x3 : bRg x3)
  (h : (C 136 [.int (bn x1), .int (bn (bi σ 9 0))] σ (bRvx (fun s1 => (C 136 [.int (bn x2), .int (bn (bi s1 9 0))] s1 (bRvx (fun s3 => (C 137 [.int (bn x3)] s3 (bRvx (fun s5 => (C 125 [.ref 9, .int (bn x1), .int (bn x2), .int (bn x3)] s5 (bRn (fun r9 s7 => Q (.inl (some (.int (bn r9)))) s7)))) (fun E s5 => Q (.inr E) s5)))) (fun E s3 => Q (.inr E) s3)))) (fun E s1 => Q (.inr E) s1)))) : A (0, [.ref 11, .int (bn x1), .int (bn x2), .int (bn x3)], [], σ) := by
  refine bGo hA 0 0 (0, .iload_n 1, 1, 1, 0, [1], []) rfl rfl rfl ?_
  refine bGo hA 0 1 (1, .aload_n 0, 1, 2, 0, [0], []) rfl rfl rfl ?_
  refine bGo hA 0 2 (2, .getfield 33, 3, 3, 0, [11, 3, 3, 9, 0, 0], []) rfl rfl rfl ?_
  refine ⟨rfl, ?_⟩
  refine bGo hA 0 3 (5, .getfield 144, 3, 4, 0, [9, 0, 0, 0, 0, 0], []) rfl rfl rfl ?_
  refine ⟨rfl, ?_⟩
  refine bEqI (bn_bi σ 9 0) ?_
  refine bGo hA 0 4 (8, .invokestatic 76, 3, 5, 0, [2, 136, 2], []) rfl rfl rfl ?_
  refine hC _ _ _ _ _ (bRvx_e (fun s1 k2 => ?_) (fun E s1 k2 => ?_)) h
  · show A (5, [.ref 11, .int (bn x1), .int (bn x2), .int (bn x3)], [], s1)
    refine bGo hA 0 5 (11, .iload_n 2, 1, 6, 0, [2], []) rfl rfl rfl ?_
    refine bGo hA 0 6 (12, .aload_n 0, 1, 7, 0, [0], []) rfl rfl rfl ?_
    refine bGo hA 0 7 (13, .getfield 33, 3, 8, 0, [11, 3, 3, 9, 0, 0], []) rfl rfl rfl ?_
    refine ⟨rfl, ?_⟩
    refine bGo hA 0 8 (16, .getfield 144, 3, 9, 0, [9, 0, 0, 0, 0, 0], []) rfl rfl rfl ?_
    refine ⟨rfl, ?_⟩
    refine bEqI (bn_bi s1 9 0) ?_
    refine bGo hA 0 9 (19, .invokestatic 76, 3, 10, 0, [2, 136, 2], []) rfl rfl rfl ?_
    refine hC _ _ _ _ _ (bRvx_e (fun s3 k4 => ?_) (fun E s3 k4 => ?_)) k2
    · show A (10, [.ref 11, .int (bn x1), .int (bn x2), .int (bn x3)], [], s3)
      refine bGo hA 0 10 (22, .iload_n 3, 1, 11, 0, [3], []) rfl rfl rfl ?_
      refine bGo hA 0 11 (23, .invokestatic 121, 3, 12, 0, [2, 137, 1], []) rfl rfl rfl ?_
      refine hC _ _ _ _ _ (bRvx_e (fun s5 k6 => ?_) (fun E s5 k6 => ?_)) k4
      · show A (12, [.ref 11, .int (bn x1), .int (bn x2), .int (bn x3)], [], s5)
        refine bGo hA 0 12 (26, .aload_n 0, 1, 13, 0, [0], []) rfl rfl rfl ?_
        refine bGo hA 0 13 (27, .getfield 33, 3, 14, 0, [11, 3, 3, 9, 0, 0], []) rfl rfl rfl ?_
        refine ⟨rfl, ?_⟩
        refine bGo hA 0 14 (30, .iload_n 1, 1, 15, 0, [1], []) rfl rfl rfl ?_
        refine bGo hA 0 15 (31, .iload_n 2, 1, 16, 0, [2], []) rfl rfl rfl ?_
        refine bGo hA 1 0 (32, .iload_n 3, 1, 17, 0, [3], []) rfl rfl rfl ?_
        refine bGo hA 1 1 (33, .invokevirtual 312, 3, 18, 0, [0, 9, 125, 3], []) rfl rfl rfl ?_
        refine ⟨rfl, ?_⟩
        refine hC _ _ _ _ _ (bRn_e (fun r9 s7 q10 k8 => ?_)) k6
        show A (18, [.ref 11, .int (bn x1), .int (bn x2), .int (bn x3)], [.int (bn r9)], s7)
        refine bGo hA 1 2 (36, .ireturn, 1, 0, 0, [1], []) rfl rfl rfl ?_
        exact k8
      · exact k6
    · exact k4
  · exact k2

theorem sq193_0 {lvl : Nat} {C : bCall} {Q : bPost} {A : bPt → Prop} (hC : bMono C) (hA : bClosed lvl bm193 C Q A) {x1 : Int} {x2 : Int} {σ : bSt}  (h_x1 : bRg x1) (h_x2 : bRg x2)
  (h : (C 136 [.int (bn x1), .int (bn (bi σ 9 0))] σ (bRvx (fun s1 => (C 136 [.int (bn x2), .int (bn (bi s1 9 0))] s1 (bRvx (fun s3 => (C 123 [.ref 9, .int (bn x1)] s3 (bRn (fun r7 s5 => (((bAnd (bShr r7 x2) 1) = 0 → Q (.inl (some (.int (bn 0)))) s5) ∧ (¬ (bAnd (bShr r7 x2) 1) = 0 → (C 124 [.ref 9, .int (bn x2)] s5 (bRn (fun r12 s10 => Q (.inl (some (.int (bn (bAnd r7 r12))))) s10))))))))) (fun E s3 => Q (.inr E) s3)))) (fun E s1 => Q (.inr E) s1)))) : A (0, [.ref 11, .int (bn x1), .int (bn x2), .float 0], [], σ) := by
  refine bGo hA 0 0 (0, .iload_n 1, 1, 1, 0, [1], []) rfl rfl rfl ?_
  refine bGo hA 0 1 (1, .aload_n 0, 1, 2, 0, [0], []) rfl rfl rfl ?_
  refine bGo hA 0 2 (2, .getfield 33, 3, 3, 0, [11, 3, 3, 9, 0, 0], []) rfl rfl rfl ?_
  refine ⟨rfl, ?_⟩
  refine bGo hA 0 3 (5, .getfield 144, 3, 4, 0, [9, 0, 0, 0, 0, 0], []) rfl rfl rfl ?_
  refine ⟨rfl, ?_⟩
  refine bEqI (bn_bi σ 9 0) ?_
  refine bGo hA 0 4 (8, .invokestatic 76, 3, 5, 0, [2, 136, 2], []) rfl rfl rfl ?_
  refine hC _ _ _ _ _ (bRvx_e (fun s1 k2 => ?_) (fun E s1 k2 => ?_)) h
  · show A (5, [.ref 11, .int (bn x1), .int (bn x2), .float 0], [], s1)
    refine bGo hA 0 5 (11, .iload_n 2, 1, 6, 0, [2], []) rfl rfl rfl ?_
    refine bGo hA 0 6 (12, .aload_n 0, 1, 7, 0, [0], []) rfl rfl rfl ?_
    refine bGo hA 0 7 (13, .getfield 33, 3, 8, 0, [11, 3, 3, 9, 0, 0], []) rfl rfl rfl ?_
    refine ⟨rfl, ?_⟩
    refine bGo hA 0 8 (16, .getfield 144, 3, 9, 0, [9, 0, 0, 0, 0, 0], []) rfl rfl rfl ?_
    refine ⟨rfl, ?_⟩
    refine bEqI (bn_bi s1 9 0) ?_
    refine bGo hA 0 9 (19, .invokestatic 76, 3, 10, 0, [2, 136, 2], []) rfl rfl rfl ?_
    refine hC _ _ _ _ _ (bRvx_e (fun s3 k4 => ?_) (fun E s3 k4 => ?_)) k2
    · show A (10, [.ref 11, .int (bn x1), .int (bn x2), .float 0], [], s3)
      refine bGo hA 0 10 (22, .aload_n 0, 1, 11, 0, [0], []) rfl rfl rfl ?_
      refine bGo hA 0 11 (23, .getfield 33, 3, 12, 0, [11, 3, 3, 9, 0, 0], []) rfl rfl rfl ?_
      refine ⟨rfl, ?_⟩
      refine bGo hA 0 12 (26, .iload_n 1, 1, 13, 0, [1], []) rfl rfl rfl ?_
      refine bGo hA 0 13 (27, .invokevirtual 315, 3, 14, 0, [0, 9, 123, 1], []) rfl rfl rfl ?_
      refine ⟨rfl, ?_⟩
      refine hC _ _ _ _ _ (bRn_e (fun r7 s5 q8 k6 => ?_)) k4
      show A (14, [.ref 11, .int (bn x1), .int (bn x2), .float 0], [.int (bn r7)], s5)
      refine bGo hA 0 14 (30, .istore_n 3, 1, 15, 0, [3], []) rfl rfl rfl ?_
      refine bGo hA 0 15 (31, .iload_n 3, 1, 16, 0, [3], []) rfl rfl rfl ?_
      refine bGo hA 1 0 (32, .iload_n 2, 1, 17, 0, [2], []) rfl rfl rfl ?_
      refine bGo hA 1 1 (33, .ishr, 1, 18, 0, [], []) rfl rfl rfl ?_
      refine bEqI (bn_shr r7 x2) ?_
      refine bGo hA 1 2 (34, .iconst (1), 1, 19, 0, [], [(1, 0)]) rfl rfl rfl ?_
      refine bEqI bl_1 ?_
      refine bGo hA 1 3 (35, .iand, 1, 20, 0, [], []) rfl rfl rfl ?_
      refine bEqI (bn_and (bShr r7 x2) 1) ?_
      refine bGo hA 1 4 (36, .ifCond .ne (7), 3, 21, 23, [], []) rfl rfl rfl ?_
      refine bB_eq0 (x := (bAnd (bShr r7 x2) 1)) (bRgI _) (fun c9 => ?_) (fun c9 => ?_)
      · refine bGo hA 1 5 (39, .iconst (0), 1, 22, 0, [], [(0, 0)]) rfl rfl rfl ?_
        refine bEqI bl_0 ?_
        refine bGo hA 1 6 (40, .goto (13), 3, 23, 29, [], []) rfl rfl rfl ?_
        refine bGo hA 1 13 (53, .ireturn, 1, 0, 0, [1], []) rfl rfl rfl ?_
        exact (k6.1 c9)
      · refine bGo hA 1 7 (43, .iload_n 3, 1, 24, 0, [3], []) rfl rfl rfl ?_
        refine bGo hA 1 8 (44, .aload_n 0, 1, 25, 0, [0], []) rfl rfl rfl ?_
        refine bGo hA 1 9 (45, .getfield 33, 3, 26, 0, [11, 3, 3, 9, 0, 0], []) rfl rfl rfl ?_
        refine ⟨rfl, ?_⟩
        refine bGo hA 1 10 (48, .iload_n 2, 1, 27, 0, [2], []) rfl rfl rfl ?_
        refine bGo hA 1 11 (49, .invokevirtual 318, 3, 28, 0, [0, 9, 124, 1], []) rfl rfl rfl ?_
        refine ⟨rfl, ?_⟩
        refine hC _ _ _ _ _ (bRn_e (fun r12 s10 q13 k11 => ?_)) (k6.2 c9)
        show A (28, [.ref 11, .int (bn x1), .int (bn x2), .int (bn r7)], [.int (bn r12), .int (bn r7)], s10)
        refine bGo hA 1 12 (52, .iand, 1, 29, 0, [], []) rfl rfl rfl ?_
        refine bEqI (bn_and r7 r12) ?_
        refine bGo hA 1 13 (53, .ireturn, 1, 0, 0, [1], []) rfl rfl rfl ?_
        exact k11
    · exact k4
  · exact k2

theorem sq194_0 {lvl : Nat} {C : bCall} {Q : bPost} {A : bPt → Prop} (hC : bMono C) (hA : bClosed lvl bm194 C Q A) {x1 : Int} {σ : bSt}  (h_x1 : bRg x1)
  (h : (C 136 [.int (bn x1), .int (bn (bi σ 9 0))] σ (bRvx (fun s1 => (C 124 [.ref 9, .int (bn x1)] s1 (bRn (fun r5 s3 => Q (.inl (some (.int (bn r5)))) s3)))) (fun E s1 => Q (.inr E) s1)))) : A (0, [.ref 11, .int (bn x1)], [], σ) := by
  refine bGo hA 0 0 (0, .iload_n 1, 1, 1, 0, [1], []) rfl rfl rfl ?_
  refine bGo hA 0 1 (1, .aload_n 0, 1, 2, 0, [0], []) rfl rfl rfl ?_
  refine bGo hA 0 2 (2, .getfield 33, 3, 3, 0, [11, 3, 3, 9, 0, 0], []) rfl rfl rfl ?_
  refine ⟨rfl, ?_⟩
  refine bGo hA 0 3 (5, .getfield 144, 3, 4, 0, [9, 0, 0, 0, 0, 0], []) rfl rfl rfl ?_
  refine ⟨rfl, ?_⟩
  refine bEqI (bn_bi σ 9 0) ?_
  refine bGo hA 0 4 (8, .invokestatic 76, 3, 5, 0, [2, 136, 2], []) rfl rfl rfl ?_
  refine hC _ _ _ _ _ (bRvx_e (fun s1 k2 => ?_) (fun E s1 k2 => ?_)) h
  · show A (5, [.ref 11, .int (bn x1)], [], s1)
    refine bGo hA 0 5 (11, .aload_n 0, 1, 6, 0, [0], []) rfl rfl rfl ?_
    refine bGo hA 0 6 (12, .getfield 33, 3, 7, 0, [11, 3, 3, 9, 0, 0], []) rfl rfl rfl ?_
    refine ⟨rfl, ?_⟩
    refine bGo hA 0 7 (15, .iload_n 1, 1, 8, 0, [1], []) rfl rfl rfl ?_
    refine bGo hA 0 8 (16, .invokevirtual 318, 3, 9, 0, [0, 9, 124, 1], []) rfl rfl rfl ?_
    refine ⟨rfl, ?_⟩
    refine hC _ _ _ _ _ (bRn_e (fun r5 s3 q6 k4 => ?_)) k2
    show A (9, [.ref 11, .int (bn x1)], [.int (bn r5)], s3)
    refine bGo hA 0 9 (19, .ireturn, 1, 0, 0, [1], []) rfl rfl rfl ?_
    exact k4
  · exact k2

theorem sq309_0 {lvl : Nat} {C : bCall} {Q : bPost} {A : bPt → Prop} (hC : bMono C) (hA : bClosed lvl bm309 C Q A) {x1 : Int} {σ : bSt}  (h_x1 : bRg x1)
  (h : A (2, [.ref 12, .int (bn x1), .int (bn 0), .float 0, .float 0], [], σ)) : A (0, [.ref 12, .int (bn x1), .float 0, .float 0, .float 0], [], σ) := by
  refine bGo hA 0 0 (0, .iconst (0), 1, 1, 0, [], [(0, 0)]) rfl rfl rfl ?_
  refine bEqI bl_0 ?_
  refine bGo hA 0 1 (1, .istore_n 2, 1, 2, 0, [2], []) rfl rfl rfl ?_
  exact h

theorem sq309_2 {lvl : Nat} {C : bCall} {Q : bPost} {A : bPt → Prop} (hC : bMono C) (hA : bClosed lvl bm309 C Q A) {l1 : Int} {l2 : Int} {v3 : Value} {v4 : Value} {σ : bSt}  (h_l1 : bRg l1) (h_l2 : bRg l2)
  (h : ((l2 < (bi σ 12 22) → ((l2 = l1 → ((0 ≤ l2 ∧ l2 < 16) ∧ (bRg (6 * l2) ∧ A (20, [.ref 12, .int (bn l1), .int (bn l2), .int (bn (6 * l2)), v4], [], (bw σ 153 l2 0))))) ∧ (¬ l2 = l1 → ((0 ≤ l2 ∧ l2 < 16) ∧ (bRg (6 * l2) ∧ A (20, [.ref 12, .int (bn l1), .int (bn l2), .int (bn (6 * l2)), v4], [], (bw σ 153 l2 (-1)))))))) ∧ (¬ l2 < (bi σ 12 22) → Q (.inl none) σ))) : A (2, [.ref 12, .int (bn l1), .int (bn l2), v3, v4], [], σ) := by
  refine bGo hA 0 2 (2, .iload_n 2, 1, 3, 0, [2], []) rfl rfl rfl ?_
  refine bGo hA 0 3 (3, .aload_n 0, 1, 4, 0, [0], []) rfl rfl rfl ?_
  refine bGo hA 0 4 (4, .getfield 380, 3, 5, 0, [12, 22, 0, 0, 0, 0], []) rfl rfl rfl ?_
  refine ⟨rfl, ?_⟩
  refine bEqI (bn_bi σ 12 22) ?_
  refine bGo hA 0 5 (7, .if_icmp .ge (131), 3, 6, 82, [], []) rfl rfl rfl ?_
  refine bB_lt (x := l2) (y := (bi σ 12 22)) h_l2 (bi_rg _ _ _) (fun c1 => ?_) (fun c1 => ?_)
  · refine bGo hA 0 6 (10, .aload_n 0, 1, 7, 0, [0], []) rfl rfl rfl ?_
    refine bGo hA 0 7 (11, .getfield 302, 3, 8, 0, [12, 113, 3, 153, 1, 0], []) rfl rfl rfl ?_
    refine ⟨rfl, ?_⟩
    refine bGo hA 0 8 (14, .iload_n 2, 1, 9, 0, [2], []) rfl rfl rfl ?_
    refine bGo hA 0 9 (15, .iload_n 2, 1, 10, 0, [2], []) rfl rfl rfl ?_
    refine bGo hA 0 10 (16, .iload_n 1, 1, 11, 0, [1], []) rfl rfl rfl ?_
    refine bGo hA 0 11 (17, .if_icmp .ne (7), 3, 12, 14, [], []) rfl rfl rfl ?_
    refine bB_eq (x := l2) (y := l1) h_l2 h_l1 (fun c2 => ?_) (fun c2 => ?_)
    · refine bGo hA 0 12 (20, .iconst (0), 1, 13, 0, [], [(0, 0)]) rfl rfl rfl ?_
      refine bEqI bl_0 ?_
      refine bGo hA 0 13 (21, .goto (4), 3, 14, 15, [], []) rfl rfl rfl ?_
      refine bGo hA 0 15 (25, .iastore, 1, 16, 0, [], []) rfl rfl rfl ?_
      refine ⟨rfl, (bIxP (x := l2) (n := 16) h_l2 ((h.1 c1).1 c2).1), by decide, ?_⟩
      refine bEqS (x := l2) h_l2 ?_
      refine bGo hA 1 0 (26, .bipush (6), 2, 17, 0, [], [(6, 0)]) rfl rfl rfl ?_
      refine bEqI bl_6 ?_
      refine bGo hA 1 1 (28, .iload_n 2, 1, 18, 0, [2], []) rfl rfl rfl ?_
      refine bGo hA 1 2 (29, .imul, 1, 19, 0, [], []) rfl rfl rfl ?_
      refine bEqI (bn_mul 6 l2) ?_
      refine bGo hA 1 3 (30, .istore_n 3, 1, 20, 0, [3], []) rfl rfl rfl ?_
      exact ((h.1 c1).1 c2).2.2
    · refine bGo hA 0 14 (24, .iconst (-1), 1, 15, 0, [], [(-1, 0)]) rfl rfl rfl ?_
      refine bEqI bl_m1 ?_
      refine bGo hA 0 15 (25, .iastore, 1, 16, 0, [], []) rfl rfl rfl ?_
      refine ⟨rfl, (bIxP (x := l2) (n := 16) h_l2 ((h.1 c1).2 c2).1), by decide, ?_⟩
      refine bEqS (x := l2) h_l2 ?_
      refine bGo hA 1 0 (26, .bipush (6), 2, 17, 0, [], [(6, 0)]) rfl rfl rfl ?_
      refine bEqI bl_6 ?_
      refine bGo hA 1 1 (28, .iload_n 2, 1, 18, 0, [2], []) rfl rfl rfl ?_
      refine bGo hA 1 2 (29, .imul, 1, 19, 0, [], []) rfl rfl rfl ?_
      refine bEqI (bn_mul 6 l2) ?_
      refine bGo hA 1 3 (30, .istore_n 3, 1, 20, 0, [3], []) rfl rfl rfl ?_
      exact ((h.1 c1).2 c2).2.2
  · refine bGo hA 5 2 (138, .return_, 1, 0, 0, [0], []) rfl rfl rfl ?_
    exact (h.2 c1)

theorem sq309_20 {lvl : Nat} {C : bCall} {Q : bPost} {A : bPt → Prop} (hC : bMono C) (hA : bClosed lvl bm309 C Q A) {l1 : Int} {l2 : Int} {l3 : Int} {v4 : Value} {σ : bSt}  (h_l1 : bRg l1) (h_l2 : bRg l2) (h_l3 : bRg l3)
  (h : (bRg (6 * l2) ∧ ((0 ≤ l2 ∧ l2 < 16) ∧ (bRg ((6 * l2) + (bi σ 85 l2)) ∧ ((l3 < ((6 * l2) + (bi σ 85 l2)) → ((l2 = l1 → (bRg (l2 + 1) ∧ A (2, [.ref 12, .int (bn l1), .int (bn (l2 + 1)), .int (bn l3), v4], [], σ))) ∧ (¬ l2 = l1 → ((0 ≤ l3 ∧ l3 < 96) ∧ (((bi σ 86 l3) = 2 → ((0 ≤ (bi σ 87 l3) ∧ (bi σ 87 l3) < 16) ∧ A (48, [.ref 12, .int (bn l1), .int (bn l2), .int (bn l3), v4], [.int (bn (bi σ 153 (bi σ 87 l3)))], σ))) ∧ (¬ (bi σ 86 l3) = 2 → A (48, [.ref 12, .int (bn l1), .int (bn l2), .int (bn l3), v4], [.int (bn (-1))], σ))))))) ∧ (¬ l3 < ((6 * l2) + (bi σ 85 l2)) → (bRg (l2 + 1) ∧ A (2, [.ref 12, .int (bn l1), .int (bn (l2 + 1)), .int (bn l3), v4], [], σ)))))))) : A (20, [.ref 12, .int (bn l1), .int (bn l2), .int (bn l3), v4], [], σ) := by
  refine bGo hA 1 4 (31, .iload_n 3, 1, 21, 0, [3], []) rfl rfl rfl ?_
  refine bGo hA 1 5 (32, .bipush (6), 2, 22, 0, [], [(6, 0)]) rfl rfl rfl ?_
  refine bEqI bl_6 ?_
  refine bGo hA 1 6 (34, .iload_n 2, 1, 23, 0, [2], []) rfl rfl rfl ?_
  refine bGo hA 1 7 (35, .imul, 1, 24, 0, [], []) rfl rfl rfl ?_
  refine bEqI (bn_mul 6 l2) ?_
  refine bGo hA 1 8 (36, .aload_n 0, 1, 25, 0, [0], []) rfl rfl rfl ?_
  refine bGo hA 1 9 (37, .getfield 98, 3, 26, 0, [12, 33, 3, 85, 1, 0], []) rfl rfl rfl ?_
  refine ⟨rfl, ?_⟩
  refine bGo hA 1 10 (40, .iload_n 2, 1, 27, 0, [2], []) rfl rfl rfl ?_
  refine bGo hA 1 11 (41, .iaload, 1, 28, 0, [], []) rfl rfl rfl ?_
  refine ⟨rfl, (bIxP (x := l2) (n := 16) h_l2 h.2.1), ?_⟩
  refine bEqL (x := l2) h_l2 ?_
  refine bGo hA 1 12 (42, .iadd, 1, 29, 0, [], []) rfl rfl rfl ?_
  refine bEqI (bn_add (6 * l2) (bi σ 85 l2)) ?_
  refine bGo hA 1 13 (43, .if_icmp .ge (89), 3, 30, 80, [], []) rfl rfl rfl ?_
  refine bB_lt (x := l3) (y := ((6 * l2) + (bi σ 85 l2))) h_l3 h.2.2.1 (fun c1 => ?_) (fun c1 => ?_)
  · refine bGo hA 1 14 (46, .iload_n 2, 1, 31, 0, [2], []) rfl rfl rfl ?_
    refine bGo hA 1 15 (47, .iload_n 1, 1, 32, 0, [1], []) rfl rfl rfl ?_
    refine bGo hA 2 0 (48, .if_icmp .eq (84), 3, 33, 80, [], []) rfl rfl rfl ?_
    refine bB_eq (x := l2) (y := l1) h_l2 h_l1 (fun c2 => ?_) (fun c2 => ?_)
    · refine bGo hA 5 0 (132, .iinc 2 (1), 3, 81, 0, [2], [(1, 0)]) rfl rfl rfl ?_
      refine bEqC (fun v => A (81, [.ref 12, .int (bn l1), .int v, .int (bn l3), v4], [], σ)) ((congrArg (fun w => bn l2 + w) bl_1).trans (bn_add l2 1)) ?_
      refine bGo hA 5 1 (135, .goto (-133), 3, 82, 2, [], []) rfl rfl rfl ?_
      exact ((h.2.2.2.1 c1).1 c2).2
    · refine bGo hA 2 1 (51, .aload_n 0, 1, 34, 0, [0], []) rfl rfl rfl ?_
      refine bGo hA 2 2 (52, .getfield 101, 3, 35, 0, [12, 34, 3, 86, 1, 0], []) rfl rfl rfl ?_
      refine ⟨rfl, ?_⟩
      refine bGo hA 2 3 (55, .iload_n 3, 1, 36, 0, [3], []) rfl rfl rfl ?_
      refine bGo hA 2 4 (56, .iaload, 1, 37, 0, [], []) rfl rfl rfl ?_
      refine ⟨rfl, (bIxP (x := l3) (n := 96) h_l3 ((h.2.2.2.1 c1).2 c2).1), ?_⟩
      refine bEqL (x := l3) h_l3 ?_
      refine bGo hA 2 5 (57, .iconst (2), 1, 38, 0, [], [(2, 0)]) rfl rfl rfl ?_
      refine bEqI bl_2 ?_
      refine bGo hA 2 6 (58, .if_icmp .ne (17), 3, 39, 47, [], []) rfl rfl rfl ?_
      refine bB_eq (x := (bi σ 86 l3)) (y := 2) (bi_rg _ _ _) (by decide : bRg 2) (fun c3 => ?_) (fun c3 => ?_)
      · refine bGo hA 2 7 (61, .aload_n 0, 1, 40, 0, [0], []) rfl rfl rfl ?_
        refine bGo hA 2 8 (62, .getfield 302, 3, 41, 0, [12, 113, 3, 153, 1, 0], []) rfl rfl rfl ?_
        refine ⟨rfl, ?_⟩
        refine bGo hA 2 9 (65, .aload_n 0, 1, 42, 0, [0], []) rfl rfl rfl ?_
        refine bGo hA 2 10 (66, .getfield 104, 3, 43, 0, [12, 35, 3, 87, 1, 0], []) rfl rfl rfl ?_
        refine ⟨rfl, ?_⟩
        refine bGo hA 2 11 (69, .iload_n 3, 1, 44, 0, [3], []) rfl rfl rfl ?_
        refine bGo hA 2 12 (70, .iaload, 1, 45, 0, [], []) rfl rfl rfl ?_
        refine ⟨rfl, (bIxP (x := l3) (n := 96) h_l3 ((h.2.2.2.1 c1).2 c2).1), ?_⟩
        refine bEqL (x := l3) h_l3 ?_
        refine bGo hA 2 13 (71, .iaload, 1, 46, 0, [], []) rfl rfl rfl ?_
        refine ⟨rfl, (bIxP (x := (bi σ 87 l3)) (n := 16) (bi_rg _ _ _) (((h.2.2.2.1 c1).2 c2).2.1 c3).1), ?_⟩
        refine bEqL (x := (bi σ 87 l3)) (bi_rg _ _ _) ?_
        refine bGo hA 2 14 (72, .goto (4), 3, 47, 48, [], []) rfl rfl rfl ?_
        exact (((h.2.2.2.1 c1).2 c2).2.1 c3).2
      · refine bGo hA 2 15 (75, .iconst (-1), 1, 48, 0, [], [(-1, 0)]) rfl rfl rfl ?_
        refine bEqI bl_m1 ?_
        exact (((h.2.2.2.1 c1).2 c2).2.2 c3)
  · refine bGo hA 5 0 (132, .iinc 2 (1), 3, 81, 0, [2], [(1, 0)]) rfl rfl rfl ?_
    refine bEqC (fun v => A (81, [.ref 12, .int (bn l1), .int v, .int (bn l3), v4], [], σ)) ((congrArg (fun w => bn l2 + w) bl_1).trans (bn_add l2 1)) ?_
    refine bGo hA 5 1 (135, .goto (-133), 3, 82, 2, [], []) rfl rfl rfl ?_
    exact (h.2.2.2.2 c1).2

theorem sq309_48 {lvl : Nat} {C : bCall} {Q : bPost} {A : bPt → Prop} (hC : bMono C) (hA : bClosed lvl bm309 C Q A) {l1 : Int} {l2 : Int} {l3 : Int} {v4 : Value} {t0 : Int} {σ : bSt}  (h_l1 : bRg l1) (h_l2 : bRg l2) (h_l3 : bRg l3) (h_t0 : bRg t0)
  (h : ((t0 = (-1) → ((0 ≤ l2 ∧ l2 < 16) ∧ (bRg (l3 + 1) ∧ A (20, [.ref 12, .int (bn l1), .int (bn l2), .int (bn (l3 + 1)), .int (bn t0)], [], (bw σ 153 l2 (bi σ 153 l2)))))) ∧ (¬ t0 = (-1) → ((0 ≤ l2 ∧ l2 < 16) ∧ (((bi σ 153 l2) = (-1) → (bRg (t0 + 1) ∧ (bRg (l3 + 1) ∧ A (20, [.ref 12, .int (bn l1), .int (bn l2), .int (bn (l3 + 1)), .int (bn t0)], [], (bw σ 153 l2 (t0 + 1)))))) ∧ (¬ (bi σ 153 l2) = (-1) → (bRg (t0 + 1) ∧ (((t0 + 1) < (bi σ 153 l2) → (bRg (l3 + 1) ∧ A (20, [.ref 12, .int (bn l1), .int (bn l2), .int (bn (l3 + 1)), .int (bn t0)], [], (bw σ 153 l2 (t0 + 1))))) ∧ (¬ (t0 + 1) < (bi σ 153 l2) → (bRg (l3 + 1) ∧ A (20, [.ref 12, .int (bn l1), .int (bn l2), .int (bn (l3 + 1)), .int (bn t0)], [], (bw σ 153 l2 (bi σ 153 l2))))))))))))) : A (48, [.ref 12, .int (bn l1), .int (bn l2), .int (bn l3), v4], [.int (bn t0)], σ) := by
  refine bGo hA 3 0 (76, .istore 4, 2, 49, 0, [4], []) rfl rfl rfl ?_
  refine bGo hA 3 1 (78, .aload_n 0, 1, 50, 0, [0], []) rfl rfl rfl ?_
  refine bGo hA 3 2 (79, .getfield 302, 3, 51, 0, [12, 113, 3, 153, 1, 0], []) rfl rfl rfl ?_
  refine ⟨rfl, ?_⟩
  refine bGo hA 3 3 (82, .iload_n 2, 1, 52, 0, [2], []) rfl rfl rfl ?_
  refine bGo hA 3 4 (83, .iload 4, 2, 53, 0, [4], []) rfl rfl rfl ?_
  refine bGo hA 3 5 (85, .iconst (-1), 1, 54, 0, [], [(-1, 0)]) rfl rfl rfl ?_
  refine bEqI bl_m1 ?_
  refine bGo hA 3 6 (86, .if_icmp .eq (33), 3, 55, 73, [], []) rfl rfl rfl ?_
  refine bB_eq (x := t0) (y := (-1)) h_t0 (by decide : bRg (-1)) (fun c1 => ?_) (fun c1 => ?_)
  · refine bGo hA 4 9 (119, .aload_n 0, 1, 74, 0, [0], []) rfl rfl rfl ?_
    refine bGo hA 4 10 (120, .getfield 302, 3, 75, 0, [12, 113, 3, 153, 1, 0], []) rfl rfl rfl ?_
    refine ⟨rfl, ?_⟩
    refine bGo hA 4 11 (123, .iload_n 2, 1, 76, 0, [2], []) rfl rfl rfl ?_
    refine bGo hA 4 12 (124, .iaload, 1, 77, 0, [], []) rfl rfl rfl ?_
    refine ⟨rfl, (bIxP (x := l2) (n := 16) h_l2 (h.1 c1).1), ?_⟩
    refine bEqL (x := l2) h_l2 ?_
    refine bGo hA 4 13 (125, .iastore, 1, 78, 0, [], []) rfl rfl rfl ?_
    refine ⟨rfl, (bIxP (x := l2) (n := 16) h_l2 (h.1 c1).1), by decide, ?_⟩
    refine bEqS (x := l2) h_l2 ?_
    refine bGo hA 4 14 (126, .iinc 3 (1), 3, 79, 0, [3], [(1, 0)]) rfl rfl rfl ?_
    refine bEqC (fun v => A (79, [.ref 12, .int (bn l1), .int (bn l2), .int v, .int (bn t0)], [], (bw σ 153 l2 (bi σ 153 l2)))) ((congrArg (fun w => bn l3 + w) bl_1).trans (bn_add l3 1)) ?_
    refine bGo hA 4 15 (129, .goto (-98), 3, 80, 20, [], []) rfl rfl rfl ?_
    exact (h.1 c1).2.2
  · refine bGo hA 3 7 (89, .aload_n 0, 1, 56, 0, [0], []) rfl rfl rfl ?_
    refine bGo hA 3 8 (90, .getfield 302, 3, 57, 0, [12, 113, 3, 153, 1, 0], []) rfl rfl rfl ?_
    refine ⟨rfl, ?_⟩
    refine bGo hA 3 9 (93, .iload_n 2, 1, 58, 0, [2], []) rfl rfl rfl ?_
    refine bGo hA 3 10 (94, .iaload, 1, 59, 0, [], []) rfl rfl rfl ?_
    refine ⟨rfl, (bIxP (x := l2) (n := 16) h_l2 (h.2 c1).1), ?_⟩
    refine bEqL (x := l2) h_l2 ?_
    refine bGo hA 3 11 (95, .iconst (-1), 1, 60, 0, [], [(-1, 0)]) rfl rfl rfl ?_
    refine bEqI bl_m1 ?_
    refine bGo hA 3 12 (96, .if_icmp .eq (16), 3, 61, 69, [], []) rfl rfl rfl ?_
    refine bB_eq (x := (bi σ 153 l2)) (y := (-1)) (bi_rg _ _ _) (by decide : bRg (-1)) (fun c2 => ?_) (fun c2 => ?_)
    · refine bGo hA 4 5 (112, .iload 4, 2, 70, 0, [4], []) rfl rfl rfl ?_
      refine bGo hA 4 6 (114, .iconst (1), 1, 71, 0, [], [(1, 0)]) rfl rfl rfl ?_
      refine bEqI bl_1 ?_
      refine bGo hA 4 7 (115, .iadd, 1, 72, 0, [], []) rfl rfl rfl ?_
      refine bEqI (bn_add t0 1) ?_
      refine bGo hA 4 8 (116, .goto (9), 3, 73, 77, [], []) rfl rfl rfl ?_
      refine bGo hA 4 13 (125, .iastore, 1, 78, 0, [], []) rfl rfl rfl ?_
      refine ⟨rfl, (bIxP (x := l2) (n := 16) h_l2 (h.2 c1).1), by decide, ?_⟩
      refine bEqS (x := l2) h_l2 ?_
      refine bGo hA 4 14 (126, .iinc 3 (1), 3, 79, 0, [3], [(1, 0)]) rfl rfl rfl ?_
      refine bEqC (fun v => A (79, [.ref 12, .int (bn l1), .int (bn l2), .int v, .int (bn t0)], [], (bw σ 153 l2 (t0 + 1)))) ((congrArg (fun w => bn l3 + w) bl_1).trans (bn_add l3 1)) ?_
      refine bGo hA 4 15 (129, .goto (-98), 3, 80, 20, [], []) rfl rfl rfl ?_
      exact ((h.2 c1).2.1 c2).2.2
    · refine bGo hA 3 13 (99, .iload 4, 2, 62, 0, [4], []) rfl rfl rfl ?_
      refine bGo hA 3 14 (101, .iconst (1), 1, 63, 0, [], [(1, 0)]) rfl rfl rfl ?_
      refine bEqI bl_1 ?_
      refine bGo hA 3 15 (102, .iadd, 1, 64, 0, [], []) rfl rfl rfl ?_
      refine bEqI (bn_add t0 1) ?_
      refine bGo hA 4 0 (103, .aload_n 0, 1, 65, 0, [0], []) rfl rfl rfl ?_
      refine bGo hA 4 1 (104, .getfield 302, 3, 66, 0, [12, 113, 3, 153, 1, 0], []) rfl rfl rfl ?_
      refine ⟨rfl, ?_⟩
      refine bGo hA 4 2 (107, .iload_n 2, 1, 67, 0, [2], []) rfl rfl rfl ?_
      refine bGo hA 4 3 (108, .iaload, 1, 68, 0, [], []) rfl rfl rfl ?_
      refine ⟨rfl, (bIxP (x := l2) (n := 16) h_l2 (h.2 c1).1), ?_⟩
      refine bEqL (x := l2) h_l2 ?_
      refine bGo hA 4 4 (109, .if_icmp .ge (10), 3, 69, 73, [], []) rfl rfl rfl ?_
      refine bB_lt (x := (t0 + 1)) (y := (bi σ 153 l2)) ((h.2 c1).2.2 c2).1 (bi_rg _ _ _) (fun c3 => ?_) (fun c3 => ?_)
      · refine bGo hA 4 5 (112, .iload 4, 2, 70, 0, [4], []) rfl rfl rfl ?_
        refine bGo hA 4 6 (114, .iconst (1), 1, 71, 0, [], [(1, 0)]) rfl rfl rfl ?_
        refine bEqI bl_1 ?_
        refine bGo hA 4 7 (115, .iadd, 1, 72, 0, [], []) rfl rfl rfl ?_
        refine bEqI (bn_add t0 1) ?_
        refine bGo hA 4 8 (116, .goto (9), 3, 73, 77, [], []) rfl rfl rfl ?_
        refine bGo hA 4 13 (125, .iastore, 1, 78, 0, [], []) rfl rfl rfl ?_
        refine ⟨rfl, (bIxP (x := l2) (n := 16) h_l2 (h.2 c1).1), by decide, ?_⟩
        refine bEqS (x := l2) h_l2 ?_
        refine bGo hA 4 14 (126, .iinc 3 (1), 3, 79, 0, [3], [(1, 0)]) rfl rfl rfl ?_
        refine bEqC (fun v => A (79, [.ref 12, .int (bn l1), .int (bn l2), .int v, .int (bn t0)], [], (bw σ 153 l2 (t0 + 1)))) ((congrArg (fun w => bn l3 + w) bl_1).trans (bn_add l3 1)) ?_
        refine bGo hA 4 15 (129, .goto (-98), 3, 80, 20, [], []) rfl rfl rfl ?_
        exact (((h.2 c1).2.2 c2).2.1 c3).2
      · refine bGo hA 4 9 (119, .aload_n 0, 1, 74, 0, [0], []) rfl rfl rfl ?_
        refine bGo hA 4 10 (120, .getfield 302, 3, 75, 0, [12, 113, 3, 153, 1, 0], []) rfl rfl rfl ?_
        refine ⟨rfl, ?_⟩
        refine bGo hA 4 11 (123, .iload_n 2, 1, 76, 0, [2], []) rfl rfl rfl ?_
        refine bGo hA 4 12 (124, .iaload, 1, 77, 0, [], []) rfl rfl rfl ?_
        refine ⟨rfl, (bIxP (x := l2) (n := 16) h_l2 (h.2 c1).1), ?_⟩
        refine bEqL (x := l2) h_l2 ?_
        refine bGo hA 4 13 (125, .iastore, 1, 78, 0, [], []) rfl rfl rfl ?_
        refine ⟨rfl, (bIxP (x := l2) (n := 16) h_l2 (h.2 c1).1), by decide, ?_⟩
        refine bEqS (x := l2) h_l2 ?_
        refine bGo hA 4 14 (126, .iinc 3 (1), 3, 79, 0, [3], [(1, 0)]) rfl rfl rfl ?_
        refine bEqC (fun v => A (79, [.ref 12, .int (bn l1), .int (bn l2), .int v, .int (bn t0)], [], (bw σ 153 l2 (bi σ 153 l2)))) ((congrArg (fun w => bn l3 + w) bl_1).trans (bn_add l3 1)) ?_
        refine bGo hA 4 15 (129, .goto (-98), 3, 80, 20, [], []) rfl rfl rfl ?_
        exact (((h.2 c1).2.2 c2).2.2 c3).2

theorem sq310_0 {lvl : Nat} {C : bCall} {Q : bPost} {A : bPt → Prop} (hC : bMono C) (hA : bClosed lvl bm310 C Q A) {x1 : Int} {x2 : Int} {x3 : Int} {σ : bSt}  (h_x1 : bRg x1) (h_x2 : bRg x2) (h_x3 : bRg x3)
  (h : (C 225 [.ref 12, .int (bn x1)] σ (bRn (fun r3 s1 => ((r3 = 0 → (C 197 [.ref 12, .int (bn 1)] s1 (bRn (fun r8 s6 => ((r8 = 0 → (C 309 [.ref 12, .int (bn x2)] s6 (bRv (fun s11 => ((0 ≤ x1 ∧ x1 < 16) ∧ (((bi s11 153 x1) = (-1) → Q (.inl (some (.int (bn (-1))))) s11) ∧ (¬ (bi s11 153 x1) = (-1) → (((bi s11 153 x1) < x3 → Q (.inl (some (.int (bn (-1))))) s11) ∧ (¬ (bi s11 153 x1) < x3 → A (39, [.ref 12, .int (bn x1), .int (bn x2), .int (bn x3), .int (bn x1), .int (bn 0), .float 0, .float 0, .float 0], [], s11)))))))))) ∧ (¬ r8 = 0 → Q (.inl (some (.int (bn 0)))) s6)))))) ∧ (¬ r3 = 0 → (C 225 [.ref 12, .int (bn x2)] s1 (bRn (fun r17 s15 => ((r17 = 0 → (C 197 [.ref 12, .int (bn 1)] s15 (bRn (fun r22 s20 => ((r22 = 0 → (C 309 [.ref 12, .int (bn x2)] s20 (bRv (fun s25 => ((0 ≤ x1 ∧ x1 < 16) ∧ (((bi s25 153 x1) = (-1) → Q (.inl (some (.int (bn (-1))))) s25) ∧ (¬ (bi s25 153 x1) = (-1) → (((bi s25 153 x1) < x3 → Q (.inl (some (.int (bn (-1))))) s25) ∧ (¬ (bi s25 153 x1) < x3 → A (39, [.ref 12, .int (bn x1), .int (bn x2), .int (bn x3), .int (bn x1), .int (bn 0), .float 0, .float 0, .float 0], [], s25)))))))))) ∧ (¬ r22 = 0 → Q (.inl (some (.int (bn 0)))) s20)))))) ∧ (¬ r17 = 0 → ((x3 < 0 → (C 197 [.ref 12, .int (bn 1)] s15 (bRn (fun r32 s30 => ((r32 = 0 → (C 309 [.ref 12, .int (bn x2)] s30 (bRv (fun s35 => ((0 ≤ x1 ∧ x1 < 16) ∧ (((bi s35 153 x1) = (-1) → Q (.inl (some (.int (bn (-1))))) s35) ∧ (¬ (bi s35 153 x1) = (-1) → (((bi s35 153 x1) < x3 → Q (.inl (some (.int (bn (-1))))) s35) ∧ (¬ (bi s35 153 x1) < x3 → A (39, [.ref 12, .int (bn x1), .int (bn x2), .int (bn x3), .int (bn x1), .int (bn 0), .float 0, .float 0, .float 0], [], s35)))))))))) ∧ (¬ r32 = 0 → Q (.inl (some (.int (bn 0)))) s30)))))) ∧ (¬ x3 < 0 → (C 197 [.ref 12, .int (bn 0)] s15 (bRn (fun r41 s39 => ((r41 = 0 → (C 309 [.ref 12, .int (bn x2)] s39 (bRv (fun s44 => ((0 ≤ x1 ∧ x1 < 16) ∧ (((bi s44 153 x1) = (-1) → Q (.inl (some (.int (bn (-1))))) s44) ∧ (¬ (bi s44 153 x1) = (-1) → (((bi s44 153 x1) < x3 → Q (.inl (some (.int (bn (-1))))) s44) ∧ (¬ (bi s44 153 x1) < x3 → A (39, [.ref 12, .int (bn x1), .int (bn x2), .int (bn x3), .int (bn x1), .int (bn 0), .float 0, .float 0, .float 0], [], s44)))))))))) ∧ (¬ r41 = 0 → Q (.inl (some (.int (bn 0)))) s39)))))))))))))))))) : A (0, [.ref 12, .int (bn x1), .int (bn x2), .int (bn x3), .float 0, .float 0, .float 0, .float 0, .float 0], [], σ) := by
  refine bGo hA 0 0 (0, .aload_n 0, 1, 1, 0, [0], []) rfl rfl rfl ?_
  refine bGo hA 0 1 (1, .aload_n 0, 1, 2, 0, [0], []) rfl rfl rfl ?_
  refine bGo hA 0 2 (2, .iload_n 1, 1, 3, 0, [1], []) rfl rfl rfl ?_
  refine bGo hA 0 3 (3, .invokevirtual 383, 3, 4, 0, [0, 12, 225, 1], []) rfl rfl rfl ?_
  refine ⟨rfl, ?_⟩
  refine hC _ _ _ _ _ (bRn_e (fun r3 s1 q4 k2 => ?_)) h
  show A (4, [.ref 12, .int (bn x1), .int (bn x2), .int (bn x3), .float 0, .float 0, .float 0, .float 0, .float 0], [.int (bn r3), .ref 12], s1)
  refine bGo hA 0 4 (6, .ifCond .eq (19), 3, 5, 13, [], []) rfl rfl rfl ?_
  refine bB_eq0 (x := r3) q4 (fun c5 => ?_) (fun c5 => ?_)
  · refine bGo hA 0 13 (25, .iconst (1), 1, 14, 0, [], [(1, 0)]) rfl rfl rfl ?_
    refine bEqI bl_1 ?_
    refine bGo hA 0 14 (26, .invokevirtual 333, 3, 15, 0, [0, 12, 197, 1], []) rfl rfl rfl ?_
    refine ⟨rfl, ?_⟩
    refine hC _ _ _ _ _ (bRn_e (fun r8 s6 q9 k7 => ?_)) (k2.1 c5)
    show A (15, [.ref 12, .int (bn x1), .int (bn x2), .int (bn x3), .float 0, .float 0, .float 0, .float 0, .float 0], [.int (bn r8)], s6)
    refine bGo hA 0 15 (29, .ifCond .eq (5), 3, 16, 18, [], []) rfl rfl rfl ?_
    refine bB_eq0 (x := r8) q9 (fun c10 => ?_) (fun c10 => ?_)
    · refine bGo hA 1 2 (34, .aload_n 0, 1, 19, 0, [0], []) rfl rfl rfl ?_
      refine bGo hA 1 3 (35, .iload_n 2, 1, 20, 0, [2], []) rfl rfl rfl ?_
      refine bGo hA 1 4 (36, .invokevirtual 582, 3, 21, 0, [0, 12, 309, 1], []) rfl rfl rfl ?_
      refine ⟨rfl, ?_⟩
      refine hC _ _ _ _ _ (bRv_e (fun s11 k12 => ?_)) (k7.1 c10)
      show A (21, [.ref 12, .int (bn x1), .int (bn x2), .int (bn x3), .float 0, .float 0, .float 0, .float 0, .float 0], [], s11)
      refine bGo hA 1 5 (39, .aload_n 0, 1, 22, 0, [0], []) rfl rfl rfl ?_
      refine bGo hA 1 6 (40, .getfield 302, 3, 23, 0, [12, 113, 3, 153, 1, 0], []) rfl rfl rfl ?_
      refine ⟨rfl, ?_⟩
      refine bGo hA 1 7 (43, .iload_n 1, 1, 24, 0, [1], []) rfl rfl rfl ?_
      refine bGo hA 1 8 (44, .iaload, 1, 25, 0, [], []) rfl rfl rfl ?_
      refine ⟨rfl, (bIxP (x := x1) (n := 16) h_x1 k12.1), ?_⟩
      refine bEqL (x := x1) h_x1 ?_
      refine bGo hA 1 9 (45, .iconst (-1), 1, 26, 0, [], [(-1, 0)]) rfl rfl rfl ?_
      refine bEqI bl_m1 ?_
      refine bGo hA 1 10 (46, .if_icmp .eq (13), 3, 27, 33, [], []) rfl rfl rfl ?_
      refine bB_eq (x := (bi s11 153 x1)) (y := (-1)) (bi_rg _ _ _) (by decide : bRg (-1)) (fun c13 => ?_) (fun c13 => ?_)
      · refine bGo hA 2 1 (59, .iconst (-1), 1, 34, 0, [], [(-1, 0)]) rfl rfl rfl ?_
        refine bEqI bl_m1 ?_
        refine bGo hA 2 2 (60, .ireturn, 1, 35, 0, [1], []) rfl rfl rfl ?_
        exact (k12.2.1 c13)
      · refine bGo hA 1 11 (49, .iload_n 3, 1, 28, 0, [3], []) rfl rfl rfl ?_
        refine bGo hA 1 12 (50, .aload_n 0, 1, 29, 0, [0], []) rfl rfl rfl ?_
        refine bGo hA 1 13 (51, .getfield 302, 3, 30, 0, [12, 113, 3, 153, 1, 0], []) rfl rfl rfl ?_
        refine ⟨rfl, ?_⟩
        refine bGo hA 1 14 (54, .iload_n 1, 1, 31, 0, [1], []) rfl rfl rfl ?_
        refine bGo hA 1 15 (55, .iaload, 1, 32, 0, [], []) rfl rfl rfl ?_
        refine ⟨rfl, (bIxP (x := x1) (n := 16) h_x1 k12.1), ?_⟩
        refine bEqL (x := x1) h_x1 ?_
        refine bGo hA 2 0 (56, .if_icmp .le (5), 3, 33, 35, [], []) rfl rfl rfl ?_
        refine bB_lt (x := (bi s11 153 x1)) (y := x3) (bi_rg _ _ _) h_x3 (fun c14 => ?_) (fun c14 => ?_)
        · refine bGo hA 2 1 (59, .iconst (-1), 1, 34, 0, [], [(-1, 0)]) rfl rfl rfl ?_
          refine bEqI bl_m1 ?_
          refine bGo hA 2 2 (60, .ireturn, 1, 35, 0, [1], []) rfl rfl rfl ?_
          exact ((k12.2.2 c13).1 c14)
        · refine bGo hA 2 3 (61, .iload_n 1, 1, 36, 0, [1], []) rfl rfl rfl ?_
          refine bGo hA 2 4 (62, .istore 4, 2, 37, 0, [4], []) rfl rfl rfl ?_
          refine bGo hA 2 5 (64, .iconst (0), 1, 38, 0, [], [(0, 0)]) rfl rfl rfl ?_
          refine bEqI bl_0 ?_
          refine bGo hA 2 6 (65, .istore 5, 2, 39, 0, [5], []) rfl rfl rfl ?_
          exact ((k12.2.2 c13).2 c14)
    · refine bGo hA 1 0 (32, .iconst (0), 1, 17, 0, [], [(0, 0)]) rfl rfl rfl ?_
      refine bEqI bl_0 ?_
      refine bGo hA 1 1 (33, .ireturn, 1, 18, 0, [1], []) rfl rfl rfl ?_
      exact (k7.2 c10)
  · refine bGo hA 0 5 (9, .aload_n 0, 1, 6, 0, [0], []) rfl rfl rfl ?_
    refine bGo hA 0 6 (10, .iload_n 2, 1, 7, 0, [2], []) rfl rfl rfl ?_
    refine bGo hA 0 7 (11, .invokevirtual 383, 3, 8, 0, [0, 12, 225, 1], []) rfl rfl rfl ?_
    refine ⟨rfl, ?_⟩
    refine hC _ _ _ _ _ (bRn_e (fun r17 s15 q18 k16 => ?_)) (k2.2 c5)
    show A (8, [.ref 12, .int (bn x1), .int (bn x2), .int (bn x3), .float 0, .float 0, .float 0, .float 0, .float 0], [.int (bn r17), .ref 12], s15)
    refine bGo hA 0 8 (14, .ifCond .eq (11), 3, 9, 13, [], []) rfl rfl rfl ?_
    refine bB_eq0 (x := r17) q18 (fun c19 => ?_) (fun c19 => ?_)
    · refine bGo hA 0 13 (25, .iconst (1), 1, 14, 0, [], [(1, 0)]) rfl rfl rfl ?_
      refine bEqI bl_1 ?_
      refine bGo hA 0 14 (26, .invokevirtual 333, 3, 15, 0, [0, 12, 197, 1], []) rfl rfl rfl ?_
      refine ⟨rfl, ?_⟩
      refine hC _ _ _ _ _ (bRn_e (fun r22 s20 q23 k21 => ?_)) (k16.1 c19)
      show A (15, [.ref 12, .int (bn x1), .int (bn x2), .int (bn x3), .float 0, .float 0, .float 0, .float 0, .float 0], [.int (bn r22)], s20)
      refine bGo hA 0 15 (29, .ifCond .eq (5), 3, 16, 18, [], []) rfl rfl rfl ?_
      refine bB_eq0 (x := r22) q23 (fun c24 => ?_) (fun c24 => ?_)
      · refine bGo hA 1 2 (34, .aload_n 0, 1, 19, 0, [0], []) rfl rfl rfl ?_
        refine bGo hA 1 3 (35, .iload_n 2, 1, 20, 0, [2], []) rfl rfl rfl ?_
        refine bGo hA 1 4 (36, .invokevirtual 582, 3, 21, 0, [0, 12, 309, 1], []) rfl rfl rfl ?_
        refine ⟨rfl, ?_⟩
        refine hC _ _ _ _ _ (bRv_e (fun s25 k26 => ?_)) (k21.1 c24)
        show A (21, [.ref 12, .int (bn x1), .int (bn x2), .int (bn x3), .float 0, .float 0, .float 0, .float 0, .float 0], [], s25)
        refine bGo hA 1 5 (39, .aload_n 0, 1, 22, 0, [0], []) rfl rfl rfl ?_
        refine bGo hA 1 6 (40, .getfield 302, 3, 23, 0, [12, 113, 3, 153, 1, 0], []) rfl rfl rfl ?_
        refine ⟨rfl, ?_⟩
        refine bGo hA 1 7 (43, .iload_n 1, 1, 24, 0, [1], []) rfl rfl rfl ?_
        refine bGo hA 1 8 (44, .iaload, 1, 25, 0, [], []) rfl rfl rfl ?_
        refine ⟨rfl, (bIxP (x := x1) (n := 16) h_x1 k26.1), ?_⟩
        refine bEqL (x := x1) h_x1 ?_
        refine bGo hA 1 9 (45, .iconst (-1), 1, 26, 0, [], [(-1, 0)]) rfl rfl rfl ?_
        refine bEqI bl_m1 ?_
        refine bGo hA 1 10 (46, .if_icmp .eq (13), 3, 27, 33, [], []) rfl rfl rfl ?_
        refine bB_eq (x := (bi s25 153 x1)) (y := (-1)) (bi_rg _ _ _) (by decide : bRg (-1)) (fun c27 => ?_) (fun c27 => ?_)
        · refine bGo hA 2 1 (59, .iconst (-1), 1, 34, 0, [], [(-1, 0)]) rfl rfl rfl ?_
          refine bEqI bl_m1 ?_
          refine bGo hA 2 2 (60, .ireturn, 1, 35, 0, [1], []) rfl rfl rfl ?_
          exact (k26.2.1 c27)
        · refine bGo hA 1 11 (49, .iload_n 3, 1, 28, 0, [3], []) rfl rfl rfl ?_
          refine bGo hA 1 12 (50, .aload_n 0, 1, 29, 0, [0], []) rfl rfl rfl ?_
          refine bGo hA 1 13 (51, .getfield 302, 3, 30, 0, [12, 113, 3, 153, 1, 0], []) rfl rfl rfl ?_
          refine ⟨rfl, ?_⟩
          refine bGo hA 1 14 (54, .iload_n 1, 1, 31, 0, [1], []) rfl rfl rfl ?_
          refine bGo hA 1 15 (55, .iaload, 1, 32, 0, [], []) rfl rfl rfl ?_
          refine ⟨rfl, (bIxP (x := x1) (n := 16) h_x1 k26.1), ?_⟩
          refine bEqL (x := x1) h_x1 ?_
          refine bGo hA 2 0 (56, .if_icmp .le (5), 3, 33, 35, [], []) rfl rfl rfl ?_
          refine bB_lt (x := (bi s25 153 x1)) (y := x3) (bi_rg _ _ _) h_x3 (fun c28 => ?_) (fun c28 => ?_)
          · refine bGo hA 2 1 (59, .iconst (-1), 1, 34, 0, [], [(-1, 0)]) rfl rfl rfl ?_
            refine bEqI bl_m1 ?_
            refine bGo hA 2 2 (60, .ireturn, 1, 35, 0, [1], []) rfl rfl rfl ?_
            exact ((k26.2.2 c27).1 c28)
          · refine bGo hA 2 3 (61, .iload_n 1, 1, 36, 0, [1], []) rfl rfl rfl ?_
            refine bGo hA 2 4 (62, .istore 4, 2, 37, 0, [4], []) rfl rfl rfl ?_
            refine bGo hA 2 5 (64, .iconst (0), 1, 38, 0, [], [(0, 0)]) rfl rfl rfl ?_
            refine bEqI bl_0 ?_
            refine bGo hA 2 6 (65, .istore 5, 2, 39, 0, [5], []) rfl rfl rfl ?_
            exact ((k26.2.2 c27).2 c28)
      · refine bGo hA 1 0 (32, .iconst (0), 1, 17, 0, [], [(0, 0)]) rfl rfl rfl ?_
        refine bEqI bl_0 ?_
        refine bGo hA 1 1 (33, .ireturn, 1, 18, 0, [1], []) rfl rfl rfl ?_
        exact (k21.2 c24)
    · refine bGo hA 0 9 (17, .iload_n 3, 1, 10, 0, [3], []) rfl rfl rfl ?_
      refine bGo hA 0 10 (18, .ifCond .lt (7), 3, 11, 13, [], []) rfl rfl rfl ?_
      refine bB_lt0 (x := x3) h_x3 (fun c29 => ?_) (fun c29 => ?_)
      · refine bGo hA 0 13 (25, .iconst (1), 1, 14, 0, [], [(1, 0)]) rfl rfl rfl ?_
        refine bEqI bl_1 ?_
        refine bGo hA 0 14 (26, .invokevirtual 333, 3, 15, 0, [0, 12, 197, 1], []) rfl rfl rfl ?_
        refine ⟨rfl, ?_⟩
        refine hC _ _ _ _ _ (bRn_e (fun r32 s30 q33 k31 => ?_)) ((k16.2 c19).1 c29)
        show A (15, [.ref 12, .int (bn x1), .int (bn x2), .int (bn x3), .float 0, .float 0, .float 0, .float 0, .float 0], [.int (bn r32)], s30)
        refine bGo hA 0 15 (29, .ifCond .eq (5), 3, 16, 18, [], []) rfl rfl rfl ?_
        refine bB_eq0 (x := r32) q33 (fun c34 => ?_) (fun c34 => ?_)
        · refine bGo hA 1 2 (34, .aload_n 0, 1, 19, 0, [0], []) rfl rfl rfl ?_
          refine bGo hA 1 3 (35, .iload_n 2, 1, 20, 0, [2], []) rfl rfl rfl ?_
          refine bGo hA 1 4 (36, .invokevirtual 582, 3, 21, 0, [0, 12, 309, 1], []) rfl rfl rfl ?_
          refine ⟨rfl, ?_⟩
          refine hC _ _ _ _ _ (bRv_e (fun s35 k36 => ?_)) (k31.1 c34)
          show A (21, [.ref 12, .int (bn x1), .int (bn x2), .int (bn x3), .float 0, .float 0, .float 0, .float 0, .float 0], [], s35)
          refine bGo hA 1 5 (39, .aload_n 0, 1, 22, 0, [0], []) rfl rfl rfl ?_
          refine bGo hA 1 6 (40, .getfield 302, 3, 23, 0, [12, 113, 3, 153, 1, 0], []) rfl rfl rfl ?_
          refine ⟨rfl, ?_⟩
          refine bGo hA 1 7 (43, .iload_n 1, 1, 24, 0, [1], []) rfl rfl rfl ?_
          refine bGo hA 1 8 (44, .iaload, 1, 25, 0, [], []) rfl rfl rfl ?_
          refine ⟨rfl, (bIxP (x := x1) (n := 16) h_x1 k36.1), ?_⟩
          refine bEqL (x := x1) h_x1 ?_
          refine bGo hA 1 9 (45, .iconst (-1), 1, 26, 0, [], [(-1, 0)]) rfl rfl rfl ?_
          refine bEqI bl_m1 ?_
          refine bGo hA 1 10 (46, .if_icmp .eq (13), 3, 27, 33, [], []) rfl rfl rfl ?_
          refine bB_eq (x := (bi s35 153 x1)) (y := (-1)) (bi_rg _ _ _) (by decide : bRg (-1)) (fun c37 => ?_) (fun c37 => ?_)
          · refine bGo hA 2 1 (59, .iconst (-1), 1, 34, 0, [], [(-1, 0)]) rfl rfl rfl ?_
            refine bEqI bl_m1 ?_
            refine bGo hA 2 2 (60, .ireturn, 1, 35, 0, [1], []) rfl rfl rfl ?_
            exact (k36.2.1 c37)
          · refine bGo hA 1 11 (49, .iload_n 3, 1, 28, 0, [3], []) rfl rfl rfl ?_
            refine bGo hA 1 12 (50, .aload_n 0, 1, 29, 0, [0], []) rfl rfl rfl ?_
            refine bGo hA 1 13 (51, .getfield 302, 3, 30, 0, [12, 113, 3, 153, 1, 0], []) rfl rfl rfl ?_
            refine ⟨rfl, ?_⟩
            refine bGo hA 1 14 (54, .iload_n 1, 1, 31, 0, [1], []) rfl rfl rfl ?_
            refine bGo hA 1 15 (55, .iaload, 1, 32, 0, [], []) rfl rfl rfl ?_
            refine ⟨rfl, (bIxP (x := x1) (n := 16) h_x1 k36.1), ?_⟩
            refine bEqL (x := x1) h_x1 ?_
            refine bGo hA 2 0 (56, .if_icmp .le (5), 3, 33, 35, [], []) rfl rfl rfl ?_
            refine bB_lt (x := (bi s35 153 x1)) (y := x3) (bi_rg _ _ _) h_x3 (fun c38 => ?_) (fun c38 => ?_)
            · refine bGo hA 2 1 (59, .iconst (-1), 1, 34, 0, [], [(-1, 0)]) rfl rfl rfl ?_
              refine bEqI bl_m1 ?_
              refine bGo hA 2 2 (60, .ireturn, 1, 35, 0, [1], []) rfl rfl rfl ?_
              exact ((k36.2.2 c37).1 c38)
            · refine bGo hA 2 3 (61, .iload_n 1, 1, 36, 0, [1], []) rfl rfl rfl ?_
              refine bGo hA 2 4 (62, .istore 4, 2, 37, 0, [4], []) rfl rfl rfl ?_
              refine bGo hA 2 5 (64, .iconst (0), 1, 38, 0, [], [(0, 0)]) rfl rfl rfl ?_
              refine bEqI bl_0 ?_
              refine bGo hA 2 6 (65, .istore 5, 2, 39, 0, [5], []) rfl rfl rfl ?_
              exact ((k36.2.2 c37).2 c38)
        · refine bGo hA 1 0 (32, .iconst (0), 1, 17, 0, [], [(0, 0)]) rfl rfl rfl ?_
          refine bEqI bl_0 ?_
          refine bGo hA 1 1 (33, .ireturn, 1, 18, 0, [1], []) rfl rfl rfl ?_
          exact (k31.2 c34)
      · refine bGo hA 0 11 (21, .iconst (0), 1, 12, 0, [], [(0, 0)]) rfl rfl rfl ?_
        refine bEqI bl_0 ?_
        refine bGo hA 0 12 (22, .goto (4), 3, 13, 14, [], []) rfl rfl rfl ?_
        refine bGo hA 0 14 (26, .invokevirtual 333, 3, 15, 0, [0, 12, 197, 1], []) rfl rfl rfl ?_
        refine ⟨rfl, ?_⟩
        refine hC _ _ _ _ _ (bRn_e (fun r41 s39 q42 k40 => ?_)) ((k16.2 c19).2 c29)
        show A (15, [.ref 12, .int (bn x1), .int (bn x2), .int (bn x3), .float 0, .float 0, .float 0, .float 0, .float 0], [.int (bn r41)], s39)
        refine bGo hA 0 15 (29, .ifCond .eq (5), 3, 16, 18, [], []) rfl rfl rfl ?_
        refine bB_eq0 (x := r41) q42 (fun c43 => ?_) (fun c43 => ?_)
        · refine bGo hA 1 2 (34, .aload_n 0, 1, 19, 0, [0], []) rfl rfl rfl ?_
          refine bGo hA 1 3 (35, .iload_n 2, 1, 20, 0, [2], []) rfl rfl rfl ?_
          refine bGo hA 1 4 (36, .invokevirtual 582, 3, 21, 0, [0, 12, 309, 1], []) rfl rfl rfl ?_
          refine ⟨rfl, ?_⟩
          refine hC _ _ _ _ _ (bRv_e (fun s44 k45 => ?_)) (k40.1 c43)
          show A (21, [.ref 12, .int (bn x1), .int (bn x2), .int (bn x3), .float 0, .float 0, .float 0, .float 0, .float 0], [], s44)
          refine bGo hA 1 5 (39, .aload_n 0, 1, 22, 0, [0], []) rfl rfl rfl ?_
          refine bGo hA 1 6 (40, .getfield 302, 3, 23, 0, [12, 113, 3, 153, 1, 0], []) rfl rfl rfl ?_
          refine ⟨rfl, ?_⟩
          refine bGo hA 1 7 (43, .iload_n 1, 1, 24, 0, [1], []) rfl rfl rfl ?_
          refine bGo hA 1 8 (44, .iaload, 1, 25, 0, [], []) rfl rfl rfl ?_
          refine ⟨rfl, (bIxP (x := x1) (n := 16) h_x1 k45.1), ?_⟩
          refine bEqL (x := x1) h_x1 ?_
          refine bGo hA 1 9 (45, .iconst (-1), 1, 26, 0, [], [(-1, 0)]) rfl rfl rfl ?_
          refine bEqI bl_m1 ?_
          refine bGo hA 1 10 (46, .if_icmp .eq (13), 3, 27, 33, [], []) rfl rfl rfl ?_
          refine bB_eq (x := (bi s44 153 x1)) (y := (-1)) (bi_rg _ _ _) (by decide : bRg (-1)) (fun c46 => ?_) (fun c46 => ?_)
          · refine bGo hA 2 1 (59, .iconst (-1), 1, 34, 0, [], [(-1, 0)]) rfl rfl rfl ?_
            refine bEqI bl_m1 ?_
            refine bGo hA 2 2 (60, .ireturn, 1, 35, 0, [1], []) rfl rfl rfl ?_
            exact (k45.2.1 c46)
          · refine bGo hA 1 11 (49, .iload_n 3, 1, 28, 0, [3], []) rfl rfl rfl ?_
            refine bGo hA 1 12 (50, .aload_n 0, 1, 29, 0, [0], []) rfl rfl rfl ?_
            refine bGo hA 1 13 (51, .getfield 302, 3, 30, 0, [12, 113, 3, 153, 1, 0], []) rfl rfl rfl ?_
            refine ⟨rfl, ?_⟩
            refine bGo hA 1 14 (54, .iload_n 1, 1, 31, 0, [1], []) rfl rfl rfl ?_
            refine bGo hA 1 15 (55, .iaload, 1, 32, 0, [], []) rfl rfl rfl ?_
            refine ⟨rfl, (bIxP (x := x1) (n := 16) h_x1 k45.1), ?_⟩
            refine bEqL (x := x1) h_x1 ?_
            refine bGo hA 2 0 (56, .if_icmp .le (5), 3, 33, 35, [], []) rfl rfl rfl ?_
            refine bB_lt (x := (bi s44 153 x1)) (y := x3) (bi_rg _ _ _) h_x3 (fun c47 => ?_) (fun c47 => ?_)
            · refine bGo hA 2 1 (59, .iconst (-1), 1, 34, 0, [], [(-1, 0)]) rfl rfl rfl ?_
              refine bEqI bl_m1 ?_
              refine bGo hA 2 2 (60, .ireturn, 1, 35, 0, [1], []) rfl rfl rfl ?_
              exact ((k45.2.2 c46).1 c47)
            · refine bGo hA 2 3 (61, .iload_n 1, 1, 36, 0, [1], []) rfl rfl rfl ?_
              refine bGo hA 2 4 (62, .istore 4, 2, 37, 0, [4], []) rfl rfl rfl ?_
              refine bGo hA 2 5 (64, .iconst (0), 1, 38, 0, [], [(0, 0)]) rfl rfl rfl ?_
              refine bEqI bl_0 ?_
              refine bGo hA 2 6 (65, .istore 5, 2, 39, 0, [5], []) rfl rfl rfl ?_
              exact ((k45.2.2 c46).2 c47)
        · refine bGo hA 1 0 (32, .iconst (0), 1, 17, 0, [], [(0, 0)]) rfl rfl rfl ?_
          refine bEqI bl_0 ?_
          refine bGo hA 1 1 (33, .ireturn, 1, 18, 0, [1], []) rfl rfl rfl ?_
          exact (k40.2 c43)

theorem sq310_39 {lvl : Nat} {C : bCall} {Q : bPost} {A : bPt → Prop} (hC : bMono C) (hA : bClosed lvl bm310 C Q A) {v1 : Value} {v2 : Value} {l3 : Int} {l4 : Int} {l5 : Int} {v6 : Value} {v7 : Value} {v8 : Value} {σ : bSt}  (h_l3 : bRg l3) (h_l4 : bRg l4) (h_l5 : bRg l5)
  (h : ((l5 < l3 → (bRg (6 * l4) ∧ A (48, [.ref 12, v1, v2, .int (bn l3), .int (bn l4), .int (bn l5), .int (bn (-1)), .int (bn (6 * l4)), v8], [], σ))) ∧ (¬ l5 < l3 → Q (.inl (some (.int (bn l4)))) σ))) : A (39, [.ref 12, v1, v2, .int (bn l3), .int (bn l4), .int (bn l5), v6, v7, v8], [], σ) := by
  refine bGo hA 2 7 (67, .iload 5, 2, 40, 0, [5], []) rfl rfl rfl ?_
  refine bGo hA 2 8 (69, .iload_n 3, 1, 41, 0, [3], []) rfl rfl rfl ?_
  refine bGo hA 2 9 (70, .if_icmp .ge (126), 3, 42, 106, [], []) rfl rfl rfl ?_
  refine bB_lt (x := l5) (y := l3) h_l5 h_l3 (fun c1 => ?_) (fun c1 => ?_)
  · refine bGo hA 2 10 (73, .iconst (-1), 1, 43, 0, [], [(-1, 0)]) rfl rfl rfl ?_
    refine bEqI bl_m1 ?_
    refine bGo hA 2 11 (74, .istore 6, 2, 44, 0, [6], []) rfl rfl rfl ?_
    refine bGo hA 2 12 (76, .bipush (6), 2, 45, 0, [], [(6, 0)]) rfl rfl rfl ?_
    refine bEqI bl_6 ?_
    refine bGo hA 2 13 (78, .iload 4, 2, 46, 0, [4], []) rfl rfl rfl ?_
    refine bGo hA 2 14 (80, .imul, 1, 47, 0, [], []) rfl rfl rfl ?_
    refine bEqI (bn_mul 6 l4) ?_
    refine bGo hA 2 15 (81, .istore 7, 2, 48, 0, [7], []) rfl rfl rfl ?_
    exact (h.1 c1).2
  · refine bGo hA 6 10 (196, .iload 4, 2, 107, 0, [4], []) rfl rfl rfl ?_
    refine bGo hA 6 11 (198, .ireturn, 1, 0, 0, [1], []) rfl rfl rfl ?_
    exact (h.2 c1)

theorem sq310_48 {lvl : Nat} {C : bCall} {Q : bPost} {A : bPt → Prop} (hC : bMono C) (hA : bClosed lvl bm310 C Q A) {v1 : Value} {v2 : Value} {l3 : Int} {l4 : Int} {l5 : Int} {l6 : Int} {l7 : Int} {v8 : Value} {σ : bSt}  (h_l3 : bRg l3) (h_l4 : bRg l4) (h_l5 : bRg l5) (h_l6 : bRg l6) (h_l7 : bRg l7)
  (h : (bRg (6 * l4) ∧ ((0 ≤ l4 ∧ l4 < 16) ∧ (bRg ((6 * l4) + (bi σ 85 l4)) ∧ ((l7 < ((6 * l4) + (bi σ 85 l4)) → ((0 ≤ l7 ∧ l7 < 96) ∧ (((bi σ 86 l7) = 2 → ((0 ≤ (bi σ 87 l7) ∧ (bi σ 87 l7) < 16) ∧ (bRg ((bi σ 153 l4) - 1) ∧ (((bi σ 153 (bi σ 87 l7)) = ((bi σ 153 l4) - 1) → ((l6 = (-1) → (bRg (l7 + 1) ∧ A (48, [.ref 12, v1, v2, .int (bn l3), .int (bn l4), .int (bn l5), .int (bn (bi σ 87 l7)), .int (bn (l7 + 1)), .int (bn 1)], [], σ))) ∧ (¬ l6 = (-1) → (((bi σ 87 l7) < l6 → (bRg (l7 + 1) ∧ A (48, [.ref 12, v1, v2, .int (bn l3), .int (bn l4), .int (bn l5), .int (bn (bi σ 87 l7)), .int (bn (l7 + 1)), .int (bn 1)], [], σ))) ∧ (¬ (bi σ 87 l7) < l6 → (bRg (l7 + 1) ∧ A (48, [.ref 12, v1, v2, .int (bn l3), .int (bn l4), .int (bn l5), .int (bn l6), .int (bn (l7 + 1)), .int (bn 1)], [], σ))))))) ∧ (¬ (bi σ 153 (bi σ 87 l7)) = ((bi σ 153 l4) - 1) → (bRg (l7 + 1) ∧ A (48, [.ref 12, v1, v2, .int (bn l3), .int (bn l4), .int (bn l5), .int (bn l6), .int (bn (l7 + 1)), .int (bn 0)], [], σ))))))) ∧ (¬ (bi σ 86 l7) = 2 → (bRg (l7 + 1) ∧ A (48, [.ref 12, v1, v2, .int (bn l3), .int (bn l4), .int (bn l5), .int (bn l6), .int (bn (l7 + 1)), .int (bn 0)], [], σ)))))) ∧ (¬ l7 < ((6 * l4) + (bi σ 85 l4)) → (bRg (l5 + 1) ∧ A (39, [.ref 12, v1, v2, .int (bn l3), .int (bn l6), .int (bn (l5 + 1)), .int (bn l6), .int (bn l7), v8], [], σ)))))))) : A (48, [.ref 12, v1, v2, .int (bn l3), .int (bn l4), .int (bn l5), .int (bn l6), .int (bn l7), v8], [], σ) := by
  refine bGo hA 3 0 (83, .iload 7, 2, 49, 0, [7], []) rfl rfl rfl ?_
  refine bGo hA 3 1 (85, .bipush (6), 2, 50, 0, [], [(6, 0)]) rfl rfl rfl ?_
  refine bEqI bl_6 ?_
  refine bGo hA 3 2 (87, .iload 4, 2, 51, 0, [4], []) rfl rfl rfl ?_
  refine bGo hA 3 3 (89, .imul, 1, 52, 0, [], []) rfl rfl rfl ?_
  refine bEqI (bn_mul 6 l4) ?_
  refine bGo hA 3 4 (90, .aload_n 0, 1, 53, 0, [0], []) rfl rfl rfl ?_
  refine bGo hA 3 5 (91, .getfield 98, 3, 54, 0, [12, 33, 3, 85, 1, 0], []) rfl rfl rfl ?_
  refine ⟨rfl, ?_⟩
  refine bGo hA 3 6 (94, .iload 4, 2, 55, 0, [4], []) rfl rfl rfl ?_
  refine bGo hA 3 7 (96, .iaload, 1, 56, 0, [], []) rfl rfl rfl ?_
  refine ⟨rfl, (bIxP (x := l4) (n := 16) h_l4 h.2.1), ?_⟩
  refine bEqL (x := l4) h_l4 ?_
  refine bGo hA 3 8 (97, .iadd, 1, 57, 0, [], []) rfl rfl rfl ?_
  refine bEqI (bn_add (6 * l4) (bi σ 85 l4)) ?_
  refine bGo hA 3 9 (98, .if_icmp .ge (88), 3, 58, 102, [], []) rfl rfl rfl ?_
  refine bB_lt (x := l7) (y := ((6 * l4) + (bi σ 85 l4))) h_l7 h.2.2.1 (fun c1 => ?_) (fun c1 => ?_)
  · refine bGo hA 3 10 (101, .aload_n 0, 1, 59, 0, [0], []) rfl rfl rfl ?_
    refine bGo hA 3 11 (102, .getfield 101, 3, 60, 0, [12, 34, 3, 86, 1, 0], []) rfl rfl rfl ?_
    refine ⟨rfl, ?_⟩
    refine bGo hA 3 12 (105, .iload 7, 2, 61, 0, [7], []) rfl rfl rfl ?_
    refine bGo hA 3 13 (107, .iaload, 1, 62, 0, [], []) rfl rfl rfl ?_
    refine ⟨rfl, (bIxP (x := l7) (n := 96) h_l7 (h.2.2.2.1 c1).1), ?_⟩
    refine bEqL (x := l7) h_l7 ?_
    refine bGo hA 3 14 (108, .iconst (2), 1, 63, 0, [], [(2, 0)]) rfl rfl rfl ?_
    refine bEqI bl_2 ?_
    refine bGo hA 3 15 (109, .if_icmp .ne (31), 3, 64, 80, [], []) rfl rfl rfl ?_
    refine bB_eq (x := (bi σ 86 l7)) (y := 2) (bi_rg _ _ _) (by decide : bRg 2) (fun c2 => ?_) (fun c2 => ?_)
    · refine bGo hA 4 0 (112, .aload_n 0, 1, 65, 0, [0], []) rfl rfl rfl ?_
      refine bGo hA 4 1 (113, .getfield 302, 3, 66, 0, [12, 113, 3, 153, 1, 0], []) rfl rfl rfl ?_
      refine ⟨rfl, ?_⟩
      refine bGo hA 4 2 (116, .aload_n 0, 1, 67, 0, [0], []) rfl rfl rfl ?_
      refine bGo hA 4 3 (117, .getfield 104, 3, 68, 0, [12, 35, 3, 87, 1, 0], []) rfl rfl rfl ?_
      refine ⟨rfl, ?_⟩
      refine bGo hA 4 4 (120, .iload 7, 2, 69, 0, [7], []) rfl rfl rfl ?_
      refine bGo hA 4 5 (122, .iaload, 1, 70, 0, [], []) rfl rfl rfl ?_
      refine ⟨rfl, (bIxP (x := l7) (n := 96) h_l7 (h.2.2.2.1 c1).1), ?_⟩
      refine bEqL (x := l7) h_l7 ?_
      refine bGo hA 4 6 (123, .iaload, 1, 71, 0, [], []) rfl rfl rfl ?_
      refine ⟨rfl, (bIxP (x := (bi σ 87 l7)) (n := 16) (bi_rg _ _ _) ((h.2.2.2.1 c1).2.1 c2).1), ?_⟩
      refine bEqL (x := (bi σ 87 l7)) (bi_rg _ _ _) ?_
      refine bGo hA 4 7 (124, .aload_n 0, 1, 72, 0, [0], []) rfl rfl rfl ?_
      refine bGo hA 4 8 (125, .getfield 302, 3, 73, 0, [12, 113, 3, 153, 1, 0], []) rfl rfl rfl ?_
      refine ⟨rfl, ?_⟩
      refine bGo hA 4 9 (128, .iload 4, 2, 74, 0, [4], []) rfl rfl rfl ?_
      refine bGo hA 4 10 (130, .iaload, 1, 75, 0, [], []) rfl rfl rfl ?_
      refine ⟨rfl, (bIxP (x := l4) (n := 16) h_l4 h.2.1), ?_⟩
      refine bEqL (x := l4) h_l4 ?_
      refine bGo hA 4 11 (131, .iconst (1), 1, 76, 0, [], [(1, 0)]) rfl rfl rfl ?_
      refine bEqI bl_1 ?_
      refine bGo hA 4 12 (132, .isub, 1, 77, 0, [], []) rfl rfl rfl ?_
      refine bEqI (bn_sub (bi σ 153 l4) 1) ?_
      refine bGo hA 4 13 (133, .if_icmp .ne (7), 3, 78, 80, [], []) rfl rfl rfl ?_
      refine bB_eq (x := (bi σ 153 (bi σ 87 l7))) (y := ((bi σ 153 l4) - 1)) (bi_rg _ _ _) ((h.2.2.2.1 c1).2.1 c2).2.1 (fun c3 => ?_) (fun c3 => ?_)
      · refine bGo hA 4 14 (136, .iconst (1), 1, 79, 0, [], [(1, 0)]) rfl rfl rfl ?_
        refine bEqI bl_1 ?_
        refine bGo hA 4 15 (137, .goto (4), 3, 80, 81, [], []) rfl rfl rfl ?_
        refine bGo hA 5 1 (141, .istore 8, 2, 82, 0, [8], []) rfl rfl rfl ?_
        refine bGo hA 5 2 (143, .iload 8, 2, 83, 0, [8], []) rfl rfl rfl ?_
        refine bGo hA 5 3 (145, .ifCond .eq (31), 3, 84, 98, [], []) rfl rfl rfl ?_
        refine ⟨fun c => absurd c (by decide), fun _ => ?_⟩
        refine bGo hA 5 4 (148, .iload 6, 2, 85, 0, [6], []) rfl rfl rfl ?_
        refine bGo hA 5 5 (150, .iconst (-1), 1, 86, 0, [], [(-1, 0)]) rfl rfl rfl ?_
        refine bEqI bl_m1 ?_
        refine bGo hA 5 6 (151, .if_icmp .eq (15), 3, 87, 93, [], []) rfl rfl rfl ?_
        refine bB_eq (x := l6) (y := (-1)) h_l6 (by decide : bRg (-1)) (fun c5 => ?_) (fun c5 => ?_)
        · refine bGo hA 5 13 (166, .aload_n 0, 1, 94, 0, [0], []) rfl rfl rfl ?_
          refine bGo hA 5 14 (167, .getfield 104, 3, 95, 0, [12, 35, 3, 87, 1, 0], []) rfl rfl rfl ?_
          refine ⟨rfl, ?_⟩
          refine bGo hA 5 15 (170, .iload 7, 2, 96, 0, [7], []) rfl rfl rfl ?_
          refine bGo hA 6 0 (172, .iaload, 1, 97, 0, [], []) rfl rfl rfl ?_
          refine ⟨rfl, (bIxP (x := l7) (n := 96) h_l7 (h.2.2.2.1 c1).1), ?_⟩
          refine bEqL (x := l7) h_l7 ?_
          refine bGo hA 6 1 (173, .goto (5), 3, 98, 99, [], []) rfl rfl rfl ?_
          refine bGo hA 6 3 (178, .istore 6, 2, 100, 0, [6], []) rfl rfl rfl ?_
          refine bGo hA 6 4 (180, .iinc 7 (1), 3, 101, 0, [7], [(1, 0)]) rfl rfl rfl ?_
          refine bEqC (fun v => A (101, [.ref 12, v1, v2, .int (bn l3), .int (bn l4), .int (bn l5), .int (bn (bi σ 87 l7)), .int v, .int (bn 1)], [], σ)) ((congrArg (fun w => bn l7 + w) bl_1).trans (bn_add l7 1)) ?_
          refine bGo hA 6 5 (183, .goto (-100), 3, 102, 48, [], []) rfl rfl rfl ?_
          exact ((((h.2.2.2.1 c1).2.1 c2).2.2.1 c3).1 c5).2
        · refine bGo hA 5 7 (154, .aload_n 0, 1, 88, 0, [0], []) rfl rfl rfl ?_
          refine bGo hA 5 8 (155, .getfield 104, 3, 89, 0, [12, 35, 3, 87, 1, 0], []) rfl rfl rfl ?_
          refine ⟨rfl, ?_⟩
          refine bGo hA 5 9 (158, .iload 7, 2, 90, 0, [7], []) rfl rfl rfl ?_
          refine bGo hA 5 10 (160, .iaload, 1, 91, 0, [], []) rfl rfl rfl ?_
          refine ⟨rfl, (bIxP (x := l7) (n := 96) h_l7 (h.2.2.2.1 c1).1), ?_⟩
          refine bEqL (x := l7) h_l7 ?_
          refine bGo hA 5 11 (161, .iload 6, 2, 92, 0, [6], []) rfl rfl rfl ?_
          refine bGo hA 5 12 (163, .if_icmp .ge (13), 3, 93, 98, [], []) rfl rfl rfl ?_
          refine bB_lt (x := (bi σ 87 l7)) (y := l6) (bi_rg _ _ _) h_l6 (fun c6 => ?_) (fun c6 => ?_)
          · refine bGo hA 5 13 (166, .aload_n 0, 1, 94, 0, [0], []) rfl rfl rfl ?_
            refine bGo hA 5 14 (167, .getfield 104, 3, 95, 0, [12, 35, 3, 87, 1, 0], []) rfl rfl rfl ?_
            refine ⟨rfl, ?_⟩
            refine bGo hA 5 15 (170, .iload 7, 2, 96, 0, [7], []) rfl rfl rfl ?_
            refine bGo hA 6 0 (172, .iaload, 1, 97, 0, [], []) rfl rfl rfl ?_
            refine ⟨rfl, (bIxP (x := l7) (n := 96) h_l7 (h.2.2.2.1 c1).1), ?_⟩
            refine bEqL (x := l7) h_l7 ?_
            refine bGo hA 6 1 (173, .goto (5), 3, 98, 99, [], []) rfl rfl rfl ?_
            refine bGo hA 6 3 (178, .istore 6, 2, 100, 0, [6], []) rfl rfl rfl ?_
            refine bGo hA 6 4 (180, .iinc 7 (1), 3, 101, 0, [7], [(1, 0)]) rfl rfl rfl ?_
            refine bEqC (fun v => A (101, [.ref 12, v1, v2, .int (bn l3), .int (bn l4), .int (bn l5), .int (bn (bi σ 87 l7)), .int v, .int (bn 1)], [], σ)) ((congrArg (fun w => bn l7 + w) bl_1).trans (bn_add l7 1)) ?_
            refine bGo hA 6 5 (183, .goto (-100), 3, 102, 48, [], []) rfl rfl rfl ?_
            exact (((((h.2.2.2.1 c1).2.1 c2).2.2.1 c3).2 c5).1 c6).2
          · refine bGo hA 6 2 (176, .iload 6, 2, 99, 0, [6], []) rfl rfl rfl ?_
            refine bGo hA 6 3 (178, .istore 6, 2, 100, 0, [6], []) rfl rfl rfl ?_
            refine bGo hA 6 4 (180, .iinc 7 (1), 3, 101, 0, [7], [(1, 0)]) rfl rfl rfl ?_
            refine bEqC (fun v => A (101, [.ref 12, v1, v2, .int (bn l3), .int (bn l4), .int (bn l5), .int (bn l6), .int v, .int (bn 1)], [], σ)) ((congrArg (fun w => bn l7 + w) bl_1).trans (bn_add l7 1)) ?_
            refine bGo hA 6 5 (183, .goto (-100), 3, 102, 48, [], []) rfl rfl rfl ?_
            exact (((((h.2.2.2.1 c1).2.1 c2).2.2.1 c3).2 c5).2 c6).2
      · refine bGo hA 5 0 (140, .iconst (0), 1, 81, 0, [], [(0, 0)]) rfl rfl rfl ?_
        refine bEqI bl_0 ?_
        refine bGo hA 5 1 (141, .istore 8, 2, 82, 0, [8], []) rfl rfl rfl ?_
        refine bGo hA 5 2 (143, .iload 8, 2, 83, 0, [8], []) rfl rfl rfl ?_
        refine bGo hA 5 3 (145, .ifCond .eq (31), 3, 84, 98, [], []) rfl rfl rfl ?_
        refine ⟨fun _ => ?_, fun c => absurd (by decide) c⟩
        refine bGo hA 6 2 (176, .iload 6, 2, 99, 0, [6], []) rfl rfl rfl ?_
        refine bGo hA 6 3 (178, .istore 6, 2, 100, 0, [6], []) rfl rfl rfl ?_
        refine bGo hA 6 4 (180, .iinc 7 (1), 3, 101, 0, [7], [(1, 0)]) rfl rfl rfl ?_
        refine bEqC (fun v => A (101, [.ref 12, v1, v2, .int (bn l3), .int (bn l4), .int (bn l5), .int (bn l6), .int v, .int (bn 0)], [], σ)) ((congrArg (fun w => bn l7 + w) bl_1).trans (bn_add l7 1)) ?_
        refine bGo hA 6 5 (183, .goto (-100), 3, 102, 48, [], []) rfl rfl rfl ?_
        exact (((h.2.2.2.1 c1).2.1 c2).2.2.2 c3).2
    · refine bGo hA 5 0 (140, .iconst (0), 1, 81, 0, [], [(0, 0)]) rfl rfl rfl ?_
      refine bEqI bl_0 ?_
      refine bGo hA 5 1 (141, .istore 8, 2, 82, 0, [8], []) rfl rfl rfl ?_
      refine bGo hA 5 2 (143, .iload 8, 2, 83, 0, [8], []) rfl rfl rfl ?_
      refine bGo hA 5 3 (145, .ifCond .eq (31), 3, 84, 98, [], []) rfl rfl rfl ?_
      refine ⟨fun _ => ?_, fun c => absurd (by decide) c⟩
      refine bGo hA 6 2 (176, .iload 6, 2, 99, 0, [6], []) rfl rfl rfl ?_
      refine bGo hA 6 3 (178, .istore 6, 2, 100, 0, [6], []) rfl rfl rfl ?_
      refine bGo hA 6 4 (180, .iinc 7 (1), 3, 101, 0, [7], [(1, 0)]) rfl rfl rfl ?_
      refine bEqC (fun v => A (101, [.ref 12, v1, v2, .int (bn l3), .int (bn l4), .int (bn l5), .int (bn l6), .int v, .int (bn 0)], [], σ)) ((congrArg (fun w => bn l7 + w) bl_1).trans (bn_add l7 1)) ?_
      refine bGo hA 6 5 (183, .goto (-100), 3, 102, 48, [], []) rfl rfl rfl ?_
      exact ((h.2.2.2.1 c1).2.2 c2).2
  · refine bGo hA 6 6 (186, .iload 6, 2, 103, 0, [6], []) rfl rfl rfl ?_
    refine bGo hA 6 7 (188, .istore 4, 2, 104, 0, [4], []) rfl rfl rfl ?_
    refine bGo hA 6 8 (190, .iinc 5 (1), 3, 105, 0, [5], [(1, 0)]) rfl rfl rfl ?_
    refine bEqC (fun v => A (105, [.ref 12, v1, v2, .int (bn l3), .int (bn l6), .int v, .int (bn l6), .int (bn l7), v8], [], σ)) ((congrArg (fun w => bn l5 + w) bl_1).trans (bn_add l5 1)) ?_
    refine bGo hA 6 9 (193, .goto (-126), 3, 106, 39, [], []) rfl rfl rfl ?_
    exact (h.2.2.2.2 c1).2

theorem sq311_0 {lvl : Nat} {C : bCall} {Q : bPost} {A : bPt → Prop} (hC : bMono C) (hA : bClosed lvl bm311 C Q A) {x1 : Int} {σ : bSt}  (h_x1 : bRg x1)
  (h : A (6, [.ref 12, .int (bn x1), .int (bn (bShl 1 x1)), .int (bn x1), .float 0], [], σ)) : A (0, [.ref 12, .int (bn x1), .float 0, .float 0, .float 0], [], σ) := by
  refine bGo hA 0 0 (0, .iconst (1), 1, 1, 0, [], [(1, 0)]) rfl rfl rfl ?_
  refine bEqI bl_1 ?_
  refine bGo hA 0 1 (1, .iload_n 1, 1, 2, 0, [1], []) rfl rfl rfl ?_
  refine bGo hA 0 2 (2, .ishl, 1, 3, 0, [], []) rfl rfl rfl ?_
  refine bEqI (bn_shl 1 x1) ?_
  refine bGo hA 0 3 (3, .istore_n 2, 1, 4, 0, [2], []) rfl rfl rfl ?_
  refine bGo hA 0 4 (4, .iload_n 1, 1, 5, 0, [1], []) rfl rfl rfl ?_
  refine bGo hA 0 5 (5, .istore_n 3, 1, 6, 0, [3], []) rfl rfl rfl ?_
  exact h

theorem sq311_6 {lvl : Nat} {C : bCall} {Q : bPost} {A : bPt → Prop} (hC : bMono C) (hA : bClosed lvl bm311 C Q A) {v1 : Value} {l2 : Int} {l3 : Int} {v4 : Value} {σ : bSt}  (h_l2 : bRg l2) (h_l3 : bRg l3)
  (h : ((l3 < 0 → Q (.inl (some (.int (bn l2)))) σ) ∧ (¬ l3 < 0 → (bRg (6 * l3) ∧ A (12, [.ref 12, v1, .int (bn l2), .int (bn l3), .int (bn (6 * l3))], [], σ))))) : A (6, [.ref 12, v1, .int (bn l2), .int (bn l3), v4], [], σ) := by
  refine bGo hA 0 6 (6, .iload_n 3, 1, 7, 0, [3], []) rfl rfl rfl ?_
  refine bGo hA 0 7 (7, .ifCond .lt (73), 3, 8, 50, [], []) rfl rfl rfl ?_
  refine bB_lt0 (x := l3) h_l3 (fun c1 => ?_) (fun c1 => ?_)
  · refine bGo hA 3 2 (80, .iload_n 2, 1, 51, 0, [2], []) rfl rfl rfl ?_
    refine bGo hA 3 3 (81, .ireturn, 1, 0, 0, [1], []) rfl rfl rfl ?_
    exact (h.1 c1)
  · refine bGo hA 0 8 (10, .bipush (6), 2, 9, 0, [], [(6, 0)]) rfl rfl rfl ?_
    refine bEqI bl_6 ?_
    refine bGo hA 0 9 (12, .iload_n 3, 1, 10, 0, [3], []) rfl rfl rfl ?_
    refine bGo hA 0 10 (13, .imul, 1, 11, 0, [], []) rfl rfl rfl ?_
    refine bEqI (bn_mul 6 l3) ?_
    refine bGo hA 0 11 (14, .istore 4, 2, 12, 0, [4], []) rfl rfl rfl ?_
    exact (h.2 c1).2

theorem sq311_12 {lvl : Nat} {C : bCall} {Q : bPost} {A : bPt → Prop} (hC : bMono C) (hA : bClosed lvl bm311 C Q A) {v1 : Value} {l2 : Int} {l3 : Int} {l4 : Int} {σ : bSt}  (h_l2 : bRg l2) (h_l3 : bRg l3) (h_l4 : bRg l4)
  (h : (bRg (6 * l3) ∧ ((0 ≤ l3 ∧ l3 < 16) ∧ (bRg ((6 * l3) + (bi σ 85 l3)) ∧ ((l4 < ((6 * l3) + (bi σ 85 l3)) → (((bAnd (bShr l2 l3) 1) = 1 → ((0 ≤ l4 ∧ l4 < 96) ∧ (((bi σ 86 l4) = 2 → (bRg (l4 + 1) ∧ A (12, [.ref 12, (bUnl v1), .int (bn (bOr l2 (bShl 1 (bi σ 87 l4)))), .int (bn l3), .int (bn (l4 + 1))], [], σ))) ∧ (¬ (bi σ 86 l4) = 2 → (bRg (l4 + 1) ∧ A (12, [.ref 12, (bUnl v1), .int (bn (bOr l2 0)), .int (bn l3), .int (bn (l4 + 1))], [], σ)))))) ∧ (¬ (bAnd (bShr l2 l3) 1) = 1 → (bRg (l3 + (-1)) ∧ A (6, [.ref 12, v1, .int (bn l2), .int (bn (l3 + (-1))), .int (bn l4)], [], σ))))) ∧ (¬ l4 < ((6 * l3) + (bi σ 85 l3)) → (bRg (l3 + (-1)) ∧ A (6, [.ref 12, v1, .int (bn l2), .int (bn (l3 + (-1))), .int (bn l4)], [], σ)))))))) : A (12, [.ref 12, v1, .int (bn l2), .int (bn l3), .int (bn l4)], [], σ) := by
  refine bGo hA 0 12 (16, .iload 4, 2, 13, 0, [4], []) rfl rfl rfl ?_
  refine bGo hA 0 13 (18, .bipush (6), 2, 14, 0, [], [(6, 0)]) rfl rfl rfl ?_
  refine bEqI bl_6 ?_
  refine bGo hA 0 14 (20, .iload_n 3, 1, 15, 0, [3], []) rfl rfl rfl ?_
  refine bGo hA 0 15 (21, .imul, 1, 16, 0, [], []) rfl rfl rfl ?_
  refine bEqI (bn_mul 6 l3) ?_
  refine bGo hA 1 0 (22, .aload_n 0, 1, 17, 0, [0], []) rfl rfl rfl ?_
  refine bGo hA 1 1 (23, .getfield 98, 3, 18, 0, [12, 33, 3, 85, 1, 0], []) rfl rfl rfl ?_
  refine ⟨rfl, ?_⟩
  refine bGo hA 1 2 (26, .iload_n 3, 1, 19, 0, [3], []) rfl rfl rfl ?_
  refine bGo hA 1 3 (27, .iaload, 1, 20, 0, [], []) rfl rfl rfl ?_
  refine ⟨rfl, (bIxP (x := l3) (n := 16) h_l3 h.2.1), ?_⟩
  refine bEqL (x := l3) h_l3 ?_
  refine bGo hA 1 4 (28, .iadd, 1, 21, 0, [], []) rfl rfl rfl ?_
  refine bEqI (bn_add (6 * l3) (bi σ 85 l3)) ?_
  refine bGo hA 1 5 (29, .if_icmp .ge (45), 3, 22, 48, [], []) rfl rfl rfl ?_
  refine bB_lt (x := l4) (y := ((6 * l3) + (bi σ 85 l3))) h_l4 h.2.2.1 (fun c1 => ?_) (fun c1 => ?_)
  · refine bGo hA 1 6 (32, .iload_n 2, 1, 23, 0, [2], []) rfl rfl rfl ?_
    refine bGo hA 1 7 (33, .iload_n 3, 1, 24, 0, [3], []) rfl rfl rfl ?_
    refine bGo hA 1 8 (34, .ishr, 1, 25, 0, [], []) rfl rfl rfl ?_
    refine bEqI (bn_shr l2 l3) ?_
    refine bGo hA 1 9 (35, .iconst (1), 1, 26, 0, [], [(1, 0)]) rfl rfl rfl ?_
    refine bEqI bl_1 ?_
    refine bGo hA 1 10 (36, .iand, 1, 27, 0, [], []) rfl rfl rfl ?_
    refine bEqI (bn_and (bShr l2 l3) 1) ?_
    refine bGo hA 1 11 (37, .iconst (1), 1, 28, 0, [], [(1, 0)]) rfl rfl rfl ?_
    refine bEqI bl_1 ?_
    refine bGo hA 1 12 (38, .if_icmp .ne (36), 3, 29, 48, [], []) rfl rfl rfl ?_
    refine bB_eq (x := (bAnd (bShr l2 l3) 1)) (y := 1) (bRgI _) (by decide : bRg 1) (fun c2 => ?_) (fun c2 => ?_)
    · refine bGo hA 1 13 (41, .iload_n 2, 1, 30, 0, [2], []) rfl rfl rfl ?_
      refine bGo hA 1 14 (42, .aload_n 0, 1, 31, 0, [0], []) rfl rfl rfl ?_
      refine bGo hA 1 15 (43, .getfield 101, 3, 32, 0, [12, 34, 3, 86, 1, 0], []) rfl rfl rfl ?_
      refine ⟨rfl, ?_⟩
      refine bGo hA 2 0 (46, .iload 4, 2, 33, 0, [4], []) rfl rfl rfl ?_
      refine bGo hA 2 1 (48, .iaload, 1, 34, 0, [], []) rfl rfl rfl ?_
      refine ⟨rfl, (bIxP (x := l4) (n := 96) h_l4 ((h.2.2.2.1 c1).1 c2).1), ?_⟩
      refine bEqL (x := l4) h_l4 ?_
      refine bGo hA 2 2 (49, .iconst (2), 1, 35, 0, [], [(2, 0)]) rfl rfl rfl ?_
      refine bEqI bl_2 ?_
      refine bGo hA 2 3 (50, .if_icmp .ne (15), 3, 36, 43, [], []) rfl rfl rfl ?_
      refine bB_eq (x := (bi σ 86 l4)) (y := 2) (bi_rg _ _ _) (by decide : bRg 2) (fun c3 => ?_) (fun c3 => ?_)
      · refine bGo hA 2 4 (53, .iconst (1), 1, 37, 0, [], [(1, 0)]) rfl rfl rfl ?_
        refine bEqI bl_1 ?_
        refine bGo hA 2 5 (54, .aload_n 0, 1, 38, 0, [0], []) rfl rfl rfl ?_
        refine bGo hA 2 6 (55, .getfield 104, 3, 39, 0, [12, 35, 3, 87, 1, 0], []) rfl rfl rfl ?_
        refine ⟨rfl, ?_⟩
        refine bGo hA 2 7 (58, .iload 4, 2, 40, 0, [4], []) rfl rfl rfl ?_
        refine bGo hA 2 8 (60, .iaload, 1, 41, 0, [], []) rfl rfl rfl ?_
        refine ⟨rfl, (bIxP (x := l4) (n := 96) h_l4 ((h.2.2.2.1 c1).1 c2).1), ?_⟩
        refine bEqL (x := l4) h_l4 ?_
        refine bGo hA 2 9 (61, .ishl, 1, 42, 0, [], []) rfl rfl rfl ?_
        refine bEqI (bn_shl 1 (bi σ 87 l4)) ?_
        refine bGo hA 2 10 (62, .goto (4), 3, 43, 44, [], []) rfl rfl rfl ?_
        refine bGo hA 2 12 (66, .ior, 1, 45, 0, [], []) rfl rfl rfl ?_
        refine bEqI (bn_or l2 (bShl 1 (bi σ 87 l4))) ?_
        refine bGo hA 2 13 (67, .istore_n 2, 1, 46, 0, [2], []) rfl rfl rfl ?_
        refine bGo hA 2 14 (68, .iinc 4 (1), 3, 47, 0, [4], [(1, 0)]) rfl rfl rfl ?_
        refine bEqC (fun v => A (47, [.ref 12, (bUnl v1), .int (bn (bOr l2 (bShl 1 (bi σ 87 l4)))), .int (bn l3), .int v], [], σ)) ((congrArg (fun w => bn l4 + w) bl_1).trans (bn_add l4 1)) ?_
        refine bGo hA 2 15 (71, .goto (-55), 3, 48, 12, [], []) rfl rfl rfl ?_
        exact (((h.2.2.2.1 c1).1 c2).2.1 c3).2
      · refine bGo hA 2 11 (65, .iconst (0), 1, 44, 0, [], [(0, 0)]) rfl rfl rfl ?_
        refine bEqI bl_0 ?_
        refine bGo hA 2 12 (66, .ior, 1, 45, 0, [], []) rfl rfl rfl ?_
        refine bEqI (bn_or l2 0) ?_
        refine bGo hA 2 13 (67, .istore_n 2, 1, 46, 0, [2], []) rfl rfl rfl ?_
        refine bGo hA 2 14 (68, .iinc 4 (1), 3, 47, 0, [4], [(1, 0)]) rfl rfl rfl ?_
        refine bEqC (fun v => A (47, [.ref 12, (bUnl v1), .int (bn (bOr l2 0)), .int (bn l3), .int v], [], σ)) ((congrArg (fun w => bn l4 + w) bl_1).trans (bn_add l4 1)) ?_
        refine bGo hA 2 15 (71, .goto (-55), 3, 48, 12, [], []) rfl rfl rfl ?_
        exact (((h.2.2.2.1 c1).1 c2).2.2 c3).2
    · refine bGo hA 3 0 (74, .iinc 3 (-1), 3, 49, 0, [3], [(-1, 0)]) rfl rfl rfl ?_
      refine bEqC (fun v => A (49, [.ref 12, v1, .int (bn l2), .int v, .int (bn l4)], [], σ)) ((congrArg (fun w => bn l3 + w) bl_m1).trans (bn_add l3 (-1))) ?_
      refine bGo hA 3 1 (77, .goto (-71), 3, 50, 6, [], []) rfl rfl rfl ?_
      exact ((h.2.2.2.1 c1).2 c2).2
  · refine bGo hA 3 0 (74, .iinc 3 (-1), 3, 49, 0, [3], [(-1, 0)]) rfl rfl rfl ?_
    refine bEqC (fun v => A (49, [.ref 12, v1, .int (bn l2), .int v, .int (bn l4)], [], σ)) ((congrArg (fun w => bn l3 + w) bl_m1).trans (bn_add l3 (-1))) ?_
    refine bGo hA 3 1 (77, .goto (-71), 3, 50, 6, [], []) rfl rfl rfl ?_
    exact (h.2.2.2.2 c1).2

theorem sq312_0 {lvl : Nat} {C : bCall} {Q : bPost} {A : bPt → Prop} (hC : bMono C) (hA : bClosed lvl bm312 C Q A) {x1 : Int} {x2 : Int} {σ : bSt}  (h_x1 : bRg x1) (h_x2 : bRg x2)
  (h : (C 225 [.ref 12, .int (bn x1)] σ (bRn (fun r3 s1 => ((r3 = 0 → (C 197 [.ref 12, .int (bn 1)] s1 (bRn (fun r8 s6 => ((r8 = 0 → (C 309 [.ref 12, .int (bn x2)] s6 (bRv (fun s11 => A (23, [.ref 12, .int (bn x1), .int (bn x2), .int (bn 0), .int (bn 0)], [], s11))))) ∧ (¬ r8 = 0 → Q (.inl (some (.int (bn 0)))) s6)))))) ∧ (¬ r3 = 0 → (C 225 [.ref 12, .int (bn x2)] s1 (bRn (fun r15 s13 => ((r15 = 0 → (C 197 [.ref 12, .int (bn 1)] s13 (bRn (fun r20 s18 => ((r20 = 0 → (C 309 [.ref 12, .int (bn x2)] s18 (bRv (fun s23 => A (23, [.ref 12, .int (bn x1), .int (bn x2), .int (bn 0), .int (bn 0)], [], s23))))) ∧ (¬ r20 = 0 → Q (.inl (some (.int (bn 0)))) s18)))))) ∧ (¬ r15 = 0 → (C 197 [.ref 12, .int (bn 0)] s13 (bRn (fun r27 s25 => ((r27 = 0 → (C 309 [.ref 12, .int (bn x2)] s25 (bRv (fun s30 => A (23, [.ref 12, .int (bn x1), .int (bn x2), .int (bn 0), .int (bn 0)], [], s30))))) ∧ (¬ r27 = 0 → Q (.inl (some (.int (bn 0)))) s25)))))))))))))))) : A (0, [.ref 12, .int (bn x1), .int (bn x2), .float 0, .float 0], [], σ) := by
  refine bGo hA 0 0 (0, .aload_n 0, 1, 1, 0, [0], []) rfl rfl rfl ?_
  refine bGo hA 0 1 (1, .aload_n 0, 1, 2, 0, [0], []) rfl rfl rfl ?_
  refine bGo hA 0 2 (2, .iload_n 1, 1, 3, 0, [1], []) rfl rfl rfl ?_
  refine bGo hA 0 3 (3, .invokevirtual 383, 3, 4, 0, [0, 12, 225, 1], []) rfl rfl rfl ?_
  refine ⟨rfl, ?_⟩
  refine hC _ _ _ _ _ (bRn_e (fun r3 s1 q4 k2 => ?_)) h
  show A (4, [.ref 12, .int (bn x1), .int (bn x2), .float 0, .float 0], [.int (bn r3), .ref 12], s1)
  refine bGo hA 0 4 (6, .ifCond .eq (15), 3, 5, 11, [], []) rfl rfl rfl ?_
  refine bB_eq0 (x := r3) q4 (fun c5 => ?_) (fun c5 => ?_)
  · refine bGo hA 0 11 (21, .iconst (1), 1, 12, 0, [], [(1, 0)]) rfl rfl rfl ?_
    refine bEqI bl_1 ?_
    refine bGo hA 0 12 (22, .invokevirtual 333, 3, 13, 0, [0, 12, 197, 1], []) rfl rfl rfl ?_
    refine ⟨rfl, ?_⟩
    refine hC _ _ _ _ _ (bRn_e (fun r8 s6 q9 k7 => ?_)) (k2.1 c5)
    show A (13, [.ref 12, .int (bn x1), .int (bn x2), .float 0, .float 0], [.int (bn r8)], s6)
    refine bGo hA 0 13 (25, .ifCond .eq (5), 3, 14, 16, [], []) rfl rfl rfl ?_
    refine bB_eq0 (x := r8) q9 (fun c10 => ?_) (fun c10 => ?_)
    · refine bGo hA 1 0 (30, .aload_n 0, 1, 17, 0, [0], []) rfl rfl rfl ?_
      refine bGo hA 1 1 (31, .iload_n 2, 1, 18, 0, [2], []) rfl rfl rfl ?_
      refine bGo hA 1 2 (32, .invokevirtual 582, 3, 19, 0, [0, 12, 309, 1], []) rfl rfl rfl ?_
      refine ⟨rfl, ?_⟩
      refine hC _ _ _ _ _ (bRv_e (fun s11 k12 => ?_)) (k7.1 c10)
      show A (19, [.ref 12, .int (bn x1), .int (bn x2), .float 0, .float 0], [], s11)
      refine bGo hA 1 3 (35, .iconst (0), 1, 20, 0, [], [(0, 0)]) rfl rfl rfl ?_
      refine bEqI bl_0 ?_
      refine bGo hA 1 4 (36, .istore_n 3, 1, 21, 0, [3], []) rfl rfl rfl ?_
      refine bGo hA 1 5 (37, .iconst (0), 1, 22, 0, [], [(0, 0)]) rfl rfl rfl ?_
      refine bEqI bl_0 ?_
      refine bGo hA 1 6 (38, .istore 4, 2, 23, 0, [4], []) rfl rfl rfl ?_
      exact k12
    · refine bGo hA 0 14 (28, .iconst (0), 1, 15, 0, [], [(0, 0)]) rfl rfl rfl ?_
      refine bEqI bl_0 ?_
      refine bGo hA 0 15 (29, .ireturn, 1, 16, 0, [1], []) rfl rfl rfl ?_
      exact (k7.2 c10)
  · refine bGo hA 0 5 (9, .aload_n 0, 1, 6, 0, [0], []) rfl rfl rfl ?_
    refine bGo hA 0 6 (10, .iload_n 2, 1, 7, 0, [2], []) rfl rfl rfl ?_
    refine bGo hA 0 7 (11, .invokevirtual 383, 3, 8, 0, [0, 12, 225, 1], []) rfl rfl rfl ?_
    refine ⟨rfl, ?_⟩
    refine hC _ _ _ _ _ (bRn_e (fun r15 s13 q16 k14 => ?_)) (k2.2 c5)
    show A (8, [.ref 12, .int (bn x1), .int (bn x2), .float 0, .float 0], [.int (bn r15), .ref 12], s13)
    refine bGo hA 0 8 (14, .ifCond .eq (7), 3, 9, 11, [], []) rfl rfl rfl ?_
    refine bB_eq0 (x := r15) q16 (fun c17 => ?_) (fun c17 => ?_)
    · refine bGo hA 0 11 (21, .iconst (1), 1, 12, 0, [], [(1, 0)]) rfl rfl rfl ?_
      refine bEqI bl_1 ?_
      refine bGo hA 0 12 (22, .invokevirtual 333, 3, 13, 0, [0, 12, 197, 1], []) rfl rfl rfl ?_
      refine ⟨rfl, ?_⟩
      refine hC _ _ _ _ _ (bRn_e (fun r20 s18 q21 k19 => ?_)) (k14.1 c17)
      show A (13, [.ref 12, .int (bn x1), .int (bn x2), .float 0, .float 0], [.int (bn r20)], s18)
      refine bGo hA 0 13 (25, .ifCond .eq (5), 3, 14, 16, [], []) rfl rfl rfl ?_
      refine bB_eq0 (x := r20) q21 (fun c22 => ?_) (fun c22 => ?_)
      · refine bGo hA 1 0 (30, .aload_n 0, 1, 17, 0, [0], []) rfl rfl rfl ?_
        refine bGo hA 1 1 (31, .iload_n 2, 1, 18, 0, [2], []) rfl rfl rfl ?_
        refine bGo hA 1 2 (32, .invokevirtual 582, 3, 19, 0, [0, 12, 309, 1], []) rfl rfl rfl ?_
        refine ⟨rfl, ?_⟩
        refine hC _ _ _ _ _ (bRv_e (fun s23 k24 => ?_)) (k19.1 c22)
        show A (19, [.ref 12, .int (bn x1), .int (bn x2), .float 0, .float 0], [], s23)
        refine bGo hA 1 3 (35, .iconst (0), 1, 20, 0, [], [(0, 0)]) rfl rfl rfl ?_
        refine bEqI bl_0 ?_
        refine bGo hA 1 4 (36, .istore_n 3, 1, 21, 0, [3], []) rfl rfl rfl ?_
        refine bGo hA 1 5 (37, .iconst (0), 1, 22, 0, [], [(0, 0)]) rfl rfl rfl ?_
        refine bEqI bl_0 ?_
        refine bGo hA 1 6 (38, .istore 4, 2, 23, 0, [4], []) rfl rfl rfl ?_
        exact k24
      · refine bGo hA 0 14 (28, .iconst (0), 1, 15, 0, [], [(0, 0)]) rfl rfl rfl ?_
        refine bEqI bl_0 ?_
        refine bGo hA 0 15 (29, .ireturn, 1, 16, 0, [1], []) rfl rfl rfl ?_
        exact (k19.2 c22)
    · refine bGo hA 0 9 (17, .iconst (0), 1, 10, 0, [], [(0, 0)]) rfl rfl rfl ?_
      refine bEqI bl_0 ?_
      refine bGo hA 0 10 (18, .goto (4), 3, 11, 12, [], []) rfl rfl rfl ?_
      refine bGo hA 0 12 (22, .invokevirtual 333, 3, 13, 0, [0, 12, 197, 1], []) rfl rfl rfl ?_
      refine ⟨rfl, ?_⟩
      refine hC _ _ _ _ _ (bRn_e (fun r27 s25 q28 k26 => ?_)) (k14.2 c17)
      show A (13, [.ref 12, .int (bn x1), .int (bn x2), .float 0, .float 0], [.int (bn r27)], s25)
      refine bGo hA 0 13 (25, .ifCond .eq (5), 3, 14, 16, [], []) rfl rfl rfl ?_
      refine bB_eq0 (x := r27) q28 (fun c29 => ?_) (fun c29 => ?_)
      · refine bGo hA 1 0 (30, .aload_n 0, 1, 17, 0, [0], []) rfl rfl rfl ?_
        refine bGo hA 1 1 (31, .iload_n 2, 1, 18, 0, [2], []) rfl rfl rfl ?_
        refine bGo hA 1 2 (32, .invokevirtual 582, 3, 19, 0, [0, 12, 309, 1], []) rfl rfl rfl ?_
        refine ⟨rfl, ?_⟩
        refine hC _ _ _ _ _ (bRv_e (fun s30 k31 => ?_)) (k26.1 c29)
        show A (19, [.ref 12, .int (bn x1), .int (bn x2), .float 0, .float 0], [], s30)
        refine bGo hA 1 3 (35, .iconst (0), 1, 20, 0, [], [(0, 0)]) rfl rfl rfl ?_
        refine bEqI bl_0 ?_
        refine bGo hA 1 4 (36, .istore_n 3, 1, 21, 0, [3], []) rfl rfl rfl ?_
        refine bGo hA 1 5 (37, .iconst (0), 1, 22, 0, [], [(0, 0)]) rfl rfl rfl ?_
        refine bEqI bl_0 ?_
        refine bGo hA 1 6 (38, .istore 4, 2, 23, 0, [4], []) rfl rfl rfl ?_
        exact k31
      · refine bGo hA 0 14 (28, .iconst (0), 1, 15, 0, [], [(0, 0)]) rfl rfl rfl ?_
        refine bEqI bl_0 ?_
        refine bGo hA 0 15 (29, .ireturn, 1, 16, 0, [1], []) rfl rfl rfl ?_
        exact (k26.2 c29)

theorem sq312_23 {lvl : Nat} {C : bCall} {Q : bPost} {A : bPt → Prop} (hC : bMono C) (hA : bClosed lvl bm312 C Q A) {l1 : Int} {v2 : Value} {l3 : Int} {l4 : Int} {σ : bSt}  (h_l1 : bRg l1) (h_l3 : bRg l3) (h_l4 : bRg l4)
  (h : ((l4 < (bi σ 12 22) → ((0 ≤ l4 ∧ l4 < 16) ∧ (((bi σ 153 l4) = (-1) → (bRg (l4 + 1) ∧ A (23, [.ref 12, .int (bn l1), (bUnl v2), .int (bn (bOr l3 0)), .int (bn (l4 + 1))], [], σ))) ∧ (¬ (bi σ 153 l4) = (-1) → (bRg (l4 + 1) ∧ A (23, [.ref 12, .int (bn l1), (bUnl v2), .int (bn (bOr l3 (bShl 1 l4))), .int (bn (l4 + 1))], [], σ)))))) ∧ (¬ l4 < (bi σ 12 22) → ((0 ≤ l1 ∧ l1 < 16) ∧ (((bi σ 153 l1) = (-1) → Q (.inl (some (.int (bn 0)))) σ) ∧ (¬ (bi σ 153 l1) = (-1) → (C 311 [.ref 12, .int (bn l1)] σ (bRn (fun r6 s4 => Q (.inl (some (.int (bn (bAnd l3 r6))))) s4))))))))) : A (23, [.ref 12, .int (bn l1), v2, .int (bn l3), .int (bn l4)], [], σ) := by
  refine bGo hA 1 7 (40, .iload 4, 2, 24, 0, [4], []) rfl rfl rfl ?_
  refine bGo hA 1 8 (42, .aload_n 0, 1, 25, 0, [0], []) rfl rfl rfl ?_
  refine bGo hA 1 9 (43, .getfield 380, 3, 26, 0, [12, 22, 0, 0, 0, 0], []) rfl rfl rfl ?_
  refine ⟨rfl, ?_⟩
  refine bEqI (bn_bi σ 12 22) ?_
  refine bGo hA 1 10 (46, .if_icmp .ge (31), 3, 27, 43, [], []) rfl rfl rfl ?_
  refine bB_lt (x := l4) (y := (bi σ 12 22)) h_l4 (bi_rg _ _ _) (fun c1 => ?_) (fun c1 => ?_)
  · refine bGo hA 1 11 (49, .iload_n 3, 1, 28, 0, [3], []) rfl rfl rfl ?_
    refine bGo hA 1 12 (50, .aload_n 0, 1, 29, 0, [0], []) rfl rfl rfl ?_
    refine bGo hA 1 13 (51, .getfield 302, 3, 30, 0, [12, 113, 3, 153, 1, 0], []) rfl rfl rfl ?_
    refine ⟨rfl, ?_⟩
    refine bGo hA 1 14 (54, .iload 4, 2, 31, 0, [4], []) rfl rfl rfl ?_
    refine bGo hA 1 15 (56, .iaload, 1, 32, 0, [], []) rfl rfl rfl ?_
    refine ⟨rfl, (bIxP (x := l4) (n := 16) h_l4 (h.1 c1).1), ?_⟩
    refine bEqL (x := l4) h_l4 ?_
    refine bGo hA 2 0 (57, .iconst (-1), 1, 33, 0, [], [(-1, 0)]) rfl rfl rfl ?_
    refine bEqI bl_m1 ?_
    refine bGo hA 2 1 (58, .if_icmp .eq (10), 3, 34, 38, [], []) rfl rfl rfl ?_
    refine bB_eq (x := (bi σ 153 l4)) (y := (-1)) (bi_rg _ _ _) (by decide : bRg (-1)) (fun c2 => ?_) (fun c2 => ?_)
    · refine bGo hA 2 6 (68, .iconst (0), 1, 39, 0, [], [(0, 0)]) rfl rfl rfl ?_
      refine bEqI bl_0 ?_
      refine bGo hA 2 7 (69, .ior, 1, 40, 0, [], []) rfl rfl rfl ?_
      refine bEqI (bn_or l3 0) ?_
      refine bGo hA 2 8 (70, .istore_n 3, 1, 41, 0, [3], []) rfl rfl rfl ?_
      refine bGo hA 2 9 (71, .iinc 4 (1), 3, 42, 0, [4], [(1, 0)]) rfl rfl rfl ?_
      refine bEqC (fun v => A (42, [.ref 12, .int (bn l1), (bUnl v2), .int (bn (bOr l3 0)), .int v], [], σ)) ((congrArg (fun w => bn l4 + w) bl_1).trans (bn_add l4 1)) ?_
      refine bGo hA 2 10 (74, .goto (-34), 3, 43, 23, [], []) rfl rfl rfl ?_
      exact ((h.1 c1).2.1 c2).2
    · refine bGo hA 2 2 (61, .iconst (1), 1, 35, 0, [], [(1, 0)]) rfl rfl rfl ?_
      refine bEqI bl_1 ?_
      refine bGo hA 2 3 (62, .iload 4, 2, 36, 0, [4], []) rfl rfl rfl ?_
      refine bGo hA 2 4 (64, .ishl, 1, 37, 0, [], []) rfl rfl rfl ?_
      refine bEqI (bn_shl 1 l4) ?_
      refine bGo hA 2 5 (65, .goto (4), 3, 38, 39, [], []) rfl rfl rfl ?_
      refine bGo hA 2 7 (69, .ior, 1, 40, 0, [], []) rfl rfl rfl ?_
      refine bEqI (bn_or l3 (bShl 1 l4)) ?_
      refine bGo hA 2 8 (70, .istore_n 3, 1, 41, 0, [3], []) rfl rfl rfl ?_
      refine bGo hA 2 9 (71, .iinc 4 (1), 3, 42, 0, [4], [(1, 0)]) rfl rfl rfl ?_
      refine bEqC (fun v => A (42, [.ref 12, .int (bn l1), (bUnl v2), .int (bn (bOr l3 (bShl 1 l4))), .int v], [], σ)) ((congrArg (fun w => bn l4 + w) bl_1).trans (bn_add l4 1)) ?_
      refine bGo hA 2 10 (74, .goto (-34), 3, 43, 23, [], []) rfl rfl rfl ?_
      exact ((h.1 c1).2.2 c2).2
  · refine bGo hA 2 11 (77, .aload_n 0, 1, 44, 0, [0], []) rfl rfl rfl ?_
    refine bGo hA 2 12 (78, .getfield 302, 3, 45, 0, [12, 113, 3, 153, 1, 0], []) rfl rfl rfl ?_
    refine ⟨rfl, ?_⟩
    refine bGo hA 2 13 (81, .iload_n 1, 1, 46, 0, [1], []) rfl rfl rfl ?_
    refine bGo hA 2 14 (82, .iaload, 1, 47, 0, [], []) rfl rfl rfl ?_
    refine ⟨rfl, (bIxP (x := l1) (n := 16) h_l1 (h.2 c1).1), ?_⟩
    refine bEqL (x := l1) h_l1 ?_
    refine bGo hA 2 15 (83, .iconst (-1), 1, 48, 0, [], [(-1, 0)]) rfl rfl rfl ?_
    refine bEqI bl_m1 ?_
    refine bGo hA 3 0 (84, .if_icmp .ne (7), 3, 49, 51, [], []) rfl rfl rfl ?_
    refine bB_eq (x := (bi σ 153 l1)) (y := (-1)) (bi_rg _ _ _) (by decide : bRg (-1)) (fun c3 => ?_) (fun c3 => ?_)
    · refine bGo hA 3 1 (87, .iconst (0), 1, 50, 0, [], [(0, 0)]) rfl rfl rfl ?_
      refine bEqI bl_0 ?_
      refine bGo hA 3 2 (88, .goto (10), 3, 51, 56, [], []) rfl rfl rfl ?_
      refine bGo hA 3 8 (98, .ireturn, 1, 0, 0, [1], []) rfl rfl rfl ?_
      exact ((h.2 c1).2.1 c3)
    · refine bGo hA 3 3 (91, .iload_n 3, 1, 52, 0, [3], []) rfl rfl rfl ?_
      refine bGo hA 3 4 (92, .aload_n 0, 1, 53, 0, [0], []) rfl rfl rfl ?_
      refine bGo hA 3 5 (93, .iload_n 1, 1, 54, 0, [1], []) rfl rfl rfl ?_
      refine bGo hA 3 6 (94, .invokevirtual 585, 3, 55, 0, [0, 12, 311, 1], []) rfl rfl rfl ?_
      refine ⟨rfl, ?_⟩
      refine hC _ _ _ _ _ (bRn_e (fun r6 s4 q7 k5 => ?_)) ((h.2 c1).2.2 c3)
      show A (55, [.ref 12, .int (bn l1), v2, .int (bn l3), .int (bn l4)], [.int (bn r6), .int (bn l3)], s4)
      refine bGo hA 3 7 (97, .iand, 1, 56, 0, [], []) rfl rfl rfl ?_
      refine bEqI (bn_and l3 r6) ?_
      refine bGo hA 3 8 (98, .ireturn, 1, 0, 0, [1], []) rfl rfl rfl ?_
      exact k5

theorem sq313_0 {lvl : Nat} {C : bCall} {Q : bPost} {A : bPt → Prop} (hC : bMono C) (hA : bClosed lvl bm313 C Q A) {x1 : Int} {σ : bSt}  (h_x1 : bRg x1)
  (h : (C 225 [.ref 12, .int (bn x1)] σ (bRn (fun r3 s1 => ((r3 = 0 → (C 197 [.ref 12, .int (bn 1)] s1 (bRn (fun r8 s6 => ((r8 = 0 → (C 309 [.ref 12, .int (bn x1)] s6 (bRv (fun s11 => A (19, [.ref 12, .int (bn x1), .int (bn 0), .int (bn 0)], [], s11))))) ∧ (¬ r8 = 0 → Q (.inl (some (.int (bn 0)))) s6)))))) ∧ (¬ r3 = 0 → (C 197 [.ref 12, .int (bn 0)] s1 (bRn (fun r15 s13 => ((r15 = 0 → (C 309 [.ref 12, .int (bn x1)] s13 (bRv (fun s18 => A (19, [.ref 12, .int (bn x1), .int (bn 0), .int (bn 0)], [], s18))))) ∧ (¬ r15 = 0 → Q (.inl (some (.int (bn 0)))) s13))))))))))) : A (0, [.ref 12, .int (bn x1), .float 0, .float 0], [], σ) := by
  refine bGo hA 0 0 (0, .aload_n 0, 1, 1, 0, [0], []) rfl rfl rfl ?_
  refine bGo hA 0 1 (1, .aload_n 0, 1, 2, 0, [0], []) rfl rfl rfl ?_
  refine bGo hA 0 2 (2, .iload_n 1, 1, 3, 0, [1], []) rfl rfl rfl ?_
  refine bGo hA 0 3 (3, .invokevirtual 383, 3, 4, 0, [0, 12, 225, 1], []) rfl rfl rfl ?_
  refine ⟨rfl, ?_⟩
  refine hC _ _ _ _ _ (bRn_e (fun r3 s1 q4 k2 => ?_)) h
  show A (4, [.ref 12, .int (bn x1), .float 0, .float 0], [.int (bn r3), .ref 12], s1)
  refine bGo hA 0 4 (6, .ifCond .eq (7), 3, 5, 7, [], []) rfl rfl rfl ?_
  refine bB_eq0 (x := r3) q4 (fun c5 => ?_) (fun c5 => ?_)
  · refine bGo hA 0 7 (13, .iconst (1), 1, 8, 0, [], [(1, 0)]) rfl rfl rfl ?_
    refine bEqI bl_1 ?_
    refine bGo hA 0 8 (14, .invokevirtual 333, 3, 9, 0, [0, 12, 197, 1], []) rfl rfl rfl ?_
    refine ⟨rfl, ?_⟩
    refine hC _ _ _ _ _ (bRn_e (fun r8 s6 q9 k7 => ?_)) (k2.1 c5)
    show A (9, [.ref 12, .int (bn x1), .float 0, .float 0], [.int (bn r8)], s6)
    refine bGo hA 0 9 (17, .ifCond .eq (5), 3, 10, 12, [], []) rfl rfl rfl ?_
    refine bB_eq0 (x := r8) q9 (fun c10 => ?_) (fun c10 => ?_)
    · refine bGo hA 0 12 (22, .aload_n 0, 1, 13, 0, [0], []) rfl rfl rfl ?_
      refine bGo hA 0 13 (23, .iload_n 1, 1, 14, 0, [1], []) rfl rfl rfl ?_
      refine bGo hA 0 14 (24, .invokevirtual 582, 3, 15, 0, [0, 12, 309, 1], []) rfl rfl rfl ?_
      refine ⟨rfl, ?_⟩
      refine hC _ _ _ _ _ (bRv_e (fun s11 k12 => ?_)) (k7.1 c10)
      show A (15, [.ref 12, .int (bn x1), .float 0, .float 0], [], s11)
      refine bGo hA 0 15 (27, .iconst (0), 1, 16, 0, [], [(0, 0)]) rfl rfl rfl ?_
      refine bEqI bl_0 ?_
      refine bGo hA 1 0 (28, .istore_n 2, 1, 17, 0, [2], []) rfl rfl rfl ?_
      refine bGo hA 1 1 (29, .iconst (0), 1, 18, 0, [], [(0, 0)]) rfl rfl rfl ?_
      refine bEqI bl_0 ?_
      refine bGo hA 1 2 (30, .istore_n 3, 1, 19, 0, [3], []) rfl rfl rfl ?_
      exact k12
    · refine bGo hA 0 10 (20, .iconst (0), 1, 11, 0, [], [(0, 0)]) rfl rfl rfl ?_
      refine bEqI bl_0 ?_
      refine bGo hA 0 11 (21, .ireturn, 1, 12, 0, [1], []) rfl rfl rfl ?_
      exact (k7.2 c10)
  · refine bGo hA 0 5 (9, .iconst (0), 1, 6, 0, [], [(0, 0)]) rfl rfl rfl ?_
    refine bEqI bl_0 ?_
    refine bGo hA 0 6 (10, .goto (4), 3, 7, 8, [], []) rfl rfl rfl ?_
    refine bGo hA 0 8 (14, .invokevirtual 333, 3, 9, 0, [0, 12, 197, 1], []) rfl rfl rfl ?_
    refine ⟨rfl, ?_⟩
    refine hC _ _ _ _ _ (bRn_e (fun r15 s13 q16 k14 => ?_)) (k2.2 c5)
    show A (9, [.ref 12, .int (bn x1), .float 0, .float 0], [.int (bn r15)], s13)
    refine bGo hA 0 9 (17, .ifCond .eq (5), 3, 10, 12, [], []) rfl rfl rfl ?_
    refine bB_eq0 (x := r15) q16 (fun c17 => ?_) (fun c17 => ?_)
    · refine bGo hA 0 12 (22, .aload_n 0, 1, 13, 0, [0], []) rfl rfl rfl ?_
      refine bGo hA 0 13 (23, .iload_n 1, 1, 14, 0, [1], []) rfl rfl rfl ?_
      refine bGo hA 0 14 (24, .invokevirtual 582, 3, 15, 0, [0, 12, 309, 1], []) rfl rfl rfl ?_
      refine ⟨rfl, ?_⟩
      refine hC _ _ _ _ _ (bRv_e (fun s18 k19 => ?_)) (k14.1 c17)
      show A (15, [.ref 12, .int (bn x1), .float 0, .float 0], [], s18)
      refine bGo hA 0 15 (27, .iconst (0), 1, 16, 0, [], [(0, 0)]) rfl rfl rfl ?_
      refine bEqI bl_0 ?_
      refine bGo hA 1 0 (28, .istore_n 2, 1, 17, 0, [2], []) rfl rfl rfl ?_
      refine bGo hA 1 1 (29, .iconst (0), 1, 18, 0, [], [(0, 0)]) rfl rfl rfl ?_
      refine bEqI bl_0 ?_
      refine bGo hA 1 2 (30, .istore_n 3, 1, 19, 0, [3], []) rfl rfl rfl ?_
      exact k19
    · refine bGo hA 0 10 (20, .iconst (0), 1, 11, 0, [], [(0, 0)]) rfl rfl rfl ?_
      refine bEqI bl_0 ?_
      refine bGo hA 0 11 (21, .ireturn, 1, 12, 0, [1], []) rfl rfl rfl ?_
      exact (k14.2 c17)

theorem sq313_19 {lvl : Nat} {C : bCall} {Q : bPost} {A : bPt → Prop} (hC : bMono C) (hA : bClosed lvl bm313 C Q A) {v1 : Value} {l2 : Int} {l3 : Int} {σ : bSt}  (h_l2 : bRg l2) (h_l3 : bRg l3)
  (h : ((l3 < (bi σ 12 22) → ((0 ≤ l3 ∧ l3 < 16) ∧ (((bi σ 153 l3) = (-1) → (bRg (l3 + 1) ∧ A (19, [.ref 12, (bUnl v1), .int (bn (bOr l2 0)), .int (bn (l3 + 1))], [], σ))) ∧ (¬ (bi σ 153 l3) = (-1) → (bRg (l3 + 1) ∧ A (19, [.ref 12, (bUnl v1), .int (bn (bOr l2 (bShl 1 l3))), .int (bn (l3 + 1))], [], σ)))))) ∧ (¬ l3 < (bi σ 12 22) → Q (.inl (some (.int (bn l2)))) σ))) : A (19, [.ref 12, v1, .int (bn l2), .int (bn l3)], [], σ) := by
  refine bGo hA 1 3 (31, .iload_n 3, 1, 20, 0, [3], []) rfl rfl rfl ?_
  refine bGo hA 1 4 (32, .aload_n 0, 1, 21, 0, [0], []) rfl rfl rfl ?_
  refine bGo hA 1 5 (33, .getfield 380, 3, 22, 0, [12, 22, 0, 0, 0, 0], []) rfl rfl rfl ?_
  refine ⟨rfl, ?_⟩
  refine bEqI (bn_bi σ 12 22) ?_
  refine bGo hA 1 6 (36, .if_icmp .ge (29), 3, 23, 39, [], []) rfl rfl rfl ?_
  refine bB_lt (x := l3) (y := (bi σ 12 22)) h_l3 (bi_rg _ _ _) (fun c1 => ?_) (fun c1 => ?_)
  · refine bGo hA 1 7 (39, .iload_n 2, 1, 24, 0, [2], []) rfl rfl rfl ?_
    refine bGo hA 1 8 (40, .aload_n 0, 1, 25, 0, [0], []) rfl rfl rfl ?_
    refine bGo hA 1 9 (41, .getfield 302, 3, 26, 0, [12, 113, 3, 153, 1, 0], []) rfl rfl rfl ?_
    refine ⟨rfl, ?_⟩
    refine bGo hA 1 10 (44, .iload_n 3, 1, 27, 0, [3], []) rfl rfl rfl ?_
    refine bGo hA 1 11 (45, .iaload, 1, 28, 0, [], []) rfl rfl rfl ?_
    refine ⟨rfl, (bIxP (x := l3) (n := 16) h_l3 (h.1 c1).1), ?_⟩
    refine bEqL (x := l3) h_l3 ?_
    refine bGo hA 1 12 (46, .iconst (-1), 1, 29, 0, [], [(-1, 0)]) rfl rfl rfl ?_
    refine bEqI bl_m1 ?_
    refine bGo hA 1 13 (47, .if_icmp .eq (9), 3, 30, 34, [], []) rfl rfl rfl ?_
    refine bB_eq (x := (bi σ 153 l3)) (y := (-1)) (bi_rg _ _ _) (by decide : bRg (-1)) (fun c2 => ?_) (fun c2 => ?_)
    · refine bGo hA 2 2 (56, .iconst (0), 1, 35, 0, [], [(0, 0)]) rfl rfl rfl ?_
      refine bEqI bl_0 ?_
      refine bGo hA 2 3 (57, .ior, 1, 36, 0, [], []) rfl rfl rfl ?_
      refine bEqI (bn_or l2 0) ?_
      refine bGo hA 2 4 (58, .istore_n 2, 1, 37, 0, [2], []) rfl rfl rfl ?_
      refine bGo hA 2 5 (59, .iinc 3 (1), 3, 38, 0, [3], [(1, 0)]) rfl rfl rfl ?_
      refine bEqC (fun v => A (38, [.ref 12, (bUnl v1), .int (bn (bOr l2 0)), .int v], [], σ)) ((congrArg (fun w => bn l3 + w) bl_1).trans (bn_add l3 1)) ?_
      refine bGo hA 2 6 (62, .goto (-31), 3, 39, 19, [], []) rfl rfl rfl ?_
      exact ((h.1 c1).2.1 c2).2
    · refine bGo hA 1 14 (50, .iconst (1), 1, 31, 0, [], [(1, 0)]) rfl rfl rfl ?_
      refine bEqI bl_1 ?_
      refine bGo hA 1 15 (51, .iload_n 3, 1, 32, 0, [3], []) rfl rfl rfl ?_
      refine bGo hA 2 0 (52, .ishl, 1, 33, 0, [], []) rfl rfl rfl ?_
      refine bEqI (bn_shl 1 l3) ?_
      refine bGo hA 2 1 (53, .goto (4), 3, 34, 35, [], []) rfl rfl rfl ?_
      refine bGo hA 2 3 (57, .ior, 1, 36, 0, [], []) rfl rfl rfl ?_
      refine bEqI (bn_or l2 (bShl 1 l3)) ?_
      refine bGo hA 2 4 (58, .istore_n 2, 1, 37, 0, [2], []) rfl rfl rfl ?_
      refine bGo hA 2 5 (59, .iinc 3 (1), 3, 38, 0, [3], [(1, 0)]) rfl rfl rfl ?_
      refine bEqC (fun v => A (38, [.ref 12, (bUnl v1), .int (bn (bOr l2 (bShl 1 l3))), .int v], [], σ)) ((congrArg (fun w => bn l3 + w) bl_1).trans (bn_add l3 1)) ?_
      refine bGo hA 2 6 (62, .goto (-31), 3, 39, 19, [], []) rfl rfl rfl ?_
      exact ((h.1 c1).2.2 c2).2
  · refine bGo hA 2 7 (65, .iload_n 2, 1, 40, 0, [2], []) rfl rfl rfl ?_
    refine bGo hA 2 8 (66, .ireturn, 1, 0, 0, [1], []) rfl rfl rfl ?_
    exact (h.2 c1)


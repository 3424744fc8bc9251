/-! segments of methods 68-88, by program (wip/whole/gen13.py): from a cut of a method on to the next cuts -/
theorem sq68_0 {lvl : Nat} {C : bCall} {Q : bPost} {A : bPt → Prop} (hC : bMono C) (hA : bClosed lvl bm68 C Q A)  {σ : bSt}  
  (h : A (2, [.ref 6, .int (bn 0), .float 0, .float 0], [], σ)) : A (0, [.ref 6, .float 0, .float 0, .float 0], [], σ) := by
  refine bGo hA 0 0 (0, .iconst (0), 1, 1, 0, [], [(0, 0)]) rfl rfl rfl ?_
  refine bEqI bl_0 ?_
  refine bGo hA 0 1 (1, .istore_n 1, 1, 2, 0, [1], []) rfl rfl rfl ?_
  exact h

theorem sq68_2 {lvl : Nat} {C : bCall} {Q : bPost} {A : bPt → Prop} (hC : bMono C) (hA : bClosed lvl bm68 C Q A) {l1 : Int} {v2 : Value} {v3 : Value} {σ : bSt}  (h_l1 : bRg l1)
  (h : ((l1 < (bi σ 9 0) → (C 120 [.ref 9, .int (bn l1)] σ (bRa (fun r4 s2 => (r4 % 256 = 8 ∧ (((bi s2 r4 3) = (-1) → (bRg (l1 + 1) ∧ A (2, [.ref 6, .int (bn (l1 + 1)), .ref r4, .int (bn (bi s2 r4 3))], [], (bw s2 r4 4 (-1))))) ∧ (¬ (bi s2 r4 3) = (-1) → (C 96 [.ref 7, .int (bn (bShr (bi s2 r4 3) 3)), .int (bn (bAnd (bi s2 r4 3) 7))] s2 (bRn (fun r8 s6 => (bRg (l1 + 1) ∧ A (2, [.ref 6, .int (bn (l1 + 1)), .ref r4, .int (bn (bi s2 r4 3))], [], (bw s6 r4 4 r8))))))))))))) ∧ (¬ l1 < (bi σ 9 0) → Q (.inl none) σ))) : A (2, [.ref 6, .int (bn l1), v2, v3], [], σ) := by
  refine bGo hA 0 2 (2, .iload_n 1, 1, 3, 0, [1], []) rfl rfl rfl ?_
  refine bGo hA 0 3 (3, .aload_n 0, 1, 4, 0, [0], []) rfl rfl rfl ?_
  refine bGo hA 0 4 (4, .getfield 53, 3, 5, 0, [6, 3, 3, 9, 0, 0], []) rfl rfl rfl ?_
  refine ⟨rfl, ?_⟩
  refine bGo hA 0 5 (7, .getfield 57, 3, 6, 0, [9, 0, 0, 0, 0, 0], []) rfl rfl rfl ?_
  refine ⟨rfl, ?_⟩
  refine bEqI (bn_bi σ 9 0) ?_
  refine bGo hA 0 6 (10, .if_icmp .ge (50), 3, 7, 33, [], []) rfl rfl rfl ?_
  refine bB_lt (x := l1) (y := (bi σ 9 0)) h_l1 (bi_rg _ _ _) (fun c1 => ?_) (fun c1 => ?_)
  · refine bGo hA 0 7 (13, .aload_n 0, 1, 8, 0, [0], []) rfl rfl rfl ?_
    refine bGo hA 0 8 (14, .getfield 53, 3, 9, 0, [6, 3, 3, 9, 0, 0], []) rfl rfl rfl ?_
    refine ⟨rfl, ?_⟩
    refine bGo hA 0 9 (17, .iload_n 1, 1, 10, 0, [1], []) rfl rfl rfl ?_
    refine bGo hA 0 10 (18, .invokevirtual 63, 3, 11, 0, [0, 9, 120, 1], []) rfl rfl rfl ?_
    refine ⟨rfl, ?_⟩
    refine hC _ _ _ _ _ (bRa_e (fun r4 s2 k3 => ?_)) (h.1 c1)
    show A (11, [.ref 6, .int (bn l1), v2, v3], [.ref r4], s2)
    refine bGo hA 0 11 (21, .astore_n 2, 1, 12, 0, [2], []) rfl rfl rfl ?_
    refine bGo hA 0 12 (22, .aload_n 2, 1, 13, 0, [2], []) rfl rfl rfl ?_
    refine bGo hA 0 13 (23, .getfield 67, 3, 14, 0, [8, 3, 0, 0, 0, 0], []) rfl rfl rfl ?_
    refine ⟨k3.1, ?_⟩
    refine bEqI (bn_bi s2 r4 3) ?_
    refine bGo hA 0 14 (26, .istore_n 3, 1, 15, 0, [3], []) rfl rfl rfl ?_
    refine bGo hA 0 15 (27, .aload_n 2, 1, 16, 0, [2], []) rfl rfl rfl ?_
    refine bGo hA 1 0 (28, .iload_n 3, 1, 17, 0, [3], []) rfl rfl rfl ?_
    refine bGo hA 1 1 (29, .iconst (-1), 1, 18, 0, [], [(-1, 0)]) rfl rfl rfl ?_
    refine bEqI bl_m1 ?_
    refine bGo hA 1 2 (30, .if_icmp .ne (7), 3, 19, 21, [], []) rfl rfl rfl ?_
    refine bB_eq (x := (bi s2 r4 3)) (y := (-1)) (bi_rg _ _ _) (by decide : bRg (-1)) (fun c5 => ?_) (fun c5 => ?_)
    · refine bGo hA 1 3 (33, .iconst (-1), 1, 20, 0, [], [(-1, 0)]) rfl rfl rfl ?_
      refine bEqI bl_m1 ?_
      refine bGo hA 1 4 (34, .goto (17), 3, 21, 30, [], []) rfl rfl rfl ?_
      refine bGo hA 1 14 (51, .putfield 78, 3, 31, 0, [8, 4, 0, 0, 0, 0], []) rfl rfl rfl ?_
      refine ⟨k3.1, ?_⟩
      refine bGo hA 1 15 (54, .iinc 1 (1), 3, 32, 0, [1], [(1, 0)]) rfl rfl rfl ?_
      refine bEqC (fun v => A (32, [.ref 6, .int v, .ref r4, .int (bn (bi s2 r4 3))], [], (bw s2 r4 4 (-1)))) ((congrArg (fun w => bn l1 + w) bl_1).trans (bn_add l1 1)) ?_
      refine bGo hA 2 0 (57, .goto (-55), 3, 33, 2, [], []) rfl rfl rfl ?_
      exact (k3.2.1 c5).2
    · refine bGo hA 1 5 (37, .aload_n 0, 1, 22, 0, [0], []) rfl rfl rfl ?_
      refine bGo hA 1 6 (38, .getfield 45, 3, 23, 0, [6, 1, 3, 7, 0, 0], []) rfl rfl rfl ?_
      refine ⟨rfl, ?_⟩
      refine bGo hA 1 7 (41, .iload_n 3, 1, 24, 0, [3], []) rfl rfl rfl ?_
      refine bGo hA 1 8 (42, .iconst (3), 1, 25, 0, [], [(3, 0)]) rfl rfl rfl ?_
      refine bEqI bl_3 ?_
      refine bGo hA 1 9 (43, .ishr, 1, 26, 0, [], []) rfl rfl rfl ?_
      refine bEqI (bn_shr (bi s2 r4 3) 3) ?_
      refine bGo hA 1 10 (44, .iload_n 3, 1, 27, 0, [3], []) rfl rfl rfl ?_
      refine bGo hA 1 11 (45, .bipush (7), 2, 28, 0, [], [(7, 0)]) rfl rfl rfl ?_
      refine bEqI bl_7 ?_
      refine bGo hA 1 12 (47, .iand, 1, 29, 0, [], []) rfl rfl rfl ?_
      refine bEqI (bn_and (bi s2 r4 3) 7) ?_
      refine bGo hA 1 13 (48, .invokevirtual 72, 3, 30, 0, [0, 7, 96, 2], []) rfl rfl rfl ?_
      refine ⟨rfl, ?_⟩
      refine hC _ _ _ _ _ (bRn_e (fun r8 s6 q9 k7 => ?_)) (k3.2.2 c5)
      show A (30, [.ref 6, .int (bn l1), .ref r4, .int (bn (bi s2 r4 3))], [.int (bn r8), .ref r4], s6)
      refine bGo hA 1 14 (51, .putfield 78, 3, 31, 0, [8, 4, 0, 0, 0, 0], []) rfl rfl rfl ?_
      refine ⟨k3.1, ?_⟩
      refine bGo hA 1 15 (54, .iinc 1 (1), 3, 32, 0, [1], [(1, 0)]) rfl rfl rfl ?_
      refine bEqC (fun v => A (32, [.ref 6, .int v, .ref r4, .int (bn (bi s2 r4 3))], [], (bw s6 r4 4 r8))) ((congrArg (fun w => bn l1 + w) bl_1).trans (bn_add l1 1)) ?_
      refine bGo hA 2 0 (57, .goto (-55), 3, 33, 2, [], []) rfl rfl rfl ?_
      exact k7.2
  · refine bGo hA 2 1 (60, .return_, 1, 0, 0, [0], []) rfl rfl rfl ?_
    exact (h.2 c1)

theorem sq69_0 {lvl : Nat} {C : bCall} {Q : bPost} {A : bPt → Prop} (hC : bMono C) (hA : bClosed lvl bm69 C Q A) {x1 : Int} {σ : bSt}  (h_x1 : bRg x1)
  (h : (bRg (x1 * 256) ∧ (bRg ((x1 * 256) + (bi σ 10 0)) ∧ Q (.inl (some (.int (bn ((x1 * 256) + (bi σ 10 0)))))) σ))) : A (0, [.ref 6, .int (bn x1)], [], σ) := by
  refine bGo hA 0 0 (0, .iload_n 1, 1, 1, 0, [1], []) rfl rfl rfl ?_
  refine bGo hA 0 1 (1, .sipush (256), 3, 2, 0, [], [(256, 0)]) rfl rfl rfl ?_
  refine bEqI bl_256 ?_
  refine bGo hA 0 2 (4, .imul, 1, 3, 0, [], []) rfl rfl rfl ?_
  refine bEqI (bn_mul x1 256) ?_
  refine bGo hA 0 3 (5, .aload_n 0, 1, 4, 0, [0], []) rfl rfl rfl ?_
  refine bGo hA 0 4 (6, .getfield 49, 3, 5, 0, [6, 2, 3, 10, 0, 0], []) rfl rfl rfl ?_
  refine ⟨rfl, ?_⟩
  refine bGo hA 0 5 (9, .getfield 81, 3, 6, 0, [10, 0, 0, 0, 0, 0], []) rfl rfl rfl ?_
  refine ⟨rfl, ?_⟩
  refine bEqI (bn_bi σ 10 0) ?_
  refine bGo hA 0 6 (12, .iadd, 1, 7, 0, [], []) rfl rfl rfl ?_
  refine bEqI (bn_add (x1 * 256) (bi σ 10 0)) ?_
  refine bGo hA 0 7 (13, .ireturn, 1, 0, 0, [1], []) rfl rfl rfl ?_
  exact h.2.2

theorem sq70_0 {lvl : Nat} {C : bCall} {Q : bPost} {A : bPt → Prop} (hC : bMono C) (hA : bClosed lvl bm70 C Q A)  {σ : bSt}  
  (h : (bRg ((bi σ 6 10) + 1) ∧ Q (.inl none) (bw (bw σ 6 10 ((bi σ 6 10) + 1)) 6 11 0))) : A (0, [.ref 6], [], σ) := by
  refine bGo hA 0 0 (0, .aload_n 0, 1, 1, 0, [0], []) rfl rfl rfl ?_
  refine bGo hA 0 1 (1, .dup, 1, 2, 0, [], []) rfl rfl rfl ?_
  refine bGo hA 0 2 (2, .getfield 86, 3, 3, 0, [6, 10, 0, 0, 0, 0], []) rfl rfl rfl ?_
  refine ⟨rfl, ?_⟩
  refine bEqI (bn_bi σ 6 10) ?_
  refine bGo hA 0 3 (5, .iconst (1), 1, 4, 0, [], [(1, 0)]) rfl rfl rfl ?_
  refine bEqI bl_1 ?_
  refine bGo hA 0 4 (6, .iadd, 1, 5, 0, [], []) rfl rfl rfl ?_
  refine bEqI (bn_add (bi σ 6 10) 1) ?_
  refine bGo hA 0 5 (7, .putfield 86, 3, 6, 0, [6, 10, 0, 0, 0, 0], []) rfl rfl rfl ?_
  refine ⟨rfl, ?_⟩
  refine bGo hA 0 6 (10, .aload_n 0, 1, 7, 0, [0], []) rfl rfl rfl ?_
  refine bGo hA 0 7 (11, .iconst (0), 1, 8, 0, [], [(0, 0)]) rfl rfl rfl ?_
  refine bEqI bl_0 ?_
  refine bGo hA 0 8 (12, .putfield 89, 3, 9, 0, [6, 11, 0, 0, 0, 0], []) rfl rfl rfl ?_
  refine ⟨rfl, ?_⟩
  refine bGo hA 0 9 (15, .return_, 1, 0, 0, [0], []) rfl rfl rfl ?_
  exact h.2

theorem sq71_0 {lvl : Nat} {C : bCall} {Q : bPost} {A : bPt → Prop} (hC : bMono C) (hA : bClosed lvl bm71 C Q A) {x1 : Int} {σ : bSt}  (h_x1 : bRg x1)
  (h : (C 72 [.ref 6, .int (bn x1)] (bw σ 6 12 0) (bRv (fun s1 => A (8, [.ref 6, .int (bn x1), .int (bn 0), .float 0, .float 0, .float 0], [], s1))))) : A (0, [.ref 6, .int (bn x1), .float 0, .float 0, .float 0, .float 0], [], σ) := by
  refine bGo hA 0 0 (0, .aload_n 0, 1, 1, 0, [0], []) rfl rfl rfl ?_
  refine bGo hA 0 1 (1, .iconst (0), 1, 2, 0, [], [(0, 0)]) rfl rfl rfl ?_
  refine bEqI bl_0 ?_
  refine bGo hA 0 2 (2, .putfield 92, 3, 3, 0, [6, 12, 0, 0, 0, 0], []) rfl rfl rfl ?_
  refine ⟨rfl, ?_⟩
  refine bGo hA 0 3 (5, .aload_n 0, 1, 4, 0, [0], []) rfl rfl rfl ?_
  refine bGo hA 0 4 (6, .iload_n 1, 1, 5, 0, [1], []) rfl rfl rfl ?_
  refine bGo hA 0 5 (7, .invokevirtual 95, 3, 6, 0, [0, 6, 72, 1], []) rfl rfl rfl ?_
  refine ⟨rfl, ?_⟩
  refine hC _ _ _ _ _ (bRv_e (fun s1 k2 => ?_)) h
  show A (6, [.ref 6, .int (bn x1), .float 0, .float 0, .float 0, .float 0], [], s1)
  refine bGo hA 0 6 (10, .iconst (0), 1, 7, 0, [], [(0, 0)]) rfl rfl rfl ?_
  refine bEqI bl_0 ?_
  refine bGo hA 0 7 (11, .istore_n 2, 1, 8, 0, [2], []) rfl rfl rfl ?_
  exact k2

theorem sq71_8 {lvl : Nat} {C : bCall} {Q : bPost} {A : bPt → Prop} (hC : bMono C) (hA : bClosed lvl bm71 C Q A) {v1 : Value} {l2 : Int} {v3 : Value} {v4 : Value} {v5 : Value} {σ : bSt}  (h_l2 : bRg l2)
  (h : ((l2 < 100000 → (((0 : Int) < (bi σ 6 12) → (bRg ((bi σ 6 12) - 1) ∧ (C 140 [.ref 31, .int (bn ((bi σ 6 12) - 1))] σ (bRn (fun r5 s3 => (bRg ((bi s3 6 12) - 1) ∧ (C 140 [.ref 32, .int (bn ((bi s3 6 12) - 1))] s3 (bRn (fun r9 s7 => (C 120 [.ref 9, .int (bn (bShr r5 8))] s7 (bRa (fun r13 s11 => (r13 % 256 = 8 ∧ ((r9 < (bi s11 r13 13) → (bRg ((bi s11 6 12) - 1) ∧ (bRg (r9 + 1) ∧ (C 141 [.ref 32, .int (bn ((bi s11 6 12) - 1)), .int (bn (r9 + 1))] s11 (bRv (fun s15 => (C 112 [.ref r13, .int (bn r9)] s15 (bRn (fun r19 s17 => (C 73 [.ref 6, .ref r13, .int (bn r5), .int (bn r19)] s17 (bRn (fun r23 s21 => (C 72 [.ref 6, .int (bn r23)] s21 (bRv (fun s25 => (bRg (l2 + 1) ∧ A (8, [.ref 6, (bUnl v1), .int (bn (l2 + 1)), .int (bn r5), .int (bn r9), .ref r13], [], s25))))))))))))))))) ∧ (¬ r9 < (bi s11 r13 13) → (C 74 [.ref 6, .ref r13, .int (bn r5)] s11 (bRn (fun r29 s27 => (C 141 [.ref 29, .int (bn r5), .int (bn r29)] s27 (bRv (fun s31 => (C 141 [.ref 28, .int (bn (bi s31 6 11)), .int (bn r5)] s31 (bRv (fun s33 => (bRg ((bi s33 6 11) + 1) ∧ (bRg ((bi s33 6 12) - 1) ∧ (bRg (l2 + 1) ∧ A (8, [.ref 6, (bUnl v1), .int (bn (l2 + 1)), .int (bn r5), .int (bn r9), .ref r13], [], (bw (bw s33 6 11 ((bi s33 6 11) + 1)) 6 12 ((bi s33 6 12) - 1)))))))))))))))))))))))))))))) ∧ (¬ (0 : Int) < (bi σ 6 12) → Q (.inl none) σ))) ∧ (¬ l2 < 100000 → Q (.inl none) σ))) : A (8, [.ref 6, v1, .int (bn l2), v3, v4, v5], [], σ) := by
  refine bGo hA 0 8 (12, .iload_n 2, 1, 9, 0, [2], []) rfl rfl rfl ?_
  refine bGo hA 0 9 (13, .ldc 99, 2, 10, 0, [99], [(100000, 0)]) rfl rfl rfl ?_
  refine bEqI bl_100000 ?_
  refine bGo hA 0 10 (15, .if_icmp .ge (153), 3, 11, 89, [], []) rfl rfl rfl ?_
  refine bB_lt (x := l2) (y := 100000) h_l2 (by decide : bRg 100000) (fun c1 => ?_) (fun c1 => ?_)
  · refine bGo hA 0 11 (18, .aload_n 0, 1, 12, 0, [0], []) rfl rfl rfl ?_
    refine bGo hA 0 12 (19, .getfield 92, 3, 13, 0, [6, 12, 0, 0, 0, 0], []) rfl rfl rfl ?_
    refine ⟨rfl, ?_⟩
    refine bEqI (bn_bi σ 6 12) ?_
    refine bGo hA 0 13 (22, .ifCond .le (146), 3, 14, 89, [], []) rfl rfl rfl ?_
    refine bB_gt0 (x := (bi σ 6 12)) (bi_rg _ _ _) (fun c2 => ?_) (fun c2 => ?_)
    · refine bGo hA 0 14 (25, .aload_n 0, 1, 15, 0, [0], []) rfl rfl rfl ?_
      refine bGo hA 0 15 (26, .getfield 24, 3, 16, 0, [6, 8, 3, 31, 1, 0], []) rfl rfl rfl ?_
      refine ⟨rfl, ?_⟩
      refine bGo hA 1 0 (29, .aload_n 0, 1, 17, 0, [0], []) rfl rfl rfl ?_
      refine bGo hA 1 1 (30, .getfield 92, 3, 18, 0, [6, 12, 0, 0, 0, 0], []) rfl rfl rfl ?_
      refine ⟨rfl, ?_⟩
      refine bEqI (bn_bi σ 6 12) ?_
      refine bGo hA 1 2 (33, .iconst (1), 1, 19, 0, [], [(1, 0)]) rfl rfl rfl ?_
      refine bEqI bl_1 ?_
      refine bGo hA 1 3 (34, .isub, 1, 20, 0, [], []) rfl rfl rfl ?_
      refine bEqI (bn_sub (bi σ 6 12) 1) ?_
      refine bGo hA 1 4 (35, .invokestatic 100, 3, 21, 1, [2, 140, 2], []) rfl rfl rfl ?_
      refine hC _ _ _ _ _ (bRn_e (fun r5 s3 q6 k4 => ?_)) ((h.1 c1).1 c2).2
      show A (21, [.ref 6, v1, .int (bn l2), v3, v4, v5], [.int (bn r5)], s3)
      refine bGo hA 1 5 (38, .istore_n 3, 1, 22, 0, [3], []) rfl rfl rfl ?_
      refine bGo hA 1 6 (39, .aload_n 0, 1, 23, 0, [0], []) rfl rfl rfl ?_
      refine bGo hA 1 7 (40, .getfield 27, 3, 24, 0, [6, 9, 3, 32, 1, 0], []) rfl rfl rfl ?_
      refine ⟨rfl, ?_⟩
      refine bGo hA 1 8 (43, .aload_n 0, 1, 25, 0, [0], []) rfl rfl rfl ?_
      refine bGo hA 1 9 (44, .getfield 92, 3, 26, 0, [6, 12, 0, 0, 0, 0], []) rfl rfl rfl ?_
      refine ⟨rfl, ?_⟩
      refine bEqI (bn_bi s3 6 12) ?_
      refine bGo hA 1 10 (47, .iconst (1), 1, 27, 0, [], [(1, 0)]) rfl rfl rfl ?_
      refine bEqI bl_1 ?_
      refine bGo hA 1 11 (48, .isub, 1, 28, 0, [], []) rfl rfl rfl ?_
      refine bEqI (bn_sub (bi s3 6 12) 1) ?_
      refine bGo hA 1 12 (49, .invokestatic 100, 3, 29, 1, [2, 140, 2], []) rfl rfl rfl ?_
      refine hC _ _ _ _ _ (bRn_e (fun r9 s7 q10 k8 => ?_)) k4.2
      show A (29, [.ref 6, v1, .int (bn l2), .int (bn r5), v4, v5], [.int (bn r9)], s7)
      refine bGo hA 1 13 (52, .istore 4, 2, 30, 0, [4], []) rfl rfl rfl ?_
      refine bGo hA 1 14 (54, .aload_n 0, 1, 31, 0, [0], []) rfl rfl rfl ?_
      refine bGo hA 1 15 (55, .getfield 53, 3, 32, 0, [6, 3, 3, 9, 0, 0], []) rfl rfl rfl ?_
      refine ⟨rfl, ?_⟩
      refine bGo hA 2 0 (58, .iload_n 3, 1, 33, 0, [3], []) rfl rfl rfl ?_
      refine bGo hA 2 1 (59, .bipush (8), 2, 34, 0, [], [(8, 0)]) rfl rfl rfl ?_
      refine bEqI bl_8 ?_
      refine bGo hA 2 2 (61, .ishr, 1, 35, 0, [], []) rfl rfl rfl ?_
      refine bEqI (bn_shr r5 8) ?_
      refine bGo hA 2 3 (62, .invokevirtual 63, 3, 36, 0, [0, 9, 120, 1], []) rfl rfl rfl ?_
      refine ⟨rfl, ?_⟩
      refine hC _ _ _ _ _ (bRa_e (fun r13 s11 k12 => ?_)) k8
      show A (36, [.ref 6, v1, .int (bn l2), .int (bn r5), .int (bn r9), v5], [.ref r13], s11)
      refine bGo hA 2 4 (65, .astore 5, 2, 37, 0, [5], []) rfl rfl rfl ?_
      refine bGo hA 2 5 (67, .iload 4, 2, 38, 0, [4], []) rfl rfl rfl ?_
      refine bGo hA 2 6 (69, .aload 5, 2, 39, 0, [5], []) rfl rfl rfl ?_
      refine bGo hA 2 7 (71, .getfield 104, 3, 40, 0, [8, 13, 0, 0, 0, 0], []) rfl rfl rfl ?_
      refine ⟨k12.1, ?_⟩
      refine bEqI (bn_bi s11 r13 13) ?_
      refine bGo hA 2 8 (74, .if_icmp .ge (41), 3, 41, 61, [], []) rfl rfl rfl ?_
      refine bB_lt (x := r9) (y := (bi s11 r13 13)) q10 (bi_rg _ _ _) (fun c14 => ?_) (fun c14 => ?_)
      · refine bGo hA 2 9 (77, .aload_n 0, 1, 42, 0, [0], []) rfl rfl rfl ?_
        refine bGo hA 2 10 (78, .getfield 27, 3, 43, 0, [6, 9, 3, 32, 1, 0], []) rfl rfl rfl ?_
        refine ⟨rfl, ?_⟩
        refine bGo hA 2 11 (81, .aload_n 0, 1, 44, 0, [0], []) rfl rfl rfl ?_
        refine bGo hA 2 12 (82, .getfield 92, 3, 45, 0, [6, 12, 0, 0, 0, 0], []) rfl rfl rfl ?_
        refine ⟨rfl, ?_⟩
        refine bEqI (bn_bi s11 6 12) ?_
        refine bGo hA 2 13 (85, .iconst (1), 1, 46, 0, [], [(1, 0)]) rfl rfl rfl ?_
        refine bEqI bl_1 ?_
        refine bGo hA 2 14 (86, .isub, 1, 47, 0, [], []) rfl rfl rfl ?_
        refine bEqI (bn_sub (bi s11 6 12) 1) ?_
        refine bGo hA 2 15 (87, .iload 4, 2, 48, 0, [4], []) rfl rfl rfl ?_
        refine bGo hA 3 0 (89, .iconst (1), 1, 49, 0, [], [(1, 0)]) rfl rfl rfl ?_
        refine bEqI bl_1 ?_
        refine bGo hA 3 1 (90, .iadd, 1, 50, 0, [], []) rfl rfl rfl ?_
        refine bEqI (bn_add r9 1) ?_
        refine bGo hA 3 2 (91, .invokestatic 107, 3, 51, 1, [2, 141, 3], []) rfl rfl rfl ?_
        refine hC _ _ _ _ _ (bRv_e (fun s15 k16 => ?_)) (k12.2.1 c14).2.2
        show A (51, [.ref 6, v1, .int (bn l2), .int (bn r5), .int (bn r9), .ref r13], [], s15)
        refine bGo hA 3 3 (94, .aload_n 0, 1, 52, 0, [0], []) rfl rfl rfl ?_
        refine bGo hA 3 4 (95, .aload_n 0, 1, 53, 0, [0], []) rfl rfl rfl ?_
        refine bGo hA 3 5 (96, .aload 5, 2, 54, 0, [5], []) rfl rfl rfl ?_
        refine bGo hA 3 6 (98, .iload_n 3, 1, 55, 0, [3], []) rfl rfl rfl ?_
        refine bGo hA 3 7 (99, .aload 5, 2, 56, 0, [5], []) rfl rfl rfl ?_
        refine bGo hA 3 8 (101, .iload 4, 2, 57, 0, [4], []) rfl rfl rfl ?_
        refine bGo hA 3 9 (103, .invokevirtual 111, 3, 58, 0, [0, 8, 112, 1], []) rfl rfl rfl ?_
        refine ⟨k12.1, ?_⟩
        refine hC _ _ _ _ _ (bRn_e (fun r19 s17 q20 k18 => ?_)) k16
        show A (58, [.ref 6, v1, .int (bn l2), .int (bn r5), .int (bn r9), .ref r13], [.int (bn r19), .int (bn r5), .ref r13, .ref 6, .ref 6], s17)
        refine bGo hA 3 10 (106, .invokevirtual 115, 3, 59, 0, [0, 6, 73, 3], []) rfl rfl rfl ?_
        refine ⟨rfl, ?_⟩
        refine hC _ _ _ _ _ (bRn_e (fun r23 s21 q24 k22 => ?_)) k18
        show A (59, [.ref 6, v1, .int (bn l2), .int (bn r5), .int (bn r9), .ref r13], [.int (bn r23), .ref 6], s21)
        refine bGo hA 3 11 (109, .invokevirtual 95, 3, 60, 0, [0, 6, 72, 1], []) rfl rfl rfl ?_
        refine ⟨rfl, ?_⟩
        refine hC _ _ _ _ _ (bRv_e (fun s25 k26 => ?_)) k22
        show A (60, [.ref 6, v1, .int (bn l2), .int (bn r5), .int (bn r9), .ref r13], [], s25)
        refine bGo hA 3 12 (112, .goto (50), 3, 61, 87, [], []) rfl rfl rfl ?_
        refine bGo hA 5 7 (162, .iinc 2 (1), 3, 88, 0, [2], [(1, 0)]) rfl rfl rfl ?_
        refine bEqC (fun v => A (88, [.ref 6, (bUnl v1), .int v, .int (bn r5), .int (bn r9), .ref r13], [], s25)) ((congrArg (fun w => bn l2 + w) bl_1).trans (bn_add l2 1)) ?_
        refine bGo hA 5 8 (165, .goto (-153), 3, 89, 8, [], []) rfl rfl rfl ?_
        exact k26.2
      · refine bGo hA 3 13 (115, .aload_n 0, 1, 62, 0, [0], []) rfl rfl rfl ?_
        refine bGo hA 3 14 (116, .getfield 18, 3, 63, 0, [6, 6, 3, 29, 1, 0], []) rfl rfl rfl ?_
        refine ⟨rfl, ?_⟩
        refine bGo hA 3 15 (119, .iload_n 3, 1, 64, 0, [3], []) rfl rfl rfl ?_
        refine bGo hA 4 0 (120, .aload_n 0, 1, 65, 0, [0], []) rfl rfl rfl ?_
        refine bGo hA 4 1 (121, .aload 5, 2, 66, 0, [5], []) rfl rfl rfl ?_
        refine bGo hA 4 2 (123, .iload_n 3, 1, 67, 0, [3], []) rfl rfl rfl ?_
        refine bGo hA 4 3 (124, .invokevirtual 119, 3, 68, 0, [0, 6, 74, 2], []) rfl rfl rfl ?_
        refine ⟨rfl, ?_⟩
        refine hC _ _ _ _ _ (bRn_e (fun r29 s27 q30 k28 => ?_)) (k12.2.2 c14)
        show A (68, [.ref 6, v1, .int (bn l2), .int (bn r5), .int (bn r9), .ref r13], [.int (bn r29), .int (bn r5), .ref 29], s27)
        refine bGo hA 4 4 (127, .invokestatic 107, 3, 69, 1, [2, 141, 3], []) rfl rfl rfl ?_
        refine hC _ _ _ _ _ (bRv_e (fun s31 k32 => ?_)) k28
        show A (69, [.ref 6, v1, .int (bn l2), .int (bn r5), .int (bn r9), .ref r13], [], s31)
        refine bGo hA 4 5 (130, .aload_n 0, 1, 70, 0, [0], []) rfl rfl rfl ?_
        refine bGo hA 4 6 (131, .getfield 15, 3, 71, 0, [6, 5, 3, 28, 1, 0], []) rfl rfl rfl ?_
        refine ⟨rfl, ?_⟩
        refine bGo hA 4 7 (134, .aload_n 0, 1, 72, 0, [0], []) rfl rfl rfl ?_
        refine bGo hA 4 8 (135, .getfield 89, 3, 73, 0, [6, 11, 0, 0, 0, 0], []) rfl rfl rfl ?_
        refine ⟨rfl, ?_⟩
        refine bEqI (bn_bi s31 6 11) ?_
        refine bGo hA 4 9 (138, .iload_n 3, 1, 74, 0, [3], []) rfl rfl rfl ?_
        refine bGo hA 4 10 (139, .invokestatic 107, 3, 75, 1, [2, 141, 3], []) rfl rfl rfl ?_
        refine hC _ _ _ _ _ (bRv_e (fun s33 k34 => ?_)) k32
        show A (75, [.ref 6, v1, .int (bn l2), .int (bn r5), .int (bn r9), .ref r13], [], s33)
        refine bGo hA 4 11 (142, .aload_n 0, 1, 76, 0, [0], []) rfl rfl rfl ?_
        refine bGo hA 4 12 (143, .dup, 1, 77, 0, [], []) rfl rfl rfl ?_
        refine bGo hA 4 13 (144, .getfield 89, 3, 78, 0, [6, 11, 0, 0, 0, 0], []) rfl rfl rfl ?_
        refine ⟨rfl, ?_⟩
        refine bEqI (bn_bi s33 6 11) ?_
        refine bGo hA 4 14 (147, .iconst (1), 1, 79, 0, [], [(1, 0)]) rfl rfl rfl ?_
        refine bEqI bl_1 ?_
        refine bGo hA 4 15 (148, .iadd, 1, 80, 0, [], []) rfl rfl rfl ?_
        refine bEqI (bn_add (bi s33 6 11) 1) ?_
        refine bGo hA 5 0 (149, .putfield 89, 3, 81, 0, [6, 11, 0, 0, 0, 0], []) rfl rfl rfl ?_
        refine ⟨rfl, ?_⟩
        refine bGo hA 5 1 (152, .aload_n 0, 1, 82, 0, [0], []) rfl rfl rfl ?_
        refine bGo hA 5 2 (153, .dup, 1, 83, 0, [], []) rfl rfl rfl ?_
        refine bGo hA 5 3 (154, .getfield 92, 3, 84, 0, [6, 12, 0, 0, 0, 0], []) rfl rfl rfl ?_
        refine ⟨rfl, ?_⟩
        refine bEqI ((bn_bi (bw s33 6 11 ((bi s33 6 11) + 1)) 6 12).trans (congrArg bn (bi_nj (by decide) (by decide) (by decide)))) ?_
        refine bGo hA 5 4 (157, .iconst (1), 1, 85, 0, [], [(1, 0)]) rfl rfl rfl ?_
        refine bEqI bl_1 ?_
        refine bGo hA 5 5 (158, .isub, 1, 86, 0, [], []) rfl rfl rfl ?_
        refine bEqI (bn_sub (bi s33 6 12) 1) ?_
        refine bGo hA 5 6 (159, .putfield 92, 3, 87, 0, [6, 12, 0, 0, 0, 0], []) rfl rfl rfl ?_
        refine ⟨rfl, ?_⟩
        refine bGo hA 5 7 (162, .iinc 2 (1), 3, 88, 0, [2], [(1, 0)]) rfl rfl rfl ?_
        refine bEqC (fun v => A (88, [.ref 6, (bUnl v1), .int v, .int (bn r5), .int (bn r9), .ref r13], [], (bw (bw s33 6 11 ((bi s33 6 11) + 1)) 6 12 ((bi s33 6 12) - 1)))) ((congrArg (fun w => bn l2 + w) bl_1).trans (bn_add l2 1)) ?_
        refine bGo hA 5 8 (165, .goto (-153), 3, 89, 8, [], []) rfl rfl rfl ?_
        exact k34.2.2.2
    · refine bGo hA 5 9 (168, .return_, 1, 0, 0, [0], []) rfl rfl rfl ?_
      exact ((h.1 c1).2 c2)
  · refine bGo hA 5 9 (168, .return_, 1, 0, 0, [0], []) rfl rfl rfl ?_
    exact (h.2 c1)

theorem sq72_0 {lvl : Nat} {C : bCall} {Q : bPost} {A : bPt → Prop} (hC : bMono C) (hA : bClosed lvl bm72 C Q A) {x1 : Int} {σ : bSt}  (h_x1 : bRg x1)
  (h : ((x1 = (-1) → Q (.inl none) σ) ∧ (¬ x1 = (-1) → (C 140 [.ref 27, .int (bn x1)] σ (bRn (fun r4 s2 => ((r4 = (bi s2 6 10) → Q (.inl none) s2) ∧ (¬ r4 = (bi s2 6 10) → (C 141 [.ref 27, .int (bn x1), .int (bn (bi s2 6 10))] s2 (bRv (fun s7 => (C 141 [.ref 31, .int (bn (bi s7 6 12)), .int (bn x1)] s7 (bRv (fun s9 => (C 141 [.ref 32, .int (bn (bi s9 6 12)), .int (bn 0)] s9 (bRv (fun s11 => (bRg ((bi s11 6 12) + 1) ∧ Q (.inl none) (bw s11 6 12 ((bi s11 6 12) + 1)))))))))))))))))))) : A (0, [.ref 6, .int (bn x1)], [], σ) := by
  refine bGo hA 0 0 (0, .iload_n 1, 1, 1, 0, [1], []) rfl rfl rfl ?_
  refine bGo hA 0 1 (1, .iconst (-1), 1, 2, 0, [], [(-1, 0)]) rfl rfl rfl ?_
  refine bEqI bl_m1 ?_
  refine bGo hA 0 2 (2, .if_icmp .eq (64), 3, 3, 34, [], []) rfl rfl rfl ?_
  refine bB_eq (x := x1) (y := (-1)) h_x1 (by decide : bRg (-1)) (fun c1 => ?_) (fun c1 => ?_)
  · refine bGo hA 2 2 (66, .return_, 1, 0, 0, [0], []) rfl rfl rfl ?_
    exact (h.1 c1)
  · refine bGo hA 0 3 (5, .aload_n 0, 1, 4, 0, [0], []) rfl rfl rfl ?_
    refine bGo hA 0 4 (6, .getfield 9, 3, 5, 0, [6, 4, 3, 27, 1, 0], []) rfl rfl rfl ?_
    refine ⟨rfl, ?_⟩
    refine bGo hA 0 5 (9, .iload_n 1, 1, 6, 0, [1], []) rfl rfl rfl ?_
    refine bGo hA 0 6 (10, .invokestatic 100, 3, 7, 1, [2, 140, 2], []) rfl rfl rfl ?_
    refine hC _ _ _ _ _ (bRn_e (fun r4 s2 q5 k3 => ?_)) (h.2 c1)
    show A (7, [.ref 6, .int (bn x1)], [.int (bn r4)], s2)
    refine bGo hA 0 7 (13, .aload_n 0, 1, 8, 0, [0], []) rfl rfl rfl ?_
    refine bGo hA 0 8 (14, .getfield 86, 3, 9, 0, [6, 10, 0, 0, 0, 0], []) rfl rfl rfl ?_
    refine ⟨rfl, ?_⟩
    refine bEqI (bn_bi s2 6 10) ?_
    refine bGo hA 0 9 (17, .if_icmp .eq (49), 3, 10, 34, [], []) rfl rfl rfl ?_
    refine bB_eq (x := r4) (y := (bi s2 6 10)) q5 (bi_rg _ _ _) (fun c6 => ?_) (fun c6 => ?_)
    · refine bGo hA 2 2 (66, .return_, 1, 0, 0, [0], []) rfl rfl rfl ?_
      exact (k3.1 c6)
    · refine bGo hA 0 10 (20, .aload_n 0, 1, 11, 0, [0], []) rfl rfl rfl ?_
      refine bGo hA 0 11 (21, .getfield 9, 3, 12, 0, [6, 4, 3, 27, 1, 0], []) rfl rfl rfl ?_
      refine ⟨rfl, ?_⟩
      refine bGo hA 0 12 (24, .iload_n 1, 1, 13, 0, [1], []) rfl rfl rfl ?_
      refine bGo hA 0 13 (25, .aload_n 0, 1, 14, 0, [0], []) rfl rfl rfl ?_
      refine bGo hA 0 14 (26, .getfield 86, 3, 15, 0, [6, 10, 0, 0, 0, 0], []) rfl rfl rfl ?_
      refine ⟨rfl, ?_⟩
      refine bEqI (bn_bi s2 6 10) ?_
      refine bGo hA 0 15 (29, .invokestatic 107, 3, 16, 1, [2, 141, 3], []) rfl rfl rfl ?_
      refine hC _ _ _ _ _ (bRv_e (fun s7 k8 => ?_)) (k3.2 c6)
      show A (16, [.ref 6, .int (bn x1)], [], s7)
      refine bGo hA 1 0 (32, .aload_n 0, 1, 17, 0, [0], []) rfl rfl rfl ?_
      refine bGo hA 1 1 (33, .getfield 24, 3, 18, 0, [6, 8, 3, 31, 1, 0], []) rfl rfl rfl ?_
      refine ⟨rfl, ?_⟩
      refine bGo hA 1 2 (36, .aload_n 0, 1, 19, 0, [0], []) rfl rfl rfl ?_
      refine bGo hA 1 3 (37, .getfield 92, 3, 20, 0, [6, 12, 0, 0, 0, 0], []) rfl rfl rfl ?_
      refine ⟨rfl, ?_⟩
      refine bEqI (bn_bi s7 6 12) ?_
      refine bGo hA 1 4 (40, .iload_n 1, 1, 21, 0, [1], []) rfl rfl rfl ?_
      refine bGo hA 1 5 (41, .invokestatic 107, 3, 22, 1, [2, 141, 3], []) rfl rfl rfl ?_
      refine hC _ _ _ _ _ (bRv_e (fun s9 k10 => ?_)) k8
      show A (22, [.ref 6, .int (bn x1)], [], s9)
      refine bGo hA 1 6 (44, .aload_n 0, 1, 23, 0, [0], []) rfl rfl rfl ?_
      refine bGo hA 1 7 (45, .getfield 27, 3, 24, 0, [6, 9, 3, 32, 1, 0], []) rfl rfl rfl ?_
      refine ⟨rfl, ?_⟩
      refine bGo hA 1 8 (48, .aload_n 0, 1, 25, 0, [0], []) rfl rfl rfl ?_
      refine bGo hA 1 9 (49, .getfield 92, 3, 26, 0, [6, 12, 0, 0, 0, 0], []) rfl rfl rfl ?_
      refine ⟨rfl, ?_⟩
      refine bEqI (bn_bi s9 6 12) ?_
      refine bGo hA 1 10 (52, .iconst (0), 1, 27, 0, [], [(0, 0)]) rfl rfl rfl ?_
      refine bEqI bl_0 ?_
      refine bGo hA 1 11 (53, .invokestatic 107, 3, 28, 1, [2, 141, 3], []) rfl rfl rfl ?_
      refine hC _ _ _ _ _ (bRv_e (fun s11 k12 => ?_)) k10
      show A (28, [.ref 6, .int (bn x1)], [], s11)
      refine bGo hA 1 12 (56, .aload_n 0, 1, 29, 0, [0], []) rfl rfl rfl ?_
      refine bGo hA 1 13 (57, .dup, 1, 30, 0, [], []) rfl rfl rfl ?_
      refine bGo hA 1 14 (58, .getfield 92, 3, 31, 0, [6, 12, 0, 0, 0, 0], []) rfl rfl rfl ?_
      refine ⟨rfl, ?_⟩
      refine bEqI (bn_bi s11 6 12) ?_
      refine bGo hA 1 15 (61, .iconst (1), 1, 32, 0, [], [(1, 0)]) rfl rfl rfl ?_
      refine bEqI bl_1 ?_
      refine bGo hA 2 0 (62, .iadd, 1, 33, 0, [], []) rfl rfl rfl ?_
      refine bEqI (bn_add (bi s11 6 12) 1) ?_
      refine bGo hA 2 1 (63, .putfield 92, 3, 34, 0, [6, 12, 0, 0, 0, 0], []) rfl rfl rfl ?_
      refine ⟨rfl, ?_⟩
      refine bGo hA 2 2 (66, .return_, 1, 0, 0, [0], []) rfl rfl rfl ?_
      exact k12.2

theorem sq73_0 {lvl : Nat} {C : bCall} {Q : bPost} {A : bPt → Prop} (hC : bMono C) (hA : bClosed lvl bm73 C Q A) {a1 : Nat} {x2 : Int} {x3 : Int} {σ : bSt} (h_a1 : a1 % 256 = 8) (h_x2 : bRg x2) (h_x3 : bRg x3)
  (h : (bRg (x3 - 100) ∧ (((x3 - 100) < 0 → Q (.inl (some (.int (bn (-1))))) σ) ∧ (¬ (x3 - 100) < 0 → (((x3 - 100) < 16 → (bRg ((x3 - 100) * 256) ∧ (C 117 [.ref a1, .int (bn (bAnd x2 255))] σ (bRn (fun r5 s3 => (bRg (((x3 - 100) * 256) + r5) ∧ Q (.inl (some (.int (bn (((x3 - 100) * 256) + r5))))) s3)))))) ∧ (¬ (x3 - 100) < 16 → Q (.inl (some (.int (bn (-1))))) σ)))))) : A (0, [.ref 6, .ref a1, .int (bn x2), .int (bn x3), .float 0], [], σ) := by
  refine bGo hA 0 0 (0, .iload_n 3, 1, 1, 0, [3], []) rfl rfl rfl ?_
  refine bGo hA 0 1 (1, .bipush (100), 2, 2, 0, [], [(100, 0)]) rfl rfl rfl ?_
  refine bEqI bl_100 ?_
  refine bGo hA 0 2 (3, .isub, 1, 3, 0, [], []) rfl rfl rfl ?_
  refine bEqI (bn_sub x3 100) ?_
  refine bGo hA 0 3 (4, .istore 4, 2, 4, 0, [4], []) rfl rfl rfl ?_
  refine bGo hA 0 4 (6, .iload 4, 2, 5, 0, [4], []) rfl rfl rfl ?_
  refine bGo hA 0 5 (8, .ifCond .lt (29), 3, 6, 19, [], []) rfl rfl rfl ?_
  refine bB_lt0 (x := (x3 - 100)) h.1 (fun c1 => ?_) (fun c1 => ?_)
  · refine bGo hA 1 3 (37, .iconst (-1), 1, 20, 0, [], [(-1, 0)]) rfl rfl rfl ?_
    refine bEqI bl_m1 ?_
    refine bGo hA 1 4 (38, .ireturn, 1, 0, 0, [1], []) rfl rfl rfl ?_
    exact (h.2.1 c1)
  · refine bGo hA 0 6 (11, .iload 4, 2, 7, 0, [4], []) rfl rfl rfl ?_
    refine bGo hA 0 7 (13, .bipush (16), 2, 8, 0, [], [(16, 0)]) rfl rfl rfl ?_
    refine bEqI bl_16 ?_
    refine bGo hA 0 8 (15, .if_icmp .ge (22), 3, 9, 19, [], []) rfl rfl rfl ?_
    refine bB_lt (x := (x3 - 100)) (y := 16) h.1 (by decide : bRg 16) (fun c2 => ?_) (fun c2 => ?_)
    · refine bGo hA 0 9 (18, .iload 4, 2, 10, 0, [4], []) rfl rfl rfl ?_
      refine bGo hA 0 10 (20, .sipush (256), 3, 11, 0, [], [(256, 0)]) rfl rfl rfl ?_
      refine bEqI bl_256 ?_
      refine bGo hA 0 11 (23, .imul, 1, 12, 0, [], []) rfl rfl rfl ?_
      refine bEqI (bn_mul (x3 - 100) 256) ?_
      refine bGo hA 0 12 (24, .aload_n 1, 1, 13, 0, [1], []) rfl rfl rfl ?_
      refine bGo hA 0 13 (25, .iload_n 2, 1, 14, 0, [2], []) rfl rfl rfl ?_
      refine bGo hA 0 14 (26, .sipush (255), 3, 15, 0, [], [(255, 0)]) rfl rfl rfl ?_
      refine bEqI bl_255 ?_
      refine bGo hA 0 15 (29, .iand, 1, 16, 0, [], []) rfl rfl rfl ?_
      refine bEqI (bn_and x2 255) ?_
      refine bGo hA 1 0 (30, .invokevirtual 123, 3, 17, 0, [0, 8, 117, 1], []) rfl rfl rfl ?_
      refine ⟨h_a1, ?_⟩
      refine hC _ _ _ _ _ (bRn_e (fun r5 s3 q6 k4 => ?_)) ((h.2.2 c1).1 c2).2
      show A (17, [.ref 6, .ref a1, .int (bn x2), .int (bn x3), .int (bn (x3 - 100))], [.int (bn r5), .int (bn ((x3 - 100) * 256))], s3)
      refine bGo hA 1 1 (33, .iadd, 1, 18, 0, [], []) rfl rfl rfl ?_
      refine bEqI (bn_add ((x3 - 100) * 256) r5) ?_
      refine bGo hA 1 2 (34, .goto (4), 3, 19, 20, [], []) rfl rfl rfl ?_
      refine bGo hA 1 4 (38, .ireturn, 1, 0, 0, [1], []) rfl rfl rfl ?_
      exact k4.2
    · refine bGo hA 1 3 (37, .iconst (-1), 1, 20, 0, [], [(-1, 0)]) rfl rfl rfl ?_
      refine bEqI bl_m1 ?_
      refine bGo hA 1 4 (38, .ireturn, 1, 0, 0, [1], []) rfl rfl rfl ?_
      exact ((h.2.2 c1).2 c2)

theorem sq74_0 {lvl : Nat} {C : bCall} {Q : bPost} {A : bPt → Prop} (hC : bMono C) (hA : bClosed lvl bm74 C Q A) {a1 : Nat} {x2 : Int} {σ : bSt} (h_a1 : a1 % 256 = 8) (h_x2 : bRg x2)
  (h : (C 33 [.ref 3, .int (bn (bi σ a1 0))] σ (bRn (fun r3 s1 => ((r3 = 0 → Q (.inl (some (.int (bn 1)))) s1) ∧ (¬ r3 = 0 → (C 116 [.ref a1, .int (bn (bAnd x2 255))] s1 (bRn (fun r8 s6 => ((r8 = (-1) → Q (.inl (some (.int (bn 2)))) s6) ∧ (¬ r8 = (-1) → (C 75 [.ref 6, .ref a1, .int (bn x2)] s6 (bRn (fun r13 s11 => ((r13 = (-1) → Q (.inl (some (.int (bn 3)))) s11) ∧ (¬ r13 = (-1) → A (29, [.ref 6, .ref a1, .int (bn x2), .int (bn 0), .int (bn 0), .float 0, .float 0], [], s11))))))))))))))))) : A (0, [.ref 6, .ref a1, .int (bn x2), .float 0, .float 0, .float 0, .float 0], [], σ) := by
  refine bGo hA 0 0 (0, .aload_n 0, 1, 1, 0, [0], []) rfl rfl rfl ?_
  refine bGo hA 0 1 (1, .getfield 41, 3, 2, 0, [6, 0, 3, 3, 0, 0], []) rfl rfl rfl ?_
  refine ⟨rfl, ?_⟩
  refine bGo hA 0 2 (4, .aload_n 1, 1, 3, 0, [1], []) rfl rfl rfl ?_
  refine bGo hA 0 3 (5, .getfield 126, 3, 4, 0, [8, 0, 0, 0, 0, 0], []) rfl rfl rfl ?_
  refine ⟨h_a1, ?_⟩
  refine bEqI (bn_bi σ a1 0) ?_
  refine bGo hA 0 4 (8, .invokevirtual 129, 3, 5, 0, [0, 3, 33, 1], []) rfl rfl rfl ?_
  refine ⟨rfl, ?_⟩
  refine hC _ _ _ _ _ (bRn_e (fun r3 s1 q4 k2 => ?_)) h
  show A (5, [.ref 6, .ref a1, .int (bn x2), .float 0, .float 0, .float 0, .float 0], [.int (bn r3)], s1)
  refine bGo hA 0 5 (11, .ifCond .ne (5), 3, 6, 8, [], []) rfl rfl rfl ?_
  refine bB_eq0 (x := r3) q4 (fun c5 => ?_) (fun c5 => ?_)
  · refine bGo hA 0 6 (14, .iconst (1), 1, 7, 0, [], [(1, 0)]) rfl rfl rfl ?_
    refine bEqI bl_1 ?_
    refine bGo hA 0 7 (15, .ireturn, 1, 8, 0, [1], []) rfl rfl rfl ?_
    exact (k2.1 c5)
  · refine bGo hA 0 8 (16, .aload_n 1, 1, 9, 0, [1], []) rfl rfl rfl ?_
    refine bGo hA 0 9 (17, .iload_n 2, 1, 10, 0, [2], []) rfl rfl rfl ?_
    refine bGo hA 0 10 (18, .sipush (255), 3, 11, 0, [], [(255, 0)]) rfl rfl rfl ?_
    refine bEqI bl_255 ?_
    refine bGo hA 0 11 (21, .iand, 1, 12, 0, [], []) rfl rfl rfl ?_
    refine bEqI (bn_and x2 255) ?_
    refine bGo hA 0 12 (22, .invokevirtual 135, 3, 13, 0, [0, 8, 116, 1], []) rfl rfl rfl ?_
    refine ⟨h_a1, ?_⟩
    refine hC _ _ _ _ _ (bRn_e (fun r8 s6 q9 k7 => ?_)) (k2.2 c5)
    show A (13, [.ref 6, .ref a1, .int (bn x2), .float 0, .float 0, .float 0, .float 0], [.int (bn r8)], s6)
    refine bGo hA 0 13 (25, .iconst (-1), 1, 14, 0, [], [(-1, 0)]) rfl rfl rfl ?_
    refine bEqI bl_m1 ?_
    refine bGo hA 0 14 (26, .if_icmp .ne (5), 3, 15, 17, [], []) rfl rfl rfl ?_
    refine bB_eq (x := r8) (y := (-1)) q9 (by decide : bRg (-1)) (fun c10 => ?_) (fun c10 => ?_)
    · refine bGo hA 0 15 (29, .iconst (2), 1, 16, 0, [], [(2, 0)]) rfl rfl rfl ?_
      refine bEqI bl_2 ?_
      refine bGo hA 1 0 (30, .ireturn, 1, 17, 0, [1], []) rfl rfl rfl ?_
      exact (k7.1 c10)
    · refine bGo hA 1 1 (31, .aload_n 0, 1, 18, 0, [0], []) rfl rfl rfl ?_
      refine bGo hA 1 2 (32, .aload_n 1, 1, 19, 0, [1], []) rfl rfl rfl ?_
      refine bGo hA 1 3 (33, .iload_n 2, 1, 20, 0, [2], []) rfl rfl rfl ?_
      refine bGo hA 1 4 (34, .invokevirtual 138, 3, 21, 0, [0, 6, 75, 2], []) rfl rfl rfl ?_
      refine ⟨rfl, ?_⟩
      refine hC _ _ _ _ _ (bRn_e (fun r13 s11 q14 k12 => ?_)) (k7.2 c10)
      show A (21, [.ref 6, .ref a1, .int (bn x2), .float 0, .float 0, .float 0, .float 0], [.int (bn r13)], s11)
      refine bGo hA 1 5 (37, .iconst (-1), 1, 22, 0, [], [(-1, 0)]) rfl rfl rfl ?_
      refine bEqI bl_m1 ?_
      refine bGo hA 1 6 (38, .if_icmp .ne (5), 3, 23, 25, [], []) rfl rfl rfl ?_
      refine bB_eq (x := r13) (y := (-1)) q14 (by decide : bRg (-1)) (fun c15 => ?_) (fun c15 => ?_)
      · refine bGo hA 1 7 (41, .iconst (3), 1, 24, 0, [], [(3, 0)]) rfl rfl rfl ?_
        refine bEqI bl_3 ?_
        refine bGo hA 1 8 (42, .ireturn, 1, 25, 0, [1], []) rfl rfl rfl ?_
        exact (k12.1 c15)
      · refine bGo hA 1 9 (43, .iconst (0), 1, 26, 0, [], [(0, 0)]) rfl rfl rfl ?_
        refine bEqI bl_0 ?_
        refine bGo hA 1 10 (44, .istore_n 3, 1, 27, 0, [3], []) rfl rfl rfl ?_
        refine bGo hA 1 11 (45, .iconst (0), 1, 28, 0, [], [(0, 0)]) rfl rfl rfl ?_
        refine bEqI bl_0 ?_
        refine bGo hA 1 12 (46, .istore 4, 2, 29, 0, [4], []) rfl rfl rfl ?_
        exact (k12.2 c15)

theorem sq74_29 {lvl : Nat} {C : bCall} {Q : bPost} {A : bPt → Prop} (hC : bMono C) (hA : bClosed lvl bm74 C Q A) {l1 : Nat} {l2 : Int} {l3 : Int} {l4 : Int} {v5 : Value} {v6 : Value} {σ : bSt}  (h_l2 : bRg l2) (h_l3 : bRg l3) (h_l4 : bRg l4)
  (h : (l1 % 256 = 8 ∧ ((l4 < (bi σ l1 13) → (C 112 [.ref l1, .int (bn l4)] σ (bRn (fun r4 s2 => (C 76 [.ref 6, .ref l1, .int (bn l2), .int (bn r4)] s2 (bRn (fun r8 s6 => ((r8 = 0 → ((r4 < 1000 → (bRg (l3 + 1) ∧ (bRg (l4 + 1) ∧ A (29, [.ref 6, .ref l1, .int (bn l2), .int (bn (l3 + 1)), .int (bn (l4 + 1)), .int (bn r4), .int (bn r8)], [], s6)))) ∧ (¬ r4 < 1000 → (C 77 [.ref 6, .ref l1, .int (bn r4)] s6 (bRj (fun r14 s12 => (C 358 [.long r14] s12 (bRn (fun r17 s15 => (bRg (l3 + r17) ∧ (bRg (l4 + 1) ∧ A (29, [.ref 6, .ref l1, .int (bn l2), .int (bn (l3 + r17)), .int (bn (l4 + 1)), .int (bn r4), .int (bn r8)], [], s15)))))))))))) ∧ (¬ r8 = 0 → Q (.inl (some (.int (bn r8)))) s6))))))))) ∧ (¬ l4 < (bi σ l1 13) → (((40 : Int) < l3 → Q (.inl (some (.int (bn 7)))) σ) ∧ (¬ (40 : Int) < l3 → Q (.inl (some (.int (bn 0)))) σ)))))) : A (29, [.ref 6, .ref l1, .int (bn l2), .int (bn l3), .int (bn l4), v5, v6], [], σ) := by
  refine bGo hA 1 13 (48, .iload 4, 2, 30, 0, [4], []) rfl rfl rfl ?_
  refine bGo hA 1 14 (50, .aload_n 1, 1, 31, 0, [1], []) rfl rfl rfl ?_
  refine bGo hA 1 15 (51, .getfield 104, 3, 32, 0, [8, 13, 0, 0, 0, 0], []) rfl rfl rfl ?_
  refine ⟨h.1, ?_⟩
  refine bEqI (bn_bi σ l1 13) ?_
  refine bGo hA 2 0 (54, .if_icmp .ge (60), 3, 33, 62, [], []) rfl rfl rfl ?_
  refine bB_lt (x := l4) (y := (bi σ l1 13)) h_l4 (bi_rg _ _ _) (fun c1 => ?_) (fun c1 => ?_)
  · refine bGo hA 2 1 (57, .aload_n 1, 1, 34, 0, [1], []) rfl rfl rfl ?_
    refine bGo hA 2 2 (58, .iload 4, 2, 35, 0, [4], []) rfl rfl rfl ?_
    refine bGo hA 2 3 (60, .invokevirtual 111, 3, 36, 0, [0, 8, 112, 1], []) rfl rfl rfl ?_
    refine ⟨h.1, ?_⟩
    refine hC _ _ _ _ _ (bRn_e (fun r4 s2 q5 k3 => ?_)) (h.2.1 c1)
    show A (36, [.ref 6, .ref l1, .int (bn l2), .int (bn l3), .int (bn l4), v5, v6], [.int (bn r4)], s2)
    refine bGo hA 2 4 (63, .istore 5, 2, 37, 0, [5], []) rfl rfl rfl ?_
    refine bGo hA 2 5 (65, .aload_n 0, 1, 38, 0, [0], []) rfl rfl rfl ?_
    refine bGo hA 2 6 (66, .aload_n 1, 1, 39, 0, [1], []) rfl rfl rfl ?_
    refine bGo hA 2 7 (67, .iload_n 2, 1, 40, 0, [2], []) rfl rfl rfl ?_
    refine bGo hA 2 8 (68, .iload 5, 2, 41, 0, [5], []) rfl rfl rfl ?_
    refine bGo hA 2 9 (70, .invokevirtual 141, 3, 42, 0, [0, 6, 76, 3], []) rfl rfl rfl ?_
    refine ⟨rfl, ?_⟩
    refine hC _ _ _ _ _ (bRn_e (fun r8 s6 q9 k7 => ?_)) k3
    show A (42, [.ref 6, .ref l1, .int (bn l2), .int (bn l3), .int (bn l4), .int (bn r4), v6], [.int (bn r8)], s6)
    refine bGo hA 2 10 (73, .istore 6, 2, 43, 0, [6], []) rfl rfl rfl ?_
    refine bGo hA 2 11 (75, .iload 6, 2, 44, 0, [6], []) rfl rfl rfl ?_
    refine bGo hA 2 12 (77, .ifCond .eq (6), 3, 45, 47, [], []) rfl rfl rfl ?_
    refine bB_eq0 (x := r8) q9 (fun c10 => ?_) (fun c10 => ?_)
    · refine bGo hA 2 15 (83, .iload_n 3, 1, 48, 0, [3], []) rfl rfl rfl ?_
      refine bGo hA 3 0 (84, .iload 5, 2, 49, 0, [5], []) rfl rfl rfl ?_
      refine bGo hA 3 1 (86, .sipush (1000), 3, 50, 0, [], [(1000, 0)]) rfl rfl rfl ?_
      refine bEqI bl_1000 ?_
      refine bGo hA 3 2 (89, .if_icmp .ge (7), 3, 51, 53, [], []) rfl rfl rfl ?_
      refine bB_lt (x := r4) (y := 1000) q5 (by decide : bRg 1000) (fun c11 => ?_) (fun c11 => ?_)
      · refine bGo hA 3 3 (92, .iconst (1), 1, 52, 0, [], [(1, 0)]) rfl rfl rfl ?_
        refine bEqI bl_1 ?_
        refine bGo hA 3 4 (93, .goto (13), 3, 53, 58, [], []) rfl rfl rfl ?_
        refine bGo hA 3 10 (106, .iadd, 1, 59, 0, [], []) rfl rfl rfl ?_
        refine bEqI (bn_add l3 1) ?_
        refine bGo hA 3 11 (107, .istore_n 3, 1, 60, 0, [3], []) rfl rfl rfl ?_
        refine bGo hA 3 12 (108, .iinc 4 (1), 3, 61, 0, [4], [(1, 0)]) rfl rfl rfl ?_
        refine bEqC (fun v => A (61, [.ref 6, .ref l1, .int (bn l2), .int (bn (l3 + 1)), .int v, .int (bn r4), .int (bn r8)], [], s6)) ((congrArg (fun w => bn l4 + w) bl_1).trans (bn_add l4 1)) ?_
        refine bGo hA 3 13 (111, .goto (-63), 3, 62, 29, [], []) rfl rfl rfl ?_
        exact ((k7.1 c10).1 c11).2.2
      · refine bGo hA 3 5 (96, .aload_n 0, 1, 54, 0, [0], []) rfl rfl rfl ?_
        refine bGo hA 3 6 (97, .aload_n 1, 1, 55, 0, [1], []) rfl rfl rfl ?_
        refine bGo hA 3 7 (98, .iload 5, 2, 56, 0, [5], []) rfl rfl rfl ?_
        refine bGo hA 3 8 (100, .invokevirtual 144, 3, 57, 0, [0, 6, 77, 2], []) rfl rfl rfl ?_
        refine ⟨rfl, ?_⟩
        refine hC _ _ _ _ _ (bRj_e (fun r14 s12 k13 => ?_)) ((k7.1 c10).2 c11)
        show A (57, [.ref 6, .ref l1, .int (bn l2), .int (bn l3), .int (bn l4), .int (bn r4), .int (bn r8)], [.long r14, .int (bn l3)], s12)
        refine bGo hA 3 9 (103, .invokestatic 148, 3, 58, 0, [2, 358, 1], []) rfl rfl rfl ?_
        refine hC _ _ _ _ _ (bRn_e (fun r17 s15 q18 k16 => ?_)) k13
        show A (58, [.ref 6, .ref l1, .int (bn l2), .int (bn l3), .int (bn l4), .int (bn r4), .int (bn r8)], [.int (bn r17), .int (bn l3)], s15)
        refine bGo hA 3 10 (106, .iadd, 1, 59, 0, [], []) rfl rfl rfl ?_
        refine bEqI (bn_add l3 r17) ?_
        refine bGo hA 3 11 (107, .istore_n 3, 1, 60, 0, [3], []) rfl rfl rfl ?_
        refine bGo hA 3 12 (108, .iinc 4 (1), 3, 61, 0, [4], [(1, 0)]) rfl rfl rfl ?_
        refine bEqC (fun v => A (61, [.ref 6, .ref l1, .int (bn l2), .int (bn (l3 + r17)), .int v, .int (bn r4), .int (bn r8)], [], s15)) ((congrArg (fun w => bn l4 + w) bl_1).trans (bn_add l4 1)) ?_
        refine bGo hA 3 13 (111, .goto (-63), 3, 62, 29, [], []) rfl rfl rfl ?_
        exact k16.2.2
    · refine bGo hA 2 13 (80, .iload 6, 2, 46, 0, [6], []) rfl rfl rfl ?_
      refine bGo hA 2 14 (82, .ireturn, 1, 47, 0, [1], []) rfl rfl rfl ?_
      exact (k7.2 c10)
  · refine bGo hA 3 14 (114, .iload_n 3, 1, 63, 0, [3], []) rfl rfl rfl ?_
    refine bGo hA 3 15 (115, .bipush (40), 2, 64, 0, [], [(40, 0)]) rfl rfl rfl ?_
    refine bEqI bl_40 ?_
    refine bGo hA 4 0 (117, .if_icmp .le (8), 3, 65, 67, [], []) rfl rfl rfl ?_
    refine bB_lt (x := 40) (y := l3) (by decide : bRg 40) h_l3 (fun c19 => ?_) (fun c19 => ?_)
    · refine bGo hA 4 1 (120, .bipush (7), 2, 66, 0, [], [(7, 0)]) rfl rfl rfl ?_
      refine bEqI bl_7 ?_
      refine bGo hA 4 2 (122, .goto (4), 3, 67, 68, [], []) rfl rfl rfl ?_
      refine bGo hA 4 4 (126, .ireturn, 1, 0, 0, [1], []) rfl rfl rfl ?_
      exact ((h.2.2 c1).1 c19)
    · refine bGo hA 4 3 (125, .iconst (0), 1, 68, 0, [], [(0, 0)]) rfl rfl rfl ?_
      refine bEqI bl_0 ?_
      refine bGo hA 4 4 (126, .ireturn, 1, 0, 0, [1], []) rfl rfl rfl ?_
      exact ((h.2.2 c1).2 c19)

theorem sq75_0 {lvl : Nat} {C : bCall} {Q : bPost} {A : bPt → Prop} (hC : bMono C) (hA : bClosed lvl bm75 C Q A) {a1 : Nat} {x2 : Int} {σ : bSt} (h_a1 : a1 % 256 = 8) (h_x2 : bRg x2)
  (h : (((bi σ a1 5) = (-1) → Q (.inl (some (.int (bn 0)))) σ) ∧ (¬ (bi σ a1 5) = (-1) → (C 134 [.ref 10, .int (bn (bi σ a1 5)), .int (bn (bAnd x2 255))] σ (bRn (fun r4 s2 => Q (.inl (some (.int (bn r4)))) s2)))))) : A (0, [.ref 6, .ref a1, .int (bn x2)], [], σ) := by
  refine bGo hA 0 0 (0, .aload_n 1, 1, 1, 0, [1], []) rfl rfl rfl ?_
  refine bGo hA 0 1 (1, .getfield 154, 3, 2, 0, [8, 5, 0, 0, 0, 0], []) rfl rfl rfl ?_
  refine ⟨h_a1, ?_⟩
  refine bEqI (bn_bi σ a1 5) ?_
  refine bGo hA 0 2 (4, .iconst (-1), 1, 3, 0, [], [(-1, 0)]) rfl rfl rfl ?_
  refine bEqI bl_m1 ?_
  refine bGo hA 0 3 (5, .if_icmp .ne (7), 3, 4, 6, [], []) rfl rfl rfl ?_
  refine bB_eq (x := (bi σ a1 5)) (y := (-1)) (bi_rg _ _ _) (by decide : bRg (-1)) (fun c1 => ?_) (fun c1 => ?_)
  · refine bGo hA 0 4 (8, .iconst (0), 1, 5, 0, [], [(0, 0)]) rfl rfl rfl ?_
    refine bEqI bl_0 ?_
    refine bGo hA 0 5 (9, .goto (19), 3, 6, 14, [], []) rfl rfl rfl ?_
    refine bGo hA 0 14 (28, .ireturn, 1, 0, 0, [1], []) rfl rfl rfl ?_
    exact (h.1 c1)
  · refine bGo hA 0 6 (12, .aload_n 0, 1, 7, 0, [0], []) rfl rfl rfl ?_
    refine bGo hA 0 7 (13, .getfield 49, 3, 8, 0, [6, 2, 3, 10, 0, 0], []) rfl rfl rfl ?_
    refine ⟨rfl, ?_⟩
    refine bGo hA 0 8 (16, .aload_n 1, 1, 9, 0, [1], []) rfl rfl rfl ?_
    refine bGo hA 0 9 (17, .getfield 154, 3, 10, 0, [8, 5, 0, 0, 0, 0], []) rfl rfl rfl ?_
    refine ⟨h_a1, ?_⟩
    refine bEqI (bn_bi σ a1 5) ?_
    refine bGo hA 0 10 (20, .iload_n 2, 1, 11, 0, [2], []) rfl rfl rfl ?_
    refine bGo hA 0 11 (21, .sipush (255), 3, 12, 0, [], [(255, 0)]) rfl rfl rfl ?_
    refine bEqI bl_255 ?_
    refine bGo hA 0 12 (24, .iand, 1, 13, 0, [], []) rfl rfl rfl ?_
    refine bEqI (bn_and x2 255) ?_
    refine bGo hA 0 13 (25, .invokevirtual 157, 3, 14, 0, [0, 10, 134, 2], []) rfl rfl rfl ?_
    refine ⟨rfl, ?_⟩
    refine hC _ _ _ _ _ (bRn_e (fun r4 s2 q5 k3 => ?_)) (h.2 c1)
    show A (14, [.ref 6, .ref a1, .int (bn x2)], [.int (bn r4)], s2)
    refine bGo hA 0 14 (28, .ireturn, 1, 0, 0, [1], []) rfl rfl rfl ?_
    exact k3

theorem sq76_0 {lvl : Nat} {C : bCall} {Q : bPost} {A : bPt → Prop} (hC : bMono C) (hA : bClosed lvl bm76 C Q A) {a1 : Nat} {x2 : Int} {x3 : Int} {σ : bSt} (h_a1 : a1 % 256 = 8) (h_x2 : bRg x2) (h_x3 : bRg x3)
  (h : ((x3 < 100 → (C 35 [.ref 3, .int (bn x3)] σ (bRn (fun r4 s2 => ((r4 = (bi s2 a1 0) → (C 31 [.ref 3, .int (bn x3)] s2 (bRn (fun r9 s7 => ((r9 = (-1) → Q (.inl (some (.int (bn 5)))) s7) ∧ (¬ r9 = (-1) → Q (.inl (some (.int (bn 0)))) s7)))))) ∧ (¬ r4 = (bi s2 a1 0) → Q (.inl (some (.int (bn 4)))) s2)))))) ∧ (¬ x3 < 100 → (C 73 [.ref 6, .ref a1, .int (bn x2), .int (bn x3)] σ (bRn (fun r14 s12 => ((r14 = (-1) → Q (.inl (some (.int (bn 0)))) s12) ∧ (¬ r14 = (-1) → (C 140 [.ref 29, .int (bn r14)] s12 (bRn (fun r19 s17 => ((r19 = 0 → Q (.inl (some (.int (bn 0)))) s17) ∧ (¬ r19 = 0 → (bRg (r14 * 8) ∧ (bRg (6 + (r14 * 8)) ∧ Q (.inl (some (.int (bn (6 + (r14 * 8)))))) s17))))))))))))))) : A (0, [.ref 6, .ref a1, .int (bn x2), .int (bn x3), .float 0], [], σ) := by
  refine bGo hA 0 0 (0, .iload_n 3, 1, 1, 0, [3], []) rfl rfl rfl ?_
  refine bGo hA 0 1 (1, .bipush (100), 2, 2, 0, [], [(100, 0)]) rfl rfl rfl ?_
  refine bEqI bl_100 ?_
  refine bGo hA 0 2 (3, .if_icmp .ge (38), 3, 3, 22, [], []) rfl rfl rfl ?_
  refine bB_lt (x := x3) (y := 100) h_x3 (by decide : bRg 100) (fun c1 => ?_) (fun c1 => ?_)
  · refine bGo hA 0 3 (6, .aload_n 0, 1, 4, 0, [0], []) rfl rfl rfl ?_
    refine bGo hA 0 4 (7, .getfield 41, 3, 5, 0, [6, 0, 3, 3, 0, 0], []) rfl rfl rfl ?_
    refine ⟨rfl, ?_⟩
    refine bGo hA 0 5 (10, .iload_n 3, 1, 6, 0, [3], []) rfl rfl rfl ?_
    refine bGo hA 0 6 (11, .invokevirtual 160, 3, 7, 0, [0, 3, 35, 1], []) rfl rfl rfl ?_
    refine ⟨rfl, ?_⟩
    refine hC _ _ _ _ _ (bRn_e (fun r4 s2 q5 k3 => ?_)) (h.1 c1)
    show A (7, [.ref 6, .ref a1, .int (bn x2), .int (bn x3), .float 0], [.int (bn r4)], s2)
    refine bGo hA 0 7 (14, .aload_n 1, 1, 8, 0, [1], []) rfl rfl rfl ?_
    refine bGo hA 0 8 (15, .getfield 126, 3, 9, 0, [8, 0, 0, 0, 0, 0], []) rfl rfl rfl ?_
    refine ⟨h_a1, ?_⟩
    refine bEqI (bn_bi s2 a1 0) ?_
    refine bGo hA 0 9 (18, .if_icmp .eq (5), 3, 10, 12, [], []) rfl rfl rfl ?_
    refine bB_eq (x := r4) (y := (bi s2 a1 0)) q5 (bi_rg _ _ _) (fun c6 => ?_) (fun c6 => ?_)
    · refine bGo hA 0 12 (23, .aload_n 0, 1, 13, 0, [0], []) rfl rfl rfl ?_
      refine bGo hA 0 13 (24, .getfield 41, 3, 14, 0, [6, 0, 3, 3, 0, 0], []) rfl rfl rfl ?_
      refine ⟨rfl, ?_⟩
      refine bGo hA 0 14 (27, .iload_n 3, 1, 15, 0, [3], []) rfl rfl rfl ?_
      refine bGo hA 0 15 (28, .invokevirtual 163, 3, 16, 0, [0, 3, 31, 1], []) rfl rfl rfl ?_
      refine ⟨rfl, ?_⟩
      refine hC _ _ _ _ _ (bRn_e (fun r9 s7 q10 k8 => ?_)) (k3.1 c6)
      show A (16, [.ref 6, .ref a1, .int (bn x2), .int (bn x3), .float 0], [.int (bn r9)], s7)
      refine bGo hA 1 0 (31, .iconst (-1), 1, 17, 0, [], [(-1, 0)]) rfl rfl rfl ?_
      refine bEqI bl_m1 ?_
      refine bGo hA 1 1 (32, .if_icmp .ne (7), 3, 18, 20, [], []) rfl rfl rfl ?_
      refine bB_eq (x := r9) (y := (-1)) q10 (by decide : bRg (-1)) (fun c11 => ?_) (fun c11 => ?_)
      · refine bGo hA 1 2 (35, .iconst (5), 1, 19, 0, [], [(5, 0)]) rfl rfl rfl ?_
        refine bEqI bl_5 ?_
        refine bGo hA 1 3 (36, .goto (4), 3, 20, 21, [], []) rfl rfl rfl ?_
        refine bGo hA 1 5 (40, .ireturn, 1, 22, 0, [1], []) rfl rfl rfl ?_
        exact (k8.1 c11)
      · refine bGo hA 1 4 (39, .iconst (0), 1, 21, 0, [], [(0, 0)]) rfl rfl rfl ?_
        refine bEqI bl_0 ?_
        refine bGo hA 1 5 (40, .ireturn, 1, 22, 0, [1], []) rfl rfl rfl ?_
        exact (k8.2 c11)
    · refine bGo hA 0 10 (21, .iconst (4), 1, 11, 0, [], [(4, 0)]) rfl rfl rfl ?_
      refine bEqI bl_4 ?_
      refine bGo hA 0 11 (22, .ireturn, 1, 12, 0, [1], []) rfl rfl rfl ?_
      exact (k3.2 c6)
  · refine bGo hA 1 6 (41, .aload_n 0, 1, 23, 0, [0], []) rfl rfl rfl ?_
    refine bGo hA 1 7 (42, .aload_n 1, 1, 24, 0, [1], []) rfl rfl rfl ?_
    refine bGo hA 1 8 (43, .iload_n 2, 1, 25, 0, [2], []) rfl rfl rfl ?_
    refine bGo hA 1 9 (44, .iload_n 3, 1, 26, 0, [3], []) rfl rfl rfl ?_
    refine bGo hA 1 10 (45, .invokevirtual 115, 3, 27, 0, [0, 6, 73, 3], []) rfl rfl rfl ?_
    refine ⟨rfl, ?_⟩
    refine hC _ _ _ _ _ (bRn_e (fun r14 s12 q15 k13 => ?_)) (h.2 c1)
    show A (27, [.ref 6, .ref a1, .int (bn x2), .int (bn x3), .float 0], [.int (bn r14)], s12)
    refine bGo hA 1 11 (48, .istore 4, 2, 28, 0, [4], []) rfl rfl rfl ?_
    refine bGo hA 1 12 (50, .iload 4, 2, 29, 0, [4], []) rfl rfl rfl ?_
    refine bGo hA 1 13 (52, .iconst (-1), 1, 30, 0, [], [(-1, 0)]) rfl rfl rfl ?_
    refine bEqI bl_m1 ?_
    refine bGo hA 1 14 (53, .if_icmp .eq (26), 3, 31, 42, [], []) rfl rfl rfl ?_
    refine bB_eq (x := r14) (y := (-1)) q15 (by decide : bRg (-1)) (fun c16 => ?_) (fun c16 => ?_)
    · refine bGo hA 2 10 (79, .iconst (0), 1, 43, 0, [], [(0, 0)]) rfl rfl rfl ?_
      refine bEqI bl_0 ?_
      refine bGo hA 2 11 (80, .ireturn, 1, 0, 0, [1], []) rfl rfl rfl ?_
      exact (k13.1 c16)
    · refine bGo hA 1 15 (56, .aload_n 0, 1, 32, 0, [0], []) rfl rfl rfl ?_
      refine bGo hA 2 0 (57, .getfield 18, 3, 33, 0, [6, 6, 3, 29, 1, 0], []) rfl rfl rfl ?_
      refine ⟨rfl, ?_⟩
      refine bGo hA 2 1 (60, .iload 4, 2, 34, 0, [4], []) rfl rfl rfl ?_
      refine bGo hA 2 2 (62, .invokestatic 100, 3, 35, 1, [2, 140, 2], []) rfl rfl rfl ?_
      refine hC _ _ _ _ _ (bRn_e (fun r19 s17 q20 k18 => ?_)) (k13.2 c16)
      show A (35, [.ref 6, .ref a1, .int (bn x2), .int (bn x3), .int (bn r14)], [.int (bn r19)], s17)
      refine bGo hA 2 3 (65, .ifCond .eq (14), 3, 36, 42, [], []) rfl rfl rfl ?_
      refine bB_eq0 (x := r19) q20 (fun c21 => ?_) (fun c21 => ?_)
      · refine bGo hA 2 10 (79, .iconst (0), 1, 43, 0, [], [(0, 0)]) rfl rfl rfl ?_
        refine bEqI bl_0 ?_
        refine bGo hA 2 11 (80, .ireturn, 1, 0, 0, [1], []) rfl rfl rfl ?_
        exact (k18.1 c21)
      · refine bGo hA 2 4 (68, .bipush (6), 2, 37, 0, [], [(6, 0)]) rfl rfl rfl ?_
        refine bEqI bl_6 ?_
        refine bGo hA 2 5 (70, .iload 4, 2, 38, 0, [4], []) rfl rfl rfl ?_
        refine bGo hA 2 6 (72, .bipush (8), 2, 39, 0, [], [(8, 0)]) rfl rfl rfl ?_
        refine bEqI bl_8 ?_
        refine bGo hA 2 7 (74, .imul, 1, 40, 0, [], []) rfl rfl rfl ?_
        refine bEqI (bn_mul r14 8) ?_
        refine bGo hA 2 8 (75, .iadd, 1, 41, 0, [], []) rfl rfl rfl ?_
        refine bEqI (bn_add 6 (r14 * 8)) ?_
        refine bGo hA 2 9 (76, .goto (4), 3, 42, 43, [], []) rfl rfl rfl ?_
        refine bGo hA 2 11 (80, .ireturn, 1, 0, 0, [1], []) rfl rfl rfl ?_
        exact (k18.2 c21).2.2

theorem sq77_0 {lvl : Nat} {C : bCall} {Q : bPost} {A : bPt → Prop} (hC : bMono C) (hA : bClosed lvl bm77 C Q A) {a1 : Nat} {x2 : Int} {σ : bSt} (h_a1 : a1 % 256 = 8) (h_x2 : bRg x2)
  (h : (bRg (x2 - 1000) ∧ (((bAnd (x2 - 1000) 1) = 1 → (C 36 [.ref 3, .int (bn (bi σ a1 0)), .int (bn (bShr (x2 - 1000) 1)), .int (bn 1)] σ (bRj (fun r4 s2 => Q (.inl (some (.long r4))) s2)))) ∧ (¬ (bAnd (x2 - 1000) 1) = 1 → (C 36 [.ref 3, .int (bn (bi σ a1 0)), .int (bn (bShr (x2 - 1000) 1)), .int (bn 0)] σ (bRj (fun r7 s5 => Q (.inl (some (.long r7))) s5))))))) : A (0, [.ref 6, .ref a1, .int (bn x2), .float 0], [], σ) := by
  refine bGo hA 0 0 (0, .iload_n 2, 1, 1, 0, [2], []) rfl rfl rfl ?_
  refine bGo hA 0 1 (1, .sipush (1000), 3, 2, 0, [], [(1000, 0)]) rfl rfl rfl ?_
  refine bEqI bl_1000 ?_
  refine bGo hA 0 2 (4, .isub, 1, 3, 0, [], []) rfl rfl rfl ?_
  refine bEqI (bn_sub x2 1000) ?_
  refine bGo hA 0 3 (5, .istore_n 3, 1, 4, 0, [3], []) rfl rfl rfl ?_
  refine bGo hA 0 4 (6, .aload_n 0, 1, 5, 0, [0], []) rfl rfl rfl ?_
  refine bGo hA 0 5 (7, .getfield 41, 3, 6, 0, [6, 0, 3, 3, 0, 0], []) rfl rfl rfl ?_
  refine ⟨rfl, ?_⟩
  refine bGo hA 0 6 (10, .aload_n 1, 1, 7, 0, [1], []) rfl rfl rfl ?_
  refine bGo hA 0 7 (11, .getfield 126, 3, 8, 0, [8, 0, 0, 0, 0, 0], []) rfl rfl rfl ?_
  refine ⟨h_a1, ?_⟩
  refine bEqI (bn_bi σ a1 0) ?_
  refine bGo hA 0 8 (14, .iload_n 3, 1, 9, 0, [3], []) rfl rfl rfl ?_
  refine bGo hA 0 9 (15, .iconst (1), 1, 10, 0, [], [(1, 0)]) rfl rfl rfl ?_
  refine bEqI bl_1 ?_
  refine bGo hA 0 10 (16, .ishr, 1, 11, 0, [], []) rfl rfl rfl ?_
  refine bEqI (bn_shr (x2 - 1000) 1) ?_
  refine bGo hA 0 11 (17, .iload_n 3, 1, 12, 0, [3], []) rfl rfl rfl ?_
  refine bGo hA 0 12 (18, .iconst (1), 1, 13, 0, [], [(1, 0)]) rfl rfl rfl ?_
  refine bEqI bl_1 ?_
  refine bGo hA 0 13 (19, .iand, 1, 14, 0, [], []) rfl rfl rfl ?_
  refine bEqI (bn_and (x2 - 1000) 1) ?_
  refine bGo hA 0 14 (20, .iconst (1), 1, 15, 0, [], [(1, 0)]) rfl rfl rfl ?_
  refine bEqI bl_1 ?_
  refine bGo hA 0 15 (21, .if_icmp .ne (7), 3, 16, 18, [], []) rfl rfl rfl ?_
  refine bB_eq (x := (bAnd (x2 - 1000) 1)) (y := 1) (bRgI _) (by decide : bRg 1) (fun c1 => ?_) (fun c1 => ?_)
  · refine bGo hA 1 0 (24, .iconst (1), 1, 17, 0, [], [(1, 0)]) rfl rfl rfl ?_
    refine bEqI bl_1 ?_
    refine bGo hA 1 1 (25, .goto (4), 3, 18, 19, [], []) rfl rfl rfl ?_
    refine bGo hA 1 3 (29, .invokevirtual 166, 3, 20, 0, [0, 3, 36, 3], []) rfl rfl rfl ?_
    refine ⟨rfl, ?_⟩
    refine hC _ _ _ _ _ (bRj_e (fun r4 s2 k3 => ?_)) (h.2.1 c1)
    show A (20, [.ref 6, .ref a1, .int (bn x2), .int (bn (x2 - 1000))], [.long r4], s2)
    refine bGo hA 1 4 (32, .lreturn, 1, 0, 0, [3], []) rfl rfl rfl ?_
    exact k3
  · refine bGo hA 1 2 (28, .iconst (0), 1, 19, 0, [], [(0, 0)]) rfl rfl rfl ?_
    refine bEqI bl_0 ?_
    refine bGo hA 1 3 (29, .invokevirtual 166, 3, 20, 0, [0, 3, 36, 3], []) rfl rfl rfl ?_
    refine ⟨rfl, ?_⟩
    refine hC _ _ _ _ _ (bRj_e (fun r7 s5 k6 => ?_)) (h.2.2 c1)
    show A (20, [.ref 6, .ref a1, .int (bn x2), .int (bn (x2 - 1000))], [.long r7], s5)
    refine bGo hA 1 4 (32, .lreturn, 1, 0, 0, [3], []) rfl rfl rfl ?_
    exact k6

theorem sq78_0 {lvl : Nat} {C : bCall} {Q : bPost} {A : bPt → Prop} (hC : bMono C) (hA : bClosed lvl bm78 C Q A) {x1 : Int} {x2 : Int} {σ : bSt}  (h_x1 : bRg x1) (h_x2 : bRg x2)
  (h : (C 70 [.ref 6] σ (bRv (fun s1 => (C 69 [.ref 6, .int (bn x1)] s1 (bRn (fun r5 s3 => (C 71 [.ref 6, .int (bn r5)] s3 (bRv (fun s7 => (C 69 [.ref 6, .int (bn x1)] s7 (bRn (fun r11 s9 => A (13, [.ref 6, .int (bn x1), .int (bn x2), .int (bn r11), .int (bn 0), .float 0], [], s9)))))))))))))) : A (0, [.ref 6, .int (bn x1), .int (bn x2), .float 0, .float 0, .float 0], [], σ) := by
  refine bGo hA 0 0 (0, .aload_n 0, 1, 1, 0, [0], []) rfl rfl rfl ?_
  refine bGo hA 0 1 (1, .invokevirtual 170, 3, 2, 0, [0, 6, 70, 0], []) rfl rfl rfl ?_
  refine ⟨rfl, ?_⟩
  refine hC _ _ _ _ _ (bRv_e (fun s1 k2 => ?_)) h
  show A (2, [.ref 6, .int (bn x1), .int (bn x2), .float 0, .float 0, .float 0], [], s1)
  refine bGo hA 0 2 (4, .aload_n 0, 1, 3, 0, [0], []) rfl rfl rfl ?_
  refine bGo hA 0 3 (5, .aload_n 0, 1, 4, 0, [0], []) rfl rfl rfl ?_
  refine bGo hA 0 4 (6, .iload_n 1, 1, 5, 0, [1], []) rfl rfl rfl ?_
  refine bGo hA 0 5 (7, .invokevirtual 173, 3, 6, 0, [0, 6, 69, 1], []) rfl rfl rfl ?_
  refine ⟨rfl, ?_⟩
  refine hC _ _ _ _ _ (bRn_e (fun r5 s3 q6 k4 => ?_)) k2
  show A (6, [.ref 6, .int (bn x1), .int (bn x2), .float 0, .float 0, .float 0], [.int (bn r5), .ref 6], s3)
  refine bGo hA 0 6 (10, .invokevirtual 176, 3, 7, 0, [0, 6, 71, 1], []) rfl rfl rfl ?_
  refine ⟨rfl, ?_⟩
  refine hC _ _ _ _ _ (bRv_e (fun s7 k8 => ?_)) k4
  show A (7, [.ref 6, .int (bn x1), .int (bn x2), .float 0, .float 0, .float 0], [], s7)
  refine bGo hA 0 7 (13, .aload_n 0, 1, 8, 0, [0], []) rfl rfl rfl ?_
  refine bGo hA 0 8 (14, .iload_n 1, 1, 9, 0, [1], []) rfl rfl rfl ?_
  refine bGo hA 0 9 (15, .invokevirtual 173, 3, 10, 0, [0, 6, 69, 1], []) rfl rfl rfl ?_
  refine ⟨rfl, ?_⟩
  refine hC _ _ _ _ _ (bRn_e (fun r11 s9 q12 k10 => ?_)) k8
  show A (10, [.ref 6, .int (bn x1), .int (bn x2), .float 0, .float 0, .float 0], [.int (bn r11)], s9)
  refine bGo hA 0 10 (18, .istore_n 3, 1, 11, 0, [3], []) rfl rfl rfl ?_
  refine bGo hA 0 11 (19, .iconst (0), 1, 12, 0, [], [(0, 0)]) rfl rfl rfl ?_
  refine bEqI bl_0 ?_
  refine bGo hA 0 12 (20, .istore 4, 2, 13, 0, [4], []) rfl rfl rfl ?_
  exact k10

theorem sq78_13 {lvl : Nat} {C : bCall} {Q : bPost} {A : bPt → Prop} (hC : bMono C) (hA : bClosed lvl bm78 C Q A) {v1 : Value} {l2 : Int} {l3 : Int} {l4 : Int} {v5 : Value} {σ : bSt}  (h_l2 : bRg l2) (h_l3 : bRg l3) (h_l4 : bRg l4)
  (h : ((l4 < l2 → (C 140 [.ref 29, .int (bn l3)] σ (bRn (fun r4 s2 => (0 ≤ r4 ∧ (((r4 % 8) = 6 → (bRg (l4 + 1) ∧ A (13, [.ref 6, v1, .int (bn l2), .int (bn (r4 / 8)), .int (bn (l4 + 1)), .int (bn r4)], [], s2))) ∧ (¬ (r4 % 8) = 6 → Q (.inl (some (.int (bn (-1))))) s2))))))) ∧ (¬ l4 < l2 → (C 140 [.ref 29, .int (bn l3)] σ (bRn (fun r9 s7 => (0 ≤ r9 ∧ (((r9 % 8) = 0 → Q (.inl (some (.int (bn (-1))))) s7) ∧ (¬ (r9 % 8) = 0 → (bRg ((bShr l3 8) * 10) ∧ (bRg (((bShr l3 8) * 10) + (r9 % 8)) ∧ Q (.inl (some (.int (bn (((bShr l3 8) * 10) + (r9 % 8)))))) s7))))))))))) : A (13, [.ref 6, v1, .int (bn l2), .int (bn l3), .int (bn l4), v5], [], σ) := by
  refine bGo hA 0 13 (22, .iload 4, 2, 14, 0, [4], []) rfl rfl rfl ?_
  refine bGo hA 0 14 (24, .iload_n 2, 1, 15, 0, [2], []) rfl rfl rfl ?_
  refine bGo hA 0 15 (25, .if_icmp .ge (37), 3, 16, 34, [], []) rfl rfl rfl ?_
  refine bB_lt (x := l4) (y := l2) h_l4 h_l2 (fun c1 => ?_) (fun c1 => ?_)
  · refine bGo hA 1 0 (28, .aload_n 0, 1, 17, 0, [0], []) rfl rfl rfl ?_
    refine bGo hA 1 1 (29, .getfield 18, 3, 18, 0, [6, 6, 3, 29, 1, 0], []) rfl rfl rfl ?_
    refine ⟨rfl, ?_⟩
    refine bGo hA 1 2 (32, .iload_n 3, 1, 19, 0, [3], []) rfl rfl rfl ?_
    refine bGo hA 1 3 (33, .invokestatic 100, 3, 20, 1, [2, 140, 2], []) rfl rfl rfl ?_
    refine hC _ _ _ _ _ (bRn_e (fun r4 s2 q5 k3 => ?_)) (h.1 c1)
    show A (20, [.ref 6, v1, .int (bn l2), .int (bn l3), .int (bn l4), v5], [.int (bn r4)], s2)
    refine bGo hA 1 4 (36, .istore 5, 2, 21, 0, [5], []) rfl rfl rfl ?_
    refine bGo hA 1 5 (38, .iload 5, 2, 22, 0, [5], []) rfl rfl rfl ?_
    refine bGo hA 1 6 (40, .bipush (8), 2, 23, 0, [], [(8, 0)]) rfl rfl rfl ?_
    refine bEqI bl_8 ?_
    refine bGo hA 1 7 (42, .irem, 1, 24, 0, [], []) rfl rfl rfl ?_
    refine ⟨by decide, ?_⟩
    refine bEqI (bn_rem q5 (by decide) k3.1) ?_
    refine bGo hA 1 8 (43, .bipush (6), 2, 25, 0, [], [(6, 0)]) rfl rfl rfl ?_
    refine bEqI bl_6 ?_
    refine bGo hA 1 9 (45, .if_icmp .eq (5), 3, 26, 28, [], []) rfl rfl rfl ?_
    refine bB_eq (x := (r4 % 8)) (y := 6) (bRg_mod (by decide) (by decide)) (by decide : bRg 6) (fun c6 => ?_) (fun c6 => ?_)
    · refine bGo hA 1 12 (50, .iload 5, 2, 29, 0, [5], []) rfl rfl rfl ?_
      refine bGo hA 1 13 (52, .bipush (8), 2, 30, 0, [], [(8, 0)]) rfl rfl rfl ?_
      refine bEqI bl_8 ?_
      refine bGo hA 1 14 (54, .idiv, 1, 31, 0, [], []) rfl rfl rfl ?_
      refine ⟨by decide, ?_⟩
      refine bEqI (bn_div q5 (by decide) k3.1) ?_
      refine bGo hA 1 15 (55, .istore_n 3, 1, 32, 0, [3], []) rfl rfl rfl ?_
      refine bGo hA 2 0 (56, .iinc 4 (1), 3, 33, 0, [4], [(1, 0)]) rfl rfl rfl ?_
      refine bEqC (fun v => A (33, [.ref 6, v1, .int (bn l2), .int (bn (r4 / 8)), .int v, .int (bn r4)], [], s2)) ((congrArg (fun w => bn l4 + w) bl_1).trans (bn_add l4 1)) ?_
      refine bGo hA 2 1 (59, .goto (-37), 3, 34, 13, [], []) rfl rfl rfl ?_
      exact (k3.2.1 c6).2
    · refine bGo hA 1 10 (48, .iconst (-1), 1, 27, 0, [], [(-1, 0)]) rfl rfl rfl ?_
      refine bEqI bl_m1 ?_
      refine bGo hA 1 11 (49, .ireturn, 1, 28, 0, [1], []) rfl rfl rfl ?_
      exact (k3.2.2 c6)
  · refine bGo hA 2 2 (62, .aload_n 0, 1, 35, 0, [0], []) rfl rfl rfl ?_
    refine bGo hA 2 3 (63, .getfield 18, 3, 36, 0, [6, 6, 3, 29, 1, 0], []) rfl rfl rfl ?_
    refine ⟨rfl, ?_⟩
    refine bGo hA 2 4 (66, .iload_n 3, 1, 37, 0, [3], []) rfl rfl rfl ?_
    refine bGo hA 2 5 (67, .invokestatic 100, 3, 38, 1, [2, 140, 2], []) rfl rfl rfl ?_
    refine hC _ _ _ _ _ (bRn_e (fun r9 s7 q10 k8 => ?_)) (h.2 c1)
    show A (38, [.ref 6, v1, .int (bn l2), .int (bn l3), .int (bn l4), v5], [.int (bn r9)], s7)
    refine bGo hA 2 6 (70, .bipush (8), 2, 39, 0, [], [(8, 0)]) rfl rfl rfl ?_
    refine bEqI bl_8 ?_
    refine bGo hA 2 7 (72, .irem, 1, 40, 0, [], []) rfl rfl rfl ?_
    refine ⟨by decide, ?_⟩
    refine bEqI (bn_rem q10 (by decide) k8.1) ?_
    refine bGo hA 2 8 (73, .istore 4, 2, 41, 0, [4], []) rfl rfl rfl ?_
    refine bGo hA 2 9 (75, .iload 4, 2, 42, 0, [4], []) rfl rfl rfl ?_
    refine bGo hA 2 10 (77, .ifCond .ne (7), 3, 43, 45, [], []) rfl rfl rfl ?_
    refine bB_eq0 (x := (r9 % 8)) (bRg_mod (by decide) (by decide)) (fun c11 => ?_) (fun c11 => ?_)
    · refine bGo hA 2 11 (80, .iconst (-1), 1, 44, 0, [], [(-1, 0)]) rfl rfl rfl ?_
      refine bEqI bl_m1 ?_
      refine bGo hA 2 12 (81, .goto (13), 3, 45, 52, [], []) rfl rfl rfl ?_
      refine bGo hA 3 4 (94, .ireturn, 1, 0, 0, [1], []) rfl rfl rfl ?_
      exact (k8.2.1 c11)
    · refine bGo hA 2 13 (84, .iload_n 3, 1, 46, 0, [3], []) rfl rfl rfl ?_
      refine bGo hA 2 14 (85, .bipush (8), 2, 47, 0, [], [(8, 0)]) rfl rfl rfl ?_
      refine bEqI bl_8 ?_
      refine bGo hA 2 15 (87, .ishr, 1, 48, 0, [], []) rfl rfl rfl ?_
      refine bEqI (bn_shr l3 8) ?_
      refine bGo hA 3 0 (88, .bipush (10), 2, 49, 0, [], [(10, 0)]) rfl rfl rfl ?_
      refine bEqI bl_10 ?_
      refine bGo hA 3 1 (90, .imul, 1, 50, 0, [], []) rfl rfl rfl ?_
      refine bEqI (bn_mul (bShr l3 8) 10) ?_
      refine bGo hA 3 2 (91, .iload 4, 2, 51, 0, [4], []) rfl rfl rfl ?_
      refine bGo hA 3 3 (93, .iadd, 1, 52, 0, [], []) rfl rfl rfl ?_
      refine bEqI (bn_add ((bShr l3 8) * 10) (r9 % 8)) ?_
      refine bGo hA 3 4 (94, .ireturn, 1, 0, 0, [1], []) rfl rfl rfl ?_
      exact (k8.2.2 c11).2.2

theorem sq79_0 {lvl : Nat} {C : bCall} {Q : bPost} {A : bPt → Prop} (hC : bMono C) (hA : bClosed lvl bm79 C Q A) {x1 : Int} {σ : bSt}  (h_x1 : bRg x1)
  (h : (C 70 [.ref 6] σ (bRv (fun s1 => A (6, [.ref 6, .int (bn x1), .int (bn 0), .int (bn 0)], [], s1))))) : A (0, [.ref 6, .int (bn x1), .float 0, .float 0], [], σ) := by
  refine bGo hA 0 0 (0, .aload_n 0, 1, 1, 0, [0], []) rfl rfl rfl ?_
  refine bGo hA 0 1 (1, .invokevirtual 170, 3, 2, 0, [0, 6, 70, 0], []) rfl rfl rfl ?_
  refine ⟨rfl, ?_⟩
  refine hC _ _ _ _ _ (bRv_e (fun s1 k2 => ?_)) h
  show A (2, [.ref 6, .int (bn x1), .float 0, .float 0], [], s1)
  refine bGo hA 0 2 (4, .iconst (0), 1, 3, 0, [], [(0, 0)]) rfl rfl rfl ?_
  refine bEqI bl_0 ?_
  refine bGo hA 0 3 (5, .istore_n 2, 1, 4, 0, [2], []) rfl rfl rfl ?_
  refine bGo hA 0 4 (6, .iconst (0), 1, 5, 0, [], [(0, 0)]) rfl rfl rfl ?_
  refine bEqI bl_0 ?_
  refine bGo hA 0 5 (7, .istore_n 3, 1, 6, 0, [3], []) rfl rfl rfl ?_
  exact k2

theorem sq79_6 {lvl : Nat} {C : bCall} {Q : bPost} {A : bPt → Prop} (hC : bMono C) (hA : bClosed lvl bm79 C Q A) {l1 : Int} {l2 : Int} {l3 : Int} {σ : bSt}  (h_l1 : bRg l1) (h_l2 : bRg l2) (h_l3 : bRg l3)
  (h : ((l3 < 16 → (((bAnd (bShr l1 l3) 1) = 1 → (C 69 [.ref 6, .int (bn l3)] σ (bRn (fun r5 s3 => (C 71 [.ref 6, .int (bn r5)] s3 (bRv (fun s7 => (C 69 [.ref 6, .int (bn l3)] s7 (bRn (fun r11 s9 => (C 140 [.ref 29, .int (bn r11)] s9 (bRn (fun r15 s13 => ((r15 = 0 → (bRg (l3 + 1) ∧ A (6, [.ref 6, .int (bn l1), .int (bn (bOr l2 (bShl 1 l3))), .int (bn (l3 + 1))], [], s13))) ∧ (¬ r15 = 0 → (bRg (l3 + 1) ∧ A (6, [.ref 6, .int (bn l1), .int (bn (bOr l2 0)), .int (bn (l3 + 1))], [], s13))))))))))))))))) ∧ (¬ (bAnd (bShr l1 l3) 1) = 1 → (bRg (l3 + 1) ∧ A (6, [.ref 6, .int (bn l1), .int (bn l2), .int (bn (l3 + 1))], [], σ))))) ∧ (¬ l3 < 16 → Q (.inl (some (.int (bn l2)))) σ))) : A (6, [.ref 6, .int (bn l1), .int (bn l2), .int (bn l3)], [], σ) := by
  refine bGo hA 0 6 (8, .iload_n 3, 1, 7, 0, [3], []) rfl rfl rfl ?_
  refine bGo hA 0 7 (9, .bipush (16), 2, 8, 0, [], [(16, 0)]) rfl rfl rfl ?_
  refine bEqI bl_16 ?_
  refine bGo hA 0 8 (11, .if_icmp .ge (52), 3, 9, 38, [], []) rfl rfl rfl ?_
  refine bB_lt (x := l3) (y := 16) h_l3 (by decide : bRg 16) (fun c1 => ?_) (fun c1 => ?_)
  · refine bGo hA 0 9 (14, .iload_n 1, 1, 10, 0, [1], []) rfl rfl rfl ?_
    refine bGo hA 0 10 (15, .iload_n 3, 1, 11, 0, [3], []) rfl rfl rfl ?_
    refine bGo hA 0 11 (16, .ishr, 1, 12, 0, [], []) rfl rfl rfl ?_
    refine bEqI (bn_shr l1 l3) ?_
    refine bGo hA 0 12 (17, .iconst (1), 1, 13, 0, [], [(1, 0)]) rfl rfl rfl ?_
    refine bEqI bl_1 ?_
    refine bGo hA 0 13 (18, .iand, 1, 14, 0, [], []) rfl rfl rfl ?_
    refine bEqI (bn_and (bShr l1 l3) 1) ?_
    refine bGo hA 0 14 (19, .iconst (1), 1, 15, 0, [], [(1, 0)]) rfl rfl rfl ?_
    refine bEqI bl_1 ?_
    refine bGo hA 0 15 (20, .if_icmp .ne (37), 3, 16, 36, [], []) rfl rfl rfl ?_
    refine bB_eq (x := (bAnd (bShr l1 l3) 1)) (y := 1) (bRgI _) (by decide : bRg 1) (fun c2 => ?_) (fun c2 => ?_)
    · refine bGo hA 1 0 (23, .aload_n 0, 1, 17, 0, [0], []) rfl rfl rfl ?_
      refine bGo hA 1 1 (24, .aload_n 0, 1, 18, 0, [0], []) rfl rfl rfl ?_
      refine bGo hA 1 2 (25, .iload_n 3, 1, 19, 0, [3], []) rfl rfl rfl ?_
      refine bGo hA 1 3 (26, .invokevirtual 173, 3, 20, 0, [0, 6, 69, 1], []) rfl rfl rfl ?_
      refine ⟨rfl, ?_⟩
      refine hC _ _ _ _ _ (bRn_e (fun r5 s3 q6 k4 => ?_)) ((h.1 c1).1 c2)
      show A (20, [.ref 6, .int (bn l1), .int (bn l2), .int (bn l3)], [.int (bn r5), .ref 6], s3)
      refine bGo hA 1 4 (29, .invokevirtual 176, 3, 21, 0, [0, 6, 71, 1], []) rfl rfl rfl ?_
      refine ⟨rfl, ?_⟩
      refine hC _ _ _ _ _ (bRv_e (fun s7 k8 => ?_)) k4
      show A (21, [.ref 6, .int (bn l1), .int (bn l2), .int (bn l3)], [], s7)
      refine bGo hA 1 5 (32, .iload_n 2, 1, 22, 0, [2], []) rfl rfl rfl ?_
      refine bGo hA 1 6 (33, .aload_n 0, 1, 23, 0, [0], []) rfl rfl rfl ?_
      refine bGo hA 1 7 (34, .getfield 18, 3, 24, 0, [6, 6, 3, 29, 1, 0], []) rfl rfl rfl ?_
      refine ⟨rfl, ?_⟩
      refine bGo hA 1 8 (37, .aload_n 0, 1, 25, 0, [0], []) rfl rfl rfl ?_
      refine bGo hA 1 9 (38, .iload_n 3, 1, 26, 0, [3], []) rfl rfl rfl ?_
      refine bGo hA 1 10 (39, .invokevirtual 173, 3, 27, 0, [0, 6, 69, 1], []) rfl rfl rfl ?_
      refine ⟨rfl, ?_⟩
      refine hC _ _ _ _ _ (bRn_e (fun r11 s9 q12 k10 => ?_)) k8
      show A (27, [.ref 6, .int (bn l1), .int (bn l2), .int (bn l3)], [.int (bn r11), .ref 29, .int (bn l2)], s9)
      refine bGo hA 1 11 (42, .invokestatic 100, 3, 28, 1, [2, 140, 2], []) rfl rfl rfl ?_
      refine hC _ _ _ _ _ (bRn_e (fun r15 s13 q16 k14 => ?_)) k10
      show A (28, [.ref 6, .int (bn l1), .int (bn l2), .int (bn l3)], [.int (bn r15), .int (bn l2)], s13)
      refine bGo hA 1 12 (45, .ifCond .ne (9), 3, 29, 33, [], []) rfl rfl rfl ?_
      refine bB_eq0 (x := r15) q16 (fun c17 => ?_) (fun c17 => ?_)
      · refine bGo hA 1 13 (48, .iconst (1), 1, 30, 0, [], [(1, 0)]) rfl rfl rfl ?_
        refine bEqI bl_1 ?_
        refine bGo hA 1 14 (49, .iload_n 3, 1, 31, 0, [3], []) rfl rfl rfl ?_
        refine bGo hA 1 15 (50, .ishl, 1, 32, 0, [], []) rfl rfl rfl ?_
        refine bEqI (bn_shl 1 l3) ?_
        refine bGo hA 2 0 (51, .goto (4), 3, 33, 34, [], []) rfl rfl rfl ?_
        refine bGo hA 2 2 (55, .ior, 1, 35, 0, [], []) rfl rfl rfl ?_
        refine bEqI (bn_or l2 (bShl 1 l3)) ?_
        refine bGo hA 2 3 (56, .istore_n 2, 1, 36, 0, [2], []) rfl rfl rfl ?_
        refine bGo hA 2 4 (57, .iinc 3 (1), 3, 37, 0, [3], [(1, 0)]) rfl rfl rfl ?_
        refine bEqC (fun v => A (37, [.ref 6, .int (bn l1), .int (bn (bOr l2 (bShl 1 l3))), .int v], [], s13)) ((congrArg (fun w => bn l3 + w) bl_1).trans (bn_add l3 1)) ?_
        refine bGo hA 2 5 (60, .goto (-52), 3, 38, 6, [], []) rfl rfl rfl ?_
        exact (k14.1 c17).2
      · refine bGo hA 2 1 (54, .iconst (0), 1, 34, 0, [], [(0, 0)]) rfl rfl rfl ?_
        refine bEqI bl_0 ?_
        refine bGo hA 2 2 (55, .ior, 1, 35, 0, [], []) rfl rfl rfl ?_
        refine bEqI (bn_or l2 0) ?_
        refine bGo hA 2 3 (56, .istore_n 2, 1, 36, 0, [2], []) rfl rfl rfl ?_
        refine bGo hA 2 4 (57, .iinc 3 (1), 3, 37, 0, [3], [(1, 0)]) rfl rfl rfl ?_
        refine bEqC (fun v => A (37, [.ref 6, .int (bn l1), .int (bn (bOr l2 0)), .int v], [], s13)) ((congrArg (fun w => bn l3 + w) bl_1).trans (bn_add l3 1)) ?_
        refine bGo hA 2 5 (60, .goto (-52), 3, 38, 6, [], []) rfl rfl rfl ?_
        exact (k14.2 c17).2
    · refine bGo hA 2 4 (57, .iinc 3 (1), 3, 37, 0, [3], [(1, 0)]) rfl rfl rfl ?_
      refine bEqC (fun v => A (37, [.ref 6, .int (bn l1), .int (bn l2), .int v], [], σ)) ((congrArg (fun w => bn l3 + w) bl_1).trans (bn_add l3 1)) ?_
      refine bGo hA 2 5 (60, .goto (-52), 3, 38, 6, [], []) rfl rfl rfl ?_
      exact ((h.1 c1).2 c2).2
  · refine bGo hA 2 6 (63, .iload_n 2, 1, 39, 0, [2], []) rfl rfl rfl ?_
    refine bGo hA 2 7 (64, .ireturn, 1, 0, 0, [1], []) rfl rfl rfl ?_
    exact (h.2 c1)

theorem sq80_0 {lvl : Nat} {C : bCall} {Q : bPost} {A : bPt → Prop} (hC : bMono C) (hA : bClosed lvl bm80 C Q A) {x1 : Int} {σ : bSt}  (h_x1 : bRg x1)
  (h : (C 70 [.ref 6] σ (bRv (fun s1 => A (7, [.ref 6, .int (bn x1), .int (bn (bi σ 6 13)), .int (bn 0), .float 0, .float 0], [], s1))))) : A (0, [.ref 6, .int (bn x1), .float 0, .float 0, .float 0, .float 0], [], σ) := by
  refine bGo hA 0 0 (0, .aload_n 0, 1, 1, 0, [0], []) rfl rfl rfl ?_
  refine bGo hA 0 1 (1, .getfield 179, 3, 2, 0, [6, 13, 0, 0, 0, 0], []) rfl rfl rfl ?_
  refine ⟨rfl, ?_⟩
  refine bEqI (bn_bi σ 6 13) ?_
  refine bGo hA 0 2 (4, .istore_n 2, 1, 3, 0, [2], []) rfl rfl rfl ?_
  refine bGo hA 0 3 (5, .aload_n 0, 1, 4, 0, [0], []) rfl rfl rfl ?_
  refine bGo hA 0 4 (6, .invokevirtual 170, 3, 5, 0, [0, 6, 70, 0], []) rfl rfl rfl ?_
  refine ⟨rfl, ?_⟩
  refine hC _ _ _ _ _ (bRv_e (fun s1 k2 => ?_)) h
  show A (5, [.ref 6, .int (bn x1), .int (bn (bi σ 6 13)), .float 0, .float 0, .float 0], [], s1)
  refine bGo hA 0 5 (9, .iconst (0), 1, 6, 0, [], [(0, 0)]) rfl rfl rfl ?_
  refine bEqI bl_0 ?_
  refine bGo hA 0 6 (10, .istore_n 3, 1, 7, 0, [3], []) rfl rfl rfl ?_
  exact k2

theorem sq80_7 {lvl : Nat} {C : bCall} {Q : bPost} {A : bPt → Prop} (hC : bMono C) (hA : bClosed lvl bm80 C Q A) {l1 : Int} {l2 : Int} {l3 : Int} {v4 : Value} {v5 : Value} {σ : bSt}  (h_l1 : bRg l1) (h_l2 : bRg l2) (h_l3 : bRg l3)
  (h : ((l3 < 16 → (((bAnd (bShr l1 l3) 1) = 1 → (C 69 [.ref 6, .int (bn l3)] σ (bRn (fun r5 s3 => (C 71 [.ref 6, .int (bn r5)] s3 (bRv (fun s7 => (bRg (l3 + 1) ∧ A (7, [.ref 6, .int (bn l1), .int (bn l2), .int (bn (l3 + 1)), v4, v5], [], s7))))))))) ∧ (¬ (bAnd (bShr l1 l3) 1) = 1 → (bRg (l3 + 1) ∧ A (7, [.ref 6, .int (bn l1), .int (bn l2), .int (bn (l3 + 1)), v4, v5], [], σ))))) ∧ (¬ l3 < 16 → A (26, [.ref 6, .int (bn l1), .int (bn l2), .int (bn 0), v4, v5], [], σ)))) : A (7, [.ref 6, .int (bn l1), .int (bn l2), .int (bn l3), v4, v5], [], σ) := by
  refine bGo hA 0 7 (11, .iload_n 3, 1, 8, 0, [3], []) rfl rfl rfl ?_
  refine bGo hA 0 8 (12, .bipush (16), 2, 9, 0, [], [(16, 0)]) rfl rfl rfl ?_
  refine bEqI bl_16 ?_
  refine bGo hA 0 9 (14, .if_icmp .ge (27), 3, 10, 24, [], []) rfl rfl rfl ?_
  refine bB_lt (x := l3) (y := 16) h_l3 (by decide : bRg 16) (fun c1 => ?_) (fun c1 => ?_)
  · refine bGo hA 0 10 (17, .iload_n 1, 1, 11, 0, [1], []) rfl rfl rfl ?_
    refine bGo hA 0 11 (18, .iload_n 3, 1, 12, 0, [3], []) rfl rfl rfl ?_
    refine bGo hA 0 12 (19, .ishr, 1, 13, 0, [], []) rfl rfl rfl ?_
    refine bEqI (bn_shr l1 l3) ?_
    refine bGo hA 0 13 (20, .iconst (1), 1, 14, 0, [], [(1, 0)]) rfl rfl rfl ?_
    refine bEqI bl_1 ?_
    refine bGo hA 0 14 (21, .iand, 1, 15, 0, [], []) rfl rfl rfl ?_
    refine bEqI (bn_and (bShr l1 l3) 1) ?_
    refine bGo hA 0 15 (22, .iconst (1), 1, 16, 0, [], [(1, 0)]) rfl rfl rfl ?_
    refine bEqI bl_1 ?_
    refine bGo hA 1 0 (23, .if_icmp .ne (12), 3, 17, 22, [], []) rfl rfl rfl ?_
    refine bB_eq (x := (bAnd (bShr l1 l3) 1)) (y := 1) (bRgI _) (by decide : bRg 1) (fun c2 => ?_) (fun c2 => ?_)
    · refine bGo hA 1 1 (26, .aload_n 0, 1, 18, 0, [0], []) rfl rfl rfl ?_
      refine bGo hA 1 2 (27, .aload_n 0, 1, 19, 0, [0], []) rfl rfl rfl ?_
      refine bGo hA 1 3 (28, .iload_n 3, 1, 20, 0, [3], []) rfl rfl rfl ?_
      refine bGo hA 1 4 (29, .invokevirtual 173, 3, 21, 0, [0, 6, 69, 1], []) rfl rfl rfl ?_
      refine ⟨rfl, ?_⟩
      refine hC _ _ _ _ _ (bRn_e (fun r5 s3 q6 k4 => ?_)) ((h.1 c1).1 c2)
      show A (21, [.ref 6, .int (bn l1), .int (bn l2), .int (bn l3), v4, v5], [.int (bn r5), .ref 6], s3)
      refine bGo hA 1 5 (32, .invokevirtual 176, 3, 22, 0, [0, 6, 71, 1], []) rfl rfl rfl ?_
      refine ⟨rfl, ?_⟩
      refine hC _ _ _ _ _ (bRv_e (fun s7 k8 => ?_)) k4
      show A (22, [.ref 6, .int (bn l1), .int (bn l2), .int (bn l3), v4, v5], [], s7)
      refine bGo hA 1 6 (35, .iinc 3 (1), 3, 23, 0, [3], [(1, 0)]) rfl rfl rfl ?_
      refine bEqC (fun v => A (23, [.ref 6, .int (bn l1), .int (bn l2), .int v, v4, v5], [], s7)) ((congrArg (fun w => bn l3 + w) bl_1).trans (bn_add l3 1)) ?_
      refine bGo hA 1 7 (38, .goto (-27), 3, 24, 7, [], []) rfl rfl rfl ?_
      exact k8.2
    · refine bGo hA 1 6 (35, .iinc 3 (1), 3, 23, 0, [3], [(1, 0)]) rfl rfl rfl ?_
      refine bEqC (fun v => A (23, [.ref 6, .int (bn l1), .int (bn l2), .int v, v4, v5], [], σ)) ((congrArg (fun w => bn l3 + w) bl_1).trans (bn_add l3 1)) ?_
      refine bGo hA 1 7 (38, .goto (-27), 3, 24, 7, [], []) rfl rfl rfl ?_
      exact ((h.1 c1).2 c2).2
  · refine bGo hA 1 8 (41, .iconst (0), 1, 25, 0, [], [(0, 0)]) rfl rfl rfl ?_
    refine bEqI bl_0 ?_
    refine bGo hA 1 9 (42, .istore_n 3, 1, 26, 0, [3], []) rfl rfl rfl ?_
    exact (h.2 c1)

theorem sq80_26 {lvl : Nat} {C : bCall} {Q : bPost} {A : bPt → Prop} (hC : bMono C) (hA : bClosed lvl bm80 C Q A) {v1 : Value} {l2 : Int} {l3 : Int} {v4 : Value} {v5 : Value} {σ : bSt}  (h_l2 : bRg l2) (h_l3 : bRg l3)
  (h : ((l3 < (bi σ 6 11) → (C 140 [.ref 28, .int (bn l3)] σ (bRn (fun r4 s2 => (C 86 [.ref 6, .int (bn r4)] s2 (bRn (fun r8 s6 => (C 88 [.ref 6] s6 (bRn (fun r12 s10 => ((r12 = (-1) → (bRg ((bi s10 6 13) + 1) ∧ (((120 : Int) < ((bi s10 6 13) + 1) → Q (.inl (some (.int (bn 0)))) (bw (bw s10 6 13 ((bi s10 6 13) + 1)) 6 13 l2)) ∧ (¬ (120 : Int) < ((bi s10 6 13) + 1) → (C 141 [.ref 30, .int (bn r4), .int (bn (bi s10 6 13))] (bw s10 6 13 ((bi s10 6 13) + 1)) (bRv (fun s16 => (bRg (l3 + 1) ∧ A (26, [.ref 6, v1, .int (bn l2), .int (bn (l3 + 1)), .int (bn r4), .int (bn (bi s10 6 13))], [], s16))))))))) ∧ (¬ r12 = (-1) → (((120 : Int) < (bi s10 6 13) → Q (.inl (some (.int (bn 0)))) (bw s10 6 13 l2)) ∧ (¬ (120 : Int) < (bi s10 6 13) → (C 141 [.ref 30, .int (bn r4), .int (bn r12)] s10 (bRv (fun s19 => (bRg (l3 + 1) ∧ A (26, [.ref 6, v1, .int (bn l2), .int (bn (l3 + 1)), .int (bn r4), .int (bn r12)], [], s19))))))))))))))))))) ∧ (¬ l3 < (bi σ 6 11) → Q (.inl (some (.int (bn 1)))) σ))) : A (26, [.ref 6, v1, .int (bn l2), .int (bn l3), v4, v5], [], σ) := by
  refine bGo hA 1 10 (43, .iload_n 3, 1, 27, 0, [3], []) rfl rfl rfl ?_
  refine bGo hA 1 11 (44, .aload_n 0, 1, 28, 0, [0], []) rfl rfl rfl ?_
  refine bGo hA 1 12 (45, .getfield 89, 3, 29, 0, [6, 11, 0, 0, 0, 0], []) rfl rfl rfl ?_
  refine ⟨rfl, ?_⟩
  refine bEqI (bn_bi σ 6 11) ?_
  refine bGo hA 1 13 (48, .if_icmp .ge (81), 3, 30, 70, [], []) rfl rfl rfl ?_
  refine bB_lt (x := l3) (y := (bi σ 6 11)) h_l3 (bi_rg _ _ _) (fun c1 => ?_) (fun c1 => ?_)
  · refine bGo hA 1 14 (51, .aload_n 0, 1, 31, 0, [0], []) rfl rfl rfl ?_
    refine bGo hA 1 15 (52, .getfield 15, 3, 32, 0, [6, 5, 3, 28, 1, 0], []) rfl rfl rfl ?_
    refine ⟨rfl, ?_⟩
    refine bGo hA 2 0 (55, .iload_n 3, 1, 33, 0, [3], []) rfl rfl rfl ?_
    refine bGo hA 2 1 (56, .invokestatic 100, 3, 34, 1, [2, 140, 2], []) rfl rfl rfl ?_
    refine hC _ _ _ _ _ (bRn_e (fun r4 s2 q5 k3 => ?_)) (h.1 c1)
    show A (34, [.ref 6, v1, .int (bn l2), .int (bn l3), v4, v5], [.int (bn r4)], s2)
    refine bGo hA 2 2 (59, .istore 4, 2, 35, 0, [4], []) rfl rfl rfl ?_
    refine bGo hA 2 3 (61, .aload_n 0, 1, 36, 0, [0], []) rfl rfl rfl ?_
    refine bGo hA 2 4 (62, .iload 4, 2, 37, 0, [4], []) rfl rfl rfl ?_
    refine bGo hA 2 5 (64, .invokevirtual 180, 3, 38, 0, [0, 6, 86, 1], []) rfl rfl rfl ?_
    refine ⟨rfl, ?_⟩
    refine hC _ _ _ _ _ (bRn_e (fun r8 s6 q9 k7 => ?_)) k3
    show A (38, [.ref 6, v1, .int (bn l2), .int (bn l3), .int (bn r4), v5], [.int (bn r8)], s6)
    refine bGo hA 2 6 (67, .pop, 1, 39, 0, [], []) rfl rfl rfl ?_
    refine bGo hA 2 7 (68, .aload_n 0, 1, 40, 0, [0], []) rfl rfl rfl ?_
    refine bGo hA 2 8 (69, .invokevirtual 183, 3, 41, 0, [0, 6, 88, 0], []) rfl rfl rfl ?_
    refine ⟨rfl, ?_⟩
    refine hC _ _ _ _ _ (bRn_e (fun r12 s10 q13 k11 => ?_)) k7
    show A (41, [.ref 6, v1, .int (bn l2), .int (bn l3), .int (bn r4), v5], [.int (bn r12)], s10)
    refine bGo hA 2 9 (72, .istore 5, 2, 42, 0, [5], []) rfl rfl rfl ?_
    refine bGo hA 2 10 (74, .iload 5, 2, 43, 0, [5], []) rfl rfl rfl ?_
    refine bGo hA 2 11 (76, .iconst (-1), 1, 44, 0, [], [(-1, 0)]) rfl rfl rfl ?_
    refine bEqI bl_m1 ?_
    refine bGo hA 2 12 (77, .if_icmp .ne (19), 3, 45, 54, [], []) rfl rfl rfl ?_
    refine bB_eq (x := r12) (y := (-1)) q13 (by decide : bRg (-1)) (fun c14 => ?_) (fun c14 => ?_)
    · refine bGo hA 2 13 (80, .aload_n 0, 1, 46, 0, [0], []) rfl rfl rfl ?_
      refine bGo hA 2 14 (81, .getfield 179, 3, 47, 0, [6, 13, 0, 0, 0, 0], []) rfl rfl rfl ?_
      refine ⟨rfl, ?_⟩
      refine bEqI (bn_bi s10 6 13) ?_
      refine bGo hA 2 15 (84, .istore 5, 2, 48, 0, [5], []) rfl rfl rfl ?_
      refine bGo hA 3 0 (86, .aload_n 0, 1, 49, 0, [0], []) rfl rfl rfl ?_
      refine bGo hA 3 1 (87, .dup, 1, 50, 0, [], []) rfl rfl rfl ?_
      refine bGo hA 3 2 (88, .getfield 179, 3, 51, 0, [6, 13, 0, 0, 0, 0], []) rfl rfl rfl ?_
      refine ⟨rfl, ?_⟩
      refine bEqI (bn_bi s10 6 13) ?_
      refine bGo hA 3 3 (91, .iconst (1), 1, 52, 0, [], [(1, 0)]) rfl rfl rfl ?_
      refine bEqI bl_1 ?_
      refine bGo hA 3 4 (92, .iadd, 1, 53, 0, [], []) rfl rfl rfl ?_
      refine bEqI (bn_add (bi s10 6 13) 1) ?_
      refine bGo hA 3 5 (93, .putfield 179, 3, 54, 0, [6, 13, 0, 0, 0, 0], []) rfl rfl rfl ?_
      refine ⟨rfl, ?_⟩
      refine bGo hA 3 6 (96, .aload_n 0, 1, 55, 0, [0], []) rfl rfl rfl ?_
      refine bGo hA 3 7 (97, .getfield 179, 3, 56, 0, [6, 13, 0, 0, 0, 0], []) rfl rfl rfl ?_
      refine ⟨rfl, ?_⟩
      refine bEqI ((bn_bi (bw s10 6 13 ((bi s10 6 13) + 1)) 6 13).trans (congrArg bn (bi_eq (k11.1 c14).1))) ?_
      refine bGo hA 3 8 (100, .bipush (120), 2, 57, 0, [], [(120, 0)]) rfl rfl rfl ?_
      refine bEqI bl_120 ?_
      refine bGo hA 3 9 (102, .if_icmp .le (10), 3, 58, 63, [], []) rfl rfl rfl ?_
      refine bB_lt (x := 120) (y := ((bi s10 6 13) + 1)) (by decide : bRg 120) (k11.1 c14).1 (fun c15 => ?_) (fun c15 => ?_)
      · refine bGo hA 3 10 (105, .aload_n 0, 1, 59, 0, [0], []) rfl rfl rfl ?_
        refine bGo hA 3 11 (106, .iload_n 2, 1, 60, 0, [2], []) rfl rfl rfl ?_
        refine bGo hA 3 12 (107, .putfield 179, 3, 61, 0, [6, 13, 0, 0, 0, 0], []) rfl rfl rfl ?_
        refine ⟨rfl, ?_⟩
        refine bGo hA 3 13 (110, .iconst (0), 1, 62, 0, [], [(0, 0)]) rfl rfl rfl ?_
        refine bEqI bl_0 ?_
        refine bGo hA 3 14 (111, .ireturn, 1, 63, 0, [2], []) rfl rfl rfl ?_
        exact ⟨b01 (Or.inl rfl), ((k11.1 c14).2.1 c15)⟩
      · refine bGo hA 3 15 (112, .aload_n 0, 1, 64, 0, [0], []) rfl rfl rfl ?_
        refine bGo hA 4 0 (113, .getfield 21, 3, 65, 0, [6, 7, 3, 30, 1, 0], []) rfl rfl rfl ?_
        refine ⟨rfl, ?_⟩
        refine bGo hA 4 1 (116, .iload 4, 2, 66, 0, [4], []) rfl rfl rfl ?_
        refine bGo hA 4 2 (118, .iload 5, 2, 67, 0, [5], []) rfl rfl rfl ?_
        refine bGo hA 4 3 (120, .invokestatic 107, 3, 68, 1, [2, 141, 3], []) rfl rfl rfl ?_
        refine hC _ _ _ _ _ (bRv_e (fun s16 k17 => ?_)) ((k11.1 c14).2.2 c15)
        show A (68, [.ref 6, v1, .int (bn l2), .int (bn l3), .int (bn r4), .int (bn (bi s10 6 13))], [], s16)
        refine bGo hA 4 4 (123, .iinc 3 (1), 3, 69, 0, [3], [(1, 0)]) rfl rfl rfl ?_
        refine bEqC (fun v => A (69, [.ref 6, v1, .int (bn l2), .int v, .int (bn r4), .int (bn (bi s10 6 13))], [], s16)) ((congrArg (fun w => bn l3 + w) bl_1).trans (bn_add l3 1)) ?_
        refine bGo hA 4 5 (126, .goto (-83), 3, 70, 26, [], []) rfl rfl rfl ?_
        exact k17.2
    · refine bGo hA 3 6 (96, .aload_n 0, 1, 55, 0, [0], []) rfl rfl rfl ?_
      refine bGo hA 3 7 (97, .getfield 179, 3, 56, 0, [6, 13, 0, 0, 0, 0], []) rfl rfl rfl ?_
      refine ⟨rfl, ?_⟩
      refine bEqI (bn_bi s10 6 13) ?_
      refine bGo hA 3 8 (100, .bipush (120), 2, 57, 0, [], [(120, 0)]) rfl rfl rfl ?_
      refine bEqI bl_120 ?_
      refine bGo hA 3 9 (102, .if_icmp .le (10), 3, 58, 63, [], []) rfl rfl rfl ?_
      refine bB_lt (x := 120) (y := (bi s10 6 13)) (by decide : bRg 120) (bi_rg _ _ _) (fun c18 => ?_) (fun c18 => ?_)
      · refine bGo hA 3 10 (105, .aload_n 0, 1, 59, 0, [0], []) rfl rfl rfl ?_
        refine bGo hA 3 11 (106, .iload_n 2, 1, 60, 0, [2], []) rfl rfl rfl ?_
        refine bGo hA 3 12 (107, .putfield 179, 3, 61, 0, [6, 13, 0, 0, 0, 0], []) rfl rfl rfl ?_
        refine ⟨rfl, ?_⟩
        refine bGo hA 3 13 (110, .iconst (0), 1, 62, 0, [], [(0, 0)]) rfl rfl rfl ?_
        refine bEqI bl_0 ?_
        refine bGo hA 3 14 (111, .ireturn, 1, 63, 0, [2], []) rfl rfl rfl ?_
        exact ⟨b01 (Or.inl rfl), ((k11.2 c14).1 c18)⟩
      · refine bGo hA 3 15 (112, .aload_n 0, 1, 64, 0, [0], []) rfl rfl rfl ?_
        refine bGo hA 4 0 (113, .getfield 21, 3, 65, 0, [6, 7, 3, 30, 1, 0], []) rfl rfl rfl ?_
        refine ⟨rfl, ?_⟩
        refine bGo hA 4 1 (116, .iload 4, 2, 66, 0, [4], []) rfl rfl rfl ?_
        refine bGo hA 4 2 (118, .iload 5, 2, 67, 0, [5], []) rfl rfl rfl ?_
        refine bGo hA 4 3 (120, .invokestatic 107, 3, 68, 1, [2, 141, 3], []) rfl rfl rfl ?_
        refine hC _ _ _ _ _ (bRv_e (fun s19 k20 => ?_)) ((k11.2 c14).2 c18)
        show A (68, [.ref 6, v1, .int (bn l2), .int (bn l3), .int (bn r4), .int (bn r12)], [], s19)
        refine bGo hA 4 4 (123, .iinc 3 (1), 3, 69, 0, [3], [(1, 0)]) rfl rfl rfl ?_
        refine bEqC (fun v => A (69, [.ref 6, v1, .int (bn l2), .int v, .int (bn r4), .int (bn r12)], [], s19)) ((congrArg (fun w => bn l3 + w) bl_1).trans (bn_add l3 1)) ?_
        refine bGo hA 4 5 (126, .goto (-83), 3, 70, 26, [], []) rfl rfl rfl ?_
        exact k20.2
  · refine bGo hA 4 6 (129, .iconst (1), 1, 71, 0, [], [(1, 0)]) rfl rfl rfl ?_
    refine bEqI bl_1 ?_
    refine bGo hA 4 7 (130, .ireturn, 1, 0, 0, [2], []) rfl rfl rfl ?_
    exact ⟨b01 (Or.inr rfl), (h.2 c1)⟩

theorem sq81_0 {lvl : Nat} {C : bCall} {Q : bPost} {A : bPt → Prop} (hC : bMono C) (hA : bClosed lvl bm81 C Q A)  {σ : bSt}  
  (h : A (2, [.ref 6, .int (bn 0), .float 0, .float 0], [], σ)) : A (0, [.ref 6, .float 0, .float 0, .float 0], [], σ) := by
  refine bGo hA 0 0 (0, .iconst (0), 1, 1, 0, [], [(0, 0)]) rfl rfl rfl ?_
  refine bEqI bl_0 ?_
  refine bGo hA 0 1 (1, .istore_n 1, 1, 2, 0, [1], []) rfl rfl rfl ?_
  exact h

theorem sq81_2 {lvl : Nat} {C : bCall} {Q : bPost} {A : bPt → Prop} (hC : bMono C) (hA : bClosed lvl bm81 C Q A) {l1 : Int} {v2 : Value} {v3 : Value} {σ : bSt}  (h_l1 : bRg l1)
  (h : ((l1 < (bi σ 6 11) → (C 140 [.ref 28, .int (bn l1)] σ (bRn (fun r4 s2 => (C 140 [.ref 30, .int (bn r4)] s2 (bRn (fun r8 s6 => (C 89 [.ref 6, .int (bn r8)] s6 (bRa (fun r12 s10 => (r12 % 256 = 0 ∧ (((bi s10 r12 5) = 0 → (C 120 [.ref 9, .int (bn (bShr r4 8))] (bw s10 r12 5 1) (bRa (fun r16 s14 => (C 7 [.ref r12, .ref r16] s14 (bRv (fun s17 => (bRg (l1 + 1) ∧ A (2, [.ref 6, .int (bn (l1 + 1)), .int (bn r4), .ref r12], [], s17))))))))) ∧ (¬ (bi s10 r12 5) = 0 → (bRg (l1 + 1) ∧ A (2, [.ref 6, .int (bn (l1 + 1)), .int (bn r4), .ref r12], [], s10))))))))))))))) ∧ (¬ l1 < (bi σ 6 11) → Q (.inl none) σ))) : A (2, [.ref 6, .int (bn l1), v2, v3], [], σ) := by
  refine bGo hA 0 2 (2, .iload_n 1, 1, 3, 0, [1], []) rfl rfl rfl ?_
  refine bGo hA 0 3 (3, .aload_n 0, 1, 4, 0, [0], []) rfl rfl rfl ?_
  refine bGo hA 0 4 (4, .getfield 89, 3, 5, 0, [6, 11, 0, 0, 0, 0], []) rfl rfl rfl ?_
  refine ⟨rfl, ?_⟩
  refine bEqI (bn_bi σ 6 11) ?_
  refine bGo hA 0 5 (7, .if_icmp .ge (58), 3, 6, 34, [], []) rfl rfl rfl ?_
  refine bB_lt (x := l1) (y := (bi σ 6 11)) h_l1 (bi_rg _ _ _) (fun c1 => ?_) (fun c1 => ?_)
  · refine bGo hA 0 6 (10, .aload_n 0, 1, 7, 0, [0], []) rfl rfl rfl ?_
    refine bGo hA 0 7 (11, .getfield 15, 3, 8, 0, [6, 5, 3, 28, 1, 0], []) rfl rfl rfl ?_
    refine ⟨rfl, ?_⟩
    refine bGo hA 0 8 (14, .iload_n 1, 1, 9, 0, [1], []) rfl rfl rfl ?_
    refine bGo hA 0 9 (15, .invokestatic 100, 3, 10, 1, [2, 140, 2], []) rfl rfl rfl ?_
    refine hC _ _ _ _ _ (bRn_e (fun r4 s2 q5 k3 => ?_)) (h.1 c1)
    show A (10, [.ref 6, .int (bn l1), v2, v3], [.int (bn r4)], s2)
    refine bGo hA 0 10 (18, .istore_n 2, 1, 11, 0, [2], []) rfl rfl rfl ?_
    refine bGo hA 0 11 (19, .aload_n 0, 1, 12, 0, [0], []) rfl rfl rfl ?_
    refine bGo hA 0 12 (20, .aload_n 0, 1, 13, 0, [0], []) rfl rfl rfl ?_
    refine bGo hA 0 13 (21, .getfield 21, 3, 14, 0, [6, 7, 3, 30, 1, 0], []) rfl rfl rfl ?_
    refine ⟨rfl, ?_⟩
    refine bGo hA 0 14 (24, .iload_n 2, 1, 15, 0, [2], []) rfl rfl rfl ?_
    refine bGo hA 0 15 (25, .invokestatic 100, 3, 16, 1, [2, 140, 2], []) rfl rfl rfl ?_
    refine hC _ _ _ _ _ (bRn_e (fun r8 s6 q9 k7 => ?_)) k3
    show A (16, [.ref 6, .int (bn l1), .int (bn r4), v3], [.int (bn r8), .ref 6], s6)
    refine bGo hA 1 0 (28, .invokevirtual 187, 3, 17, 0, [0, 6, 89, 1], []) rfl rfl rfl ?_
    refine ⟨rfl, ?_⟩
    refine hC _ _ _ _ _ (bRa_e (fun r12 s10 k11 => ?_)) k7
    show A (17, [.ref 6, .int (bn l1), .int (bn r4), v3], [.ref r12], s10)
    refine bGo hA 1 1 (31, .astore_n 3, 1, 18, 0, [3], []) rfl rfl rfl ?_
    refine bGo hA 1 2 (32, .aload_n 3, 1, 19, 0, [3], []) rfl rfl rfl ?_
    refine bGo hA 1 3 (33, .getfield 191, 3, 20, 0, [0, 5, 1, 0, 0, 0], []) rfl rfl rfl ?_
    refine ⟨k11.1, ?_⟩
    refine bEqI (bn_bi s10 r12 5) ?_
    refine bGo hA 1 4 (36, .ifCond .ne (23), 3, 21, 32, [], []) rfl rfl rfl ?_
    refine bB_eq0 (x := (bi s10 r12 5)) (bi_rg _ _ _) (fun c13 => ?_) (fun c13 => ?_)
    · refine bGo hA 1 5 (39, .aload_n 3, 1, 22, 0, [3], []) rfl rfl rfl ?_
      refine bGo hA 1 6 (40, .iconst (1), 1, 23, 0, [], [(1, 0)]) rfl rfl rfl ?_
      refine bEqI bl_1 ?_
      refine bGo hA 1 7 (41, .putfield 191, 3, 24, 0, [0, 5, 1, 0, 0, 0], []) rfl rfl rfl ?_
      refine ⟨k11.1, b01 (Or.inr rfl), ?_⟩
      refine bGo hA 1 8 (44, .aload_n 3, 1, 25, 0, [3], []) rfl rfl rfl ?_
      refine bGo hA 1 9 (45, .aload_n 0, 1, 26, 0, [0], []) rfl rfl rfl ?_
      refine bGo hA 1 10 (46, .getfield 53, 3, 27, 0, [6, 3, 3, 9, 0, 0], []) rfl rfl rfl ?_
      refine ⟨rfl, ?_⟩
      refine bGo hA 1 11 (49, .iload_n 2, 1, 28, 0, [2], []) rfl rfl rfl ?_
      refine bGo hA 1 12 (50, .bipush (8), 2, 29, 0, [], [(8, 0)]) rfl rfl rfl ?_
      refine bEqI bl_8 ?_
      refine bGo hA 1 13 (52, .ishr, 1, 30, 0, [], []) rfl rfl rfl ?_
      refine bEqI (bn_shr r4 8) ?_
      refine bGo hA 1 14 (53, .invokevirtual 63, 3, 31, 0, [0, 9, 120, 1], []) rfl rfl rfl ?_
      refine ⟨rfl, ?_⟩
      refine hC _ _ _ _ _ (bRa_e (fun r16 s14 k15 => ?_)) (k11.2.1 c13)
      show A (31, [.ref 6, .int (bn l1), .int (bn r4), .ref r12], [.ref r16, .ref r12], s14)
      refine bGo hA 1 15 (56, .invokevirtual 195, 3, 32, 0, [0, 0, 7, 1], []) rfl rfl rfl ?_
      refine ⟨k11.1, ?_⟩
      refine hC _ _ _ _ _ (bRv_e (fun s17 k18 => ?_)) k15
      show A (32, [.ref 6, .int (bn l1), .int (bn r4), .ref r12], [], s17)
      refine bGo hA 2 0 (59, .iinc 1 (1), 3, 33, 0, [1], [(1, 0)]) rfl rfl rfl ?_
      refine bEqC (fun v => A (33, [.ref 6, .int v, .int (bn r4), .ref r12], [], s17)) ((congrArg (fun w => bn l1 + w) bl_1).trans (bn_add l1 1)) ?_
      refine bGo hA 2 1 (62, .goto (-60), 3, 34, 2, [], []) rfl rfl rfl ?_
      exact k18.2
    · refine bGo hA 2 0 (59, .iinc 1 (1), 3, 33, 0, [1], [(1, 0)]) rfl rfl rfl ?_
      refine bEqC (fun v => A (33, [.ref 6, .int v, .int (bn r4), .ref r12], [], s10)) ((congrArg (fun w => bn l1 + w) bl_1).trans (bn_add l1 1)) ?_
      refine bGo hA 2 1 (62, .goto (-60), 3, 34, 2, [], []) rfl rfl rfl ?_
      exact (k11.2.2 c13).2
  · refine bGo hA 2 2 (65, .return_, 1, 0, 0, [0], []) rfl rfl rfl ?_
    exact (h.2 c1)

theorem sq82_0 {lvl : Nat} {C : bCall} {Q : bPost} {A : bPt → Prop} (hC : bMono C) (hA : bClosed lvl bm82 C Q A) {x1 : Int} {σ : bSt}  (h_x1 : bRg x1)
  (h : (C 69 [.ref 6, .int (bn x1)] σ (bRn (fun r3 s1 => (C 140 [.ref 30, .int (bn r3)] s1 (bRn (fun r7 s5 => (C 89 [.ref 6, .int (bn r7)] s5 (bRa (fun r11 s9 => Q (.inl (some (.ref r11))) s9)))))))))) : A (0, [.ref 6, .int (bn x1)], [], σ) := by
  refine bGo hA 0 0 (0, .aload_n 0, 1, 1, 0, [0], []) rfl rfl rfl ?_
  refine bGo hA 0 1 (1, .aload_n 0, 1, 2, 0, [0], []) rfl rfl rfl ?_
  refine bGo hA 0 2 (2, .getfield 21, 3, 3, 0, [6, 7, 3, 30, 1, 0], []) rfl rfl rfl ?_
  refine ⟨rfl, ?_⟩
  refine bGo hA 0 3 (5, .aload_n 0, 1, 4, 0, [0], []) rfl rfl rfl ?_
  refine bGo hA 0 4 (6, .iload_n 1, 1, 5, 0, [1], []) rfl rfl rfl ?_
  refine bGo hA 0 5 (7, .invokevirtual 173, 3, 6, 0, [0, 6, 69, 1], []) rfl rfl rfl ?_
  refine ⟨rfl, ?_⟩
  refine hC _ _ _ _ _ (bRn_e (fun r3 s1 q4 k2 => ?_)) h
  show A (6, [.ref 6, .int (bn x1)], [.int (bn r3), .ref 30, .ref 6], s1)
  refine bGo hA 0 6 (10, .invokestatic 100, 3, 7, 1, [2, 140, 2], []) rfl rfl rfl ?_
  refine hC _ _ _ _ _ (bRn_e (fun r7 s5 q8 k6 => ?_)) k2
  show A (7, [.ref 6, .int (bn x1)], [.int (bn r7), .ref 6], s5)
  refine bGo hA 0 7 (13, .invokevirtual 187, 3, 8, 0, [0, 6, 89, 1], []) rfl rfl rfl ?_
  refine ⟨rfl, ?_⟩
  refine hC _ _ _ _ _ (bRa_e (fun r11 s9 k10 => ?_)) k6
  show A (8, [.ref 6, .int (bn x1)], [.ref r11], s9)
  refine bGo hA 0 8 (16, .areturn, 1, 0, 0, [4], []) rfl rfl rfl ?_
  exact k10

theorem sq83_0 {lvl : Nat} {C : bCall} {Q : bPost} {A : bPt → Prop} (hC : bMono C) (hA : bClosed lvl bm83 C Q A) {x1 : Int} {σ : bSt}  (h_x1 : bRg x1)
  (h : (C 70 [.ref 6] σ (bRv (fun s1 => (C 69 [.ref 6, .int (bn x1)] s1 (bRn (fun r5 s3 => (C 71 [.ref 6, .int (bn r5)] s3 (bRv (fun s7 => A (9, [.ref 6, .int (bn x1), .int (bn 0), .float 0, .float 0], [], s7))))))))))) : A (0, [.ref 6, .int (bn x1), .float 0, .float 0, .float 0], [], σ) := by
  refine bGo hA 0 0 (0, .aload_n 0, 1, 1, 0, [0], []) rfl rfl rfl ?_
  refine bGo hA 0 1 (1, .invokevirtual 170, 3, 2, 0, [0, 6, 70, 0], []) rfl rfl rfl ?_
  refine ⟨rfl, ?_⟩
  refine hC _ _ _ _ _ (bRv_e (fun s1 k2 => ?_)) h
  show A (2, [.ref 6, .int (bn x1), .float 0, .float 0, .float 0], [], s1)
  refine bGo hA 0 2 (4, .aload_n 0, 1, 3, 0, [0], []) rfl rfl rfl ?_
  refine bGo hA 0 3 (5, .aload_n 0, 1, 4, 0, [0], []) rfl rfl rfl ?_
  refine bGo hA 0 4 (6, .iload_n 1, 1, 5, 0, [1], []) rfl rfl rfl ?_
  refine bGo hA 0 5 (7, .invokevirtual 173, 3, 6, 0, [0, 6, 69, 1], []) rfl rfl rfl ?_
  refine ⟨rfl, ?_⟩
  refine hC _ _ _ _ _ (bRn_e (fun r5 s3 q6 k4 => ?_)) k2
  show A (6, [.ref 6, .int (bn x1), .float 0, .float 0, .float 0], [.int (bn r5), .ref 6], s3)
  refine bGo hA 0 6 (10, .invokevirtual 176, 3, 7, 0, [0, 6, 71, 1], []) rfl rfl rfl ?_
  refine ⟨rfl, ?_⟩
  refine hC _ _ _ _ _ (bRv_e (fun s7 k8 => ?_)) k4
  show A (7, [.ref 6, .int (bn x1), .float 0, .float 0, .float 0], [], s7)
  refine bGo hA 0 7 (13, .iconst (0), 1, 8, 0, [], [(0, 0)]) rfl rfl rfl ?_
  refine bEqI bl_0 ?_
  refine bGo hA 0 8 (14, .istore_n 2, 1, 9, 0, [2], []) rfl rfl rfl ?_
  exact k8

theorem sq83_9 {lvl : Nat} {C : bCall} {Q : bPost} {A : bPt → Prop} (hC : bMono C) (hA : bClosed lvl bm83 C Q A) {l1 : Int} {l2 : Int} {v3 : Value} {v4 : Value} {σ : bSt}  (h_l1 : bRg l1) (h_l2 : bRg l2)
  (h : ((l2 < (bi σ 6 11) → (C 140 [.ref 28, .int (bn l2)] σ (bRn (fun r4 s2 => (C 140 [.ref 29, .int (bn r4)] s2 (bRn (fun r8 s6 => ((r8 = 0 → (C 86 [.ref 6, .int (bn r4)] s6 (bRn (fun r13 s11 => ((r13 = 0 → (C 141 [.ref 30, .int (bn r4), .int (bn (-1))] s11 (bRv (fun s17 => (bRg (l2 + 1) ∧ A (9, [.ref 6, .int (bn l1), .int (bn (l2 + 1)), .int (bn r4), .int (bn 0)], [], s17)))))) ∧ (¬ r13 = 0 → (C 88 [.ref 6] s11 (bRn (fun r22 s20 => (C 141 [.ref 30, .int (bn r4), .int (bn r22)] s20 (bRv (fun s24 => (bRg (l2 + 1) ∧ A (9, [.ref 6, .int (bn l1), .int (bn (l2 + 1)), .int (bn r4), .int (bn 1)], [], s24)))))))))))))) ∧ (¬ r8 = 0 → (C 141 [.ref 30, .int (bn r4), .int (bn (-1))] s6 (bRv (fun s27 => (bRg (l2 + 1) ∧ A (9, [.ref 6, .int (bn l1), .int (bn (l2 + 1)), .int (bn r4), .int (bn 0)], [], s27)))))))))))))) ∧ (¬ l2 < (bi σ 6 11) → (C 69 [.ref 6, .int (bn l1)] σ (bRn (fun r31 s29 => (C 140 [.ref 30, .int (bn r31)] s29 (bRn (fun r35 s33 => Q (.inl (some (.int (bn r35)))) s33))))))))) : A (9, [.ref 6, .int (bn l1), .int (bn l2), v3, v4], [], σ) := by
  refine bGo hA 0 9 (15, .iload_n 2, 1, 10, 0, [2], []) rfl rfl rfl ?_
  refine bGo hA 0 10 (16, .aload_n 0, 1, 11, 0, [0], []) rfl rfl rfl ?_
  refine bGo hA 0 11 (17, .getfield 89, 3, 12, 0, [6, 11, 0, 0, 0, 0], []) rfl rfl rfl ?_
  refine ⟨rfl, ?_⟩
  refine bEqI (bn_bi σ 6 11) ?_
  refine bGo hA 0 12 (20, .if_icmp .ge (65), 3, 13, 43, [], []) rfl rfl rfl ?_
  refine bB_lt (x := l2) (y := (bi σ 6 11)) h_l2 (bi_rg _ _ _) (fun c1 => ?_) (fun c1 => ?_)
  · refine bGo hA 0 13 (23, .aload_n 0, 1, 14, 0, [0], []) rfl rfl rfl ?_
    refine bGo hA 0 14 (24, .getfield 15, 3, 15, 0, [6, 5, 3, 28, 1, 0], []) rfl rfl rfl ?_
    refine ⟨rfl, ?_⟩
    refine bGo hA 0 15 (27, .iload_n 2, 1, 16, 0, [2], []) rfl rfl rfl ?_
    refine bGo hA 1 0 (28, .invokestatic 100, 3, 17, 1, [2, 140, 2], []) rfl rfl rfl ?_
    refine hC _ _ _ _ _ (bRn_e (fun r4 s2 q5 k3 => ?_)) (h.1 c1)
    show A (17, [.ref 6, .int (bn l1), .int (bn l2), v3, v4], [.int (bn r4)], s2)
    refine bGo hA 1 1 (31, .istore_n 3, 1, 18, 0, [3], []) rfl rfl rfl ?_
    refine bGo hA 1 2 (32, .aload_n 0, 1, 19, 0, [0], []) rfl rfl rfl ?_
    refine bGo hA 1 3 (33, .getfield 18, 3, 20, 0, [6, 6, 3, 29, 1, 0], []) rfl rfl rfl ?_
    refine ⟨rfl, ?_⟩
    refine bGo hA 1 4 (36, .iload_n 3, 1, 21, 0, [3], []) rfl rfl rfl ?_
    refine bGo hA 1 5 (37, .invokestatic 100, 3, 22, 1, [2, 140, 2], []) rfl rfl rfl ?_
    refine hC _ _ _ _ _ (bRn_e (fun r8 s6 q9 k7 => ?_)) k3
    show A (22, [.ref 6, .int (bn l1), .int (bn l2), .int (bn r4), v4], [.int (bn r8)], s6)
    refine bGo hA 1 6 (40, .ifCond .ne (15), 3, 23, 29, [], []) rfl rfl rfl ?_
    refine bB_eq0 (x := r8) q9 (fun c10 => ?_) (fun c10 => ?_)
    · refine bGo hA 1 7 (43, .aload_n 0, 1, 24, 0, [0], []) rfl rfl rfl ?_
      refine bGo hA 1 8 (44, .iload_n 3, 1, 25, 0, [3], []) rfl rfl rfl ?_
      refine bGo hA 1 9 (45, .invokevirtual 180, 3, 26, 0, [0, 6, 86, 1], []) rfl rfl rfl ?_
      refine ⟨rfl, ?_⟩
      refine hC _ _ _ _ _ (bRn_e (fun r13 s11 q14 k12 => ?_)) (k7.1 c10)
      show A (26, [.ref 6, .int (bn l1), .int (bn l2), .int (bn r4), v4], [.int (bn r13)], s11)
      refine bGo hA 1 10 (48, .ifCond .eq (7), 3, 27, 29, [], []) rfl rfl rfl ?_
      refine bB_eq0 (x := r13) q14 (fun c15 => ?_) (fun c15 => ?_)
      · refine bGo hA 1 13 (55, .iconst (0), 1, 30, 0, [], [(0, 0)]) rfl rfl rfl ?_
        refine bEqI bl_0 ?_
        refine bGo hA 1 14 (56, .istore 4, 2, 31, 0, [4], []) rfl rfl rfl ?_
        refine bGo hA 1 15 (58, .aload_n 0, 1, 32, 0, [0], []) rfl rfl rfl ?_
        refine bGo hA 2 0 (59, .getfield 21, 3, 33, 0, [6, 7, 3, 30, 1, 0], []) rfl rfl rfl ?_
        refine ⟨rfl, ?_⟩
        refine bGo hA 2 1 (62, .iload_n 3, 1, 34, 0, [3], []) rfl rfl rfl ?_
        refine bGo hA 2 2 (63, .iload 4, 2, 35, 0, [4], []) rfl rfl rfl ?_
        refine bGo hA 2 3 (65, .ifCond .eq (10), 3, 36, 39, [], []) rfl rfl rfl ?_
        refine ⟨fun _ => ?_, fun c => absurd (by decide) c⟩
        refine bGo hA 2 7 (75, .iconst (-1), 1, 40, 0, [], [(-1, 0)]) rfl rfl rfl ?_
        refine bEqI bl_m1 ?_
        refine bGo hA 2 8 (76, .invokestatic 107, 3, 41, 1, [2, 141, 3], []) rfl rfl rfl ?_
        refine hC _ _ _ _ _ (bRv_e (fun s17 k18 => ?_)) (k12.1 c15)
        show A (41, [.ref 6, .int (bn l1), .int (bn l2), .int (bn r4), .int (bn 0)], [], s17)
        refine bGo hA 2 9 (79, .iinc 2 (1), 3, 42, 0, [2], [(1, 0)]) rfl rfl rfl ?_
        refine bEqC (fun v => A (42, [.ref 6, .int (bn l1), .int v, .int (bn r4), .int (bn 0)], [], s17)) ((congrArg (fun w => bn l2 + w) bl_1).trans (bn_add l2 1)) ?_
        refine bGo hA 2 10 (82, .goto (-67), 3, 43, 9, [], []) rfl rfl rfl ?_
        exact k18.2
      · refine bGo hA 1 11 (51, .iconst (1), 1, 28, 0, [], [(1, 0)]) rfl rfl rfl ?_
        refine bEqI bl_1 ?_
        refine bGo hA 1 12 (52, .goto (4), 3, 29, 30, [], []) rfl rfl rfl ?_
        refine bGo hA 1 14 (56, .istore 4, 2, 31, 0, [4], []) rfl rfl rfl ?_
        refine bGo hA 1 15 (58, .aload_n 0, 1, 32, 0, [0], []) rfl rfl rfl ?_
        refine bGo hA 2 0 (59, .getfield 21, 3, 33, 0, [6, 7, 3, 30, 1, 0], []) rfl rfl rfl ?_
        refine ⟨rfl, ?_⟩
        refine bGo hA 2 1 (62, .iload_n 3, 1, 34, 0, [3], []) rfl rfl rfl ?_
        refine bGo hA 2 2 (63, .iload 4, 2, 35, 0, [4], []) rfl rfl rfl ?_
        refine bGo hA 2 3 (65, .ifCond .eq (10), 3, 36, 39, [], []) rfl rfl rfl ?_
        refine ⟨fun c => absurd c (by decide), fun _ => ?_⟩
        refine bGo hA 2 4 (68, .aload_n 0, 1, 37, 0, [0], []) rfl rfl rfl ?_
        refine bGo hA 2 5 (69, .invokevirtual 183, 3, 38, 0, [0, 6, 88, 0], []) rfl rfl rfl ?_
        refine ⟨rfl, ?_⟩
        refine hC _ _ _ _ _ (bRn_e (fun r22 s20 q23 k21 => ?_)) (k12.2 c15)
        show A (38, [.ref 6, .int (bn l1), .int (bn l2), .int (bn r4), .int (bn 1)], [.int (bn r22), .int (bn r4), .ref 30], s20)
        refine bGo hA 2 6 (72, .goto (4), 3, 39, 40, [], []) rfl rfl rfl ?_
        refine bGo hA 2 8 (76, .invokestatic 107, 3, 41, 1, [2, 141, 3], []) rfl rfl rfl ?_
        refine hC _ _ _ _ _ (bRv_e (fun s24 k25 => ?_)) k21
        show A (41, [.ref 6, .int (bn l1), .int (bn l2), .int (bn r4), .int (bn 1)], [], s24)
        refine bGo hA 2 9 (79, .iinc 2 (1), 3, 42, 0, [2], [(1, 0)]) rfl rfl rfl ?_
        refine bEqC (fun v => A (42, [.ref 6, .int (bn l1), .int v, .int (bn r4), .int (bn 1)], [], s24)) ((congrArg (fun w => bn l2 + w) bl_1).trans (bn_add l2 1)) ?_
        refine bGo hA 2 10 (82, .goto (-67), 3, 43, 9, [], []) rfl rfl rfl ?_
        exact k25.2
    · refine bGo hA 1 13 (55, .iconst (0), 1, 30, 0, [], [(0, 0)]) rfl rfl rfl ?_
      refine bEqI bl_0 ?_
      refine bGo hA 1 14 (56, .istore 4, 2, 31, 0, [4], []) rfl rfl rfl ?_
      refine bGo hA 1 15 (58, .aload_n 0, 1, 32, 0, [0], []) rfl rfl rfl ?_
      refine bGo hA 2 0 (59, .getfield 21, 3, 33, 0, [6, 7, 3, 30, 1, 0], []) rfl rfl rfl ?_
      refine ⟨rfl, ?_⟩
      refine bGo hA 2 1 (62, .iload_n 3, 1, 34, 0, [3], []) rfl rfl rfl ?_
      refine bGo hA 2 2 (63, .iload 4, 2, 35, 0, [4], []) rfl rfl rfl ?_
      refine bGo hA 2 3 (65, .ifCond .eq (10), 3, 36, 39, [], []) rfl rfl rfl ?_
      refine ⟨fun _ => ?_, fun c => absurd (by decide) c⟩
      refine bGo hA 2 7 (75, .iconst (-1), 1, 40, 0, [], [(-1, 0)]) rfl rfl rfl ?_
      refine bEqI bl_m1 ?_
      refine bGo hA 2 8 (76, .invokestatic 107, 3, 41, 1, [2, 141, 3], []) rfl rfl rfl ?_
      refine hC _ _ _ _ _ (bRv_e (fun s27 k28 => ?_)) (k7.2 c10)
      show A (41, [.ref 6, .int (bn l1), .int (bn l2), .int (bn r4), .int (bn 0)], [], s27)
      refine bGo hA 2 9 (79, .iinc 2 (1), 3, 42, 0, [2], [(1, 0)]) rfl rfl rfl ?_
      refine bEqC (fun v => A (42, [.ref 6, .int (bn l1), .int v, .int (bn r4), .int (bn 0)], [], s27)) ((congrArg (fun w => bn l2 + w) bl_1).trans (bn_add l2 1)) ?_
      refine bGo hA 2 10 (82, .goto (-67), 3, 43, 9, [], []) rfl rfl rfl ?_
      exact k28.2
  · refine bGo hA 2 11 (85, .aload_n 0, 1, 44, 0, [0], []) rfl rfl rfl ?_
    refine bGo hA 2 12 (86, .getfield 21, 3, 45, 0, [6, 7, 3, 30, 1, 0], []) rfl rfl rfl ?_
    refine ⟨rfl, ?_⟩
    refine bGo hA 2 13 (89, .aload_n 0, 1, 46, 0, [0], []) rfl rfl rfl ?_
    refine bGo hA 2 14 (90, .iload_n 1, 1, 47, 0, [1], []) rfl rfl rfl ?_
    refine bGo hA 2 15 (91, .invokevirtual 173, 3, 48, 0, [0, 6, 69, 1], []) rfl rfl rfl ?_
    refine ⟨rfl, ?_⟩
    refine hC _ _ _ _ _ (bRn_e (fun r31 s29 q32 k30 => ?_)) (h.2 c1)
    show A (48, [.ref 6, .int (bn l1), .int (bn l2), v3, v4], [.int (bn r31), .ref 30], s29)
    refine bGo hA 3 0 (94, .invokestatic 100, 3, 49, 1, [2, 140, 2], []) rfl rfl rfl ?_
    refine hC _ _ _ _ _ (bRn_e (fun r35 s33 q36 k34 => ?_)) k30
    show A (49, [.ref 6, .int (bn l1), .int (bn l2), v3, v4], [.int (bn r35)], s33)
    refine bGo hA 3 1 (97, .ireturn, 1, 0, 0, [1], []) rfl rfl rfl ?_
    exact k34

theorem sq84_0 {lvl : Nat} {C : bCall} {Q : bPost} {A : bPt → Prop} (hC : bMono C) (hA : bClosed lvl bm84 C Q A) {x1 : Int} {σ : bSt}  (h_x1 : bRg x1)
  (h : (C 70 [.ref 6] σ (bRv (fun s1 => (C 69 [.ref 6, .int (bn x1)] s1 (bRn (fun r5 s3 => (C 71 [.ref 6, .int (bn r5)] s3 (bRv (fun s7 => A (9, [.ref 6, .int (bn x1), .int (bn 0), .float 0, .float 0], [], s7))))))))))) : A (0, [.ref 6, .int (bn x1), .float 0, .float 0, .float 0], [], σ) := by
  refine bGo hA 0 0 (0, .aload_n 0, 1, 1, 0, [0], []) rfl rfl rfl ?_
  refine bGo hA 0 1 (1, .invokevirtual 170, 3, 2, 0, [0, 6, 70, 0], []) rfl rfl rfl ?_
  refine ⟨rfl, ?_⟩
  refine hC _ _ _ _ _ (bRv_e (fun s1 k2 => ?_)) h
  show A (2, [.ref 6, .int (bn x1), .float 0, .float 0, .float 0], [], s1)
  refine bGo hA 0 2 (4, .aload_n 0, 1, 3, 0, [0], []) rfl rfl rfl ?_
  refine bGo hA 0 3 (5, .aload_n 0, 1, 4, 0, [0], []) rfl rfl rfl ?_
  refine bGo hA 0 4 (6, .iload_n 1, 1, 5, 0, [1], []) rfl rfl rfl ?_
  refine bGo hA 0 5 (7, .invokevirtual 173, 3, 6, 0, [0, 6, 69, 1], []) rfl rfl rfl ?_
  refine ⟨rfl, ?_⟩
  refine hC _ _ _ _ _ (bRn_e (fun r5 s3 q6 k4 => ?_)) k2
  show A (6, [.ref 6, .int (bn x1), .float 0, .float 0, .float 0], [.int (bn r5), .ref 6], s3)
  refine bGo hA 0 6 (10, .invokevirtual 176, 3, 7, 0, [0, 6, 71, 1], []) rfl rfl rfl ?_
  refine ⟨rfl, ?_⟩
  refine hC _ _ _ _ _ (bRv_e (fun s7 k8 => ?_)) k4
  show A (7, [.ref 6, .int (bn x1), .float 0, .float 0, .float 0], [], s7)
  refine bGo hA 0 7 (13, .iconst (0), 1, 8, 0, [], [(0, 0)]) rfl rfl rfl ?_
  refine bEqI bl_0 ?_
  refine bGo hA 0 8 (14, .istore_n 2, 1, 9, 0, [2], []) rfl rfl rfl ?_
  exact k8

theorem sq84_9 {lvl : Nat} {C : bCall} {Q : bPost} {A : bPt → Prop} (hC : bMono C) (hA : bClosed lvl bm84 C Q A) {l1 : Int} {l2 : Int} {v3 : Value} {v4 : Value} {σ : bSt}  (h_l1 : bRg l1) (h_l2 : bRg l2)
  (h : ((l2 < (bi σ 6 11) → (C 140 [.ref 28, .int (bn l2)] σ (bRn (fun r4 s2 => (C 140 [.ref 29, .int (bn r4)] s2 (bRn (fun r8 s6 => ((r8 = 0 → (C 86 [.ref 6, .int (bn r4)] s6 (bRn (fun r13 s11 => ((r13 = 0 → (C 141 [.ref 30, .int (bn r4), .int (bn (-1))] s11 (bRv (fun s16 => (bRg (l2 + 1) ∧ A (9, [.ref 6, .int (bn l1), .int (bn (l2 + 1)), .int (bn r4), .int (bn (-1))], [], s16)))))) ∧ (¬ r13 = 0 → (C 87 [.ref 6] s11 (bRa (fun r20 s18 => (C 85 [.ref 6, .ref r20] s18 (bRn (fun r23 s21 => (C 141 [.ref 30, .int (bn r4), .int (bn r23)] s21 (bRv (fun s25 => (bRg (l2 + 1) ∧ A (9, [.ref 6, .int (bn l1), .int (bn (l2 + 1)), .int (bn r4), .int (bn r23)], [], s25))))))))))))))))) ∧ (¬ r8 = 0 → (C 141 [.ref 30, .int (bn r4), .int (bn (-1))] s6 (bRv (fun s27 => (bRg (l2 + 1) ∧ A (9, [.ref 6, .int (bn l1), .int (bn (l2 + 1)), .int (bn r4), .int (bn (-1))], [], s27)))))))))))))) ∧ (¬ l2 < (bi σ 6 11) → (C 69 [.ref 6, .int (bn l1)] σ (bRn (fun r31 s29 => (C 140 [.ref 30, .int (bn r31)] s29 (bRn (fun r35 s33 => Q (.inl (some (.int (bn r35)))) s33))))))))) : A (9, [.ref 6, .int (bn l1), .int (bn l2), v3, v4], [], σ) := by
  refine bGo hA 0 9 (15, .iload_n 2, 1, 10, 0, [2], []) rfl rfl rfl ?_
  refine bGo hA 0 10 (16, .aload_n 0, 1, 11, 0, [0], []) rfl rfl rfl ?_
  refine bGo hA 0 11 (17, .getfield 89, 3, 12, 0, [6, 11, 0, 0, 0, 0], []) rfl rfl rfl ?_
  refine ⟨rfl, ?_⟩
  refine bEqI (bn_bi σ 6 11) ?_
  refine bGo hA 0 12 (20, .if_icmp .ge (60), 3, 13, 41, [], []) rfl rfl rfl ?_
  refine bB_lt (x := l2) (y := (bi σ 6 11)) h_l2 (bi_rg _ _ _) (fun c1 => ?_) (fun c1 => ?_)
  · refine bGo hA 0 13 (23, .aload_n 0, 1, 14, 0, [0], []) rfl rfl rfl ?_
    refine bGo hA 0 14 (24, .getfield 15, 3, 15, 0, [6, 5, 3, 28, 1, 0], []) rfl rfl rfl ?_
    refine ⟨rfl, ?_⟩
    refine bGo hA 0 15 (27, .iload_n 2, 1, 16, 0, [2], []) rfl rfl rfl ?_
    refine bGo hA 1 0 (28, .invokestatic 100, 3, 17, 1, [2, 140, 2], []) rfl rfl rfl ?_
    refine hC _ _ _ _ _ (bRn_e (fun r4 s2 q5 k3 => ?_)) (h.1 c1)
    show A (17, [.ref 6, .int (bn l1), .int (bn l2), v3, v4], [.int (bn r4)], s2)
    refine bGo hA 1 1 (31, .istore_n 3, 1, 18, 0, [3], []) rfl rfl rfl ?_
    refine bGo hA 1 2 (32, .iconst (-1), 1, 19, 0, [], [(-1, 0)]) rfl rfl rfl ?_
    refine bEqI bl_m1 ?_
    refine bGo hA 1 3 (33, .istore 4, 2, 20, 0, [4], []) rfl rfl rfl ?_
    refine bGo hA 1 4 (35, .aload_n 0, 1, 21, 0, [0], []) rfl rfl rfl ?_
    refine bGo hA 1 5 (36, .getfield 18, 3, 22, 0, [6, 6, 3, 29, 1, 0], []) rfl rfl rfl ?_
    refine ⟨rfl, ?_⟩
    refine bGo hA 1 6 (39, .iload_n 3, 1, 23, 0, [3], []) rfl rfl rfl ?_
    refine bGo hA 1 7 (40, .invokestatic 100, 3, 24, 1, [2, 140, 2], []) rfl rfl rfl ?_
    refine hC _ _ _ _ _ (bRn_e (fun r8 s6 q9 k7 => ?_)) k3
    show A (24, [.ref 6, .int (bn l1), .int (bn l2), .int (bn r4), .int (bn (-1))], [.int (bn r8)], s6)
    refine bGo hA 1 8 (43, .ifCond .ne (21), 3, 25, 34, [], []) rfl rfl rfl ?_
    refine bB_eq0 (x := r8) q9 (fun c10 => ?_) (fun c10 => ?_)
    · refine bGo hA 1 9 (46, .aload_n 0, 1, 26, 0, [0], []) rfl rfl rfl ?_
      refine bGo hA 1 10 (47, .iload_n 3, 1, 27, 0, [3], []) rfl rfl rfl ?_
      refine bGo hA 1 11 (48, .invokevirtual 180, 3, 28, 0, [0, 6, 86, 1], []) rfl rfl rfl ?_
      refine ⟨rfl, ?_⟩
      refine hC _ _ _ _ _ (bRn_e (fun r13 s11 q14 k12 => ?_)) (k7.1 c10)
      show A (28, [.ref 6, .int (bn l1), .int (bn l2), .int (bn r4), .int (bn (-1))], [.int (bn r13)], s11)
      refine bGo hA 1 12 (51, .ifCond .eq (13), 3, 29, 34, [], []) rfl rfl rfl ?_
      refine bB_eq0 (x := r13) q14 (fun c15 => ?_) (fun c15 => ?_)
      · refine bGo hA 2 2 (64, .aload_n 0, 1, 35, 0, [0], []) rfl rfl rfl ?_
        refine bGo hA 2 3 (65, .getfield 21, 3, 36, 0, [6, 7, 3, 30, 1, 0], []) rfl rfl rfl ?_
        refine ⟨rfl, ?_⟩
        refine bGo hA 2 4 (68, .iload_n 3, 1, 37, 0, [3], []) rfl rfl rfl ?_
        refine bGo hA 2 5 (69, .iload 4, 2, 38, 0, [4], []) rfl rfl rfl ?_
        refine bGo hA 2 6 (71, .invokestatic 107, 3, 39, 1, [2, 141, 3], []) rfl rfl rfl ?_
        refine hC _ _ _ _ _ (bRv_e (fun s16 k17 => ?_)) (k12.1 c15)
        show A (39, [.ref 6, .int (bn l1), .int (bn l2), .int (bn r4), .int (bn (-1))], [], s16)
        refine bGo hA 2 7 (74, .iinc 2 (1), 3, 40, 0, [2], [(1, 0)]) rfl rfl rfl ?_
        refine bEqC (fun v => A (40, [.ref 6, .int (bn l1), .int v, .int (bn r4), .int (bn (-1))], [], s16)) ((congrArg (fun w => bn l2 + w) bl_1).trans (bn_add l2 1)) ?_
        refine bGo hA 2 8 (77, .goto (-62), 3, 41, 9, [], []) rfl rfl rfl ?_
        exact k17.2
      · refine bGo hA 1 13 (54, .aload_n 0, 1, 30, 0, [0], []) rfl rfl rfl ?_
        refine bGo hA 1 14 (55, .aload_n 0, 1, 31, 0, [0], []) rfl rfl rfl ?_
        refine bGo hA 1 15 (56, .invokevirtual 199, 3, 32, 0, [0, 6, 87, 0], []) rfl rfl rfl ?_
        refine ⟨rfl, ?_⟩
        refine hC _ _ _ _ _ (bRa_e (fun r20 s18 k19 => ?_)) (k12.2 c15)
        show A (32, [.ref 6, .int (bn l1), .int (bn l2), .int (bn r4), .int (bn (-1))], [.ref r20, .ref 6], s18)
        refine bGo hA 2 0 (59, .invokevirtual 203, 3, 33, 0, [0, 6, 85, 1], []) rfl rfl rfl ?_
        refine ⟨rfl, ?_⟩
        refine hC _ _ _ _ _ (bRn_e (fun r23 s21 q24 k22 => ?_)) k19
        show A (33, [.ref 6, .int (bn l1), .int (bn l2), .int (bn r4), .int (bn (-1))], [.int (bn r23)], s21)
        refine bGo hA 2 1 (62, .istore 4, 2, 34, 0, [4], []) rfl rfl rfl ?_
        refine bGo hA 2 2 (64, .aload_n 0, 1, 35, 0, [0], []) rfl rfl rfl ?_
        refine bGo hA 2 3 (65, .getfield 21, 3, 36, 0, [6, 7, 3, 30, 1, 0], []) rfl rfl rfl ?_
        refine ⟨rfl, ?_⟩
        refine bGo hA 2 4 (68, .iload_n 3, 1, 37, 0, [3], []) rfl rfl rfl ?_
        refine bGo hA 2 5 (69, .iload 4, 2, 38, 0, [4], []) rfl rfl rfl ?_
        refine bGo hA 2 6 (71, .invokestatic 107, 3, 39, 1, [2, 141, 3], []) rfl rfl rfl ?_
        refine hC _ _ _ _ _ (bRv_e (fun s25 k26 => ?_)) k22
        show A (39, [.ref 6, .int (bn l1), .int (bn l2), .int (bn r4), .int (bn r23)], [], s25)
        refine bGo hA 2 7 (74, .iinc 2 (1), 3, 40, 0, [2], [(1, 0)]) rfl rfl rfl ?_
        refine bEqC (fun v => A (40, [.ref 6, .int (bn l1), .int v, .int (bn r4), .int (bn r23)], [], s25)) ((congrArg (fun w => bn l2 + w) bl_1).trans (bn_add l2 1)) ?_
        refine bGo hA 2 8 (77, .goto (-62), 3, 41, 9, [], []) rfl rfl rfl ?_
        exact k26.2
    · refine bGo hA 2 2 (64, .aload_n 0, 1, 35, 0, [0], []) rfl rfl rfl ?_
      refine bGo hA 2 3 (65, .getfield 21, 3, 36, 0, [6, 7, 3, 30, 1, 0], []) rfl rfl rfl ?_
      refine ⟨rfl, ?_⟩
      refine bGo hA 2 4 (68, .iload_n 3, 1, 37, 0, [3], []) rfl rfl rfl ?_
      refine bGo hA 2 5 (69, .iload 4, 2, 38, 0, [4], []) rfl rfl rfl ?_
      refine bGo hA 2 6 (71, .invokestatic 107, 3, 39, 1, [2, 141, 3], []) rfl rfl rfl ?_
      refine hC _ _ _ _ _ (bRv_e (fun s27 k28 => ?_)) (k7.2 c10)
      show A (39, [.ref 6, .int (bn l1), .int (bn l2), .int (bn r4), .int (bn (-1))], [], s27)
      refine bGo hA 2 7 (74, .iinc 2 (1), 3, 40, 0, [2], [(1, 0)]) rfl rfl rfl ?_
      refine bEqC (fun v => A (40, [.ref 6, .int (bn l1), .int v, .int (bn r4), .int (bn (-1))], [], s27)) ((congrArg (fun w => bn l2 + w) bl_1).trans (bn_add l2 1)) ?_
      refine bGo hA 2 8 (77, .goto (-62), 3, 41, 9, [], []) rfl rfl rfl ?_
      exact k28.2
  · refine bGo hA 2 9 (80, .aload_n 0, 1, 42, 0, [0], []) rfl rfl rfl ?_
    refine bGo hA 2 10 (81, .getfield 21, 3, 43, 0, [6, 7, 3, 30, 1, 0], []) rfl rfl rfl ?_
    refine ⟨rfl, ?_⟩
    refine bGo hA 2 11 (84, .aload_n 0, 1, 44, 0, [0], []) rfl rfl rfl ?_
    refine bGo hA 2 12 (85, .iload_n 1, 1, 45, 0, [1], []) rfl rfl rfl ?_
    refine bGo hA 2 13 (86, .invokevirtual 173, 3, 46, 0, [0, 6, 69, 1], []) rfl rfl rfl ?_
    refine ⟨rfl, ?_⟩
    refine hC _ _ _ _ _ (bRn_e (fun r31 s29 q32 k30 => ?_)) (h.2 c1)
    show A (46, [.ref 6, .int (bn l1), .int (bn l2), v3, v4], [.int (bn r31), .ref 30], s29)
    refine bGo hA 2 14 (89, .invokestatic 100, 3, 47, 1, [2, 140, 2], []) rfl rfl rfl ?_
    refine hC _ _ _ _ _ (bRn_e (fun r35 s33 q36 k34 => ?_)) k30
    show A (47, [.ref 6, .int (bn l1), .int (bn l2), v3, v4], [.int (bn r35)], s33)
    refine bGo hA 2 15 (92, .ireturn, 1, 0, 0, [1], []) rfl rfl rfl ?_
    exact k34

theorem sq85_0 {lvl : Nat} {C : bCall} {Q : bPost} {A : bPt → Prop} (hC : bMono C) (hA : bClosed lvl bm85 C Q A) {a1 : Nat} {σ : bSt} (h_a1 : a1 % 256 = 0) 
  (h : ((256 * (2 * (a1 / 256) + 0) + 4) % 256 = 4 ∧ A (7, [.ref 6, .ref a1, .int (bn 0), .float 0], [], (bw σ (256 * (2 * (a1 / 256) + 0) + 4) 3 (bi σ a1 1))))) : A (0, [.ref 6, .ref a1, .float 0, .float 0], [], σ) := by
  refine bGo hA 0 0 (0, .aload_n 1, 1, 1, 0, [1], []) rfl rfl rfl ?_
  refine bGo hA 0 1 (1, .getfield 207, 3, 2, 0, [0, 3, 3, 4, 2, 0], []) rfl rfl rfl ?_
  refine ⟨h_a1, ?_⟩
  refine bGo hA 0 2 (4, .aload_n 1, 1, 3, 0, [1], []) rfl rfl rfl ?_
  refine bGo hA 0 3 (5, .getfield 211, 3, 4, 0, [0, 1, 0, 0, 0, 0], []) rfl rfl rfl ?_
  refine ⟨h_a1, ?_⟩
  refine bEqI (bn_bi σ a1 1) ?_
  refine bGo hA 0 4 (8, .putfield 214, 3, 5, 0, [4, 3, 0, 0, 0, 0], []) rfl rfl rfl ?_
  refine ⟨h.1, ?_⟩
  refine bGo hA 0 5 (11, .iconst (0), 1, 6, 0, [], [(0, 0)]) rfl rfl rfl ?_
  refine bEqI bl_0 ?_
  refine bGo hA 0 6 (12, .istore_n 2, 1, 7, 0, [2], []) rfl rfl rfl ?_
  exact h.2

theorem sq85_7 {lvl : Nat} {C : bCall} {Q : bPost} {A : bPt → Prop} (hC : bMono C) (hA : bClosed lvl bm85 C Q A) {l1 : Nat} {l2 : Int} {v3 : Value} {σ : bSt}  (h_l2 : bRg l2)
  (h : (l1 % 256 = 0 ∧ ((l2 < (bi σ l1 1) → (C 4 [.ref l1, .int (bn l2)] σ (bRn (fun r4 s2 => ((256 * (2 * (l1 / 256) + 0) + 4) % 256 = 4 ∧ ((r4 < 100 → (C 31 [.ref 3, .int (bn r4)] s2 (bRn (fun r9 s7 => (C 141 [.ref (256 * (1 * ((256 * (2 * (l1 / 256) + 0) + 4) / 256) + 0) + 22), .int (bn l2), .int (bn r9)] s7 (bRv (fun s11 => (bRg (l2 + 1) ∧ A (7, [.ref 6, .ref l1, .int (bn (l2 + 1)), .int (bn r4)], [], s11))))))))) ∧ (¬ r4 < 100 → (bRg (r4 - 100) ∧ (C 141 [.ref (256 * (1 * ((256 * (2 * (l1 / 256) + 0) + 4) / 256) + 0) + 22), .int (bn l2), .int (bn (r4 - 100))] s2 (bRv (fun s13 => (bRg (l2 + 1) ∧ A (7, [.ref 6, .ref l1, .int (bn (l2 + 1)), .int (bn r4)], [], s13))))))))))))) ∧ (¬ l2 < (bi σ l1 1) → ((256 * (2 * (l1 / 256) + 0) + 4) % 256 = 4 ∧ (C 40 [.ref (256 * (2 * (l1 / 256) + 0) + 4), .ref 3, .int (bn (bi σ l1 0))] σ (bRv (fun s15 => Q (.inl (some (.int (bn (bi s15 (256 * (2 * (l1 / 256) + 0) + 4) 8))))) s15)))))))) : A (7, [.ref 6, .ref l1, .int (bn l2), v3], [], σ) := by
  refine bGo hA 0 7 (13, .iload_n 2, 1, 8, 0, [2], []) rfl rfl rfl ?_
  refine bGo hA 0 8 (14, .aload_n 1, 1, 9, 0, [1], []) rfl rfl rfl ?_
  refine bGo hA 0 9 (15, .getfield 211, 3, 10, 0, [0, 1, 0, 0, 0, 0], []) rfl rfl rfl ?_
  refine ⟨h.1, ?_⟩
  refine bEqI (bn_bi σ l1 1) ?_
  refine bGo hA 0 10 (18, .if_icmp .ge (47), 3, 11, 33, [], []) rfl rfl rfl ?_
  refine bB_lt (x := l2) (y := (bi σ l1 1)) h_l2 (bi_rg _ _ _) (fun c1 => ?_) (fun c1 => ?_)
  · refine bGo hA 0 11 (21, .aload_n 1, 1, 12, 0, [1], []) rfl rfl rfl ?_
    refine bGo hA 0 12 (22, .iload_n 2, 1, 13, 0, [2], []) rfl rfl rfl ?_
    refine bGo hA 0 13 (23, .invokevirtual 217, 3, 14, 0, [0, 0, 4, 1], []) rfl rfl rfl ?_
    refine ⟨h.1, ?_⟩
    refine hC _ _ _ _ _ (bRn_e (fun r4 s2 q5 k3 => ?_)) (h.2.1 c1)
    show A (14, [.ref 6, .ref l1, .int (bn l2), v3], [.int (bn r4)], s2)
    refine bGo hA 0 14 (26, .istore_n 3, 1, 15, 0, [3], []) rfl rfl rfl ?_
    refine bGo hA 0 15 (27, .aload_n 1, 1, 16, 0, [1], []) rfl rfl rfl ?_
    refine bGo hA 1 0 (28, .getfield 207, 3, 17, 0, [0, 3, 3, 4, 2, 0], []) rfl rfl rfl ?_
    refine ⟨h.1, ?_⟩
    refine bGo hA 1 1 (31, .getfield 220, 3, 18, 0, [4, 4, 3, 22, 1, 0], []) rfl rfl rfl ?_
    refine ⟨k3.1, ?_⟩
    refine bGo hA 1 2 (34, .iload_n 2, 1, 19, 0, [2], []) rfl rfl rfl ?_
    refine bGo hA 1 3 (35, .iload_n 3, 1, 20, 0, [3], []) rfl rfl rfl ?_
    refine bGo hA 1 4 (36, .bipush (100), 2, 21, 0, [], [(100, 0)]) rfl rfl rfl ?_
    refine bEqI bl_100 ?_
    refine bGo hA 1 5 (38, .if_icmp .ge (14), 3, 22, 27, [], []) rfl rfl rfl ?_
    refine bB_lt (x := r4) (y := 100) q5 (by decide : bRg 100) (fun c6 => ?_) (fun c6 => ?_)
    · refine bGo hA 1 6 (41, .aload_n 0, 1, 23, 0, [0], []) rfl rfl rfl ?_
      refine bGo hA 1 7 (42, .getfield 41, 3, 24, 0, [6, 0, 3, 3, 0, 0], []) rfl rfl rfl ?_
      refine ⟨rfl, ?_⟩
      refine bGo hA 1 8 (45, .iload_n 3, 1, 25, 0, [3], []) rfl rfl rfl ?_
      refine bGo hA 1 9 (46, .invokevirtual 163, 3, 26, 0, [0, 3, 31, 1], []) rfl rfl rfl ?_
      refine ⟨rfl, ?_⟩
      refine hC _ _ _ _ _ (bRn_e (fun r9 s7 q10 k8 => ?_)) (k3.2.1 c6)
      show A (26, [.ref 6, .ref l1, .int (bn l2), .int (bn r4)], [.int (bn r9), .int (bn l2), .ref (256 * (1 * ((256 * (2 * (l1 / 256) + 0) + 4) / 256) + 0) + 22)], s7)
      refine bGo hA 1 10 (49, .goto (7), 3, 27, 30, [], []) rfl rfl rfl ?_
      refine bGo hA 1 14 (56, .invokestatic 107, 3, 31, 1, [2, 141, 3], []) rfl rfl rfl ?_
      refine hC _ _ _ _ _ (bRv_e (fun s11 k12 => ?_)) k8
      show A (31, [.ref 6, .ref l1, .int (bn l2), .int (bn r4)], [], s11)
      refine bGo hA 1 15 (59, .iinc 2 (1), 3, 32, 0, [2], [(1, 0)]) rfl rfl rfl ?_
      refine bEqC (fun v => A (32, [.ref 6, .ref l1, .int v, .int (bn r4)], [], s11)) ((congrArg (fun w => bn l2 + w) bl_1).trans (bn_add l2 1)) ?_
      refine bGo hA 2 0 (62, .goto (-49), 3, 33, 7, [], []) rfl rfl rfl ?_
      exact k12.2
    · refine bGo hA 1 11 (52, .iload_n 3, 1, 28, 0, [3], []) rfl rfl rfl ?_
      refine bGo hA 1 12 (53, .bipush (100), 2, 29, 0, [], [(100, 0)]) rfl rfl rfl ?_
      refine bEqI bl_100 ?_
      refine bGo hA 1 13 (55, .isub, 1, 30, 0, [], []) rfl rfl rfl ?_
      refine bEqI (bn_sub r4 100) ?_
      refine bGo hA 1 14 (56, .invokestatic 107, 3, 31, 1, [2, 141, 3], []) rfl rfl rfl ?_
      refine hC _ _ _ _ _ (bRv_e (fun s13 k14 => ?_)) (k3.2.2 c6).2
      show A (31, [.ref 6, .ref l1, .int (bn l2), .int (bn r4)], [], s13)
      refine bGo hA 1 15 (59, .iinc 2 (1), 3, 32, 0, [2], [(1, 0)]) rfl rfl rfl ?_
      refine bEqC (fun v => A (32, [.ref 6, .ref l1, .int v, .int (bn r4)], [], s13)) ((congrArg (fun w => bn l2 + w) bl_1).trans (bn_add l2 1)) ?_
      refine bGo hA 2 0 (62, .goto (-49), 3, 33, 7, [], []) rfl rfl rfl ?_
      exact k14.2
  · refine bGo hA 2 1 (65, .aload_n 1, 1, 34, 0, [1], []) rfl rfl rfl ?_
    refine bGo hA 2 2 (66, .getfield 207, 3, 35, 0, [0, 3, 3, 4, 2, 0], []) rfl rfl rfl ?_
    refine ⟨h.1, ?_⟩
    refine bGo hA 2 3 (69, .aload_n 0, 1, 36, 0, [0], []) rfl rfl rfl ?_
    refine bGo hA 2 4 (70, .getfield 41, 3, 37, 0, [6, 0, 3, 3, 0, 0], []) rfl rfl rfl ?_
    refine ⟨rfl, ?_⟩
    refine bGo hA 2 5 (73, .aload_n 1, 1, 38, 0, [1], []) rfl rfl rfl ?_
    refine bGo hA 2 6 (74, .getfield 223, 3, 39, 0, [0, 0, 0, 0, 0, 0], []) rfl rfl rfl ?_
    refine ⟨h.1, ?_⟩
    refine bEqI (bn_bi σ l1 0) ?_
    refine bGo hA 2 7 (77, .invokevirtual 224, 3, 40, 0, [0, 4, 40, 2], []) rfl rfl rfl ?_
    refine ⟨(h.2.2 c1).1, ?_⟩
    refine hC _ _ _ _ _ (bRv_e (fun s15 k16 => ?_)) (h.2.2 c1).2
    show A (40, [.ref 6, .ref l1, .int (bn l2), v3], [], s15)
    refine bGo hA 2 8 (80, .aload_n 1, 1, 41, 0, [1], []) rfl rfl rfl ?_
    refine bGo hA 2 9 (81, .getfield 207, 3, 42, 0, [0, 3, 3, 4, 2, 0], []) rfl rfl rfl ?_
    refine ⟨h.1, ?_⟩
    refine bGo hA 2 10 (84, .getfield 228, 3, 43, 0, [4, 8, 0, 0, 0, 0], []) rfl rfl rfl ?_
    refine ⟨(h.2.2 c1).1, ?_⟩
    refine bEqI (bn_bi s15 (256 * (2 * (l1 / 256) + 0) + 4) 8) ?_
    refine bGo hA 2 11 (87, .ireturn, 1, 0, 0, [1], []) rfl rfl rfl ?_
    exact k16

theorem sq86_0 {lvl : Nat} {C : bCall} {Q : bPost} {A : bPt → Prop} (hC : bMono C) (hA : bClosed lvl bm86 C Q A) {x1 : Int} {σ : bSt}  (h_x1 : bRg x1)
  (h : (C 120 [.ref 9, .int (bn (bShr x1 8))] σ (bRa (fun r3 s1 => (C 87 [.ref 6] s1 (bRa (fun r6 s4 => (r3 % 256 = 8 ∧ (C 116 [.ref r3, .int (bn (bAnd x1 255))] s4 (bRn (fun r9 s7 => (C 75 [.ref 6, .ref r3, .int (bn x1)] s7 (bRn (fun r13 s11 => (r6 % 256 = 0 ∧ (C 1 [.ref r6, .ref r3, .int (bn r9), .int (bn r13)] s11 (bRv (fun s15 => A (24, [.ref 6, .int (bn x1), .ref r3, .ref r6, .int (bn 0), .float 0, .float 0], [], s15))))))))))))))))))) : A (0, [.ref 6, .int (bn x1), .float 0, .float 0, .float 0, .float 0, .float 0], [], σ) := by
  refine bGo hA 0 0 (0, .aload_n 0, 1, 1, 0, [0], []) rfl rfl rfl ?_
  refine bGo hA 0 1 (1, .getfield 53, 3, 2, 0, [6, 3, 3, 9, 0, 0], []) rfl rfl rfl ?_
  refine ⟨rfl, ?_⟩
  refine bGo hA 0 2 (4, .iload_n 1, 1, 3, 0, [1], []) rfl rfl rfl ?_
  refine bGo hA 0 3 (5, .bipush (8), 2, 4, 0, [], [(8, 0)]) rfl rfl rfl ?_
  refine bEqI bl_8 ?_
  refine bGo hA 0 4 (7, .ishr, 1, 5, 0, [], []) rfl rfl rfl ?_
  refine bEqI (bn_shr x1 8) ?_
  refine bGo hA 0 5 (8, .invokevirtual 63, 3, 6, 0, [0, 9, 120, 1], []) rfl rfl rfl ?_
  refine ⟨rfl, ?_⟩
  refine hC _ _ _ _ _ (bRa_e (fun r3 s1 k2 => ?_)) h
  show A (6, [.ref 6, .int (bn x1), .float 0, .float 0, .float 0, .float 0, .float 0], [.ref r3], s1)
  refine bGo hA 0 6 (11, .astore_n 2, 1, 7, 0, [2], []) rfl rfl rfl ?_
  refine bGo hA 0 7 (12, .aload_n 0, 1, 8, 0, [0], []) rfl rfl rfl ?_
  refine bGo hA 0 8 (13, .invokevirtual 199, 3, 9, 0, [0, 6, 87, 0], []) rfl rfl rfl ?_
  refine ⟨rfl, ?_⟩
  refine hC _ _ _ _ _ (bRa_e (fun r6 s4 k5 => ?_)) k2
  show A (9, [.ref 6, .int (bn x1), .ref r3, .float 0, .float 0, .float 0, .float 0], [.ref r6], s4)
  refine bGo hA 0 9 (16, .astore_n 3, 1, 10, 0, [3], []) rfl rfl rfl ?_
  refine bGo hA 0 10 (17, .aload_n 3, 1, 11, 0, [3], []) rfl rfl rfl ?_
  refine bGo hA 0 11 (18, .aload_n 2, 1, 12, 0, [2], []) rfl rfl rfl ?_
  refine bGo hA 0 12 (19, .aload_n 2, 1, 13, 0, [2], []) rfl rfl rfl ?_
  refine bGo hA 0 13 (20, .iload_n 1, 1, 14, 0, [1], []) rfl rfl rfl ?_
  refine bGo hA 0 14 (21, .sipush (255), 3, 15, 0, [], [(255, 0)]) rfl rfl rfl ?_
  refine bEqI bl_255 ?_
  refine bGo hA 0 15 (24, .iand, 1, 16, 0, [], []) rfl rfl rfl ?_
  refine bEqI (bn_and x1 255) ?_
  refine bGo hA 1 0 (25, .invokevirtual 135, 3, 17, 0, [0, 8, 116, 1], []) rfl rfl rfl ?_
  refine ⟨k5.1, ?_⟩
  refine hC _ _ _ _ _ (bRn_e (fun r9 s7 q10 k8 => ?_)) k5.2
  show A (17, [.ref 6, .int (bn x1), .ref r3, .ref r6, .float 0, .float 0, .float 0], [.int (bn r9), .ref r3, .ref r6], s7)
  refine bGo hA 1 1 (28, .aload_n 0, 1, 18, 0, [0], []) rfl rfl rfl ?_
  refine bGo hA 1 2 (29, .aload_n 2, 1, 19, 0, [2], []) rfl rfl rfl ?_
  refine bGo hA 1 3 (30, .iload_n 1, 1, 20, 0, [1], []) rfl rfl rfl ?_
  refine bGo hA 1 4 (31, .invokevirtual 138, 3, 21, 0, [0, 6, 75, 2], []) rfl rfl rfl ?_
  refine ⟨rfl, ?_⟩
  refine hC _ _ _ _ _ (bRn_e (fun r13 s11 q14 k12 => ?_)) k8
  show A (21, [.ref 6, .int (bn x1), .ref r3, .ref r6, .float 0, .float 0, .float 0], [.int (bn r13), .int (bn r9), .ref r3, .ref r6], s11)
  refine bGo hA 1 5 (34, .invokevirtual 231, 3, 22, 0, [0, 0, 1, 3], []) rfl rfl rfl ?_
  refine ⟨k12.1, ?_⟩
  refine hC _ _ _ _ _ (bRv_e (fun s15 k16 => ?_)) k12.2
  show A (22, [.ref 6, .int (bn x1), .ref r3, .ref r6, .float 0, .float 0, .float 0], [], s15)
  refine bGo hA 1 6 (37, .iconst (0), 1, 23, 0, [], [(0, 0)]) rfl rfl rfl ?_
  refine bEqI bl_0 ?_
  refine bGo hA 1 7 (38, .istore 4, 2, 24, 0, [4], []) rfl rfl rfl ?_
  exact k16

theorem sq86_24 {lvl : Nat} {C : bCall} {Q : bPost} {A : bPt → Prop} (hC : bMono C) (hA : bClosed lvl bm86 C Q A) {l1 : Int} {l2 : Nat} {l3 : Nat} {l4 : Int} {v5 : Value} {v6 : Value} {σ : bSt}  (h_l1 : bRg l1) (h_l4 : bRg l4)
  (h : (l2 % 256 = 8 ∧ ((l4 < (bi σ l2 13) → (C 112 [.ref l2, .int (bn l4)] σ (bRn (fun r4 s2 => (C 73 [.ref 6, .ref l2, .int (bn l1), .int (bn r4)] s2 (bRn (fun r8 s6 => ((r4 < 1000 → ((r8 = (-1) → (l3 % 256 = 0 ∧ (C 3 [.ref l3, .long ((Int64.ofNat 1) <<< (bL r4 &&& 63))] s6 (bRv (fun s12 => (bRg (l4 + 1) ∧ A (24, [.ref 6, .int (bn l1), .ref l2, .ref l3, .int (bn (l4 + 1)), .int (bn r4), .int (bn r8)], [], s12))))))) ∧ (¬ r8 = (-1) → (C 140 [.ref 30, .int (bn r8)] s6 (bRn (fun r16 s14 => ((r16 = (-1) → Q (.inl (some (.int (bn 0)))) s14) ∧ (¬ r16 = (-1) → (C 140 [.ref 30, .int (bn r8)] s14 (bRn (fun r21 s19 => (bRg (100 + r21) ∧ (l3 % 256 = 0 ∧ (C 2 [.ref l3, .int (bn (100 + r21))] s19 (bRv (fun s23 => (bRg (l4 + 1) ∧ A (24, [.ref 6, .int (bn l1), .ref l2, .ref l3, .int (bn (l4 + 1)), .int (bn r4), .int (bn r8)], [], s23)))))))))))))))))) ∧ (¬ r4 < 1000 → (C 77 [.ref 6, .ref l2, .int (bn r4)] s6 (bRj (fun r27 s25 => (l3 % 256 = 0 ∧ (C 3 [.ref l3, .long r27] s25 (bRv (fun s28 => (bRg (l4 + 1) ∧ A (24, [.ref 6, .int (bn l1), .ref l2, .ref l3, .int (bn (l4 + 1)), .int (bn r4), .int (bn r8)], [], s28)))))))))))))))))) ∧ (¬ l4 < (bi σ l2 13) → Q (.inl (some (.int (bn 1)))) σ)))) : A (24, [.ref 6, .int (bn l1), .ref l2, .ref l3, .int (bn l4), v5, v6], [], σ) := by
  refine bGo hA 1 8 (40, .iload 4, 2, 25, 0, [4], []) rfl rfl rfl ?_
  refine bGo hA 1 9 (42, .aload_n 2, 1, 26, 0, [2], []) rfl rfl rfl ?_
  refine bGo hA 1 10 (43, .getfield 104, 3, 27, 0, [8, 13, 0, 0, 0, 0], []) rfl rfl rfl ?_
  refine ⟨h.1, ?_⟩
  refine bEqI (bn_bi σ l2 13) ?_
  refine bGo hA 1 11 (46, .if_icmp .ge (97), 3, 28, 75, [], []) rfl rfl rfl ?_
  refine bB_lt (x := l4) (y := (bi σ l2 13)) h_l4 (bi_rg _ _ _) (fun c1 => ?_) (fun c1 => ?_)
  · refine bGo hA 1 12 (49, .aload_n 2, 1, 29, 0, [2], []) rfl rfl rfl ?_
    refine bGo hA 1 13 (50, .iload 4, 2, 30, 0, [4], []) rfl rfl rfl ?_
    refine bGo hA 1 14 (52, .invokevirtual 111, 3, 31, 0, [0, 8, 112, 1], []) rfl rfl rfl ?_
    refine ⟨h.1, ?_⟩
    refine hC _ _ _ _ _ (bRn_e (fun r4 s2 q5 k3 => ?_)) (h.2.1 c1)
    show A (31, [.ref 6, .int (bn l1), .ref l2, .ref l3, .int (bn l4), v5, v6], [.int (bn r4)], s2)
    refine bGo hA 1 15 (55, .istore 5, 2, 32, 0, [5], []) rfl rfl rfl ?_
    refine bGo hA 2 0 (57, .aload_n 0, 1, 33, 0, [0], []) rfl rfl rfl ?_
    refine bGo hA 2 1 (58, .aload_n 2, 1, 34, 0, [2], []) rfl rfl rfl ?_
    refine bGo hA 2 2 (59, .iload_n 1, 1, 35, 0, [1], []) rfl rfl rfl ?_
    refine bGo hA 2 3 (60, .iload 5, 2, 36, 0, [5], []) rfl rfl rfl ?_
    refine bGo hA 2 4 (62, .invokevirtual 115, 3, 37, 0, [0, 6, 73, 3], []) rfl rfl rfl ?_
    refine ⟨rfl, ?_⟩
    refine hC _ _ _ _ _ (bRn_e (fun r8 s6 q9 k7 => ?_)) k3
    show A (37, [.ref 6, .int (bn l1), .ref l2, .ref l3, .int (bn l4), .int (bn r4), v6], [.int (bn r8)], s6)
    refine bGo hA 2 5 (65, .istore 6, 2, 38, 0, [6], []) rfl rfl rfl ?_
    refine bGo hA 2 6 (67, .iload 5, 2, 39, 0, [5], []) rfl rfl rfl ?_
    refine bGo hA 2 7 (69, .sipush (1000), 3, 40, 0, [], [(1000, 0)]) rfl rfl rfl ?_
    refine bEqI bl_1000 ?_
    refine bGo hA 2 8 (72, .if_icmp .lt (17), 3, 41, 48, [], []) rfl rfl rfl ?_
    refine bB_lt (x := r4) (y := 1000) q5 (by decide : bRg 1000) (fun c10 => ?_) (fun c10 => ?_)
    · refine bGo hA 3 0 (89, .iload 6, 2, 49, 0, [6], []) rfl rfl rfl ?_
      refine bGo hA 3 1 (91, .iconst (-1), 1, 50, 0, [], [(-1, 0)]) rfl rfl rfl ?_
      refine bEqI bl_m1 ?_
      refine bGo hA 3 2 (92, .if_icmp .ne (14), 3, 51, 57, [], []) rfl rfl rfl ?_
      refine bB_eq (x := r8) (y := (-1)) q9 (by decide : bRg (-1)) (fun c11 => ?_) (fun c11 => ?_)
      · refine bGo hA 3 3 (95, .aload_n 3, 1, 52, 0, [3], []) rfl rfl rfl ?_
        refine bGo hA 3 4 (96, .lconst 1, 1, 53, 0, [1], []) rfl rfl rfl ?_
        refine bGo hA 3 5 (97, .iload 5, 2, 54, 0, [5], []) rfl rfl rfl ?_
        refine bGo hA 3 6 (99, .lshl, 1, 55, 0, [], []) rfl rfl rfl ?_
        refine bGo hA 3 7 (100, .invokevirtual 235, 3, 56, 0, [0, 0, 3, 1], []) rfl rfl rfl ?_
        refine ⟨((k7.1 c10).1 c11).1, ?_⟩
        refine hC _ _ _ _ _ (bRv_e (fun s12 k13 => ?_)) ((k7.1 c10).1 c11).2
        show A (56, [.ref 6, .int (bn l1), .ref l2, .ref l3, .int (bn l4), .int (bn r4), .int (bn r8)], [], s12)
        refine bGo hA 3 8 (103, .goto (34), 3, 57, 73, [], []) rfl rfl rfl ?_
        refine bGo hA 4 9 (137, .iinc 4 (1), 3, 74, 0, [4], [(1, 0)]) rfl rfl rfl ?_
        refine bEqC (fun v => A (74, [.ref 6, .int (bn l1), .ref l2, .ref l3, .int v, .int (bn r4), .int (bn r8)], [], s12)) ((congrArg (fun w => bn l4 + w) bl_1).trans (bn_add l4 1)) ?_
        refine bGo hA 4 10 (140, .goto (-100), 3, 75, 24, [], []) rfl rfl rfl ?_
        exact k13.2
      · refine bGo hA 3 9 (106, .aload_n 0, 1, 58, 0, [0], []) rfl rfl rfl ?_
        refine bGo hA 3 10 (107, .getfield 21, 3, 59, 0, [6, 7, 3, 30, 1, 0], []) rfl rfl rfl ?_
        refine ⟨rfl, ?_⟩
        refine bGo hA 3 11 (110, .iload 6, 2, 60, 0, [6], []) rfl rfl rfl ?_
        refine bGo hA 3 12 (112, .invokestatic 100, 3, 61, 1, [2, 140, 2], []) rfl rfl rfl ?_
        refine hC _ _ _ _ _ (bRn_e (fun r16 s14 q17 k15 => ?_)) ((k7.1 c10).2 c11)
        show A (61, [.ref 6, .int (bn l1), .ref l2, .ref l3, .int (bn l4), .int (bn r4), .int (bn r8)], [.int (bn r16)], s14)
        refine bGo hA 3 13 (115, .iconst (-1), 1, 62, 0, [], [(-1, 0)]) rfl rfl rfl ?_
        refine bEqI bl_m1 ?_
        refine bGo hA 3 14 (116, .if_icmp .ne (5), 3, 63, 65, [], []) rfl rfl rfl ?_
        refine bB_eq (x := r16) (y := (-1)) q17 (by decide : bRg (-1)) (fun c18 => ?_) (fun c18 => ?_)
        · refine bGo hA 3 15 (119, .iconst (0), 1, 64, 0, [], [(0, 0)]) rfl rfl rfl ?_
          refine bEqI bl_0 ?_
          refine bGo hA 4 0 (120, .ireturn, 1, 65, 0, [2], []) rfl rfl rfl ?_
          exact ⟨b01 (Or.inl rfl), (k15.1 c18)⟩
        · refine bGo hA 4 1 (121, .aload_n 3, 1, 66, 0, [3], []) rfl rfl rfl ?_
          refine bGo hA 4 2 (122, .bipush (100), 2, 67, 0, [], [(100, 0)]) rfl rfl rfl ?_
          refine bEqI bl_100 ?_
          refine bGo hA 4 3 (124, .aload_n 0, 1, 68, 0, [0], []) rfl rfl rfl ?_
          refine bGo hA 4 4 (125, .getfield 21, 3, 69, 0, [6, 7, 3, 30, 1, 0], []) rfl rfl rfl ?_
          refine ⟨rfl, ?_⟩
          refine bGo hA 4 5 (128, .iload 6, 2, 70, 0, [6], []) rfl rfl rfl ?_
          refine bGo hA 4 6 (130, .invokestatic 100, 3, 71, 1, [2, 140, 2], []) rfl rfl rfl ?_
          refine hC _ _ _ _ _ (bRn_e (fun r21 s19 q22 k20 => ?_)) (k15.2 c18)
          show A (71, [.ref 6, .int (bn l1), .ref l2, .ref l3, .int (bn l4), .int (bn r4), .int (bn r8)], [.int (bn r21), .int (bn 100), .ref l3], s19)
          refine bGo hA 4 7 (133, .iadd, 1, 72, 0, [], []) rfl rfl rfl ?_
          refine bEqI (bn_add 100 r21) ?_
          refine bGo hA 4 8 (134, .invokevirtual 239, 3, 73, 0, [0, 0, 2, 1], []) rfl rfl rfl ?_
          refine ⟨k20.2.1, ?_⟩
          refine hC _ _ _ _ _ (bRv_e (fun s23 k24 => ?_)) k20.2.2
          show A (73, [.ref 6, .int (bn l1), .ref l2, .ref l3, .int (bn l4), .int (bn r4), .int (bn r8)], [], s23)
          refine bGo hA 4 9 (137, .iinc 4 (1), 3, 74, 0, [4], [(1, 0)]) rfl rfl rfl ?_
          refine bEqC (fun v => A (74, [.ref 6, .int (bn l1), .ref l2, .ref l3, .int v, .int (bn r4), .int (bn r8)], [], s23)) ((congrArg (fun w => bn l4 + w) bl_1).trans (bn_add l4 1)) ?_
          refine bGo hA 4 10 (140, .goto (-100), 3, 75, 24, [], []) rfl rfl rfl ?_
          exact k24.2
    · refine bGo hA 2 9 (75, .aload_n 3, 1, 42, 0, [3], []) rfl rfl rfl ?_
      refine bGo hA 2 10 (76, .aload_n 0, 1, 43, 0, [0], []) rfl rfl rfl ?_
      refine bGo hA 2 11 (77, .aload_n 2, 1, 44, 0, [2], []) rfl rfl rfl ?_
      refine bGo hA 2 12 (78, .iload 5, 2, 45, 0, [5], []) rfl rfl rfl ?_
      refine bGo hA 2 13 (80, .invokevirtual 144, 3, 46, 0, [0, 6, 77, 2], []) rfl rfl rfl ?_
      refine ⟨rfl, ?_⟩
      refine hC _ _ _ _ _ (bRj_e (fun r27 s25 k26 => ?_)) (k7.2 c10)
      show A (46, [.ref 6, .int (bn l1), .ref l2, .ref l3, .int (bn l4), .int (bn r4), .int (bn r8)], [.long r27, .ref l3], s25)
      refine bGo hA 2 14 (83, .invokevirtual 235, 3, 47, 0, [0, 0, 3, 1], []) rfl rfl rfl ?_
      refine ⟨k26.1, ?_⟩
      refine hC _ _ _ _ _ (bRv_e (fun s28 k29 => ?_)) k26.2
      show A (47, [.ref 6, .int (bn l1), .ref l2, .ref l3, .int (bn l4), .int (bn r4), .int (bn r8)], [], s28)
      refine bGo hA 2 15 (86, .goto (51), 3, 48, 73, [], []) rfl rfl rfl ?_
      refine bGo hA 4 9 (137, .iinc 4 (1), 3, 74, 0, [4], [(1, 0)]) rfl rfl rfl ?_
      refine bEqC (fun v => A (74, [.ref 6, .int (bn l1), .ref l2, .ref l3, .int v, .int (bn r4), .int (bn r8)], [], s28)) ((congrArg (fun w => bn l4 + w) bl_1).trans (bn_add l4 1)) ?_
      refine bGo hA 4 10 (140, .goto (-100), 3, 75, 24, [], []) rfl rfl rfl ?_
      exact k29.2
  · refine bGo hA 4 11 (143, .iconst (1), 1, 76, 0, [], [(1, 0)]) rfl rfl rfl ?_
    refine bEqI bl_1 ?_
    refine bGo hA 4 12 (144, .ireturn, 1, 0, 0, [2], []) rfl rfl rfl ?_
    exact ⟨b01 (Or.inr rfl), (h.2.2 c1)⟩

theorem sq87_0 {lvl : Nat} {C : bCall} {Q : bPost} {A : bPt → Prop} (hC : bMono C) (hA : bClosed lvl bm87 C Q A)  {σ : bSt}  
  (h : (((bi σ 6 13) < 0 → Q (.inl (some (.ref 0))) σ) ∧ (¬ (bi σ 6 13) < 0 → (((bi σ 6 13) < 121 → ((0 ≤ (bi σ 6 13) ∧ (bi σ 6 13) < 121) ∧ ((br σ 33 (bi σ 6 13) = none → (σ.2.2.2.1 (256 * ((bi σ 6 13).toNat + 1) + 0) = 0 ∧ ((256 * ((bi σ 6 13).toNat + 1) + 0) % 256 = 0 ∧ (C 0 [.retAddr (256 * ((bi σ 6 13).toNat + 1) + 0)] (bNew σ (256 * ((bi σ 6 13).toNat + 1) + 0) 1 18) (bRv (fun s5 => (s5.2.2.2.1 (256 * ((bi σ 6 13).toNat + 1) + 0) = 2 ∧ ((0 ≤ (bi s5 6 13) ∧ (bi s5 6 13) < 121) ∧ Q (.inl (some (.ref (256 * ((bi σ 6 13).toNat + 1) + 0)))) (bwr s5 33 (bi s5 6 13) (some (256 * ((bi σ 6 13).toNat + 1) + 0))))))))))) ∧ (∀ z3 : Nat, br σ 33 (bi σ 6 13) = some z3 → Q (.inl (some (.ref z3))) σ)))) ∧ (¬ (bi σ 6 13) < 121 → Q (.inl (some (.ref 0))) σ))))) : A (0, [.ref 6, .float 0], [], σ) := by
  refine bGo hA 0 0 (0, .aload_n 0, 1, 1, 0, [0], []) rfl rfl rfl ?_
  refine bGo hA 0 1 (1, .getfield 179, 3, 2, 0, [6, 13, 0, 0, 0, 0], []) rfl rfl rfl ?_
  refine ⟨rfl, ?_⟩
  refine bEqI (bn_bi σ 6 13) ?_
  refine bGo hA 0 2 (4, .ifCond .lt (15), 3, 3, 9, [], []) rfl rfl rfl ?_
  refine bB_lt0 (x := (bi σ 6 13)) (bi_rg _ _ _) (fun c1 => ?_) (fun c1 => ?_)
  · refine bGo hA 0 9 (19, .aload_n 0, 1, 10, 0, [0], []) rfl rfl rfl ?_
    refine bGo hA 0 10 (20, .getfield 37, 3, 11, 0, [6, 15, 3, 0, 0, 0], []) rfl rfl rfl ?_
    refine ⟨rfl, ?_⟩
    refine bGo hA 0 11 (23, .areturn, 1, 12, 0, [4], []) rfl rfl rfl ?_
    exact (h.1 c1)
  · refine bGo hA 0 3 (7, .aload_n 0, 1, 4, 0, [0], []) rfl rfl rfl ?_
    refine bGo hA 0 4 (8, .getfield 179, 3, 5, 0, [6, 13, 0, 0, 0, 0], []) rfl rfl rfl ?_
    refine ⟨rfl, ?_⟩
    refine bEqI (bn_bi σ 6 13) ?_
    refine bGo hA 0 5 (11, .aload_n 0, 1, 6, 0, [0], []) rfl rfl rfl ?_
    refine bGo hA 0 6 (12, .getfield 32, 3, 7, 0, [6, 14, 3, 33, 1, 0], []) rfl rfl rfl ?_
    refine ⟨rfl, ?_⟩
    refine bGo hA 0 7 (15, .arraylength, 1, 8, 0, [], []) rfl rfl rfl ?_
    refine ⟨by decide, ?_⟩
    refine bEqI (bn_nat 121).symm ?_
    refine bGo hA 0 8 (16, .if_icmp .lt (8), 3, 9, 12, [], []) rfl rfl rfl ?_
    refine bB_lt (x := (bi σ 6 13)) (y := 121) (bi_rg _ _ _) (by decide : bRg 121) (fun c2 => ?_) (fun c2 => ?_)
    · refine bGo hA 0 12 (24, .aload_n 0, 1, 13, 0, [0], []) rfl rfl rfl ?_
      refine bGo hA 0 13 (25, .getfield 32, 3, 14, 0, [6, 14, 3, 33, 1, 0], []) rfl rfl rfl ?_
      refine ⟨rfl, ?_⟩
      refine bGo hA 0 14 (28, .aload_n 0, 1, 15, 0, [0], []) rfl rfl rfl ?_
      refine bGo hA 0 15 (29, .getfield 179, 3, 16, 0, [6, 13, 0, 0, 0, 0], []) rfl rfl rfl ?_
      refine ⟨rfl, ?_⟩
      refine bEqI (bn_bi σ 6 13) ?_
      refine bGo hA 1 0 (32, .aaload, 1, 17, 0, [10, 0], []) rfl rfl rfl ?_
      refine ⟨rfl, (bIxP (x := (bi σ 6 13)) (n := 121) (bi_rg _ _ _) ((h.2 c1).1 c2).1), ?_⟩
      refine bOptX (P := fun v => A (17, [.ref 6, .float 0], v :: [], σ)) (a := 33) (x := (bi σ 6 13)) (bi_rg _ _ _) (fun c4 => ?_) (fun z3 c4 => ?_)
      · refine bGo hA 1 1 (33, .astore_n 1, 1, 18, 0, [1], []) rfl rfl rfl ?_
        refine bGo hA 1 2 (34, .aload_n 1, 1, 19, 0, [1], []) rfl rfl rfl ?_
        refine bGo hA 1 3 (35, .ifnonnull (21), 3, 20, 30, [], []) rfl rfl rfl ?_
        refine bGo hA 1 4 (38, .new 30, 3, 21, 0, [2, 0, 18, 6, 13], []) rfl rfl rfl ?_
        refine ⟨(((h.2 c1).1 c2).2.1 c4).1, ?_⟩
        refine bGo hA 1 5 (41, .dup, 1, 22, 0, [], []) rfl rfl rfl ?_
        refine bGo hA 1 6 (42, .invokespecial 36, 3, 23, 1, [4, 0, 0, 0], []) rfl rfl rfl ?_
        refine ⟨(((h.2 c1).1 c2).2.1 c4).2.1, rfl, ?_⟩
        refine hC _ _ _ _ _ (bRv_e (fun s5 k6 => ?_)) (((h.2 c1).1 c2).2.1 c4).2.2
        refine ⟨⟨rfl, k6.1⟩, ?_⟩
        show A (23, [.ref 6, .null], [.ref (256 * ((bi σ 6 13).toNat + 1) + 0)], s5)
        refine bGo hA 1 7 (45, .astore_n 1, 1, 24, 0, [1], []) rfl rfl rfl ?_
        refine bGo hA 1 8 (46, .aload_n 0, 1, 25, 0, [0], []) rfl rfl rfl ?_
        refine bGo hA 1 9 (47, .getfield 32, 3, 26, 0, [6, 14, 3, 33, 1, 0], []) rfl rfl rfl ?_
        refine ⟨rfl, ?_⟩
        refine bGo hA 1 10 (50, .aload_n 0, 1, 27, 0, [0], []) rfl rfl rfl ?_
        refine bGo hA 1 11 (51, .getfield 179, 3, 28, 0, [6, 13, 0, 0, 0, 0], []) rfl rfl rfl ?_
        refine ⟨rfl, ?_⟩
        refine bEqI (bn_bi s5 6 13) ?_
        refine bGo hA 1 12 (54, .aload_n 1, 1, 29, 0, [1], []) rfl rfl rfl ?_
        refine bGo hA 1 13 (55, .aastore, 1, 30, 0, [10, 0], []) rfl rfl rfl ?_
        refine ⟨rfl, (bIxP (x := (bi s5 6 13)) (n := 121) (bi_rg _ _ _) k6.2.1), by decide, (fun _ h => by cases h; exact (((h.2 c1).1 c2).2.1 c4).2.1), ?_⟩
        refine bEqSR (x := (bi s5 6 13)) (bi_rg _ _ _) ?_
        refine bGo hA 1 14 (56, .aload_n 1, 1, 31, 0, [1], []) rfl rfl rfl ?_
        refine bGo hA 1 15 (57, .areturn, 1, 0, 0, [4], []) rfl rfl rfl ?_
        exact k6.2.2
      · refine bGo hA 1 1 (33, .astore_n 1, 1, 18, 0, [1], []) rfl rfl rfl ?_
        refine bGo hA 1 2 (34, .aload_n 1, 1, 19, 0, [1], []) rfl rfl rfl ?_
        refine bGo hA 1 3 (35, .ifnonnull (21), 3, 20, 30, [], []) rfl rfl rfl ?_
        refine bGo hA 1 14 (56, .aload_n 1, 1, 31, 0, [1], []) rfl rfl rfl ?_
        refine bGo hA 1 15 (57, .areturn, 1, 0, 0, [4], []) rfl rfl rfl ?_
        exact (((h.2 c1).1 c2).2.2 z3 c4)
    · refine bGo hA 0 9 (19, .aload_n 0, 1, 10, 0, [0], []) rfl rfl rfl ?_
      refine bGo hA 0 10 (20, .getfield 37, 3, 11, 0, [6, 15, 3, 0, 0, 0], []) rfl rfl rfl ?_
      refine ⟨rfl, ?_⟩
      refine bGo hA 0 11 (23, .areturn, 1, 12, 0, [4], []) rfl rfl rfl ?_
      exact ((h.2 c1).2 c2)

theorem sq88_0 {lvl : Nat} {C : bCall} {Q : bPost} {A : bPt → Prop} (hC : bMono C) (hA : bClosed lvl bm88 C Q A)  {σ : bSt}  
  (h : A (2, [.ref 6, .int (bn 0)], [], σ)) : A (0, [.ref 6, .float 0], [], σ) := by
  refine bGo hA 0 0 (0, .iconst (0), 1, 1, 0, [], [(0, 0)]) rfl rfl rfl ?_
  refine bEqI bl_0 ?_
  refine bGo hA 0 1 (1, .istore_n 1, 1, 2, 0, [1], []) rfl rfl rfl ?_
  exact h

theorem sq88_2 {lvl : Nat} {C : bCall} {Q : bPost} {A : bPt → Prop} (hC : bMono C) (hA : bClosed lvl bm88 C Q A) {l1 : Int} {σ : bSt}  (h_l1 : bRg l1)
  (h : ((l1 < (bi σ 6 13) → (C 89 [.ref 6, .int (bn l1)] σ (bRa (fun r4 s2 => (C 87 [.ref 6] s2 (bRa (fun r7 s5 => (r4 % 256 = 0 ∧ (C 6 [.ref r4, .ref r7] s5 (bRn (fun r10 s8 => ((r10 = 0 → (bRg (l1 + 1) ∧ A (2, [.ref 6, .int (bn (l1 + 1))], [], s8))) ∧ (¬ r10 = 0 → Q (.inl (some (.int (bn l1)))) s8))))))))))))) ∧ (¬ l1 < (bi σ 6 13) → Q (.inl (some (.int (bn (-1))))) σ))) : A (2, [.ref 6, .int (bn l1)], [], σ) := by
  refine bGo hA 0 2 (2, .iload_n 1, 1, 3, 0, [1], []) rfl rfl rfl ?_
  refine bGo hA 0 3 (3, .aload_n 0, 1, 4, 0, [0], []) rfl rfl rfl ?_
  refine bGo hA 0 4 (4, .getfield 179, 3, 5, 0, [6, 13, 0, 0, 0, 0], []) rfl rfl rfl ?_
  refine ⟨rfl, ?_⟩
  refine bEqI (bn_bi σ 6 13) ?_
  refine bGo hA 0 5 (7, .if_icmp .ge (26), 3, 6, 17, [], []) rfl rfl rfl ?_
  refine bB_lt (x := l1) (y := (bi σ 6 13)) h_l1 (bi_rg _ _ _) (fun c1 => ?_) (fun c1 => ?_)
  · refine bGo hA 0 6 (10, .aload_n 0, 1, 7, 0, [0], []) rfl rfl rfl ?_
    refine bGo hA 0 7 (11, .iload_n 1, 1, 8, 0, [1], []) rfl rfl rfl ?_
    refine bGo hA 0 8 (12, .invokevirtual 187, 3, 9, 0, [0, 6, 89, 1], []) rfl rfl rfl ?_
    refine ⟨rfl, ?_⟩
    refine hC _ _ _ _ _ (bRa_e (fun r4 s2 k3 => ?_)) (h.1 c1)
    show A (9, [.ref 6, .int (bn l1)], [.ref r4], s2)
    refine bGo hA 0 9 (15, .aload_n 0, 1, 10, 0, [0], []) rfl rfl rfl ?_
    refine bGo hA 0 10 (16, .invokevirtual 199, 3, 11, 0, [0, 6, 87, 0], []) rfl rfl rfl ?_
    refine ⟨rfl, ?_⟩
    refine hC _ _ _ _ _ (bRa_e (fun r7 s5 k6 => ?_)) k3
    show A (11, [.ref 6, .int (bn l1)], [.ref r7, .ref r4], s5)
    refine bGo hA 0 11 (19, .invokevirtual 242, 3, 12, 0, [0, 0, 6, 1], []) rfl rfl rfl ?_
    refine ⟨k6.1, ?_⟩
    refine hC _ _ _ _ _ (bRn_e (fun r10 s8 q11 k9 => ?_)) k6.2
    show A (12, [.ref 6, .int (bn l1)], [.int (bn r10)], s8)
    refine bGo hA 0 12 (22, .ifCond .eq (5), 3, 13, 15, [], []) rfl rfl rfl ?_
    refine bB_eq0 (x := r10) q11 (fun c12 => ?_) (fun c12 => ?_)
    · refine bGo hA 0 15 (27, .iinc 1 (1), 3, 16, 0, [1], [(1, 0)]) rfl rfl rfl ?_
      refine bEqC (fun v => A (16, [.ref 6, .int v], [], s8)) ((congrArg (fun w => bn l1 + w) bl_1).trans (bn_add l1 1)) ?_
      refine bGo hA 1 0 (30, .goto (-28), 3, 17, 2, [], []) rfl rfl rfl ?_
      exact (k9.1 c12).2
    · refine bGo hA 0 13 (25, .iload_n 1, 1, 14, 0, [1], []) rfl rfl rfl ?_
      refine bGo hA 0 14 (26, .ireturn, 1, 15, 0, [1], []) rfl rfl rfl ?_
      exact (k9.2 c12)
  · refine bGo hA 1 1 (33, .iconst (-1), 1, 18, 0, [], [(-1, 0)]) rfl rfl rfl ?_
    refine bEqI bl_m1 ?_
    refine bGo hA 1 2 (34, .ireturn, 1, 0, 0, [1], []) rfl rfl rfl ?_
    exact (h.2 c1)


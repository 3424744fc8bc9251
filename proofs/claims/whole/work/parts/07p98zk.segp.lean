/-! segments of methods 68-88,96,238,240-249,256,263, by program (wip/whole/gen13.py): from a cut of a method on to the next cuts -/
theorem sq68_0 {lvl : Nat} {C : bCall} {Q : bPost} {A : bPt → Prop} (hC : bMono C) (hA : bClosed lvl bm68 C Q A)  {σ : bSt}  
  (h : A (2, [.ref 6, .int (bn 0), .float 0, .float 0], [], σ)) : A (0, [.ref 6, .float 0, .float 0, .float 0], [], σ) := by
  refine bGo hA 0 0 (0, .iconst (0), 1, 1, 0, [], [(0, 0)]) rfl rfl rfl ?_
  refine bEqI bl_0 ?_
  refine bGo hA 0 1 (1, .istore_n 1, 1, 2, 0, [1], []) rfl rfl rfl ?_
  exact h

theorem sq68_2 {lvl : Nat} {C : bCall} {Q : bPost} {A : bPt → Prop} (hC : bMono C) (hA : bClosed lvl bm68 C Q A) {l1 : Int} {v2 : Value} {v3 : Value} {σ : bSt}  (h_l1 : bRg l1)
  (h : ((l1 < (bi σ 9 0) → (C 120 [.ref 9, .int (bn l1)] σ (bRa (fun r4 s2 => (r4 % 256 = 8 ∧ (((bi s2 r4 3) = (-1) → (bRg (l1 + 1) ∧ A (2, [.ref 6, .int (bn (l1 + 1)), .ref r4, .int (bn (bi s2 r4 3))], [], (bw s2 r4 4 (-1))))) ∧ (¬ (bi s2 r4 3) = (-1) → (C 96 [.ref 7, .int (bn (bShr (bi s2 r4 3) 3)), .int (bn (bAnd (bi s2 r4 3) 7))] s2 (bRn (fun r8 s6 => (bRg (l1 + 1) ∧ A (2, [.ref 6, .int (bn (l1 + 1)), .ref r4, .int (bn (bi s2 r4 3))], [], (bw s6 r4 4 r8))))))))))))) ∧ (¬ l1 < (bi σ 9 0) → Q (.inl none) σ))) : A (2, [.ref 6, .int (bn l1), v2, v3], [], σ) := by
  refine bGo hA 0 2 (2, .iload_n 1, 1, 3, 0, [1], []) rfl rfl rfl ?_
  refine bGo hA 0 3 (3, .aload_n 0, 1, 4, 0, [0], []) rfl rfl rfl ?_
  refine bGo hA 0 4 (4, .getfield 53, 3, 5, 0, [6, 3, 3, 9, 0, 0], []) rfl rfl rfl ?_
  refine ⟨rfl, ?_⟩
  refine bGo hA 0 5 (7, .getfield 57, 3, 6, 0, [9, 0, 0, 0, 0, 0], []) rfl rfl rfl ?_
  refine ⟨rfl, ?_⟩
  refine bEqI (bn_bi σ 9 0) ?_
  refine bGo hA 0 6 (10, .if_icmp .ge (50), 3, 7, 33, [], []) rfl rfl rfl ?_
  refine bB_lt (x := l1) (y := (bi σ 9 0)) h_l1 (bi_rg _ _ _) (fun c1 => ?_) (fun c1 => ?_)
  · refine bGo hA 0 7 (13, .aload_n 0, 1, 8, 0, [0], []) rfl rfl rfl ?_
    refine bGo hA 0 8 (14, .getfield 53, 3, 9, 0, [6, 3, 3, 9, 0, 0], []) rfl rfl rfl ?_
    refine ⟨rfl, ?_⟩
    refine bGo hA 0 9 (17, .iload_n 1, 1, 10, 0, [1], []) rfl rfl rfl ?_
    refine bGo hA 0 10 (18, .invokevirtual 63, 3, 11, 0, [0, 9, 120, 1], []) rfl rfl rfl ?_
    refine ⟨rfl, ?_⟩
    refine hC _ _ _ _ _ (bRa_e (fun r4 s2 k3 => ?_)) (h.1 c1)
    show A (11, [.ref 6, .int (bn l1), v2, v3], [.ref r4], s2)
    refine bGo hA 0 11 (21, .astore_n 2, 1, 12, 0, [2], []) rfl rfl rfl ?_
    refine bGo hA 0 12 (22, .aload_n 2, 1, 13, 0, [2], []) rfl rfl rfl ?_
    refine bGo hA 0 13 (23, .getfield 67, 3, 14, 0, [8, 3, 0, 0, 0, 0], []) rfl rfl rfl ?_
    refine ⟨k3.1, ?_⟩
    refine bEqI (bn_bi s2 r4 3) ?_
    refine bGo hA 0 14 (26, .istore_n 3, 1, 15, 0, [3], []) rfl rfl rfl ?_
    refine bGo hA 0 15 (27, .aload_n 2, 1, 16, 0, [2], []) rfl rfl rfl ?_
    refine bGo hA 1 0 (28, .iload_n 3, 1, 17, 0, [3], []) rfl rfl rfl ?_
    refine bGo hA 1 1 (29, .iconst (-1), 1, 18, 0, [], [(-1, 0)]) rfl rfl rfl ?_
    refine bEqI bl_m1 ?_
    refine bGo hA 1 2 (30, .if_icmp .ne (7), 3, 19, 21, [], []) rfl rfl rfl ?_
    refine bB_eq (x := (bi s2 r4 3)) (y := (-1)) (bi_rg _ _ _) (by decide : bRg (-1)) (fun c5 => ?_) (fun c5 => ?_)
    · refine bGo hA 1 3 (33, .iconst (-1), 1, 20, 0, [], [(-1, 0)]) rfl rfl rfl ?_
      refine bEqI bl_m1 ?_
      refine bGo hA 1 4 (34, .goto (17), 3, 21, 30, [], []) rfl rfl rfl ?_
      refine bGo hA 1 14 (51, .putfield 78, 3, 31, 0, [8, 4, 0, 0, 0, 0], []) rfl rfl rfl ?_
      refine ⟨k3.1, ?_⟩
      refine bGo hA 1 15 (54, .iinc 1 (1), 3, 32, 0, [1], [(1, 0)]) rfl rfl rfl ?_
      refine bEqC (fun v => A (32, [.ref 6, .int v, .ref r4, .int (bn (bi s2 r4 3))], [], (bw s2 r4 4 (-1)))) ((congrArg (fun w => bn l1 + w) bl_1).trans (bn_add l1 1)) ?_
      refine bGo hA 2 0 (57, .goto (-55), 3, 33, 2, [], []) rfl rfl rfl ?_
      exact (k3.2.1 c5).2
    · refine bGo hA 1 5 (37, .aload_n 0, 1, 22, 0, [0], []) rfl rfl rfl ?_
      refine bGo hA 1 6 (38, .getfield 45, 3, 23, 0, [6, 1, 3, 7, 0, 0], []) rfl rfl rfl ?_
      refine ⟨rfl, ?_⟩
      refine bGo hA 1 7 (41, .iload_n 3, 1, 24, 0, [3], []) rfl rfl rfl ?_
      refine bGo hA 1 8 (42, .iconst (3), 1, 25, 0, [], [(3, 0)]) rfl rfl rfl ?_
      refine bEqI bl_3 ?_
      refine bGo hA 1 9 (43, .ishr, 1, 26, 0, [], []) rfl rfl rfl ?_
      refine bEqI (bn_shr (bi s2 r4 3) 3) ?_
      refine bGo hA 1 10 (44, .iload_n 3, 1, 27, 0, [3], []) rfl rfl rfl ?_
      refine bGo hA 1 11 (45, .bipush (7), 2, 28, 0, [], [(7, 0)]) rfl rfl rfl ?_
      refine bEqI bl_7 ?_
      refine bGo hA 1 12 (47, .iand, 1, 29, 0, [], []) rfl rfl rfl ?_
      refine bEqI (bn_and (bi s2 r4 3) 7) ?_
      refine bGo hA 1 13 (48, .invokevirtual 72, 3, 30, 0, [0, 7, 96, 2], []) rfl rfl rfl ?_
      refine ⟨rfl, ?_⟩
      refine hC _ _ _ _ _ (bRn_e (fun r8 s6 q9 k7 => ?_)) (k3.2.2 c5)
      show A (30, [.ref 6, .int (bn l1), .ref r4, .int (bn (bi s2 r4 3))], [.int (bn r8), .ref r4], s6)
      refine bGo hA 1 14 (51, .putfield 78, 3, 31, 0, [8, 4, 0, 0, 0, 0], []) rfl rfl rfl ?_
      refine ⟨k3.1, ?_⟩
      refine bGo hA 1 15 (54, .iinc 1 (1), 3, 32, 0, [1], [(1, 0)]) rfl rfl rfl ?_
      refine bEqC (fun v => A (32, [.ref 6, .int v, .ref r4, .int (bn (bi s2 r4 3))], [], (bw s6 r4 4 r8))) ((congrArg (fun w => bn l1 + w) bl_1).trans (bn_add l1 1)) ?_
      refine bGo hA 2 0 (57, .goto (-55), 3, 33, 2, [], []) rfl rfl rfl ?_
      exact k7.2
  · refine bGo hA 2 1 (60, .return_, 1, 0, 0, [0], []) rfl rfl rfl ?_
    exact (h.2 c1)

theorem sq69_0 {lvl : Nat} {C : bCall} {Q : bPost} {A : bPt → Prop} (hC : bMono C) (hA : bClosed lvl bm69 C Q A) {x1 : Int} {σ : bSt}  (h_x1 : bRg x1)
  (h : (bRg (x1 * 256) ∧ (bRg ((x1 * 256) + (bi σ 10 0)) ∧ Q (.inl (some (.int (bn ((x1 * 256) + (bi σ 10 0)))))) σ))) : A (0, [.ref 6, .int (bn x1)], [], σ) := by
  refine bGo hA 0 0 (0, .iload_n 1, 1, 1, 0, [1], []) rfl rfl rfl ?_
  refine bGo hA 0 1 (1, .sipush (256), 3, 2, 0, [], [(256, 0)]) rfl rfl rfl ?_
  refine bEqI bl_256 ?_
  refine bGo hA 0 2 (4, .imul, 1, 3, 0, [], []) rfl rfl rfl ?_
  refine bEqI (bn_mul x1 256) ?_
  refine bGo hA 0 3 (5, .aload_n 0, 1, 4, 0, [0], []) rfl rfl rfl ?_
  refine bGo hA 0 4 (6, .getfield 49, 3, 5, 0, [6, 2, 3, 10, 0, 0], []) rfl rfl rfl ?_
  refine ⟨rfl, ?_⟩
  refine bGo hA 0 5 (9, .getfield 81, 3, 6, 0, [10, 0, 0, 0, 0, 0], []) rfl rfl rfl ?_
  refine ⟨rfl, ?_⟩
  refine bEqI (bn_bi σ 10 0) ?_
  refine bGo hA 0 6 (12, .iadd, 1, 7, 0, [], []) rfl rfl rfl ?_
  refine bEqI (bn_add (x1 * 256) (bi σ 10 0)) ?_
  refine bGo hA 0 7 (13, .ireturn, 1, 0, 0, [1], []) rfl rfl rfl ?_
  exact h.2.2

theorem sq70_0 {lvl : Nat} {C : bCall} {Q : bPost} {A : bPt → Prop} (hC : bMono C) (hA : bClosed lvl bm70 C Q A)  {σ : bSt}  
  (h : (bRg ((bi σ 6 10) + 1) ∧ Q (.inl none) (bw (bw σ 6 10 ((bi σ 6 10) + 1)) 6 11 0))) : A (0, [.ref 6], [], σ) := by
  refine bGo hA 0 0 (0, .aload_n 0, 1, 1, 0, [0], []) rfl rfl rfl ?_
  refine bGo hA 0 1 (1, .dup, 1, 2, 0, [], []) rfl rfl rfl ?_
  refine bGo hA 0 2 (2, .getfield 86, 3, 3, 0, [6, 10, 0, 0, 0, 0], []) rfl rfl rfl ?_
  refine ⟨rfl, ?_⟩
  refine bEqI (bn_bi σ 6 10) ?_
  refine bGo hA 0 3 (5, .iconst (1), 1, 4, 0, [], [(1, 0)]) rfl rfl rfl ?_
  refine bEqI bl_1 ?_
  refine bGo hA 0 4 (6, .iadd, 1, 5, 0, [], []) rfl rfl rfl ?_
  refine bEqI (bn_add (bi σ 6 10) 1) ?_
  refine bGo hA 0 5 (7, .putfield 86, 3, 6, 0, [6, 10, 0, 0, 0, 0], []) rfl rfl rfl ?_
  refine ⟨rfl, ?_⟩
  refine bGo hA 0 6 (10, .aload_n 0, 1, 7, 0, [0], []) rfl rfl rfl ?_
  refine bGo hA 0 7 (11, .iconst (0), 1, 8, 0, [], [(0, 0)]) rfl rfl rfl ?_
  refine bEqI bl_0 ?_
  refine bGo hA 0 8 (12, .putfield 89, 3, 9, 0, [6, 11, 0, 0, 0, 0], []) rfl rfl rfl ?_
  refine ⟨rfl, ?_⟩
  refine bGo hA 0 9 (15, .return_, 1, 0, 0, [0], []) rfl rfl rfl ?_
  exact h.2

theorem sq71_0 {lvl : Nat} {C : bCall} {Q : bPost} {A : bPt → Prop} (hC : bMono C) (hA : bClosed lvl bm71 C Q A) {x1 : Int} {σ : bSt}  (h_x1 : bRg x1)
  (h : (C 72 [.ref 6, .int (bn x1)] (bw σ 6 12 0) (bRv (fun s1 => A (8, [.ref 6, .int (bn x1), .int (bn 0), .float 0, .float 0, .float 0], [], s1))))) : A (0, [.ref 6, .int (bn x1), .float 0, .float 0, .float 0, .float 0], [], σ) := by
  refine bGo hA 0 0 (0, .aload_n 0, 1, 1, 0, [0], []) rfl rfl rfl ?_
  refine bGo hA 0 1 (1, .iconst (0), 1, 2, 0, [], [(0, 0)]) rfl rfl rfl ?_
  refine bEqI bl_0 ?_
  refine bGo hA 0 2 (2, .putfield 92, 3, 3, 0, [6, 12, 0, 0, 0, 0], []) rfl rfl rfl ?_
  refine ⟨rfl, ?_⟩
  refine bGo hA 0 3 (5, .aload_n 0, 1, 4, 0, [0], []) rfl rfl rfl ?_
  refine bGo hA 0 4 (6, .iload_n 1, 1, 5, 0, [1], []) rfl rfl rfl ?_
  refine bGo hA 0 5 (7, .invokevirtual 95, 3, 6, 0, [0, 6, 72, 1], []) rfl rfl rfl ?_
  refine ⟨rfl, ?_⟩
  refine hC _ _ _ _ _ (bRv_e (fun s1 k2 => ?_)) h
  show A (6, [.ref 6, .int (bn x1), .float 0, .float 0, .float 0, .float 0], [], s1)
  refine bGo hA 0 6 (10, .iconst (0), 1, 7, 0, [], [(0, 0)]) rfl rfl rfl ?_
  refine bEqI bl_0 ?_
  refine bGo hA 0 7 (11, .istore_n 2, 1, 8, 0, [2], []) rfl rfl rfl ?_
  exact k2

theorem sq71_8 {lvl : Nat} {C : bCall} {Q : bPost} {A : bPt → Prop} (hC : bMono C) (hA : bClosed lvl bm71 C Q A) {v1 : Value} {l2 : Int} {v3 : Value} {v4 : Value} {v5 : Value} {σ : bSt}  (h_l2 : bRg l2)
  (h : ((l2 < 100000 → (((0 : Int) < (bi σ 6 12) → (bRg ((bi σ 6 12) - 1) ∧ (C 140 [.ref 31, .int (bn ((bi σ 6 12) - 1))] σ (bRn (fun r5 s3 => (bRg ((bi s3 6 12) - 1) ∧ (C 140 [.ref 32, .int (bn ((bi s3 6 12) - 1))] s3 (bRn (fun r9 s7 => (C 120 [.ref 9, .int (bn (bShr r5 8))] s7 (bRa (fun r13 s11 => (r13 % 256 = 8 ∧ ((r9 < (bi s11 r13 13) → (bRg ((bi s11 6 12) - 1) ∧ (bRg (r9 + 1) ∧ (C 141 [.ref 32, .int (bn ((bi s11 6 12) - 1)), .int (bn (r9 + 1))] s11 (bRv (fun s15 => (C 112 [.ref r13, .int (bn r9)] s15 (bRn (fun r19 s17 => (C 73 [.ref 6, .ref r13, .int (bn r5), .int (bn r19)] s17 (bRn (fun r23 s21 => (C 72 [.ref 6, .int (bn r23)] s21 (bRv (fun s25 => (bRg (l2 + 1) ∧ A (8, [.ref 6, (bUnl v1), .int (bn (l2 + 1)), .int (bn r5), .int (bn r9), .ref r13], [], s25))))))))))))))))) ∧ (¬ r9 < (bi s11 r13 13) → (C 74 [.ref 6, .ref r13, .int (bn r5)] s11 (bRn (fun r29 s27 => (C 141 [.ref 29, .int (bn r5), .int (bn r29)] s27 (bRv (fun s31 => (C 141 [.ref 28, .int (bn (bi s31 6 11)), .int (bn r5)] s31 (bRv (fun s33 => (bRg ((bi s33 6 11) + 1) ∧ (bRg ((bi s33 6 12) - 1) ∧ (bRg (l2 + 1) ∧ A (8, [.ref 6, (bUnl v1), .int (bn (l2 + 1)), .int (bn r5), .int (bn r9), .ref r13], [], (bw (bw s33 6 11 ((bi s33 6 11) + 1)) 6 12 ((bi s33 6 12) - 1)))))))))))))))))))))))))))))) ∧ (¬ (0 : Int) < (bi σ 6 12) → Q (.inl none) σ))) ∧ (¬ l2 < 100000 → Q (.inl none) σ))) : A (8, [.ref 6, v1, .int (bn l2), v3, v4, v5], [], σ) := by
  refine bGo hA 0 8 (12, .iload_n 2, 1, 9, 0, [2], []) rfl rfl rfl ?_
  refine bGo hA 0 9 (13, .ldc 99, 2, 10, 0, [99], [(100000, 0)]) rfl rfl rfl ?_
  refine bEqI bl_100000 ?_
  refine bGo hA 0 10 (15, .if_icmp .ge (153), 3, 11, 89, [], []) rfl rfl rfl ?_
  refine bB_lt (x := l2) (y := 100000) h_l2 (by decide : bRg 100000) (fun c1 => ?_) (fun c1 => ?_)
  · refine bGo hA 0 11 (18, .aload_n 0, 1, 12, 0, [0], []) rfl rfl rfl ?_
    refine bGo hA 0 12 (19, .getfield 92, 3, 13, 0, [6, 12, 0, 0, 0, 0], []) rfl rfl rfl ?_
    refine ⟨rfl, ?_⟩
    refine bEqI (bn_bi σ 6 12) ?_
    refine bGo hA 0 13 (22, .ifCond .le (146), 3, 14, 89, [], []) rfl rfl rfl ?_
    refine bB_gt0 (x := (bi σ 6 12)) (bi_rg _ _ _) (fun c2 => ?_) (fun c2 => ?_)
    · refine bGo hA 0 14 (25, .aload_n 0, 1, 15, 0, [0], []) rfl rfl rfl ?_
      refine bGo hA 0 15 (26, .getfield 24, 3, 16, 0, [6, 8, 3, 31, 1, 0], []) rfl rfl rfl ?_
      refine ⟨rfl, ?_⟩
      refine bGo hA 1 0 (29, .aload_n 0, 1, 17, 0, [0], []) rfl rfl rfl ?_
      refine bGo hA 1 1 (30, .getfield 92, 3, 18, 0, [6, 12, 0, 0, 0, 0], []) rfl rfl rfl ?_
      refine ⟨rfl, ?_⟩
      refine bEqI (bn_bi σ 6 12) ?_
      refine bGo hA 1 2 (33, .iconst (1), 1, 19, 0, [], [(1, 0)]) rfl rfl rfl ?_
      refine bEqI bl_1 ?_
      refine bGo hA 1 3 (34, .isub, 1, 20, 0, [], []) rfl rfl rfl ?_
      refine bEqI (bn_sub (bi σ 6 12) 1) ?_
      refine bGo hA 1 4 (35, .invokestatic 100, 3, 21, 1, [2, 140, 2], []) rfl rfl rfl ?_
      refine hC _ _ _ _ _ (bRn_e (fun r5 s3 q6 k4 => ?_)) ((h.1 c1).1 c2).2
      show A (21, [.ref 6, v1, .int (bn l2), v3, v4, v5], [.int (bn r5)], s3)
      refine bGo hA 1 5 (38, .istore_n 3, 1, 22, 0, [3], []) rfl rfl rfl ?_
      refine bGo hA 1 6 (39, .aload_n 0, 1, 23, 0, [0], []) rfl rfl rfl ?_
      refine bGo hA 1 7 (40, .getfield 27, 3, 24, 0, [6, 9, 3, 32, 1, 0], []) rfl rfl rfl ?_
      refine ⟨rfl, ?_⟩
      refine bGo hA 1 8 (43, .aload_n 0, 1, 25, 0, [0], []) rfl rfl rfl ?_
      refine bGo hA 1 9 (44, .getfield 92, 3, 26, 0, [6, 12, 0, 0, 0, 0], []) rfl rfl rfl ?_
      refine ⟨rfl, ?_⟩
      refine bEqI (bn_bi s3 6 12) ?_
      refine bGo hA 1 10 (47, .iconst (1), 1, 27, 0, [], [(1, 0)]) rfl rfl rfl ?_
      refine bEqI bl_1 ?_
      refine bGo hA 1 11 (48, .isub, 1, 28, 0, [], []) rfl rfl rfl ?_
      refine bEqI (bn_sub (bi s3 6 12) 1) ?_
      refine bGo hA 1 12 (49, .invokestatic 100, 3, 29, 1, [2, 140, 2], []) rfl rfl rfl ?_
      refine hC _ _ _ _ _ (bRn_e (fun r9 s7 q10 k8 => ?_)) k4.2
      show A (29, [.ref 6, v1, .int (bn l2), .int (bn r5), v4, v5], [.int (bn r9)], s7)
      refine bGo hA 1 13 (52, .istore 4, 2, 30, 0, [4], []) rfl rfl rfl ?_
      refine bGo hA 1 14 (54, .aload_n 0, 1, 31, 0, [0], []) rfl rfl rfl ?_
      refine bGo hA 1 15 (55, .getfield 53, 3, 32, 0, [6, 3, 3, 9, 0, 0], []) rfl rfl rfl ?_
      refine ⟨rfl, ?_⟩
      refine bGo hA 2 0 (58, .iload_n 3, 1, 33, 0, [3], []) rfl rfl rfl ?_
      refine bGo hA 2 1 (59, .bipush (8), 2, 34, 0, [], [(8, 0)]) rfl rfl rfl ?_
      refine bEqI bl_8 ?_
      refine bGo hA 2 2 (61, .ishr, 1, 35, 0, [], []) rfl rfl rfl ?_
      refine bEqI (bn_shr r5 8) ?_
      refine bGo hA 2 3 (62, .invokevirtual 63, 3, 36, 0, [0, 9, 120, 1], []) rfl rfl rfl ?_
      refine ⟨rfl, ?_⟩
      refine hC _ _ _ _ _ (bRa_e (fun r13 s11 k12 => ?_)) k8
      show A (36, [.ref 6, v1, .int (bn l2), .int (bn r5), .int (bn r9), v5], [.ref r13], s11)
      refine bGo hA 2 4 (65, .astore 5, 2, 37, 0, [5], []) rfl rfl rfl ?_
      refine bGo hA 2 5 (67, .iload 4, 2, 38, 0, [4], []) rfl rfl rfl ?_
      refine bGo hA 2 6 (69, .aload 5, 2, 39, 0, [5], []) rfl rfl rfl ?_
      refine bGo hA 2 7 (71, .getfield 104, 3, 40, 0, [8, 13, 0, 0, 0, 0], []) rfl rfl rfl ?_
      refine ⟨k12.1, ?_⟩
      refine bEqI (bn_bi s11 r13 13) ?_
      refine bGo hA 2 8 (74, .if_icmp .ge (41), 3, 41, 61, [], []) rfl rfl rfl ?_
      refine bB_lt (x := r9) (y := (bi s11 r13 13)) q10 (bi_rg _ _ _) (fun c14 => ?_) (fun c14 => ?_)
      · refine bGo hA 2 9 (77, .aload_n 0, 1, 42, 0, [0], []) rfl rfl rfl ?_
        refine bGo hA 2 10 (78, .getfield 27, 3, 43, 0, [6, 9, 3, 32, 1, 0], []) rfl rfl rfl ?_
        refine ⟨rfl, ?_⟩
        refine bGo hA 2 11 (81, .aload_n 0, 1, 44, 0, [0], []) rfl rfl rfl ?_
        refine bGo hA 2 12 (82, .getfield 92, 3, 45, 0, [6, 12, 0, 0, 0, 0], []) rfl rfl rfl ?_
        refine ⟨rfl, ?_⟩
        refine bEqI (bn_bi s11 6 12) ?_
        refine bGo hA 2 13 (85, .iconst (1), 1, 46, 0, [], [(1, 0)]) rfl rfl rfl ?_
        refine bEqI bl_1 ?_
        refine bGo hA 2 14 (86, .isub, 1, 47, 0, [], []) rfl rfl rfl ?_
        refine bEqI (bn_sub (bi s11 6 12) 1) ?_
        refine bGo hA 2 15 (87, .iload 4, 2, 48, 0, [4], []) rfl rfl rfl ?_
        refine bGo hA 3 0 (89, .iconst (1), 1, 49, 0, [], [(1, 0)]) rfl rfl rfl ?_
        refine bEqI bl_1 ?_
        refine bGo hA 3 1 (90, .iadd, 1, 50, 0, [], []) rfl rfl rfl ?_
        refine bEqI (bn_add r9 1) ?_
        refine bGo hA 3 2 (91, .invokestatic 107, 3, 51, 1, [2, 141, 3], []) rfl rfl rfl ?_
        refine hC _ _ _ _ _ (bRv_e (fun s15 k16 => ?_)) (k12.2.1 c14).2.2
        show A (51, [.ref 6, v1, .int (bn l2), .int (bn r5), .int (bn r9), .ref r13], [], s15)
        refine bGo hA 3 3 (94, .aload_n 0, 1, 52, 0, [0], []) rfl rfl rfl ?_
        refine bGo hA 3 4 (95, .aload_n 0, 1, 53, 0, [0], []) rfl rfl rfl ?_
        refine bGo hA 3 5 (96, .aload 5, 2, 54, 0, [5], []) rfl rfl rfl ?_
        refine bGo hA 3 6 (98, .iload_n 3, 1, 55, 0, [3], []) rfl rfl rfl ?_
        refine bGo hA 3 7 (99, .aload 5, 2, 56, 0, [5], []) rfl rfl rfl ?_
        refine bGo hA 3 8 (101, .iload 4, 2, 57, 0, [4], []) rfl rfl rfl ?_
        refine bGo hA 3 9 (103, .invokevirtual 111, 3, 58, 0, [0, 8, 112, 1], []) rfl rfl rfl ?_
        refine ⟨k12.1, ?_⟩
        refine hC _ _ _ _ _ (bRn_e (fun r19 s17 q20 k18 => ?_)) k16
        show A (58, [.ref 6, v1, .int (bn l2), .int (bn r5), .int (bn r9), .ref r13], [.int (bn r19), .int (bn r5), .ref r13, .ref 6, .ref 6], s17)
        refine bGo hA 3 10 (106, .invokevirtual 115, 3, 59, 0, [0, 6, 73, 3], []) rfl rfl rfl ?_
        refine ⟨rfl, ?_⟩
        refine hC _ _ _ _ _ (bRn_e (fun r23 s21 q24 k22 => ?_)) k18
        show A (59, [.ref 6, v1, .int (bn l2), .int (bn r5), .int (bn r9), .ref r13], [.int (bn r23), .ref 6], s21)
        refine bGo hA 3 11 (109, .invokevirtual 95, 3, 60, 0, [0, 6, 72, 1], []) rfl rfl rfl ?_
        refine ⟨rfl, ?_⟩
        refine hC _ _ _ _ _ (bRv_e (fun s25 k26 => ?_)) k22
        show A (60, [.ref 6, v1, .int (bn l2), .int (bn r5), .int (bn r9), .ref r13], [], s25)
        refine bGo hA 3 12 (112, .goto (50), 3, 61, 87, [], []) rfl rfl rfl ?_
        refine bGo hA 5 7 (162, .iinc 2 (1), 3, 88, 0, [2], [(1, 0)]) rfl rfl rfl ?_
        refine bEqC (fun v => A (88, [.ref 6, (bUnl v1), .int v, .int (bn r5), .int (bn r9), .ref r13], [], s25)) ((congrArg (fun w => bn l2 + w) bl_1).trans (bn_add l2 1)) ?_
        refine bGo hA 5 8 (165, .goto (-153), 3, 89, 8, [], []) rfl rfl rfl ?_
        exact k26.2
      · refine bGo hA 3 13 (115, .aload_n 0, 1, 62, 0, [0], []) rfl rfl rfl ?_
        refine bGo hA 3 14 (116, .getfield 18, 3, 63, 0, [6, 6, 3, 29, 1, 0], []) rfl rfl rfl ?_
        refine ⟨rfl, ?_⟩
        refine bGo hA 3 15 (119, .iload_n 3, 1, 64, 0, [3], []) rfl rfl rfl ?_
        refine bGo hA 4 0 (120, .aload_n 0, 1, 65, 0, [0], []) rfl rfl rfl ?_
        refine bGo hA 4 1 (121, .aload 5, 2, 66, 0, [5], []) rfl rfl rfl ?_
        refine bGo hA 4 2 (123, .iload_n 3, 1, 67, 0, [3], []) rfl rfl rfl ?_
        refine bGo hA 4 3 (124, .invokevirtual 119, 3, 68, 0, [0, 6, 74, 2], []) rfl rfl rfl ?_
        refine ⟨rfl, ?_⟩
        refine hC _ _ _ _ _ (bRn_e (fun r29 s27 q30 k28 => ?_)) (k12.2.2 c14)
        show A (68, [.ref 6, v1, .int (bn l2), .int (bn r5), .int (bn r9), .ref r13], [.int (bn r29), .int (bn r5), .ref 29], s27)
        refine bGo hA 4 4 (127, .invokestatic 107, 3, 69, 1, [2, 141, 3], []) rfl rfl rfl ?_
        refine hC _ _ _ _ _ (bRv_e (fun s31 k32 => ?_)) k28
        show A (69, [.ref 6, v1, .int (bn l2), .int (bn r5), .int (bn r9), .ref r13], [], s31)
        refine bGo hA 4 5 (130, .aload_n 0, 1, 70, 0, [0], []) rfl rfl rfl ?_
        refine bGo hA 4 6 (131, .getfield 15, 3, 71, 0, [6, 5, 3, 28, 1, 0], []) rfl rfl rfl ?_
        refine ⟨rfl, ?_⟩
        refine bGo hA 4 7 (134, .aload_n 0, 1, 72, 0, [0], []) rfl rfl rfl ?_
        refine bGo hA 4 8 (135, .getfield 89, 3, 73, 0, [6, 11, 0, 0, 0, 0], []) rfl rfl rfl ?_
        refine ⟨rfl, ?_⟩
        refine bEqI (bn_bi s31 6 11) ?_
        refine bGo hA 4 9 (138, .iload_n 3, 1, 74, 0, [3], []) rfl rfl rfl ?_
        refine bGo hA 4 10 (139, .invokestatic 107, 3, 75, 1, [2, 141, 3], []) rfl rfl rfl ?_
        refine hC _ _ _ _ _ (bRv_e (fun s33 k34 => ?_)) k32
        show A (75, [.ref 6, v1, .int (bn l2), .int (bn r5), .int (bn r9), .ref r13], [], s33)
        refine bGo hA 4 11 (142, .aload_n 0, 1, 76, 0, [0], []) rfl rfl rfl ?_
        refine bGo hA 4 12 (143, .dup, 1, 77, 0, [], []) rfl rfl rfl ?_
        refine bGo hA 4 13 (144, .getfield 89, 3, 78, 0, [6, 11, 0, 0, 0, 0], []) rfl rfl rfl ?_
        refine ⟨rfl, ?_⟩
        refine bEqI (bn_bi s33 6 11) ?_
        refine bGo hA 4 14 (147, .iconst (1), 1, 79, 0, [], [(1, 0)]) rfl rfl rfl ?_
        refine bEqI bl_1 ?_
        refine bGo hA 4 15 (148, .iadd, 1, 80, 0, [], []) rfl rfl rfl ?_
        refine bEqI (bn_add (bi s33 6 11) 1) ?_
        refine bGo hA 5 0 (149, .putfield 89, 3, 81, 0, [6, 11, 0, 0, 0, 0], []) rfl rfl rfl ?_
        refine ⟨rfl, ?_⟩
        refine bGo hA 5 1 (152, .aload_n 0, 1, 82, 0, [0], []) rfl rfl rfl ?_
        refine bGo hA 5 2 (153, .dup, 1, 83, 0, [], []) rfl rfl rfl ?_
        refine bGo hA 5 3 (154, .getfield 92, 3, 84, 0, [6, 12, 0, 0, 0, 0], []) rfl rfl rfl ?_
        refine ⟨rfl, ?_⟩
        refine bEqI ((bn_bi (bw s33 6 11 ((bi s33 6 11) + 1)) 6 12).trans (congrArg bn (bi_nj (by decide) (by decide) (by decide)))) ?_
        refine bGo hA 5 4 (157, .iconst (1), 1, 85, 0, [], [(1, 0)]) rfl rfl rfl ?_
        refine bEqI bl_1 ?_
        refine bGo hA 5 5 (158, .isub, 1, 86, 0, [], []) rfl rfl rfl ?_
        refine bEqI (bn_sub (bi s33 6 12) 1) ?_
        refine bGo hA 5 6 (159, .putfield 92, 3, 87, 0, [6, 12, 0, 0, 0, 0], []) rfl rfl rfl ?_
        refine ⟨rfl, ?_⟩
        refine bGo hA 5 7 (162, .iinc 2 (1), 3, 88, 0, [2], [(1, 0)]) rfl rfl rfl ?_
        refine bEqC (fun v => A (88, [.ref 6, (bUnl v1), .int v, .int (bn r5), .int (bn r9), .ref r13], [], (bw (bw s33 6 11 ((bi s33 6 11) + 1)) 6 12 ((bi s33 6 12) - 1)))) ((congrArg (fun w => bn l2 + w) bl_1).trans (bn_add l2 1)) ?_
        refine bGo hA 5 8 (165, .goto (-153), 3, 89, 8, [], []) rfl rfl rfl ?_
        exact k34.2.2.2
    · refine bGo hA 5 9 (168, .return_, 1, 0, 0, [0], []) rfl rfl rfl ?_
      exact ((h.1 c1).2 c2)
  · refine bGo hA 5 9 (168, .return_, 1, 0, 0, [0], []) rfl rfl rfl ?_
    exact (h.2 c1)

theorem sq72_0 {lvl : Nat} {C : bCall} {Q : bPost} {A : bPt → Prop} (hC : bMono C) (hA : bClosed lvl bm72 C Q A) {x1 : Int} {σ : bSt}  (h_x1 : bRg x1)
  (h : ((x1 = (-1) → Q (.inl none) σ) ∧ (¬ x1 = (-1) → (C 140 [.ref 27, .int (bn x1)] σ (bRn (fun r4 s2 => ((r4 = (bi s2 6 10) → Q (.inl none) s2) ∧ (¬ r4 = (bi s2 6 10) → (C 141 [.ref 27, .int (bn x1), .int (bn (bi s2 6 10))] s2 (bRv (fun s7 => (C 141 [.ref 31, .int (bn (bi s7 6 12)), .int (bn x1)] s7 (bRv (fun s9 => (C 141 [.ref 32, .int (bn (bi s9 6 12)), .int (bn 0)] s9 (bRv (fun s11 => (bRg ((bi s11 6 12) + 1) ∧ Q (.inl none) (bw s11 6 12 ((bi s11 6 12) + 1)))))))))))))))))))) : A (0, [.ref 6, .int (bn x1)], [], σ) := by
  refine bGo hA 0 0 (0, .iload_n 1, 1, 1, 0, [1], []) rfl rfl rfl ?_
  refine bGo hA 0 1 (1, .iconst (-1), 1, 2, 0, [], [(-1, 0)]) rfl rfl rfl ?_
  refine bEqI bl_m1 ?_
  refine bGo hA 0 2 (2, .if_icmp .eq (64), 3, 3, 34, [], []) rfl rfl rfl ?_
  refine bB_eq (x := x1) (y := (-1)) h_x1 (by decide : bRg (-1)) (fun c1 => ?_) (fun c1 => ?_)
  · refine bGo hA 2 2 (66, .return_, 1, 0, 0, [0], []) rfl rfl rfl ?_
    exact (h.1 c1)
  · refine bGo hA 0 3 (5, .aload_n 0, 1, 4, 0, [0], []) rfl rfl rfl ?_
    refine bGo hA 0 4 (6, .getfield 9, 3, 5, 0, [6, 4, 3, 27, 1, 0], []) rfl rfl rfl ?_
    refine ⟨rfl, ?_⟩
    refine bGo hA 0 5 (9, .iload_n 1, 1, 6, 0, [1], []) rfl rfl rfl ?_
    refine bGo hA 0 6 (10, .invokestatic 100, 3, 7, 1, [2, 140, 2], []) rfl rfl rfl ?_
    refine hC _ _ _ _ _ (bRn_e (fun r4 s2 q5 k3 => ?_)) (h.2 c1)
    show A (7, [.ref 6, .int (bn x1)], [.int (bn r4)], s2)
    refine bGo hA 0 7 (13, .aload_n 0, 1, 8, 0, [0], []) rfl rfl rfl ?_
    refine bGo hA 0 8 (14, .getfield 86, 3, 9, 0, [6, 10, 0, 0, 0, 0], []) rfl rfl rfl ?_
    refine ⟨rfl, ?_⟩
    refine bEqI (bn_bi s2 6 10) ?_
    refine bGo hA 0 9 (17, .if_icmp .eq (49), 3, 10, 34, [], []) rfl rfl rfl ?_
    refine bB_eq (x := r4) (y := (bi s2 6 10)) q5 (bi_rg _ _ _) (fun c6 => ?_) (fun c6 => ?_)
    · refine bGo hA 2 2 (66, .return_, 1, 0, 0, [0], []) rfl rfl rfl ?_
      exact (k3.1 c6)
    · refine bGo hA 0 10 (20, .aload_n 0, 1, 11, 0, [0], []) rfl rfl rfl ?_
      refine bGo hA 0 11 (21, .getfield 9, 3, 12, 0, [6, 4, 3, 27, 1, 0], []) rfl rfl rfl ?_
      refine ⟨rfl, ?_⟩
      refine bGo hA 0 12 (24, .iload_n 1, 1, 13, 0, [1], []) rfl rfl rfl ?_
      refine bGo hA 0 13 (25, .aload_n 0, 1, 14, 0, [0], []) rfl rfl rfl ?_
      refine bGo hA 0 14 (26, .getfield 86, 3, 15, 0, [6, 10, 0, 0, 0, 0], []) rfl rfl rfl ?_
      refine ⟨rfl, ?_⟩
      refine bEqI (bn_bi s2 6 10) ?_
      refine bGo hA 0 15 (29, .invokestatic 107, 3, 16, 1, [2, 141, 3], []) rfl rfl rfl ?_
      refine hC _ _ _ _ _ (bRv_e (fun s7 k8 => ?_)) (k3.2 c6)
      show A (16, [.ref 6, .int (bn x1)], [], s7)
      refine bGo hA 1 0 (32, .aload_n 0, 1, 17, 0, [0], []) rfl rfl rfl ?_
      refine bGo hA 1 1 (33, .getfield 24, 3, 18, 0, [6, 8, 3, 31, 1, 0], []) rfl rfl rfl ?_
      refine ⟨rfl, ?_⟩
      refine bGo hA 1 2 (36, .aload_n 0, 1, 19, 0, [0], []) rfl rfl rfl ?_
      refine bGo hA 1 3 (37, .getfield 92, 3, 20, 0, [6, 12, 0, 0, 0, 0], []) rfl rfl rfl ?_
      refine ⟨rfl, ?_⟩
      refine bEqI (bn_bi s7 6 12) ?_
      refine bGo hA 1 4 (40, .iload_n 1, 1, 21, 0, [1], []) rfl rfl rfl ?_
      refine bGo hA 1 5 (41, .invokestatic 107, 3, 22, 1, [2, 141, 3], []) rfl rfl rfl ?_
      refine hC _ _ _ _ _ (bRv_e (fun s9 k10 => ?_)) k8
      show A (22, [.ref 6, .int (bn x1)], [], s9)
      refine bGo hA 1 6 (44, .aload_n 0, 1, 23, 0, [0], []) rfl rfl rfl ?_
      refine bGo hA 1 7 (45, .getfield 27, 3, 24, 0, [6, 9, 3, 32, 1, 0], []) rfl rfl rfl ?_
      refine ⟨rfl, ?_⟩
      refine bGo hA 1 8 (48, .aload_n 0, 1, 25, 0, [0], []) rfl rfl rfl ?_
      refine bGo hA 1 9 (49, .getfield 92, 3, 26, 0, [6, 12, 0, 0, 0, 0], []) rfl rfl rfl ?_
      refine ⟨rfl, ?_⟩
      refine bEqI (bn_bi s9 6 12) ?_
      refine bGo hA 1 10 (52, .iconst (0), 1, 27, 0, [], [(0, 0)]) rfl rfl rfl ?_
      refine bEqI bl_0 ?_
      refine bGo hA 1 11 (53, .invokestatic 107, 3, 28, 1, [2, 141, 3], []) rfl rfl rfl ?_
      refine hC _ _ _ _ _ (bRv_e (fun s11 k12 => ?_)) k10
      show A (28, [.ref 6, .int (bn x1)], [], s11)
      refine bGo hA 1 12 (56, .aload_n 0, 1, 29, 0, [0], []) rfl rfl rfl ?_
      refine bGo hA 1 13 (57, .dup, 1, 30, 0, [], []) rfl rfl rfl ?_
      refine bGo hA 1 14 (58, .getfield 92, 3, 31, 0, [6, 12, 0, 0, 0, 0], []) rfl rfl rfl ?_
      refine ⟨rfl, ?_⟩
      refine bEqI (bn_bi s11 6 12) ?_
      refine bGo hA 1 15 (61, .iconst (1), 1, 32, 0, [], [(1, 0)]) rfl rfl rfl ?_
      refine bEqI bl_1 ?_
      refine bGo hA 2 0 (62, .iadd, 1, 33, 0, [], []) rfl rfl rfl ?_
      refine bEqI (bn_add (bi s11 6 12) 1) ?_
      refine bGo hA 2 1 (63, .putfield 92, 3, 34, 0, [6, 12, 0, 0, 0, 0], []) rfl rfl rfl ?_
      refine ⟨rfl, ?_⟩
      refine bGo hA 2 2 (66, .return_, 1, 0, 0, [0], []) rfl rfl rfl ?_
      exact k12.2

theorem sq73_0 {lvl : Nat} {C : bCall} {Q : bPost} {A : bPt → Prop} (hC : bMono C) (hA : bClosed lvl bm73 C Q A) {a1 : Nat} {x2 : Int} {x3 : Int} {σ : bSt} (h_a1 : a1 % 256 = 8) (h_x2 : bRg x2) (h_x3 : bRg x3)
  (h : (bRg (x3 - 100) ∧ (((x3 - 100) < 0 → Q (.inl (some (.int (bn (-1))))) σ) ∧ (¬ (x3 - 100) < 0 → (((x3 - 100) < 16 → (bRg ((x3 - 100) * 256) ∧ (C 117 [.ref a1, .int (bn (bAnd x2 255))] σ (bRn (fun r5 s3 => (bRg (((x3 - 100) * 256) + r5) ∧ Q (.inl (some (.int (bn (((x3 - 100) * 256) + r5))))) s3)))))) ∧ (¬ (x3 - 100) < 16 → Q (.inl (some (.int (bn (-1))))) σ)))))) : A (0, [.ref 6, .ref a1, .int (bn x2), .int (bn x3), .float 0], [], σ) := by
  refine bGo hA 0 0 (0, .iload_n 3, 1, 1, 0, [3], []) rfl rfl rfl ?_
  refine bGo hA 0 1 (1, .bipush (100), 2, 2, 0, [], [(100, 0)]) rfl rfl rfl ?_
  refine bEqI bl_100 ?_
  refine bGo hA 0 2 (3, .isub, 1, 3, 0, [], []) rfl rfl rfl ?_
  refine bEqI (bn_sub x3 100) ?_
  refine bGo hA 0 3 (4, .istore 4, 2, 4, 0, [4], []) rfl rfl rfl ?_
  refine bGo hA 0 4 (6, .iload 4, 2, 5, 0, [4], []) rfl rfl rfl ?_
  refine bGo hA 0 5 (8, .ifCond .lt (29), 3, 6, 19, [], []) rfl rfl rfl ?_
  refine bB_lt0 (x := (x3 - 100)) h.1 (fun c1 => ?_) (fun c1 => ?_)
  · refine bGo hA 1 3 (37, .iconst (-1), 1, 20, 0, [], [(-1, 0)]) rfl rfl rfl ?_
    refine bEqI bl_m1 ?_
    refine bGo hA 1 4 (38, .ireturn, 1, 0, 0, [1], []) rfl rfl rfl ?_
    exact (h.2.1 c1)
  · refine bGo hA 0 6 (11, .iload 4, 2, 7, 0, [4], []) rfl rfl rfl ?_
    refine bGo hA 0 7 (13, .bipush (16), 2, 8, 0, [], [(16, 0)]) rfl rfl rfl ?_
    refine bEqI bl_16 ?_
    refine bGo hA 0 8 (15, .if_icmp .ge (22), 3, 9, 19, [], []) rfl rfl rfl ?_
    refine bB_lt (x := (x3 - 100)) (y := 16) h.1 (by decide : bRg 16) (fun c2 => ?_) (fun c2 => ?_)
    · refine bGo hA 0 9 (18, .iload 4, 2, 10, 0, [4], []) rfl rfl rfl ?_
      refine bGo hA 0 10 (20, .sipush (256), 3, 11, 0, [], [(256, 0)]) rfl rfl rfl ?_
      refine bEqI bl_256 ?_
      refine bGo hA 0 11 (23, .imul, 1, 12, 0, [], []) rfl rfl rfl ?_
      refine bEqI (bn_mul (x3 - 100) 256) ?_
      refine bGo hA 0 12 (24, .aload_n 1, 1, 13, 0, [1], []) rfl rfl rfl ?_
      refine bGo hA 0 13 (25, .iload_n 2, 1, 14, 0, [2], []) rfl rfl rfl ?_
      refine bGo hA 0 14 (26, .sipush (255), 3, 15, 0, [], [(255, 0)]) rfl rfl rfl ?_
      refine bEqI bl_255 ?_
      refine bGo hA 0 15 (29, .iand, 1, 16, 0, [], []) rfl rfl rfl ?_
      refine bEqI (bn_and x2 255) ?_
      refine bGo hA 1 0 (30, .invokevirtual 123, 3, 17, 0, [0, 8, 117, 1], []) rfl rfl rfl ?_
      refine ⟨h_a1, ?_⟩
      refine hC _ _ _ _ _ (bRn_e (fun r5 s3 q6 k4 => ?_)) ((h.2.2 c1).1 c2).2
      show A (17, [.ref 6, .ref a1, .int (bn x2), .int (bn x3), .int (bn (x3 - 100))], [.int (bn r5), .int (bn ((x3 - 100) * 256))], s3)
      refine bGo hA 1 1 (33, .iadd, 1, 18, 0, [], []) rfl rfl rfl ?_
      refine bEqI (bn_add ((x3 - 100) * 256) r5) ?_
      refine bGo hA 1 2 (34, .goto (4), 3, 19, 20, [], []) rfl rfl rfl ?_
      refine bGo hA 1 4 (38, .ireturn, 1, 0, 0, [1], []) rfl rfl rfl ?_
      exact k4.2
    · refine bGo hA 1 3 (37, .iconst (-1), 1, 20, 0, [], [(-1, 0)]) rfl rfl rfl ?_
      refine bEqI bl_m1 ?_
      refine bGo hA 1 4 (38, .ireturn, 1, 0, 0, [1], []) rfl rfl rfl ?_
      exact ((h.2.2 c1).2 c2)

theorem sq74_0 {lvl : Nat} {C : bCall} {Q : bPost} {A : bPt → Prop} (hC : bMono C) (hA : bClosed lvl bm74 C Q A) {a1 : Nat} {x2 : Int} {σ : bSt} (h_a1 : a1 % 256 = 8) (h_x2 : bRg x2)
  (h : (C 33 [.ref 3, .int (bn (bi σ a1 0))] σ (bRn (fun r3 s1 => ((r3 = 0 → Q (.inl (some (.int (bn 1)))) s1) ∧ (¬ r3 = 0 → (C 116 [.ref a1, .int (bn (bAnd x2 255))] s1 (bRn (fun r8 s6 => ((r8 = (-1) → Q (.inl (some (.int (bn 2)))) s6) ∧ (¬ r8 = (-1) → (C 75 [.ref 6, .ref a1, .int (bn x2)] s6 (bRn (fun r13 s11 => ((r13 = (-1) → Q (.inl (some (.int (bn 3)))) s11) ∧ (¬ r13 = (-1) → A (29, [.ref 6, .ref a1, .int (bn x2), .int (bn 0), .int (bn 0), .float 0, .float 0], [], s11))))))))))))))))) : A (0, [.ref 6, .ref a1, .int (bn x2), .float 0, .float 0, .float 0, .float 0], [], σ) := by
  refine bGo hA 0 0 (0, .aload_n 0, 1, 1, 0, [0], []) rfl rfl rfl ?_
  refine bGo hA 0 1 (1, .getfield 41, 3, 2, 0, [6, 0, 3, 3, 0, 0], []) rfl rfl rfl ?_
  refine ⟨rfl, ?_⟩
  refine bGo hA 0 2 (4, .aload_n 1, 1, 3, 0, [1], []) rfl rfl rfl ?_
  refine bGo hA 0 3 (5, .getfield 126, 3, 4, 0, [8, 0, 0, 0, 0, 0], []) rfl rfl rfl ?_
  refine ⟨h_a1, ?_⟩
  refine bEqI (bn_bi σ a1 0) ?_
  refine bGo hA 0 4 (8, .invokevirtual 129, 3, 5, 0, [0, 3, 33, 1], []) rfl rfl rfl ?_
  refine ⟨rfl, ?_⟩
  refine hC _ _ _ _ _ (bRn_e (fun r3 s1 q4 k2 => ?_)) h
  show A (5, [.ref 6, .ref a1, .int (bn x2), .float 0, .float 0, .float 0, .float 0], [.int (bn r3)], s1)
  refine bGo hA 0 5 (11, .ifCond .ne (5), 3, 6, 8, [], []) rfl rfl rfl ?_
  refine bB_eq0 (x := r3) q4 (fun c5 => ?_) (fun c5 => ?_)
  · refine bGo hA 0 6 (14, .iconst (1), 1, 7, 0, [], [(1, 0)]) rfl rfl rfl ?_
    refine bEqI bl_1 ?_
    refine bGo hA 0 7 (15, .ireturn, 1, 8, 0, [1], []) rfl rfl rfl ?_
    exact (k2.1 c5)
  · refine bGo hA 0 8 (16, .aload_n 1, 1, 9, 0, [1], []) rfl rfl rfl ?_
    refine bGo hA 0 9 (17, .iload_n 2, 1, 10, 0, [2], []) rfl rfl rfl ?_
    refine bGo hA 0 10 (18, .sipush (255), 3, 11, 0, [], [(255, 0)]) rfl rfl rfl ?_
    refine bEqI bl_255 ?_
    refine bGo hA 0 11 (21, .iand, 1, 12, 0, [], []) rfl rfl rfl ?_
    refine bEqI (bn_and x2 255) ?_
    refine bGo hA 0 12 (22, .invokevirtual 135, 3, 13, 0, [0, 8, 116, 1], []) rfl rfl rfl ?_
    refine ⟨h_a1, ?_⟩
    refine hC _ _ _ _ _ (bRn_e (fun r8 s6 q9 k7 => ?_)) (k2.2 c5)
    show A (13, [.ref 6, .ref a1, .int (bn x2), .float 0, .float 0, .float 0, .float 0], [.int (bn r8)], s6)
    refine bGo hA 0 13 (25, .iconst (-1), 1, 14, 0, [], [(-1, 0)]) rfl rfl rfl ?_
    refine bEqI bl_m1 ?_
    refine bGo hA 0 14 (26, .if_icmp .ne (5), 3, 15, 17, [], []) rfl rfl rfl ?_
    refine bB_eq (x := r8) (y := (-1)) q9 (by decide : bRg (-1)) (fun c10 => ?_) (fun c10 => ?_)
    · refine bGo hA 0 15 (29, .iconst (2), 1, 16, 0, [], [(2, 0)]) rfl rfl rfl ?_
      refine bEqI bl_2 ?_
      refine bGo hA 1 0 (30, .ireturn, 1, 17, 0, [1], []) rfl rfl rfl ?_
      exact (k7.1 c10)
    · refine bGo hA 1 1 (31, .aload_n 0, 1, 18, 0, [0], []) rfl rfl rfl ?_
      refine bGo hA 1 2 (32, .aload_n 1, 1, 19, 0, [1], []) rfl rfl rfl ?_
      refine bGo hA 1 3 (33, .iload_n 2, 1, 20, 0, [2], []) rfl rfl rfl ?_
      refine bGo hA 1 4 (34, .invokevirtual 138, 3, 21, 0, [0, 6, 75, 2], []) rfl rfl rfl ?_
      refine ⟨rfl, ?_⟩
      refine hC _ _ _ _ _ (bRn_e (fun r13 s11 q14 k12 => ?_)) (k7.2 c10)
      show A (21, [.ref 6, .ref a1, .int (bn x2), .float 0, .float 0, .float 0, .float 0], [.int (bn r13)], s11)
      refine bGo hA 1 5 (37, .iconst (-1), 1, 22, 0, [], [(-1, 0)]) rfl rfl rfl ?_
      refine bEqI bl_m1 ?_
      refine bGo hA 1 6 (38, .if_icmp .ne (5), 3, 23, 25, [], []) rfl rfl rfl ?_
      refine bB_eq (x := r13) (y := (-1)) q14 (by decide : bRg (-1)) (fun c15 => ?_) (fun c15 => ?_)
      · refine bGo hA 1 7 (41, .iconst (3), 1, 24, 0, [], [(3, 0)]) rfl rfl rfl ?_
        refine bEqI bl_3 ?_
        refine bGo hA 1 8 (42, .ireturn, 1, 25, 0, [1], []) rfl rfl rfl ?_
        exact (k12.1 c15)
      · refine bGo hA 1 9 (43, .iconst (0), 1, 26, 0, [], [(0, 0)]) rfl rfl rfl ?_
        refine bEqI bl_0 ?_
        refine bGo hA 1 10 (44, .istore_n 3, 1, 27, 0, [3], []) rfl rfl rfl ?_
        refine bGo hA 1 11 (45, .iconst (0), 1, 28, 0, [], [(0, 0)]) rfl rfl rfl ?_
        refine bEqI bl_0 ?_
        refine bGo hA 1 12 (46, .istore 4, 2, 29, 0, [4], []) rfl rfl rfl ?_
        exact (k12.2 c15)

theorem sq74_29 {lvl : Nat} {C : bCall} {Q : bPost} {A : bPt → Prop} (hC : bMono C) (hA : bClosed lvl bm74 C Q A) {l1 : Nat} {l2 : Int} {l3 : Int} {l4 : Int} {v5 : Value} {v6 : Value} {σ : bSt}  (h_l2 : bRg l2) (h_l3 : bRg l3) (h_l4 : bRg l4)
  (h : (l1 % 256 = 8 ∧ ((l4 < (bi σ l1 13) → (C 112 [.ref l1, .int (bn l4)] σ (bRn (fun r4 s2 => (C 76 [.ref 6, .ref l1, .int (bn l2), .int (bn r4)] s2 (bRn (fun r8 s6 => ((r8 = 0 → ((r4 < 1000 → (bRg (l3 + 1) ∧ (bRg (l4 + 1) ∧ A (29, [.ref 6, .ref l1, .int (bn l2), .int (bn (l3 + 1)), .int (bn (l4 + 1)), .int (bn r4), .int (bn r8)], [], s6)))) ∧ (¬ r4 < 1000 → (C 77 [.ref 6, .ref l1, .int (bn r4)] s6 (bRj (fun r14 s12 => (C 358 [.long r14] s12 (bRn (fun r17 s15 => (bRg (l3 + r17) ∧ (bRg (l4 + 1) ∧ A (29, [.ref 6, .ref l1, .int (bn l2), .int (bn (l3 + r17)), .int (bn (l4 + 1)), .int (bn r4), .int (bn r8)], [], s15)))))))))))) ∧ (¬ r8 = 0 → Q (.inl (some (.int (bn r8)))) s6))))))))) ∧ (¬ l4 < (bi σ l1 13) → (((40 : Int) < l3 → Q (.inl (some (.int (bn 7)))) σ) ∧ (¬ (40 : Int) < l3 → Q (.inl (some (.int (bn 0)))) σ)))))) : A (29, [.ref 6, .ref l1, .int (bn l2), .int (bn l3), .int (bn l4), v5, v6], [], σ) := by
  refine bGo hA 1 13 (48, .iload 4, 2, 30, 0, [4], []) rfl rfl rfl ?_
  refine bGo hA 1 14 (50, .aload_n 1, 1, 31, 0, [1], []) rfl rfl rfl ?_
  refine bGo hA 1 15 (51, .getfield 104, 3, 32, 0, [8, 13, 0, 0, 0, 0], []) rfl rfl rfl ?_
  refine ⟨h.1, ?_⟩
  refine bEqI (bn_bi σ l1 13) ?_
  refine bGo hA 2 0 (54, .if_icmp .ge (60), 3, 33, 62, [], []) rfl rfl rfl ?_
  refine bB_lt (x := l4) (y := (bi σ l1 13)) h_l4 (bi_rg _ _ _) (fun c1 => ?_) (fun c1 => ?_)
  · refine bGo hA 2 1 (57, .aload_n 1, 1, 34, 0, [1], []) rfl rfl rfl ?_
    refine bGo hA 2 2 (58, .iload 4, 2, 35, 0, [4], []) rfl rfl rfl ?_
    refine bGo hA 2 3 (60, .invokevirtual 111, 3, 36, 0, [0, 8, 112, 1], []) rfl rfl rfl ?_
    refine ⟨h.1, ?_⟩
    refine hC _ _ _ _ _ (bRn_e (fun r4 s2 q5 k3 => ?_)) (h.2.1 c1)
    show A (36, [.ref 6, .ref l1, .int (bn l2), .int (bn l3), .int (bn l4), v5, v6], [.int (bn r4)], s2)
    refine bGo hA 2 4 (63, .istore 5, 2, 37, 0, [5], []) rfl rfl rfl ?_
    refine bGo hA 2 5 (65, .aload_n 0, 1, 38, 0, [0], []) rfl rfl rfl ?_
    refine bGo hA 2 6 (66, .aload_n 1, 1, 39, 0, [1], []) rfl rfl rfl ?_
    refine bGo hA 2 7 (67, .iload_n 2, 1, 40, 0, [2], []) rfl rfl rfl ?_
    refine bGo hA 2 8 (68, .iload 5, 2, 41, 0, [5], []) rfl rfl rfl ?_
    refine bGo hA 2 9 (70, .invokevirtual 141, 3, 42, 0, [0, 6, 76, 3], []) rfl rfl rfl ?_
    refine ⟨rfl, ?_⟩
    refine hC _ _ _ _ _ (bRn_e (fun r8 s6 q9 k7 => ?_)) k3
    show A (42, [.ref 6, .ref l1, .int (bn l2), .int (bn l3), .int (bn l4), .int (bn r4), v6], [.int (bn r8)], s6)
    refine bGo hA 2 10 (73, .istore 6, 2, 43, 0, [6], []) rfl rfl rfl ?_
    refine bGo hA 2 11 (75, .iload 6, 2, 44, 0, [6], []) rfl rfl rfl ?_
    refine bGo hA 2 12 (77, .ifCond .eq (6), 3, 45, 47, [], []) rfl rfl rfl ?_
    refine bB_eq0 (x := r8) q9 (fun c10 => ?_) (fun c10 => ?_)
    · refine bGo hA 2 15 (83, .iload_n 3, 1, 48, 0, [3], []) rfl rfl rfl ?_
      refine bGo hA 3 0 (84, .iload 5, 2, 49, 0, [5], []) rfl rfl rfl ?_
      refine bGo hA 3 1 (86, .sipush (1000), 3, 50, 0, [], [(1000, 0)]) rfl rfl rfl ?_
      refine bEqI bl_1000 ?_
      refine bGo hA 3 2 (89, .if_icmp .ge (7), 3, 51, 53, [], []) rfl rfl rfl ?_
      refine bB_lt (x := r4) (y := 1000) q5 (by decide : bRg 1000) (fun c11 => ?_) (fun c11 => ?_)
      · refine bGo hA 3 3 (92, .iconst (1), 1, 52, 0, [], [(1, 0)]) rfl rfl rfl ?_
        refine bEqI bl_1 ?_
        refine bGo hA 3 4 (93, .goto (13), 3, 53, 58, [], []) rfl rfl rfl ?_
        refine bGo hA 3 10 (106, .iadd, 1, 59, 0, [], []) rfl rfl rfl ?_
        refine bEqI (bn_add l3 1) ?_
        refine bGo hA 3 11 (107, .istore_n 3, 1, 60, 0, [3], []) rfl rfl rfl ?_
        refine bGo hA 3 12 (108, .iinc 4 (1), 3, 61, 0, [4], [(1, 0)]) rfl rfl rfl ?_
        refine bEqC (fun v => A (61, [.ref 6, .ref l1, .int (bn l2), .int (bn (l3 + 1)), .int v, .int (bn r4), .int (bn r8)], [], s6)) ((congrArg (fun w => bn l4 + w) bl_1).trans (bn_add l4 1)) ?_
        refine bGo hA 3 13 (111, .goto (-63), 3, 62, 29, [], []) rfl rfl rfl ?_
        exact ((k7.1 c10).1 c11).2.2
      · refine bGo hA 3 5 (96, .aload_n 0, 1, 54, 0, [0], []) rfl rfl rfl ?_
        refine bGo hA 3 6 (97, .aload_n 1, 1, 55, 0, [1], []) rfl rfl rfl ?_
        refine bGo hA 3 7 (98, .iload 5, 2, 56, 0, [5], []) rfl rfl rfl ?_
        refine bGo hA 3 8 (100, .invokevirtual 144, 3, 57, 0, [0, 6, 77, 2], []) rfl rfl rfl ?_
        refine ⟨rfl, ?_⟩
        refine hC _ _ _ _ _ (bRj_e (fun r14 s12 k13 => ?_)) ((k7.1 c10).2 c11)
        show A (57, [.ref 6, .ref l1, .int (bn l2), .int (bn l3), .int (bn l4), .int (bn r4), .int (bn r8)], [.long r14, .int (bn l3)], s12)
        refine bGo hA 3 9 (103, .invokestatic 148, 3, 58, 0, [2, 358, 1], []) rfl rfl rfl ?_
        refine hC _ _ _ _ _ (bRn_e (fun r17 s15 q18 k16 => ?_)) k13
        show A (58, [.ref 6, .ref l1, .int (bn l2), .int (bn l3), .int (bn l4), .int (bn r4), .int (bn r8)], [.int (bn r17), .int (bn l3)], s15)
        refine bGo hA 3 10 (106, .iadd, 1, 59, 0, [], []) rfl rfl rfl ?_
        refine bEqI (bn_add l3 r17) ?_
        refine bGo hA 3 11 (107, .istore_n 3, 1, 60, 0, [3], []) rfl rfl rfl ?_
        refine bGo hA 3 12 (108, .iinc 4 (1), 3, 61, 0, [4], [(1, 0)]) rfl rfl rfl ?_
        refine bEqC (fun v => A (61, [.ref 6, .ref l1, .int (bn l2), .int (bn (l3 + r17)), .int v, .int (bn r4), .int (bn r8)], [], s15)) ((congrArg (fun w => bn l4 + w) bl_1).trans (bn_add l4 1)) ?_
        refine bGo hA 3 13 (111, .goto (-63), 3, 62, 29, [], []) rfl rfl rfl ?_
        exact k16.2.2
    · refine bGo hA 2 13 (80, .iload 6, 2, 46, 0, [6], []) rfl rfl rfl ?_
      refine bGo hA 2 14 (82, .ireturn, 1, 47, 0, [1], []) rfl rfl rfl ?_
      exact (k7.2 c10)
  · refine bGo hA 3 14 (114, .iload_n 3, 1, 63, 0, [3], []) rfl rfl rfl ?_
    refine bGo hA 3 15 (115, .bipush (40), 2, 64, 0, [], [(40, 0)]) rfl rfl rfl ?_
    refine bEqI bl_40 ?_
    refine bGo hA 4 0 (117, .if_icmp .le (8), 3, 65, 67, [], []) rfl rfl rfl ?_
    refine bB_lt (x := 40) (y := l3) (by decide : bRg 40) h_l3 (fun c19 => ?_) (fun c19 => ?_)
    · refine bGo hA 4 1 (120, .bipush (7), 2, 66, 0, [], [(7, 0)]) rfl rfl rfl ?_
      refine bEqI bl_7 ?_
      refine bGo hA 4 2 (122, .goto (4), 3, 67, 68, [], []) rfl rfl rfl ?_
      refine bGo hA 4 4 (126, .ireturn, 1, 0, 0, [1], []) rfl rfl rfl ?_
      exact ((h.2.2 c1).1 c19)
    · refine bGo hA 4 3 (125, .iconst (0), 1, 68, 0, [], [(0, 0)]) rfl rfl rfl ?_
      refine bEqI bl_0 ?_
      refine bGo hA 4 4 (126, .ireturn, 1, 0, 0, [1], []) rfl rfl rfl ?_
      exact ((h.2.2 c1).2 c19)

theorem sq75_0 {lvl : Nat} {C : bCall} {Q : bPost} {A : bPt → Prop} (hC : bMono C) (hA : bClosed lvl bm75 C Q A) {a1 : Nat} {x2 : Int} {σ : bSt} (h_a1 : a1 % 256 = 8) (h_x2 : bRg x2)
  (h : (((bi σ a1 5) = (-1) → Q (.inl (some (.int (bn 0)))) σ) ∧ (¬ (bi σ a1 5) = (-1) → (C 134 [.ref 10, .int (bn (bi σ a1 5)), .int (bn (bAnd x2 255))] σ (bRn (fun r4 s2 => Q (.inl (some (.int (bn r4)))) s2)))))) : A (0, [.ref 6, .ref a1, .int (bn x2)], [], σ) := by
  refine bGo hA 0 0 (0, .aload_n 1, 1, 1, 0, [1], []) rfl rfl rfl ?_
  refine bGo hA 0 1 (1, .getfield 154, 3, 2, 0, [8, 5, 0, 0, 0, 0], []) rfl rfl rfl ?_
  refine ⟨h_a1, ?_⟩
  refine bEqI (bn_bi σ a1 5) ?_
  refine bGo hA 0 2 (4, .iconst (-1), 1, 3, 0, [], [(-1, 0)]) rfl rfl rfl ?_
  refine bEqI bl_m1 ?_
  refine bGo hA 0 3 (5, .if_icmp .ne (7), 3, 4, 6, [], []) rfl rfl rfl ?_
  refine bB_eq (x := (bi σ a1 5)) (y := (-1)) (bi_rg _ _ _) (by decide : bRg (-1)) (fun c1 => ?_) (fun c1 => ?_)
  · refine bGo hA 0 4 (8, .iconst (0), 1, 5, 0, [], [(0, 0)]) rfl rfl rfl ?_
    refine bEqI bl_0 ?_
    refine bGo hA 0 5 (9, .goto (19), 3, 6, 14, [], []) rfl rfl rfl ?_
    refine bGo hA 0 14 (28, .ireturn, 1, 0, 0, [1], []) rfl rfl rfl ?_
    exact (h.1 c1)
  · refine bGo hA 0 6 (12, .aload_n 0, 1, 7, 0, [0], []) rfl rfl rfl ?_
    refine bGo hA 0 7 (13, .getfield 49, 3, 8, 0, [6, 2, 3, 10, 0, 0], []) rfl rfl rfl ?_
    refine ⟨rfl, ?_⟩
    refine bGo hA 0 8 (16, .aload_n 1, 1, 9, 0, [1], []) rfl rfl rfl ?_
    refine bGo hA 0 9 (17, .getfield 154, 3, 10, 0, [8, 5, 0, 0, 0, 0], []) rfl rfl rfl ?_
    refine ⟨h_a1, ?_⟩
    refine bEqI (bn_bi σ a1 5) ?_
    refine bGo hA 0 10 (20, .iload_n 2, 1, 11, 0, [2], []) rfl rfl rfl ?_
    refine bGo hA 0 11 (21, .sipush (255), 3, 12, 0, [], [(255, 0)]) rfl rfl rfl ?_
    refine bEqI bl_255 ?_
    refine bGo hA 0 12 (24, .iand, 1, 13, 0, [], []) rfl rfl rfl ?_
    refine bEqI (bn_and x2 255) ?_
    refine bGo hA 0 13 (25, .invokevirtual 157, 3, 14, 0, [0, 10, 134, 2], []) rfl rfl rfl ?_
    refine ⟨rfl, ?_⟩
    refine hC _ _ _ _ _ (bRn_e (fun r4 s2 q5 k3 => ?_)) (h.2 c1)
    show A (14, [.ref 6, .ref a1, .int (bn x2)], [.int (bn r4)], s2)
    refine bGo hA 0 14 (28, .ireturn, 1, 0, 0, [1], []) rfl rfl rfl ?_
    exact k3

theorem sq76_0 {lvl : Nat} {C : bCall} {Q : bPost} {A : bPt → Prop} (hC : bMono C) (hA : bClosed lvl bm76 C Q A) {a1 : Nat} {x2 : Int} {x3 : Int} {σ : bSt} (h_a1 : a1 % 256 = 8) (h_x2 : bRg x2) (h_x3 : bRg x3)
  (h : ((x3 < 100 → (C 35 [.ref 3, .int (bn x3)] σ (bRn (fun r4 s2 => ((r4 = (bi s2 a1 0) → (C 31 [.ref 3, .int (bn x3)] s2 (bRn (fun r9 s7 => ((r9 = (-1) → Q (.inl (some (.int (bn 5)))) s7) ∧ (¬ r9 = (-1) → Q (.inl (some (.int (bn 0)))) s7)))))) ∧ (¬ r4 = (bi s2 a1 0) → Q (.inl (some (.int (bn 4)))) s2)))))) ∧ (¬ x3 < 100 → (C 73 [.ref 6, .ref a1, .int (bn x2), .int (bn x3)] σ (bRn (fun r14 s12 => ((r14 = (-1) → Q (.inl (some (.int (bn 0)))) s12) ∧ (¬ r14 = (-1) → (C 140 [.ref 29, .int (bn r14)] s12 (bRn (fun r19 s17 => ((r19 = 0 → Q (.inl (some (.int (bn 0)))) s17) ∧ (¬ r19 = 0 → (bRg (r14 * 8) ∧ (bRg (6 + (r14 * 8)) ∧ Q (.inl (some (.int (bn (6 + (r14 * 8)))))) s17))))))))))))))) : A (0, [.ref 6, .ref a1, .int (bn x2), .int (bn x3), .float 0], [], σ) := by
  refine bGo hA 0 0 (0, .iload_n 3, 1, 1, 0, [3], []) rfl rfl rfl ?_
  refine bGo hA 0 1 (1, .bipush (100), 2, 2, 0, [], [(100, 0)]) rfl rfl rfl ?_
  refine bEqI bl_100 ?_
  refine bGo hA 0 2 (3, .if_icmp .ge (38), 3, 3, 22, [], []) rfl rfl rfl ?_
  refine bB_lt (x := x3) (y := 100) h_x3 (by decide : bRg 100) (fun c1 => ?_) (fun c1 => ?_)
  · refine bGo hA 0 3 (6, .aload_n 0, 1, 4, 0, [0], []) rfl rfl rfl ?_
    refine bGo hA 0 4 (7, .getfield 41, 3, 5, 0, [6, 0, 3, 3, 0, 0], []) rfl rfl rfl ?_
    refine ⟨rfl, ?_⟩
    refine bGo hA 0 5 (10, .iload_n 3, 1, 6, 0, [3], []) rfl rfl rfl ?_
    refine bGo hA 0 6 (11, .invokevirtual 160, 3, 7, 0, [0, 3, 35, 1], []) rfl rfl rfl ?_
    refine ⟨rfl, ?_⟩
    refine hC _ _ _ _ _ (bRn_e (fun r4 s2 q5 k3 => ?_)) (h.1 c1)
    show A (7, [.ref 6, .ref a1, .int (bn x2), .int (bn x3), .float 0], [.int (bn r4)], s2)
    refine bGo hA 0 7 (14, .aload_n 1, 1, 8, 0, [1], []) rfl rfl rfl ?_
    refine bGo hA 0 8 (15, .getfield 126, 3, 9, 0, [8, 0, 0, 0, 0, 0], []) rfl rfl rfl ?_
    refine ⟨h_a1, ?_⟩
    refine bEqI (bn_bi s2 a1 0) ?_
    refine bGo hA 0 9 (18, .if_icmp .eq (5), 3, 10, 12, [], []) rfl rfl rfl ?_
    refine bB_eq (x := r4) (y := (bi s2 a1 0)) q5 (bi_rg _ _ _) (fun c6 => ?_) (fun c6 => ?_)
    · refine bGo hA 0 12 (23, .aload_n 0, 1, 13, 0, [0], []) rfl rfl rfl ?_
      refine bGo hA 0 13 (24, .getfield 41, 3, 14, 0, [6, 0, 3, 3, 0, 0], []) rfl rfl rfl ?_
      refine ⟨rfl, ?_⟩
      refine bGo hA 0 14 (27, .iload_n 3, 1, 15, 0, [3], []) rfl rfl rfl ?_
      refine bGo hA 0 15 (28, .invokevirtual 163, 3, 16, 0, [0, 3, 31, 1], []) rfl rfl rfl ?_
      refine ⟨rfl, ?_⟩
      refine hC _ _ _ _ _ (bRn_e (fun r9 s7 q10 k8 => ?_)) (k3.1 c6)
      show A (16, [.ref 6, .ref a1, .int (bn x2), .int (bn x3), .float 0], [.int (bn r9)], s7)
      refine bGo hA 1 0 (31, .iconst (-1), 1, 17, 0, [], [(-1, 0)]) rfl rfl rfl ?_
      refine bEqI bl_m1 ?_
      refine bGo hA 1 1 (32, .if_icmp .ne (7), 3, 18, 20, [], []) rfl rfl rfl ?_
      refine bB_eq (x := r9) (y := (-1)) q10 (by decide : bRg (-1)) (fun c11 => ?_) (fun c11 => ?_)
      · refine bGo hA 1 2 (35, .iconst (5), 1, 19, 0, [], [(5, 0)]) rfl rfl rfl ?_
        refine bEqI bl_5 ?_
        refine bGo hA 1 3 (36, .goto (4), 3, 20, 21, [], []) rfl rfl rfl ?_
        refine bGo hA 1 5 (40, .ireturn, 1, 22, 0, [1], []) rfl rfl rfl ?_
        exact (k8.1 c11)
      · refine bGo hA 1 4 (39, .iconst (0), 1, 21, 0, [], [(0, 0)]) rfl rfl rfl ?_
        refine bEqI bl_0 ?_
        refine bGo hA 1 5 (40, .ireturn, 1, 22, 0, [1], []) rfl rfl rfl ?_
        exact (k8.2 c11)
    · refine bGo hA 0 10 (21, .iconst (4), 1, 11, 0, [], [(4, 0)]) rfl rfl rfl ?_
      refine bEqI bl_4 ?_
      refine bGo hA 0 11 (22, .ireturn, 1, 12, 0, [1], []) rfl rfl rfl ?_
      exact (k3.2 c6)
  · refine bGo hA 1 6 (41, .aload_n 0, 1, 23, 0, [0], []) rfl rfl rfl ?_
    refine bGo hA 1 7 (42, .aload_n 1, 1, 24, 0, [1], []) rfl rfl rfl ?_
    refine bGo hA 1 8 (43, .iload_n 2, 1, 25, 0, [2], []) rfl rfl rfl ?_
    refine bGo hA 1 9 (44, .iload_n 3, 1, 26, 0, [3], []) rfl rfl rfl ?_
    refine bGo hA 1 10 (45, .invokevirtual 115, 3, 27, 0, [0, 6, 73, 3], []) rfl rfl rfl ?_
    refine ⟨rfl, ?_⟩
    refine hC _ _ _ _ _ (bRn_e (fun r14 s12 q15 k13 => ?_)) (h.2 c1)
    show A (27, [.ref 6, .ref a1, .int (bn x2), .int (bn x3), .float 0], [.int (bn r14)], s12)
    refine bGo hA 1 11 (48, .istore 4, 2, 28, 0, [4], []) rfl rfl rfl ?_
    refine bGo hA 1 12 (50, .iload 4, 2, 29, 0, [4], []) rfl rfl rfl ?_
    refine bGo hA 1 13 (52, .iconst (-1), 1, 30, 0, [], [(-1, 0)]) rfl rfl rfl ?_
    refine bEqI bl_m1 ?_
    refine bGo hA 1 14 (53, .if_icmp .eq (26), 3, 31, 42, [], []) rfl rfl rfl ?_
    refine bB_eq (x := r14) (y := (-1)) q15 (by decide : bRg (-1)) (fun c16 => ?_) (fun c16 => ?_)
    · refine bGo hA 2 10 (79, .iconst (0), 1, 43, 0, [], [(0, 0)]) rfl rfl rfl ?_
      refine bEqI bl_0 ?_
      refine bGo hA 2 11 (80, .ireturn, 1, 0, 0, [1], []) rfl rfl rfl ?_
      exact (k13.1 c16)
    · refine bGo hA 1 15 (56, .aload_n 0, 1, 32, 0, [0], []) rfl rfl rfl ?_
      refine bGo hA 2 0 (57, .getfield 18, 3, 33, 0, [6, 6, 3, 29, 1, 0], []) rfl rfl rfl ?_
      refine ⟨rfl, ?_⟩
      refine bGo hA 2 1 (60, .iload 4, 2, 34, 0, [4], []) rfl rfl rfl ?_
      refine bGo hA 2 2 (62, .invokestatic 100, 3, 35, 1, [2, 140, 2], []) rfl rfl rfl ?_
      refine hC _ _ _ _ _ (bRn_e (fun r19 s17 q20 k18 => ?_)) (k13.2 c16)
      show A (35, [.ref 6, .ref a1, .int (bn x2), .int (bn x3), .int (bn r14)], [.int (bn r19)], s17)
      refine bGo hA 2 3 (65, .ifCond .eq (14), 3, 36, 42, [], []) rfl rfl rfl ?_
      refine bB_eq0 (x := r19) q20 (fun c21 => ?_) (fun c21 => ?_)
      · refine bGo hA 2 10 (79, .iconst (0), 1, 43, 0, [], [(0, 0)]) rfl rfl rfl ?_
        refine bEqI bl_0 ?_
        refine bGo hA 2 11 (80, .ireturn, 1, 0, 0, [1], []) rfl rfl rfl ?_
        exact (k18.1 c21)
      · refine bGo hA 2 4 (68, .bipush (6), 2, 37, 0, [], [(6, 0)]) rfl rfl rfl ?_
        refine bEqI bl_6 ?_
        refine bGo hA 2 5 (70, .iload 4, 2, 38, 0, [4], []) rfl rfl rfl ?_
        refine bGo hA 2 6 (72, .bipush (8), 2, 39, 0, [], [(8, 0)]) rfl rfl rfl ?_
        refine bEqI bl_8 ?_
        refine bGo hA 2 7 (74, .imul, 1, 40, 0, [], []) rfl rfl rfl ?_
        refine bEqI (bn_mul r14 8) ?_
        refine bGo hA 2 8 (75, .iadd, 1, 41, 0, [], []) rfl rfl rfl ?_
        refine bEqI (bn_add 6 (r14 * 8)) ?_
        refine bGo hA 2 9 (76, .goto (4), 3, 42, 43, [], []) rfl rfl rfl ?_
        refine bGo hA 2 11 (80, .ireturn, 1, 0, 0, [1], []) rfl rfl rfl ?_
        exact (k18.2 c21).2.2

theorem sq77_0 {lvl : Nat} {C : bCall} {Q : bPost} {A : bPt → Prop} (hC : bMono C) (hA : bClosed lvl bm77 C Q A) {a1 : Nat} {x2 : Int} {σ : bSt} (h_a1 : a1 % 256 = 8) (h_x2 : bRg x2)
  (h : (bRg (x2 - 1000) ∧ (((bAnd (x2 - 1000) 1) = 1 → (C 36 [.ref 3, .int (bn (bi σ a1 0)), .int (bn (bShr (x2 - 1000) 1)), .int (bn 1)] σ (bRj (fun r4 s2 => Q (.inl (some (.long r4))) s2)))) ∧ (¬ (bAnd (x2 - 1000) 1) = 1 → (C 36 [.ref 3, .int (bn (bi σ a1 0)), .int (bn (bShr (x2 - 1000) 1)), .int (bn 0)] σ (bRj (fun r7 s5 => Q (.inl (some (.long r7))) s5))))))) : A (0, [.ref 6, .ref a1, .int (bn x2), .float 0], [], σ) := by
  refine bGo hA 0 0 (0, .iload_n 2, 1, 1, 0, [2], []) rfl rfl rfl ?_
  refine bGo hA 0 1 (1, .sipush (1000), 3, 2, 0, [], [(1000, 0)]) rfl rfl rfl ?_
  refine bEqI bl_1000 ?_
  refine bGo hA 0 2 (4, .isub, 1, 3, 0, [], []) rfl rfl rfl ?_
  refine bEqI (bn_sub x2 1000) ?_
  refine bGo hA 0 3 (5, .istore_n 3, 1, 4, 0, [3], []) rfl rfl rfl ?_
  refine bGo hA 0 4 (6, .aload_n 0, 1, 5, 0, [0], []) rfl rfl rfl ?_
  refine bGo hA 0 5 (7, .getfield 41, 3, 6, 0, [6, 0, 3, 3, 0, 0], []) rfl rfl rfl ?_
  refine ⟨rfl, ?_⟩
  refine bGo hA 0 6 (10, .aload_n 1, 1, 7, 0, [1], []) rfl rfl rfl ?_
  refine bGo hA 0 7 (11, .getfield 126, 3, 8, 0, [8, 0, 0, 0, 0, 0], []) rfl rfl rfl ?_
  refine ⟨h_a1, ?_⟩
  refine bEqI (bn_bi σ a1 0) ?_
  refine bGo hA 0 8 (14, .iload_n 3, 1, 9, 0, [3], []) rfl rfl rfl ?_
  refine bGo hA 0 9 (15, .iconst (1), 1, 10, 0, [], [(1, 0)]) rfl rfl rfl ?_
  refine bEqI bl_1 ?_
  refine bGo hA 0 10 (16, .ishr, 1, 11, 0, [], []) rfl rfl rfl ?_
  refine bEqI (bn_shr (x2 - 1000) 1) ?_
  refine bGo hA 0 11 (17, .iload_n 3, 1, 12, 0, [3], []) rfl rfl rfl ?_
  refine bGo hA 0 12 (18, .iconst (1), 1, 13, 0, [], [(1, 0)]) rfl rfl rfl ?_
  refine bEqI bl_1 ?_
  refine bGo hA 0 13 (19, .iand, 1, 14, 0, [], []) rfl rfl rfl ?_
  refine bEqI (bn_and (x2 - 1000) 1) ?_
  refine bGo hA 0 14 (20, .iconst (1), 1, 15, 0, [], [(1, 0)]) rfl rfl rfl ?_
  refine bEqI bl_1 ?_
  refine bGo hA 0 15 (21, .if_icmp .ne (7), 3, 16, 18, [], []) rfl rfl rfl ?_
  refine bB_eq (x := (bAnd (x2 - 1000) 1)) (y := 1) (bRgI _) (by decide : bRg 1) (fun c1 => ?_) (fun c1 => ?_)
  · refine bGo hA 1 0 (24, .iconst (1), 1, 17, 0, [], [(1, 0)]) rfl rfl rfl ?_
    refine bEqI bl_1 ?_
    refine bGo hA 1 1 (25, .goto (4), 3, 18, 19, [], []) rfl rfl rfl ?_
    refine bGo hA 1 3 (29, .invokevirtual 166, 3, 20, 0, [0, 3, 36, 3], []) rfl rfl rfl ?_
    refine ⟨rfl, ?_⟩
    refine hC _ _ _ _ _ (bRj_e (fun r4 s2 k3 => ?_)) (h.2.1 c1)
    show A (20, [.ref 6, .ref a1, .int (bn x2), .int (bn (x2 - 1000))], [.long r4], s2)
    refine bGo hA 1 4 (32, .lreturn, 1, 0, 0, [3], []) rfl rfl rfl ?_
    exact k3
  · refine bGo hA 1 2 (28, .iconst (0), 1, 19, 0, [], [(0, 0)]) rfl rfl rfl ?_
    refine bEqI bl_0 ?_
    refine bGo hA 1 3 (29, .invokevirtual 166, 3, 20, 0, [0, 3, 36, 3], []) rfl rfl rfl ?_
    refine ⟨rfl, ?_⟩
    refine hC _ _ _ _ _ (bRj_e (fun r7 s5 k6 => ?_)) (h.2.2 c1)
    show A (20, [.ref 6, .ref a1, .int (bn x2), .int (bn (x2 - 1000))], [.long r7], s5)
    refine bGo hA 1 4 (32, .lreturn, 1, 0, 0, [3], []) rfl rfl rfl ?_
    exact k6

theorem sq78_0 {lvl : Nat} {C : bCall} {Q : bPost} {A : bPt → Prop} (hC : bMono C) (hA : bClosed lvl bm78 C Q A) {x1 : Int} {x2 : Int} {σ : bSt}  (h_x1 : bRg x1) (h_x2 : bRg x2)
  (h : (C 70 [.ref 6] σ (bRv (fun s1 => (C 69 [.ref 6, .int (bn x1)] s1 (bRn (fun r5 s3 => (C 71 [.ref 6, .int (bn r5)] s3 (bRv (fun s7 => (C 69 [.ref 6, .int (bn x1)] s7 (bRn (fun r11 s9 => A (13, [.ref 6, .int (bn x1), .int (bn x2), .int (bn r11), .int (bn 0), .float 0], [], s9)))))))))))))) : A (0, [.ref 6, .int (bn x1), .int (bn x2), .float 0, .float 0, .float 0], [], σ) := by
  refine bGo hA 0 0 (0, .aload_n 0, 1, 1, 0, [0], []) rfl rfl rfl ?_
  refine bGo hA 0 1 (1, .invokevirtual 170, 3, 2, 0, [0, 6, 70, 0], []) rfl rfl rfl ?_
  refine ⟨rfl, ?_⟩
  refine hC _ _ _ _ _ (bRv_e (fun s1 k2 => ?_)) h
  show A (2, [.ref 6, .int (bn x1), .int (bn x2), .float 0, .float 0, .float 0], [], s1)
  refine bGo hA 0 2 (4, .aload_n 0, 1, 3, 0, [0], []) rfl rfl rfl ?_
  refine bGo hA 0 3 (5, .aload_n 0, 1, 4, 0, [0], []) rfl rfl rfl ?_
  refine bGo hA 0 4 (6, .iload_n 1, 1, 5, 0, [1], []) rfl rfl rfl ?_
  refine bGo hA 0 5 (7, .invokevirtual 173, 3, 6, 0, [0, 6, 69, 1], []) rfl rfl rfl ?_
  refine ⟨rfl, ?_⟩
  refine hC _ _ _ _ _ (bRn_e (fun r5 s3 q6 k4 => ?_)) k2
  show A (6, [.ref 6, .int (bn x1), .int (bn x2), .float 0, .float 0, .float 0], [.int (bn r5), .ref 6], s3)
  refine bGo hA 0 6 (10, .invokevirtual 176, 3, 7, 0, [0, 6, 71, 1], []) rfl rfl rfl ?_
  refine ⟨rfl, ?_⟩
  refine hC _ _ _ _ _ (bRv_e (fun s7 k8 => ?_)) k4
  show A (7, [.ref 6, .int (bn x1), .int (bn x2), .float 0, .float 0, .float 0], [], s7)
  refine bGo hA 0 7 (13, .aload_n 0, 1, 8, 0, [0], []) rfl rfl rfl ?_
  refine bGo hA 0 8 (14, .iload_n 1, 1, 9, 0, [1], []) rfl rfl rfl ?_
  refine bGo hA 0 9 (15, .invokevirtual 173, 3, 10, 0, [0, 6, 69, 1], []) rfl rfl rfl ?_
  refine ⟨rfl, ?_⟩
  refine hC _ _ _ _ _ (bRn_e (fun r11 s9 q12 k10 => ?_)) k8
  show A (10, [.ref 6, .int (bn x1), .int (bn x2), .float 0, .float 0, .float 0], [.int (bn r11)], s9)
  refine bGo hA 0 10 (18, .istore_n 3, 1, 11, 0, [3], []) rfl rfl rfl ?_
  refine bGo hA 0 11 (19, .iconst (0), 1, 12, 0, [], [(0, 0)]) rfl rfl rfl ?_
  refine bEqI bl_0 ?_
  refine bGo hA 0 12 (20, .istore 4, 2, 13, 0, [4], []) rfl rfl rfl ?_
  exact k10

theorem sq78_13 {lvl : Nat} {C : bCall} {Q : bPost} {A : bPt → Prop} (hC : bMono C) (hA : bClosed lvl bm78 C Q A) {v1 : Value} {l2 : Int} {l3 : Int} {l4 : Int} {v5 : Value} {σ : bSt}  (h_l2 : bRg l2) (h_l3 : bRg l3) (h_l4 : bRg l4)
  (h : ((l4 < l2 → (C 140 [.ref 29, .int (bn l3)] σ (bRn (fun r4 s2 => (0 ≤ r4 ∧ (((r4 % 8) = 6 → (bRg (l4 + 1) ∧ A (13, [.ref 6, v1, .int (bn l2), .int (bn (r4 / 8)), .int (bn (l4 + 1)), .int (bn r4)], [], s2))) ∧ (¬ (r4 % 8) = 6 → Q (.inl (some (.int (bn (-1))))) s2))))))) ∧ (¬ l4 < l2 → (C 140 [.ref 29, .int (bn l3)] σ (bRn (fun r9 s7 => (0 ≤ r9 ∧ (((r9 % 8) = 0 → Q (.inl (some (.int (bn (-1))))) s7) ∧ (¬ (r9 % 8) = 0 → (bRg ((bShr l3 8) * 10) ∧ (bRg (((bShr l3 8) * 10) + (r9 % 8)) ∧ Q (.inl (some (.int (bn (((bShr l3 8) * 10) + (r9 % 8)))))) s7))))))))))) : A (13, [.ref 6, v1, .int (bn l2), .int (bn l3), .int (bn l4), v5], [], σ) := by
  refine bGo hA 0 13 (22, .iload 4, 2, 14, 0, [4], []) rfl rfl rfl ?_
  refine bGo hA 0 14 (24, .iload_n 2, 1, 15, 0, [2], []) rfl rfl rfl ?_
  refine bGo hA 0 15 (25, .if_icmp .ge (37), 3, 16, 34, [], []) rfl rfl rfl ?_
  refine bB_lt (x := l4) (y := l2) h_l4 h_l2 (fun c1 => ?_) (fun c1 => ?_)
  · refine bGo hA 1 0 (28, .aload_n 0, 1, 17, 0, [0], []) rfl rfl rfl ?_
    refine bGo hA 1 1 (29, .getfield 18, 3, 18, 0, [6, 6, 3, 29, 1, 0], []) rfl rfl rfl ?_
    refine ⟨rfl, ?_⟩
    refine bGo hA 1 2 (32, .iload_n 3, 1, 19, 0, [3], []) rfl rfl rfl ?_
    refine bGo hA 1 3 (33, .invokestatic 100, 3, 20, 1, [2, 140, 2], []) rfl rfl rfl ?_
    refine hC _ _ _ _ _ (bRn_e (fun r4 s2 q5 k3 => ?_)) (h.1 c1)
    show A (20, [.ref 6, v1, .int (bn l2), .int (bn l3), .int (bn l4), v5], [.int (bn r4)], s2)
    refine bGo hA 1 4 (36, .istore 5, 2, 21, 0, [5], []) rfl rfl rfl ?_
    refine bGo hA 1 5 (38, .iload 5, 2, 22, 0, [5], []) rfl rfl rfl ?_
    refine bGo hA 1 6 (40, .bipush (8), 2, 23, 0, [], [(8, 0)]) rfl rfl rfl ?_
    refine bEqI bl_8 ?_
    refine bGo hA 1 7 (42, .irem, 1, 24, 0, [], []) rfl rfl rfl ?_
    refine ⟨by decide, ?_⟩
    refine bEqI (bn_rem q5 (by decide) k3.1) ?_
    refine bGo hA 1 8 (43, .bipush (6), 2, 25, 0, [], [(6, 0)]) rfl rfl rfl ?_
    refine bEqI bl_6 ?_
    refine bGo hA 1 9 (45, .if_icmp .eq (5), 3, 26, 28, [], []) rfl rfl rfl ?_
    refine bB_eq (x := (r4 % 8)) (y := 6) (bRg_mod (by decide) (by decide)) (by decide : bRg 6) (fun c6 => ?_) (fun c6 => ?_)
    · refine bGo hA 1 12 (50, .iload 5, 2, 29, 0, [5], []) rfl rfl rfl ?_
      refine bGo hA 1 13 (52, .bipush (8), 2, 30, 0, [], [(8, 0)]) rfl rfl rfl ?_
      refine bEqI bl_8 ?_
      refine bGo hA 1 14 (54, .idiv, 1, 31, 0, [], []) rfl rfl rfl ?_
      refine ⟨by decide, ?_⟩
      refine bEqI (bn_div q5 (by decide) k3.1) ?_
      refine bGo hA 1 15 (55, .istore_n 3, 1, 32, 0, [3], []) rfl rfl rfl ?_
      refine bGo hA 2 0 (56, .iinc 4 (1), 3, 33, 0, [4], [(1, 0)]) rfl rfl rfl ?_
      refine bEqC (fun v => A (33, [.ref 6, v1, .int (bn l2), .int (bn (r4 / 8)), .int v, .int (bn r4)], [], s2)) ((congrArg (fun w => bn l4 + w) bl_1).trans (bn_add l4 1)) ?_
      refine bGo hA 2 1 (59, .goto (-37), 3, 34, 13, [], []) rfl rfl rfl ?_
      exact (k3.2.1 c6).2
    · refine bGo hA 1 10 (48, .iconst (-1), 1, 27, 0, [], [(-1, 0)]) rfl rfl rfl ?_
      refine bEqI bl_m1 ?_
      refine bGo hA 1 11 (49, .ireturn, 1, 28, 0, [1], []) rfl rfl rfl ?_
      exact (k3.2.2 c6)
  · refine bGo hA 2 2 (62, .aload_n 0, 1, 35, 0, [0], []) rfl rfl rfl ?_
    refine bGo hA 2 3 (63, .getfield 18, 3, 36, 0, [6, 6, 3, 29, 1, 0], []) rfl rfl rfl ?_
    refine ⟨rfl, ?_⟩
    refine bGo hA 2 4 (66, .iload_n 3, 1, 37, 0, [3], []) rfl rfl rfl ?_
    refine bGo hA 2 5 (67, .invokestatic 100, 3, 38, 1, [2, 140, 2], []) rfl rfl rfl ?_
    refine hC _ _ _ _ _ (bRn_e (fun r9 s7 q10 k8 => ?_)) (h.2 c1)
    show A (38, [.ref 6, v1, .int (bn l2), .int (bn l3), .int (bn l4), v5], [.int (bn r9)], s7)
    refine bGo hA 2 6 (70, .bipush (8), 2, 39, 0, [], [(8, 0)]) rfl rfl rfl ?_
    refine bEqI bl_8 ?_
    refine bGo hA 2 7 (72, .irem, 1, 40, 0, [], []) rfl rfl rfl ?_
    refine ⟨by decide, ?_⟩
    refine bEqI (bn_rem q10 (by decide) k8.1) ?_
    refine bGo hA 2 8 (73, .istore 4, 2, 41, 0, [4], []) rfl rfl rfl ?_
    refine bGo hA 2 9 (75, .iload 4, 2, 42, 0, [4], []) rfl rfl rfl ?_
    refine bGo hA 2 10 (77, .ifCond .ne (7), 3, 43, 45, [], []) rfl rfl rfl ?_
    refine bB_eq0 (x := (r9 % 8)) (bRg_mod (by decide) (by decide)) (fun c11 => ?_) (fun c11 => ?_)
    · refine bGo hA 2 11 (80, .iconst (-1), 1, 44, 0, [], [(-1, 0)]) rfl rfl rfl ?_
      refine bEqI bl_m1 ?_
      refine bGo hA 2 12 (81, .goto (13), 3, 45, 52, [], []) rfl rfl rfl ?_
      refine bGo hA 3 4 (94, .ireturn, 1, 0, 0, [1], []) rfl rfl rfl ?_
      exact (k8.2.1 c11)
    · refine bGo hA 2 13 (84, .iload_n 3, 1, 46, 0, [3], []) rfl rfl rfl ?_
      refine bGo hA 2 14 (85, .bipush (8), 2, 47, 0, [], [(8, 0)]) rfl rfl rfl ?_
      refine bEqI bl_8 ?_
      refine bGo hA 2 15 (87, .ishr, 1, 48, 0, [], []) rfl rfl rfl ?_
      refine bEqI (bn_shr l3 8) ?_
      refine bGo hA 3 0 (88, .bipush (10), 2, 49, 0, [], [(10, 0)]) rfl rfl rfl ?_
      refine bEqI bl_10 ?_
      refine bGo hA 3 1 (90, .imul, 1, 50, 0, [], []) rfl rfl rfl ?_
      refine bEqI (bn_mul (bShr l3 8) 10) ?_
      refine bGo hA 3 2 (91, .iload 4, 2, 51, 0, [4], []) rfl rfl rfl ?_
      refine bGo hA 3 3 (93, .iadd, 1, 52, 0, [], []) rfl rfl rfl ?_
      refine bEqI (bn_add ((bShr l3 8) * 10) (r9 % 8)) ?_
      refine bGo hA 3 4 (94, .ireturn, 1, 0, 0, [1], []) rfl rfl rfl ?_
      exact (k8.2.2 c11).2.2

theorem sq79_0 {lvl : Nat} {C : bCall} {Q : bPost} {A : bPt → Prop} (hC : bMono C) (hA : bClosed lvl bm79 C Q A) {x1 : Int} {σ : bSt}  (h_x1 : bRg x1)
  (h : (C 70 [.ref 6] σ (bRv (fun s1 => A (6, [.ref 6, .int (bn x1), .int (bn 0), .int (bn 0)], [], s1))))) : A (0, [.ref 6, .int (bn x1), .float 0, .float 0], [], σ) := by
  refine bGo hA 0 0 (0, .aload_n 0, 1, 1, 0, [0], []) rfl rfl rfl ?_
  refine bGo hA 0 1 (1, .invokevirtual 170, 3, 2, 0, [0, 6, 70, 0], []) rfl rfl rfl ?_
  refine ⟨rfl, ?_⟩
  refine hC _ _ _ _ _ (bRv_e (fun s1 k2 => ?_)) h
  show A (2, [.ref 6, .int (bn x1), .float 0, .float 0], [], s1)
  refine bGo hA 0 2 (4, .iconst (0), 1, 3, 0, [], [(0, 0)]) rfl rfl rfl ?_
  refine bEqI bl_0 ?_
  refine bGo hA 0 3 (5, .istore_n 2, 1, 4, 0, [2], []) rfl rfl rfl ?_
  refine bGo hA 0 4 (6, .iconst (0), 1, 5, 0, [], [(0, 0)]) rfl rfl rfl ?_
  refine bEqI bl_0 ?_
  refine bGo hA 0 5 (7, .istore_n 3, 1, 6, 0, [3], []) rfl rfl rfl ?_
  exact k2

theorem sq79_6 {lvl : Nat} {C : bCall} {Q : bPost} {A : bPt → Prop} (hC : bMono C) (hA : bClosed lvl bm79 C Q A) {l1 : Int} {l2 : Int} {l3 : Int} {σ : bSt}  (h_l1 : bRg l1) (h_l2 : bRg l2) (h_l3 : bRg l3)
  (h : ((l3 < 16 → (((bAnd (bShr l1 l3) 1) = 1 → (C 69 [.ref 6, .int (bn l3)] σ (bRn (fun r5 s3 => (C 71 [.ref 6, .int (bn r5)] s3 (bRv (fun s7 => (C 69 [.ref 6, .int (bn l3)] s7 (bRn (fun r11 s9 => (C 140 [.ref 29, .int (bn r11)] s9 (bRn (fun r15 s13 => ((r15 = 0 → (bRg (l3 + 1) ∧ A (6, [.ref 6, .int (bn l1), .int (bn (bOr l2 (bShl 1 l3))), .int (bn (l3 + 1))], [], s13))) ∧ (¬ r15 = 0 → (bRg (l3 + 1) ∧ A (6, [.ref 6, .int (bn l1), .int (bn (bOr l2 0)), .int (bn (l3 + 1))], [], s13))))))))))))))))) ∧ (¬ (bAnd (bShr l1 l3) 1) = 1 → (bRg (l3 + 1) ∧ A (6, [.ref 6, .int (bn l1), .int (bn l2), .int (bn (l3 + 1))], [], σ))))) ∧ (¬ l3 < 16 → Q (.inl (some (.int (bn l2)))) σ))) : A (6, [.ref 6, .int (bn l1), .int (bn l2), .int (bn l3)], [], σ) := by
  refine bGo hA 0 6 (8, .iload_n 3, 1, 7, 0, [3], []) rfl rfl rfl ?_
  refine bGo hA 0 7 (9, .bipush (16), 2, 8, 0, [], [(16, 0)]) rfl rfl rfl ?_
  refine bEqI bl_16 ?_
  refine bGo hA 0 8 (11, .if_icmp .ge (52), 3, 9, 38, [], []) rfl rfl rfl ?_
  refine bB_lt (x := l3) (y := 16) h_l3 (by decide : bRg 16) (fun c1 => ?_) (fun c1 => ?_)
  · refine bGo hA 0 9 (14, .iload_n 1, 1, 10, 0, [1], []) rfl rfl rfl ?_
    refine bGo hA 0 10 (15, .iload_n 3, 1, 11, 0, [3], []) rfl rfl rfl ?_
    refine bGo hA 0 11 (16, .ishr, 1, 12, 0, [], []) rfl rfl rfl ?_
    refine bEqI (bn_shr l1 l3) ?_
    refine bGo hA 0 12 (17, .iconst (1), 1, 13, 0, [], [(1, 0)]) rfl rfl rfl ?_
    refine bEqI bl_1 ?_
    refine bGo hA 0 13 (18, .iand, 1, 14, 0, [], []) rfl rfl rfl ?_
    refine bEqI (bn_and (bShr l1 l3) 1) ?_
    refine bGo hA 0 14 (19, .iconst (1), 1, 15, 0, [], [(1, 0)]) rfl rfl rfl ?_
    refine bEqI bl_1 ?_
    refine bGo hA 0 15 (20, .if_icmp .ne (37), 3, 16, 36, [], []) rfl rfl rfl ?_
    refine bB_eq (x := (bAnd (bShr l1 l3) 1)) (y := 1) (bRgI _) (by decide : bRg 1) (fun c2 => ?_) (fun c2 => ?_)
    · refine bGo hA 1 0 (23, .aload_n 0, 1, 17, 0, [0], []) rfl rfl rfl ?_
      refine bGo hA 1 1 (24, .aload_n 0, 1, 18, 0, [0], []) rfl rfl rfl ?_
      refine bGo hA 1 2 (25, .iload_n 3, 1, 19, 0, [3], []) rfl rfl rfl ?_
      refine bGo hA 1 3 (26, .invokevirtual 173, 3, 20, 0, [0, 6, 69, 1], []) rfl rfl rfl ?_
      refine ⟨rfl, ?_⟩
      refine hC _ _ _ _ _ (bRn_e (fun r5 s3 q6 k4 => ?_)) ((h.1 c1).1 c2)
      show A (20, [.ref 6, .int (bn l1), .int (bn l2), .int (bn l3)], [.int (bn r5), .ref 6], s3)
      refine bGo hA 1 4 (29, .invokevirtual 176, 3, 21, 0, [0, 6, 71, 1], []) rfl rfl rfl ?_
      refine ⟨rfl, ?_⟩
      refine hC _ _ _ _ _ (bRv_e (fun s7 k8 => ?_)) k4
      show A (21, [.ref 6, .int (bn l1), .int (bn l2), .int (bn l3)], [], s7)
      refine bGo hA 1 5 (32, .iload_n 2, 1, 22, 0, [2], []) rfl rfl rfl ?_
      refine bGo hA 1 6 (33, .aload_n 0, 1, 23, 0, [0], []) rfl rfl rfl ?_
      refine bGo hA 1 7 (34, .getfield 18, 3, 24, 0, [6, 6, 3, 29, 1, 0], []) rfl rfl rfl ?_
      refine ⟨rfl, ?_⟩
      refine bGo hA 1 8 (37, .aload_n 0, 1, 25, 0, [0], []) rfl rfl rfl ?_
      refine bGo hA 1 9 (38, .iload_n 3, 1, 26, 0, [3], []) rfl rfl rfl ?_
      refine bGo hA 1 10 (39, .invokevirtual 173, 3, 27, 0, [0, 6, 69, 1], []) rfl rfl rfl ?_
      refine ⟨rfl, ?_⟩
      refine hC _ _ _ _ _ (bRn_e (fun r11 s9 q12 k10 => ?_)) k8
      show A (27, [.ref 6, .int (bn l1), .int (bn l2), .int (bn l3)], [.int (bn r11), .ref 29, .int (bn l2)], s9)
      refine bGo hA 1 11 (42, .invokestatic 100, 3, 28, 1, [2, 140, 2], []) rfl rfl rfl ?_
      refine hC _ _ _ _ _ (bRn_e (fun r15 s13 q16 k14 => ?_)) k10
      show A (28, [.ref 6, .int (bn l1), .int (bn l2), .int (bn l3)], [.int (bn r15), .int (bn l2)], s13)
      refine bGo hA 1 12 (45, .ifCond .ne (9), 3, 29, 33, [], []) rfl rfl rfl ?_
      refine bB_eq0 (x := r15) q16 (fun c17 => ?_) (fun c17 => ?_)
      · refine bGo hA 1 13 (48, .iconst (1), 1, 30, 0, [], [(1, 0)]) rfl rfl rfl ?_
        refine bEqI bl_1 ?_
        refine bGo hA 1 14 (49, .iload_n 3, 1, 31, 0, [3], []) rfl rfl rfl ?_
        refine bGo hA 1 15 (50, .ishl, 1, 32, 0, [], []) rfl rfl rfl ?_
        refine bEqI (bn_shl 1 l3) ?_
        refine bGo hA 2 0 (51, .goto (4), 3, 33, 34, [], []) rfl rfl rfl ?_
        refine bGo hA 2 2 (55, .ior, 1, 35, 0, [], []) rfl rfl rfl ?_
        refine bEqI (bn_or l2 (bShl 1 l3)) ?_
        refine bGo hA 2 3 (56, .istore_n 2, 1, 36, 0, [2], []) rfl rfl rfl ?_
        refine bGo hA 2 4 (57, .iinc 3 (1), 3, 37, 0, [3], [(1, 0)]) rfl rfl rfl ?_
        refine bEqC (fun v => A (37, [.ref 6, .int (bn l1), .int (bn (bOr l2 (bShl 1 l3))), .int v], [], s13)) ((congrArg (fun w => bn l3 + w) bl_1).trans (bn_add l3 1)) ?_
        refine bGo hA 2 5 (60, .goto (-52), 3, 38, 6, [], []) rfl rfl rfl ?_
        exact (k14.1 c17).2
      · refine bGo hA 2 1 (54, .iconst (0), 1, 34, 0, [], [(0, 0)]) rfl rfl rfl ?_
        refine bEqI bl_0 ?_
        refine bGo hA 2 2 (55, .ior, 1, 35, 0, [], []) rfl rfl rfl ?_
        refine bEqI (bn_or l2 0) ?_
        refine bGo hA 2 3 (56, .istore_n 2, 1, 36, 0, [2], []) rfl rfl rfl ?_
        refine bGo hA 2 4 (57, .iinc 3 (1), 3, 37, 0, [3], [(1, 0)]) rfl rfl rfl ?_
        refine bEqC (fun v => A (37, [.ref 6, .int (bn l1), .int (bn (bOr l2 0)), .int v], [], s13)) ((congrArg (fun w => bn l3 + w) bl_1).trans (bn_add l3 1)) ?_
        refine bGo hA 2 5 (60, .goto (-52), 3, 38, 6, [], []) rfl rfl rfl ?_
        exact (k14.2 c17).2
    · refine bGo hA 2 4 (57, .iinc 3 (1), 3, 37, 0, [3], [(1, 0)]) rfl rfl rfl ?_
      refine bEqC (fun v => A (37, [.ref 6, .int (bn l1), .int (bn l2), .int v], [], σ)) ((congrArg (fun w => bn l3 + w) bl_1).trans (bn_add l3 1)) ?_
      refine bGo hA 2 5 (60, .goto (-52), 3, 38, 6, [], []) rfl rfl rfl ?_
      exact ((h.1 c1).2 c2).2
  · refine bGo hA 2 6 (63, .iload_n 2, 1, 39, 0, [2], []) rfl rfl rfl ?_
    refine bGo hA 2 7 (64, .ireturn, 1, 0, 0, [1], []) rfl rfl rfl ?_
    exact (h.2 c1)

theorem sq80_0 {lvl : Nat} {C : bCall} {Q : bPost} {A : bPt → Prop} (hC : bMono C) (hA : bClosed lvl bm80 C Q A) {x1 : Int} {σ : bSt}  (h_x1 : bRg x1)
  (h : (C 70 [.ref 6] σ (bRv (fun s1 => A (7, [.ref 6, .int (bn x1), .int (bn (bi σ 6 13)), .int (bn 0), .float 0, .float 0], [], s1))))) : A (0, [.ref 6, .int (bn x1), .float 0, .float 0, .float 0, .float 0], [], σ) := by
  refine bGo hA 0 0 (0, .aload_n 0, 1, 1, 0, [0], []) rfl rfl rfl ?_
  refine bGo hA 0 1 (1, .getfield 179, 3, 2, 0, [6, 13, 0, 0, 0, 0], []) rfl rfl rfl ?_
  refine ⟨rfl, ?_⟩
  refine bEqI (bn_bi σ 6 13) ?_
  refine bGo hA 0 2 (4, .istore_n 2, 1, 3, 0, [2], []) rfl rfl rfl ?_
  refine bGo hA 0 3 (5, .aload_n 0, 1, 4, 0, [0], []) rfl rfl rfl ?_
  refine bGo hA 0 4 (6, .invokevirtual 170, 3, 5, 0, [0, 6, 70, 0], []) rfl rfl rfl ?_
  refine ⟨rfl, ?_⟩
  refine hC _ _ _ _ _ (bRv_e (fun s1 k2 => ?_)) h
  show A (5, [.ref 6, .int (bn x1), .int (bn (bi σ 6 13)), .float 0, .float 0, .float 0], [], s1)
  refine bGo hA 0 5 (9, .iconst (0), 1, 6, 0, [], [(0, 0)]) rfl rfl rfl ?_
  refine bEqI bl_0 ?_
  refine bGo hA 0 6 (10, .istore_n 3, 1, 7, 0, [3], []) rfl rfl rfl ?_
  exact k2

theorem sq80_7 {lvl : Nat} {C : bCall} {Q : bPost} {A : bPt → Prop} (hC : bMono C) (hA : bClosed lvl bm80 C Q A) {l1 : Int} {l2 : Int} {l3 : Int} {v4 : Value} {v5 : Value} {σ : bSt}  (h_l1 : bRg l1) (h_l2 : bRg l2) (h_l3 : bRg l3)
  (h : ((l3 < 16 → (((bAnd (bShr l1 l3) 1) = 1 → (C 69 [.ref 6, .int (bn l3)] σ (bRn (fun r5 s3 => (C 71 [.ref 6, .int (bn r5)] s3 (bRv (fun s7 => (bRg (l3 + 1) ∧ A (7, [.ref 6, .int (bn l1), .int (bn l2), .int (bn (l3 + 1)), v4, v5], [], s7))))))))) ∧ (¬ (bAnd (bShr l1 l3) 1) = 1 → (bRg (l3 + 1) ∧ A (7, [.ref 6, .int (bn l1), .int (bn l2), .int (bn (l3 + 1)), v4, v5], [], σ))))) ∧ (¬ l3 < 16 → A (26, [.ref 6, .int (bn l1), .int (bn l2), .int (bn 0), v4, v5], [], σ)))) : A (7, [.ref 6, .int (bn l1), .int (bn l2), .int (bn l3), v4, v5], [], σ) := by
  refine bGo hA 0 7 (11, .iload_n 3, 1, 8, 0, [3], []) rfl rfl rfl ?_
  refine bGo hA 0 8 (12, .bipush (16), 2, 9, 0, [], [(16, 0)]) rfl rfl rfl ?_
  refine bEqI bl_16 ?_
  refine bGo hA 0 9 (14, .if_icmp .ge (27), 3, 10, 24, [], []) rfl rfl rfl ?_
  refine bB_lt (x := l3) (y := 16) h_l3 (by decide : bRg 16) (fun c1 => ?_) (fun c1 => ?_)
  · refine bGo hA 0 10 (17, .iload_n 1, 1, 11, 0, [1], []) rfl rfl rfl ?_
    refine bGo hA 0 11 (18, .iload_n 3, 1, 12, 0, [3], []) rfl rfl rfl ?_
    refine bGo hA 0 12 (19, .ishr, 1, 13, 0, [], []) rfl rfl rfl ?_
    refine bEqI (bn_shr l1 l3) ?_
    refine bGo hA 0 13 (20, .iconst (1), 1, 14, 0, [], [(1, 0)]) rfl rfl rfl ?_
    refine bEqI bl_1 ?_
    refine bGo hA 0 14 (21, .iand, 1, 15, 0, [], []) rfl rfl rfl ?_
    refine bEqI (bn_and (bShr l1 l3) 1) ?_
    refine bGo hA 0 15 (22, .iconst (1), 1, 16, 0, [], [(1, 0)]) rfl rfl rfl ?_
    refine bEqI bl_1 ?_
    refine bGo hA 1 0 (23, .if_icmp .ne (12), 3, 17, 22, [], []) rfl rfl rfl ?_
    refine bB_eq (x := (bAnd (bShr l1 l3) 1)) (y := 1) (bRgI _) (by decide : bRg 1) (fun c2 => ?_) (fun c2 => ?_)
    · refine bGo hA 1 1 (26, .aload_n 0, 1, 18, 0, [0], []) rfl rfl rfl ?_
      refine bGo hA 1 2 (27, .aload_n 0, 1, 19, 0, [0], []) rfl rfl rfl ?_
      refine bGo hA 1 3 (28, .iload_n 3, 1, 20, 0, [3], []) rfl rfl rfl ?_
      refine bGo hA 1 4 (29, .invokevirtual 173, 3, 21, 0, [0, 6, 69, 1], []) rfl rfl rfl ?_
      refine ⟨rfl, ?_⟩
      refine hC _ _ _ _ _ (bRn_e (fun r5 s3 q6 k4 => ?_)) ((h.1 c1).1 c2)
      show A (21, [.ref 6, .int (bn l1), .int (bn l2), .int (bn l3), v4, v5], [.int (bn r5), .ref 6], s3)
      refine bGo hA 1 5 (32, .invokevirtual 176, 3, 22, 0, [0, 6, 71, 1], []) rfl rfl rfl ?_
      refine ⟨rfl, ?_⟩
      refine hC _ _ _ _ _ (bRv_e (fun s7 k8 => ?_)) k4
      show A (22, [.ref 6, .int (bn l1), .int (bn l2), .int (bn l3), v4, v5], [], s7)
      refine bGo hA 1 6 (35, .iinc 3 (1), 3, 23, 0, [3], [(1, 0)]) rfl rfl rfl ?_
      refine bEqC (fun v => A (23, [.ref 6, .int (bn l1), .int (bn l2), .int v, v4, v5], [], s7)) ((congrArg (fun w => bn l3 + w) bl_1).trans (bn_add l3 1)) ?_
      refine bGo hA 1 7 (38, .goto (-27), 3, 24, 7, [], []) rfl rfl rfl ?_
      exact k8.2
    · refine bGo hA 1 6 (35, .iinc 3 (1), 3, 23, 0, [3], [(1, 0)]) rfl rfl rfl ?_
      refine bEqC (fun v => A (23, [.ref 6, .int (bn l1), .int (bn l2), .int v, v4, v5], [], σ)) ((congrArg (fun w => bn l3 + w) bl_1).trans (bn_add l3 1)) ?_
      refine bGo hA 1 7 (38, .goto (-27), 3, 24, 7, [], []) rfl rfl rfl ?_
      exact ((h.1 c1).2 c2).2
  · refine bGo hA 1 8 (41, .iconst (0), 1, 25, 0, [], [(0, 0)]) rfl rfl rfl ?_
    refine bEqI bl_0 ?_
    refine bGo hA 1 9 (42, .istore_n 3, 1, 26, 0, [3], []) rfl rfl rfl ?_
    exact (h.2 c1)

theorem sq80_26 {lvl : Nat} {C : bCall} {Q : bPost} {A : bPt → Prop} (hC : bMono C) (hA : bClosed lvl bm80 C Q A) {v1 : Value} {l2 : Int} {l3 : Int} {v4 : Value} {v5 : Value} {σ : bSt}  (h_l2 : bRg l2) (h_l3 : bRg l3)
  (h : ((l3 < (bi σ 6 11) → (C 140 [.ref 28, .int (bn l3)] σ (bRn (fun r4 s2 => (C 86 [.ref 6, .int (bn r4)] s2 (bRn (fun r8 s6 => (C 88 [.ref 6] s6 (bRn (fun r12 s10 => ((r12 = (-1) → (bRg ((bi s10 6 13) + 1) ∧ (((120 : Int) < ((bi s10 6 13) + 1) → Q (.inl (some (.int (bn 0)))) (bw (bw s10 6 13 ((bi s10 6 13) + 1)) 6 13 l2)) ∧ (¬ (120 : Int) < ((bi s10 6 13) + 1) → (C 141 [.ref 30, .int (bn r4), .int (bn (bi s10 6 13))] (bw s10 6 13 ((bi s10 6 13) + 1)) (bRv (fun s16 => (bRg (l3 + 1) ∧ A (26, [.ref 6, v1, .int (bn l2), .int (bn (l3 + 1)), .int (bn r4), .int (bn (bi s10 6 13))], [], s16))))))))) ∧ (¬ r12 = (-1) → (((120 : Int) < (bi s10 6 13) → Q (.inl (some (.int (bn 0)))) (bw s10 6 13 l2)) ∧ (¬ (120 : Int) < (bi s10 6 13) → (C 141 [.ref 30, .int (bn r4), .int (bn r12)] s10 (bRv (fun s19 => (bRg (l3 + 1) ∧ A (26, [.ref 6, v1, .int (bn l2), .int (bn (l3 + 1)), .int (bn r4), .int (bn r12)], [], s19))))))))))))))))))) ∧ (¬ l3 < (bi σ 6 11) → Q (.inl (some (.int (bn 1)))) σ))) : A (26, [.ref 6, v1, .int (bn l2), .int (bn l3), v4, v5], [], σ) := by
  refine bGo hA 1 10 (43, .iload_n 3, 1, 27, 0, [3], []) rfl rfl rfl ?_
  refine bGo hA 1 11 (44, .aload_n 0, 1, 28, 0, [0], []) rfl rfl rfl ?_
  refine bGo hA 1 12 (45, .getfield 89, 3, 29, 0, [6, 11, 0, 0, 0, 0], []) rfl rfl rfl ?_
  refine ⟨rfl, ?_⟩
  refine bEqI (bn_bi σ 6 11) ?_
  refine bGo hA 1 13 (48, .if_icmp .ge (81), 3, 30, 70, [], []) rfl rfl rfl ?_
  refine bB_lt (x := l3) (y := (bi σ 6 11)) h_l3 (bi_rg _ _ _) (fun c1 => ?_) (fun c1 => ?_)
  · refine bGo hA 1 14 (51, .aload_n 0, 1, 31, 0, [0], []) rfl rfl rfl ?_
    refine bGo hA 1 15 (52, .getfield 15, 3, 32, 0, [6, 5, 3, 28, 1, 0], []) rfl rfl rfl ?_
    refine ⟨rfl, ?_⟩
    refine bGo hA 2 0 (55, .iload_n 3, 1, 33, 0, [3], []) rfl rfl rfl ?_
    refine bGo hA 2 1 (56, .invokestatic 100, 3, 34, 1, [2, 140, 2], []) rfl rfl rfl ?_
    refine hC _ _ _ _ _ (bRn_e (fun r4 s2 q5 k3 => ?_)) (h.1 c1)
    show A (34, [.ref 6, v1, .int (bn l2), .int (bn l3), v4, v5], [.int (bn r4)], s2)
    refine bGo hA 2 2 (59, .istore 4, 2, 35, 0, [4], []) rfl rfl rfl ?_
    refine bGo hA 2 3 (61, .aload_n 0, 1, 36, 0, [0], []) rfl rfl rfl ?_
    refine bGo hA 2 4 (62, .iload 4, 2, 37, 0, [4], []) rfl rfl rfl ?_
    refine bGo hA 2 5 (64, .invokevirtual 180, 3, 38, 0, [0, 6, 86, 1], []) rfl rfl rfl ?_
    refine ⟨rfl, ?_⟩
    refine hC _ _ _ _ _ (bRn_e (fun r8 s6 q9 k7 => ?_)) k3
    show A (38, [.ref 6, v1, .int (bn l2), .int (bn l3), .int (bn r4), v5], [.int (bn r8)], s6)
    refine bGo hA 2 6 (67, .pop, 1, 39, 0, [], []) rfl rfl rfl ?_
    refine bGo hA 2 7 (68, .aload_n 0, 1, 40, 0, [0], []) rfl rfl rfl ?_
    refine bGo hA 2 8 (69, .invokevirtual 183, 3, 41, 0, [0, 6, 88, 0], []) rfl rfl rfl ?_
    refine ⟨rfl, ?_⟩
    refine hC _ _ _ _ _ (bRn_e (fun r12 s10 q13 k11 => ?_)) k7
    show A (41, [.ref 6, v1, .int (bn l2), .int (bn l3), .int (bn r4), v5], [.int (bn r12)], s10)
    refine bGo hA 2 9 (72, .istore 5, 2, 42, 0, [5], []) rfl rfl rfl ?_
    refine bGo hA 2 10 (74, .iload 5, 2, 43, 0, [5], []) rfl rfl rfl ?_
    refine bGo hA 2 11 (76, .iconst (-1), 1, 44, 0, [], [(-1, 0)]) rfl rfl rfl ?_
    refine bEqI bl_m1 ?_
    refine bGo hA 2 12 (77, .if_icmp .ne (19), 3, 45, 54, [], []) rfl rfl rfl ?_
    refine bB_eq (x := r12) (y := (-1)) q13 (by decide : bRg (-1)) (fun c14 => ?_) (fun c14 => ?_)
    · refine bGo hA 2 13 (80, .aload_n 0, 1, 46, 0, [0], []) rfl rfl rfl ?_
      refine bGo hA 2 14 (81, .getfield 179, 3, 47, 0, [6, 13, 0, 0, 0, 0], []) rfl rfl rfl ?_
      refine ⟨rfl, ?_⟩
      refine bEqI (bn_bi s10 6 13) ?_
      refine bGo hA 2 15 (84, .istore 5, 2, 48, 0, [5], []) rfl rfl rfl ?_
      refine bGo hA 3 0 (86, .aload_n 0, 1, 49, 0, [0], []) rfl rfl rfl ?_
      refine bGo hA 3 1 (87, .dup, 1, 50, 0, [], []) rfl rfl rfl ?_
      refine bGo hA 3 2 (88, .getfield 179, 3, 51, 0, [6, 13, 0, 0, 0, 0], []) rfl rfl rfl ?_
      refine ⟨rfl, ?_⟩
      refine bEqI (bn_bi s10 6 13) ?_
      refine bGo hA 3 3 (91, .iconst (1), 1, 52, 0, [], [(1, 0)]) rfl rfl rfl ?_
      refine bEqI bl_1 ?_
      refine bGo hA 3 4 (92, .iadd, 1, 53, 0, [], []) rfl rfl rfl ?_
      refine bEqI (bn_add (bi s10 6 13) 1) ?_
      refine bGo hA 3 5 (93, .putfield 179, 3, 54, 0, [6, 13, 0, 0, 0, 0], []) rfl rfl rfl ?_
      refine ⟨rfl, ?_⟩
      refine bGo hA 3 6 (96, .aload_n 0, 1, 55, 0, [0], []) rfl rfl rfl ?_
      refine bGo hA 3 7 (97, .getfield 179, 3, 56, 0, [6, 13, 0, 0, 0, 0], []) rfl rfl rfl ?_
      refine ⟨rfl, ?_⟩
      refine bEqI ((bn_bi (bw s10 6 13 ((bi s10 6 13) + 1)) 6 13).trans (congrArg bn (bi_eq (k11.1 c14).1))) ?_
      refine bGo hA 3 8 (100, .bipush (120), 2, 57, 0, [], [(120, 0)]) rfl rfl rfl ?_
      refine bEqI bl_120 ?_
      refine bGo hA 3 9 (102, .if_icmp .le (10), 3, 58, 63, [], []) rfl rfl rfl ?_
      refine bB_lt (x := 120) (y := ((bi s10 6 13) + 1)) (by decide : bRg 120) (k11.1 c14).1 (fun c15 => ?_) (fun c15 => ?_)
      · refine bGo hA 3 10 (105, .aload_n 0, 1, 59, 0, [0], []) rfl rfl rfl ?_
        refine bGo hA 3 11 (106, .iload_n 2, 1, 60, 0, [2], []) rfl rfl rfl ?_
        refine bGo hA 3 12 (107, .putfield 179, 3, 61, 0, [6, 13, 0, 0, 0, 0], []) rfl rfl rfl ?_
        refine ⟨rfl, ?_⟩
        refine bGo hA 3 13 (110, .iconst (0), 1, 62, 0, [], [(0, 0)]) rfl rfl rfl ?_
        refine bEqI bl_0 ?_
        refine bGo hA 3 14 (111, .ireturn, 1, 63, 0, [2], []) rfl rfl rfl ?_
        exact ⟨b01 (Or.inl rfl), ((k11.1 c14).2.1 c15)⟩
      · refine bGo hA 3 15 (112, .aload_n 0, 1, 64, 0, [0], []) rfl rfl rfl ?_
        refine bGo hA 4 0 (113, .getfield 21, 3, 65, 0, [6, 7, 3, 30, 1, 0], []) rfl rfl rfl ?_
        refine ⟨rfl, ?_⟩
        refine bGo hA 4 1 (116, .iload 4, 2, 66, 0, [4], []) rfl rfl rfl ?_
        refine bGo hA 4 2 (118, .iload 5, 2, 67, 0, [5], []) rfl rfl rfl ?_
        refine bGo hA 4 3 (120, .invokestatic 107, 3, 68, 1, [2, 141, 3], []) rfl rfl rfl ?_
        refine hC _ _ _ _ _ (bRv_e (fun s16 k17 => ?_)) ((k11.1 c14).2.2 c15)
        show A (68, [.ref 6, v1, .int (bn l2), .int (bn l3), .int (bn r4), .int (bn (bi s10 6 13))], [], s16)
        refine bGo hA 4 4 (123, .iinc 3 (1), 3, 69, 0, [3], [(1, 0)]) rfl rfl rfl ?_
        refine bEqC (fun v => A (69, [.ref 6, v1, .int (bn l2), .int v, .int (bn r4), .int (bn (bi s10 6 13))], [], s16)) ((congrArg (fun w => bn l3 + w) bl_1).trans (bn_add l3 1)) ?_
        refine bGo hA 4 5 (126, .goto (-83), 3, 70, 26, [], []) rfl rfl rfl ?_
        exact k17.2
    · refine bGo hA 3 6 (96, .aload_n 0, 1, 55, 0, [0], []) rfl rfl rfl ?_
      refine bGo hA 3 7 (97, .getfield 179, 3, 56, 0, [6, 13, 0, 0, 0, 0], []) rfl rfl rfl ?_
      refine ⟨rfl, ?_⟩
      refine bEqI (bn_bi s10 6 13) ?_
      refine bGo hA 3 8 (100, .bipush (120), 2, 57, 0, [], [(120, 0)]) rfl rfl rfl ?_
      refine bEqI bl_120 ?_
      refine bGo hA 3 9 (102, .if_icmp .le (10), 3, 58, 63, [], []) rfl rfl rfl ?_
      refine bB_lt (x := 120) (y := (bi s10 6 13)) (by decide : bRg 120) (bi_rg _ _ _) (fun c18 => ?_) (fun c18 => ?_)
      · refine bGo hA 3 10 (105, .aload_n 0, 1, 59, 0, [0], []) rfl rfl rfl ?_
        refine bGo hA 3 11 (106, .iload_n 2, 1, 60, 0, [2], []) rfl rfl rfl ?_
        refine bGo hA 3 12 (107, .putfield 179, 3, 61, 0, [6, 13, 0, 0, 0, 0], []) rfl rfl rfl ?_
        refine ⟨rfl, ?_⟩
        refine bGo hA 3 13 (110, .iconst (0), 1, 62, 0, [], [(0, 0)]) rfl rfl rfl ?_
        refine bEqI bl_0 ?_
        refine bGo hA 3 14 (111, .ireturn, 1, 63, 0, [2], []) rfl rfl rfl ?_
        exact ⟨b01 (Or.inl rfl), ((k11.2 c14).1 c18)⟩
      · refine bGo hA 3 15 (112, .aload_n 0, 1, 64, 0, [0], []) rfl rfl rfl ?_
        refine bGo hA 4 0 (113, .getfield 21, 3, 65, 0, [6, 7, 3, 30, 1, 0], []) rfl rfl rfl ?_
        refine ⟨rfl, ?_⟩
        refine bGo hA 4 1 (116, .iload 4, 2, 66, 0, [4], []) rfl rfl rfl ?_
        refine bGo hA 4 2 (118, .iload 5, 2, 67, 0, [5], []) rfl rfl rfl ?_
        refine bGo hA 4 3 (120, .invokestatic 107, 3, 68, 1, [2, 141, 3], []) rfl rfl rfl ?_
        refine hC _ _ _ _ _ (bRv_e (fun s19 k20 => ?_)) ((k11.2 c14).2 c18)
        show A (68, [.ref 6, v1, .int (bn l2), .int (bn l3), .int (bn r4), .int (bn r12)], [], s19)
        refine bGo hA 4 4 (123, .iinc 3 (1), 3, 69, 0, [3], [(1, 0)]) rfl rfl rfl ?_
        refine bEqC (fun v => A (69, [.ref 6, v1, .int (bn l2), .int v, .int (bn r4), .int (bn r12)], [], s19)) ((congrArg (fun w => bn l3 + w) bl_1).trans (bn_add l3 1)) ?_
        refine bGo hA 4 5 (126, .goto (-83), 3, 70, 26, [], []) rfl rfl rfl ?_
        exact k20.2
  · refine bGo hA 4 6 (129, .iconst (1), 1, 71, 0, [], [(1, 0)]) rfl rfl rfl ?_
    refine bEqI bl_1 ?_
    refine bGo hA 4 7 (130, .ireturn, 1, 0, 0, [2], []) rfl rfl rfl ?_
    exact ⟨b01 (Or.inr rfl), (h.2 c1)⟩

theorem sq81_0 {lvl : Nat} {C : bCall} {Q : bPost} {A : bPt → Prop} (hC : bMono C) (hA : bClosed lvl bm81 C Q A)  {σ : bSt}  
  (h : A (2, [.ref 6, .int (bn 0), .float 0, .float 0], [], σ)) : A (0, [.ref 6, .float 0, .float 0, .float 0], [], σ) := by
  refine bGo hA 0 0 (0, .iconst (0), 1, 1, 0, [], [(0, 0)]) rfl rfl rfl ?_
  refine bEqI bl_0 ?_
  refine bGo hA 0 1 (1, .istore_n 1, 1, 2, 0, [1], []) rfl rfl rfl ?_
  exact h

theorem sq81_2 {lvl : Nat} {C : bCall} {Q : bPost} {A : bPt → Prop} (hC : bMono C) (hA : bClosed lvl bm81 C Q A) {l1 : Int} {v2 : Value} {v3 : Value} {σ : bSt}  (h_l1 : bRg l1)
  (h : ((l1 < (bi σ 6 11) → (C 140 [.ref 28, .int (bn l1)] σ (bRn (fun r4 s2 => (C 140 [.ref 30, .int (bn r4)] s2 (bRn (fun r8 s6 => (C 89 [.ref 6, .int (bn r8)] s6 (bRa (fun r12 s10 => (r12 % 256 = 0 ∧ (((bi s10 r12 5) = 0 → (C 120 [.ref 9, .int (bn (bShr r4 8))] (bw s10 r12 5 1) (bRa (fun r16 s14 => (C 7 [.ref r12, .ref r16] s14 (bRv (fun s17 => (bRg (l1 + 1) ∧ A (2, [.ref 6, .int (bn (l1 + 1)), .int (bn r4), .ref r12], [], s17))))))))) ∧ (¬ (bi s10 r12 5) = 0 → (bRg (l1 + 1) ∧ A (2, [.ref 6, .int (bn (l1 + 1)), .int (bn r4), .ref r12], [], s10))))))))))))))) ∧ (¬ l1 < (bi σ 6 11) → Q (.inl none) σ))) : A (2, [.ref 6, .int (bn l1), v2, v3], [], σ) := by
  refine bGo hA 0 2 (2, .iload_n 1, 1, 3, 0, [1], []) rfl rfl rfl ?_
  refine bGo hA 0 3 (3, .aload_n 0, 1, 4, 0, [0], []) rfl rfl rfl ?_
  refine bGo hA 0 4 (4, .getfield 89, 3, 5, 0, [6, 11, 0, 0, 0, 0], []) rfl rfl rfl ?_
  refine ⟨rfl, ?_⟩
  refine bEqI (bn_bi σ 6 11) ?_
  refine bGo hA 0 5 (7, .if_icmp .ge (58), 3, 6, 34, [], []) rfl rfl rfl ?_
  refine bB_lt (x := l1) (y := (bi σ 6 11)) h_l1 (bi_rg _ _ _) (fun c1 => ?_) (fun c1 => ?_)
  · refine bGo hA 0 6 (10, .aload_n 0, 1, 7, 0, [0], []) rfl rfl rfl ?_
    refine bGo hA 0 7 (11, .getfield 15, 3, 8, 0, [6, 5, 3, 28, 1, 0], []) rfl rfl rfl ?_
    refine ⟨rfl, ?_⟩
    refine bGo hA 0 8 (14, .iload_n 1, 1, 9, 0, [1], []) rfl rfl rfl ?_
    refine bGo hA 0 9 (15, .invokestatic 100, 3, 10, 1, [2, 140, 2], []) rfl rfl rfl ?_
    refine hC _ _ _ _ _ (bRn_e (fun r4 s2 q5 k3 => ?_)) (h.1 c1)
    show A (10, [.ref 6, .int (bn l1), v2, v3], [.int (bn r4)], s2)
    refine bGo hA 0 10 (18, .istore_n 2, 1, 11, 0, [2], []) rfl rfl rfl ?_
    refine bGo hA 0 11 (19, .aload_n 0, 1, 12, 0, [0], []) rfl rfl rfl ?_
    refine bGo hA 0 12 (20, .aload_n 0, 1, 13, 0, [0], []) rfl rfl rfl ?_
    refine bGo hA 0 13 (21, .getfield 21, 3, 14, 0, [6, 7, 3, 30, 1, 0], []) rfl rfl rfl ?_
    refine ⟨rfl, ?_⟩
    refine bGo hA 0 14 (24, .iload_n 2, 1, 15, 0, [2], []) rfl rfl rfl ?_
    refine bGo hA 0 15 (25, .invokestatic 100, 3, 16, 1, [2, 140, 2], []) rfl rfl rfl ?_
    refine hC _ _ _ _ _ (bRn_e (fun r8 s6 q9 k7 => ?_)) k3
    show A (16, [.ref 6, .int (bn l1), .int (bn r4), v3], [.int (bn r8), .ref 6], s6)
    refine bGo hA 1 0 (28, .invokevirtual 187, 3, 17, 0, [0, 6, 89, 1], []) rfl rfl rfl ?_
    refine ⟨rfl, ?_⟩
    refine hC _ _ _ _ _ (bRa_e (fun r12 s10 k11 => ?_)) k7
    show A (17, [.ref 6, .int (bn l1), .int (bn r4), v3], [.ref r12], s10)
    refine bGo hA 1 1 (31, .astore_n 3, 1, 18, 0, [3], []) rfl rfl rfl ?_
    refine bGo hA 1 2 (32, .aload_n 3, 1, 19, 0, [3], []) rfl rfl rfl ?_
    refine bGo hA 1 3 (33, .getfield 191, 3, 20, 0, [0, 5, 1, 0, 0, 0], []) rfl rfl rfl ?_
    refine ⟨k11.1, ?_⟩
    refine bEqI (bn_bi s10 r12 5) ?_
    refine bGo hA 1 4 (36, .ifCond .ne (23), 3, 21, 32, [], []) rfl rfl rfl ?_
    refine bB_eq0 (x := (bi s10 r12 5)) (bi_rg _ _ _) (fun c13 => ?_) (fun c13 => ?_)
    · refine bGo hA 1 5 (39, .aload_n 3, 1, 22, 0, [3], []) rfl rfl rfl ?_
      refine bGo hA 1 6 (40, .iconst (1), 1, 23, 0, [], [(1, 0)]) rfl rfl rfl ?_
      refine bEqI bl_1 ?_
      refine bGo hA 1 7 (41, .putfield 191, 3, 24, 0, [0, 5, 1, 0, 0, 0], []) rfl rfl rfl ?_
      refine ⟨k11.1, b01 (Or.inr rfl), ?_⟩
      refine bGo hA 1 8 (44, .aload_n 3, 1, 25, 0, [3], []) rfl rfl rfl ?_
      refine bGo hA 1 9 (45, .aload_n 0, 1, 26, 0, [0], []) rfl rfl rfl ?_
      refine bGo hA 1 10 (46, .getfield 53, 3, 27, 0, [6, 3, 3, 9, 0, 0], []) rfl rfl rfl ?_
      refine ⟨rfl, ?_⟩
      refine bGo hA 1 11 (49, .iload_n 2, 1, 28, 0, [2], []) rfl rfl rfl ?_
      refine bGo hA 1 12 (50, .bipush (8), 2, 29, 0, [], [(8, 0)]) rfl rfl rfl ?_
      refine bEqI bl_8 ?_
      refine bGo hA 1 13 (52, .ishr, 1, 30, 0, [], []) rfl rfl rfl ?_
      refine bEqI (bn_shr r4 8) ?_
      refine bGo hA 1 14 (53, .invokevirtual 63, 3, 31, 0, [0, 9, 120, 1], []) rfl rfl rfl ?_
      refine ⟨rfl, ?_⟩
      refine hC _ _ _ _ _ (bRa_e (fun r16 s14 k15 => ?_)) (k11.2.1 c13)
      show A (31, [.ref 6, .int (bn l1), .int (bn r4), .ref r12], [.ref r16, .ref r12], s14)
      refine bGo hA 1 15 (56, .invokevirtual 195, 3, 32, 0, [0, 0, 7, 1], []) rfl rfl rfl ?_
      refine ⟨k11.1, ?_⟩
      refine hC _ _ _ _ _ (bRv_e (fun s17 k18 => ?_)) k15
      show A (32, [.ref 6, .int (bn l1), .int (bn r4), .ref r12], [], s17)
      refine bGo hA 2 0 (59, .iinc 1 (1), 3, 33, 0, [1], [(1, 0)]) rfl rfl rfl ?_
      refine bEqC (fun v => A (33, [.ref 6, .int v, .int (bn r4), .ref r12], [], s17)) ((congrArg (fun w => bn l1 + w) bl_1).trans (bn_add l1 1)) ?_
      refine bGo hA 2 1 (62, .goto (-60), 3, 34, 2, [], []) rfl rfl rfl ?_
      exact k18.2
    · refine bGo hA 2 0 (59, .iinc 1 (1), 3, 33, 0, [1], [(1, 0)]) rfl rfl rfl ?_
      refine bEqC (fun v => A (33, [.ref 6, .int v, .int (bn r4), .ref r12], [], s10)) ((congrArg (fun w => bn l1 + w) bl_1).trans (bn_add l1 1)) ?_
      refine bGo hA 2 1 (62, .goto (-60), 3, 34, 2, [], []) rfl rfl rfl ?_
      exact (k11.2.2 c13).2
  · refine bGo hA 2 2 (65, .return_, 1, 0, 0, [0], []) rfl rfl rfl ?_
    exact (h.2 c1)

theorem sq82_0 {lvl : Nat} {C : bCall} {Q : bPost} {A : bPt → Prop} (hC : bMono C) (hA : bClosed lvl bm82 C Q A) {x1 : Int} {σ : bSt}  (h_x1 : bRg x1)
  (h : (C 69 [.ref 6, .int (bn x1)] σ (bRn (fun r3 s1 => (C 140 [.ref 30, .int (bn r3)] s1 (bRn (fun r7 s5 => (C 89 [.ref 6, .int (bn r7)] s5 (bRa (fun r11 s9 => Q (.inl (some (.ref r11))) s9)))))))))) : A (0, [.ref 6, .int (bn x1)], [], σ) := by
  refine bGo hA 0 0 (0, .aload_n 0, 1, 1, 0, [0], []) rfl rfl rfl ?_
  refine bGo hA 0 1 (1, .aload_n 0, 1, 2, 0, [0], []) rfl rfl rfl ?_
  refine bGo hA 0 2 (2, .getfield 21, 3, 3, 0, [6, 7, 3, 30, 1, 0], []) rfl rfl rfl ?_
  refine ⟨rfl, ?_⟩
  refine bGo hA 0 3 (5, .aload_n 0, 1, 4, 0, [0], []) rfl rfl rfl ?_
  refine bGo hA 0 4 (6, .iload_n 1, 1, 5, 0, [1], []) rfl rfl rfl ?_
  refine bGo hA 0 5 (7, .invokevirtual 173, 3, 6, 0, [0, 6, 69, 1], []) rfl rfl rfl ?_
  refine ⟨rfl, ?_⟩
  refine hC _ _ _ _ _ (bRn_e (fun r3 s1 q4 k2 => ?_)) h
  show A (6, [.ref 6, .int (bn x1)], [.int (bn r3), .ref 30, .ref 6], s1)
  refine bGo hA 0 6 (10, .invokestatic 100, 3, 7, 1, [2, 140, 2], []) rfl rfl rfl ?_
  refine hC _ _ _ _ _ (bRn_e (fun r7 s5 q8 k6 => ?_)) k2
  show A (7, [.ref 6, .int (bn x1)], [.int (bn r7), .ref 6], s5)
  refine bGo hA 0 7 (13, .invokevirtual 187, 3, 8, 0, [0, 6, 89, 1], []) rfl rfl rfl ?_
  refine ⟨rfl, ?_⟩
  refine hC _ _ _ _ _ (bRa_e (fun r11 s9 k10 => ?_)) k6
  show A (8, [.ref 6, .int (bn x1)], [.ref r11], s9)
  refine bGo hA 0 8 (16, .areturn, 1, 0, 0, [4], []) rfl rfl rfl ?_
  exact k10

theorem sq83_0 {lvl : Nat} {C : bCall} {Q : bPost} {A : bPt → Prop} (hC : bMono C) (hA : bClosed lvl bm83 C Q A) {x1 : Int} {σ : bSt}  (h_x1 : bRg x1)
  (h : (C 70 [.ref 6] σ (bRv (fun s1 => (C 69 [.ref 6, .int (bn x1)] s1 (bRn (fun r5 s3 => (C 71 [.ref 6, .int (bn r5)] s3 (bRv (fun s7 => A (9, [.ref 6, .int (bn x1), .int (bn 0), .float 0, .float 0], [], s7))))))))))) : A (0, [.ref 6, .int (bn x1), .float 0, .float 0, .float 0], [], σ) := by
  refine bGo hA 0 0 (0, .aload_n 0, 1, 1, 0, [0], []) rfl rfl rfl ?_
  refine bGo hA 0 1 (1, .invokevirtual 170, 3, 2, 0, [0, 6, 70, 0], []) rfl rfl rfl ?_
  refine ⟨rfl, ?_⟩
  refine hC _ _ _ _ _ (bRv_e (fun s1 k2 => ?_)) h
  show A (2, [.ref 6, .int (bn x1), .float 0, .float 0, .float 0], [], s1)
  refine bGo hA 0 2 (4, .aload_n 0, 1, 3, 0, [0], []) rfl rfl rfl ?_
  refine bGo hA 0 3 (5, .aload_n 0, 1, 4, 0, [0], []) rfl rfl rfl ?_
  refine bGo hA 0 4 (6, .iload_n 1, 1, 5, 0, [1], []) rfl rfl rfl ?_
  refine bGo hA 0 5 (7, .invokevirtual 173, 3, 6, 0, [0, 6, 69, 1], []) rfl rfl rfl ?_
  refine ⟨rfl, ?_⟩
  refine hC _ _ _ _ _ (bRn_e (fun r5 s3 q6 k4 => ?_)) k2
  show A (6, [.ref 6, .int (bn x1), .float 0, .float 0, .float 0], [.int (bn r5), .ref 6], s3)
  refine bGo hA 0 6 (10, .invokevirtual 176, 3, 7, 0, [0, 6, 71, 1], []) rfl rfl rfl ?_
  refine ⟨rfl, ?_⟩
  refine hC _ _ _ _ _ (bRv_e (fun s7 k8 => ?_)) k4
  show A (7, [.ref 6, .int (bn x1), .float 0, .float 0, .float 0], [], s7)
  refine bGo hA 0 7 (13, .iconst (0), 1, 8, 0, [], [(0, 0)]) rfl rfl rfl ?_
  refine bEqI bl_0 ?_
  refine bGo hA 0 8 (14, .istore_n 2, 1, 9, 0, [2], []) rfl rfl rfl ?_
  exact k8

theorem sq83_9 {lvl : Nat} {C : bCall} {Q : bPost} {A : bPt → Prop} (hC : bMono C) (hA : bClosed lvl bm83 C Q A) {l1 : Int} {l2 : Int} {v3 : Value} {v4 : Value} {σ : bSt}  (h_l1 : bRg l1) (h_l2 : bRg l2)
  (h : ((l2 < (bi σ 6 11) → (C 140 [.ref 28, .int (bn l2)] σ (bRn (fun r4 s2 => (C 140 [.ref 29, .int (bn r4)] s2 (bRn (fun r8 s6 => ((r8 = 0 → (C 86 [.ref 6, .int (bn r4)] s6 (bRn (fun r13 s11 => ((r13 = 0 → (C 141 [.ref 30, .int (bn r4), .int (bn (-1))] s11 (bRv (fun s17 => (bRg (l2 + 1) ∧ A (9, [.ref 6, .int (bn l1), .int (bn (l2 + 1)), .int (bn r4), .int (bn 0)], [], s17)))))) ∧ (¬ r13 = 0 → (C 88 [.ref 6] s11 (bRn (fun r22 s20 => (C 141 [.ref 30, .int (bn r4), .int (bn r22)] s20 (bRv (fun s24 => (bRg (l2 + 1) ∧ A (9, [.ref 6, .int (bn l1), .int (bn (l2 + 1)), .int (bn r4), .int (bn 1)], [], s24)))))))))))))) ∧ (¬ r8 = 0 → (C 141 [.ref 30, .int (bn r4), .int (bn (-1))] s6 (bRv (fun s27 => (bRg (l2 + 1) ∧ A (9, [.ref 6, .int (bn l1), .int (bn (l2 + 1)), .int (bn r4), .int (bn 0)], [], s27)))))))))))))) ∧ (¬ l2 < (bi σ 6 11) → (C 69 [.ref 6, .int (bn l1)] σ (bRn (fun r31 s29 => (C 140 [.ref 30, .int (bn r31)] s29 (bRn (fun r35 s33 => Q (.inl (some (.int (bn r35)))) s33))))))))) : A (9, [.ref 6, .int (bn l1), .int (bn l2), v3, v4], [], σ) := by
  refine bGo hA 0 9 (15, .iload_n 2, 1, 10, 0, [2], []) rfl rfl rfl ?_
  refine bGo hA 0 10 (16, .aload_n 0, 1, 11, 0, [0], []) rfl rfl rfl ?_
  refine bGo hA 0 11 (17, .getfield 89, 3, 12, 0, [6, 11, 0, 0, 0, 0], []) rfl rfl rfl ?_
  refine ⟨rfl, ?_⟩
  refine bEqI (bn_bi σ 6 11) ?_
  refine bGo hA 0 12 (20, .if_icmp .ge (65), 3, 13, 43, [], []) rfl rfl rfl ?_
  refine bB_lt (x := l2) (y := (bi σ 6 11)) h_l2 (bi_rg _ _ _) (fun c1 => ?_) (fun c1 => ?_)
  · refine bGo hA 0 13 (23, .aload_n 0, 1, 14, 0, [0], []) rfl rfl rfl ?_
    refine bGo hA 0 14 (24, .getfield 15, 3, 15, 0, [6, 5, 3, 28, 1, 0], []) rfl rfl rfl ?_
    refine ⟨rfl, ?_⟩
    refine bGo hA 0 15 (27, .iload_n 2, 1, 16, 0, [2], []) rfl rfl rfl ?_
    refine bGo hA 1 0 (28, .invokestatic 100, 3, 17, 1, [2, 140, 2], []) rfl rfl rfl ?_
    refine hC _ _ _ _ _ (bRn_e (fun r4 s2 q5 k3 => ?_)) (h.1 c1)
    show A (17, [.ref 6, .int (bn l1), .int (bn l2), v3, v4], [.int (bn r4)], s2)
    refine bGo hA 1 1 (31, .istore_n 3, 1, 18, 0, [3], []) rfl rfl rfl ?_
    refine bGo hA 1 2 (32, .aload_n 0, 1, 19, 0, [0], []) rfl rfl rfl ?_
    refine bGo hA 1 3 (33, .getfield 18, 3, 20, 0, [6, 6, 3, 29, 1, 0], []) rfl rfl rfl ?_
    refine ⟨rfl, ?_⟩
    refine bGo hA 1 4 (36, .iload_n 3, 1, 21, 0, [3], []) rfl rfl rfl ?_
    refine bGo hA 1 5 (37, .invokestatic 100, 3, 22, 1, [2, 140, 2], []) rfl rfl rfl ?_
    refine hC _ _ _ _ _ (bRn_e (fun r8 s6 q9 k7 => ?_)) k3
    show A (22, [.ref 6, .int (bn l1), .int (bn l2), .int (bn r4), v4], [.int (bn r8)], s6)
    refine bGo hA 1 6 (40, .ifCond .ne (15), 3, 23, 29, [], []) rfl rfl rfl ?_
    refine bB_eq0 (x := r8) q9 (fun c10 => ?_) (fun c10 => ?_)
    · refine bGo hA 1 7 (43, .aload_n 0, 1, 24, 0, [0], []) rfl rfl rfl ?_
      refine bGo hA 1 8 (44, .iload_n 3, 1, 25, 0, [3], []) rfl rfl rfl ?_
      refine bGo hA 1 9 (45, .invokevirtual 180, 3, 26, 0, [0, 6, 86, 1], []) rfl rfl rfl ?_
      refine ⟨rfl, ?_⟩
      refine hC _ _ _ _ _ (bRn_e (fun r13 s11 q14 k12 => ?_)) (k7.1 c10)
      show A (26, [.ref 6, .int (bn l1), .int (bn l2), .int (bn r4), v4], [.int (bn r13)], s11)
      refine bGo hA 1 10 (48, .ifCond .eq (7), 3, 27, 29, [], []) rfl rfl rfl ?_
      refine bB_eq0 (x := r13) q14 (fun c15 => ?_) (fun c15 => ?_)
      · refine bGo hA 1 13 (55, .iconst (0), 1, 30, 0, [], [(0, 0)]) rfl rfl rfl ?_
        refine bEqI bl_0 ?_
        refine bGo hA 1 14 (56, .istore 4, 2, 31, 0, [4], []) rfl rfl rfl ?_
        refine bGo hA 1 15 (58, .aload_n 0, 1, 32, 0, [0], []) rfl rfl rfl ?_
        refine bGo hA 2 0 (59, .getfield 21, 3, 33, 0, [6, 7, 3, 30, 1, 0], []) rfl rfl rfl ?_
        refine ⟨rfl, ?_⟩
        refine bGo hA 2 1 (62, .iload_n 3, 1, 34, 0, [3], []) rfl rfl rfl ?_
        refine bGo hA 2 2 (63, .iload 4, 2, 35, 0, [4], []) rfl rfl rfl ?_
        refine bGo hA 2 3 (65, .ifCond .eq (10), 3, 36, 39, [], []) rfl rfl rfl ?_
        refine ⟨fun _ => ?_, fun c => absurd (by decide) c⟩
        refine bGo hA 2 7 (75, .iconst (-1), 1, 40, 0, [], [(-1, 0)]) rfl rfl rfl ?_
        refine bEqI bl_m1 ?_
        refine bGo hA 2 8 (76, .invokestatic 107, 3, 41, 1, [2, 141, 3], []) rfl rfl rfl ?_
        refine hC _ _ _ _ _ (bRv_e (fun s17 k18 => ?_)) (k12.1 c15)
        show A (41, [.ref 6, .int (bn l1), .int (bn l2), .int (bn r4), .int (bn 0)], [], s17)
        refine bGo hA 2 9 (79, .iinc 2 (1), 3, 42, 0, [2], [(1, 0)]) rfl rfl rfl ?_
        refine bEqC (fun v => A (42, [.ref 6, .int (bn l1), .int v, .int (bn r4), .int (bn 0)], [], s17)) ((congrArg (fun w => bn l2 + w) bl_1).trans (bn_add l2 1)) ?_
        refine bGo hA 2 10 (82, .goto (-67), 3, 43, 9, [], []) rfl rfl rfl ?_
        exact k18.2
      · refine bGo hA 1 11 (51, .iconst (1), 1, 28, 0, [], [(1, 0)]) rfl rfl rfl ?_
        refine bEqI bl_1 ?_
        refine bGo hA 1 12 (52, .goto (4), 3, 29, 30, [], []) rfl rfl rfl ?_
        refine bGo hA 1 14 (56, .istore 4, 2, 31, 0, [4], []) rfl rfl rfl ?_
        refine bGo hA 1 15 (58, .aload_n 0, 1, 32, 0, [0], []) rfl rfl rfl ?_
        refine bGo hA 2 0 (59, .getfield 21, 3, 33, 0, [6, 7, 3, 30, 1, 0], []) rfl rfl rfl ?_
        refine ⟨rfl, ?_⟩
        refine bGo hA 2 1 (62, .iload_n 3, 1, 34, 0, [3], []) rfl rfl rfl ?_
        refine bGo hA 2 2 (63, .iload 4, 2, 35, 0, [4], []) rfl rfl rfl ?_
        refine bGo hA 2 3 (65, .ifCond .eq (10), 3, 36, 39, [], []) rfl rfl rfl ?_
        refine ⟨fun c => absurd c (by decide), fun _ => ?_⟩
        refine bGo hA 2 4 (68, .aload_n 0, 1, 37, 0, [0], []) rfl rfl rfl ?_
        refine bGo hA 2 5 (69, .invokevirtual 183, 3, 38, 0, [0, 6, 88, 0], []) rfl rfl rfl ?_
        refine ⟨rfl, ?_⟩
        refine hC _ _ _ _ _ (bRn_e (fun r22 s20 q23 k21 => ?_)) (k12.2 c15)
        show A (38, [.ref 6, .int (bn l1), .int (bn l2), .int (bn r4), .int (bn 1)], [.int (bn r22), .int (bn r4), .ref 30], s20)
        refine bGo hA 2 6 (72, .goto (4), 3, 39, 40, [], []) rfl rfl rfl ?_
        refine bGo hA 2 8 (76, .invokestatic 107, 3, 41, 1, [2, 141, 3], []) rfl rfl rfl ?_
        refine hC _ _ _ _ _ (bRv_e (fun s24 k25 => ?_)) k21
        show A (41, [.ref 6, .int (bn l1), .int (bn l2), .int (bn r4), .int (bn 1)], [], s24)
        refine bGo hA 2 9 (79, .iinc 2 (1), 3, 42, 0, [2], [(1, 0)]) rfl rfl rfl ?_
        refine bEqC (fun v => A (42, [.ref 6, .int (bn l1), .int v, .int (bn r4), .int (bn 1)], [], s24)) ((congrArg (fun w => bn l2 + w) bl_1).trans (bn_add l2 1)) ?_
        refine bGo hA 2 10 (82, .goto (-67), 3, 43, 9, [], []) rfl rfl rfl ?_
        exact k25.2
    · refine bGo hA 1 13 (55, .iconst (0), 1, 30, 0, [], [(0, 0)]) rfl rfl rfl ?_
      refine bEqI bl_0 ?_
      refine bGo hA 1 14 (56, .istore 4, 2, 31, 0, [4], []) rfl rfl rfl ?_
      refine bGo hA 1 15 (58, .aload_n 0, 1, 32, 0, [0], []) rfl rfl rfl ?_
      refine bGo hA 2 0 (59, .getfield 21, 3, 33, 0, [6, 7, 3, 30, 1, 0], []) rfl rfl rfl ?_
      refine ⟨rfl, ?_⟩
      refine bGo hA 2 1 (62, .iload_n 3, 1, 34, 0, [3], []) rfl rfl rfl ?_
      refine bGo hA 2 2 (63, .iload 4, 2, 35, 0, [4], []) rfl rfl rfl ?_
      refine bGo hA 2 3 (65, .ifCond .eq (10), 3, 36, 39, [], []) rfl rfl rfl ?_
      refine ⟨fun _ => ?_, fun c => absurd (by decide) c⟩
      refine bGo hA 2 7 (75, .iconst (-1), 1, 40, 0, [], [(-1, 0)]) rfl rfl rfl ?_
      refine bEqI bl_m1 ?_
      refine bGo hA 2 8 (76, .invokestatic 107, 3, 41, 1, [2, 141, 3], []) rfl rfl rfl ?_
      refine hC _ _ _ _ _ (bRv_e (fun s27 k28 => ?_)) (k7.2 c10)
      show A (41, [.ref 6, .int (bn l1), .int (bn l2), .int (bn r4), .int (bn 0)], [], s27)
      refine bGo hA 2 9 (79, .iinc 2 (1), 3, 42, 0, [2], [(1, 0)]) rfl rfl rfl ?_
      refine bEqC (fun v => A (42, [.ref 6, .int (bn l1), .int v, .int (bn r4), .int (bn 0)], [], s27)) ((congrArg (fun w => bn l2 + w) bl_1).trans (bn_add l2 1)) ?_
      refine bGo hA 2 10 (82, .goto (-67), 3, 43, 9, [], []) rfl rfl rfl ?_
      exact k28.2
  · refine bGo hA 2 11 (85, .aload_n 0, 1, 44, 0, [0], []) rfl rfl rfl ?_
    refine bGo hA 2 12 (86, .getfield 21, 3, 45, 0, [6, 7, 3, 30, 1, 0], []) rfl rfl rfl ?_
    refine ⟨rfl, ?_⟩
    refine bGo hA 2 13 (89, .aload_n 0, 1, 46, 0, [0], []) rfl rfl rfl ?_
    refine bGo hA 2 14 (90, .iload_n 1, 1, 47, 0, [1], []) rfl rfl rfl ?_
    refine bGo hA 2 15 (91, .invokevirtual 173, 3, 48, 0, [0, 6, 69, 1], []) rfl rfl rfl ?_
    refine ⟨rfl, ?_⟩
    refine hC _ _ _ _ _ (bRn_e (fun r31 s29 q32 k30 => ?_)) (h.2 c1)
    show A (48, [.ref 6, .int (bn l1), .int (bn l2), v3, v4], [.int (bn r31), .ref 30], s29)
    refine bGo hA 3 0 (94, .invokestatic 100, 3, 49, 1, [2, 140, 2], []) rfl rfl rfl ?_
    refine hC _ _ _ _ _ (bRn_e (fun r35 s33 q36 k34 => ?_)) k30
    show A (49, [.ref 6, .int (bn l1), .int (bn l2), v3, v4], [.int (bn r35)], s33)
    refine bGo hA 3 1 (97, .ireturn, 1, 0, 0, [1], []) rfl rfl rfl ?_
    exact k34

theorem sq84_0 {lvl : Nat} {C : bCall} {Q : bPost} {A : bPt → Prop} (hC : bMono C) (hA : bClosed lvl bm84 C Q A) {x1 : Int} {σ : bSt}  (h_x1 : bRg x1)
  (h : (C 70 [.ref 6] σ (bRv (fun s1 => (C 69 [.ref 6, .int (bn x1)] s1 (bRn (fun r5 s3 => (C 71 [.ref 6, .int (bn r5)] s3 (bRv (fun s7 => A (9, [.ref 6, .int (bn x1), .int (bn 0), .float 0, .float 0], [], s7))))))))))) : A (0, [.ref 6, .int (bn x1), .float 0, .float 0, .float 0], [], σ) := by
  refine bGo hA 0 0 (0, .aload_n 0, 1, 1, 0, [0], []) rfl rfl rfl ?_
  refine bGo hA 0 1 (1, .invokevirtual 170, 3, 2, 0, [0, 6, 70, 0], []) rfl rfl rfl ?_
  refine ⟨rfl, ?_⟩
  refine hC _ _ _ _ _ (bRv_e (fun s1 k2 => ?_)) h
  show A (2, [.ref 6, .int (bn x1), .float 0, .float 0, .float 0], [], s1)
  refine bGo hA 0 2 (4, .aload_n 0, 1, 3, 0, [0], []) rfl rfl rfl ?_
  refine bGo hA 0 3 (5, .aload_n 0, 1, 4, 0, [0], []) rfl rfl rfl ?_
  refine bGo hA 0 4 (6, .iload_n 1, 1, 5, 0, [1], []) rfl rfl rfl ?_
  refine bGo hA 0 5 (7, .invokevirtual 173, 3, 6, 0, [0, 6, 69, 1], []) rfl rfl rfl ?_
  refine ⟨rfl, ?_⟩
  refine hC _ _ _ _ _ (bRn_e (fun r5 s3 q6 k4 => ?_)) k2
  show A (6, [.ref 6, .int (bn x1), .float 0, .float 0, .float 0], [.int (bn r5), .ref 6], s3)
  refine bGo hA 0 6 (10, .invokevirtual 176, 3, 7, 0, [0, 6, 71, 1], []) rfl rfl rfl ?_
  refine ⟨rfl, ?_⟩
  refine hC _ _ _ _ _ (bRv_e (fun s7 k8 => ?_)) k4
  show A (7, [.ref 6, .int (bn x1), .float 0, .float 0, .float 0], [], s7)
  refine bGo hA 0 7 (13, .iconst (0), 1, 8, 0, [], [(0, 0)]) rfl rfl rfl ?_
  refine bEqI bl_0 ?_
  refine bGo hA 0 8 (14, .istore_n 2, 1, 9, 0, [2], []) rfl rfl rfl ?_
  exact k8

theorem sq84_9 {lvl : Nat} {C : bCall} {Q : bPost} {A : bPt → Prop} (hC : bMono C) (hA : bClosed lvl bm84 C Q A) {l1 : Int} {l2 : Int} {v3 : Value} {v4 : Value} {σ : bSt}  (h_l1 : bRg l1) (h_l2 : bRg l2)
  (h : ((l2 < (bi σ 6 11) → (C 140 [.ref 28, .int (bn l2)] σ (bRn (fun r4 s2 => (C 140 [.ref 29, .int (bn r4)] s2 (bRn (fun r8 s6 => ((r8 = 0 → (C 86 [.ref 6, .int (bn r4)] s6 (bRn (fun r13 s11 => ((r13 = 0 → (C 141 [.ref 30, .int (bn r4), .int (bn (-1))] s11 (bRv (fun s16 => (bRg (l2 + 1) ∧ A (9, [.ref 6, .int (bn l1), .int (bn (l2 + 1)), .int (bn r4), .int (bn (-1))], [], s16)))))) ∧ (¬ r13 = 0 → (C 87 [.ref 6] s11 (bRa (fun r20 s18 => (C 85 [.ref 6, .ref r20] s18 (bRn (fun r23 s21 => (C 141 [.ref 30, .int (bn r4), .int (bn r23)] s21 (bRv (fun s25 => (bRg (l2 + 1) ∧ A (9, [.ref 6, .int (bn l1), .int (bn (l2 + 1)), .int (bn r4), .int (bn r23)], [], s25))))))))))))))))) ∧ (¬ r8 = 0 → (C 141 [.ref 30, .int (bn r4), .int (bn (-1))] s6 (bRv (fun s27 => (bRg (l2 + 1) ∧ A (9, [.ref 6, .int (bn l1), .int (bn (l2 + 1)), .int (bn r4), .int (bn (-1))], [], s27)))))))))))))) ∧ (¬ l2 < (bi σ 6 11) → (C 69 [.ref 6, .int (bn l1)] σ (bRn (fun r31 s29 => (C 140 [.ref 30, .int (bn r31)] s29 (bRn (fun r35 s33 => Q (.inl (some (.int (bn r35)))) s33))))))))) : A (9, [.ref 6, .int (bn l1), .int (bn l2), v3, v4], [], σ) := by
  refine bGo hA 0 9 (15, .iload_n 2, 1, 10, 0, [2], []) rfl rfl rfl ?_
  refine bGo hA 0 10 (16, .aload_n 0, 1, 11, 0, [0], []) rfl rfl rfl ?_
  refine bGo hA 0 11 (17, .getfield 89, 3, 12, 0, [6, 11, 0, 0, 0, 0], []) rfl rfl rfl ?_
  refine ⟨rfl, ?_⟩
  refine bEqI (bn_bi σ 6 11) ?_
  refine bGo hA 0 12 (20, .if_icmp .ge (60), 3, 13, 41, [], []) rfl rfl rfl ?_
  refine bB_lt (x := l2) (y := (bi σ 6 11)) h_l2 (bi_rg _ _ _) (fun c1 => ?_) (fun c1 => ?_)
  · refine bGo hA 0 13 (23, .aload_n 0, 1, 14, 0, [0], []) rfl rfl rfl ?_
    refine bGo hA 0 14 (24, .getfield 15, 3, 15, 0, [6, 5, 3, 28, 1, 0], []) rfl rfl rfl ?_
    refine ⟨rfl, ?_⟩
    refine bGo hA 0 15 (27, .iload_n 2, 1, 16, 0, [2], []) rfl rfl rfl ?_
    refine bGo hA 1 0 (28, .invokestatic 100, 3, 17, 1, [2, 140, 2], []) rfl rfl rfl ?_
    refine hC _ _ _ _ _ (bRn_e (fun r4 s2 q5 k3 => ?_)) (h.1 c1)
    show A (17, [.ref 6, .int (bn l1), .int (bn l2), v3, v4], [.int (bn r4)], s2)
    refine bGo hA 1 1 (31, .istore_n 3, 1, 18, 0, [3], []) rfl rfl rfl ?_
    refine bGo hA 1 2 (32, .iconst (-1), 1, 19, 0, [], [(-1, 0)]) rfl rfl rfl ?_
    refine bEqI bl_m1 ?_
    refine bGo hA 1 3 (33, .istore 4, 2, 20, 0, [4], []) rfl rfl rfl ?_
    refine bGo hA 1 4 (35, .aload_n 0, 1, 21, 0, [0], []) rfl rfl rfl ?_
    refine bGo hA 1 5 (36, .getfield 18, 3, 22, 0, [6, 6, 3, 29, 1, 0], []) rfl rfl rfl ?_
    refine ⟨rfl, ?_⟩
    refine bGo hA 1 6 (39, .iload_n 3, 1, 23, 0, [3], []) rfl rfl rfl ?_
    refine bGo hA 1 7 (40, .invokestatic 100, 3, 24, 1, [2, 140, 2], []) rfl rfl rfl ?_
    refine hC _ _ _ _ _ (bRn_e (fun r8 s6 q9 k7 => ?_)) k3
    show A (24, [.ref 6, .int (bn l1), .int (bn l2), .int (bn r4), .int (bn (-1))], [.int (bn r8)], s6)
    refine bGo hA 1 8 (43, .ifCond .ne (21), 3, 25, 34, [], []) rfl rfl rfl ?_
    refine bB_eq0 (x := r8) q9 (fun c10 => ?_) (fun c10 => ?_)
    · refine bGo hA 1 9 (46, .aload_n 0, 1, 26, 0, [0], []) rfl rfl rfl ?_
      refine bGo hA 1 10 (47, .iload_n 3, 1, 27, 0, [3], []) rfl rfl rfl ?_
      refine bGo hA 1 11 (48, .invokevirtual 180, 3, 28, 0, [0, 6, 86, 1], []) rfl rfl rfl ?_
      refine ⟨rfl, ?_⟩
      refine hC _ _ _ _ _ (bRn_e (fun r13 s11 q14 k12 => ?_)) (k7.1 c10)
      show A (28, [.ref 6, .int (bn l1), .int (bn l2), .int (bn r4), .int (bn (-1))], [.int (bn r13)], s11)
      refine bGo hA 1 12 (51, .ifCond .eq (13), 3, 29, 34, [], []) rfl rfl rfl ?_
      refine bB_eq0 (x := r13) q14 (fun c15 => ?_) (fun c15 => ?_)
      · refine bGo hA 2 2 (64, .aload_n 0, 1, 35, 0, [0], []) rfl rfl rfl ?_
        refine bGo hA 2 3 (65, .getfield 21, 3, 36, 0, [6, 7, 3, 30, 1, 0], []) rfl rfl rfl ?_
        refine ⟨rfl, ?_⟩
        refine bGo hA 2 4 (68, .iload_n 3, 1, 37, 0, [3], []) rfl rfl rfl ?_
        refine bGo hA 2 5 (69, .iload 4, 2, 38, 0, [4], []) rfl rfl rfl ?_
        refine bGo hA 2 6 (71, .invokestatic 107, 3, 39, 1, [2, 141, 3], []) rfl rfl rfl ?_
        refine hC _ _ _ _ _ (bRv_e (fun s16 k17 => ?_)) (k12.1 c15)
        show A (39, [.ref 6, .int (bn l1), .int (bn l2), .int (bn r4), .int (bn (-1))], [], s16)
        refine bGo hA 2 7 (74, .iinc 2 (1), 3, 40, 0, [2], [(1, 0)]) rfl rfl rfl ?_
        refine bEqC (fun v => A (40, [.ref 6, .int (bn l1), .int v, .int (bn r4), .int (bn (-1))], [], s16)) ((congrArg (fun w => bn l2 + w) bl_1).trans (bn_add l2 1)) ?_
        refine bGo hA 2 8 (77, .goto (-62), 3, 41, 9, [], []) rfl rfl rfl ?_
        exact k17.2
      · refine bGo hA 1 13 (54, .aload_n 0, 1, 30, 0, [0], []) rfl rfl rfl ?_
        refine bGo hA 1 14 (55, .aload_n 0, 1, 31, 0, [0], []) rfl rfl rfl ?_
        refine bGo hA 1 15 (56, .invokevirtual 199, 3, 32, 0, [0, 6, 87, 0], []) rfl rfl rfl ?_
        refine ⟨rfl, ?_⟩
        refine hC _ _ _ _ _ (bRa_e (fun r20 s18 k19 => ?_)) (k12.2 c15)
        show A (32, [.ref 6, .int (bn l1), .int (bn l2), .int (bn r4), .int (bn (-1))], [.ref r20, .ref 6], s18)
        refine bGo hA 2 0 (59, .invokevirtual 203, 3, 33, 0, [0, 6, 85, 1], []) rfl rfl rfl ?_
        refine ⟨rfl, ?_⟩
        refine hC _ _ _ _ _ (bRn_e (fun r23 s21 q24 k22 => ?_)) k19
        show A (33, [.ref 6, .int (bn l1), .int (bn l2), .int (bn r4), .int (bn (-1))], [.int (bn r23)], s21)
        refine bGo hA 2 1 (62, .istore 4, 2, 34, 0, [4], []) rfl rfl rfl ?_
        refine bGo hA 2 2 (64, .aload_n 0, 1, 35, 0, [0], []) rfl rfl rfl ?_
        refine bGo hA 2 3 (65, .getfield 21, 3, 36, 0, [6, 7, 3, 30, 1, 0], []) rfl rfl rfl ?_
        refine ⟨rfl, ?_⟩
        refine bGo hA 2 4 (68, .iload_n 3, 1, 37, 0, [3], []) rfl rfl rfl ?_
        refine bGo hA 2 5 (69, .iload 4, 2, 38, 0, [4], []) rfl rfl rfl ?_
        refine bGo hA 2 6 (71, .invokestatic 107, 3, 39, 1, [2, 141, 3], []) rfl rfl rfl ?_
        refine hC _ _ _ _ _ (bRv_e (fun s25 k26 => ?_)) k22
        show A (39, [.ref 6, .int (bn l1), .int (bn l2), .int (bn r4), .int (bn r23)], [], s25)
        refine bGo hA 2 7 (74, .iinc 2 (1), 3, 40, 0, [2], [(1, 0)]) rfl rfl rfl ?_
        refine bEqC (fun v => A (40, [.ref 6, .int (bn l1), .int v, .int (bn r4), .int (bn r23)], [], s25)) ((congrArg (fun w => bn l2 + w) bl_1).trans (bn_add l2 1)) ?_
        refine bGo hA 2 8 (77, .goto (-62), 3, 41, 9, [], []) rfl rfl rfl ?_
        exact k26.2
    · refine bGo hA 2 2 (64, .aload_n 0, 1, 35, 0, [0], []) rfl rfl rfl ?_
      refine bGo hA 2 3 (65, .getfield 21, 3, 36, 0, [6, 7, 3, 30, 1, 0], []) rfl rfl rfl ?_
      refine ⟨rfl, ?_⟩
      refine bGo hA 2 4 (68, .iload_n 3, 1, 37, 0, [3], []) rfl rfl rfl ?_
      refine bGo hA 2 5 (69, .iload 4, 2, 38, 0, [4], []) rfl rfl rfl ?_
      refine bGo hA 2 6 (71, .invokestatic 107, 3, 39, 1, [2, 141, 3], []) rfl rfl rfl ?_
      refine hC _ _ _ _ _ (bRv_e (fun s27 k28 => ?_)) (k7.2 c10)
      show A (39, [.ref 6, .int (bn l1), .int (bn l2), .int (bn r4), .int (bn (-1))], [], s27)
      refine bGo hA 2 7 (74, .iinc 2 (1), 3, 40, 0, [2], [(1, 0)]) rfl rfl rfl ?_
      refine bEqC (fun v => A (40, [.ref 6, .int (bn l1), .int v, .int (bn r4), .int (bn (-1))], [], s27)) ((congrArg (fun w => bn l2 + w) bl_1).trans (bn_add l2 1)) ?_
      refine bGo hA 2 8 (77, .goto (-62), 3, 41, 9, [], []) rfl rfl rfl ?_
      exact k28.2
  · refine bGo hA 2 9 (80, .aload_n 0, 1, 42, 0, [0], []) rfl rfl rfl ?_
    refine bGo hA 2 10 (81, .getfield 21, 3, 43, 0, [6, 7, 3, 30, 1, 0], []) rfl rfl rfl ?_
    refine ⟨rfl, ?_⟩
    refine bGo hA 2 11 (84, .aload_n 0, 1, 44, 0, [0], []) rfl rfl rfl ?_
    refine bGo hA 2 12 (85, .iload_n 1, 1, 45, 0, [1], []) rfl rfl rfl ?_
    refine bGo hA 2 13 (86, .invokevirtual 173, 3, 46, 0, [0, 6, 69, 1], []) rfl rfl rfl ?_
    refine ⟨rfl, ?_⟩
    refine hC _ _ _ _ _ (bRn_e (fun r31 s29 q32 k30 => ?_)) (h.2 c1)
    show A (46, [.ref 6, .int (bn l1), .int (bn l2), v3, v4], [.int (bn r31), .ref 30], s29)
    refine bGo hA 2 14 (89, .invokestatic 100, 3, 47, 1, [2, 140, 2], []) rfl rfl rfl ?_
    refine hC _ _ _ _ _ (bRn_e (fun r35 s33 q36 k34 => ?_)) k30
    show A (47, [.ref 6, .int (bn l1), .int (bn l2), v3, v4], [.int (bn r35)], s33)
    refine bGo hA 2 15 (92, .ireturn, 1, 0, 0, [1], []) rfl rfl rfl ?_
    exact k34

theorem sq85_0 {lvl : Nat} {C : bCall} {Q : bPost} {A : bPt → Prop} (hC : bMono C) (hA : bClosed lvl bm85 C Q A) {a1 : Nat} {σ : bSt} (h_a1 : a1 % 256 = 0) 
  (h : ((256 * (2 * (a1 / 256) + 0) + 4) % 256 = 4 ∧ A (7, [.ref 6, .ref a1, .int (bn 0), .float 0], [], (bw σ (256 * (2 * (a1 / 256) + 0) + 4) 3 (bi σ a1 1))))) : A (0, [.ref 6, .ref a1, .float 0, .float 0], [], σ) := by
  refine bGo hA 0 0 (0, .aload_n 1, 1, 1, 0, [1], []) rfl rfl rfl ?_
  refine bGo hA 0 1 (1, .getfield 207, 3, 2, 0, [0, 3, 3, 4, 2, 0], []) rfl rfl rfl ?_
  refine ⟨h_a1, ?_⟩
  refine bGo hA 0 2 (4, .aload_n 1, 1, 3, 0, [1], []) rfl rfl rfl ?_
  refine bGo hA 0 3 (5, .getfield 211, 3, 4, 0, [0, 1, 0, 0, 0, 0], []) rfl rfl rfl ?_
  refine ⟨h_a1, ?_⟩
  refine bEqI (bn_bi σ a1 1) ?_
  refine bGo hA 0 4 (8, .putfield 214, 3, 5, 0, [4, 3, 0, 0, 0, 0], []) rfl rfl rfl ?_
  refine ⟨h.1, ?_⟩
  refine bGo hA 0 5 (11, .iconst (0), 1, 6, 0, [], [(0, 0)]) rfl rfl rfl ?_
  refine bEqI bl_0 ?_
  refine bGo hA 0 6 (12, .istore_n 2, 1, 7, 0, [2], []) rfl rfl rfl ?_
  exact h.2

theorem sq85_7 {lvl : Nat} {C : bCall} {Q : bPost} {A : bPt → Prop} (hC : bMono C) (hA : bClosed lvl bm85 C Q A) {l1 : Nat} {l2 : Int} {v3 : Value} {σ : bSt}  (h_l2 : bRg l2)
  (h : (l1 % 256 = 0 ∧ ((l2 < (bi σ l1 1) → (C 4 [.ref l1, .int (bn l2)] σ (bRn (fun r4 s2 => ((256 * (2 * (l1 / 256) + 0) + 4) % 256 = 4 ∧ ((r4 < 100 → (C 31 [.ref 3, .int (bn r4)] s2 (bRn (fun r9 s7 => (C 141 [.ref (256 * (1 * ((256 * (2 * (l1 / 256) + 0) + 4) / 256) + 0) + 22), .int (bn l2), .int (bn r9)] s7 (bRv (fun s11 => (bRg (l2 + 1) ∧ A (7, [.ref 6, .ref l1, .int (bn (l2 + 1)), .int (bn r4)], [], s11))))))))) ∧ (¬ r4 < 100 → (bRg (r4 - 100) ∧ (C 141 [.ref (256 * (1 * ((256 * (2 * (l1 / 256) + 0) + 4) / 256) + 0) + 22), .int (bn l2), .int (bn (r4 - 100))] s2 (bRv (fun s13 => (bRg (l2 + 1) ∧ A (7, [.ref 6, .ref l1, .int (bn (l2 + 1)), .int (bn r4)], [], s13))))))))))))) ∧ (¬ l2 < (bi σ l1 1) → ((256 * (2 * (l1 / 256) + 0) + 4) % 256 = 4 ∧ (C 40 [.ref (256 * (2 * (l1 / 256) + 0) + 4), .ref 3, .int (bn (bi σ l1 0))] σ (bRv (fun s15 => Q (.inl (some (.int (bn (bi s15 (256 * (2 * (l1 / 256) + 0) + 4) 8))))) s15)))))))) : A (7, [.ref 6, .ref l1, .int (bn l2), v3], [], σ) := by
  refine bGo hA 0 7 (13, .iload_n 2, 1, 8, 0, [2], []) rfl rfl rfl ?_
  refine bGo hA 0 8 (14, .aload_n 1, 1, 9, 0, [1], []) rfl rfl rfl ?_
  refine bGo hA 0 9 (15, .getfield 211, 3, 10, 0, [0, 1, 0, 0, 0, 0], []) rfl rfl rfl ?_
  refine ⟨h.1, ?_⟩
  refine bEqI (bn_bi σ l1 1) ?_
  refine bGo hA 0 10 (18, .if_icmp .ge (47), 3, 11, 33, [], []) rfl rfl rfl ?_
  refine bB_lt (x := l2) (y := (bi σ l1 1)) h_l2 (bi_rg _ _ _) (fun c1 => ?_) (fun c1 => ?_)
  · refine bGo hA 0 11 (21, .aload_n 1, 1, 12, 0, [1], []) rfl rfl rfl ?_
    refine bGo hA 0 12 (22, .iload_n 2, 1, 13, 0, [2], []) rfl rfl rfl ?_
    refine bGo hA 0 13 (23, .invokevirtual 217, 3, 14, 0, [0, 0, 4, 1], []) rfl rfl rfl ?_
    refine ⟨h.1, ?_⟩
    refine hC _ _ _ _ _ (bRn_e (fun r4 s2 q5 k3 => ?_)) (h.2.1 c1)
    show A (14, [.ref 6, .ref l1, .int (bn l2), v3], [.int (bn r4)], s2)
    refine bGo hA 0 14 (26, .istore_n 3, 1, 15, 0, [3], []) rfl rfl rfl ?_
    refine bGo hA 0 15 (27, .aload_n 1, 1, 16, 0, [1], []) rfl rfl rfl ?_
    refine bGo hA 1 0 (28, .getfield 207, 3, 17, 0, [0, 3, 3, 4, 2, 0], []) rfl rfl rfl ?_
    refine ⟨h.1, ?_⟩
    refine bGo hA 1 1 (31, .getfield 220, 3, 18, 0, [4, 4, 3, 22, 1, 0], []) rfl rfl rfl ?_
    refine ⟨k3.1, ?_⟩
    refine bGo hA 1 2 (34, .iload_n 2, 1, 19, 0, [2], []) rfl rfl rfl ?_
    refine bGo hA 1 3 (35, .iload_n 3, 1, 20, 0, [3], []) rfl rfl rfl ?_
    refine bGo hA 1 4 (36, .bipush (100), 2, 21, 0, [], [(100, 0)]) rfl rfl rfl ?_
    refine bEqI bl_100 ?_
    refine bGo hA 1 5 (38, .if_icmp .ge (14), 3, 22, 27, [], []) rfl rfl rfl ?_
    refine bB_lt (x := r4) (y := 100) q5 (by decide : bRg 100) (fun c6 => ?_) (fun c6 => ?_)
    · refine bGo hA 1 6 (41, .aload_n 0, 1, 23, 0, [0], []) rfl rfl rfl ?_
      refine bGo hA 1 7 (42, .getfield 41, 3, 24, 0, [6, 0, 3, 3, 0, 0], []) rfl rfl rfl ?_
      refine ⟨rfl, ?_⟩
      refine bGo hA 1 8 (45, .iload_n 3, 1, 25, 0, [3], []) rfl rfl rfl ?_
      refine bGo hA 1 9 (46, .invokevirtual 163, 3, 26, 0, [0, 3, 31, 1], []) rfl rfl rfl ?_
      refine ⟨rfl, ?_⟩
      refine hC _ _ _ _ _ (bRn_e (fun r9 s7 q10 k8 => ?_)) (k3.2.1 c6)
      show A (26, [.ref 6, .ref l1, .int (bn l2), .int (bn r4)], [.int (bn r9), .int (bn l2), .ref (256 * (1 * ((256 * (2 * (l1 / 256) + 0) + 4) / 256) + 0) + 22)], s7)
      refine bGo hA 1 10 (49, .goto (7), 3, 27, 30, [], []) rfl rfl rfl ?_
      refine bGo hA 1 14 (56, .invokestatic 107, 3, 31, 1, [2, 141, 3], []) rfl rfl rfl ?_
      refine hC _ _ _ _ _ (bRv_e (fun s11 k12 => ?_)) k8
      show A (31, [.ref 6, .ref l1, .int (bn l2), .int (bn r4)], [], s11)
      refine bGo hA 1 15 (59, .iinc 2 (1), 3, 32, 0, [2], [(1, 0)]) rfl rfl rfl ?_
      refine bEqC (fun v => A (32, [.ref 6, .ref l1, .int v, .int (bn r4)], [], s11)) ((congrArg (fun w => bn l2 + w) bl_1).trans (bn_add l2 1)) ?_
      refine bGo hA 2 0 (62, .goto (-49), 3, 33, 7, [], []) rfl rfl rfl ?_
      exact k12.2
    · refine bGo hA 1 11 (52, .iload_n 3, 1, 28, 0, [3], []) rfl rfl rfl ?_
      refine bGo hA 1 12 (53, .bipush (100), 2, 29, 0, [], [(100, 0)]) rfl rfl rfl ?_
      refine bEqI bl_100 ?_
      refine bGo hA 1 13 (55, .isub, 1, 30, 0, [], []) rfl rfl rfl ?_
      refine bEqI (bn_sub r4 100) ?_
      refine bGo hA 1 14 (56, .invokestatic 107, 3, 31, 1, [2, 141, 3], []) rfl rfl rfl ?_
      refine hC _ _ _ _ _ (bRv_e (fun s13 k14 => ?_)) (k3.2.2 c6).2
      show A (31, [.ref 6, .ref l1, .int (bn l2), .int (bn r4)], [], s13)
      refine bGo hA 1 15 (59, .iinc 2 (1), 3, 32, 0, [2], [(1, 0)]) rfl rfl rfl ?_
      refine bEqC (fun v => A (32, [.ref 6, .ref l1, .int v, .int (bn r4)], [], s13)) ((congrArg (fun w => bn l2 + w) bl_1).trans (bn_add l2 1)) ?_
      refine bGo hA 2 0 (62, .goto (-49), 3, 33, 7, [], []) rfl rfl rfl ?_
      exact k14.2
  · refine bGo hA 2 1 (65, .aload_n 1, 1, 34, 0, [1], []) rfl rfl rfl ?_
    refine bGo hA 2 2 (66, .getfield 207, 3, 35, 0, [0, 3, 3, 4, 2, 0], []) rfl rfl rfl ?_
    refine ⟨h.1, ?_⟩
    refine bGo hA 2 3 (69, .aload_n 0, 1, 36, 0, [0], []) rfl rfl rfl ?_
    refine bGo hA 2 4 (70, .getfield 41, 3, 37, 0, [6, 0, 3, 3, 0, 0], []) rfl rfl rfl ?_
    refine ⟨rfl, ?_⟩
    refine bGo hA 2 5 (73, .aload_n 1, 1, 38, 0, [1], []) rfl rfl rfl ?_
    refine bGo hA 2 6 (74, .getfield 223, 3, 39, 0, [0, 0, 0, 0, 0, 0], []) rfl rfl rfl ?_
    refine ⟨h.1, ?_⟩
    refine bEqI (bn_bi σ l1 0) ?_
    refine bGo hA 2 7 (77, .invokevirtual 224, 3, 40, 0, [0, 4, 40, 2], []) rfl rfl rfl ?_
    refine ⟨(h.2.2 c1).1, ?_⟩
    refine hC _ _ _ _ _ (bRv_e (fun s15 k16 => ?_)) (h.2.2 c1).2
    show A (40, [.ref 6, .ref l1, .int (bn l2), v3], [], s15)
    refine bGo hA 2 8 (80, .aload_n 1, 1, 41, 0, [1], []) rfl rfl rfl ?_
    refine bGo hA 2 9 (81, .getfield 207, 3, 42, 0, [0, 3, 3, 4, 2, 0], []) rfl rfl rfl ?_
    refine ⟨h.1, ?_⟩
    refine bGo hA 2 10 (84, .getfield 228, 3, 43, 0, [4, 8, 0, 0, 0, 0], []) rfl rfl rfl ?_
    refine ⟨(h.2.2 c1).1, ?_⟩
    refine bEqI (bn_bi s15 (256 * (2 * (l1 / 256) + 0) + 4) 8) ?_
    refine bGo hA 2 11 (87, .ireturn, 1, 0, 0, [1], []) rfl rfl rfl ?_
    exact k16

theorem sq86_0 {lvl : Nat} {C : bCall} {Q : bPost} {A : bPt → Prop} (hC : bMono C) (hA : bClosed lvl bm86 C Q A) {x1 : Int} {σ : bSt}  (h_x1 : bRg x1)
  (h : (C 120 [.ref 9, .int (bn (bShr x1 8))] σ (bRa (fun r3 s1 => (C 87 [.ref 6] s1 (bRa (fun r6 s4 => (r3 % 256 = 8 ∧ (C 116 [.ref r3, .int (bn (bAnd x1 255))] s4 (bRn (fun r9 s7 => (C 75 [.ref 6, .ref r3, .int (bn x1)] s7 (bRn (fun r13 s11 => (r6 % 256 = 0 ∧ (C 1 [.ref r6, .ref r3, .int (bn r9), .int (bn r13)] s11 (bRv (fun s15 => A (24, [.ref 6, .int (bn x1), .ref r3, .ref r6, .int (bn 0), .float 0, .float 0], [], s15))))))))))))))))))) : A (0, [.ref 6, .int (bn x1), .float 0, .float 0, .float 0, .float 0, .float 0], [], σ) := by
  refine bGo hA 0 0 (0, .aload_n 0, 1, 1, 0, [0], []) rfl rfl rfl ?_
  refine bGo hA 0 1 (1, .getfield 53, 3, 2, 0, [6, 3, 3, 9, 0, 0], []) rfl rfl rfl ?_
  refine ⟨rfl, ?_⟩
  refine bGo hA 0 2 (4, .iload_n 1, 1, 3, 0, [1], []) rfl rfl rfl ?_
  refine bGo hA 0 3 (5, .bipush (8), 2, 4, 0, [], [(8, 0)]) rfl rfl rfl ?_
  refine bEqI bl_8 ?_
  refine bGo hA 0 4 (7, .ishr, 1, 5, 0, [], []) rfl rfl rfl ?_
  refine bEqI (bn_shr x1 8) ?_
  refine bGo hA 0 5 (8, .invokevirtual 63, 3, 6, 0, [0, 9, 120, 1], []) rfl rfl rfl ?_
  refine ⟨rfl, ?_⟩
  refine hC _ _ _ _ _ (bRa_e (fun r3 s1 k2 => ?_)) h
  show A (6, [.ref 6, .int (bn x1), .float 0, .float 0, .float 0, .float 0, .float 0], [.ref r3], s1)
  refine bGo hA 0 6 (11, .astore_n 2, 1, 7, 0, [2], []) rfl rfl rfl ?_
  refine bGo hA 0 7 (12, .aload_n 0, 1, 8, 0, [0], []) rfl rfl rfl ?_
  refine bGo hA 0 8 (13, .invokevirtual 199, 3, 9, 0, [0, 6, 87, 0], []) rfl rfl rfl ?_
  refine ⟨rfl, ?_⟩
  refine hC _ _ _ _ _ (bRa_e (fun r6 s4 k5 => ?_)) k2
  show A (9, [.ref 6, .int (bn x1), .ref r3, .float 0, .float 0, .float 0, .float 0], [.ref r6], s4)
  refine bGo hA 0 9 (16, .astore_n 3, 1, 10, 0, [3], []) rfl rfl rfl ?_
  refine bGo hA 0 10 (17, .aload_n 3, 1, 11, 0, [3], []) rfl rfl rfl ?_
  refine bGo hA 0 11 (18, .aload_n 2, 1, 12, 0, [2], []) rfl rfl rfl ?_
  refine bGo hA 0 12 (19, .aload_n 2, 1, 13, 0, [2], []) rfl rfl rfl ?_
  refine bGo hA 0 13 (20, .iload_n 1, 1, 14, 0, [1], []) rfl rfl rfl ?_
  refine bGo hA 0 14 (21, .sipush (255), 3, 15, 0, [], [(255, 0)]) rfl rfl rfl ?_
  refine bEqI bl_255 ?_
  refine bGo hA 0 15 (24, .iand, 1, 16, 0, [], []) rfl rfl rfl ?_
  refine bEqI (bn_and x1 255) ?_
  refine bGo hA 1 0 (25, .invokevirtual 135, 3, 17, 0, [0, 8, 116, 1], []) rfl rfl rfl ?_
  refine ⟨k5.1, ?_⟩
  refine hC _ _ _ _ _ (bRn_e (fun r9 s7 q10 k8 => ?_)) k5.2
  show A (17, [.ref 6, .int (bn x1), .ref r3, .ref r6, .float 0, .float 0, .float 0], [.int (bn r9), .ref r3, .ref r6], s7)
  refine bGo hA 1 1 (28, .aload_n 0, 1, 18, 0, [0], []) rfl rfl rfl ?_
  refine bGo hA 1 2 (29, .aload_n 2, 1, 19, 0, [2], []) rfl rfl rfl ?_
  refine bGo hA 1 3 (30, .iload_n 1, 1, 20, 0, [1], []) rfl rfl rfl ?_
  refine bGo hA 1 4 (31, .invokevirtual 138, 3, 21, 0, [0, 6, 75, 2], []) rfl rfl rfl ?_
  refine ⟨rfl, ?_⟩
  refine hC _ _ _ _ _ (bRn_e (fun r13 s11 q14 k12 => ?_)) k8
  show A (21, [.ref 6, .int (bn x1), .ref r3, .ref r6, .float 0, .float 0, .float 0], [.int (bn r13), .int (bn r9), .ref r3, .ref r6], s11)
  refine bGo hA 1 5 (34, .invokevirtual 231, 3, 22, 0, [0, 0, 1, 3], []) rfl rfl rfl ?_
  refine ⟨k12.1, ?_⟩
  refine hC _ _ _ _ _ (bRv_e (fun s15 k16 => ?_)) k12.2
  show A (22, [.ref 6, .int (bn x1), .ref r3, .ref r6, .float 0, .float 0, .float 0], [], s15)
  refine bGo hA 1 6 (37, .iconst (0), 1, 23, 0, [], [(0, 0)]) rfl rfl rfl ?_
  refine bEqI bl_0 ?_
  refine bGo hA 1 7 (38, .istore 4, 2, 24, 0, [4], []) rfl rfl rfl ?_
  exact k16

theorem sq86_24 {lvl : Nat} {C : bCall} {Q : bPost} {A : bPt → Prop} (hC : bMono C) (hA : bClosed lvl bm86 C Q A) {l1 : Int} {l2 : Nat} {l3 : Nat} {l4 : Int} {v5 : Value} {v6 : Value} {σ : bSt}  (h_l1 : bRg l1) (h_l4 : bRg l4)
  (h : (l2 % 256 = 8 ∧ ((l4 < (bi σ l2 13) → (C 112 [.ref l2, .int (bn l4)] σ (bRn (fun r4 s2 => (C 73 [.ref 6, .ref l2, .int (bn l1), .int (bn r4)] s2 (bRn (fun r8 s6 => ((r4 < 1000 → ((r8 = (-1) → (l3 % 256 = 0 ∧ (C 3 [.ref l3, .long ((Int64.ofNat 1) <<< (bL r4 &&& 63))] s6 (bRv (fun s12 => (bRg (l4 + 1) ∧ A (24, [.ref 6, .int (bn l1), .ref l2, .ref l3, .int (bn (l4 + 1)), .int (bn r4), .int (bn r8)], [], s12))))))) ∧ (¬ r8 = (-1) → (C 140 [.ref 30, .int (bn r8)] s6 (bRn (fun r16 s14 => ((r16 = (-1) → Q (.inl (some (.int (bn 0)))) s14) ∧ (¬ r16 = (-1) → (C 140 [.ref 30, .int (bn r8)] s14 (bRn (fun r21 s19 => (bRg (100 + r21) ∧ (l3 % 256 = 0 ∧ (C 2 [.ref l3, .int (bn (100 + r21))] s19 (bRv (fun s23 => (bRg (l4 + 1) ∧ A (24, [.ref 6, .int (bn l1), .ref l2, .ref l3, .int (bn (l4 + 1)), .int (bn r4), .int (bn r8)], [], s23)))))))))))))))))) ∧ (¬ r4 < 1000 → (C 77 [.ref 6, .ref l2, .int (bn r4)] s6 (bRj (fun r27 s25 => (l3 % 256 = 0 ∧ (C 3 [.ref l3, .long r27] s25 (bRv (fun s28 => (bRg (l4 + 1) ∧ A (24, [.ref 6, .int (bn l1), .ref l2, .ref l3, .int (bn (l4 + 1)), .int (bn r4), .int (bn r8)], [], s28)))))))))))))))))) ∧ (¬ l4 < (bi σ l2 13) → Q (.inl (some (.int (bn 1)))) σ)))) : A (24, [.ref 6, .int (bn l1), .ref l2, .ref l3, .int (bn l4), v5, v6], [], σ) := by
  refine bGo hA 1 8 (40, .iload 4, 2, 25, 0, [4], []) rfl rfl rfl ?_
  refine bGo hA 1 9 (42, .aload_n 2, 1, 26, 0, [2], []) rfl rfl rfl ?_
  refine bGo hA 1 10 (43, .getfield 104, 3, 27, 0, [8, 13, 0, 0, 0, 0], []) rfl rfl rfl ?_
  refine ⟨h.1, ?_⟩
  refine bEqI (bn_bi σ l2 13) ?_
  refine bGo hA 1 11 (46, .if_icmp .ge (97), 3, 28, 75, [], []) rfl rfl rfl ?_
  refine bB_lt (x := l4) (y := (bi σ l2 13)) h_l4 (bi_rg _ _ _) (fun c1 => ?_) (fun c1 => ?_)
  · refine bGo hA 1 12 (49, .aload_n 2, 1, 29, 0, [2], []) rfl rfl rfl ?_
    refine bGo hA 1 13 (50, .iload 4, 2, 30, 0, [4], []) rfl rfl rfl ?_
    refine bGo hA 1 14 (52, .invokevirtual 111, 3, 31, 0, [0, 8, 112, 1], []) rfl rfl rfl ?_
    refine ⟨h.1, ?_⟩
    refine hC _ _ _ _ _ (bRn_e (fun r4 s2 q5 k3 => ?_)) (h.2.1 c1)
    show A (31, [.ref 6, .int (bn l1), .ref l2, .ref l3, .int (bn l4), v5, v6], [.int (bn r4)], s2)
    refine bGo hA 1 15 (55, .istore 5, 2, 32, 0, [5], []) rfl rfl rfl ?_
    refine bGo hA 2 0 (57, .aload_n 0, 1, 33, 0, [0], []) rfl rfl rfl ?_
    refine bGo hA 2 1 (58, .aload_n 2, 1, 34, 0, [2], []) rfl rfl rfl ?_
    refine bGo hA 2 2 (59, .iload_n 1, 1, 35, 0, [1], []) rfl rfl rfl ?_
    refine bGo hA 2 3 (60, .iload 5, 2, 36, 0, [5], []) rfl rfl rfl ?_
    refine bGo hA 2 4 (62, .invokevirtual 115, 3, 37, 0, [0, 6, 73, 3], []) rfl rfl rfl ?_
    refine ⟨rfl, ?_⟩
    refine hC _ _ _ _ _ (bRn_e (fun r8 s6 q9 k7 => ?_)) k3
    show A (37, [.ref 6, .int (bn l1), .ref l2, .ref l3, .int (bn l4), .int (bn r4), v6], [.int (bn r8)], s6)
    refine bGo hA 2 5 (65, .istore 6, 2, 38, 0, [6], []) rfl rfl rfl ?_
    refine bGo hA 2 6 (67, .iload 5, 2, 39, 0, [5], []) rfl rfl rfl ?_
    refine bGo hA 2 7 (69, .sipush (1000), 3, 40, 0, [], [(1000, 0)]) rfl rfl rfl ?_
    refine bEqI bl_1000 ?_
    refine bGo hA 2 8 (72, .if_icmp .lt (17), 3, 41, 48, [], []) rfl rfl rfl ?_
    refine bB_lt (x := r4) (y := 1000) q5 (by decide : bRg 1000) (fun c10 => ?_) (fun c10 => ?_)
    · refine bGo hA 3 0 (89, .iload 6, 2, 49, 0, [6], []) rfl rfl rfl ?_
      refine bGo hA 3 1 (91, .iconst (-1), 1, 50, 0, [], [(-1, 0)]) rfl rfl rfl ?_
      refine bEqI bl_m1 ?_
      refine bGo hA 3 2 (92, .if_icmp .ne (14), 3, 51, 57, [], []) rfl rfl rfl ?_
      refine bB_eq (x := r8) (y := (-1)) q9 (by decide : bRg (-1)) (fun c11 => ?_) (fun c11 => ?_)
      · refine bGo hA 3 3 (95, .aload_n 3, 1, 52, 0, [3], []) rfl rfl rfl ?_
        refine bGo hA 3 4 (96, .lconst 1, 1, 53, 0, [1], []) rfl rfl rfl ?_
        refine bGo hA 3 5 (97, .iload 5, 2, 54, 0, [5], []) rfl rfl rfl ?_
        refine bGo hA 3 6 (99, .lshl, 1, 55, 0, [], []) rfl rfl rfl ?_
        refine bGo hA 3 7 (100, .invokevirtual 235, 3, 56, 0, [0, 0, 3, 1], []) rfl rfl rfl ?_
        refine ⟨((k7.1 c10).1 c11).1, ?_⟩
        refine hC _ _ _ _ _ (bRv_e (fun s12 k13 => ?_)) ((k7.1 c10).1 c11).2
        show A (56, [.ref 6, .int (bn l1), .ref l2, .ref l3, .int (bn l4), .int (bn r4), .int (bn r8)], [], s12)
        refine bGo hA 3 8 (103, .goto (34), 3, 57, 73, [], []) rfl rfl rfl ?_
        refine bGo hA 4 9 (137, .iinc 4 (1), 3, 74, 0, [4], [(1, 0)]) rfl rfl rfl ?_
        refine bEqC (fun v => A (74, [.ref 6, .int (bn l1), .ref l2, .ref l3, .int v, .int (bn r4), .int (bn r8)], [], s12)) ((congrArg (fun w => bn l4 + w) bl_1).trans (bn_add l4 1)) ?_
        refine bGo hA 4 10 (140, .goto (-100), 3, 75, 24, [], []) rfl rfl rfl ?_
        exact k13.2
      · refine bGo hA 3 9 (106, .aload_n 0, 1, 58, 0, [0], []) rfl rfl rfl ?_
        refine bGo hA 3 10 (107, .getfield 21, 3, 59, 0, [6, 7, 3, 30, 1, 0], []) rfl rfl rfl ?_
        refine ⟨rfl, ?_⟩
        refine bGo hA 3 11 (110, .iload 6, 2, 60, 0, [6], []) rfl rfl rfl ?_
        refine bGo hA 3 12 (112, .invokestatic 100, 3, 61, 1, [2, 140, 2], []) rfl rfl rfl ?_
        refine hC _ _ _ _ _ (bRn_e (fun r16 s14 q17 k15 => ?_)) ((k7.1 c10).2 c11)
        show A (61, [.ref 6, .int (bn l1), .ref l2, .ref l3, .int (bn l4), .int (bn r4), .int (bn r8)], [.int (bn r16)], s14)
        refine bGo hA 3 13 (115, .iconst (-1), 1, 62, 0, [], [(-1, 0)]) rfl rfl rfl ?_
        refine bEqI bl_m1 ?_
        refine bGo hA 3 14 (116, .if_icmp .ne (5), 3, 63, 65, [], []) rfl rfl rfl ?_
        refine bB_eq (x := r16) (y := (-1)) q17 (by decide : bRg (-1)) (fun c18 => ?_) (fun c18 => ?_)
        · refine bGo hA 3 15 (119, .iconst (0), 1, 64, 0, [], [(0, 0)]) rfl rfl rfl ?_
          refine bEqI bl_0 ?_
          refine bGo hA 4 0 (120, .ireturn, 1, 65, 0, [2], []) rfl rfl rfl ?_
          exact ⟨b01 (Or.inl rfl), (k15.1 c18)⟩
        · refine bGo hA 4 1 (121, .aload_n 3, 1, 66, 0, [3], []) rfl rfl rfl ?_
          refine bGo hA 4 2 (122, .bipush (100), 2, 67, 0, [], [(100, 0)]) rfl rfl rfl ?_
          refine bEqI bl_100 ?_
          refine bGo hA 4 3 (124, .aload_n 0, 1, 68, 0, [0], []) rfl rfl rfl ?_
          refine bGo hA 4 4 (125, .getfield 21, 3, 69, 0, [6, 7, 3, 30, 1, 0], []) rfl rfl rfl ?_
          refine ⟨rfl, ?_⟩
          refine bGo hA 4 5 (128, .iload 6, 2, 70, 0, [6], []) rfl rfl rfl ?_
          refine bGo hA 4 6 (130, .invokestatic 100, 3, 71, 1, [2, 140, 2], []) rfl rfl rfl ?_
          refine hC _ _ _ _ _ (bRn_e (fun r21 s19 q22 k20 => ?_)) (k15.2 c18)
          show A (71, [.ref 6, .int (bn l1), .ref l2, .ref l3, .int (bn l4), .int (bn r4), .int (bn r8)], [.int (bn r21), .int (bn 100), .ref l3], s19)
          refine bGo hA 4 7 (133, .iadd, 1, 72, 0, [], []) rfl rfl rfl ?_
          refine bEqI (bn_add 100 r21) ?_
          refine bGo hA 4 8 (134, .invokevirtual 239, 3, 73, 0, [0, 0, 2, 1], []) rfl rfl rfl ?_
          refine ⟨k20.2.1, ?_⟩
          refine hC _ _ _ _ _ (bRv_e (fun s23 k24 => ?_)) k20.2.2
          show A (73, [.ref 6, .int (bn l1), .ref l2, .ref l3, .int (bn l4), .int (bn r4), .int (bn r8)], [], s23)
          refine bGo hA 4 9 (137, .iinc 4 (1), 3, 74, 0, [4], [(1, 0)]) rfl rfl rfl ?_
          refine bEqC (fun v => A (74, [.ref 6, .int (bn l1), .ref l2, .ref l3, .int v, .int (bn r4), .int (bn r8)], [], s23)) ((congrArg (fun w => bn l4 + w) bl_1).trans (bn_add l4 1)) ?_
          refine bGo hA 4 10 (140, .goto (-100), 3, 75, 24, [], []) rfl rfl rfl ?_
          exact k24.2
    · refine bGo hA 2 9 (75, .aload_n 3, 1, 42, 0, [3], []) rfl rfl rfl ?_
      refine bGo hA 2 10 (76, .aload_n 0, 1, 43, 0, [0], []) rfl rfl rfl ?_
      refine bGo hA 2 11 (77, .aload_n 2, 1, 44, 0, [2], []) rfl rfl rfl ?_
      refine bGo hA 2 12 (78, .iload 5, 2, 45, 0, [5], []) rfl rfl rfl ?_
      refine bGo hA 2 13 (80, .invokevirtual 144, 3, 46, 0, [0, 6, 77, 2], []) rfl rfl rfl ?_
      refine ⟨rfl, ?_⟩
      refine hC _ _ _ _ _ (bRj_e (fun r27 s25 k26 => ?_)) (k7.2 c10)
      show A (46, [.ref 6, .int (bn l1), .ref l2, .ref l3, .int (bn l4), .int (bn r4), .int (bn r8)], [.long r27, .ref l3], s25)
      refine bGo hA 2 14 (83, .invokevirtual 235, 3, 47, 0, [0, 0, 3, 1], []) rfl rfl rfl ?_
      refine ⟨k26.1, ?_⟩
      refine hC _ _ _ _ _ (bRv_e (fun s28 k29 => ?_)) k26.2
      show A (47, [.ref 6, .int (bn l1), .ref l2, .ref l3, .int (bn l4), .int (bn r4), .int (bn r8)], [], s28)
      refine bGo hA 2 15 (86, .goto (51), 3, 48, 73, [], []) rfl rfl rfl ?_
      refine bGo hA 4 9 (137, .iinc 4 (1), 3, 74, 0, [4], [(1, 0)]) rfl rfl rfl ?_
      refine bEqC (fun v => A (74, [.ref 6, .int (bn l1), .ref l2, .ref l3, .int v, .int (bn r4), .int (bn r8)], [], s28)) ((congrArg (fun w => bn l4 + w) bl_1).trans (bn_add l4 1)) ?_
      refine bGo hA 4 10 (140, .goto (-100), 3, 75, 24, [], []) rfl rfl rfl ?_
      exact k29.2
  · refine bGo hA 4 11 (143, .iconst (1), 1, 76, 0, [], [(1, 0)]) rfl rfl rfl ?_
    refine bEqI bl_1 ?_
    refine bGo hA 4 12 (144, .ireturn, 1, 0, 0, [2], []) rfl rfl rfl ?_
    exact ⟨b01 (Or.inr rfl), (h.2.2 c1)⟩

theorem sq87_0 {lvl : Nat} {C : bCall} {Q : bPost} {A : bPt → Prop} (hC : bMono C) (hA : bClosed lvl bm87 C Q A)  {σ : bSt}  
  (h : (((bi σ 6 13) < 0 → Q (.inl (some (.ref 0))) σ) ∧ (¬ (bi σ 6 13) < 0 → (((bi σ 6 13) < 121 → ((0 ≤ (bi σ 6 13) ∧ (bi σ 6 13) < 121) ∧ ((br σ 33 (bi σ 6 13) = none → (σ.2.2.2.1 (256 * ((bi σ 6 13).toNat + 1) + 0) = 0 ∧ ((256 * ((bi σ 6 13).toNat + 1) + 0) % 256 = 0 ∧ (C 0 [.retAddr (256 * ((bi σ 6 13).toNat + 1) + 0)] (bNew σ (256 * ((bi σ 6 13).toNat + 1) + 0) 1 18) (bRv (fun s5 => (s5.2.2.2.1 (256 * ((bi σ 6 13).toNat + 1) + 0) = 2 ∧ ((0 ≤ (bi s5 6 13) ∧ (bi s5 6 13) < 121) ∧ Q (.inl (some (.ref (256 * ((bi σ 6 13).toNat + 1) + 0)))) (bwr s5 33 (bi s5 6 13) (some (256 * ((bi σ 6 13).toNat + 1) + 0))))))))))) ∧ (∀ z3 : Nat, br σ 33 (bi σ 6 13) = some z3 → Q (.inl (some (.ref z3))) σ)))) ∧ (¬ (bi σ 6 13) < 121 → Q (.inl (some (.ref 0))) σ))))) : A (0, [.ref 6, .float 0], [], σ) := by
  refine bGo hA 0 0 (0, .aload_n 0, 1, 1, 0, [0], []) rfl rfl rfl ?_
  refine bGo hA 0 1 (1, .getfield 179, 3, 2, 0, [6, 13, 0, 0, 0, 0], []) rfl rfl rfl ?_
  refine ⟨rfl, ?_⟩
  refine bEqI (bn_bi σ 6 13) ?_
  refine bGo hA 0 2 (4, .ifCond .lt (15), 3, 3, 9, [], []) rfl rfl rfl ?_
  refine bB_lt0 (x := (bi σ 6 13)) (bi_rg _ _ _) (fun c1 => ?_) (fun c1 => ?_)
  · refine bGo hA 0 9 (19, .aload_n 0, 1, 10, 0, [0], []) rfl rfl rfl ?_
    refine bGo hA 0 10 (20, .getfield 37, 3, 11, 0, [6, 15, 3, 0, 0, 0], []) rfl rfl rfl ?_
    refine ⟨rfl, ?_⟩
    refine bGo hA 0 11 (23, .areturn, 1, 12, 0, [4], []) rfl rfl rfl ?_
    exact (h.1 c1)
  · refine bGo hA 0 3 (7, .aload_n 0, 1, 4, 0, [0], []) rfl rfl rfl ?_
    refine bGo hA 0 4 (8, .getfield 179, 3, 5, 0, [6, 13, 0, 0, 0, 0], []) rfl rfl rfl ?_
    refine ⟨rfl, ?_⟩
    refine bEqI (bn_bi σ 6 13) ?_
    refine bGo hA 0 5 (11, .aload_n 0, 1, 6, 0, [0], []) rfl rfl rfl ?_
    refine bGo hA 0 6 (12, .getfield 32, 3, 7, 0, [6, 14, 3, 33, 1, 0], []) rfl rfl rfl ?_
    refine ⟨rfl, ?_⟩
    refine bGo hA 0 7 (15, .arraylength, 1, 8, 0, [], []) rfl rfl rfl ?_
    refine ⟨by decide, ?_⟩
    refine bEqI (bn_nat 121).symm ?_
    refine bGo hA 0 8 (16, .if_icmp .lt (8), 3, 9, 12, [], []) rfl rfl rfl ?_
    refine bB_lt (x := (bi σ 6 13)) (y := 121) (bi_rg _ _ _) (by decide : bRg 121) (fun c2 => ?_) (fun c2 => ?_)
    · refine bGo hA 0 12 (24, .aload_n 0, 1, 13, 0, [0], []) rfl rfl rfl ?_
      refine bGo hA 0 13 (25, .getfield 32, 3, 14, 0, [6, 14, 3, 33, 1, 0], []) rfl rfl rfl ?_
      refine ⟨rfl, ?_⟩
      refine bGo hA 0 14 (28, .aload_n 0, 1, 15, 0, [0], []) rfl rfl rfl ?_
      refine bGo hA 0 15 (29, .getfield 179, 3, 16, 0, [6, 13, 0, 0, 0, 0], []) rfl rfl rfl ?_
      refine ⟨rfl, ?_⟩
      refine bEqI (bn_bi σ 6 13) ?_
      refine bGo hA 1 0 (32, .aaload, 1, 17, 0, [10, 0], []) rfl rfl rfl ?_
      refine ⟨rfl, (bIxP (x := (bi σ 6 13)) (n := 121) (bi_rg _ _ _) ((h.2 c1).1 c2).1), ?_⟩
      refine bOptX (P := fun v => A (17, [.ref 6, .float 0], v :: [], σ)) (a := 33) (x := (bi σ 6 13)) (bi_rg _ _ _) (fun c4 => ?_) (fun z3 c4 => ?_)
      · refine bGo hA 1 1 (33, .astore_n 1, 1, 18, 0, [1], []) rfl rfl rfl ?_
        refine bGo hA 1 2 (34, .aload_n 1, 1, 19, 0, [1], []) rfl rfl rfl ?_
        refine bGo hA 1 3 (35, .ifnonnull (21), 3, 20, 30, [], []) rfl rfl rfl ?_
        refine bGo hA 1 4 (38, .new 30, 3, 21, 0, [2, 0, 18, 6, 13], []) rfl rfl rfl ?_
        refine ⟨(((h.2 c1).1 c2).2.1 c4).1, ?_⟩
        refine bGo hA 1 5 (41, .dup, 1, 22, 0, [], []) rfl rfl rfl ?_
        refine bGo hA 1 6 (42, .invokespecial 36, 3, 23, 1, [4, 0, 0, 0], []) rfl rfl rfl ?_
        refine ⟨(((h.2 c1).1 c2).2.1 c4).2.1, rfl, ?_⟩
        refine hC _ _ _ _ _ (bRv_e (fun s5 k6 => ?_)) (((h.2 c1).1 c2).2.1 c4).2.2
        refine ⟨⟨rfl, k6.1⟩, ?_⟩
        show A (23, [.ref 6, .null], [.ref (256 * ((bi σ 6 13).toNat + 1) + 0)], s5)
        refine bGo hA 1 7 (45, .astore_n 1, 1, 24, 0, [1], []) rfl rfl rfl ?_
        refine bGo hA 1 8 (46, .aload_n 0, 1, 25, 0, [0], []) rfl rfl rfl ?_
        refine bGo hA 1 9 (47, .getfield 32, 3, 26, 0, [6, 14, 3, 33, 1, 0], []) rfl rfl rfl ?_
        refine ⟨rfl, ?_⟩
        refine bGo hA 1 10 (50, .aload_n 0, 1, 27, 0, [0], []) rfl rfl rfl ?_
        refine bGo hA 1 11 (51, .getfield 179, 3, 28, 0, [6, 13, 0, 0, 0, 0], []) rfl rfl rfl ?_
        refine ⟨rfl, ?_⟩
        refine bEqI (bn_bi s5 6 13) ?_
        refine bGo hA 1 12 (54, .aload_n 1, 1, 29, 0, [1], []) rfl rfl rfl ?_
        refine bGo hA 1 13 (55, .aastore, 1, 30, 0, [10, 0], []) rfl rfl rfl ?_
        refine ⟨rfl, (bIxP (x := (bi s5 6 13)) (n := 121) (bi_rg _ _ _) k6.2.1), by decide, (fun _ h => by cases h; exact (((h.2 c1).1 c2).2.1 c4).2.1), ?_⟩
        refine bEqSR (x := (bi s5 6 13)) (bi_rg _ _ _) ?_
        refine bGo hA 1 14 (56, .aload_n 1, 1, 31, 0, [1], []) rfl rfl rfl ?_
        refine bGo hA 1 15 (57, .areturn, 1, 0, 0, [4], []) rfl rfl rfl ?_
        exact k6.2.2
      · refine bGo hA 1 1 (33, .astore_n 1, 1, 18, 0, [1], []) rfl rfl rfl ?_
        refine bGo hA 1 2 (34, .aload_n 1, 1, 19, 0, [1], []) rfl rfl rfl ?_
        refine bGo hA 1 3 (35, .ifnonnull (21), 3, 20, 30, [], []) rfl rfl rfl ?_
        refine bGo hA 1 14 (56, .aload_n 1, 1, 31, 0, [1], []) rfl rfl rfl ?_
        refine bGo hA 1 15 (57, .areturn, 1, 0, 0, [4], []) rfl rfl rfl ?_
        exact (((h.2 c1).1 c2).2.2 z3 c4)
    · refine bGo hA 0 9 (19, .aload_n 0, 1, 10, 0, [0], []) rfl rfl rfl ?_
      refine bGo hA 0 10 (20, .getfield 37, 3, 11, 0, [6, 15, 3, 0, 0, 0], []) rfl rfl rfl ?_
      refine ⟨rfl, ?_⟩
      refine bGo hA 0 11 (23, .areturn, 1, 12, 0, [4], []) rfl rfl rfl ?_
      exact ((h.2 c1).2 c2)

theorem sq88_0 {lvl : Nat} {C : bCall} {Q : bPost} {A : bPt → Prop} (hC : bMono C) (hA : bClosed lvl bm88 C Q A)  {σ : bSt}  
  (h : A (2, [.ref 6, .int (bn 0)], [], σ)) : A (0, [.ref 6, .float 0], [], σ) := by
  refine bGo hA 0 0 (0, .iconst (0), 1, 1, 0, [], [(0, 0)]) rfl rfl rfl ?_
  refine bEqI bl_0 ?_
  refine bGo hA 0 1 (1, .istore_n 1, 1, 2, 0, [1], []) rfl rfl rfl ?_
  exact h

theorem sq88_2 {lvl : Nat} {C : bCall} {Q : bPost} {A : bPt → Prop} (hC : bMono C) (hA : bClosed lvl bm88 C Q A) {l1 : Int} {σ : bSt}  (h_l1 : bRg l1)
  (h : ((l1 < (bi σ 6 13) → (C 89 [.ref 6, .int (bn l1)] σ (bRa (fun r4 s2 => (C 87 [.ref 6] s2 (bRa (fun r7 s5 => (r4 % 256 = 0 ∧ (C 6 [.ref r4, .ref r7] s5 (bRn (fun r10 s8 => ((r10 = 0 → (bRg (l1 + 1) ∧ A (2, [.ref 6, .int (bn (l1 + 1))], [], s8))) ∧ (¬ r10 = 0 → Q (.inl (some (.int (bn l1)))) s8))))))))))))) ∧ (¬ l1 < (bi σ 6 13) → Q (.inl (some (.int (bn (-1))))) σ))) : A (2, [.ref 6, .int (bn l1)], [], σ) := by
  refine bGo hA 0 2 (2, .iload_n 1, 1, 3, 0, [1], []) rfl rfl rfl ?_
  refine bGo hA 0 3 (3, .aload_n 0, 1, 4, 0, [0], []) rfl rfl rfl ?_
  refine bGo hA 0 4 (4, .getfield 179, 3, 5, 0, [6, 13, 0, 0, 0, 0], []) rfl rfl rfl ?_
  refine ⟨rfl, ?_⟩
  refine bEqI (bn_bi σ 6 13) ?_
  refine bGo hA 0 5 (7, .if_icmp .ge (26), 3, 6, 17, [], []) rfl rfl rfl ?_
  refine bB_lt (x := l1) (y := (bi σ 6 13)) h_l1 (bi_rg _ _ _) (fun c1 => ?_) (fun c1 => ?_)
  · refine bGo hA 0 6 (10, .aload_n 0, 1, 7, 0, [0], []) rfl rfl rfl ?_
    refine bGo hA 0 7 (11, .iload_n 1, 1, 8, 0, [1], []) rfl rfl rfl ?_
    refine bGo hA 0 8 (12, .invokevirtual 187, 3, 9, 0, [0, 6, 89, 1], []) rfl rfl rfl ?_
    refine ⟨rfl, ?_⟩
    refine hC _ _ _ _ _ (bRa_e (fun r4 s2 k3 => ?_)) (h.1 c1)
    show A (9, [.ref 6, .int (bn l1)], [.ref r4], s2)
    refine bGo hA 0 9 (15, .aload_n 0, 1, 10, 0, [0], []) rfl rfl rfl ?_
    refine bGo hA 0 10 (16, .invokevirtual 199, 3, 11, 0, [0, 6, 87, 0], []) rfl rfl rfl ?_
    refine ⟨rfl, ?_⟩
    refine hC _ _ _ _ _ (bRa_e (fun r7 s5 k6 => ?_)) k3
    show A (11, [.ref 6, .int (bn l1)], [.ref r7, .ref r4], s5)
    refine bGo hA 0 11 (19, .invokevirtual 242, 3, 12, 0, [0, 0, 6, 1], []) rfl rfl rfl ?_
    refine ⟨k6.1, ?_⟩
    refine hC _ _ _ _ _ (bRn_e (fun r10 s8 q11 k9 => ?_)) k6.2
    show A (12, [.ref 6, .int (bn l1)], [.int (bn r10)], s8)
    refine bGo hA 0 12 (22, .ifCond .eq (5), 3, 13, 15, [], []) rfl rfl rfl ?_
    refine bB_eq0 (x := r10) q11 (fun c12 => ?_) (fun c12 => ?_)
    · refine bGo hA 0 15 (27, .iinc 1 (1), 3, 16, 0, [1], [(1, 0)]) rfl rfl rfl ?_
      refine bEqC (fun v => A (16, [.ref 6, .int v], [], s8)) ((congrArg (fun w => bn l1 + w) bl_1).trans (bn_add l1 1)) ?_
      refine bGo hA 1 0 (30, .goto (-28), 3, 17, 2, [], []) rfl rfl rfl ?_
      exact (k9.1 c12).2
    · refine bGo hA 0 13 (25, .iload_n 1, 1, 14, 0, [1], []) rfl rfl rfl ?_
      refine bGo hA 0 14 (26, .ireturn, 1, 15, 0, [1], []) rfl rfl rfl ?_
      exact (k9.2 c12)
  · refine bGo hA 1 1 (33, .iconst (-1), 1, 18, 0, [], [(-1, 0)]) rfl rfl rfl ?_
    refine bEqI bl_m1 ?_
    refine bGo hA 1 2 (34, .ireturn, 1, 0, 0, [1], []) rfl rfl rfl ?_
    exact (h.2 c1)

theorem sq96_0 {lvl : Nat} {C : bCall} {Q : bPost} {A : bPt → Prop} (hC : bMono C) (hA : bClosed lvl bm96 C Q A) {x1 : Int} {x2 : Int} {σ : bSt}  (h_x1 : bRg x1) (h_x2 : bRg x2)
  (h : (C 101 [.ref 7, .int (bn x1)] σ (bRv (fun s1 => (C 99 [.ref 7, .int (bn x1), .int (bn x2)] s1 (bRn (fun r5 s3 => ((r5 < 1000 → Q (.inl (some (.int (bn r5)))) s3) ∧ (¬ r5 < 1000 → Q (.inl (some (.int (bn (-1))))) s3))))))))) : A (0, [.ref 7, .int (bn x1), .int (bn x2), .float 0], [], σ) := by
  refine bGo hA 0 0 (0, .aload_n 0, 1, 1, 0, [0], []) rfl rfl rfl ?_
  refine bGo hA 0 1 (1, .iload_n 1, 1, 2, 0, [1], []) rfl rfl rfl ?_
  refine bGo hA 0 2 (2, .invokevirtual 74, 3, 3, 0, [0, 7, 101, 1], []) rfl rfl rfl ?_
  refine ⟨rfl, ?_⟩
  refine hC _ _ _ _ _ (bRv_e (fun s1 k2 => ?_)) h
  show A (3, [.ref 7, .int (bn x1), .int (bn x2), .float 0], [], s1)
  refine bGo hA 0 3 (5, .aload_n 0, 1, 4, 0, [0], []) rfl rfl rfl ?_
  refine bGo hA 0 4 (6, .iload_n 1, 1, 5, 0, [1], []) rfl rfl rfl ?_
  refine bGo hA 0 5 (7, .iload_n 2, 1, 6, 0, [2], []) rfl rfl rfl ?_
  refine bGo hA 0 6 (8, .invokevirtual 78, 3, 7, 0, [0, 7, 99, 2], []) rfl rfl rfl ?_
  refine ⟨rfl, ?_⟩
  refine hC _ _ _ _ _ (bRn_e (fun r5 s3 q6 k4 => ?_)) k2
  show A (7, [.ref 7, .int (bn x1), .int (bn x2), .float 0], [.int (bn r5)], s3)
  refine bGo hA 0 7 (11, .istore_n 3, 1, 8, 0, [3], []) rfl rfl rfl ?_
  refine bGo hA 0 8 (12, .iload_n 3, 1, 9, 0, [3], []) rfl rfl rfl ?_
  refine bGo hA 0 9 (13, .sipush (1000), 3, 10, 0, [], [(1000, 0)]) rfl rfl rfl ?_
  refine bEqI bl_1000 ?_
  refine bGo hA 0 10 (16, .if_icmp .lt (7), 3, 11, 13, [], []) rfl rfl rfl ?_
  refine bB_lt (x := r5) (y := 1000) q6 (by decide : bRg 1000) (fun c7 => ?_) (fun c7 => ?_)
  · refine bGo hA 0 13 (23, .iload_n 3, 1, 14, 0, [3], []) rfl rfl rfl ?_
    refine bGo hA 0 14 (24, .ireturn, 1, 0, 0, [1], []) rfl rfl rfl ?_
    exact (k4.1 c7)
  · refine bGo hA 0 11 (19, .iconst (-1), 1, 12, 0, [], [(-1, 0)]) rfl rfl rfl ?_
    refine bEqI bl_m1 ?_
    refine bGo hA 0 12 (20, .goto (4), 3, 13, 14, [], []) rfl rfl rfl ?_
    refine bGo hA 0 14 (24, .ireturn, 1, 0, 0, [1], []) rfl rfl rfl ?_
    exact (k4.2 c7)

theorem sq238_0 {lvl : Nat} {C : bCall} {Q : bPost} {A : bPt → Prop} (hC : bMono C) (hA : bClosed lvl bm238 C Q A)  {σ : bSt}  
  (h : (bRg (4 * (bi σ 70 1)) ∧ (bRg ((bi σ 70 0) + (4 * (bi σ 70 1))) ∧ (bRg (16 * (bi σ 70 2)) ∧ (bRg (((bi σ 70 0) + (4 * (bi σ 70 1))) + (16 * (bi σ 70 2))) ∧ (bRg (64 * (bi σ 70 3)) ∧ (bRg ((((bi σ 70 0) + (4 * (bi σ 70 1))) + (16 * (bi σ 70 2))) + (64 * (bi σ 70 3))) ∧ Q (.inl (some (.int (bn ((((bi σ 70 0) + (4 * (bi σ 70 1))) + (16 * (bi σ 70 2))) + (64 * (bi σ 70 3))))))) σ))))))) : A (0, [.ref 12], [], σ) := by
  refine bGo hA 0 0 (0, .aload_n 0, 1, 1, 0, [0], []) rfl rfl rfl ?_
  refine bGo hA 0 1 (1, .getfield 53, 3, 2, 0, [12, 16, 3, 70, 1, 0], []) rfl rfl rfl ?_
  refine ⟨rfl, ?_⟩
  refine bGo hA 0 2 (4, .iconst (0), 1, 3, 0, [], [(0, 0)]) rfl rfl rfl ?_
  refine bEqI bl_0 ?_
  refine bGo hA 0 3 (5, .iaload, 1, 4, 0, [], []) rfl rfl rfl ?_
  refine ⟨rfl, (bIxP (x := 0) (n := 4) (by decide) (by decide)), ?_⟩
  refine bEqL (x := 0) (by decide : bRg 0) ?_
  refine bGo hA 0 4 (6, .iconst (4), 1, 5, 0, [], [(4, 0)]) rfl rfl rfl ?_
  refine bEqI bl_4 ?_
  refine bGo hA 0 5 (7, .aload_n 0, 1, 6, 0, [0], []) rfl rfl rfl ?_
  refine bGo hA 0 6 (8, .getfield 53, 3, 7, 0, [12, 16, 3, 70, 1, 0], []) rfl rfl rfl ?_
  refine ⟨rfl, ?_⟩
  refine bGo hA 0 7 (11, .iconst (1), 1, 8, 0, [], [(1, 0)]) rfl rfl rfl ?_
  refine bEqI bl_1 ?_
  refine bGo hA 0 8 (12, .iaload, 1, 9, 0, [], []) rfl rfl rfl ?_
  refine ⟨rfl, (bIxP (x := 1) (n := 4) (by decide) (by decide)), ?_⟩
  refine bEqL (x := 1) (by decide : bRg 1) ?_
  refine bGo hA 0 9 (13, .imul, 1, 10, 0, [], []) rfl rfl rfl ?_
  refine bEqI (bn_mul 4 (bi σ 70 1)) ?_
  refine bGo hA 0 10 (14, .iadd, 1, 11, 0, [], []) rfl rfl rfl ?_
  refine bEqI (bn_add (bi σ 70 0) (4 * (bi σ 70 1))) ?_
  refine bGo hA 0 11 (15, .bipush (16), 2, 12, 0, [], [(16, 0)]) rfl rfl rfl ?_
  refine bEqI bl_16 ?_
  refine bGo hA 0 12 (17, .aload_n 0, 1, 13, 0, [0], []) rfl rfl rfl ?_
  refine bGo hA 0 13 (18, .getfield 53, 3, 14, 0, [12, 16, 3, 70, 1, 0], []) rfl rfl rfl ?_
  refine ⟨rfl, ?_⟩
  refine bGo hA 0 14 (21, .iconst (2), 1, 15, 0, [], [(2, 0)]) rfl rfl rfl ?_
  refine bEqI bl_2 ?_
  refine bGo hA 0 15 (22, .iaload, 1, 16, 0, [], []) rfl rfl rfl ?_
  refine ⟨rfl, (bIxP (x := 2) (n := 4) (by decide) (by decide)), ?_⟩
  refine bEqL (x := 2) (by decide : bRg 2) ?_
  refine bGo hA 1 0 (23, .imul, 1, 17, 0, [], []) rfl rfl rfl ?_
  refine bEqI (bn_mul 16 (bi σ 70 2)) ?_
  refine bGo hA 1 1 (24, .iadd, 1, 18, 0, [], []) rfl rfl rfl ?_
  refine bEqI (bn_add ((bi σ 70 0) + (4 * (bi σ 70 1))) (16 * (bi σ 70 2))) ?_
  refine bGo hA 1 2 (25, .bipush (64), 2, 19, 0, [], [(64, 0)]) rfl rfl rfl ?_
  refine bEqI bl_64 ?_
  refine bGo hA 1 3 (27, .aload_n 0, 1, 20, 0, [0], []) rfl rfl rfl ?_
  refine bGo hA 1 4 (28, .getfield 53, 3, 21, 0, [12, 16, 3, 70, 1, 0], []) rfl rfl rfl ?_
  refine ⟨rfl, ?_⟩
  refine bGo hA 1 5 (31, .iconst (3), 1, 22, 0, [], [(3, 0)]) rfl rfl rfl ?_
  refine bEqI bl_3 ?_
  refine bGo hA 1 6 (32, .iaload, 1, 23, 0, [], []) rfl rfl rfl ?_
  refine ⟨rfl, (bIxP (x := 3) (n := 4) (by decide) (by decide)), ?_⟩
  refine bEqL (x := 3) (by decide : bRg 3) ?_
  refine bGo hA 1 7 (33, .imul, 1, 24, 0, [], []) rfl rfl rfl ?_
  refine bEqI (bn_mul 64 (bi σ 70 3)) ?_
  refine bGo hA 1 8 (34, .iadd, 1, 25, 0, [], []) rfl rfl rfl ?_
  refine bEqI (bn_add (((bi σ 70 0) + (4 * (bi σ 70 1))) + (16 * (bi σ 70 2))) (64 * (bi σ 70 3))) ?_
  refine bGo hA 1 9 (35, .ireturn, 1, 0, 0, [1], []) rfl rfl rfl ?_
  exact h.2.2.2.2.2.2

theorem sq240_0 {lvl : Nat} {C : bCall} {Q : bPost} {A : bPt → Prop} (hC : bMono C) (hA : bClosed lvl bm240 C Q A) {x1 : Int} {x2 : Int} {σ : bSt}  (h_x1 : bRg x1) (h_x2 : bRg x2)
  (h : (0 ≤ x1 ∧ ((0 ≤ (x1 / 256) ∧ (x1 / 256) < 16) ∧ (((bi σ 81 (x1 / 256)) = (-1) → ((0 ≤ x2 ∧ x2 < 96) ∧ (bRg (256 * (bi σ 87 x2)) ∧ (bRg ((256 * (bi σ 87 x2)) + (x1 % 256)) ∧ Q (.inl (some (.int (bn ((256 * (bi σ 87 x2)) + (x1 % 256)))))) σ)))) ∧ (¬ (bi σ 81 (x1 / 256)) = (-1) → (C 239 [.int (bn (x1 % 256)), .int (bn (bi σ 81 (x1 / 256)))] σ (bRn (fun r4 s2 => (bRg ((bi σ 82 (x1 / 256)) - r4) ∧ (bRg (2 * (bi σ 81 (x1 / 256))) ∧ (bRg ((x1 % 256) + (bShl ((bi σ 82 (x1 / 256)) - r4) (2 * (bi σ 81 (x1 / 256))))) ∧ ((0 ≤ x2 ∧ x2 < 96) ∧ (bRg (256 * (bi s2 87 x2)) ∧ (bRg ((256 * (bi s2 87 x2)) + ((x1 % 256) + (bShl ((bi σ 82 (x1 / 256)) - r4) (2 * (bi σ 81 (x1 / 256)))))) ∧ Q (.inl (some (.int (bn ((256 * (bi s2 87 x2)) + ((x1 % 256) + (bShl ((bi σ 82 (x1 / 256)) - r4) (2 * (bi σ 81 (x1 / 256)))))))))) s2)))))))))))))) : A (0, [.ref 12, .int (bn x1), .int (bn x2), .float 0, .float 0, .float 0], [], σ) := by
  refine bGo hA 0 0 (0, .iload_n 1, 1, 1, 0, [1], []) rfl rfl rfl ?_
  refine bGo hA 0 1 (1, .sipush (256), 3, 2, 0, [], [(256, 0)]) rfl rfl rfl ?_
  refine bEqI bl_256 ?_
  refine bGo hA 0 2 (4, .idiv, 1, 3, 0, [], []) rfl rfl rfl ?_
  refine ⟨by decide, ?_⟩
  refine bEqI (bn_div h_x1 (by decide) h.1) ?_
  refine bGo hA 0 3 (5, .istore_n 3, 1, 4, 0, [3], []) rfl rfl rfl ?_
  refine bGo hA 0 4 (6, .aload_n 0, 1, 5, 0, [0], []) rfl rfl rfl ?_
  refine bGo hA 0 5 (7, .getfield 86, 3, 6, 0, [12, 29, 3, 81, 1, 0], []) rfl rfl rfl ?_
  refine ⟨rfl, ?_⟩
  refine bGo hA 0 6 (10, .iload_n 3, 1, 7, 0, [3], []) rfl rfl rfl ?_
  refine bGo hA 0 7 (11, .iaload, 1, 8, 0, [], []) rfl rfl rfl ?_
  refine ⟨rfl, (bIxP (x := (x1 / 256)) (n := 16) (bRg_div h_x1 h.1) h.2.1), ?_⟩
  refine bEqL (x := (x1 / 256)) (bRg_div h_x1 h.1) ?_
  refine bGo hA 0 8 (12, .istore 4, 2, 9, 0, [4], []) rfl rfl rfl ?_
  refine bGo hA 0 9 (14, .iload_n 1, 1, 10, 0, [1], []) rfl rfl rfl ?_
  refine bGo hA 0 10 (15, .sipush (256), 3, 11, 0, [], [(256, 0)]) rfl rfl rfl ?_
  refine bEqI bl_256 ?_
  refine bGo hA 0 11 (18, .irem, 1, 12, 0, [], []) rfl rfl rfl ?_
  refine ⟨by decide, ?_⟩
  refine bEqI (bn_rem h_x1 (by decide) h.1) ?_
  refine bGo hA 0 12 (19, .istore 5, 2, 13, 0, [5], []) rfl rfl rfl ?_
  refine bGo hA 0 13 (21, .iload 4, 2, 14, 0, [4], []) rfl rfl rfl ?_
  refine bGo hA 0 14 (23, .iconst (-1), 1, 15, 0, [], [(-1, 0)]) rfl rfl rfl ?_
  refine bEqI bl_m1 ?_
  refine bGo hA 0 15 (24, .if_icmp .eq (27), 3, 16, 31, [], []) rfl rfl rfl ?_
  refine bB_eq (x := (bi σ 81 (x1 / 256))) (y := (-1)) (bi_rg _ _ _) (by decide : bRg (-1)) (fun c1 => ?_) (fun c1 => ?_)
  · refine bGo hA 1 15 (51, .sipush (256), 3, 32, 0, [], [(256, 0)]) rfl rfl rfl ?_
    refine bEqI bl_256 ?_
    refine bGo hA 2 0 (54, .aload_n 0, 1, 33, 0, [0], []) rfl rfl rfl ?_
    refine bGo hA 2 1 (55, .getfield 104, 3, 34, 0, [12, 35, 3, 87, 1, 0], []) rfl rfl rfl ?_
    refine ⟨rfl, ?_⟩
    refine bGo hA 2 2 (58, .iload_n 2, 1, 35, 0, [2], []) rfl rfl rfl ?_
    refine bGo hA 2 3 (59, .iaload, 1, 36, 0, [], []) rfl rfl rfl ?_
    refine ⟨rfl, (bIxP (x := x2) (n := 96) h_x2 (h.2.2.1 c1).1), ?_⟩
    refine bEqL (x := x2) h_x2 ?_
    refine bGo hA 2 4 (60, .imul, 1, 37, 0, [], []) rfl rfl rfl ?_
    refine bEqI (bn_mul 256 (bi σ 87 x2)) ?_
    refine bGo hA 2 5 (61, .iload 5, 2, 38, 0, [5], []) rfl rfl rfl ?_
    refine bGo hA 2 6 (63, .iadd, 1, 39, 0, [], []) rfl rfl rfl ?_
    refine bEqI (bn_add (256 * (bi σ 87 x2)) (x1 % 256)) ?_
    refine bGo hA 2 7 (64, .ireturn, 1, 0, 0, [1], []) rfl rfl rfl ?_
    exact (h.2.2.1 c1).2.2.2
  · refine bGo hA 1 0 (27, .iload 5, 2, 17, 0, [5], []) rfl rfl rfl ?_
    refine bGo hA 1 1 (29, .aload_n 0, 1, 18, 0, [0], []) rfl rfl rfl ?_
    refine bGo hA 1 2 (30, .getfield 89, 3, 19, 0, [12, 30, 3, 82, 1, 0], []) rfl rfl rfl ?_
    refine ⟨rfl, ?_⟩
    refine bGo hA 1 3 (33, .iload_n 3, 1, 20, 0, [3], []) rfl rfl rfl ?_
    refine bGo hA 1 4 (34, .iaload, 1, 21, 0, [], []) rfl rfl rfl ?_
    refine ⟨rfl, (bIxP (x := (x1 / 256)) (n := 16) (bRg_div h_x1 h.1) h.2.1), ?_⟩
    refine bEqL (x := (x1 / 256)) (bRg_div h_x1 h.1) ?_
    refine bGo hA 1 5 (35, .iload 5, 2, 22, 0, [5], []) rfl rfl rfl ?_
    refine bGo hA 1 6 (37, .iload 4, 2, 23, 0, [4], []) rfl rfl rfl ?_
    refine bGo hA 1 7 (39, .invokestatic 390, 3, 24, 0, [2, 239, 2], []) rfl rfl rfl ?_
    refine hC _ _ _ _ _ (bRn_e (fun r4 s2 q5 k3 => ?_)) (h.2.2.2 c1)
    show A (24, [.ref 12, .int (bn x1), .int (bn x2), .int (bn (x1 / 256)), .int (bn (bi σ 81 (x1 / 256))), .int (bn (x1 % 256))], [.int (bn r4), .int (bn (bi σ 82 (x1 / 256))), .int (bn (x1 % 256))], s2)
    refine bGo hA 1 8 (42, .isub, 1, 25, 0, [], []) rfl rfl rfl ?_
    refine bEqI (bn_sub (bi σ 82 (x1 / 256)) r4) ?_
    refine bGo hA 1 9 (43, .iconst (2), 1, 26, 0, [], [(2, 0)]) rfl rfl rfl ?_
    refine bEqI bl_2 ?_
    refine bGo hA 1 10 (44, .iload 4, 2, 27, 0, [4], []) rfl rfl rfl ?_
    refine bGo hA 1 11 (46, .imul, 1, 28, 0, [], []) rfl rfl rfl ?_
    refine bEqI (bn_mul 2 (bi σ 81 (x1 / 256))) ?_
    refine bGo hA 1 12 (47, .ishl, 1, 29, 0, [], []) rfl rfl rfl ?_
    refine bEqI (bn_shl ((bi σ 82 (x1 / 256)) - r4) (2 * (bi σ 81 (x1 / 256)))) ?_
    refine bGo hA 1 13 (48, .iadd, 1, 30, 0, [], []) rfl rfl rfl ?_
    refine bEqI (bn_add (x1 % 256) (bShl ((bi σ 82 (x1 / 256)) - r4) (2 * (bi σ 81 (x1 / 256))))) ?_
    refine bGo hA 1 14 (49, .istore 5, 2, 31, 0, [5], []) rfl rfl rfl ?_
    refine bGo hA 1 15 (51, .sipush (256), 3, 32, 0, [], [(256, 0)]) rfl rfl rfl ?_
    refine bEqI bl_256 ?_
    refine bGo hA 2 0 (54, .aload_n 0, 1, 33, 0, [0], []) rfl rfl rfl ?_
    refine bGo hA 2 1 (55, .getfield 104, 3, 34, 0, [12, 35, 3, 87, 1, 0], []) rfl rfl rfl ?_
    refine ⟨rfl, ?_⟩
    refine bGo hA 2 2 (58, .iload_n 2, 1, 35, 0, [2], []) rfl rfl rfl ?_
    refine bGo hA 2 3 (59, .iaload, 1, 36, 0, [], []) rfl rfl rfl ?_
    refine ⟨rfl, (bIxP (x := x2) (n := 96) h_x2 k3.2.2.2.1), ?_⟩
    refine bEqL (x := x2) h_x2 ?_
    refine bGo hA 2 4 (60, .imul, 1, 37, 0, [], []) rfl rfl rfl ?_
    refine bEqI (bn_mul 256 (bi s2 87 x2)) ?_
    refine bGo hA 2 5 (61, .iload 5, 2, 38, 0, [5], []) rfl rfl rfl ?_
    refine bGo hA 2 6 (63, .iadd, 1, 39, 0, [], []) rfl rfl rfl ?_
    refine bEqI (bn_add (256 * (bi s2 87 x2)) ((x1 % 256) + (bShl ((bi σ 82 (x1 / 256)) - r4) (2 * (bi σ 81 (x1 / 256)))))) ?_
    refine bGo hA 2 7 (64, .ireturn, 1, 0, 0, [1], []) rfl rfl rfl ?_
    exact k3.2.2.2.2.2.2

theorem sq241_0 {lvl : Nat} {C : bCall} {Q : bPost} {A : bPt → Prop} (hC : bMono C) (hA : bClosed lvl bm241 C Q A) {x1 : Int} {σ : bSt}  (h_x1 : bRg x1)
  (h : (C 238 [.ref 12] σ (bRn (fun r3 s1 => A (5, [.ref 12, .int (bn x1), .int (bn r3), .int (bn 0), .float 0], [], s1))))) : A (0, [.ref 12, .int (bn x1), .float 0, .float 0, .float 0], [], σ) := by
  refine bGo hA 0 0 (0, .aload_n 0, 1, 1, 0, [0], []) rfl rfl rfl ?_
  refine bGo hA 0 1 (1, .invokevirtual 394, 3, 2, 0, [0, 12, 238, 0], []) rfl rfl rfl ?_
  refine ⟨rfl, ?_⟩
  refine hC _ _ _ _ _ (bRn_e (fun r3 s1 q4 k2 => ?_)) h
  show A (2, [.ref 12, .int (bn x1), .float 0, .float 0, .float 0], [.int (bn r3)], s1)
  refine bGo hA 0 2 (4, .istore_n 2, 1, 3, 0, [2], []) rfl rfl rfl ?_
  refine bGo hA 0 3 (5, .iconst (0), 1, 4, 0, [], [(0, 0)]) rfl rfl rfl ?_
  refine bEqI bl_0 ?_
  refine bGo hA 0 4 (6, .istore_n 3, 1, 5, 0, [3], []) rfl rfl rfl ?_
  exact k2

theorem sq241_5 {lvl : Nat} {C : bCall} {Q : bPost} {A : bPt → Prop} (hC : bMono C) (hA : bClosed lvl bm241 C Q A) {l1 : Int} {l2 : Int} {l3 : Int} {v4 : Value} {σ : bSt}  (h_l1 : bRg l1) (h_l2 : bRg l2) (h_l3 : bRg l3)
  (h : ((l3 < 4096 → (0 ≤ l3 ∧ (((bAnd (bShr l1 (l3 / 256)) 1) = 1 → (((l3 % 256) = l2 → ((0 ≤ l3 ∧ l3 < 4096) ∧ (bRg (l3 + 1) ∧ A (5, [.ref 12, .int (bn l1), .int (bn l2), .int (bn (l3 + 1)), v4], [], (bw (bw σ 94 l3 1) 99 l3 (-9)))))) ∧ (¬ (l3 % 256) = l2 → ((0 ≤ l3 ∧ l3 < 4096) ∧ (bRg (l3 + 1) ∧ A (5, [.ref 12, .int (bn l1), .int (bn l2), .int (bn (l3 + 1)), v4], [], (bw (bw σ 94 l3 0) 99 l3 (-9)))))))) ∧ (¬ (bAnd (bShr l1 (l3 / 256)) 1) = 1 → ((0 ≤ l3 ∧ l3 < 4096) ∧ (bRg (l3 + 1) ∧ A (5, [.ref 12, .int (bn l1), .int (bn l2), .int (bn (l3 + 1)), v4], [], (bw (bw σ 94 l3 0) 99 l3 (-9))))))))) ∧ (¬ l3 < 4096 → (bRg (256 * (bi σ 12 22)) ∧ (bRg ((256 * (bi σ 12 22)) - 1) ∧ A (43, [.ref 12, .int (bn l1), .int (bn l2), .int (bn ((256 * (bi σ 12 22)) - 1)), v4], [], σ)))))) : A (5, [.ref 12, .int (bn l1), .int (bn l2), .int (bn l3), v4], [], σ) := by
  refine bGo hA 0 5 (7, .iload_n 3, 1, 6, 0, [3], []) rfl rfl rfl ?_
  refine bGo hA 0 6 (8, .sipush (4096), 3, 7, 0, [], [(4096, 0)]) rfl rfl rfl ?_
  refine bEqI bl_4096 ?_
  refine bGo hA 0 7 (11, .if_icmp .ge (50), 3, 8, 36, [], []) rfl rfl rfl ?_
  refine bB_lt (x := l3) (y := 4096) h_l3 (by decide : bRg 4096) (fun c1 => ?_) (fun c1 => ?_)
  · refine bGo hA 0 8 (14, .aload_n 0, 1, 9, 0, [0], []) rfl rfl rfl ?_
    refine bGo hA 0 9 (15, .getfield 125, 3, 10, 0, [12, 42, 3, 94, 1, 0], []) rfl rfl rfl ?_
    refine ⟨rfl, ?_⟩
    refine bGo hA 0 10 (18, .iload_n 3, 1, 11, 0, [3], []) rfl rfl rfl ?_
    refine bGo hA 0 11 (19, .iload_n 1, 1, 12, 0, [1], []) rfl rfl rfl ?_
    refine bGo hA 0 12 (20, .iload_n 3, 1, 13, 0, [3], []) rfl rfl rfl ?_
    refine bGo hA 0 13 (21, .sipush (256), 3, 14, 0, [], [(256, 0)]) rfl rfl rfl ?_
    refine bEqI bl_256 ?_
    refine bGo hA 0 14 (24, .idiv, 1, 15, 0, [], []) rfl rfl rfl ?_
    refine ⟨by decide, ?_⟩
    refine bEqI (bn_div h_l3 (by decide) (h.1 c1).1) ?_
    refine bGo hA 0 15 (25, .ishr, 1, 16, 0, [], []) rfl rfl rfl ?_
    refine bEqI (bn_shr l1 (l3 / 256)) ?_
    refine bGo hA 1 0 (26, .iconst (1), 1, 17, 0, [], [(1, 0)]) rfl rfl rfl ?_
    refine bEqI bl_1 ?_
    refine bGo hA 1 1 (27, .iand, 1, 18, 0, [], []) rfl rfl rfl ?_
    refine bEqI (bn_and (bShr l1 (l3 / 256)) 1) ?_
    refine bGo hA 1 2 (28, .iconst (1), 1, 19, 0, [], [(1, 0)]) rfl rfl rfl ?_
    refine bEqI bl_1 ?_
    refine bGo hA 1 3 (29, .if_icmp .ne (16), 3, 20, 27, [], []) rfl rfl rfl ?_
    refine bB_eq (x := (bAnd (bShr l1 (l3 / 256)) 1)) (y := 1) (bRgI _) (by decide : bRg 1) (fun c2 => ?_) (fun c2 => ?_)
    · refine bGo hA 1 4 (32, .iload_n 3, 1, 21, 0, [3], []) rfl rfl rfl ?_
      refine bGo hA 1 5 (33, .sipush (256), 3, 22, 0, [], [(256, 0)]) rfl rfl rfl ?_
      refine bEqI bl_256 ?_
      refine bGo hA 1 6 (36, .irem, 1, 23, 0, [], []) rfl rfl rfl ?_
      refine ⟨by decide, ?_⟩
      refine bEqI (bn_rem h_l3 (by decide) (h.1 c1).1) ?_
      refine bGo hA 1 7 (37, .iload_n 2, 1, 24, 0, [2], []) rfl rfl rfl ?_
      refine bGo hA 1 8 (38, .if_icmp .ne (7), 3, 25, 27, [], []) rfl rfl rfl ?_
      refine bB_eq (x := (l3 % 256)) (y := l2) (bRg_mod (by decide) (by decide)) h_l2 (fun c3 => ?_) (fun c3 => ?_)
      · refine bGo hA 1 9 (41, .iconst (1), 1, 26, 0, [], [(1, 0)]) rfl rfl rfl ?_
        refine bEqI bl_1 ?_
        refine bGo hA 1 10 (42, .goto (4), 3, 27, 28, [], []) rfl rfl rfl ?_
        refine bGo hA 1 12 (46, .bastore, 1, 29, 0, [], []) rfl rfl rfl ?_
        refine ⟨rfl, (bIxP (x := l3) (n := 4096) h_l3 (((h.1 c1).2.1 c2).1 c3).1), by decide, b01 (Or.inr rfl), ?_⟩
        refine bEqS (x := l3) h_l3 ?_
        refine bGo hA 1 13 (47, .aload_n 0, 1, 30, 0, [0], []) rfl rfl rfl ?_
        refine bGo hA 1 14 (48, .getfield 140, 3, 31, 0, [12, 47, 3, 99, 1, 0], []) rfl rfl rfl ?_
        refine ⟨rfl, ?_⟩
        refine bGo hA 1 15 (51, .iload_n 3, 1, 32, 0, [3], []) rfl rfl rfl ?_
        refine bGo hA 2 0 (52, .bipush (-9), 2, 33, 0, [], [(-9, 0)]) rfl rfl rfl ?_
        refine bEqI bl_m9 ?_
        refine bGo hA 2 1 (54, .iastore, 1, 34, 0, [], []) rfl rfl rfl ?_
        refine ⟨rfl, (bIxP (x := l3) (n := 4096) h_l3 (((h.1 c1).2.1 c2).1 c3).1), by decide, ?_⟩
        refine bEqS (x := l3) h_l3 ?_
        refine bGo hA 2 2 (55, .iinc 3 (1), 3, 35, 0, [3], [(1, 0)]) rfl rfl rfl ?_
        refine bEqC (fun v => A (35, [.ref 12, .int (bn l1), .int (bn l2), .int v, v4], [], (bw (bw σ 94 l3 1) 99 l3 (-9)))) ((congrArg (fun w => bn l3 + w) bl_1).trans (bn_add l3 1)) ?_
        refine bGo hA 2 3 (58, .goto (-51), 3, 36, 5, [], []) rfl rfl rfl ?_
        exact (((h.1 c1).2.1 c2).1 c3).2.2
      · refine bGo hA 1 11 (45, .iconst (0), 1, 28, 0, [], [(0, 0)]) rfl rfl rfl ?_
        refine bEqI bl_0 ?_
        refine bGo hA 1 12 (46, .bastore, 1, 29, 0, [], []) rfl rfl rfl ?_
        refine ⟨rfl, (bIxP (x := l3) (n := 4096) h_l3 (((h.1 c1).2.1 c2).2 c3).1), by decide, b01 (Or.inl rfl), ?_⟩
        refine bEqS (x := l3) h_l3 ?_
        refine bGo hA 1 13 (47, .aload_n 0, 1, 30, 0, [0], []) rfl rfl rfl ?_
        refine bGo hA 1 14 (48, .getfield 140, 3, 31, 0, [12, 47, 3, 99, 1, 0], []) rfl rfl rfl ?_
        refine ⟨rfl, ?_⟩
        refine bGo hA 1 15 (51, .iload_n 3, 1, 32, 0, [3], []) rfl rfl rfl ?_
        refine bGo hA 2 0 (52, .bipush (-9), 2, 33, 0, [], [(-9, 0)]) rfl rfl rfl ?_
        refine bEqI bl_m9 ?_
        refine bGo hA 2 1 (54, .iastore, 1, 34, 0, [], []) rfl rfl rfl ?_
        refine ⟨rfl, (bIxP (x := l3) (n := 4096) h_l3 (((h.1 c1).2.1 c2).2 c3).1), by decide, ?_⟩
        refine bEqS (x := l3) h_l3 ?_
        refine bGo hA 2 2 (55, .iinc 3 (1), 3, 35, 0, [3], [(1, 0)]) rfl rfl rfl ?_
        refine bEqC (fun v => A (35, [.ref 12, .int (bn l1), .int (bn l2), .int v, v4], [], (bw (bw σ 94 l3 0) 99 l3 (-9)))) ((congrArg (fun w => bn l3 + w) bl_1).trans (bn_add l3 1)) ?_
        refine bGo hA 2 3 (58, .goto (-51), 3, 36, 5, [], []) rfl rfl rfl ?_
        exact (((h.1 c1).2.1 c2).2 c3).2.2
    · refine bGo hA 1 11 (45, .iconst (0), 1, 28, 0, [], [(0, 0)]) rfl rfl rfl ?_
      refine bEqI bl_0 ?_
      refine bGo hA 1 12 (46, .bastore, 1, 29, 0, [], []) rfl rfl rfl ?_
      refine ⟨rfl, (bIxP (x := l3) (n := 4096) h_l3 ((h.1 c1).2.2 c2).1), by decide, b01 (Or.inl rfl), ?_⟩
      refine bEqS (x := l3) h_l3 ?_
      refine bGo hA 1 13 (47, .aload_n 0, 1, 30, 0, [0], []) rfl rfl rfl ?_
      refine bGo hA 1 14 (48, .getfield 140, 3, 31, 0, [12, 47, 3, 99, 1, 0], []) rfl rfl rfl ?_
      refine ⟨rfl, ?_⟩
      refine bGo hA 1 15 (51, .iload_n 3, 1, 32, 0, [3], []) rfl rfl rfl ?_
      refine bGo hA 2 0 (52, .bipush (-9), 2, 33, 0, [], [(-9, 0)]) rfl rfl rfl ?_
      refine bEqI bl_m9 ?_
      refine bGo hA 2 1 (54, .iastore, 1, 34, 0, [], []) rfl rfl rfl ?_
      refine ⟨rfl, (bIxP (x := l3) (n := 4096) h_l3 ((h.1 c1).2.2 c2).1), by decide, ?_⟩
      refine bEqS (x := l3) h_l3 ?_
      refine bGo hA 2 2 (55, .iinc 3 (1), 3, 35, 0, [3], [(1, 0)]) rfl rfl rfl ?_
      refine bEqC (fun v => A (35, [.ref 12, .int (bn l1), .int (bn l2), .int v, v4], [], (bw (bw σ 94 l3 0) 99 l3 (-9)))) ((congrArg (fun w => bn l3 + w) bl_1).trans (bn_add l3 1)) ?_
      refine bGo hA 2 3 (58, .goto (-51), 3, 36, 5, [], []) rfl rfl rfl ?_
      exact ((h.1 c1).2.2 c2).2.2
  · refine bGo hA 2 4 (61, .sipush (256), 3, 37, 0, [], [(256, 0)]) rfl rfl rfl ?_
    refine bEqI bl_256 ?_
    refine bGo hA 2 5 (64, .aload_n 0, 1, 38, 0, [0], []) rfl rfl rfl ?_
    refine bGo hA 2 6 (65, .getfield 380, 3, 39, 0, [12, 22, 0, 0, 0, 0], []) rfl rfl rfl ?_
    refine ⟨rfl, ?_⟩
    refine bEqI (bn_bi σ 12 22) ?_
    refine bGo hA 2 7 (68, .imul, 1, 40, 0, [], []) rfl rfl rfl ?_
    refine bEqI (bn_mul 256 (bi σ 12 22)) ?_
    refine bGo hA 2 8 (69, .iconst (1), 1, 41, 0, [], [(1, 0)]) rfl rfl rfl ?_
    refine bEqI bl_1 ?_
    refine bGo hA 2 9 (70, .isub, 1, 42, 0, [], []) rfl rfl rfl ?_
    refine bEqI (bn_sub (256 * (bi σ 12 22)) 1) ?_
    refine bGo hA 2 10 (71, .istore_n 3, 1, 43, 0, [3], []) rfl rfl rfl ?_
    exact (h.2 c1).2.2

theorem sq241_43 {lvl : Nat} {C : bCall} {Q : bPost} {A : bPt → Prop} (hC : bMono C) (hA : bClosed lvl bm241 C Q A) {v1 : Value} {v2 : Value} {l3 : Int} {v4 : Value} {σ : bSt}  (h_l3 : bRg l3)
  (h : ((l3 < 0 → A (90, [.ref 12, v1, (bUnl v2), .int (bn 0), v4], [], σ)) ∧ (¬ l3 < 0 → (0 ≤ l3 ∧ (bRg (6 * (l3 / 256)) ∧ A (51, [.ref 12, v1, v2, .int (bn l3), .int (bn (6 * (l3 / 256)))], [], σ)))))) : A (43, [.ref 12, v1, v2, .int (bn l3), v4], [], σ) := by
  refine bGo hA 2 11 (72, .iload_n 3, 1, 44, 0, [3], []) rfl rfl rfl ?_
  refine bGo hA 2 12 (73, .ifCond .lt (82), 3, 45, 88, [], []) rfl rfl rfl ?_
  refine bB_lt0 (x := l3) h_l3 (fun c1 => ?_) (fun c1 => ?_)
  · refine bGo hA 5 8 (155, .iconst (0), 1, 89, 0, [], [(0, 0)]) rfl rfl rfl ?_
    refine bEqI bl_0 ?_
    refine bGo hA 5 9 (156, .istore_n 3, 1, 90, 0, [3], []) rfl rfl rfl ?_
    exact (h.1 c1)
  · refine bGo hA 2 13 (76, .bipush (6), 2, 46, 0, [], [(6, 0)]) rfl rfl rfl ?_
    refine bEqI bl_6 ?_
    refine bGo hA 2 14 (78, .iload_n 3, 1, 47, 0, [3], []) rfl rfl rfl ?_
    refine bGo hA 2 15 (79, .sipush (256), 3, 48, 0, [], [(256, 0)]) rfl rfl rfl ?_
    refine bEqI bl_256 ?_
    refine bGo hA 3 0 (82, .idiv, 1, 49, 0, [], []) rfl rfl rfl ?_
    refine ⟨by decide, ?_⟩
    refine bEqI (bn_div h_l3 (by decide) (h.2 c1).1) ?_
    refine bGo hA 3 1 (83, .imul, 1, 50, 0, [], []) rfl rfl rfl ?_
    refine bEqI (bn_mul 6 (l3 / 256)) ?_
    refine bGo hA 3 2 (84, .istore 4, 2, 51, 0, [4], []) rfl rfl rfl ?_
    exact (h.2 c1).2.2

theorem sq241_90 {lvl : Nat} {C : bCall} {Q : bPost} {A : bPt → Prop} (hC : bMono C) (hA : bClosed lvl bm241 C Q A) {v1 : Value} {v2 : Value} {l3 : Int} {v4 : Value} {σ : bSt}  (h_l3 : bRg l3)
  (h : (bRg (256 * (bi σ 12 22)) ∧ ((l3 < (256 * (bi σ 12 22)) → ((0 ≤ l3 ∧ l3 < 4096) ∧ (((bi σ 94 l3) = 0 → (bRg (l3 + 1) ∧ A (90, [.ref 12, v1, (bUnl v2), .int (bn (l3 + 1)), v4], [], σ))) ∧ (¬ (bi σ 94 l3) = 0 → (C 242 [.ref 12, .int (bn l3)] (bw σ 96 l3 (-1)) (bRn (fun r5 s3 => (bRg (l3 + 1) ∧ A (90, [.ref 12, v1, (bUnl v2), .int (bn (l3 + 1)), v4], [], (bw s3 95 l3 r5)))))))))) ∧ (¬ l3 < (256 * (bi σ 12 22)) → Q (.inl none) σ)))) : A (90, [.ref 12, v1, v2, .int (bn l3), v4], [], σ) := by
  refine bGo hA 5 10 (157, .iload_n 3, 1, 91, 0, [3], []) rfl rfl rfl ?_
  refine bGo hA 5 11 (158, .sipush (256), 3, 92, 0, [], [(256, 0)]) rfl rfl rfl ?_
  refine bEqI bl_256 ?_
  refine bGo hA 5 12 (161, .aload_n 0, 1, 93, 0, [0], []) rfl rfl rfl ?_
  refine bGo hA 5 13 (162, .getfield 380, 3, 94, 0, [12, 22, 0, 0, 0, 0], []) rfl rfl rfl ?_
  refine ⟨rfl, ?_⟩
  refine bEqI (bn_bi σ 12 22) ?_
  refine bGo hA 5 14 (165, .imul, 1, 95, 0, [], []) rfl rfl rfl ?_
  refine bEqI (bn_mul 256 (bi σ 12 22)) ?_
  refine bGo hA 5 15 (166, .if_icmp .ge (36), 3, 96, 115, [], []) rfl rfl rfl ?_
  refine bB_lt (x := l3) (y := (256 * (bi σ 12 22))) h_l3 h.1 (fun c1 => ?_) (fun c1 => ?_)
  · refine bGo hA 6 0 (169, .aload_n 0, 1, 97, 0, [0], []) rfl rfl rfl ?_
    refine bGo hA 6 1 (170, .getfield 125, 3, 98, 0, [12, 42, 3, 94, 1, 0], []) rfl rfl rfl ?_
    refine ⟨rfl, ?_⟩
    refine bGo hA 6 2 (173, .iload_n 3, 1, 99, 0, [3], []) rfl rfl rfl ?_
    refine bGo hA 6 3 (174, .baload, 1, 100, 0, [], []) rfl rfl rfl ?_
    refine ⟨rfl, (bIxP (x := l3) (n := 4096) h_l3 (h.2.1 c1).1), ?_⟩
    refine bEqL (x := l3) h_l3 ?_
    refine bGo hA 6 4 (175, .ifCond .eq (21), 3, 101, 113, [], []) rfl rfl rfl ?_
    refine bB_eq0 (x := (bi σ 94 l3)) (bi_rg _ _ _) (fun c2 => ?_) (fun c2 => ?_)
    · refine bGo hA 7 1 (196, .iinc 3 (1), 3, 114, 0, [3], [(1, 0)]) rfl rfl rfl ?_
      refine bEqC (fun v => A (114, [.ref 12, v1, (bUnl v2), .int v, v4], [], σ)) ((congrArg (fun w => bn l3 + w) bl_1).trans (bn_add l3 1)) ?_
      refine bGo hA 7 2 (199, .goto (-42), 3, 115, 90, [], []) rfl rfl rfl ?_
      exact ((h.2.1 c1).2.1 c2).2
    · refine bGo hA 6 5 (178, .aload_n 0, 1, 102, 0, [0], []) rfl rfl rfl ?_
      refine bGo hA 6 6 (179, .getfield 131, 3, 103, 0, [12, 44, 3, 96, 1, 0], []) rfl rfl rfl ?_
      refine ⟨rfl, ?_⟩
      refine bGo hA 6 7 (182, .iload_n 3, 1, 104, 0, [3], []) rfl rfl rfl ?_
      refine bGo hA 6 8 (183, .iconst (-1), 1, 105, 0, [], [(-1, 0)]) rfl rfl rfl ?_
      refine bEqI bl_m1 ?_
      refine bGo hA 6 9 (184, .iastore, 1, 106, 0, [], []) rfl rfl rfl ?_
      refine ⟨rfl, (bIxP (x := l3) (n := 4096) h_l3 (h.2.1 c1).1), by decide, ?_⟩
      refine bEqS (x := l3) h_l3 ?_
      refine bGo hA 6 10 (185, .aload_n 0, 1, 107, 0, [0], []) rfl rfl rfl ?_
      refine bGo hA 6 11 (186, .getfield 128, 3, 108, 0, [12, 43, 3, 95, 1, 0], []) rfl rfl rfl ?_
      refine ⟨rfl, ?_⟩
      refine bGo hA 6 12 (189, .iload_n 3, 1, 109, 0, [3], []) rfl rfl rfl ?_
      refine bGo hA 6 13 (190, .aload_n 0, 1, 110, 0, [0], []) rfl rfl rfl ?_
      refine bGo hA 6 14 (191, .iload_n 3, 1, 111, 0, [3], []) rfl rfl rfl ?_
      refine bGo hA 6 15 (192, .invokevirtual 401, 3, 112, 0, [0, 12, 242, 1], []) rfl rfl rfl ?_
      refine ⟨rfl, ?_⟩
      refine hC _ _ _ _ _ (bRn_e (fun r5 s3 q6 k4 => ?_)) ((h.2.1 c1).2.2 c2)
      show A (112, [.ref 12, v1, v2, .int (bn l3), v4], [.int (bn r5), .int (bn l3), .ref 95], s3)
      refine bGo hA 7 0 (195, .iastore, 1, 113, 0, [], []) rfl rfl rfl ?_
      refine ⟨rfl, (bIxP (x := l3) (n := 4096) h_l3 (h.2.1 c1).1), by decide, ?_⟩
      refine bEqS (x := l3) h_l3 ?_
      refine bGo hA 7 1 (196, .iinc 3 (1), 3, 114, 0, [3], [(1, 0)]) rfl rfl rfl ?_
      refine bEqC (fun v => A (114, [.ref 12, v1, (bUnl v2), .int v, v4], [], (bw s3 95 l3 r5))) ((congrArg (fun w => bn l3 + w) bl_1).trans (bn_add l3 1)) ?_
      refine bGo hA 7 2 (199, .goto (-42), 3, 115, 90, [], []) rfl rfl rfl ?_
      exact k4.2
  · refine bGo hA 7 3 (202, .return_, 1, 0, 0, [0], []) rfl rfl rfl ?_
    exact (h.2.2 c1)

theorem sq241_51 {lvl : Nat} {C : bCall} {Q : bPost} {A : bPt → Prop} (hC : bMono C) (hA : bClosed lvl bm241 C Q A) {v1 : Value} {v2 : Value} {l3 : Int} {l4 : Int} {σ : bSt}  (h_l3 : bRg l3) (h_l4 : bRg l4)
  (h : ((0 ≤ l3 ∧ l3 < 4096) ∧ (((bi σ 94 l3) = 0 → (bRg (l3 + (-1)) ∧ A (43, [.ref 12, v1, (bUnl v2), .int (bn (l3 + (-1))), .int (bn l4)], [], σ))) ∧ (¬ (bi σ 94 l3) = 0 → (0 ≤ l3 ∧ (bRg (6 * (l3 / 256)) ∧ ((0 ≤ (l3 / 256) ∧ (l3 / 256) < 16) ∧ (bRg ((6 * (l3 / 256)) + (bi σ 85 (l3 / 256))) ∧ ((l4 < ((6 * (l3 / 256)) + (bi σ 85 (l3 / 256))) → ((0 ≤ l4 ∧ l4 < 96) ∧ (((bi σ 86 l4) = 2 → (C 240 [.ref 12, .int (bn l3), .int (bn l4)] σ (bRn (fun r6 s4 => ((0 ≤ r6 ∧ r6 < 4096) ∧ (bRg (l4 + 1) ∧ A (51, [.ref 12, v1, v2, .int (bn l3), .int (bn (l4 + 1))], [], (bw s4 94 r6 1)))))))) ∧ (¬ (bi σ 86 l4) = 2 → (bRg (l4 + 1) ∧ A (51, [.ref 12, v1, v2, .int (bn l3), .int (bn (l4 + 1))], [], σ)))))) ∧ (¬ l4 < ((6 * (l3 / 256)) + (bi σ 85 (l3 / 256))) → (bRg (l3 + (-1)) ∧ A (43, [.ref 12, v1, (bUnl v2), .int (bn (l3 + (-1))), .int (bn l4)], [], σ)))))))))))) : A (51, [.ref 12, v1, v2, .int (bn l3), .int (bn l4)], [], σ) := by
  refine bGo hA 3 3 (86, .aload_n 0, 1, 52, 0, [0], []) rfl rfl rfl ?_
  refine bGo hA 3 4 (87, .getfield 125, 3, 53, 0, [12, 42, 3, 94, 1, 0], []) rfl rfl rfl ?_
  refine ⟨rfl, ?_⟩
  refine bGo hA 3 5 (90, .iload_n 3, 1, 54, 0, [3], []) rfl rfl rfl ?_
  refine bGo hA 3 6 (91, .baload, 1, 55, 0, [], []) rfl rfl rfl ?_
  refine ⟨rfl, (bIxP (x := l3) (n := 4096) h_l3 h.1), ?_⟩
  refine bEqL (x := l3) h_l3 ?_
  refine bGo hA 3 7 (92, .ifCond .eq (57), 3, 56, 86, [], []) rfl rfl rfl ?_
  refine bB_eq0 (x := (bi σ 94 l3)) (bi_rg _ _ _) (fun c1 => ?_) (fun c1 => ?_)
  · refine bGo hA 5 6 (149, .iinc 3 (-1), 3, 87, 0, [3], [(-1, 0)]) rfl rfl rfl ?_
    refine bEqC (fun v => A (87, [.ref 12, v1, (bUnl v2), .int v, .int (bn l4)], [], σ)) ((congrArg (fun w => bn l3 + w) bl_m1).trans (bn_add l3 (-1))) ?_
    refine bGo hA 5 7 (152, .goto (-80), 3, 88, 43, [], []) rfl rfl rfl ?_
    exact (h.2.1 c1).2
  · refine bGo hA 3 8 (95, .iload 4, 2, 57, 0, [4], []) rfl rfl rfl ?_
    refine bGo hA 3 9 (97, .bipush (6), 2, 58, 0, [], [(6, 0)]) rfl rfl rfl ?_
    refine bEqI bl_6 ?_
    refine bGo hA 3 10 (99, .iload_n 3, 1, 59, 0, [3], []) rfl rfl rfl ?_
    refine bGo hA 3 11 (100, .sipush (256), 3, 60, 0, [], [(256, 0)]) rfl rfl rfl ?_
    refine bEqI bl_256 ?_
    refine bGo hA 3 12 (103, .idiv, 1, 61, 0, [], []) rfl rfl rfl ?_
    refine ⟨by decide, ?_⟩
    refine bEqI (bn_div h_l3 (by decide) (h.2.2 c1).1) ?_
    refine bGo hA 3 13 (104, .imul, 1, 62, 0, [], []) rfl rfl rfl ?_
    refine bEqI (bn_mul 6 (l3 / 256)) ?_
    refine bGo hA 3 14 (105, .aload_n 0, 1, 63, 0, [0], []) rfl rfl rfl ?_
    refine bGo hA 3 15 (106, .getfield 98, 3, 64, 0, [12, 33, 3, 85, 1, 0], []) rfl rfl rfl ?_
    refine ⟨rfl, ?_⟩
    refine bGo hA 4 0 (109, .iload_n 3, 1, 65, 0, [3], []) rfl rfl rfl ?_
    refine bGo hA 4 1 (110, .sipush (256), 3, 66, 0, [], [(256, 0)]) rfl rfl rfl ?_
    refine bEqI bl_256 ?_
    refine bGo hA 4 2 (113, .idiv, 1, 67, 0, [], []) rfl rfl rfl ?_
    refine ⟨by decide, ?_⟩
    refine bEqI (bn_div h_l3 (by decide) (h.2.2 c1).1) ?_
    refine bGo hA 4 3 (114, .iaload, 1, 68, 0, [], []) rfl rfl rfl ?_
    refine ⟨rfl, (bIxP (x := (l3 / 256)) (n := 16) (bRg_div h_l3 (h.2.2 c1).1) (h.2.2 c1).2.2.1), ?_⟩
    refine bEqL (x := (l3 / 256)) (bRg_div h_l3 (h.2.2 c1).1) ?_
    refine bGo hA 4 4 (115, .iadd, 1, 69, 0, [], []) rfl rfl rfl ?_
    refine bEqI (bn_add (6 * (l3 / 256)) (bi σ 85 (l3 / 256))) ?_
    refine bGo hA 4 5 (116, .if_icmp .ge (33), 3, 70, 86, [], []) rfl rfl rfl ?_
    refine bB_lt (x := l4) (y := ((6 * (l3 / 256)) + (bi σ 85 (l3 / 256)))) h_l4 (h.2.2 c1).2.2.2.1 (fun c2 => ?_) (fun c2 => ?_)
    · refine bGo hA 4 6 (119, .aload_n 0, 1, 71, 0, [0], []) rfl rfl rfl ?_
      refine bGo hA 4 7 (120, .getfield 101, 3, 72, 0, [12, 34, 3, 86, 1, 0], []) rfl rfl rfl ?_
      refine ⟨rfl, ?_⟩
      refine bGo hA 4 8 (123, .iload 4, 2, 73, 0, [4], []) rfl rfl rfl ?_
      refine bGo hA 4 9 (125, .iaload, 1, 74, 0, [], []) rfl rfl rfl ?_
      refine ⟨rfl, (bIxP (x := l4) (n := 96) h_l4 ((h.2.2 c1).2.2.2.2.1 c2).1), ?_⟩
      refine bEqL (x := l4) h_l4 ?_
      refine bGo hA 4 10 (126, .iconst (2), 1, 75, 0, [], [(2, 0)]) rfl rfl rfl ?_
      refine bEqI bl_2 ?_
      refine bGo hA 4 11 (127, .if_icmp .ne (16), 3, 76, 84, [], []) rfl rfl rfl ?_
      refine bB_eq (x := (bi σ 86 l4)) (y := 2) (bi_rg _ _ _) (by decide : bRg 2) (fun c3 => ?_) (fun c3 => ?_)
      · refine bGo hA 4 12 (130, .aload_n 0, 1, 77, 0, [0], []) rfl rfl rfl ?_
        refine bGo hA 4 13 (131, .getfield 125, 3, 78, 0, [12, 42, 3, 94, 1, 0], []) rfl rfl rfl ?_
        refine ⟨rfl, ?_⟩
        refine bGo hA 4 14 (134, .aload_n 0, 1, 79, 0, [0], []) rfl rfl rfl ?_
        refine bGo hA 4 15 (135, .iload_n 3, 1, 80, 0, [3], []) rfl rfl rfl ?_
        refine bGo hA 5 0 (136, .iload 4, 2, 81, 0, [4], []) rfl rfl rfl ?_
        refine bGo hA 5 1 (138, .invokevirtual 398, 3, 82, 0, [0, 12, 240, 2], []) rfl rfl rfl ?_
        refine ⟨rfl, ?_⟩
        refine hC _ _ _ _ _ (bRn_e (fun r6 s4 q7 k5 => ?_)) (((h.2.2 c1).2.2.2.2.1 c2).2.1 c3)
        show A (82, [.ref 12, v1, v2, .int (bn l3), .int (bn l4)], [.int (bn r6), .ref 94], s4)
        refine bGo hA 5 2 (141, .iconst (1), 1, 83, 0, [], [(1, 0)]) rfl rfl rfl ?_
        refine bEqI bl_1 ?_
        refine bGo hA 5 3 (142, .bastore, 1, 84, 0, [], []) rfl rfl rfl ?_
        refine ⟨rfl, (bIxP (x := r6) (n := 4096) q7 k5.1), by decide, b01 (Or.inr rfl), ?_⟩
        refine bEqS (x := r6) q7 ?_
        refine bGo hA 5 4 (143, .iinc 4 (1), 3, 85, 0, [4], [(1, 0)]) rfl rfl rfl ?_
        refine bEqC (fun v => A (85, [.ref 12, v1, v2, .int (bn l3), .int v], [], (bw s4 94 r6 1))) ((congrArg (fun w => bn l4 + w) bl_1).trans (bn_add l4 1)) ?_
        refine bGo hA 5 5 (146, .goto (-60), 3, 86, 51, [], []) rfl rfl rfl ?_
        exact k5.2.2
      · refine bGo hA 5 4 (143, .iinc 4 (1), 3, 85, 0, [4], [(1, 0)]) rfl rfl rfl ?_
        refine bEqC (fun v => A (85, [.ref 12, v1, v2, .int (bn l3), .int v], [], σ)) ((congrArg (fun w => bn l4 + w) bl_1).trans (bn_add l4 1)) ?_
        refine bGo hA 5 5 (146, .goto (-60), 3, 86, 51, [], []) rfl rfl rfl ?_
        exact (((h.2.2 c1).2.2.2.2.1 c2).2.2 c3).2
    · refine bGo hA 5 6 (149, .iinc 3 (-1), 3, 87, 0, [3], [(-1, 0)]) rfl rfl rfl ?_
      refine bEqC (fun v => A (87, [.ref 12, v1, (bUnl v2), .int v, .int (bn l4)], [], σ)) ((congrArg (fun w => bn l3 + w) bl_m1).trans (bn_add l3 (-1))) ?_
      refine bGo hA 5 7 (152, .goto (-80), 3, 88, 43, [], []) rfl rfl rfl ?_
      exact ((h.2.2 c1).2.2.2.2.2 c2).2

theorem sq242_0 {lvl : Nat} {C : bCall} {Q : bPost} {A : bPt → Prop} (hC : bMono C) (hA : bClosed lvl bm242 C Q A) {x1 : Int} {σ : bSt}  (h_x1 : bRg x1)
  (h : (0 ≤ x1 ∧ ((0 ≤ (x1 / 256) ∧ (x1 / 256) < 16) ∧ ((0 ≤ (bi σ 75 (x1 / 256)) ∧ (bi σ 75 (x1 / 256)) < 6) ∧ (((bi σ 57 (bi σ 75 (x1 / 256))) = 0 → Q (.inl (some (.int (bn 1)))) σ) ∧ (¬ (bi σ 57 (bi σ 75 (x1 / 256))) = 0 → (bRg ((bi σ 83 (x1 / 256)) - 1) ∧ A (27, [.ref 12, .int (bn x1), .int (bn (x1 / 256)), .int (bn (x1 % 256)), .int (bn (-9)), .int (bn ((bi σ 83 (x1 / 256)) - 1)), .float 0, .float 0], [], σ)))))))) : A (0, [.ref 12, .int (bn x1), .float 0, .float 0, .float 0, .float 0, .float 0, .float 0], [], σ) := by
  refine bGo hA 0 0 (0, .iload_n 1, 1, 1, 0, [1], []) rfl rfl rfl ?_
  refine bGo hA 0 1 (1, .sipush (256), 3, 2, 0, [], [(256, 0)]) rfl rfl rfl ?_
  refine bEqI bl_256 ?_
  refine bGo hA 0 2 (4, .idiv, 1, 3, 0, [], []) rfl rfl rfl ?_
  refine ⟨by decide, ?_⟩
  refine bEqI (bn_div h_x1 (by decide) h.1) ?_
  refine bGo hA 0 3 (5, .istore_n 2, 1, 4, 0, [2], []) rfl rfl rfl ?_
  refine bGo hA 0 4 (6, .iload_n 1, 1, 5, 0, [1], []) rfl rfl rfl ?_
  refine bGo hA 0 5 (7, .sipush (256), 3, 6, 0, [], [(256, 0)]) rfl rfl rfl ?_
  refine bEqI bl_256 ?_
  refine bGo hA 0 6 (10, .irem, 1, 7, 0, [], []) rfl rfl rfl ?_
  refine ⟨by decide, ?_⟩
  refine bEqI (bn_rem h_x1 (by decide) h.1) ?_
  refine bGo hA 0 7 (11, .istore_n 3, 1, 8, 0, [3], []) rfl rfl rfl ?_
  refine bGo hA 0 8 (12, .aload_n 0, 1, 9, 0, [0], []) rfl rfl rfl ?_
  refine bGo hA 0 9 (13, .getfield 13, 3, 10, 0, [12, 2, 3, 57, 1, 0], []) rfl rfl rfl ?_
  refine ⟨rfl, ?_⟩
  refine bGo hA 0 10 (16, .aload_n 0, 1, 11, 0, [0], []) rfl rfl rfl ?_
  refine bGo hA 0 11 (17, .getfield 68, 3, 12, 0, [12, 23, 3, 75, 1, 0], []) rfl rfl rfl ?_
  refine ⟨rfl, ?_⟩
  refine bGo hA 0 12 (20, .iload_n 2, 1, 13, 0, [2], []) rfl rfl rfl ?_
  refine bGo hA 0 13 (21, .iaload, 1, 14, 0, [], []) rfl rfl rfl ?_
  refine ⟨rfl, (bIxP (x := (x1 / 256)) (n := 16) (bRg_div h_x1 h.1) h.2.1), ?_⟩
  refine bEqL (x := (x1 / 256)) (bRg_div h_x1 h.1) ?_
  refine bGo hA 0 14 (22, .baload, 1, 15, 0, [], []) rfl rfl rfl ?_
  refine ⟨rfl, (bIxP (x := (bi σ 75 (x1 / 256))) (n := 6) (bi_rg _ _ _) h.2.2.1), ?_⟩
  refine bEqL (x := (bi σ 75 (x1 / 256))) (bi_rg _ _ _) ?_
  refine bGo hA 0 15 (23, .ifCond .ne (5), 3, 16, 18, [], []) rfl rfl rfl ?_
  refine bB_eq0 (x := (bi σ 57 (bi σ 75 (x1 / 256)))) (bi_rg _ _ _) (fun c1 => ?_) (fun c1 => ?_)
  · refine bGo hA 1 0 (26, .iconst (1), 1, 17, 0, [], [(1, 0)]) rfl rfl rfl ?_
    refine bEqI bl_1 ?_
    refine bGo hA 1 1 (27, .ireturn, 1, 18, 0, [1], []) rfl rfl rfl ?_
    exact (h.2.2.2.1 c1)
  · refine bGo hA 1 2 (28, .bipush (-9), 2, 19, 0, [], [(-9, 0)]) rfl rfl rfl ?_
    refine bEqI bl_m9 ?_
    refine bGo hA 1 3 (30, .istore 4, 2, 20, 0, [4], []) rfl rfl rfl ?_
    refine bGo hA 1 4 (32, .aload_n 0, 1, 21, 0, [0], []) rfl rfl rfl ?_
    refine bGo hA 1 5 (33, .getfield 92, 3, 22, 0, [12, 31, 3, 83, 1, 0], []) rfl rfl rfl ?_
    refine ⟨rfl, ?_⟩
    refine bGo hA 1 6 (36, .iload_n 2, 1, 23, 0, [2], []) rfl rfl rfl ?_
    refine bGo hA 1 7 (37, .iaload, 1, 24, 0, [], []) rfl rfl rfl ?_
    refine ⟨rfl, (bIxP (x := (x1 / 256)) (n := 16) (bRg_div h_x1 h.1) h.2.1), ?_⟩
    refine bEqL (x := (x1 / 256)) (bRg_div h_x1 h.1) ?_
    refine bGo hA 1 8 (38, .iconst (1), 1, 25, 0, [], [(1, 0)]) rfl rfl rfl ?_
    refine bEqI bl_1 ?_
    refine bGo hA 1 9 (39, .isub, 1, 26, 0, [], []) rfl rfl rfl ?_
    refine bEqI (bn_sub (bi σ 83 (x1 / 256)) 1) ?_
    refine bGo hA 1 10 (40, .istore 5, 2, 27, 0, [5], []) rfl rfl rfl ?_
    exact (h.2.2.2.2 c1).2

theorem sq242_27 {lvl : Nat} {C : bCall} {Q : bPost} {A : bPt → Prop} (hC : bMono C) (hA : bClosed lvl bm242 C Q A) {l1 : Int} {l2 : Int} {l3 : Int} {l4 : Int} {l5 : Int} {v6 : Value} {v7 : Value} {σ : bSt}  (h_l1 : bRg l1) (h_l2 : bRg l2) (h_l3 : bRg l3) (h_l4 : bRg l4) (h_l5 : bRg l5)
  (h : ((l5 < 0 → ((l4 = (-9) → ((0 ≤ l2 ∧ l2 < 16) ∧ (((bi σ 78 l2) = (-1) → A (110, [.ref 12, .int (bn l1), .int (bn l2), .int (bn l3), .int (bn l4), .int (bn l5), v6, v7], [], σ)) ∧ (¬ (bi σ 78 l2) = (-1) → (C 214 [.ref 12, .int (bn (bi σ 78 l2))] σ (bRv (fun s4 => (bRg (8 * (bi s4 78 l2)) ∧ (bRg ((8 * (bi s4 78 l2)) + (bi s4 79 l2)) ∧ ((0 ≤ (bi s4 78 l2) ∧ (bi s4 78 l2) < 6) ∧ (((bi s4 65 (bi s4 78 l2)) = 2 → ((0 ≤ ((8 * (bi s4 78 l2)) + (bi s4 79 l2)) ∧ ((8 * (bi s4 78 l2)) + (bi s4 79 l2)) < 48) ∧ (((bi s4 60 ((8 * (bi s4 78 l2)) + (bi s4 79 l2))) = 1 → A (110, [.ref 12, .int (bn l1), .int (bn l2), .int (bn l3), .int (bn (bi s4 61 ((8 * (bi s4 78 l2)) + (bi s4 79 l2)))), .int (bn ((8 * (bi s4 78 l2)) + (bi s4 79 l2))), v6, v7], [], s4)) ∧ (¬ (bi s4 60 ((8 * (bi s4 78 l2)) + (bi s4 79 l2))) = 1 → Q (.inl (some (.int (bn 2)))) s4)))) ∧ (¬ (bi s4 65 (bi s4 78 l2)) = 2 → Q (.inl (some (.int (bn 2)))) s4)))))))))))) ∧ (¬ l4 = (-9) → A (110, [.ref 12, .int (bn l1), .int (bn l2), .int (bn l3), .int (bn l4), .int (bn l5), v6, v7], [], σ)))) ∧ (¬ l5 < 0 → (bRg (4 * l2) ∧ (bRg ((4 * l2) + l5) ∧ (bRg (3 * ((4 * l2) + l5)) ∧ ((0 ≤ (3 * ((4 * l2) + l5)) ∧ (3 * ((4 * l2) + l5)) < 192) ∧ (C 239 [.int (bn l3), .int (bn (bi σ 84 (3 * ((4 * l2) + l5))))] σ (bRn (fun r10 s8 => (bRg ((3 * ((4 * l2) + l5)) + 1) ∧ ((0 ≤ ((3 * ((4 * l2) + l5)) + 1) ∧ ((3 * ((4 * l2) + l5)) + 1) < 192) ∧ ((r10 = (bi s8 84 ((3 * ((4 * l2) + l5)) + 1)) → (bRg ((3 * ((4 * l2) + l5)) + 2) ∧ ((0 ≤ ((3 * ((4 * l2) + l5)) + 2) ∧ ((3 * ((4 * l2) + l5)) + 2) < 192) ∧ (bRg (l5 + (-1)) ∧ A (27, [.ref 12, .int (bn l1), .int (bn l2), .int (bn l3), .int (bn (bi s8 84 ((3 * ((4 * l2) + l5)) + 2))), .int (bn (l5 + (-1))), .int (bn (3 * ((4 * l2) + l5))), v7], [], s8))))) ∧ (¬ r10 = (bi s8 84 ((3 * ((4 * l2) + l5)) + 1)) → (bRg (l5 + (-1)) ∧ A (27, [.ref 12, .int (bn l1), .int (bn l2), .int (bn l3), .int (bn l4), .int (bn (l5 + (-1))), .int (bn (3 * ((4 * l2) + l5))), v7], [], s8)))))))))))))))) : A (27, [.ref 12, .int (bn l1), .int (bn l2), .int (bn l3), .int (bn l4), .int (bn l5), v6, v7], [], σ) := by
  refine bGo hA 1 11 (42, .iload 5, 2, 28, 0, [5], []) rfl rfl rfl ?_
  refine bGo hA 1 12 (44, .ifCond .lt (58), 3, 29, 61, [], []) rfl rfl rfl ?_
  refine bB_lt0 (x := l5) h_l5 (fun c1 => ?_) (fun c1 => ?_)
  · refine bGo hA 3 13 (102, .iload 4, 2, 62, 0, [4], []) rfl rfl rfl ?_
    refine bGo hA 3 14 (104, .bipush (-9), 2, 63, 0, [], [(-9, 0)]) rfl rfl rfl ?_
    refine bEqI bl_m9 ?_
    refine bGo hA 3 15 (106, .if_icmp .ne (78), 3, 64, 110, [], []) rfl rfl rfl ?_
    refine bB_eq (x := l4) (y := (-9)) h_l4 (by decide : bRg (-9)) (fun c2 => ?_) (fun c2 => ?_)
    · refine bGo hA 4 0 (109, .aload_n 0, 1, 65, 0, [0], []) rfl rfl rfl ?_
      refine bGo hA 4 1 (110, .getfield 77, 3, 66, 0, [12, 26, 3, 78, 1, 0], []) rfl rfl rfl ?_
      refine ⟨rfl, ?_⟩
      refine bGo hA 4 2 (113, .iload_n 2, 1, 67, 0, [2], []) rfl rfl rfl ?_
      refine bGo hA 4 3 (114, .iaload, 1, 68, 0, [], []) rfl rfl rfl ?_
      refine ⟨rfl, (bIxP (x := l2) (n := 16) h_l2 ((h.1 c1).1 c2).1), ?_⟩
      refine bEqL (x := l2) h_l2 ?_
      refine bGo hA 4 4 (115, .iconst (-1), 1, 69, 0, [], [(-1, 0)]) rfl rfl rfl ?_
      refine bEqI bl_m1 ?_
      refine bGo hA 4 5 (116, .if_icmp .eq (68), 3, 70, 110, [], []) rfl rfl rfl ?_
      refine bB_eq (x := (bi σ 78 l2)) (y := (-1)) (bi_rg _ _ _) (by decide : bRg (-1)) (fun c3 => ?_) (fun c3 => ?_)
      · exact (((h.1 c1).1 c2).2.1 c3)
      · refine bGo hA 4 6 (119, .aload_n 0, 1, 71, 0, [0], []) rfl rfl rfl ?_
        refine bGo hA 4 7 (120, .aload_n 0, 1, 72, 0, [0], []) rfl rfl rfl ?_
        refine bGo hA 4 8 (121, .getfield 77, 3, 73, 0, [12, 26, 3, 78, 1, 0], []) rfl rfl rfl ?_
        refine ⟨rfl, ?_⟩
        refine bGo hA 4 9 (124, .iload_n 2, 1, 74, 0, [2], []) rfl rfl rfl ?_
        refine bGo hA 4 10 (125, .iaload, 1, 75, 0, [], []) rfl rfl rfl ?_
        refine ⟨rfl, (bIxP (x := l2) (n := 16) h_l2 ((h.1 c1).1 c2).1), ?_⟩
        refine bEqL (x := l2) h_l2 ?_
        refine bGo hA 4 11 (126, .invokevirtual 374, 3, 76, 0, [0, 12, 214, 1], []) rfl rfl rfl ?_
        refine ⟨rfl, ?_⟩
        refine hC _ _ _ _ _ (bRv_e (fun s4 k5 => ?_)) (((h.1 c1).1 c2).2.2 c3)
        show A (76, [.ref 12, .int (bn l1), .int (bn l2), .int (bn l3), .int (bn l4), .int (bn l5), v6, v7], [], s4)
        refine bGo hA 4 12 (129, .bipush (8), 2, 77, 0, [], [(8, 0)]) rfl rfl rfl ?_
        refine bEqI bl_8 ?_
        refine bGo hA 4 13 (131, .aload_n 0, 1, 78, 0, [0], []) rfl rfl rfl ?_
        refine bGo hA 4 14 (132, .getfield 77, 3, 79, 0, [12, 26, 3, 78, 1, 0], []) rfl rfl rfl ?_
        refine ⟨rfl, ?_⟩
        refine bGo hA 4 15 (135, .iload_n 2, 1, 80, 0, [2], []) rfl rfl rfl ?_
        refine bGo hA 5 0 (136, .iaload, 1, 81, 0, [], []) rfl rfl rfl ?_
        refine ⟨rfl, (bIxP (x := l2) (n := 16) h_l2 ((h.1 c1).1 c2).1), ?_⟩
        refine bEqL (x := l2) h_l2 ?_
        refine bGo hA 5 1 (137, .imul, 1, 82, 0, [], []) rfl rfl rfl ?_
        refine bEqI (bn_mul 8 (bi s4 78 l2)) ?_
        refine bGo hA 5 2 (138, .aload_n 0, 1, 83, 0, [0], []) rfl rfl rfl ?_
        refine bGo hA 5 3 (139, .getfield 80, 3, 84, 0, [12, 27, 3, 79, 1, 0], []) rfl rfl rfl ?_
        refine ⟨rfl, ?_⟩
        refine bGo hA 5 4 (142, .iload_n 2, 1, 85, 0, [2], []) rfl rfl rfl ?_
        refine bGo hA 5 5 (143, .iaload, 1, 86, 0, [], []) rfl rfl rfl ?_
        refine ⟨rfl, (bIxP (x := l2) (n := 16) h_l2 ((h.1 c1).1 c2).1), ?_⟩
        refine bEqL (x := l2) h_l2 ?_
        refine bGo hA 5 6 (144, .iadd, 1, 87, 0, [], []) rfl rfl rfl ?_
        refine bEqI (bn_add (8 * (bi s4 78 l2)) (bi s4 79 l2)) ?_
        refine bGo hA 5 7 (145, .istore 5, 2, 88, 0, [5], []) rfl rfl rfl ?_
        refine bGo hA 5 8 (147, .aload_n 0, 1, 89, 0, [0], []) rfl rfl rfl ?_
        refine bGo hA 5 9 (148, .getfield 38, 3, 90, 0, [12, 11, 3, 65, 1, 0], []) rfl rfl rfl ?_
        refine ⟨rfl, ?_⟩
        refine bGo hA 5 10 (151, .aload_n 0, 1, 91, 0, [0], []) rfl rfl rfl ?_
        refine bGo hA 5 11 (152, .getfield 77, 3, 92, 0, [12, 26, 3, 78, 1, 0], []) rfl rfl rfl ?_
        refine ⟨rfl, ?_⟩
        refine bGo hA 5 12 (155, .iload_n 2, 1, 93, 0, [2], []) rfl rfl rfl ?_
        refine bGo hA 5 13 (156, .iaload, 1, 94, 0, [], []) rfl rfl rfl ?_
        refine ⟨rfl, (bIxP (x := l2) (n := 16) h_l2 ((h.1 c1).1 c2).1), ?_⟩
        refine bEqL (x := l2) h_l2 ?_
        refine bGo hA 5 14 (157, .iaload, 1, 95, 0, [], []) rfl rfl rfl ?_
        refine ⟨rfl, (bIxP (x := (bi s4 78 l2)) (n := 6) (bi_rg _ _ _) k5.2.2.1), ?_⟩
        refine bEqL (x := (bi s4 78 l2)) (bi_rg _ _ _) ?_
        refine bGo hA 5 15 (158, .iconst (2), 1, 96, 0, [], [(2, 0)]) rfl rfl rfl ?_
        refine bEqI bl_2 ?_
        refine bGo hA 6 0 (159, .if_icmp .ne (14), 3, 97, 103, [], []) rfl rfl rfl ?_
        refine bB_eq (x := (bi s4 65 (bi s4 78 l2))) (y := 2) (bi_rg _ _ _) (by decide : bRg 2) (fun c6 => ?_) (fun c6 => ?_)
        · refine bGo hA 6 1 (162, .aload_n 0, 1, 98, 0, [0], []) rfl rfl rfl ?_
          refine bGo hA 6 2 (163, .getfield 23, 3, 99, 0, [12, 5, 3, 60, 1, 0], []) rfl rfl rfl ?_
          refine ⟨rfl, ?_⟩
          refine bGo hA 6 3 (166, .iload 5, 2, 100, 0, [5], []) rfl rfl rfl ?_
          refine bGo hA 6 4 (168, .iaload, 1, 101, 0, [], []) rfl rfl rfl ?_
          refine ⟨rfl, (bIxP (x := ((8 * (bi s4 78 l2)) + (bi s4 79 l2))) (n := 48) k5.2.1 (k5.2.2.2.1 c6).1), ?_⟩
          refine bEqL (x := ((8 * (bi s4 78 l2)) + (bi s4 79 l2))) k5.2.1 ?_
          refine bGo hA 6 5 (169, .iconst (1), 1, 102, 0, [], [(1, 0)]) rfl rfl rfl ?_
          refine bEqI bl_1 ?_
          refine bGo hA 6 6 (170, .if_icmp .eq (5), 3, 103, 105, [], []) rfl rfl rfl ?_
          refine bB_eq (x := (bi s4 60 ((8 * (bi s4 78 l2)) + (bi s4 79 l2)))) (y := 1) (bi_rg _ _ _) (by decide : bRg 1) (fun c7 => ?_) (fun c7 => ?_)
          · refine bGo hA 6 9 (175, .aload_n 0, 1, 106, 0, [0], []) rfl rfl rfl ?_
            refine bGo hA 6 10 (176, .getfield 26, 3, 107, 0, [12, 6, 3, 61, 1, 0], []) rfl rfl rfl ?_
            refine ⟨rfl, ?_⟩
            refine bGo hA 6 11 (179, .iload 5, 2, 108, 0, [5], []) rfl rfl rfl ?_
            refine bGo hA 6 12 (181, .iaload, 1, 109, 0, [], []) rfl rfl rfl ?_
            refine ⟨rfl, (bIxP (x := ((8 * (bi s4 78 l2)) + (bi s4 79 l2))) (n := 48) k5.2.1 (k5.2.2.2.1 c6).1), ?_⟩
            refine bEqL (x := ((8 * (bi s4 78 l2)) + (bi s4 79 l2))) k5.2.1 ?_
            refine bGo hA 6 13 (182, .istore 4, 2, 110, 0, [4], []) rfl rfl rfl ?_
            exact ((k5.2.2.2.1 c6).2.1 c7)
          · refine bGo hA 6 7 (173, .iconst (2), 1, 104, 0, [], [(2, 0)]) rfl rfl rfl ?_
            refine bEqI bl_2 ?_
            refine bGo hA 6 8 (174, .ireturn, 1, 105, 0, [1], []) rfl rfl rfl ?_
            exact ((k5.2.2.2.1 c6).2.2 c7)
        · refine bGo hA 6 7 (173, .iconst (2), 1, 104, 0, [], [(2, 0)]) rfl rfl rfl ?_
          refine bEqI bl_2 ?_
          refine bGo hA 6 8 (174, .ireturn, 1, 105, 0, [1], []) rfl rfl rfl ?_
          exact (k5.2.2.2.2 c6)
    · exact ((h.1 c1).2 c2)
  · refine bGo hA 1 13 (47, .iconst (3), 1, 30, 0, [], [(3, 0)]) rfl rfl rfl ?_
    refine bEqI bl_3 ?_
    refine bGo hA 1 14 (48, .iconst (4), 1, 31, 0, [], [(4, 0)]) rfl rfl rfl ?_
    refine bEqI bl_4 ?_
    refine bGo hA 1 15 (49, .iload_n 2, 1, 32, 0, [2], []) rfl rfl rfl ?_
    refine bGo hA 2 0 (50, .imul, 1, 33, 0, [], []) rfl rfl rfl ?_
    refine bEqI (bn_mul 4 l2) ?_
    refine bGo hA 2 1 (51, .iload 5, 2, 34, 0, [5], []) rfl rfl rfl ?_
    refine bGo hA 2 2 (53, .iadd, 1, 35, 0, [], []) rfl rfl rfl ?_
    refine bEqI (bn_add (4 * l2) l5) ?_
    refine bGo hA 2 3 (54, .imul, 1, 36, 0, [], []) rfl rfl rfl ?_
    refine bEqI (bn_mul 3 ((4 * l2) + l5)) ?_
    refine bGo hA 2 4 (55, .istore 6, 2, 37, 0, [6], []) rfl rfl rfl ?_
    refine bGo hA 2 5 (57, .iload_n 3, 1, 38, 0, [3], []) rfl rfl rfl ?_
    refine bGo hA 2 6 (58, .aload_n 0, 1, 39, 0, [0], []) rfl rfl rfl ?_
    refine bGo hA 2 7 (59, .getfield 95, 3, 40, 0, [12, 32, 3, 84, 1, 0], []) rfl rfl rfl ?_
    refine ⟨rfl, ?_⟩
    refine bGo hA 2 8 (62, .iload 6, 2, 41, 0, [6], []) rfl rfl rfl ?_
    refine bGo hA 2 9 (64, .iaload, 1, 42, 0, [], []) rfl rfl rfl ?_
    refine ⟨rfl, (bIxP (x := (3 * ((4 * l2) + l5))) (n := 192) (h.2 c1).2.2.1 (h.2 c1).2.2.2.1), ?_⟩
    refine bEqL (x := (3 * ((4 * l2) + l5))) (h.2 c1).2.2.1 ?_
    refine bGo hA 2 10 (65, .invokestatic 390, 3, 43, 0, [2, 239, 2], []) rfl rfl rfl ?_
    refine hC _ _ _ _ _ (bRn_e (fun r10 s8 q11 k9 => ?_)) (h.2 c1).2.2.2.2
    show A (43, [.ref 12, .int (bn l1), .int (bn l2), .int (bn l3), .int (bn l4), .int (bn l5), .int (bn (3 * ((4 * l2) + l5))), v7], [.int (bn r10)], s8)
    refine bGo hA 2 11 (68, .aload_n 0, 1, 44, 0, [0], []) rfl rfl rfl ?_
    refine bGo hA 2 12 (69, .getfield 95, 3, 45, 0, [12, 32, 3, 84, 1, 0], []) rfl rfl rfl ?_
    refine ⟨rfl, ?_⟩
    refine bGo hA 2 13 (72, .iload 6, 2, 46, 0, [6], []) rfl rfl rfl ?_
    refine bGo hA 2 14 (74, .iconst (1), 1, 47, 0, [], [(1, 0)]) rfl rfl rfl ?_
    refine bEqI bl_1 ?_
    refine bGo hA 2 15 (75, .iadd, 1, 48, 0, [], []) rfl rfl rfl ?_
    refine bEqI (bn_add (3 * ((4 * l2) + l5)) 1) ?_
    refine bGo hA 3 0 (76, .iaload, 1, 49, 0, [], []) rfl rfl rfl ?_
    refine ⟨rfl, (bIxP (x := ((3 * ((4 * l2) + l5)) + 1)) (n := 192) k9.1 k9.2.1), ?_⟩
    refine bEqL (x := ((3 * ((4 * l2) + l5)) + 1)) k9.1 ?_
    refine bGo hA 3 1 (77, .if_icmp .ne (15), 3, 50, 57, [], []) rfl rfl rfl ?_
    refine bB_eq (x := r10) (y := (bi s8 84 ((3 * ((4 * l2) + l5)) + 1))) q11 (bi_rg _ _ _) (fun c12 => ?_) (fun c12 => ?_)
    · refine bGo hA 3 2 (80, .aload_n 0, 1, 51, 0, [0], []) rfl rfl rfl ?_
      refine bGo hA 3 3 (81, .getfield 95, 3, 52, 0, [12, 32, 3, 84, 1, 0], []) rfl rfl rfl ?_
      refine ⟨rfl, ?_⟩
      refine bGo hA 3 4 (84, .iload 6, 2, 53, 0, [6], []) rfl rfl rfl ?_
      refine bGo hA 3 5 (86, .iconst (2), 1, 54, 0, [], [(2, 0)]) rfl rfl rfl ?_
      refine bEqI bl_2 ?_
      refine bGo hA 3 6 (87, .iadd, 1, 55, 0, [], []) rfl rfl rfl ?_
      refine bEqI (bn_add (3 * ((4 * l2) + l5)) 2) ?_
      refine bGo hA 3 7 (88, .iaload, 1, 56, 0, [], []) rfl rfl rfl ?_
      refine ⟨rfl, (bIxP (x := ((3 * ((4 * l2) + l5)) + 2)) (n := 192) (k9.2.2.1 c12).1 (k9.2.2.1 c12).2.1), ?_⟩
      refine bEqL (x := ((3 * ((4 * l2) + l5)) + 2)) (k9.2.2.1 c12).1 ?_
      refine bGo hA 3 8 (89, .goto (5), 3, 57, 58, [], []) rfl rfl rfl ?_
      refine bGo hA 3 10 (94, .istore 4, 2, 59, 0, [4], []) rfl rfl rfl ?_
      refine bGo hA 3 11 (96, .iinc 5 (-1), 3, 60, 0, [5], [(-1, 0)]) rfl rfl rfl ?_
      refine bEqC (fun v => A (60, [.ref 12, .int (bn l1), .int (bn l2), .int (bn l3), .int (bn (bi s8 84 ((3 * ((4 * l2) + l5)) + 2))), .int v, .int (bn (3 * ((4 * l2) + l5))), v7], [], s8)) ((congrArg (fun w => bn l5 + w) bl_m1).trans (bn_add l5 (-1))) ?_
      refine bGo hA 3 12 (99, .goto (-57), 3, 61, 27, [], []) rfl rfl rfl ?_
      exact (k9.2.2.1 c12).2.2.2
    · refine bGo hA 3 9 (92, .iload 4, 2, 58, 0, [4], []) rfl rfl rfl ?_
      refine bGo hA 3 10 (94, .istore 4, 2, 59, 0, [4], []) rfl rfl rfl ?_
      refine bGo hA 3 11 (96, .iinc 5 (-1), 3, 60, 0, [5], [(-1, 0)]) rfl rfl rfl ?_
      refine bEqC (fun v => A (60, [.ref 12, .int (bn l1), .int (bn l2), .int (bn l3), .int (bn l4), .int v, .int (bn (3 * ((4 * l2) + l5))), v7], [], s8)) ((congrArg (fun w => bn l5 + w) bl_m1).trans (bn_add l5 (-1))) ?_
      refine bGo hA 3 12 (99, .goto (-57), 3, 61, 27, [], []) rfl rfl rfl ?_
      exact (k9.2.2.2 c12).2

theorem sq242_110 {lvl : Nat} {C : bCall} {Q : bPost} {A : bPt → Prop} (hC : bMono C) (hA : bClosed lvl bm242 C Q A) {l1 : Int} {l2 : Int} {l3 : Int} {l4 : Int} {v5 : Value} {v6 : Value} {v7 : Value} {σ : bSt}  (h_l1 : bRg l1) (h_l2 : bRg l2) (h_l3 : bRg l3) (h_l4 : bRg l4)
  (h : ((l4 = (-9) → ((0 ≤ l2 ∧ l2 < 16) ∧ ((0 ≤ l1 ∧ l1 < 4096) ∧ (((bi σ 80 l2) = (-1) → (C 243 [.ref 12, .int (bn l1)] (bw (bw σ 97 l1 (bi σ 77 l2)) 98 l1 0) (bRn (fun r5 s3 => Q (.inl (some (.int (bn r5)))) s3)))) ∧ (¬ (bi σ 80 l2) = (-1) → (bRg ((bi σ 12 17) - 1) ∧ A (141, [.ref 12, .int (bn l1), .int (bn l2), .int (bn l3), .int (bn l4), .int (bn (-1)), .int (bn ((bi σ 12 17) - 1)), v7], [], (bw (bw σ 97 l1 (bi σ 77 l2)) 98 l1 0)))))))) ∧ (¬ l4 = (-9) → ((0 ≤ l1 ∧ l1 < 4096) ∧ ((0 ≤ l2 ∧ l2 < 16) ∧ (((bi σ 80 l2) = (-1) → (C 243 [.ref 12, .int (bn l1)] (bw (bw σ 97 l1 l4) 98 l1 0) (bRn (fun r10 s8 => Q (.inl (some (.int (bn r10)))) s8)))) ∧ (¬ (bi σ 80 l2) = (-1) → (bRg ((bi σ 12 17) - 1) ∧ A (141, [.ref 12, .int (bn l1), .int (bn l2), .int (bn l3), .int (bn l4), .int (bn (-1)), .int (bn ((bi σ 12 17) - 1)), v7], [], (bw (bw σ 97 l1 l4) 98 l1 0)))))))))) : A (110, [.ref 12, .int (bn l1), .int (bn l2), .int (bn l3), .int (bn l4), v5, v6, v7], [], σ) := by
  refine bGo hA 6 14 (184, .aload_n 0, 1, 111, 0, [0], []) rfl rfl rfl ?_
  refine bGo hA 6 15 (185, .getfield 134, 3, 112, 0, [12, 45, 3, 97, 1, 0], []) rfl rfl rfl ?_
  refine ⟨rfl, ?_⟩
  refine bGo hA 7 0 (188, .iload_n 1, 1, 113, 0, [1], []) rfl rfl rfl ?_
  refine bGo hA 7 1 (189, .iload 4, 2, 114, 0, [4], []) rfl rfl rfl ?_
  refine bGo hA 7 2 (191, .bipush (-9), 2, 115, 0, [], [(-9, 0)]) rfl rfl rfl ?_
  refine bEqI bl_m9 ?_
  refine bGo hA 7 3 (193, .if_icmp .ne (12), 3, 116, 121, [], []) rfl rfl rfl ?_
  refine bB_eq (x := l4) (y := (-9)) h_l4 (by decide : bRg (-9)) (fun c1 => ?_) (fun c1 => ?_)
  · refine bGo hA 7 4 (196, .aload_n 0, 1, 117, 0, [0], []) rfl rfl rfl ?_
    refine bGo hA 7 5 (197, .getfield 74, 3, 118, 0, [12, 25, 3, 77, 1, 0], []) rfl rfl rfl ?_
    refine ⟨rfl, ?_⟩
    refine bGo hA 7 6 (200, .iload_n 2, 1, 119, 0, [2], []) rfl rfl rfl ?_
    refine bGo hA 7 7 (201, .iaload, 1, 120, 0, [], []) rfl rfl rfl ?_
    refine ⟨rfl, (bIxP (x := l2) (n := 16) h_l2 (h.1 c1).1), ?_⟩
    refine bEqL (x := l2) h_l2 ?_
    refine bGo hA 7 8 (202, .goto (5), 3, 121, 122, [], []) rfl rfl rfl ?_
    refine bGo hA 7 10 (207, .iastore, 1, 123, 0, [], []) rfl rfl rfl ?_
    refine ⟨rfl, (bIxP (x := l1) (n := 4096) h_l1 (h.1 c1).2.1), by decide, ?_⟩
    refine bEqS (x := l1) h_l1 ?_
    refine bGo hA 7 11 (208, .aload_n 0, 1, 124, 0, [0], []) rfl rfl rfl ?_
    refine bGo hA 7 12 (209, .getfield 137, 3, 125, 0, [12, 46, 3, 98, 1, 0], []) rfl rfl rfl ?_
    refine ⟨rfl, ?_⟩
    refine bGo hA 7 13 (212, .iload_n 1, 1, 126, 0, [1], []) rfl rfl rfl ?_
    refine bGo hA 7 14 (213, .iconst (0), 1, 127, 0, [], [(0, 0)]) rfl rfl rfl ?_
    refine bEqI bl_0 ?_
    refine bGo hA 7 15 (214, .iastore, 1, 128, 0, [], []) rfl rfl rfl ?_
    refine ⟨rfl, (bIxP (x := l1) (n := 4096) h_l1 (h.1 c1).2.1), by decide, ?_⟩
    refine bEqS (x := l1) h_l1 ?_
    refine bGo hA 8 0 (215, .aload_n 0, 1, 129, 0, [0], []) rfl rfl rfl ?_
    refine bGo hA 8 1 (216, .getfield 83, 3, 130, 0, [12, 28, 3, 80, 1, 0], []) rfl rfl rfl ?_
    refine ⟨rfl, ?_⟩
    refine bGo hA 8 2 (219, .iload_n 2, 1, 131, 0, [2], []) rfl rfl rfl ?_
    refine bGo hA 8 3 (220, .iaload, 1, 132, 0, [], []) rfl rfl rfl ?_
    refine ⟨rfl, (bIxP (x := l2) (n := 16) h_l2 (h.1 c1).1), ?_⟩
    refine bEqL (x := l2) h_l2 ?_
    refine bEqI (congrArg bn ((bi_ne (by decide)).trans (bi_ne (by decide)))) ?_
    refine bGo hA 8 4 (221, .iconst (-1), 1, 133, 0, [], [(-1, 0)]) rfl rfl rfl ?_
    refine bEqI bl_m1 ?_
    refine bGo hA 8 5 (222, .if_icmp .eq (115), 3, 134, 194, [], []) rfl rfl rfl ?_
    refine bB_eq (x := (bi σ 80 l2)) (y := (-1)) (bi_rg _ _ _) (by decide : bRg (-1)) (fun c2 => ?_) (fun c2 => ?_)
    · refine bGo hA 12 2 (337, .aload_n 0, 1, 195, 0, [0], []) rfl rfl rfl ?_
      refine bGo hA 12 3 (338, .iload_n 1, 1, 196, 0, [1], []) rfl rfl rfl ?_
      refine bGo hA 12 4 (339, .invokevirtual 404, 3, 197, 0, [0, 12, 243, 1], []) rfl rfl rfl ?_
      refine ⟨rfl, ?_⟩
      refine hC _ _ _ _ _ (bRn_e (fun r5 s3 q6 k4 => ?_)) ((h.1 c1).2.2.1 c2)
      show A (197, [.ref 12, .int (bn l1), .int (bn l2), .int (bn l3), .int (bn l4), v5, v6, v7], [.int (bn r5)], s3)
      refine bGo hA 12 5 (342, .ireturn, 1, 0, 0, [1], []) rfl rfl rfl ?_
      exact k4
    · refine bGo hA 8 6 (225, .iconst (-1), 1, 135, 0, [], [(-1, 0)]) rfl rfl rfl ?_
      refine bEqI bl_m1 ?_
      refine bGo hA 8 7 (226, .istore 5, 2, 136, 0, [5], []) rfl rfl rfl ?_
      refine bGo hA 8 8 (228, .aload_n 0, 1, 137, 0, [0], []) rfl rfl rfl ?_
      refine bGo hA 8 9 (229, .getfield 377, 3, 138, 0, [12, 17, 0, 0, 0, 0], []) rfl rfl rfl ?_
      refine ⟨rfl, ?_⟩
      refine bEqI ((bn_bi (bw (bw σ 97 l1 (bi σ 77 l2)) 98 l1 0) 12 17).trans (congrArg bn ((bi_ne (by decide)).trans (bi_ne (by decide))))) ?_
      refine bGo hA 8 10 (232, .iconst (1), 1, 139, 0, [], [(1, 0)]) rfl rfl rfl ?_
      refine bEqI bl_1 ?_
      refine bGo hA 8 11 (233, .isub, 1, 140, 0, [], []) rfl rfl rfl ?_
      refine bEqI (bn_sub (bi σ 12 17) 1) ?_
      refine bGo hA 8 12 (234, .istore 6, 2, 141, 0, [6], []) rfl rfl rfl ?_
      exact ((h.1 c1).2.2.2 c2).2
  · refine bGo hA 7 9 (205, .iload 4, 2, 122, 0, [4], []) rfl rfl rfl ?_
    refine bGo hA 7 10 (207, .iastore, 1, 123, 0, [], []) rfl rfl rfl ?_
    refine ⟨rfl, (bIxP (x := l1) (n := 4096) h_l1 (h.2 c1).1), by decide, ?_⟩
    refine bEqS (x := l1) h_l1 ?_
    refine bGo hA 7 11 (208, .aload_n 0, 1, 124, 0, [0], []) rfl rfl rfl ?_
    refine bGo hA 7 12 (209, .getfield 137, 3, 125, 0, [12, 46, 3, 98, 1, 0], []) rfl rfl rfl ?_
    refine ⟨rfl, ?_⟩
    refine bGo hA 7 13 (212, .iload_n 1, 1, 126, 0, [1], []) rfl rfl rfl ?_
    refine bGo hA 7 14 (213, .iconst (0), 1, 127, 0, [], [(0, 0)]) rfl rfl rfl ?_
    refine bEqI bl_0 ?_
    refine bGo hA 7 15 (214, .iastore, 1, 128, 0, [], []) rfl rfl rfl ?_
    refine ⟨rfl, (bIxP (x := l1) (n := 4096) h_l1 (h.2 c1).1), by decide, ?_⟩
    refine bEqS (x := l1) h_l1 ?_
    refine bGo hA 8 0 (215, .aload_n 0, 1, 129, 0, [0], []) rfl rfl rfl ?_
    refine bGo hA 8 1 (216, .getfield 83, 3, 130, 0, [12, 28, 3, 80, 1, 0], []) rfl rfl rfl ?_
    refine ⟨rfl, ?_⟩
    refine bGo hA 8 2 (219, .iload_n 2, 1, 131, 0, [2], []) rfl rfl rfl ?_
    refine bGo hA 8 3 (220, .iaload, 1, 132, 0, [], []) rfl rfl rfl ?_
    refine ⟨rfl, (bIxP (x := l2) (n := 16) h_l2 (h.2 c1).2.1), ?_⟩
    refine bEqL (x := l2) h_l2 ?_
    refine bEqI (congrArg bn ((bi_ne (by decide)).trans (bi_ne (by decide)))) ?_
    refine bGo hA 8 4 (221, .iconst (-1), 1, 133, 0, [], [(-1, 0)]) rfl rfl rfl ?_
    refine bEqI bl_m1 ?_
    refine bGo hA 8 5 (222, .if_icmp .eq (115), 3, 134, 194, [], []) rfl rfl rfl ?_
    refine bB_eq (x := (bi σ 80 l2)) (y := (-1)) (bi_rg _ _ _) (by decide : bRg (-1)) (fun c7 => ?_) (fun c7 => ?_)
    · refine bGo hA 12 2 (337, .aload_n 0, 1, 195, 0, [0], []) rfl rfl rfl ?_
      refine bGo hA 12 3 (338, .iload_n 1, 1, 196, 0, [1], []) rfl rfl rfl ?_
      refine bGo hA 12 4 (339, .invokevirtual 404, 3, 197, 0, [0, 12, 243, 1], []) rfl rfl rfl ?_
      refine ⟨rfl, ?_⟩
      refine hC _ _ _ _ _ (bRn_e (fun r10 s8 q11 k9 => ?_)) ((h.2 c1).2.2.1 c7)
      show A (197, [.ref 12, .int (bn l1), .int (bn l2), .int (bn l3), .int (bn l4), v5, v6, v7], [.int (bn r10)], s8)
      refine bGo hA 12 5 (342, .ireturn, 1, 0, 0, [1], []) rfl rfl rfl ?_
      exact k9
    · refine bGo hA 8 6 (225, .iconst (-1), 1, 135, 0, [], [(-1, 0)]) rfl rfl rfl ?_
      refine bEqI bl_m1 ?_
      refine bGo hA 8 7 (226, .istore 5, 2, 136, 0, [5], []) rfl rfl rfl ?_
      refine bGo hA 8 8 (228, .aload_n 0, 1, 137, 0, [0], []) rfl rfl rfl ?_
      refine bGo hA 8 9 (229, .getfield 377, 3, 138, 0, [12, 17, 0, 0, 0, 0], []) rfl rfl rfl ?_
      refine ⟨rfl, ?_⟩
      refine bEqI ((bn_bi (bw (bw σ 97 l1 l4) 98 l1 0) 12 17).trans (congrArg bn ((bi_ne (by decide)).trans (bi_ne (by decide))))) ?_
      refine bGo hA 8 10 (232, .iconst (1), 1, 139, 0, [], [(1, 0)]) rfl rfl rfl ?_
      refine bEqI bl_1 ?_
      refine bGo hA 8 11 (233, .isub, 1, 140, 0, [], []) rfl rfl rfl ?_
      refine bEqI (bn_sub (bi σ 12 17) 1) ?_
      refine bGo hA 8 12 (234, .istore 6, 2, 141, 0, [6], []) rfl rfl rfl ?_
      exact ((h.2 c1).2.2.2 c7).2

theorem sq242_141 {lvl : Nat} {C : bCall} {Q : bPost} {A : bPt → Prop} (hC : bMono C) (hA : bClosed lvl bm242 C Q A) {l1 : Int} {l2 : Int} {l3 : Int} {v4 : Value} {l5 : Int} {l6 : Int} {v7 : Value} {σ : bSt}  (h_l1 : bRg l1) (h_l2 : bRg l2) (h_l3 : bRg l3) (h_l5 : bRg l5) (h_l6 : bRg l6)
  (h : ((l6 < 0 → ((l5 = (-1) → Q (.inl (some (.int (bn 3)))) σ) ∧ (¬ l5 = (-1) → ((0 ≤ l5 ∧ l5 < 8) ∧ ((0 ≤ l1 ∧ l1 < 4096) ∧ (C 243 [.ref 12, .int (bn l1)] (bw σ 98 l1 (bi σ 74 l5)) (bRn (fun r5 s3 => Q (.inl (some (.int (bn r5)))) s3)))))))) ∧ (¬ l6 < 0 → ((0 ≤ l6 ∧ l6 < 8) ∧ ((0 ≤ l2 ∧ l2 < 16) ∧ (((bi σ 71 l6) = (bi σ 80 l2) → (((bi σ 72 l6) = (-1) → (bRg (l6 + (-1)) ∧ A (141, [.ref 12, .int (bn l1), .int (bn l2), .int (bn l3), (bUnl v4), .int (bn l6), .int (bn (l6 + (-1))), .int (bn 1)], [], σ))) ∧ (¬ (bi σ 72 l6) = (-1) → (C 239 [.int (bn l3), .int (bn (bi σ 72 l6))] σ (bRn (fun r12 s10 => ((r12 = (bi s10 73 l6) → (bRg (l6 + (-1)) ∧ A (141, [.ref 12, .int (bn l1), .int (bn l2), .int (bn l3), (bUnl v4), .int (bn l6), .int (bn (l6 + (-1))), .int (bn 1)], [], s10))) ∧ (¬ r12 = (bi s10 73 l6) → (bRg (l6 + (-1)) ∧ A (141, [.ref 12, .int (bn l1), .int (bn l2), .int (bn l3), (bUnl v4), .int (bn l5), .int (bn (l6 + (-1))), .int (bn 0)], [], s10)))))))))) ∧ (¬ (bi σ 71 l6) = (bi σ 80 l2) → (bRg (l6 + (-1)) ∧ A (141, [.ref 12, .int (bn l1), .int (bn l2), .int (bn l3), (bUnl v4), .int (bn l5), .int (bn (l6 + (-1))), .int (bn 0)], [], σ))))))))) : A (141, [.ref 12, .int (bn l1), .int (bn l2), .int (bn l3), v4, .int (bn l5), .int (bn l6), v7], [], σ) := by
  refine bGo hA 8 13 (236, .iload 6, 2, 142, 0, [6], []) rfl rfl rfl ?_
  refine bGo hA 8 14 (238, .ifCond .lt (78), 3, 143, 181, [], []) rfl rfl rfl ?_
  refine bB_lt0 (x := l6) h_l6 (fun c1 => ?_) (fun c1 => ?_)
  · refine bGo hA 11 5 (316, .iload 5, 2, 182, 0, [5], []) rfl rfl rfl ?_
    refine bGo hA 11 6 (318, .iconst (-1), 1, 183, 0, [], [(-1, 0)]) rfl rfl rfl ?_
    refine bEqI bl_m1 ?_
    refine bGo hA 11 7 (319, .if_icmp .ne (5), 3, 184, 186, [], []) rfl rfl rfl ?_
    refine bB_eq (x := l5) (y := (-1)) h_l5 (by decide : bRg (-1)) (fun c2 => ?_) (fun c2 => ?_)
    · refine bGo hA 11 8 (322, .iconst (3), 1, 185, 0, [], [(3, 0)]) rfl rfl rfl ?_
      refine bEqI bl_3 ?_
      refine bGo hA 11 9 (323, .ireturn, 1, 186, 0, [1], []) rfl rfl rfl ?_
      exact ((h.1 c1).1 c2)
    · refine bGo hA 11 10 (324, .aload_n 0, 1, 187, 0, [0], []) rfl rfl rfl ?_
      refine bGo hA 11 11 (325, .getfield 137, 3, 188, 0, [12, 46, 3, 98, 1, 0], []) rfl rfl rfl ?_
      refine ⟨rfl, ?_⟩
      refine bGo hA 11 12 (328, .iload_n 1, 1, 189, 0, [1], []) rfl rfl rfl ?_
      refine bGo hA 11 13 (329, .aload_n 0, 1, 190, 0, [0], []) rfl rfl rfl ?_
      refine bGo hA 11 14 (330, .getfield 65, 3, 191, 0, [12, 21, 3, 74, 1, 0], []) rfl rfl rfl ?_
      refine ⟨rfl, ?_⟩
      refine bGo hA 11 15 (333, .iload 5, 2, 192, 0, [5], []) rfl rfl rfl ?_
      refine bGo hA 12 0 (335, .iaload, 1, 193, 0, [], []) rfl rfl rfl ?_
      refine ⟨rfl, (bIxP (x := l5) (n := 8) h_l5 ((h.1 c1).2 c2).1), ?_⟩
      refine bEqL (x := l5) h_l5 ?_
      refine bGo hA 12 1 (336, .iastore, 1, 194, 0, [], []) rfl rfl rfl ?_
      refine ⟨rfl, (bIxP (x := l1) (n := 4096) h_l1 ((h.1 c1).2 c2).2.1), by decide, ?_⟩
      refine bEqS (x := l1) h_l1 ?_
      refine bGo hA 12 2 (337, .aload_n 0, 1, 195, 0, [0], []) rfl rfl rfl ?_
      refine bGo hA 12 3 (338, .iload_n 1, 1, 196, 0, [1], []) rfl rfl rfl ?_
      refine bGo hA 12 4 (339, .invokevirtual 404, 3, 197, 0, [0, 12, 243, 1], []) rfl rfl rfl ?_
      refine ⟨rfl, ?_⟩
      refine hC _ _ _ _ _ (bRn_e (fun r5 s3 q6 k4 => ?_)) ((h.1 c1).2 c2).2.2
      show A (197, [.ref 12, .int (bn l1), .int (bn l2), .int (bn l3), v4, .int (bn l5), .int (bn l6), v7], [.int (bn r5)], s3)
      refine bGo hA 12 5 (342, .ireturn, 1, 0, 0, [1], []) rfl rfl rfl ?_
      exact k4
  · refine bGo hA 8 15 (241, .aload_n 0, 1, 144, 0, [0], []) rfl rfl rfl ?_
    refine bGo hA 9 0 (242, .getfield 56, 3, 145, 0, [12, 18, 3, 71, 1, 0], []) rfl rfl rfl ?_
    refine ⟨rfl, ?_⟩
    refine bGo hA 9 1 (245, .iload 6, 2, 146, 0, [6], []) rfl rfl rfl ?_
    refine bGo hA 9 2 (247, .iaload, 1, 147, 0, [], []) rfl rfl rfl ?_
    refine ⟨rfl, (bIxP (x := l6) (n := 8) h_l6 (h.2 c1).1), ?_⟩
    refine bEqL (x := l6) h_l6 ?_
    refine bGo hA 9 3 (248, .aload_n 0, 1, 148, 0, [0], []) rfl rfl rfl ?_
    refine bGo hA 9 4 (249, .getfield 83, 3, 149, 0, [12, 28, 3, 80, 1, 0], []) rfl rfl rfl ?_
    refine ⟨rfl, ?_⟩
    refine bGo hA 9 5 (252, .iload_n 2, 1, 150, 0, [2], []) rfl rfl rfl ?_
    refine bGo hA 9 6 (253, .iaload, 1, 151, 0, [], []) rfl rfl rfl ?_
    refine ⟨rfl, (bIxP (x := l2) (n := 16) h_l2 (h.2 c1).2.1), ?_⟩
    refine bEqL (x := l2) h_l2 ?_
    refine bGo hA 9 7 (254, .if_icmp .ne (39), 3, 152, 171, [], []) rfl rfl rfl ?_
    refine bB_eq (x := (bi σ 71 l6)) (y := (bi σ 80 l2)) (bi_rg _ _ _) (bi_rg _ _ _) (fun c7 => ?_) (fun c7 => ?_)
    · refine bGo hA 9 8 (257, .aload_n 0, 1, 153, 0, [0], []) rfl rfl rfl ?_
      refine bGo hA 9 9 (258, .getfield 59, 3, 154, 0, [12, 19, 3, 72, 1, 0], []) rfl rfl rfl ?_
      refine ⟨rfl, ?_⟩
      refine bGo hA 9 10 (261, .iload 6, 2, 155, 0, [6], []) rfl rfl rfl ?_
      refine bGo hA 9 11 (263, .iaload, 1, 156, 0, [], []) rfl rfl rfl ?_
      refine ⟨rfl, (bIxP (x := l6) (n := 8) h_l6 (h.2 c1).1), ?_⟩
      refine bEqL (x := l6) h_l6 ?_
      refine bGo hA 9 12 (264, .iconst (-1), 1, 157, 0, [], [(-1, 0)]) rfl rfl rfl ?_
      refine bEqI bl_m1 ?_
      refine bGo hA 9 13 (265, .if_icmp .eq (24), 3, 158, 169, [], []) rfl rfl rfl ?_
      refine bB_eq (x := (bi σ 72 l6)) (y := (-1)) (bi_rg _ _ _) (by decide : bRg (-1)) (fun c8 => ?_) (fun c8 => ?_)
      · refine bGo hA 10 9 (289, .iconst (1), 1, 170, 0, [], [(1, 0)]) rfl rfl rfl ?_
        refine bEqI bl_1 ?_
        refine bGo hA 10 10 (290, .goto (4), 3, 171, 172, [], []) rfl rfl rfl ?_
        refine bGo hA 10 12 (294, .istore 7, 2, 173, 0, [7], []) rfl rfl rfl ?_
        refine bGo hA 10 13 (296, .iload 7, 2, 174, 0, [7], []) rfl rfl rfl ?_
        refine bGo hA 10 14 (298, .ifCond .eq (8), 3, 175, 177, [], []) rfl rfl rfl ?_
        refine ⟨fun c => absurd c (by decide), fun _ => ?_⟩
        refine bGo hA 10 15 (301, .iload 6, 2, 176, 0, [6], []) rfl rfl rfl ?_
        refine bGo hA 11 0 (303, .goto (5), 3, 177, 178, [], []) rfl rfl rfl ?_
        refine bGo hA 11 2 (308, .istore 5, 2, 179, 0, [5], []) rfl rfl rfl ?_
        refine bGo hA 11 3 (310, .iinc 6 (-1), 3, 180, 0, [6], [(-1, 0)]) rfl rfl rfl ?_
        refine bEqC (fun v => A (180, [.ref 12, .int (bn l1), .int (bn l2), .int (bn l3), (bUnl v4), .int (bn l6), .int v, .int (bn 1)], [], σ)) ((congrArg (fun w => bn l6 + w) bl_m1).trans (bn_add l6 (-1))) ?_
        refine bGo hA 11 4 (313, .goto (-77), 3, 181, 141, [], []) rfl rfl rfl ?_
        exact (((h.2 c1).2.2.1 c7).1 c8).2
      · refine bGo hA 9 14 (268, .iload_n 3, 1, 159, 0, [3], []) rfl rfl rfl ?_
        refine bGo hA 9 15 (269, .aload_n 0, 1, 160, 0, [0], []) rfl rfl rfl ?_
        refine bGo hA 10 0 (270, .getfield 59, 3, 161, 0, [12, 19, 3, 72, 1, 0], []) rfl rfl rfl ?_
        refine ⟨rfl, ?_⟩
        refine bGo hA 10 1 (273, .iload 6, 2, 162, 0, [6], []) rfl rfl rfl ?_
        refine bGo hA 10 2 (275, .iaload, 1, 163, 0, [], []) rfl rfl rfl ?_
        refine ⟨rfl, (bIxP (x := l6) (n := 8) h_l6 (h.2 c1).1), ?_⟩
        refine bEqL (x := l6) h_l6 ?_
        refine bGo hA 10 3 (276, .invokestatic 390, 3, 164, 0, [2, 239, 2], []) rfl rfl rfl ?_
        refine hC _ _ _ _ _ (bRn_e (fun r12 s10 q13 k11 => ?_)) (((h.2 c1).2.2.1 c7).2 c8)
        show A (164, [.ref 12, .int (bn l1), .int (bn l2), .int (bn l3), v4, .int (bn l5), .int (bn l6), v7], [.int (bn r12)], s10)
        refine bGo hA 10 4 (279, .aload_n 0, 1, 165, 0, [0], []) rfl rfl rfl ?_
        refine bGo hA 10 5 (280, .getfield 62, 3, 166, 0, [12, 20, 3, 73, 1, 0], []) rfl rfl rfl ?_
        refine ⟨rfl, ?_⟩
        refine bGo hA 10 6 (283, .iload 6, 2, 167, 0, [6], []) rfl rfl rfl ?_
        refine bGo hA 10 7 (285, .iaload, 1, 168, 0, [], []) rfl rfl rfl ?_
        refine ⟨rfl, (bIxP (x := l6) (n := 8) h_l6 (h.2 c1).1), ?_⟩
        refine bEqL (x := l6) h_l6 ?_
        refine bGo hA 10 8 (286, .if_icmp .ne (7), 3, 169, 171, [], []) rfl rfl rfl ?_
        refine bB_eq (x := r12) (y := (bi s10 73 l6)) q13 (bi_rg _ _ _) (fun c14 => ?_) (fun c14 => ?_)
        · refine bGo hA 10 9 (289, .iconst (1), 1, 170, 0, [], [(1, 0)]) rfl rfl rfl ?_
          refine bEqI bl_1 ?_
          refine bGo hA 10 10 (290, .goto (4), 3, 171, 172, [], []) rfl rfl rfl ?_
          refine bGo hA 10 12 (294, .istore 7, 2, 173, 0, [7], []) rfl rfl rfl ?_
          refine bGo hA 10 13 (296, .iload 7, 2, 174, 0, [7], []) rfl rfl rfl ?_
          refine bGo hA 10 14 (298, .ifCond .eq (8), 3, 175, 177, [], []) rfl rfl rfl ?_
          refine ⟨fun c => absurd c (by decide), fun _ => ?_⟩
          refine bGo hA 10 15 (301, .iload 6, 2, 176, 0, [6], []) rfl rfl rfl ?_
          refine bGo hA 11 0 (303, .goto (5), 3, 177, 178, [], []) rfl rfl rfl ?_
          refine bGo hA 11 2 (308, .istore 5, 2, 179, 0, [5], []) rfl rfl rfl ?_
          refine bGo hA 11 3 (310, .iinc 6 (-1), 3, 180, 0, [6], [(-1, 0)]) rfl rfl rfl ?_
          refine bEqC (fun v => A (180, [.ref 12, .int (bn l1), .int (bn l2), .int (bn l3), (bUnl v4), .int (bn l6), .int v, .int (bn 1)], [], s10)) ((congrArg (fun w => bn l6 + w) bl_m1).trans (bn_add l6 (-1))) ?_
          refine bGo hA 11 4 (313, .goto (-77), 3, 181, 141, [], []) rfl rfl rfl ?_
          exact (k11.1 c14).2
        · refine bGo hA 10 11 (293, .iconst (0), 1, 172, 0, [], [(0, 0)]) rfl rfl rfl ?_
          refine bEqI bl_0 ?_
          refine bGo hA 10 12 (294, .istore 7, 2, 173, 0, [7], []) rfl rfl rfl ?_
          refine bGo hA 10 13 (296, .iload 7, 2, 174, 0, [7], []) rfl rfl rfl ?_
          refine bGo hA 10 14 (298, .ifCond .eq (8), 3, 175, 177, [], []) rfl rfl rfl ?_
          refine ⟨fun _ => ?_, fun c => absurd (by decide) c⟩
          refine bGo hA 11 1 (306, .iload 5, 2, 178, 0, [5], []) rfl rfl rfl ?_
          refine bGo hA 11 2 (308, .istore 5, 2, 179, 0, [5], []) rfl rfl rfl ?_
          refine bGo hA 11 3 (310, .iinc 6 (-1), 3, 180, 0, [6], [(-1, 0)]) rfl rfl rfl ?_
          refine bEqC (fun v => A (180, [.ref 12, .int (bn l1), .int (bn l2), .int (bn l3), (bUnl v4), .int (bn l5), .int v, .int (bn 0)], [], s10)) ((congrArg (fun w => bn l6 + w) bl_m1).trans (bn_add l6 (-1))) ?_
          refine bGo hA 11 4 (313, .goto (-77), 3, 181, 141, [], []) rfl rfl rfl ?_
          exact (k11.2 c14).2
    · refine bGo hA 10 11 (293, .iconst (0), 1, 172, 0, [], [(0, 0)]) rfl rfl rfl ?_
      refine bEqI bl_0 ?_
      refine bGo hA 10 12 (294, .istore 7, 2, 173, 0, [7], []) rfl rfl rfl ?_
      refine bGo hA 10 13 (296, .iload 7, 2, 174, 0, [7], []) rfl rfl rfl ?_
      refine bGo hA 10 14 (298, .ifCond .eq (8), 3, 175, 177, [], []) rfl rfl rfl ?_
      refine ⟨fun _ => ?_, fun c => absurd (by decide) c⟩
      refine bGo hA 11 1 (306, .iload 5, 2, 178, 0, [5], []) rfl rfl rfl ?_
      refine bGo hA 11 2 (308, .istore 5, 2, 179, 0, [5], []) rfl rfl rfl ?_
      refine bGo hA 11 3 (310, .iinc 6 (-1), 3, 180, 0, [6], [(-1, 0)]) rfl rfl rfl ?_
      refine bEqC (fun v => A (180, [.ref 12, .int (bn l1), .int (bn l2), .int (bn l3), (bUnl v4), .int (bn l5), .int v, .int (bn 0)], [], σ)) ((congrArg (fun w => bn l6 + w) bl_m1).trans (bn_add l6 (-1))) ?_
      refine bGo hA 11 4 (313, .goto (-77), 3, 181, 141, [], []) rfl rfl rfl ?_
      exact ((h.2 c1).2.2.2 c7).2

theorem sq243_0 {lvl : Nat} {C : bCall} {Q : bPost} {A : bPt → Prop} (hC : bMono C) (hA : bClosed lvl bm243 C Q A) {x1 : Int} {σ : bSt}  (h_x1 : bRg x1)
  (h : (0 ≤ x1 ∧ (bRg (6 * (x1 / 256)) ∧ A (10, [.ref 12, .int (bn x1), .int (bn (x1 / 256)), .int (bn 0), .int (bn (6 * (x1 / 256))), .float 0, .float 0], [], σ)))) : A (0, [.ref 12, .int (bn x1), .float 0, .float 0, .float 0, .float 0, .float 0], [], σ) := by
  refine bGo hA 0 0 (0, .iload_n 1, 1, 1, 0, [1], []) rfl rfl rfl ?_
  refine bGo hA 0 1 (1, .sipush (256), 3, 2, 0, [], [(256, 0)]) rfl rfl rfl ?_
  refine bEqI bl_256 ?_
  refine bGo hA 0 2 (4, .idiv, 1, 3, 0, [], []) rfl rfl rfl ?_
  refine ⟨by decide, ?_⟩
  refine bEqI (bn_div h_x1 (by decide) h.1) ?_
  refine bGo hA 0 3 (5, .istore_n 2, 1, 4, 0, [2], []) rfl rfl rfl ?_
  refine bGo hA 0 4 (6, .iconst (0), 1, 5, 0, [], [(0, 0)]) rfl rfl rfl ?_
  refine bEqI bl_0 ?_
  refine bGo hA 0 5 (7, .istore_n 3, 1, 6, 0, [3], []) rfl rfl rfl ?_
  refine bGo hA 0 6 (8, .bipush (6), 2, 7, 0, [], [(6, 0)]) rfl rfl rfl ?_
  refine bEqI bl_6 ?_
  refine bGo hA 0 7 (10, .iload_n 2, 1, 8, 0, [2], []) rfl rfl rfl ?_
  refine bGo hA 0 8 (11, .imul, 1, 9, 0, [], []) rfl rfl rfl ?_
  refine bEqI (bn_mul 6 (x1 / 256)) ?_
  refine bGo hA 0 9 (12, .istore 4, 2, 10, 0, [4], []) rfl rfl rfl ?_
  exact h.2.2

theorem sq243_10 {lvl : Nat} {C : bCall} {Q : bPost} {A : bPt → Prop} (hC : bMono C) (hA : bClosed lvl bm243 C Q A) {l1 : Int} {l2 : Int} {l3 : Int} {l4 : Int} {v5 : Value} {v6 : Value} {σ : bSt}  (h_l1 : bRg l1) (h_l2 : bRg l2) (h_l3 : bRg l3) (h_l4 : bRg l4)
  (h : (bRg (6 * l2) ∧ ((0 ≤ l2 ∧ l2 < 16) ∧ (bRg ((6 * l2) + (bi σ 85 l2)) ∧ ((l4 < ((6 * l2) + (bi σ 85 l2)) → ((0 ≤ l4 ∧ l4 < 96) ∧ (((bi σ 86 l4) = 0 → (0 ≤ (bi σ 87 l4) ∧ (C 206 [.ref 12, .int (bn ((bi σ 87 l4) / 8))] σ (bRn (fun r5 s3 => ((r5 = (bi s3 75 l2) → (((bi s3 86 l4) = 0 → ((0 ≤ (bi σ 87 l4) ∧ (bi σ 87 l4) < 48) ∧ (((bi s3 56 (bi σ 87 l4)) = (-1) → Q (.inl (some (.int (bn 5)))) s3) ∧ (¬ (bi s3 56 (bi σ 87 l4)) = (-1) → A (55, [.ref 12, .int (bn l1), .int (bn l2), .int (bn l3), .int (bn l4), .int (bn (bi σ 87 l4)), v6], [], s3))))) ∧ (¬ (bi s3 86 l4) = 0 → A (55, [.ref 12, .int (bn l1), .int (bn l2), .int (bn l3), .int (bn l4), .int (bn (bi σ 87 l4)), v6], [], s3)))) ∧ (¬ r5 = (bi s3 75 l2) → Q (.inl (some (.int (bn 4)))) s3))))))) ∧ (¬ (bi σ 86 l4) = 0 → (((bi σ 86 l4) = 0 → ((0 ≤ (bi σ 87 l4) ∧ (bi σ 87 l4) < 48) ∧ (((bi σ 56 (bi σ 87 l4)) = (-1) → Q (.inl (some (.int (bn 5)))) σ) ∧ (¬ (bi σ 56 (bi σ 87 l4)) = (-1) → A (55, [.ref 12, .int (bn l1), .int (bn l2), .int (bn l3), .int (bn l4), .int (bn (bi σ 87 l4)), v6], [], σ))))) ∧ (¬ (bi σ 86 l4) = 0 → A (55, [.ref 12, .int (bn l1), .int (bn l2), .int (bn l3), .int (bn l4), .int (bn (bi σ 87 l4)), v6], [], σ))))))) ∧ (¬ l4 < ((6 * l2) + (bi σ 85 l2)) → (((40 : Int) < l3 → Q (.inl (some (.int (bn 7)))) σ) ∧ (¬ (40 : Int) < l3 → Q (.inl (some (.int (bn 0)))) σ)))))))) : A (10, [.ref 12, .int (bn l1), .int (bn l2), .int (bn l3), .int (bn l4), v5, v6], [], σ) := by
  refine bGo hA 0 10 (14, .iload 4, 2, 11, 0, [4], []) rfl rfl rfl ?_
  refine bGo hA 0 11 (16, .bipush (6), 2, 12, 0, [], [(6, 0)]) rfl rfl rfl ?_
  refine bEqI bl_6 ?_
  refine bGo hA 0 12 (18, .iload_n 2, 1, 13, 0, [2], []) rfl rfl rfl ?_
  refine bGo hA 0 13 (19, .imul, 1, 14, 0, [], []) rfl rfl rfl ?_
  refine bEqI (bn_mul 6 l2) ?_
  refine bGo hA 0 14 (20, .aload_n 0, 1, 15, 0, [0], []) rfl rfl rfl ?_
  refine bGo hA 0 15 (21, .getfield 98, 3, 16, 0, [12, 33, 3, 85, 1, 0], []) rfl rfl rfl ?_
  refine ⟨rfl, ?_⟩
  refine bGo hA 1 0 (24, .iload_n 2, 1, 17, 0, [2], []) rfl rfl rfl ?_
  refine bGo hA 1 1 (25, .iaload, 1, 18, 0, [], []) rfl rfl rfl ?_
  refine ⟨rfl, (bIxP (x := l2) (n := 16) h_l2 h.2.1), ?_⟩
  refine bEqL (x := l2) h_l2 ?_
  refine bGo hA 1 2 (26, .iadd, 1, 19, 0, [], []) rfl rfl rfl ?_
  refine bEqI (bn_add (6 * l2) (bi σ 85 l2)) ?_
  refine bGo hA 1 3 (27, .if_icmp .ge (178), 3, 20, 115, [], []) rfl rfl rfl ?_
  refine bB_lt (x := l4) (y := ((6 * l2) + (bi σ 85 l2))) h_l4 h.2.2.1 (fun c1 => ?_) (fun c1 => ?_)
  · refine bGo hA 1 4 (30, .aload_n 0, 1, 21, 0, [0], []) rfl rfl rfl ?_
    refine bGo hA 1 5 (31, .getfield 104, 3, 22, 0, [12, 35, 3, 87, 1, 0], []) rfl rfl rfl ?_
    refine ⟨rfl, ?_⟩
    refine bGo hA 1 6 (34, .iload 4, 2, 23, 0, [4], []) rfl rfl rfl ?_
    refine bGo hA 1 7 (36, .iaload, 1, 24, 0, [], []) rfl rfl rfl ?_
    refine ⟨rfl, (bIxP (x := l4) (n := 96) h_l4 (h.2.2.2.1 c1).1), ?_⟩
    refine bEqL (x := l4) h_l4 ?_
    refine bGo hA 1 8 (37, .istore 5, 2, 25, 0, [5], []) rfl rfl rfl ?_
    refine bGo hA 1 9 (39, .aload_n 0, 1, 26, 0, [0], []) rfl rfl rfl ?_
    refine bGo hA 1 10 (40, .getfield 101, 3, 27, 0, [12, 34, 3, 86, 1, 0], []) rfl rfl rfl ?_
    refine ⟨rfl, ?_⟩
    refine bGo hA 1 11 (43, .iload 4, 2, 28, 0, [4], []) rfl rfl rfl ?_
    refine bGo hA 1 12 (45, .iaload, 1, 29, 0, [], []) rfl rfl rfl ?_
    refine ⟨rfl, (bIxP (x := l4) (n := 96) h_l4 (h.2.2.2.1 c1).1), ?_⟩
    refine bEqL (x := l4) h_l4 ?_
    refine bGo hA 1 13 (46, .ifCond .ne (23), 3, 30, 42, [], []) rfl rfl rfl ?_
    refine bB_eq0 (x := (bi σ 86 l4)) (bi_rg _ _ _) (fun c2 => ?_) (fun c2 => ?_)
    · refine bGo hA 1 14 (49, .aload_n 0, 1, 31, 0, [0], []) rfl rfl rfl ?_
      refine bGo hA 1 15 (50, .iload 5, 2, 32, 0, [5], []) rfl rfl rfl ?_
      refine bGo hA 2 0 (52, .bipush (8), 2, 33, 0, [], [(8, 0)]) rfl rfl rfl ?_
      refine bEqI bl_8 ?_
      refine bGo hA 2 1 (54, .idiv, 1, 34, 0, [], []) rfl rfl rfl ?_
      refine ⟨by decide, ?_⟩
      refine bEqI (bn_div (bi_rg _ _ _) (by decide) ((h.2.2.2.1 c1).2.1 c2).1) ?_
      refine bGo hA 2 2 (55, .invokevirtual 343, 3, 35, 0, [0, 12, 206, 1], []) rfl rfl rfl ?_
      refine ⟨rfl, ?_⟩
      refine hC _ _ _ _ _ (bRn_e (fun r5 s3 q6 k4 => ?_)) ((h.2.2.2.1 c1).2.1 c2).2
      show A (35, [.ref 12, .int (bn l1), .int (bn l2), .int (bn l3), .int (bn l4), .int (bn (bi σ 87 l4)), v6], [.int (bn r5)], s3)
      refine bGo hA 2 3 (58, .aload_n 0, 1, 36, 0, [0], []) rfl rfl rfl ?_
      refine bGo hA 2 4 (59, .getfield 68, 3, 37, 0, [12, 23, 3, 75, 1, 0], []) rfl rfl rfl ?_
      refine ⟨rfl, ?_⟩
      refine bGo hA 2 5 (62, .iload_n 2, 1, 38, 0, [2], []) rfl rfl rfl ?_
      refine bGo hA 2 6 (63, .iaload, 1, 39, 0, [], []) rfl rfl rfl ?_
      refine ⟨rfl, (bIxP (x := l2) (n := 16) h_l2 h.2.1), ?_⟩
      refine bEqL (x := l2) h_l2 ?_
      refine bGo hA 2 7 (64, .if_icmp .eq (5), 3, 40, 42, [], []) rfl rfl rfl ?_
      refine bB_eq (x := r5) (y := (bi s3 75 l2)) q6 (bi_rg _ _ _) (fun c7 => ?_) (fun c7 => ?_)
      · refine bGo hA 2 10 (69, .aload_n 0, 1, 43, 0, [0], []) rfl rfl rfl ?_
        refine bGo hA 2 11 (70, .getfield 101, 3, 44, 0, [12, 34, 3, 86, 1, 0], []) rfl rfl rfl ?_
        refine ⟨rfl, ?_⟩
        refine bGo hA 2 12 (73, .iload 4, 2, 45, 0, [4], []) rfl rfl rfl ?_
        refine bGo hA 2 13 (75, .iaload, 1, 46, 0, [], []) rfl rfl rfl ?_
        refine ⟨rfl, (bIxP (x := l4) (n := 96) h_l4 (h.2.2.2.1 c1).1), ?_⟩
        refine bEqL (x := l4) h_l4 ?_
        refine bGo hA 2 14 (76, .ifCond .ne (16), 3, 47, 55, [], []) rfl rfl rfl ?_
        refine bB_eq0 (x := (bi s3 86 l4)) (bi_rg _ _ _) (fun c8 => ?_) (fun c8 => ?_)
        · refine bGo hA 2 15 (79, .aload_n 0, 1, 48, 0, [0], []) rfl rfl rfl ?_
          refine bGo hA 3 0 (80, .getfield 7, 3, 49, 0, [12, 1, 3, 56, 1, 0], []) rfl rfl rfl ?_
          refine ⟨rfl, ?_⟩
          refine bGo hA 3 1 (83, .iload 5, 2, 50, 0, [5], []) rfl rfl rfl ?_
          refine bGo hA 3 2 (85, .iaload, 1, 51, 0, [], []) rfl rfl rfl ?_
          refine ⟨rfl, (bIxP (x := (bi σ 87 l4)) (n := 48) (bi_rg _ _ _) ((k4.1 c7).1 c8).1), ?_⟩
          refine bEqL (x := (bi σ 87 l4)) (bi_rg _ _ _) ?_
          refine bGo hA 3 3 (86, .iconst (-1), 1, 52, 0, [], [(-1, 0)]) rfl rfl rfl ?_
          refine bEqI bl_m1 ?_
          refine bGo hA 3 4 (87, .if_icmp .ne (5), 3, 53, 55, [], []) rfl rfl rfl ?_
          refine bB_eq (x := (bi s3 56 (bi σ 87 l4))) (y := (-1)) (bi_rg _ _ _) (by decide : bRg (-1)) (fun c9 => ?_) (fun c9 => ?_)
          · refine bGo hA 3 5 (90, .iconst (5), 1, 54, 0, [], [(5, 0)]) rfl rfl rfl ?_
            refine bEqI bl_5 ?_
            refine bGo hA 3 6 (91, .ireturn, 1, 55, 0, [1], []) rfl rfl rfl ?_
            exact (((k4.1 c7).1 c8).2.1 c9)
          · exact (((k4.1 c7).1 c8).2.2 c9)
        · exact ((k4.1 c7).2 c8)
      · refine bGo hA 2 8 (67, .iconst (4), 1, 41, 0, [], [(4, 0)]) rfl rfl rfl ?_
        refine bEqI bl_4 ?_
        refine bGo hA 2 9 (68, .ireturn, 1, 42, 0, [1], []) rfl rfl rfl ?_
        exact (k4.2 c7)
    · refine bGo hA 2 10 (69, .aload_n 0, 1, 43, 0, [0], []) rfl rfl rfl ?_
      refine bGo hA 2 11 (70, .getfield 101, 3, 44, 0, [12, 34, 3, 86, 1, 0], []) rfl rfl rfl ?_
      refine ⟨rfl, ?_⟩
      refine bGo hA 2 12 (73, .iload 4, 2, 45, 0, [4], []) rfl rfl rfl ?_
      refine bGo hA 2 13 (75, .iaload, 1, 46, 0, [], []) rfl rfl rfl ?_
      refine ⟨rfl, (bIxP (x := l4) (n := 96) h_l4 (h.2.2.2.1 c1).1), ?_⟩
      refine bEqL (x := l4) h_l4 ?_
      refine bGo hA 2 14 (76, .ifCond .ne (16), 3, 47, 55, [], []) rfl rfl rfl ?_
      refine bB_eq0 (x := (bi σ 86 l4)) (bi_rg _ _ _) (fun c10 => ?_) (fun c10 => ?_)
      · refine bGo hA 2 15 (79, .aload_n 0, 1, 48, 0, [0], []) rfl rfl rfl ?_
        refine bGo hA 3 0 (80, .getfield 7, 3, 49, 0, [12, 1, 3, 56, 1, 0], []) rfl rfl rfl ?_
        refine ⟨rfl, ?_⟩
        refine bGo hA 3 1 (83, .iload 5, 2, 50, 0, [5], []) rfl rfl rfl ?_
        refine bGo hA 3 2 (85, .iaload, 1, 51, 0, [], []) rfl rfl rfl ?_
        refine ⟨rfl, (bIxP (x := (bi σ 87 l4)) (n := 48) (bi_rg _ _ _) (((h.2.2.2.1 c1).2.2 c2).1 c10).1), ?_⟩
        refine bEqL (x := (bi σ 87 l4)) (bi_rg _ _ _) ?_
        refine bGo hA 3 3 (86, .iconst (-1), 1, 52, 0, [], [(-1, 0)]) rfl rfl rfl ?_
        refine bEqI bl_m1 ?_
        refine bGo hA 3 4 (87, .if_icmp .ne (5), 3, 53, 55, [], []) rfl rfl rfl ?_
        refine bB_eq (x := (bi σ 56 (bi σ 87 l4))) (y := (-1)) (bi_rg _ _ _) (by decide : bRg (-1)) (fun c11 => ?_) (fun c11 => ?_)
        · refine bGo hA 3 5 (90, .iconst (5), 1, 54, 0, [], [(5, 0)]) rfl rfl rfl ?_
          refine bEqI bl_5 ?_
          refine bGo hA 3 6 (91, .ireturn, 1, 55, 0, [1], []) rfl rfl rfl ?_
          exact ((((h.2.2.2.1 c1).2.2 c2).1 c10).2.1 c11)
        · exact ((((h.2.2.2.1 c1).2.2 c2).1 c10).2.2 c11)
      · exact (((h.2.2.2.1 c1).2.2 c2).2 c10)
  · refine bGo hA 7 3 (205, .iload_n 3, 1, 116, 0, [3], []) rfl rfl rfl ?_
    refine bGo hA 7 4 (206, .bipush (40), 2, 117, 0, [], [(40, 0)]) rfl rfl rfl ?_
    refine bEqI bl_40 ?_
    refine bGo hA 7 5 (208, .if_icmp .le (8), 3, 118, 120, [], []) rfl rfl rfl ?_
    refine bB_lt (x := 40) (y := l3) (by decide : bRg 40) h_l3 (fun c12 => ?_) (fun c12 => ?_)
    · refine bGo hA 7 6 (211, .bipush (7), 2, 119, 0, [], [(7, 0)]) rfl rfl rfl ?_
      refine bEqI bl_7 ?_
      refine bGo hA 7 7 (213, .goto (4), 3, 120, 121, [], []) rfl rfl rfl ?_
      refine bGo hA 7 9 (217, .ireturn, 1, 0, 0, [1], []) rfl rfl rfl ?_
      exact ((h.2.2.2.2 c1).1 c12)
    · refine bGo hA 7 8 (216, .iconst (0), 1, 121, 0, [], [(0, 0)]) rfl rfl rfl ?_
      refine bEqI bl_0 ?_
      refine bGo hA 7 9 (217, .ireturn, 1, 0, 0, [1], []) rfl rfl rfl ?_
      exact ((h.2.2.2.2 c1).2 c12)

theorem sq243_55 {lvl : Nat} {C : bCall} {Q : bPost} {A : bPt → Prop} (hC : bMono C) (hA : bClosed lvl bm243 C Q A) {l1 : Int} {l2 : Int} {l3 : Int} {l4 : Int} {l5 : Int} {v6 : Value} {σ : bSt}  (h_l1 : bRg l1) (h_l2 : bRg l2) (h_l3 : bRg l3) (h_l4 : bRg l4) (h_l5 : bRg l5)
  (h : ((0 ≤ l4 ∧ l4 < 96) ∧ (((bi σ 86 l4) = 2 → (C 240 [.ref 12, .int (bn l1), .int (bn l4)] σ (bRn (fun r4 s2 => ((0 ≤ r4 ∧ r4 < 4096) ∧ (((bi s2 95 r4) = 0 → (((bi s2 86 l4) = 1 → A (87, [.ref 12, .int (bn l1), .int (bn l2), .int (bn l3), .int (bn l4), .int (bn l5), .int (bn 0)], [], s2)) ∧ (¬ (bi s2 86 l4) = 1 → (bRg (l3 + 1) ∧ (bRg (l4 + 1) ∧ A (10, [.ref 12, .int (bn l1), .int (bn l2), .int (bn (l3 + 1)), .int (bn (l4 + 1)), .int (bn l5), v6], [], s2)))))) ∧ (¬ (bi s2 95 r4) = 0 → (C 240 [.ref 12, .int (bn l1), .int (bn l4)] s2 (bRn (fun r10 s8 => ((0 ≤ l1 ∧ l1 < 4096) ∧ Q (.inl (some (.int (bn 6)))) (bw s8 96 l1 r10)))))))))))) ∧ (¬ (bi σ 86 l4) = 2 → (((bi σ 86 l4) = 1 → A (87, [.ref 12, .int (bn l1), .int (bn l2), .int (bn l3), .int (bn l4), .int (bn l5), .int (bn 0)], [], σ)) ∧ (¬ (bi σ 86 l4) = 1 → (bRg (l3 + 1) ∧ (bRg (l4 + 1) ∧ A (10, [.ref 12, .int (bn l1), .int (bn l2), .int (bn (l3 + 1)), .int (bn (l4 + 1)), .int (bn l5), v6], [], σ))))))))) : A (55, [.ref 12, .int (bn l1), .int (bn l2), .int (bn l3), .int (bn l4), .int (bn l5), v6], [], σ) := by
  refine bGo hA 3 7 (92, .aload_n 0, 1, 56, 0, [0], []) rfl rfl rfl ?_
  refine bGo hA 3 8 (93, .getfield 101, 3, 57, 0, [12, 34, 3, 86, 1, 0], []) rfl rfl rfl ?_
  refine ⟨rfl, ?_⟩
  refine bGo hA 3 9 (96, .iload 4, 2, 58, 0, [4], []) rfl rfl rfl ?_
  refine bGo hA 3 10 (98, .iaload, 1, 59, 0, [], []) rfl rfl rfl ?_
  refine ⟨rfl, (bIxP (x := l4) (n := 96) h_l4 h.1), ?_⟩
  refine bEqL (x := l4) h_l4 ?_
  refine bGo hA 3 11 (99, .iconst (2), 1, 60, 0, [], [(2, 0)]) rfl rfl rfl ?_
  refine bEqI bl_2 ?_
  refine bGo hA 3 12 (100, .if_icmp .ne (34), 3, 61, 79, [], []) rfl rfl rfl ?_
  refine bB_eq (x := (bi σ 86 l4)) (y := 2) (bi_rg _ _ _) (by decide : bRg 2) (fun c1 => ?_) (fun c1 => ?_)
  · refine bGo hA 3 13 (103, .aload_n 0, 1, 62, 0, [0], []) rfl rfl rfl ?_
    refine bGo hA 3 14 (104, .getfield 128, 3, 63, 0, [12, 43, 3, 95, 1, 0], []) rfl rfl rfl ?_
    refine ⟨rfl, ?_⟩
    refine bGo hA 3 15 (107, .aload_n 0, 1, 64, 0, [0], []) rfl rfl rfl ?_
    refine bGo hA 4 0 (108, .iload_n 1, 1, 65, 0, [1], []) rfl rfl rfl ?_
    refine bGo hA 4 1 (109, .iload 4, 2, 66, 0, [4], []) rfl rfl rfl ?_
    refine bGo hA 4 2 (111, .invokevirtual 398, 3, 67, 0, [0, 12, 240, 2], []) rfl rfl rfl ?_
    refine ⟨rfl, ?_⟩
    refine hC _ _ _ _ _ (bRn_e (fun r4 s2 q5 k3 => ?_)) (h.2.1 c1)
    show A (67, [.ref 12, .int (bn l1), .int (bn l2), .int (bn l3), .int (bn l4), .int (bn l5), v6], [.int (bn r4), .ref 95], s2)
    refine bGo hA 4 3 (114, .iaload, 1, 68, 0, [], []) rfl rfl rfl ?_
    refine ⟨rfl, (bIxP (x := r4) (n := 4096) q5 k3.1), ?_⟩
    refine bEqL (x := r4) q5 ?_
    refine bGo hA 4 4 (115, .ifCond .eq (19), 3, 69, 79, [], []) rfl rfl rfl ?_
    refine bB_eq0 (x := (bi s2 95 r4)) (bi_rg _ _ _) (fun c6 => ?_) (fun c6 => ?_)
    · refine bGo hA 4 15 (134, .aload_n 0, 1, 80, 0, [0], []) rfl rfl rfl ?_
      refine bGo hA 5 0 (135, .getfield 101, 3, 81, 0, [12, 34, 3, 86, 1, 0], []) rfl rfl rfl ?_
      refine ⟨rfl, ?_⟩
      refine bGo hA 5 1 (138, .iload 4, 2, 82, 0, [4], []) rfl rfl rfl ?_
      refine bGo hA 5 2 (140, .iaload, 1, 83, 0, [], []) rfl rfl rfl ?_
      refine ⟨rfl, (bIxP (x := l4) (n := 96) h_l4 h.1), ?_⟩
      refine bEqL (x := l4) h_l4 ?_
      refine bGo hA 5 3 (141, .iconst (1), 1, 84, 0, [], [(1, 0)]) rfl rfl rfl ?_
      refine bEqI bl_1 ?_
      refine bGo hA 5 4 (142, .if_icmp .ne (54), 3, 85, 112, [], []) rfl rfl rfl ?_
      refine bB_eq (x := (bi s2 86 l4)) (y := 1) (bi_rg _ _ _) (by decide : bRg 1) (fun c7 => ?_) (fun c7 => ?_)
      · refine bGo hA 5 5 (145, .iconst (0), 1, 86, 0, [], [(0, 0)]) rfl rfl rfl ?_
        refine bEqI bl_0 ?_
        refine bGo hA 5 6 (146, .istore 6, 2, 87, 0, [6], []) rfl rfl rfl ?_
        exact ((k3.2.1 c6).1 c7)
      · refine bGo hA 7 0 (196, .iinc 3 (1), 3, 113, 0, [3], [(1, 0)]) rfl rfl rfl ?_
        refine bEqC (fun v => A (113, [.ref 12, .int (bn l1), .int (bn l2), .int v, .int (bn l4), .int (bn l5), v6], [], s2)) ((congrArg (fun w => bn l3 + w) bl_1).trans (bn_add l3 1)) ?_
        refine bGo hA 7 1 (199, .iinc 4 (1), 3, 114, 0, [4], [(1, 0)]) rfl rfl rfl ?_
        refine bEqC (fun v => A (114, [.ref 12, .int (bn l1), .int (bn l2), .int (bn (l3 + 1)), .int v, .int (bn l5), v6], [], s2)) ((congrArg (fun w => bn l4 + w) bl_1).trans (bn_add l4 1)) ?_
        refine bGo hA 7 2 (202, .goto (-188), 3, 115, 10, [], []) rfl rfl rfl ?_
        exact ((k3.2.1 c6).2 c7).2.2
    · refine bGo hA 4 5 (118, .aload_n 0, 1, 70, 0, [0], []) rfl rfl rfl ?_
      refine bGo hA 4 6 (119, .getfield 131, 3, 71, 0, [12, 44, 3, 96, 1, 0], []) rfl rfl rfl ?_
      refine ⟨rfl, ?_⟩
      refine bGo hA 4 7 (122, .iload_n 1, 1, 72, 0, [1], []) rfl rfl rfl ?_
      refine bGo hA 4 8 (123, .aload_n 0, 1, 73, 0, [0], []) rfl rfl rfl ?_
      refine bGo hA 4 9 (124, .iload_n 1, 1, 74, 0, [1], []) rfl rfl rfl ?_
      refine bGo hA 4 10 (125, .iload 4, 2, 75, 0, [4], []) rfl rfl rfl ?_
      refine bGo hA 4 11 (127, .invokevirtual 398, 3, 76, 0, [0, 12, 240, 2], []) rfl rfl rfl ?_
      refine ⟨rfl, ?_⟩
      refine hC _ _ _ _ _ (bRn_e (fun r10 s8 q11 k9 => ?_)) (k3.2.2 c6)
      show A (76, [.ref 12, .int (bn l1), .int (bn l2), .int (bn l3), .int (bn l4), .int (bn l5), v6], [.int (bn r10), .int (bn l1), .ref 96], s8)
      refine bGo hA 4 12 (130, .iastore, 1, 77, 0, [], []) rfl rfl rfl ?_
      refine ⟨rfl, (bIxP (x := l1) (n := 4096) h_l1 k9.1), by decide, ?_⟩
      refine bEqS (x := l1) h_l1 ?_
      refine bGo hA 4 13 (131, .bipush (6), 2, 78, 0, [], [(6, 0)]) rfl rfl rfl ?_
      refine bEqI bl_6 ?_
      refine bGo hA 4 14 (133, .ireturn, 1, 79, 0, [1], []) rfl rfl rfl ?_
      exact k9.2
  · refine bGo hA 4 15 (134, .aload_n 0, 1, 80, 0, [0], []) rfl rfl rfl ?_
    refine bGo hA 5 0 (135, .getfield 101, 3, 81, 0, [12, 34, 3, 86, 1, 0], []) rfl rfl rfl ?_
    refine ⟨rfl, ?_⟩
    refine bGo hA 5 1 (138, .iload 4, 2, 82, 0, [4], []) rfl rfl rfl ?_
    refine bGo hA 5 2 (140, .iaload, 1, 83, 0, [], []) rfl rfl rfl ?_
    refine ⟨rfl, (bIxP (x := l4) (n := 96) h_l4 h.1), ?_⟩
    refine bEqL (x := l4) h_l4 ?_
    refine bGo hA 5 3 (141, .iconst (1), 1, 84, 0, [], [(1, 0)]) rfl rfl rfl ?_
    refine bEqI bl_1 ?_
    refine bGo hA 5 4 (142, .if_icmp .ne (54), 3, 85, 112, [], []) rfl rfl rfl ?_
    refine bB_eq (x := (bi σ 86 l4)) (y := 1) (bi_rg _ _ _) (by decide : bRg 1) (fun c12 => ?_) (fun c12 => ?_)
    · refine bGo hA 5 5 (145, .iconst (0), 1, 86, 0, [], [(0, 0)]) rfl rfl rfl ?_
      refine bEqI bl_0 ?_
      refine bGo hA 5 6 (146, .istore 6, 2, 87, 0, [6], []) rfl rfl rfl ?_
      exact ((h.2.2 c1).1 c12)
    · refine bGo hA 7 0 (196, .iinc 3 (1), 3, 113, 0, [3], [(1, 0)]) rfl rfl rfl ?_
      refine bEqC (fun v => A (113, [.ref 12, .int (bn l1), .int (bn l2), .int v, .int (bn l4), .int (bn l5), v6], [], σ)) ((congrArg (fun w => bn l3 + w) bl_1).trans (bn_add l3 1)) ?_
      refine bGo hA 7 1 (199, .iinc 4 (1), 3, 114, 0, [4], [(1, 0)]) rfl rfl rfl ?_
      refine bEqC (fun v => A (114, [.ref 12, .int (bn l1), .int (bn l2), .int (bn (l3 + 1)), .int v, .int (bn l5), v6], [], σ)) ((congrArg (fun w => bn l4 + w) bl_1).trans (bn_add l4 1)) ?_
      refine bGo hA 7 2 (202, .goto (-188), 3, 115, 10, [], []) rfl rfl rfl ?_
      exact ((h.2.2 c1).2 c12).2.2

theorem sq243_87 {lvl : Nat} {C : bCall} {Q : bPost} {A : bPt → Prop} (hC : bMono C) (hA : bClosed lvl bm243 C Q A) {l1 : Int} {l2 : Int} {l3 : Int} {l4 : Int} {l5 : Int} {l6 : Int} {σ : bSt}  (h_l1 : bRg l1) (h_l2 : bRg l2) (h_l3 : bRg l3) (h_l4 : bRg l4) (h_l5 : bRg l5) (h_l6 : bRg l6)
  (h : ((l6 < 48 → ((0 ≤ l2 ∧ l2 < 16) ∧ ((0 ≤ l4 ∧ l4 < 96) ∧ (C 208 [.ref 12, .int (bn (bi σ 75 l2)), .int (bn l5), .int (bn (bi σ 88 l4)), .int (bn l6)] σ (bRn (fun r4 s2 => ((r4 = 0 → (bRg (l3 + 0) ∧ (bRg (l6 + 1) ∧ A (87, [.ref 12, .int (bn l1), .int (bn l2), .int (bn (l3 + 0)), .int (bn l4), .int (bn l5), .int (bn (l6 + 1))], [], s2)))) ∧ (¬ r4 = 0 → (bRg (l3 + 1) ∧ (bRg (l6 + 1) ∧ A (87, [.ref 12, .int (bn l1), .int (bn l2), .int (bn (l3 + 1)), .int (bn l4), .int (bn l5), .int (bn (l6 + 1))], [], s2))))))))))) ∧ (¬ l6 < 48 → (bRg (l4 + 1) ∧ A (10, [.ref 12, .int (bn l1), .int (bn l2), .int (bn l3), .int (bn (l4 + 1)), .int (bn l5), .int (bn l6)], [], σ))))) : A (87, [.ref 12, .int (bn l1), .int (bn l2), .int (bn l3), .int (bn l4), .int (bn l5), .int (bn l6)], [], σ) := by
  refine bGo hA 5 7 (148, .iload 6, 2, 88, 0, [6], []) rfl rfl rfl ?_
  refine bGo hA 5 8 (150, .bipush (48), 2, 89, 0, [], [(48, 0)]) rfl rfl rfl ?_
  refine bEqI bl_48 ?_
  refine bGo hA 5 9 (152, .if_icmp .ge (41), 3, 90, 111, [], []) rfl rfl rfl ?_
  refine bB_lt (x := l6) (y := 48) h_l6 (by decide : bRg 48) (fun c1 => ?_) (fun c1 => ?_)
  · refine bGo hA 5 10 (155, .iload_n 3, 1, 91, 0, [3], []) rfl rfl rfl ?_
    refine bGo hA 5 11 (156, .aload_n 0, 1, 92, 0, [0], []) rfl rfl rfl ?_
    refine bGo hA 5 12 (157, .aload_n 0, 1, 93, 0, [0], []) rfl rfl rfl ?_
    refine bGo hA 5 13 (158, .getfield 68, 3, 94, 0, [12, 23, 3, 75, 1, 0], []) rfl rfl rfl ?_
    refine ⟨rfl, ?_⟩
    refine bGo hA 5 14 (161, .iload_n 2, 1, 95, 0, [2], []) rfl rfl rfl ?_
    refine bGo hA 5 15 (162, .iaload, 1, 96, 0, [], []) rfl rfl rfl ?_
    refine ⟨rfl, (bIxP (x := l2) (n := 16) h_l2 (h.1 c1).1), ?_⟩
    refine bEqL (x := l2) h_l2 ?_
    refine bGo hA 6 0 (163, .iload 5, 2, 97, 0, [5], []) rfl rfl rfl ?_
    refine bGo hA 6 1 (165, .aload_n 0, 1, 98, 0, [0], []) rfl rfl rfl ?_
    refine bGo hA 6 2 (166, .getfield 107, 3, 99, 0, [12, 36, 3, 88, 1, 0], []) rfl rfl rfl ?_
    refine ⟨rfl, ?_⟩
    refine bGo hA 6 3 (169, .iload 4, 2, 100, 0, [4], []) rfl rfl rfl ?_
    refine bGo hA 6 4 (171, .baload, 1, 101, 0, [], []) rfl rfl rfl ?_
    refine ⟨rfl, (bIxP (x := l4) (n := 96) h_l4 (h.1 c1).2.1), ?_⟩
    refine bEqL (x := l4) h_l4 ?_
    refine bGo hA 6 5 (172, .iload 6, 2, 102, 0, [6], []) rfl rfl rfl ?_
    refine bGo hA 6 6 (174, .invokevirtual 346, 3, 103, 0, [0, 12, 208, 4], []) rfl rfl rfl ?_
    refine ⟨rfl, ?_⟩
    refine hC _ _ _ _ _ (bRn_e (fun r4 s2 q5 k3 => ?_)) (h.1 c1).2.2
    show A (103, [.ref 12, .int (bn l1), .int (bn l2), .int (bn l3), .int (bn l4), .int (bn l5), .int (bn l6)], [.int (bn r4), .int (bn l3)], s2)
    refine bGo hA 6 7 (177, .ifCond .eq (7), 3, 104, 106, [], []) rfl rfl rfl ?_
    refine bB_eq0 (x := r4) q5 (fun c6 => ?_) (fun c6 => ?_)
    · refine bGo hA 6 10 (184, .iconst (0), 1, 107, 0, [], [(0, 0)]) rfl rfl rfl ?_
      refine bEqI bl_0 ?_
      refine bGo hA 6 11 (185, .iadd, 1, 108, 0, [], []) rfl rfl rfl ?_
      refine bEqI (bn_add l3 0) ?_
      refine bGo hA 6 12 (186, .istore_n 3, 1, 109, 0, [3], []) rfl rfl rfl ?_
      refine bGo hA 6 13 (187, .iinc 6 (1), 3, 110, 0, [6], [(1, 0)]) rfl rfl rfl ?_
      refine bEqC (fun v => A (110, [.ref 12, .int (bn l1), .int (bn l2), .int (bn (l3 + 0)), .int (bn l4), .int (bn l5), .int v], [], s2)) ((congrArg (fun w => bn l6 + w) bl_1).trans (bn_add l6 1)) ?_
      refine bGo hA 6 14 (190, .goto (-42), 3, 111, 87, [], []) rfl rfl rfl ?_
      exact (k3.1 c6).2.2
    · refine bGo hA 6 8 (180, .iconst (1), 1, 105, 0, [], [(1, 0)]) rfl rfl rfl ?_
      refine bEqI bl_1 ?_
      refine bGo hA 6 9 (181, .goto (4), 3, 106, 107, [], []) rfl rfl rfl ?_
      refine bGo hA 6 11 (185, .iadd, 1, 108, 0, [], []) rfl rfl rfl ?_
      refine bEqI (bn_add l3 1) ?_
      refine bGo hA 6 12 (186, .istore_n 3, 1, 109, 0, [3], []) rfl rfl rfl ?_
      refine bGo hA 6 13 (187, .iinc 6 (1), 3, 110, 0, [6], [(1, 0)]) rfl rfl rfl ?_
      refine bEqC (fun v => A (110, [.ref 12, .int (bn l1), .int (bn l2), .int (bn (l3 + 1)), .int (bn l4), .int (bn l5), .int v], [], s2)) ((congrArg (fun w => bn l6 + w) bl_1).trans (bn_add l6 1)) ?_
      refine bGo hA 6 14 (190, .goto (-42), 3, 111, 87, [], []) rfl rfl rfl ?_
      exact (k3.2 c6).2.2
  · refine bGo hA 6 15 (193, .goto (6), 3, 112, 113, [], []) rfl rfl rfl ?_
    refine bGo hA 7 1 (199, .iinc 4 (1), 3, 114, 0, [4], [(1, 0)]) rfl rfl rfl ?_
    refine bEqC (fun v => A (114, [.ref 12, .int (bn l1), .int (bn l2), .int (bn l3), .int v, .int (bn l5), .int (bn l6)], [], σ)) ((congrArg (fun w => bn l4 + w) bl_1).trans (bn_add l4 1)) ?_
    refine bGo hA 7 2 (202, .goto (-188), 3, 115, 10, [], []) rfl rfl rfl ?_
    exact (h.2 c1).2

theorem sq244_0 {lvl : Nat} {C : bCall} {Q : bPost} {A : bPt → Prop} (hC : bMono C) (hA : bClosed lvl bm244 C Q A) {x1 : Int} {x2 : Int} {σ : bSt}  (h_x1 : bRg x1) (h_x2 : bRg x2)
  (h : (C 225 [.ref 12, .int (bn x1)] σ (bRn (fun r3 s1 => ((r3 = 0 → (C 197 [.ref 12, .int (bn 1)] s1 (bRn (fun r8 s6 => ((r8 = 0 → (C 241 [.ref 12, .int (bn (bShl 1 x1))] s6 (bRv (fun s11 => (bRg (256 * x1) ∧ (C 238 [.ref 12] s11 (bRn (fun r15 s13 => (bRg ((256 * x1) + r15) ∧ A (28, [.ref 12, .int (bn x1), .int (bn x2), .int (bn ((256 * x1) + r15)), .int (bn 0)], [], s13)))))))))) ∧ (¬ r8 = 0 → Q (.inl (some (.int (bn 0)))) s6)))))) ∧ (¬ r3 = 0 → ((x2 < 0 → (C 197 [.ref 12, .int (bn 1)] s1 (bRn (fun r20 s18 => ((r20 = 0 → (C 241 [.ref 12, .int (bn (bShl 1 x1))] s18 (bRv (fun s23 => (bRg (256 * x1) ∧ (C 238 [.ref 12] s23 (bRn (fun r27 s25 => (bRg ((256 * x1) + r27) ∧ A (28, [.ref 12, .int (bn x1), .int (bn x2), .int (bn ((256 * x1) + r27)), .int (bn 0)], [], s25)))))))))) ∧ (¬ r20 = 0 → Q (.inl (some (.int (bn 0)))) s18)))))) ∧ (¬ x2 < 0 → (C 197 [.ref 12, .int (bn 0)] s1 (bRn (fun r31 s29 => ((r31 = 0 → (C 241 [.ref 12, .int (bn (bShl 1 x1))] s29 (bRv (fun s34 => (bRg (256 * x1) ∧ (C 238 [.ref 12] s34 (bRn (fun r38 s36 => (bRg ((256 * x1) + r38) ∧ A (28, [.ref 12, .int (bn x1), .int (bn x2), .int (bn ((256 * x1) + r38)), .int (bn 0)], [], s36)))))))))) ∧ (¬ r31 = 0 → Q (.inl (some (.int (bn 0)))) s29))))))))))))) : A (0, [.ref 12, .int (bn x1), .int (bn x2), .float 0, .float 0], [], σ) := by
  refine bGo hA 0 0 (0, .aload_n 0, 1, 1, 0, [0], []) rfl rfl rfl ?_
  refine bGo hA 0 1 (1, .aload_n 0, 1, 2, 0, [0], []) rfl rfl rfl ?_
  refine bGo hA 0 2 (2, .iload_n 1, 1, 3, 0, [1], []) rfl rfl rfl ?_
  refine bGo hA 0 3 (3, .invokevirtual 383, 3, 4, 0, [0, 12, 225, 1], []) rfl rfl rfl ?_
  refine ⟨rfl, ?_⟩
  refine hC _ _ _ _ _ (bRn_e (fun r3 s1 q4 k2 => ?_)) h
  show A (4, [.ref 12, .int (bn x1), .int (bn x2), .float 0, .float 0], [.int (bn r3), .ref 12], s1)
  refine bGo hA 0 4 (6, .ifCond .eq (11), 3, 5, 9, [], []) rfl rfl rfl ?_
  refine bB_eq0 (x := r3) q4 (fun c5 => ?_) (fun c5 => ?_)
  · refine bGo hA 0 9 (17, .iconst (1), 1, 10, 0, [], [(1, 0)]) rfl rfl rfl ?_
    refine bEqI bl_1 ?_
    refine bGo hA 0 10 (18, .invokevirtual 333, 3, 11, 0, [0, 12, 197, 1], []) rfl rfl rfl ?_
    refine ⟨rfl, ?_⟩
    refine hC _ _ _ _ _ (bRn_e (fun r8 s6 q9 k7 => ?_)) (k2.1 c5)
    show A (11, [.ref 12, .int (bn x1), .int (bn x2), .float 0, .float 0], [.int (bn r8)], s6)
    refine bGo hA 0 11 (21, .ifCond .eq (5), 3, 12, 14, [], []) rfl rfl rfl ?_
    refine bB_eq0 (x := r8) q9 (fun c10 => ?_) (fun c10 => ?_)
    · refine bGo hA 0 14 (26, .aload_n 0, 1, 15, 0, [0], []) rfl rfl rfl ?_
      refine bGo hA 0 15 (27, .iconst (1), 1, 16, 0, [], [(1, 0)]) rfl rfl rfl ?_
      refine bEqI bl_1 ?_
      refine bGo hA 1 0 (28, .iload_n 1, 1, 17, 0, [1], []) rfl rfl rfl ?_
      refine bGo hA 1 1 (29, .ishl, 1, 18, 0, [], []) rfl rfl rfl ?_
      refine bEqI (bn_shl 1 x1) ?_
      refine bGo hA 1 2 (30, .invokevirtual 407, 3, 19, 0, [0, 12, 241, 1], []) rfl rfl rfl ?_
      refine ⟨rfl, ?_⟩
      refine hC _ _ _ _ _ (bRv_e (fun s11 k12 => ?_)) (k7.1 c10)
      show A (19, [.ref 12, .int (bn x1), .int (bn x2), .float 0, .float 0], [], s11)
      refine bGo hA 1 3 (33, .sipush (256), 3, 20, 0, [], [(256, 0)]) rfl rfl rfl ?_
      refine bEqI bl_256 ?_
      refine bGo hA 1 4 (36, .iload_n 1, 1, 21, 0, [1], []) rfl rfl rfl ?_
      refine bGo hA 1 5 (37, .imul, 1, 22, 0, [], []) rfl rfl rfl ?_
      refine bEqI (bn_mul 256 x1) ?_
      refine bGo hA 1 6 (38, .aload_n 0, 1, 23, 0, [0], []) rfl rfl rfl ?_
      refine bGo hA 1 7 (39, .invokevirtual 394, 3, 24, 0, [0, 12, 238, 0], []) rfl rfl rfl ?_
      refine ⟨rfl, ?_⟩
      refine hC _ _ _ _ _ (bRn_e (fun r15 s13 q16 k14 => ?_)) k12.2
      show A (24, [.ref 12, .int (bn x1), .int (bn x2), .float 0, .float 0], [.int (bn r15), .int (bn (256 * x1))], s13)
      refine bGo hA 1 8 (42, .iadd, 1, 25, 0, [], []) rfl rfl rfl ?_
      refine bEqI (bn_add (256 * x1) r15) ?_
      refine bGo hA 1 9 (43, .istore_n 3, 1, 26, 0, [3], []) rfl rfl rfl ?_
      refine bGo hA 1 10 (44, .iconst (0), 1, 27, 0, [], [(0, 0)]) rfl rfl rfl ?_
      refine bEqI bl_0 ?_
      refine bGo hA 1 11 (45, .istore 4, 2, 28, 0, [4], []) rfl rfl rfl ?_
      exact k14.2
    · refine bGo hA 0 12 (24, .iconst (0), 1, 13, 0, [], [(0, 0)]) rfl rfl rfl ?_
      refine bEqI bl_0 ?_
      refine bGo hA 0 13 (25, .ireturn, 1, 14, 0, [1], []) rfl rfl rfl ?_
      exact (k7.2 c10)
  · refine bGo hA 0 5 (9, .iload_n 2, 1, 6, 0, [2], []) rfl rfl rfl ?_
    refine bGo hA 0 6 (10, .ifCond .lt (7), 3, 7, 9, [], []) rfl rfl rfl ?_
    refine bB_lt0 (x := x2) h_x2 (fun c17 => ?_) (fun c17 => ?_)
    · refine bGo hA 0 9 (17, .iconst (1), 1, 10, 0, [], [(1, 0)]) rfl rfl rfl ?_
      refine bEqI bl_1 ?_
      refine bGo hA 0 10 (18, .invokevirtual 333, 3, 11, 0, [0, 12, 197, 1], []) rfl rfl rfl ?_
      refine ⟨rfl, ?_⟩
      refine hC _ _ _ _ _ (bRn_e (fun r20 s18 q21 k19 => ?_)) ((k2.2 c5).1 c17)
      show A (11, [.ref 12, .int (bn x1), .int (bn x2), .float 0, .float 0], [.int (bn r20)], s18)
      refine bGo hA 0 11 (21, .ifCond .eq (5), 3, 12, 14, [], []) rfl rfl rfl ?_
      refine bB_eq0 (x := r20) q21 (fun c22 => ?_) (fun c22 => ?_)
      · refine bGo hA 0 14 (26, .aload_n 0, 1, 15, 0, [0], []) rfl rfl rfl ?_
        refine bGo hA 0 15 (27, .iconst (1), 1, 16, 0, [], [(1, 0)]) rfl rfl rfl ?_
        refine bEqI bl_1 ?_
        refine bGo hA 1 0 (28, .iload_n 1, 1, 17, 0, [1], []) rfl rfl rfl ?_
        refine bGo hA 1 1 (29, .ishl, 1, 18, 0, [], []) rfl rfl rfl ?_
        refine bEqI (bn_shl 1 x1) ?_
        refine bGo hA 1 2 (30, .invokevirtual 407, 3, 19, 0, [0, 12, 241, 1], []) rfl rfl rfl ?_
        refine ⟨rfl, ?_⟩
        refine hC _ _ _ _ _ (bRv_e (fun s23 k24 => ?_)) (k19.1 c22)
        show A (19, [.ref 12, .int (bn x1), .int (bn x2), .float 0, .float 0], [], s23)
        refine bGo hA 1 3 (33, .sipush (256), 3, 20, 0, [], [(256, 0)]) rfl rfl rfl ?_
        refine bEqI bl_256 ?_
        refine bGo hA 1 4 (36, .iload_n 1, 1, 21, 0, [1], []) rfl rfl rfl ?_
        refine bGo hA 1 5 (37, .imul, 1, 22, 0, [], []) rfl rfl rfl ?_
        refine bEqI (bn_mul 256 x1) ?_
        refine bGo hA 1 6 (38, .aload_n 0, 1, 23, 0, [0], []) rfl rfl rfl ?_
        refine bGo hA 1 7 (39, .invokevirtual 394, 3, 24, 0, [0, 12, 238, 0], []) rfl rfl rfl ?_
        refine ⟨rfl, ?_⟩
        refine hC _ _ _ _ _ (bRn_e (fun r27 s25 q28 k26 => ?_)) k24.2
        show A (24, [.ref 12, .int (bn x1), .int (bn x2), .float 0, .float 0], [.int (bn r27), .int (bn (256 * x1))], s25)
        refine bGo hA 1 8 (42, .iadd, 1, 25, 0, [], []) rfl rfl rfl ?_
        refine bEqI (bn_add (256 * x1) r27) ?_
        refine bGo hA 1 9 (43, .istore_n 3, 1, 26, 0, [3], []) rfl rfl rfl ?_
        refine bGo hA 1 10 (44, .iconst (0), 1, 27, 0, [], [(0, 0)]) rfl rfl rfl ?_
        refine bEqI bl_0 ?_
        refine bGo hA 1 11 (45, .istore 4, 2, 28, 0, [4], []) rfl rfl rfl ?_
        exact k26.2
      · refine bGo hA 0 12 (24, .iconst (0), 1, 13, 0, [], [(0, 0)]) rfl rfl rfl ?_
        refine bEqI bl_0 ?_
        refine bGo hA 0 13 (25, .ireturn, 1, 14, 0, [1], []) rfl rfl rfl ?_
        exact (k19.2 c22)
    · refine bGo hA 0 7 (13, .iconst (0), 1, 8, 0, [], [(0, 0)]) rfl rfl rfl ?_
      refine bEqI bl_0 ?_
      refine bGo hA 0 8 (14, .goto (4), 3, 9, 10, [], []) rfl rfl rfl ?_
      refine bGo hA 0 10 (18, .invokevirtual 333, 3, 11, 0, [0, 12, 197, 1], []) rfl rfl rfl ?_
      refine ⟨rfl, ?_⟩
      refine hC _ _ _ _ _ (bRn_e (fun r31 s29 q32 k30 => ?_)) ((k2.2 c5).2 c17)
      show A (11, [.ref 12, .int (bn x1), .int (bn x2), .float 0, .float 0], [.int (bn r31)], s29)
      refine bGo hA 0 11 (21, .ifCond .eq (5), 3, 12, 14, [], []) rfl rfl rfl ?_
      refine bB_eq0 (x := r31) q32 (fun c33 => ?_) (fun c33 => ?_)
      · refine bGo hA 0 14 (26, .aload_n 0, 1, 15, 0, [0], []) rfl rfl rfl ?_
        refine bGo hA 0 15 (27, .iconst (1), 1, 16, 0, [], [(1, 0)]) rfl rfl rfl ?_
        refine bEqI bl_1 ?_
        refine bGo hA 1 0 (28, .iload_n 1, 1, 17, 0, [1], []) rfl rfl rfl ?_
        refine bGo hA 1 1 (29, .ishl, 1, 18, 0, [], []) rfl rfl rfl ?_
        refine bEqI (bn_shl 1 x1) ?_
        refine bGo hA 1 2 (30, .invokevirtual 407, 3, 19, 0, [0, 12, 241, 1], []) rfl rfl rfl ?_
        refine ⟨rfl, ?_⟩
        refine hC _ _ _ _ _ (bRv_e (fun s34 k35 => ?_)) (k30.1 c33)
        show A (19, [.ref 12, .int (bn x1), .int (bn x2), .float 0, .float 0], [], s34)
        refine bGo hA 1 3 (33, .sipush (256), 3, 20, 0, [], [(256, 0)]) rfl rfl rfl ?_
        refine bEqI bl_256 ?_
        refine bGo hA 1 4 (36, .iload_n 1, 1, 21, 0, [1], []) rfl rfl rfl ?_
        refine bGo hA 1 5 (37, .imul, 1, 22, 0, [], []) rfl rfl rfl ?_
        refine bEqI (bn_mul 256 x1) ?_
        refine bGo hA 1 6 (38, .aload_n 0, 1, 23, 0, [0], []) rfl rfl rfl ?_
        refine bGo hA 1 7 (39, .invokevirtual 394, 3, 24, 0, [0, 12, 238, 0], []) rfl rfl rfl ?_
        refine ⟨rfl, ?_⟩
        refine hC _ _ _ _ _ (bRn_e (fun r38 s36 q39 k37 => ?_)) k35.2
        show A (24, [.ref 12, .int (bn x1), .int (bn x2), .float 0, .float 0], [.int (bn r38), .int (bn (256 * x1))], s36)
        refine bGo hA 1 8 (42, .iadd, 1, 25, 0, [], []) rfl rfl rfl ?_
        refine bEqI (bn_add (256 * x1) r38) ?_
        refine bGo hA 1 9 (43, .istore_n 3, 1, 26, 0, [3], []) rfl rfl rfl ?_
        refine bGo hA 1 10 (44, .iconst (0), 1, 27, 0, [], [(0, 0)]) rfl rfl rfl ?_
        refine bEqI bl_0 ?_
        refine bGo hA 1 11 (45, .istore 4, 2, 28, 0, [4], []) rfl rfl rfl ?_
        exact k37.2
      · refine bGo hA 0 12 (24, .iconst (0), 1, 13, 0, [], [(0, 0)]) rfl rfl rfl ?_
        refine bEqI bl_0 ?_
        refine bGo hA 0 13 (25, .ireturn, 1, 14, 0, [1], []) rfl rfl rfl ?_
        exact (k30.2 c33)

theorem sq244_28 {lvl : Nat} {C : bCall} {Q : bPost} {A : bPt → Prop} (hC : bMono C) (hA : bClosed lvl bm244 C Q A) {v1 : Value} {l2 : Int} {l3 : Int} {l4 : Int} {σ : bSt}  (h_l2 : bRg l2) (h_l3 : bRg l3) (h_l4 : bRg l4)
  (h : ((l4 < l2 → ((l3 = (-1) → ((l3 = (-1) → Q (.inl (some (.int (bn (-1))))) σ) ∧ (¬ l3 = (-1) → ((0 ≤ l3 ∧ l3 < 4096) ∧ (((bi σ 95 l3) = 0 → Q (.inl (some (.int (bn (-1))))) σ) ∧ (¬ (bi σ 95 l3) = 0 → (0 ≤ l3 ∧ (bRg (10 * (l3 / 256)) ∧ (bRg ((10 * (l3 / 256)) + (bi σ 95 l3)) ∧ Q (.inl (some (.int (bn ((10 * (l3 / 256)) + (bi σ 95 l3)))))) σ))))))))) ∧ (¬ l3 = (-1) → (((16 : Int) < l4 → ((l3 = (-1) → Q (.inl (some (.int (bn (-1))))) σ) ∧ (¬ l3 = (-1) → ((0 ≤ l3 ∧ l3 < 4096) ∧ (((bi σ 95 l3) = 0 → Q (.inl (some (.int (bn (-1))))) σ) ∧ (¬ (bi σ 95 l3) = 0 → (0 ≤ l3 ∧ (bRg (10 * (l3 / 256)) ∧ (bRg ((10 * (l3 / 256)) + (bi σ 95 l3)) ∧ Q (.inl (some (.int (bn ((10 * (l3 / 256)) + (bi σ 95 l3)))))) σ))))))))) ∧ (¬ (16 : Int) < l4 → ((0 ≤ l3 ∧ l3 < 4096) ∧ (((bi σ 95 l3) = 6 → (bRg (l4 + 1) ∧ A (28, [.ref 12, v1, .int (bn l2), .int (bn (bi σ 96 l3)), .int (bn (l4 + 1))], [], σ))) ∧ (¬ (bi σ 95 l3) = 6 → (bRg (l4 + 1) ∧ A (28, [.ref 12, v1, .int (bn l2), .int (bn (-1)), .int (bn (l4 + 1))], [], σ)))))))))) ∧ (¬ l4 < l2 → ((l3 = (-1) → Q (.inl (some (.int (bn (-1))))) σ) ∧ (¬ l3 = (-1) → ((0 ≤ l3 ∧ l3 < 4096) ∧ (((bi σ 95 l3) = 0 → Q (.inl (some (.int (bn (-1))))) σ) ∧ (¬ (bi σ 95 l3) = 0 → (0 ≤ l3 ∧ (bRg (10 * (l3 / 256)) ∧ (bRg ((10 * (l3 / 256)) + (bi σ 95 l3)) ∧ Q (.inl (some (.int (bn ((10 * (l3 / 256)) + (bi σ 95 l3)))))) σ))))))))))) : A (28, [.ref 12, v1, .int (bn l2), .int (bn l3), .int (bn l4)], [], σ) := by
  refine bGo hA 1 12 (47, .iload 4, 2, 29, 0, [4], []) rfl rfl rfl ?_
  refine bGo hA 1 13 (49, .iload_n 2, 1, 30, 0, [2], []) rfl rfl rfl ?_
  refine bGo hA 1 14 (50, .if_icmp .ge (43), 3, 31, 52, [], []) rfl rfl rfl ?_
  refine bB_lt (x := l4) (y := l2) h_l4 h_l2 (fun c1 => ?_) (fun c1 => ?_)
  · refine bGo hA 1 15 (53, .iload_n 3, 1, 32, 0, [3], []) rfl rfl rfl ?_
    refine bGo hA 2 0 (54, .iconst (-1), 1, 33, 0, [], [(-1, 0)]) rfl rfl rfl ?_
    refine bEqI bl_m1 ?_
    refine bGo hA 2 1 (55, .if_icmp .eq (38), 3, 34, 52, [], []) rfl rfl rfl ?_
    refine bB_eq (x := l3) (y := (-1)) h_l3 (by decide : bRg (-1)) (fun c2 => ?_) (fun c2 => ?_)
    · refine bGo hA 3 4 (93, .iload_n 3, 1, 53, 0, [3], []) rfl rfl rfl ?_
      refine bGo hA 3 5 (94, .iconst (-1), 1, 54, 0, [], [(-1, 0)]) rfl rfl rfl ?_
      refine bEqI bl_m1 ?_
      refine bGo hA 3 6 (95, .if_icmp .eq (12), 3, 55, 60, [], []) rfl rfl rfl ?_
      refine bB_eq (x := l3) (y := (-1)) h_l3 (by decide : bRg (-1)) (fun c3 => ?_) (fun c3 => ?_)
      · refine bGo hA 3 12 (107, .iconst (-1), 1, 61, 0, [], [(-1, 0)]) rfl rfl rfl ?_
        refine bEqI bl_m1 ?_
        refine bGo hA 3 13 (108, .goto (18), 3, 62, 72, [], []) rfl rfl rfl ?_
        refine bGo hA 4 8 (126, .ireturn, 1, 0, 0, [1], []) rfl rfl rfl ?_
        exact (((h.1 c1).1 c2).1 c3)
      · refine bGo hA 3 7 (98, .aload_n 0, 1, 56, 0, [0], []) rfl rfl rfl ?_
        refine bGo hA 3 8 (99, .getfield 128, 3, 57, 0, [12, 43, 3, 95, 1, 0], []) rfl rfl rfl ?_
        refine ⟨rfl, ?_⟩
        refine bGo hA 3 9 (102, .iload_n 3, 1, 58, 0, [3], []) rfl rfl rfl ?_
        refine bGo hA 3 10 (103, .iaload, 1, 59, 0, [], []) rfl rfl rfl ?_
        refine ⟨rfl, (bIxP (x := l3) (n := 4096) h_l3 (((h.1 c1).1 c2).2 c3).1), ?_⟩
        refine bEqL (x := l3) h_l3 ?_
        refine bGo hA 3 11 (104, .ifCond .ne (7), 3, 60, 62, [], []) rfl rfl rfl ?_
        refine bB_eq0 (x := (bi σ 95 l3)) (bi_rg _ _ _) (fun c4 => ?_) (fun c4 => ?_)
        · refine bGo hA 3 12 (107, .iconst (-1), 1, 61, 0, [], [(-1, 0)]) rfl rfl rfl ?_
          refine bEqI bl_m1 ?_
          refine bGo hA 3 13 (108, .goto (18), 3, 62, 72, [], []) rfl rfl rfl ?_
          refine bGo hA 4 8 (126, .ireturn, 1, 0, 0, [1], []) rfl rfl rfl ?_
          exact ((((h.1 c1).1 c2).2 c3).2.1 c4)
        · refine bGo hA 3 14 (111, .bipush (10), 2, 63, 0, [], [(10, 0)]) rfl rfl rfl ?_
          refine bEqI bl_10 ?_
          refine bGo hA 3 15 (113, .iload_n 3, 1, 64, 0, [3], []) rfl rfl rfl ?_
          refine bGo hA 4 0 (114, .sipush (256), 3, 65, 0, [], [(256, 0)]) rfl rfl rfl ?_
          refine bEqI bl_256 ?_
          refine bGo hA 4 1 (117, .idiv, 1, 66, 0, [], []) rfl rfl rfl ?_
          refine ⟨by decide, ?_⟩
          refine bEqI (bn_div h_l3 (by decide) ((((h.1 c1).1 c2).2 c3).2.2 c4).1) ?_
          refine bGo hA 4 2 (118, .imul, 1, 67, 0, [], []) rfl rfl rfl ?_
          refine bEqI (bn_mul 10 (l3 / 256)) ?_
          refine bGo hA 4 3 (119, .aload_n 0, 1, 68, 0, [0], []) rfl rfl rfl ?_
          refine bGo hA 4 4 (120, .getfield 128, 3, 69, 0, [12, 43, 3, 95, 1, 0], []) rfl rfl rfl ?_
          refine ⟨rfl, ?_⟩
          refine bGo hA 4 5 (123, .iload_n 3, 1, 70, 0, [3], []) rfl rfl rfl ?_
          refine bGo hA 4 6 (124, .iaload, 1, 71, 0, [], []) rfl rfl rfl ?_
          refine ⟨rfl, (bIxP (x := l3) (n := 4096) h_l3 (((h.1 c1).1 c2).2 c3).1), ?_⟩
          refine bEqL (x := l3) h_l3 ?_
          refine bGo hA 4 7 (125, .iadd, 1, 72, 0, [], []) rfl rfl rfl ?_
          refine bEqI (bn_add (10 * (l3 / 256)) (bi σ 95 l3)) ?_
          refine bGo hA 4 8 (126, .ireturn, 1, 0, 0, [1], []) rfl rfl rfl ?_
          exact ((((h.1 c1).1 c2).2 c3).2.2 c4).2.2.2
    · refine bGo hA 2 2 (58, .iload 4, 2, 35, 0, [4], []) rfl rfl rfl ?_
      refine bGo hA 2 3 (60, .bipush (16), 2, 36, 0, [], [(16, 0)]) rfl rfl rfl ?_
      refine bEqI bl_16 ?_
      refine bGo hA 2 4 (62, .if_icmp .gt (31), 3, 37, 52, [], []) rfl rfl rfl ?_
      refine bB_lt (x := 16) (y := l4) (by decide : bRg 16) h_l4 (fun c5 => ?_) (fun c5 => ?_)
      · refine bGo hA 3 4 (93, .iload_n 3, 1, 53, 0, [3], []) rfl rfl rfl ?_
        refine bGo hA 3 5 (94, .iconst (-1), 1, 54, 0, [], [(-1, 0)]) rfl rfl rfl ?_
        refine bEqI bl_m1 ?_
        refine bGo hA 3 6 (95, .if_icmp .eq (12), 3, 55, 60, [], []) rfl rfl rfl ?_
        refine bB_eq (x := l3) (y := (-1)) h_l3 (by decide : bRg (-1)) (fun c6 => ?_) (fun c6 => ?_)
        · refine bGo hA 3 12 (107, .iconst (-1), 1, 61, 0, [], [(-1, 0)]) rfl rfl rfl ?_
          refine bEqI bl_m1 ?_
          refine bGo hA 3 13 (108, .goto (18), 3, 62, 72, [], []) rfl rfl rfl ?_
          refine bGo hA 4 8 (126, .ireturn, 1, 0, 0, [1], []) rfl rfl rfl ?_
          exact ((((h.1 c1).2 c2).1 c5).1 c6)
        · refine bGo hA 3 7 (98, .aload_n 0, 1, 56, 0, [0], []) rfl rfl rfl ?_
          refine bGo hA 3 8 (99, .getfield 128, 3, 57, 0, [12, 43, 3, 95, 1, 0], []) rfl rfl rfl ?_
          refine ⟨rfl, ?_⟩
          refine bGo hA 3 9 (102, .iload_n 3, 1, 58, 0, [3], []) rfl rfl rfl ?_
          refine bGo hA 3 10 (103, .iaload, 1, 59, 0, [], []) rfl rfl rfl ?_
          refine ⟨rfl, (bIxP (x := l3) (n := 4096) h_l3 ((((h.1 c1).2 c2).1 c5).2 c6).1), ?_⟩
          refine bEqL (x := l3) h_l3 ?_
          refine bGo hA 3 11 (104, .ifCond .ne (7), 3, 60, 62, [], []) rfl rfl rfl ?_
          refine bB_eq0 (x := (bi σ 95 l3)) (bi_rg _ _ _) (fun c7 => ?_) (fun c7 => ?_)
          · refine bGo hA 3 12 (107, .iconst (-1), 1, 61, 0, [], [(-1, 0)]) rfl rfl rfl ?_
            refine bEqI bl_m1 ?_
            refine bGo hA 3 13 (108, .goto (18), 3, 62, 72, [], []) rfl rfl rfl ?_
            refine bGo hA 4 8 (126, .ireturn, 1, 0, 0, [1], []) rfl rfl rfl ?_
            exact (((((h.1 c1).2 c2).1 c5).2 c6).2.1 c7)
          · refine bGo hA 3 14 (111, .bipush (10), 2, 63, 0, [], [(10, 0)]) rfl rfl rfl ?_
            refine bEqI bl_10 ?_
            refine bGo hA 3 15 (113, .iload_n 3, 1, 64, 0, [3], []) rfl rfl rfl ?_
            refine bGo hA 4 0 (114, .sipush (256), 3, 65, 0, [], [(256, 0)]) rfl rfl rfl ?_
            refine bEqI bl_256 ?_
            refine bGo hA 4 1 (117, .idiv, 1, 66, 0, [], []) rfl rfl rfl ?_
            refine ⟨by decide, ?_⟩
            refine bEqI (bn_div h_l3 (by decide) (((((h.1 c1).2 c2).1 c5).2 c6).2.2 c7).1) ?_
            refine bGo hA 4 2 (118, .imul, 1, 67, 0, [], []) rfl rfl rfl ?_
            refine bEqI (bn_mul 10 (l3 / 256)) ?_
            refine bGo hA 4 3 (119, .aload_n 0, 1, 68, 0, [0], []) rfl rfl rfl ?_
            refine bGo hA 4 4 (120, .getfield 128, 3, 69, 0, [12, 43, 3, 95, 1, 0], []) rfl rfl rfl ?_
            refine ⟨rfl, ?_⟩
            refine bGo hA 4 5 (123, .iload_n 3, 1, 70, 0, [3], []) rfl rfl rfl ?_
            refine bGo hA 4 6 (124, .iaload, 1, 71, 0, [], []) rfl rfl rfl ?_
            refine ⟨rfl, (bIxP (x := l3) (n := 4096) h_l3 ((((h.1 c1).2 c2).1 c5).2 c6).1), ?_⟩
            refine bEqL (x := l3) h_l3 ?_
            refine bGo hA 4 7 (125, .iadd, 1, 72, 0, [], []) rfl rfl rfl ?_
            refine bEqI (bn_add (10 * (l3 / 256)) (bi σ 95 l3)) ?_
            refine bGo hA 4 8 (126, .ireturn, 1, 0, 0, [1], []) rfl rfl rfl ?_
            exact (((((h.1 c1).2 c2).1 c5).2 c6).2.2 c7).2.2.2
      · refine bGo hA 2 5 (65, .aload_n 0, 1, 38, 0, [0], []) rfl rfl rfl ?_
        refine bGo hA 2 6 (66, .getfield 128, 3, 39, 0, [12, 43, 3, 95, 1, 0], []) rfl rfl rfl ?_
        refine ⟨rfl, ?_⟩
        refine bGo hA 2 7 (69, .iload_n 3, 1, 40, 0, [3], []) rfl rfl rfl ?_
        refine bGo hA 2 8 (70, .iaload, 1, 41, 0, [], []) rfl rfl rfl ?_
        refine ⟨rfl, (bIxP (x := l3) (n := 4096) h_l3 (((h.1 c1).2 c2).2 c5).1), ?_⟩
        refine bEqL (x := l3) h_l3 ?_
        refine bGo hA 2 9 (71, .bipush (6), 2, 42, 0, [], [(6, 0)]) rfl rfl rfl ?_
        refine bEqI bl_6 ?_
        refine bGo hA 2 10 (73, .if_icmp .ne (12), 3, 43, 48, [], []) rfl rfl rfl ?_
        refine bB_eq (x := (bi σ 95 l3)) (y := 6) (bi_rg _ _ _) (by decide : bRg 6) (fun c8 => ?_) (fun c8 => ?_)
        · refine bGo hA 2 11 (76, .aload_n 0, 1, 44, 0, [0], []) rfl rfl rfl ?_
          refine bGo hA 2 12 (77, .getfield 131, 3, 45, 0, [12, 44, 3, 96, 1, 0], []) rfl rfl rfl ?_
          refine ⟨rfl, ?_⟩
          refine bGo hA 2 13 (80, .iload_n 3, 1, 46, 0, [3], []) rfl rfl rfl ?_
          refine bGo hA 2 14 (81, .iaload, 1, 47, 0, [], []) rfl rfl rfl ?_
          refine ⟨rfl, (bIxP (x := l3) (n := 4096) h_l3 (((h.1 c1).2 c2).2 c5).1), ?_⟩
          refine bEqL (x := l3) h_l3 ?_
          refine bGo hA 2 15 (82, .goto (4), 3, 48, 49, [], []) rfl rfl rfl ?_
          refine bGo hA 3 1 (86, .istore_n 3, 1, 50, 0, [3], []) rfl rfl rfl ?_
          refine bGo hA 3 2 (87, .iinc 4 (1), 3, 51, 0, [4], [(1, 0)]) rfl rfl rfl ?_
          refine bEqC (fun v => A (51, [.ref 12, v1, .int (bn l2), .int (bn (bi σ 96 l3)), .int v], [], σ)) ((congrArg (fun w => bn l4 + w) bl_1).trans (bn_add l4 1)) ?_
          refine bGo hA 3 3 (90, .goto (-43), 3, 52, 28, [], []) rfl rfl rfl ?_
          exact ((((h.1 c1).2 c2).2 c5).2.1 c8).2
        · refine bGo hA 3 0 (85, .iconst (-1), 1, 49, 0, [], [(-1, 0)]) rfl rfl rfl ?_
          refine bEqI bl_m1 ?_
          refine bGo hA 3 1 (86, .istore_n 3, 1, 50, 0, [3], []) rfl rfl rfl ?_
          refine bGo hA 3 2 (87, .iinc 4 (1), 3, 51, 0, [4], [(1, 0)]) rfl rfl rfl ?_
          refine bEqC (fun v => A (51, [.ref 12, v1, .int (bn l2), .int (bn (-1)), .int v], [], σ)) ((congrArg (fun w => bn l4 + w) bl_1).trans (bn_add l4 1)) ?_
          refine bGo hA 3 3 (90, .goto (-43), 3, 52, 28, [], []) rfl rfl rfl ?_
          exact ((((h.1 c1).2 c2).2 c5).2.2 c8).2
  · refine bGo hA 3 4 (93, .iload_n 3, 1, 53, 0, [3], []) rfl rfl rfl ?_
    refine bGo hA 3 5 (94, .iconst (-1), 1, 54, 0, [], [(-1, 0)]) rfl rfl rfl ?_
    refine bEqI bl_m1 ?_
    refine bGo hA 3 6 (95, .if_icmp .eq (12), 3, 55, 60, [], []) rfl rfl rfl ?_
    refine bB_eq (x := l3) (y := (-1)) h_l3 (by decide : bRg (-1)) (fun c9 => ?_) (fun c9 => ?_)
    · refine bGo hA 3 12 (107, .iconst (-1), 1, 61, 0, [], [(-1, 0)]) rfl rfl rfl ?_
      refine bEqI bl_m1 ?_
      refine bGo hA 3 13 (108, .goto (18), 3, 62, 72, [], []) rfl rfl rfl ?_
      refine bGo hA 4 8 (126, .ireturn, 1, 0, 0, [1], []) rfl rfl rfl ?_
      exact ((h.2 c1).1 c9)
    · refine bGo hA 3 7 (98, .aload_n 0, 1, 56, 0, [0], []) rfl rfl rfl ?_
      refine bGo hA 3 8 (99, .getfield 128, 3, 57, 0, [12, 43, 3, 95, 1, 0], []) rfl rfl rfl ?_
      refine ⟨rfl, ?_⟩
      refine bGo hA 3 9 (102, .iload_n 3, 1, 58, 0, [3], []) rfl rfl rfl ?_
      refine bGo hA 3 10 (103, .iaload, 1, 59, 0, [], []) rfl rfl rfl ?_
      refine ⟨rfl, (bIxP (x := l3) (n := 4096) h_l3 ((h.2 c1).2 c9).1), ?_⟩
      refine bEqL (x := l3) h_l3 ?_
      refine bGo hA 3 11 (104, .ifCond .ne (7), 3, 60, 62, [], []) rfl rfl rfl ?_
      refine bB_eq0 (x := (bi σ 95 l3)) (bi_rg _ _ _) (fun c10 => ?_) (fun c10 => ?_)
      · refine bGo hA 3 12 (107, .iconst (-1), 1, 61, 0, [], [(-1, 0)]) rfl rfl rfl ?_
        refine bEqI bl_m1 ?_
        refine bGo hA 3 13 (108, .goto (18), 3, 62, 72, [], []) rfl rfl rfl ?_
        refine bGo hA 4 8 (126, .ireturn, 1, 0, 0, [1], []) rfl rfl rfl ?_
        exact (((h.2 c1).2 c9).2.1 c10)
      · refine bGo hA 3 14 (111, .bipush (10), 2, 63, 0, [], [(10, 0)]) rfl rfl rfl ?_
        refine bEqI bl_10 ?_
        refine bGo hA 3 15 (113, .iload_n 3, 1, 64, 0, [3], []) rfl rfl rfl ?_
        refine bGo hA 4 0 (114, .sipush (256), 3, 65, 0, [], [(256, 0)]) rfl rfl rfl ?_
        refine bEqI bl_256 ?_
        refine bGo hA 4 1 (117, .idiv, 1, 66, 0, [], []) rfl rfl rfl ?_
        refine ⟨by decide, ?_⟩
        refine bEqI (bn_div h_l3 (by decide) (((h.2 c1).2 c9).2.2 c10).1) ?_
        refine bGo hA 4 2 (118, .imul, 1, 67, 0, [], []) rfl rfl rfl ?_
        refine bEqI (bn_mul 10 (l3 / 256)) ?_
        refine bGo hA 4 3 (119, .aload_n 0, 1, 68, 0, [0], []) rfl rfl rfl ?_
        refine bGo hA 4 4 (120, .getfield 128, 3, 69, 0, [12, 43, 3, 95, 1, 0], []) rfl rfl rfl ?_
        refine ⟨rfl, ?_⟩
        refine bGo hA 4 5 (123, .iload_n 3, 1, 70, 0, [3], []) rfl rfl rfl ?_
        refine bGo hA 4 6 (124, .iaload, 1, 71, 0, [], []) rfl rfl rfl ?_
        refine ⟨rfl, (bIxP (x := l3) (n := 4096) h_l3 ((h.2 c1).2 c9).1), ?_⟩
        refine bEqL (x := l3) h_l3 ?_
        refine bGo hA 4 7 (125, .iadd, 1, 72, 0, [], []) rfl rfl rfl ?_
        refine bEqI (bn_add (10 * (l3 / 256)) (bi σ 95 l3)) ?_
        refine bGo hA 4 8 (126, .ireturn, 1, 0, 0, [1], []) rfl rfl rfl ?_
        exact (((h.2 c1).2 c9).2.2 c10).2.2.2

theorem sq245_0 {lvl : Nat} {C : bCall} {Q : bPost} {A : bPt → Prop} (hC : bMono C) (hA : bClosed lvl bm245 C Q A) {x1 : Int} {σ : bSt}  (h_x1 : bRg x1)
  (h : (0 ≤ x1 ∧ (bRg (6 * (x1 / 256)) ∧ A (12, [.ref 12, .int (bn x1), .int (bn (x1 / 256)), .int (bn 0), .int (bn 1), .int (bn (6 * (x1 / 256))), .float 0], [], σ)))) : A (0, [.ref 12, .int (bn x1), .float 0, .float 0, .float 0, .float 0, .float 0], [], σ) := by
  refine bGo hA 0 0 (0, .iload_n 1, 1, 1, 0, [1], []) rfl rfl rfl ?_
  refine bGo hA 0 1 (1, .sipush (256), 3, 2, 0, [], [(256, 0)]) rfl rfl rfl ?_
  refine bEqI bl_256 ?_
  refine bGo hA 0 2 (4, .idiv, 1, 3, 0, [], []) rfl rfl rfl ?_
  refine ⟨by decide, ?_⟩
  refine bEqI (bn_div h_x1 (by decide) h.1) ?_
  refine bGo hA 0 3 (5, .istore_n 2, 1, 4, 0, [2], []) rfl rfl rfl ?_
  refine bGo hA 0 4 (6, .iconst (0), 1, 5, 0, [], [(0, 0)]) rfl rfl rfl ?_
  refine bEqI bl_0 ?_
  refine bGo hA 0 5 (7, .istore_n 3, 1, 6, 0, [3], []) rfl rfl rfl ?_
  refine bGo hA 0 6 (8, .iconst (1), 1, 7, 0, [], [(1, 0)]) rfl rfl rfl ?_
  refine bEqI bl_1 ?_
  refine bGo hA 0 7 (9, .istore 4, 2, 8, 0, [4], []) rfl rfl rfl ?_
  refine bGo hA 0 8 (11, .bipush (6), 2, 9, 0, [], [(6, 0)]) rfl rfl rfl ?_
  refine bEqI bl_6 ?_
  refine bGo hA 0 9 (13, .iload_n 2, 1, 10, 0, [2], []) rfl rfl rfl ?_
  refine bGo hA 0 10 (14, .imul, 1, 11, 0, [], []) rfl rfl rfl ?_
  refine bEqI (bn_mul 6 (x1 / 256)) ?_
  refine bGo hA 0 11 (15, .istore 5, 2, 12, 0, [5], []) rfl rfl rfl ?_
  exact h.2.2

theorem sq245_12 {lvl : Nat} {C : bCall} {Q : bPost} {A : bPt → Prop} (hC : bMono C) (hA : bClosed lvl bm245 C Q A) {l1 : Int} {l2 : Int} {l3 : Int} {l4 : Int} {l5 : Int} {v6 : Value} {σ : bSt}  (h_l1 : bRg l1) (h_l2 : bRg l2) (h_l3 : bRg l3) (h_l4 : bRg l4) (h_l5 : bRg l5)
  (h : (bRg (6 * l2) ∧ ((0 ≤ l2 ∧ l2 < 16) ∧ (bRg ((6 * l2) + (bi σ 85 l2)) ∧ ((l5 < ((6 * l2) + (bi σ 85 l2)) → ((0 ≤ l5 ∧ l5 < 96) ∧ (((bi σ 86 l5) = 1 → A (30, [.ref 12, .int (bn l1), .int (bn l2), .int (bn l3), .int (bn l4), .int (bn l5), .int (bn 0)], [], σ)) ∧ (¬ (bi σ 86 l5) = 1 → (((bi σ 86 l5) = 2 → (C 240 [.ref 12, .int (bn l1), .int (bn l5)] σ (bRn (fun r6 s4 => ((0 ≤ r6 ∧ r6 < 4096) ∧ A (78, [.ref 12, .int (bn l1), .int (bn l2), .int (bn l3), .int (bn l4), .int (bn l5), v6], [.int (bn (bi s4 99 r6))], s4)))))) ∧ (¬ (bi σ 86 l5) = 2 → A (78, [.ref 12, .int (bn l1), .int (bn l2), .int (bn l3), .int (bn l4), .int (bn l5), v6], [.int (bn 0)], σ))))))) ∧ (¬ l5 < ((6 * l2) + (bi σ 85 l2)) → ((l4 = 0 → Q (.inl (some (.int (bn (-1))))) σ) ∧ (¬ l4 = 0 → Q (.inl (some (.int (bn l3)))) σ)))))))) : A (12, [.ref 12, .int (bn l1), .int (bn l2), .int (bn l3), .int (bn l4), .int (bn l5), v6], [], σ) := by
  refine bGo hA 0 12 (17, .iload 5, 2, 13, 0, [5], []) rfl rfl rfl ?_
  refine bGo hA 0 13 (19, .bipush (6), 2, 14, 0, [], [(6, 0)]) rfl rfl rfl ?_
  refine bEqI bl_6 ?_
  refine bGo hA 0 14 (21, .iload_n 2, 1, 15, 0, [2], []) rfl rfl rfl ?_
  refine bGo hA 0 15 (22, .imul, 1, 16, 0, [], []) rfl rfl rfl ?_
  refine bEqI (bn_mul 6 l2) ?_
  refine bGo hA 1 0 (23, .aload_n 0, 1, 17, 0, [0], []) rfl rfl rfl ?_
  refine bGo hA 1 1 (24, .getfield 98, 3, 18, 0, [12, 33, 3, 85, 1, 0], []) rfl rfl rfl ?_
  refine ⟨rfl, ?_⟩
  refine bGo hA 1 2 (27, .iload_n 2, 1, 19, 0, [2], []) rfl rfl rfl ?_
  refine bGo hA 1 3 (28, .iaload, 1, 20, 0, [], []) rfl rfl rfl ?_
  refine ⟨rfl, (bIxP (x := l2) (n := 16) h_l2 h.2.1), ?_⟩
  refine bEqL (x := l2) h_l2 ?_
  refine bGo hA 1 4 (29, .iadd, 1, 21, 0, [], []) rfl rfl rfl ?_
  refine bEqI (bn_add (6 * l2) (bi σ 85 l2)) ?_
  refine bGo hA 1 5 (30, .if_icmp .ge (165), 3, 22, 108, [], []) rfl rfl rfl ?_
  refine bB_lt (x := l5) (y := ((6 * l2) + (bi σ 85 l2))) h_l5 h.2.2.1 (fun c1 => ?_) (fun c1 => ?_)
  · refine bGo hA 1 6 (33, .aload_n 0, 1, 23, 0, [0], []) rfl rfl rfl ?_
    refine bGo hA 1 7 (34, .getfield 101, 3, 24, 0, [12, 34, 3, 86, 1, 0], []) rfl rfl rfl ?_
    refine ⟨rfl, ?_⟩
    refine bGo hA 1 8 (37, .iload 5, 2, 25, 0, [5], []) rfl rfl rfl ?_
    refine bGo hA 1 9 (39, .iaload, 1, 26, 0, [], []) rfl rfl rfl ?_
    refine ⟨rfl, (bIxP (x := l5) (n := 96) h_l5 (h.2.2.2.1 c1).1), ?_⟩
    refine bEqL (x := l5) h_l5 ?_
    refine bGo hA 1 10 (40, .iconst (1), 1, 27, 0, [], [(1, 0)]) rfl rfl rfl ?_
    refine bEqI bl_1 ?_
    refine bGo hA 1 11 (41, .if_icmp .ne (67), 3, 28, 63, [], []) rfl rfl rfl ?_
    refine bB_eq (x := (bi σ 86 l5)) (y := 1) (bi_rg _ _ _) (by decide : bRg 1) (fun c2 => ?_) (fun c2 => ?_)
    · refine bGo hA 1 12 (44, .iconst (0), 1, 29, 0, [], [(0, 0)]) rfl rfl rfl ?_
      refine bEqI bl_0 ?_
      refine bGo hA 1 13 (45, .istore 6, 2, 30, 0, [6], []) rfl rfl rfl ?_
      exact ((h.2.2.2.1 c1).2.1 c2)
    · refine bGo hA 3 15 (108, .aload_n 0, 1, 64, 0, [0], []) rfl rfl rfl ?_
      refine bGo hA 4 0 (109, .getfield 101, 3, 65, 0, [12, 34, 3, 86, 1, 0], []) rfl rfl rfl ?_
      refine ⟨rfl, ?_⟩
      refine bGo hA 4 1 (112, .iload 5, 2, 66, 0, [5], []) rfl rfl rfl ?_
      refine bGo hA 4 2 (114, .iaload, 1, 67, 0, [], []) rfl rfl rfl ?_
      refine ⟨rfl, (bIxP (x := l5) (n := 96) h_l5 (h.2.2.2.1 c1).1), ?_⟩
      refine bEqL (x := l5) h_l5 ?_
      refine bGo hA 4 3 (115, .iconst (2), 1, 68, 0, [], [(2, 0)]) rfl rfl rfl ?_
      refine bEqI bl_2 ?_
      refine bGo hA 4 4 (116, .if_icmp .ne (18), 3, 69, 77, [], []) rfl rfl rfl ?_
      refine bB_eq (x := (bi σ 86 l5)) (y := 2) (bi_rg _ _ _) (by decide : bRg 2) (fun c3 => ?_) (fun c3 => ?_)
      · refine bGo hA 4 5 (119, .aload_n 0, 1, 70, 0, [0], []) rfl rfl rfl ?_
        refine bGo hA 4 6 (120, .getfield 140, 3, 71, 0, [12, 47, 3, 99, 1, 0], []) rfl rfl rfl ?_
        refine ⟨rfl, ?_⟩
        refine bGo hA 4 7 (123, .aload_n 0, 1, 72, 0, [0], []) rfl rfl rfl ?_
        refine bGo hA 4 8 (124, .iload_n 1, 1, 73, 0, [1], []) rfl rfl rfl ?_
        refine bGo hA 4 9 (125, .iload 5, 2, 74, 0, [5], []) rfl rfl rfl ?_
        refine bGo hA 4 10 (127, .invokevirtual 398, 3, 75, 0, [0, 12, 240, 2], []) rfl rfl rfl ?_
        refine ⟨rfl, ?_⟩
        refine hC _ _ _ _ _ (bRn_e (fun r6 s4 q7 k5 => ?_)) (((h.2.2.2.1 c1).2.2 c2).1 c3)
        show A (75, [.ref 12, .int (bn l1), .int (bn l2), .int (bn l3), .int (bn l4), .int (bn l5), v6], [.int (bn r6), .ref 99], s4)
        refine bGo hA 4 11 (130, .iaload, 1, 76, 0, [], []) rfl rfl rfl ?_
        refine ⟨rfl, (bIxP (x := r6) (n := 4096) q7 k5.1), ?_⟩
        refine bEqL (x := r6) q7 ?_
        refine bGo hA 4 12 (131, .goto (4), 3, 77, 78, [], []) rfl rfl rfl ?_
        exact k5.2
      · refine bGo hA 4 13 (134, .iconst (0), 1, 78, 0, [], [(0, 0)]) rfl rfl rfl ?_
        refine bEqI bl_0 ?_
        exact (((h.2.2.2.1 c1).2.2 c2).2 c3)
  · refine bGo hA 6 12 (195, .iload 4, 2, 109, 0, [4], []) rfl rfl rfl ?_
    refine bGo hA 6 13 (197, .ifCond .eq (7), 3, 110, 112, [], []) rfl rfl rfl ?_
    refine bB_eq0 (x := l4) h_l4 (fun c8 => ?_) (fun c8 => ?_)
    · refine bGo hA 7 0 (204, .iconst (-1), 1, 113, 0, [], [(-1, 0)]) rfl rfl rfl ?_
      refine bEqI bl_m1 ?_
      refine bGo hA 7 1 (205, .ireturn, 1, 0, 0, [1], []) rfl rfl rfl ?_
      exact ((h.2.2.2.2 c1).1 c8)
    · refine bGo hA 6 14 (200, .iload_n 3, 1, 111, 0, [3], []) rfl rfl rfl ?_
      refine bGo hA 6 15 (201, .goto (4), 3, 112, 113, [], []) rfl rfl rfl ?_
      refine bGo hA 7 1 (205, .ireturn, 1, 0, 0, [1], []) rfl rfl rfl ?_
      exact ((h.2.2.2.2 c1).2 c8)

theorem sq245_30 {lvl : Nat} {C : bCall} {Q : bPost} {A : bPt → Prop} (hC : bMono C) (hA : bClosed lvl bm245 C Q A) {l1 : Int} {l2 : Int} {l3 : Int} {l4 : Int} {l5 : Int} {l6 : Int} {σ : bSt}  (h_l1 : bRg l1) (h_l2 : bRg l2) (h_l3 : bRg l3) (h_l4 : bRg l4) (h_l5 : bRg l5) (h_l6 : bRg l6)
  (h : ((l6 < 48 → ((0 ≤ l3 ∧ l3 < 64) ∧ ((0 ≤ l2 ∧ l2 < 16) ∧ ((0 ≤ l5 ∧ l5 < 96) ∧ (C 208 [.ref 12, .int (bn (bi σ 75 l2)), .int (bn (bi σ 87 l5)), .int (bn (bi σ 88 l5)), .int (bn l6)] (bw σ 116 l3 l6) (bRn (fun r4 s2 => ((r4 = 0 → (bRg (l3 + 0) ∧ (bRg (l6 + 1) ∧ A (30, [.ref 12, .int (bn l1), .int (bn l2), .int (bn (l3 + 0)), .int (bn l4), .int (bn l5), .int (bn (l6 + 1))], [], s2)))) ∧ (¬ r4 = 0 → (bRg (l3 + 1) ∧ (bRg (l6 + 1) ∧ A (30, [.ref 12, .int (bn l1), .int (bn l2), .int (bn (l3 + 1)), .int (bn l4), .int (bn l5), .int (bn (l6 + 1))], [], s2)))))))))))) ∧ (¬ l6 < 48 → (bRg (l5 + 1) ∧ A (12, [.ref 12, .int (bn l1), .int (bn l2), .int (bn l3), .int (bn l4), .int (bn (l5 + 1)), .int (bn l6)], [], σ))))) : A (30, [.ref 12, .int (bn l1), .int (bn l2), .int (bn l3), .int (bn l4), .int (bn l5), .int (bn l6)], [], σ) := by
  refine bGo hA 1 14 (47, .iload 6, 2, 31, 0, [6], []) rfl rfl rfl ?_
  refine bGo hA 1 15 (49, .bipush (48), 2, 32, 0, [], [(48, 0)]) rfl rfl rfl ?_
  refine bEqI bl_48 ?_
  refine bGo hA 2 0 (51, .if_icmp .ge (54), 3, 33, 62, [], []) rfl rfl rfl ?_
  refine bB_lt (x := l6) (y := 48) h_l6 (by decide : bRg 48) (fun c1 => ?_) (fun c1 => ?_)
  · refine bGo hA 2 1 (54, .aload_n 0, 1, 34, 0, [0], []) rfl rfl rfl ?_
    refine bGo hA 2 2 (55, .getfield 191, 3, 35, 0, [12, 65, 3, 116, 1, 0], []) rfl rfl rfl ?_
    refine ⟨rfl, ?_⟩
    refine bGo hA 2 3 (58, .iload_n 3, 1, 36, 0, [3], []) rfl rfl rfl ?_
    refine bGo hA 2 4 (59, .iload 6, 2, 37, 0, [6], []) rfl rfl rfl ?_
    refine bGo hA 2 5 (61, .iastore, 1, 38, 0, [], []) rfl rfl rfl ?_
    refine ⟨rfl, (bIxP (x := l3) (n := 64) h_l3 (h.1 c1).1), by decide, ?_⟩
    refine bEqS (x := l3) h_l3 ?_
    refine bGo hA 2 6 (62, .iload_n 3, 1, 39, 0, [3], []) rfl rfl rfl ?_
    refine bGo hA 2 7 (63, .aload_n 0, 1, 40, 0, [0], []) rfl rfl rfl ?_
    refine bGo hA 2 8 (64, .aload_n 0, 1, 41, 0, [0], []) rfl rfl rfl ?_
    refine bGo hA 2 9 (65, .getfield 68, 3, 42, 0, [12, 23, 3, 75, 1, 0], []) rfl rfl rfl ?_
    refine ⟨rfl, ?_⟩
    refine bGo hA 2 10 (68, .iload_n 2, 1, 43, 0, [2], []) rfl rfl rfl ?_
    refine bGo hA 2 11 (69, .iaload, 1, 44, 0, [], []) rfl rfl rfl ?_
    refine ⟨rfl, (bIxP (x := l2) (n := 16) h_l2 (h.1 c1).2.1), ?_⟩
    refine bEqL (x := l2) h_l2 ?_
    refine bEqI (congrArg bn (bi_ne (by decide))) ?_
    refine bGo hA 2 12 (70, .aload_n 0, 1, 45, 0, [0], []) rfl rfl rfl ?_
    refine bGo hA 2 13 (71, .getfield 104, 3, 46, 0, [12, 35, 3, 87, 1, 0], []) rfl rfl rfl ?_
    refine ⟨rfl, ?_⟩
    refine bGo hA 2 14 (74, .iload 5, 2, 47, 0, [5], []) rfl rfl rfl ?_
    refine bGo hA 2 15 (76, .iaload, 1, 48, 0, [], []) rfl rfl rfl ?_
    refine ⟨rfl, (bIxP (x := l5) (n := 96) h_l5 (h.1 c1).2.2.1), ?_⟩
    refine bEqL (x := l5) h_l5 ?_
    refine bEqI (congrArg bn (bi_ne (by decide))) ?_
    refine bGo hA 3 0 (77, .aload_n 0, 1, 49, 0, [0], []) rfl rfl rfl ?_
    refine bGo hA 3 1 (78, .getfield 107, 3, 50, 0, [12, 36, 3, 88, 1, 0], []) rfl rfl rfl ?_
    refine ⟨rfl, ?_⟩
    refine bGo hA 3 2 (81, .iload 5, 2, 51, 0, [5], []) rfl rfl rfl ?_
    refine bGo hA 3 3 (83, .baload, 1, 52, 0, [], []) rfl rfl rfl ?_
    refine ⟨rfl, (bIxP (x := l5) (n := 96) h_l5 (h.1 c1).2.2.1), ?_⟩
    refine bEqL (x := l5) h_l5 ?_
    refine bEqI (congrArg bn (bi_ne (by decide))) ?_
    refine bGo hA 3 4 (84, .iload 6, 2, 53, 0, [6], []) rfl rfl rfl ?_
    refine bGo hA 3 5 (86, .invokevirtual 346, 3, 54, 0, [0, 12, 208, 4], []) rfl rfl rfl ?_
    refine ⟨rfl, ?_⟩
    refine hC _ _ _ _ _ (bRn_e (fun r4 s2 q5 k3 => ?_)) (h.1 c1).2.2.2
    show A (54, [.ref 12, .int (bn l1), .int (bn l2), .int (bn l3), .int (bn l4), .int (bn l5), .int (bn l6)], [.int (bn r4), .int (bn l3)], s2)
    refine bGo hA 3 6 (89, .ifCond .eq (7), 3, 55, 57, [], []) rfl rfl rfl ?_
    refine bB_eq0 (x := r4) q5 (fun c6 => ?_) (fun c6 => ?_)
    · refine bGo hA 3 9 (96, .iconst (0), 1, 58, 0, [], [(0, 0)]) rfl rfl rfl ?_
      refine bEqI bl_0 ?_
      refine bGo hA 3 10 (97, .iadd, 1, 59, 0, [], []) rfl rfl rfl ?_
      refine bEqI (bn_add l3 0) ?_
      refine bGo hA 3 11 (98, .istore_n 3, 1, 60, 0, [3], []) rfl rfl rfl ?_
      refine bGo hA 3 12 (99, .iinc 6 (1), 3, 61, 0, [6], [(1, 0)]) rfl rfl rfl ?_
      refine bEqC (fun v => A (61, [.ref 12, .int (bn l1), .int (bn l2), .int (bn (l3 + 0)), .int (bn l4), .int (bn l5), .int v], [], s2)) ((congrArg (fun w => bn l6 + w) bl_1).trans (bn_add l6 1)) ?_
      refine bGo hA 3 13 (102, .goto (-55), 3, 62, 30, [], []) rfl rfl rfl ?_
      exact (k3.1 c6).2.2
    · refine bGo hA 3 7 (92, .iconst (1), 1, 56, 0, [], [(1, 0)]) rfl rfl rfl ?_
      refine bEqI bl_1 ?_
      refine bGo hA 3 8 (93, .goto (4), 3, 57, 58, [], []) rfl rfl rfl ?_
      refine bGo hA 3 10 (97, .iadd, 1, 59, 0, [], []) rfl rfl rfl ?_
      refine bEqI (bn_add l3 1) ?_
      refine bGo hA 3 11 (98, .istore_n 3, 1, 60, 0, [3], []) rfl rfl rfl ?_
      refine bGo hA 3 12 (99, .iinc 6 (1), 3, 61, 0, [6], [(1, 0)]) rfl rfl rfl ?_
      refine bEqC (fun v => A (61, [.ref 12, .int (bn l1), .int (bn l2), .int (bn (l3 + 1)), .int (bn l4), .int (bn l5), .int v], [], s2)) ((congrArg (fun w => bn l6 + w) bl_1).trans (bn_add l6 1)) ?_
      refine bGo hA 3 13 (102, .goto (-55), 3, 62, 30, [], []) rfl rfl rfl ?_
      exact (k3.2 c6).2.2
  · refine bGo hA 3 14 (105, .goto (84), 3, 63, 106, [], []) rfl rfl rfl ?_
    refine bGo hA 6 10 (189, .iinc 5 (1), 3, 107, 0, [5], [(1, 0)]) rfl rfl rfl ?_
    refine bEqC (fun v => A (107, [.ref 12, .int (bn l1), .int (bn l2), .int (bn l3), .int (bn l4), .int v, .int (bn l6)], [], σ)) ((congrArg (fun w => bn l5 + w) bl_1).trans (bn_add l5 1)) ?_
    refine bGo hA 6 11 (192, .goto (-175), 3, 108, 12, [], []) rfl rfl rfl ?_
    exact (h.2 c1).2

theorem sq245_78 {lvl : Nat} {C : bCall} {Q : bPost} {A : bPt → Prop} (hC : bMono C) (hA : bClosed lvl bm245 C Q A) {l1 : Int} {l2 : Int} {l3 : Int} {l4 : Int} {l5 : Int} {v6 : Value} {t0 : Int} {σ : bSt}  (h_l1 : bRg l1) (h_l2 : bRg l2) (h_l3 : bRg l3) (h_l4 : bRg l4) (h_l5 : bRg l5) (h_t0 : bRg t0)
  (h : ((l4 = 0 → ((0 ≤ l5 ∧ l5 < 96) ∧ (((bi σ 86 l5) = 2 → (bRg (100 + t0) ∧ ((0 ≤ l3 ∧ l3 < 64) ∧ (bRg (l3 + 1) ∧ (bRg (l5 + 1) ∧ A (12, [.ref 12, .int (bn l1), .int (bn l2), .int (bn (l3 + 1)), .int (bn 0), .int (bn (l5 + 1)), .int (bn t0)], [], (bw σ 116 l3 (100 + t0)))))))) ∧ (¬ (bi σ 86 l5) = 2 → ((0 ≤ l3 ∧ l3 < 64) ∧ (bRg (l3 + 1) ∧ (bRg (l5 + 1) ∧ A (12, [.ref 12, .int (bn l1), .int (bn l2), .int (bn (l3 + 1)), .int (bn 0), .int (bn (l5 + 1)), .int (bn t0)], [], (bw σ 116 l3 (bi σ 87 l5)))))))))) ∧ (¬ l4 = 0 → ((t0 < 0 → ((0 ≤ l5 ∧ l5 < 96) ∧ (((bi σ 86 l5) = 2 → (bRg (100 + t0) ∧ ((0 ≤ l3 ∧ l3 < 64) ∧ (bRg (l3 + 1) ∧ (bRg (l5 + 1) ∧ A (12, [.ref 12, .int (bn l1), .int (bn l2), .int (bn (l3 + 1)), .int (bn 0), .int (bn (l5 + 1)), .int (bn t0)], [], (bw σ 116 l3 (100 + t0)))))))) ∧ (¬ (bi σ 86 l5) = 2 → ((0 ≤ l3 ∧ l3 < 64) ∧ (bRg (l3 + 1) ∧ (bRg (l5 + 1) ∧ A (12, [.ref 12, .int (bn l1), .int (bn l2), .int (bn (l3 + 1)), .int (bn 0), .int (bn (l5 + 1)), .int (bn t0)], [], (bw σ 116 l3 (bi σ 87 l5)))))))))) ∧ (¬ t0 < 0 → ((0 ≤ l5 ∧ l5 < 96) ∧ (((bi σ 86 l5) = 2 → (bRg (100 + t0) ∧ ((0 ≤ l3 ∧ l3 < 64) ∧ (bRg (l3 + 1) ∧ (bRg (l5 + 1) ∧ A (12, [.ref 12, .int (bn l1), .int (bn l2), .int (bn (l3 + 1)), .int (bn 1), .int (bn (l5 + 1)), .int (bn t0)], [], (bw σ 116 l3 (100 + t0)))))))) ∧ (¬ (bi σ 86 l5) = 2 → ((0 ≤ l3 ∧ l3 < 64) ∧ (bRg (l3 + 1) ∧ (bRg (l5 + 1) ∧ A (12, [.ref 12, .int (bn l1), .int (bn l2), .int (bn (l3 + 1)), .int (bn 1), .int (bn (l5 + 1)), .int (bn t0)], [], (bw σ 116 l3 (bi σ 87 l5)))))))))))))) : A (78, [.ref 12, .int (bn l1), .int (bn l2), .int (bn l3), .int (bn l4), .int (bn l5), v6], [.int (bn t0)], σ) := by
  refine bGo hA 4 14 (135, .istore 6, 2, 79, 0, [6], []) rfl rfl rfl ?_
  refine bGo hA 4 15 (137, .iload 4, 2, 80, 0, [4], []) rfl rfl rfl ?_
  refine bGo hA 5 0 (139, .ifCond .eq (12), 3, 81, 85, [], []) rfl rfl rfl ?_
  refine bB_eq0 (x := l4) h_l4 (fun c1 => ?_) (fun c1 => ?_)
  · refine bGo hA 5 5 (151, .iconst (0), 1, 86, 0, [], [(0, 0)]) rfl rfl rfl ?_
    refine bEqI bl_0 ?_
    refine bGo hA 5 6 (152, .istore 4, 2, 87, 0, [4], []) rfl rfl rfl ?_
    refine bGo hA 5 7 (154, .aload_n 0, 1, 88, 0, [0], []) rfl rfl rfl ?_
    refine bGo hA 5 8 (155, .getfield 191, 3, 89, 0, [12, 65, 3, 116, 1, 0], []) rfl rfl rfl ?_
    refine ⟨rfl, ?_⟩
    refine bGo hA 5 9 (158, .iload_n 3, 1, 90, 0, [3], []) rfl rfl rfl ?_
    refine bGo hA 5 10 (159, .aload_n 0, 1, 91, 0, [0], []) rfl rfl rfl ?_
    refine bGo hA 5 11 (160, .getfield 101, 3, 92, 0, [12, 34, 3, 86, 1, 0], []) rfl rfl rfl ?_
    refine ⟨rfl, ?_⟩
    refine bGo hA 5 12 (163, .iload 5, 2, 93, 0, [5], []) rfl rfl rfl ?_
    refine bGo hA 5 13 (165, .iaload, 1, 94, 0, [], []) rfl rfl rfl ?_
    refine ⟨rfl, (bIxP (x := l5) (n := 96) h_l5 (h.1 c1).1), ?_⟩
    refine bEqL (x := l5) h_l5 ?_
    refine bGo hA 5 14 (166, .iconst (2), 1, 95, 0, [], [(2, 0)]) rfl rfl rfl ?_
    refine bEqI bl_2 ?_
    refine bGo hA 5 15 (167, .if_icmp .ne (11), 3, 96, 100, [], []) rfl rfl rfl ?_
    refine bB_eq (x := (bi σ 86 l5)) (y := 2) (bi_rg _ _ _) (by decide : bRg 2) (fun c2 => ?_) (fun c2 => ?_)
    · refine bGo hA 6 0 (170, .bipush (100), 2, 97, 0, [], [(100, 0)]) rfl rfl rfl ?_
      refine bEqI bl_100 ?_
      refine bGo hA 6 1 (172, .iload 6, 2, 98, 0, [6], []) rfl rfl rfl ?_
      refine bGo hA 6 2 (174, .iadd, 1, 99, 0, [], []) rfl rfl rfl ?_
      refine bEqI (bn_add 100 t0) ?_
      refine bGo hA 6 3 (175, .goto (10), 3, 100, 104, [], []) rfl rfl rfl ?_
      refine bGo hA 6 8 (185, .iastore, 1, 105, 0, [], []) rfl rfl rfl ?_
      refine ⟨rfl, (bIxP (x := l3) (n := 64) h_l3 ((h.1 c1).2.1 c2).2.1), by decide, ?_⟩
      refine bEqS (x := l3) h_l3 ?_
      refine bGo hA 6 9 (186, .iinc 3 (1), 3, 106, 0, [3], [(1, 0)]) rfl rfl rfl ?_
      refine bEqC (fun v => A (106, [.ref 12, .int (bn l1), .int (bn l2), .int v, .int (bn 0), .int (bn l5), .int (bn t0)], [], (bw σ 116 l3 (100 + t0)))) ((congrArg (fun w => bn l3 + w) bl_1).trans (bn_add l3 1)) ?_
      refine bGo hA 6 10 (189, .iinc 5 (1), 3, 107, 0, [5], [(1, 0)]) rfl rfl rfl ?_
      refine bEqC (fun v => A (107, [.ref 12, .int (bn l1), .int (bn l2), .int (bn (l3 + 1)), .int (bn 0), .int v, .int (bn t0)], [], (bw σ 116 l3 (100 + t0)))) ((congrArg (fun w => bn l5 + w) bl_1).trans (bn_add l5 1)) ?_
      refine bGo hA 6 11 (192, .goto (-175), 3, 108, 12, [], []) rfl rfl rfl ?_
      exact ((h.1 c1).2.1 c2).2.2.2.2
    · refine bGo hA 6 4 (178, .aload_n 0, 1, 101, 0, [0], []) rfl rfl rfl ?_
      refine bGo hA 6 5 (179, .getfield 104, 3, 102, 0, [12, 35, 3, 87, 1, 0], []) rfl rfl rfl ?_
      refine ⟨rfl, ?_⟩
      refine bGo hA 6 6 (182, .iload 5, 2, 103, 0, [5], []) rfl rfl rfl ?_
      refine bGo hA 6 7 (184, .iaload, 1, 104, 0, [], []) rfl rfl rfl ?_
      refine ⟨rfl, (bIxP (x := l5) (n := 96) h_l5 (h.1 c1).1), ?_⟩
      refine bEqL (x := l5) h_l5 ?_
      refine bGo hA 6 8 (185, .iastore, 1, 105, 0, [], []) rfl rfl rfl ?_
      refine ⟨rfl, (bIxP (x := l3) (n := 64) h_l3 ((h.1 c1).2.2 c2).1), by decide, ?_⟩
      refine bEqS (x := l3) h_l3 ?_
      refine bGo hA 6 9 (186, .iinc 3 (1), 3, 106, 0, [3], [(1, 0)]) rfl rfl rfl ?_
      refine bEqC (fun v => A (106, [.ref 12, .int (bn l1), .int (bn l2), .int v, .int (bn 0), .int (bn l5), .int (bn t0)], [], (bw σ 116 l3 (bi σ 87 l5)))) ((congrArg (fun w => bn l3 + w) bl_1).trans (bn_add l3 1)) ?_
      refine bGo hA 6 10 (189, .iinc 5 (1), 3, 107, 0, [5], [(1, 0)]) rfl rfl rfl ?_
      refine bEqC (fun v => A (107, [.ref 12, .int (bn l1), .int (bn l2), .int (bn (l3 + 1)), .int (bn 0), .int v, .int (bn t0)], [], (bw σ 116 l3 (bi σ 87 l5)))) ((congrArg (fun w => bn l5 + w) bl_1).trans (bn_add l5 1)) ?_
      refine bGo hA 6 11 (192, .goto (-175), 3, 108, 12, [], []) rfl rfl rfl ?_
      exact ((h.1 c1).2.2 c2).2.2.2
  · refine bGo hA 5 1 (142, .iload 6, 2, 82, 0, [6], []) rfl rfl rfl ?_
    refine bGo hA 5 2 (144, .ifCond .lt (7), 3, 83, 85, [], []) rfl rfl rfl ?_
    refine bB_lt0 (x := t0) h_t0 (fun c3 => ?_) (fun c3 => ?_)
    · refine bGo hA 5 5 (151, .iconst (0), 1, 86, 0, [], [(0, 0)]) rfl rfl rfl ?_
      refine bEqI bl_0 ?_
      refine bGo hA 5 6 (152, .istore 4, 2, 87, 0, [4], []) rfl rfl rfl ?_
      refine bGo hA 5 7 (154, .aload_n 0, 1, 88, 0, [0], []) rfl rfl rfl ?_
      refine bGo hA 5 8 (155, .getfield 191, 3, 89, 0, [12, 65, 3, 116, 1, 0], []) rfl rfl rfl ?_
      refine ⟨rfl, ?_⟩
      refine bGo hA 5 9 (158, .iload_n 3, 1, 90, 0, [3], []) rfl rfl rfl ?_
      refine bGo hA 5 10 (159, .aload_n 0, 1, 91, 0, [0], []) rfl rfl rfl ?_
      refine bGo hA 5 11 (160, .getfield 101, 3, 92, 0, [12, 34, 3, 86, 1, 0], []) rfl rfl rfl ?_
      refine ⟨rfl, ?_⟩
      refine bGo hA 5 12 (163, .iload 5, 2, 93, 0, [5], []) rfl rfl rfl ?_
      refine bGo hA 5 13 (165, .iaload, 1, 94, 0, [], []) rfl rfl rfl ?_
      refine ⟨rfl, (bIxP (x := l5) (n := 96) h_l5 ((h.2 c1).1 c3).1), ?_⟩
      refine bEqL (x := l5) h_l5 ?_
      refine bGo hA 5 14 (166, .iconst (2), 1, 95, 0, [], [(2, 0)]) rfl rfl rfl ?_
      refine bEqI bl_2 ?_
      refine bGo hA 5 15 (167, .if_icmp .ne (11), 3, 96, 100, [], []) rfl rfl rfl ?_
      refine bB_eq (x := (bi σ 86 l5)) (y := 2) (bi_rg _ _ _) (by decide : bRg 2) (fun c4 => ?_) (fun c4 => ?_)
      · refine bGo hA 6 0 (170, .bipush (100), 2, 97, 0, [], [(100, 0)]) rfl rfl rfl ?_
        refine bEqI bl_100 ?_
        refine bGo hA 6 1 (172, .iload 6, 2, 98, 0, [6], []) rfl rfl rfl ?_
        refine bGo hA 6 2 (174, .iadd, 1, 99, 0, [], []) rfl rfl rfl ?_
        refine bEqI (bn_add 100 t0) ?_
        refine bGo hA 6 3 (175, .goto (10), 3, 100, 104, [], []) rfl rfl rfl ?_
        refine bGo hA 6 8 (185, .iastore, 1, 105, 0, [], []) rfl rfl rfl ?_
        refine ⟨rfl, (bIxP (x := l3) (n := 64) h_l3 (((h.2 c1).1 c3).2.1 c4).2.1), by decide, ?_⟩
        refine bEqS (x := l3) h_l3 ?_
        refine bGo hA 6 9 (186, .iinc 3 (1), 3, 106, 0, [3], [(1, 0)]) rfl rfl rfl ?_
        refine bEqC (fun v => A (106, [.ref 12, .int (bn l1), .int (bn l2), .int v, .int (bn 0), .int (bn l5), .int (bn t0)], [], (bw σ 116 l3 (100 + t0)))) ((congrArg (fun w => bn l3 + w) bl_1).trans (bn_add l3 1)) ?_
        refine bGo hA 6 10 (189, .iinc 5 (1), 3, 107, 0, [5], [(1, 0)]) rfl rfl rfl ?_
        refine bEqC (fun v => A (107, [.ref 12, .int (bn l1), .int (bn l2), .int (bn (l3 + 1)), .int (bn 0), .int v, .int (bn t0)], [], (bw σ 116 l3 (100 + t0)))) ((congrArg (fun w => bn l5 + w) bl_1).trans (bn_add l5 1)) ?_
        refine bGo hA 6 11 (192, .goto (-175), 3, 108, 12, [], []) rfl rfl rfl ?_
        exact (((h.2 c1).1 c3).2.1 c4).2.2.2.2
      · refine bGo hA 6 4 (178, .aload_n 0, 1, 101, 0, [0], []) rfl rfl rfl ?_
        refine bGo hA 6 5 (179, .getfield 104, 3, 102, 0, [12, 35, 3, 87, 1, 0], []) rfl rfl rfl ?_
        refine ⟨rfl, ?_⟩
        refine bGo hA 6 6 (182, .iload 5, 2, 103, 0, [5], []) rfl rfl rfl ?_
        refine bGo hA 6 7 (184, .iaload, 1, 104, 0, [], []) rfl rfl rfl ?_
        refine ⟨rfl, (bIxP (x := l5) (n := 96) h_l5 ((h.2 c1).1 c3).1), ?_⟩
        refine bEqL (x := l5) h_l5 ?_
        refine bGo hA 6 8 (185, .iastore, 1, 105, 0, [], []) rfl rfl rfl ?_
        refine ⟨rfl, (bIxP (x := l3) (n := 64) h_l3 (((h.2 c1).1 c3).2.2 c4).1), by decide, ?_⟩
        refine bEqS (x := l3) h_l3 ?_
        refine bGo hA 6 9 (186, .iinc 3 (1), 3, 106, 0, [3], [(1, 0)]) rfl rfl rfl ?_
        refine bEqC (fun v => A (106, [.ref 12, .int (bn l1), .int (bn l2), .int v, .int (bn 0), .int (bn l5), .int (bn t0)], [], (bw σ 116 l3 (bi σ 87 l5)))) ((congrArg (fun w => bn l3 + w) bl_1).trans (bn_add l3 1)) ?_
        refine bGo hA 6 10 (189, .iinc 5 (1), 3, 107, 0, [5], [(1, 0)]) rfl rfl rfl ?_
        refine bEqC (fun v => A (107, [.ref 12, .int (bn l1), .int (bn l2), .int (bn (l3 + 1)), .int (bn 0), .int v, .int (bn t0)], [], (bw σ 116 l3 (bi σ 87 l5)))) ((congrArg (fun w => bn l5 + w) bl_1).trans (bn_add l5 1)) ?_
        refine bGo hA 6 11 (192, .goto (-175), 3, 108, 12, [], []) rfl rfl rfl ?_
        exact (((h.2 c1).1 c3).2.2 c4).2.2.2
    · refine bGo hA 5 3 (147, .iconst (1), 1, 84, 0, [], [(1, 0)]) rfl rfl rfl ?_
      refine bEqI bl_1 ?_
      refine bGo hA 5 4 (148, .goto (4), 3, 85, 86, [], []) rfl rfl rfl ?_
      refine bGo hA 5 6 (152, .istore 4, 2, 87, 0, [4], []) rfl rfl rfl ?_
      refine bGo hA 5 7 (154, .aload_n 0, 1, 88, 0, [0], []) rfl rfl rfl ?_
      refine bGo hA 5 8 (155, .getfield 191, 3, 89, 0, [12, 65, 3, 116, 1, 0], []) rfl rfl rfl ?_
      refine ⟨rfl, ?_⟩
      refine bGo hA 5 9 (158, .iload_n 3, 1, 90, 0, [3], []) rfl rfl rfl ?_
      refine bGo hA 5 10 (159, .aload_n 0, 1, 91, 0, [0], []) rfl rfl rfl ?_
      refine bGo hA 5 11 (160, .getfield 101, 3, 92, 0, [12, 34, 3, 86, 1, 0], []) rfl rfl rfl ?_
      refine ⟨rfl, ?_⟩
      refine bGo hA 5 12 (163, .iload 5, 2, 93, 0, [5], []) rfl rfl rfl ?_
      refine bGo hA 5 13 (165, .iaload, 1, 94, 0, [], []) rfl rfl rfl ?_
      refine ⟨rfl, (bIxP (x := l5) (n := 96) h_l5 ((h.2 c1).2 c3).1), ?_⟩
      refine bEqL (x := l5) h_l5 ?_
      refine bGo hA 5 14 (166, .iconst (2), 1, 95, 0, [], [(2, 0)]) rfl rfl rfl ?_
      refine bEqI bl_2 ?_
      refine bGo hA 5 15 (167, .if_icmp .ne (11), 3, 96, 100, [], []) rfl rfl rfl ?_
      refine bB_eq (x := (bi σ 86 l5)) (y := 2) (bi_rg _ _ _) (by decide : bRg 2) (fun c5 => ?_) (fun c5 => ?_)
      · refine bGo hA 6 0 (170, .bipush (100), 2, 97, 0, [], [(100, 0)]) rfl rfl rfl ?_
        refine bEqI bl_100 ?_
        refine bGo hA 6 1 (172, .iload 6, 2, 98, 0, [6], []) rfl rfl rfl ?_
        refine bGo hA 6 2 (174, .iadd, 1, 99, 0, [], []) rfl rfl rfl ?_
        refine bEqI (bn_add 100 t0) ?_
        refine bGo hA 6 3 (175, .goto (10), 3, 100, 104, [], []) rfl rfl rfl ?_
        refine bGo hA 6 8 (185, .iastore, 1, 105, 0, [], []) rfl rfl rfl ?_
        refine ⟨rfl, (bIxP (x := l3) (n := 64) h_l3 (((h.2 c1).2 c3).2.1 c5).2.1), by decide, ?_⟩
        refine bEqS (x := l3) h_l3 ?_
        refine bGo hA 6 9 (186, .iinc 3 (1), 3, 106, 0, [3], [(1, 0)]) rfl rfl rfl ?_
        refine bEqC (fun v => A (106, [.ref 12, .int (bn l1), .int (bn l2), .int v, .int (bn 1), .int (bn l5), .int (bn t0)], [], (bw σ 116 l3 (100 + t0)))) ((congrArg (fun w => bn l3 + w) bl_1).trans (bn_add l3 1)) ?_
        refine bGo hA 6 10 (189, .iinc 5 (1), 3, 107, 0, [5], [(1, 0)]) rfl rfl rfl ?_
        refine bEqC (fun v => A (107, [.ref 12, .int (bn l1), .int (bn l2), .int (bn (l3 + 1)), .int (bn 1), .int v, .int (bn t0)], [], (bw σ 116 l3 (100 + t0)))) ((congrArg (fun w => bn l5 + w) bl_1).trans (bn_add l5 1)) ?_
        refine bGo hA 6 11 (192, .goto (-175), 3, 108, 12, [], []) rfl rfl rfl ?_
        exact (((h.2 c1).2 c3).2.1 c5).2.2.2.2
      · refine bGo hA 6 4 (178, .aload_n 0, 1, 101, 0, [0], []) rfl rfl rfl ?_
        refine bGo hA 6 5 (179, .getfield 104, 3, 102, 0, [12, 35, 3, 87, 1, 0], []) rfl rfl rfl ?_
        refine ⟨rfl, ?_⟩
        refine bGo hA 6 6 (182, .iload 5, 2, 103, 0, [5], []) rfl rfl rfl ?_
        refine bGo hA 6 7 (184, .iaload, 1, 104, 0, [], []) rfl rfl rfl ?_
        refine ⟨rfl, (bIxP (x := l5) (n := 96) h_l5 ((h.2 c1).2 c3).1), ?_⟩
        refine bEqL (x := l5) h_l5 ?_
        refine bGo hA 6 8 (185, .iastore, 1, 105, 0, [], []) rfl rfl rfl ?_
        refine ⟨rfl, (bIxP (x := l3) (n := 64) h_l3 (((h.2 c1).2 c3).2.2 c5).1), by decide, ?_⟩
        refine bEqS (x := l3) h_l3 ?_
        refine bGo hA 6 9 (186, .iinc 3 (1), 3, 106, 0, [3], [(1, 0)]) rfl rfl rfl ?_
        refine bEqC (fun v => A (106, [.ref 12, .int (bn l1), .int (bn l2), .int v, .int (bn 1), .int (bn l5), .int (bn t0)], [], (bw σ 116 l3 (bi σ 87 l5)))) ((congrArg (fun w => bn l3 + w) bl_1).trans (bn_add l3 1)) ?_
        refine bGo hA 6 10 (189, .iinc 5 (1), 3, 107, 0, [5], [(1, 0)]) rfl rfl rfl ?_
        refine bEqC (fun v => A (107, [.ref 12, .int (bn l1), .int (bn l2), .int (bn (l3 + 1)), .int (bn 1), .int v, .int (bn t0)], [], (bw σ 116 l3 (bi σ 87 l5)))) ((congrArg (fun w => bn l5 + w) bl_1).trans (bn_add l5 1)) ?_
        refine bGo hA 6 11 (192, .goto (-175), 3, 108, 12, [], []) rfl rfl rfl ?_
        exact (((h.2 c1).2 c3).2.2 c5).2.2.2

theorem sq246_0 {lvl : Nat} {C : bCall} {Q : bPost} {A : bPt → Prop} (hC : bMono C) (hA : bClosed lvl bm246 C Q A) {x1 : Int} {x2 : Int} {σ : bSt}  (h_x1 : bRg x1) (h_x2 : bRg x2)
  (h : (0 ≤ x1 ∧ A (8, [.ref 12, .int (bn x1), .int (bn x2), .int (bn (x1 / 256)), .int (bn (-1)), .int (bn 0), .float 0, .float 0], [], σ))) : A (0, [.ref 12, .int (bn x1), .int (bn x2), .float 0, .float 0, .float 0, .float 0, .float 0], [], σ) := by
  refine bGo hA 0 0 (0, .iload_n 1, 1, 1, 0, [1], []) rfl rfl rfl ?_
  refine bGo hA 0 1 (1, .sipush (256), 3, 2, 0, [], [(256, 0)]) rfl rfl rfl ?_
  refine bEqI bl_256 ?_
  refine bGo hA 0 2 (4, .idiv, 1, 3, 0, [], []) rfl rfl rfl ?_
  refine ⟨by decide, ?_⟩
  refine bEqI (bn_div h_x1 (by decide) h.1) ?_
  refine bGo hA 0 3 (5, .istore_n 3, 1, 4, 0, [3], []) rfl rfl rfl ?_
  refine bGo hA 0 4 (6, .iconst (-1), 1, 5, 0, [], [(-1, 0)]) rfl rfl rfl ?_
  refine bEqI bl_m1 ?_
  refine bGo hA 0 5 (7, .istore 4, 2, 6, 0, [4], []) rfl rfl rfl ?_
  refine bGo hA 0 6 (9, .iconst (0), 1, 7, 0, [], [(0, 0)]) rfl rfl rfl ?_
  refine bEqI bl_0 ?_
  refine bGo hA 0 7 (10, .istore 5, 2, 8, 0, [5], []) rfl rfl rfl ?_
  exact h.2

theorem sq246_8 {lvl : Nat} {C : bCall} {Q : bPost} {A : bPt → Prop} (hC : bMono C) (hA : bClosed lvl bm246 C Q A) {l1 : Int} {l2 : Int} {l3 : Int} {l4 : Int} {l5 : Int} {v6 : Value} {v7 : Value} {σ : bSt}  (h_l1 : bRg l1) (h_l2 : bRg l2) (h_l3 : bRg l3) (h_l4 : bRg l4) (h_l5 : bRg l5)
  (h : ((l5 < (bi σ 12 49) → ((0 ≤ l5 ∧ l5 < 120) ∧ ((0 ≤ l3 ∧ l3 < 16) ∧ (((bi σ 101 l5) = (bi σ 76 l3) → ((0 ≤ l1 ∧ l1 < 4096) ∧ (((bi σ 102 l5) = (bi σ 97 l1) → (((bi σ 103 l5) = (bi σ 98 l1) → (((bi σ 105 l5) = l2 → (((bi σ 76 l3) = 5 → (((bi σ 104 l5) = (bi σ 75 l3) → A (66, [.ref 12, .int (bn l1), .int (bn l2), .int (bn l3), .int (bn l4), .int (bn l5), .int (bn 1), .int (bn 0)], [], σ)) ∧ (¬ (bi σ 104 l5) = (bi σ 75 l3) → A (66, [.ref 12, .int (bn l1), .int (bn l2), .int (bn l3), .int (bn l4), .int (bn l5), .int (bn 0), .int (bn 0)], [], σ)))) ∧ (¬ (bi σ 76 l3) = 5 → A (66, [.ref 12, .int (bn l1), .int (bn l2), .int (bn l3), .int (bn l4), .int (bn l5), .int (bn 1), .int (bn 0)], [], σ)))) ∧ (¬ (bi σ 105 l5) = l2 → A (66, [.ref 12, .int (bn l1), .int (bn l2), .int (bn l3), .int (bn l4), .int (bn l5), .int (bn 0), .int (bn 0)], [], σ)))) ∧ (¬ (bi σ 103 l5) = (bi σ 98 l1) → A (66, [.ref 12, .int (bn l1), .int (bn l2), .int (bn l3), .int (bn l4), .int (bn l5), .int (bn 0), .int (bn 0)], [], σ)))) ∧ (¬ (bi σ 102 l5) = (bi σ 97 l1) → A (66, [.ref 12, .int (bn l1), .int (bn l2), .int (bn l3), .int (bn l4), .int (bn l5), .int (bn 0), .int (bn 0)], [], σ))))) ∧ (¬ (bi σ 101 l5) = (bi σ 76 l3) → A (66, [.ref 12, .int (bn l1), .int (bn l2), .int (bn l3), .int (bn l4), .int (bn l5), .int (bn 0), .int (bn 0)], [], σ)))))) ∧ (¬ l5 < (bi σ 12 49) → Q (.inl (some (.int (bn l4)))) σ))) : A (8, [.ref 12, .int (bn l1), .int (bn l2), .int (bn l3), .int (bn l4), .int (bn l5), v6, v7], [], σ) := by
  refine bGo hA 0 8 (12, .iload 5, 2, 9, 0, [5], []) rfl rfl rfl ?_
  refine bGo hA 0 9 (14, .aload_n 0, 1, 10, 0, [0], []) rfl rfl rfl ?_
  refine bGo hA 0 10 (15, .getfield 410, 3, 11, 0, [12, 49, 0, 0, 0, 0], []) rfl rfl rfl ?_
  refine ⟨rfl, ?_⟩
  refine bEqI (bn_bi σ 12 49) ?_
  refine bGo hA 0 11 (18, .if_icmp .ge (165), 3, 12, 98, [], []) rfl rfl rfl ?_
  refine bB_lt (x := l5) (y := (bi σ 12 49)) h_l5 (bi_rg _ _ _) (fun c1 => ?_) (fun c1 => ?_)
  · refine bGo hA 0 12 (21, .aload_n 0, 1, 13, 0, [0], []) rfl rfl rfl ?_
    refine bGo hA 0 13 (22, .getfield 146, 3, 14, 0, [12, 50, 3, 101, 1, 0], []) rfl rfl rfl ?_
    refine ⟨rfl, ?_⟩
    refine bGo hA 0 14 (25, .iload 5, 2, 15, 0, [5], []) rfl rfl rfl ?_
    refine bGo hA 0 15 (27, .iaload, 1, 16, 0, [], []) rfl rfl rfl ?_
    refine ⟨rfl, (bIxP (x := l5) (n := 120) h_l5 (h.1 c1).1), ?_⟩
    refine bEqL (x := l5) h_l5 ?_
    refine bGo hA 1 0 (28, .aload_n 0, 1, 17, 0, [0], []) rfl rfl rfl ?_
    refine bGo hA 1 1 (29, .getfield 71, 3, 18, 0, [12, 24, 3, 76, 1, 0], []) rfl rfl rfl ?_
    refine ⟨rfl, ?_⟩
    refine bGo hA 1 2 (32, .iload_n 3, 1, 19, 0, [3], []) rfl rfl rfl ?_
    refine bGo hA 1 3 (33, .iaload, 1, 20, 0, [], []) rfl rfl rfl ?_
    refine ⟨rfl, (bIxP (x := l3) (n := 16) h_l3 (h.1 c1).2.1), ?_⟩
    refine bEqL (x := l3) h_l3 ?_
    refine bGo hA 1 4 (34, .if_icmp .ne (76), 3, 21, 62, [], []) rfl rfl rfl ?_
    refine bB_eq (x := (bi σ 101 l5)) (y := (bi σ 76 l3)) (bi_rg _ _ _) (bi_rg _ _ _) (fun c2 => ?_) (fun c2 => ?_)
    · refine bGo hA 1 5 (37, .aload_n 0, 1, 22, 0, [0], []) rfl rfl rfl ?_
      refine bGo hA 1 6 (38, .getfield 149, 3, 23, 0, [12, 51, 3, 102, 1, 0], []) rfl rfl rfl ?_
      refine ⟨rfl, ?_⟩
      refine bGo hA 1 7 (41, .iload 5, 2, 24, 0, [5], []) rfl rfl rfl ?_
      refine bGo hA 1 8 (43, .iaload, 1, 25, 0, [], []) rfl rfl rfl ?_
      refine ⟨rfl, (bIxP (x := l5) (n := 120) h_l5 (h.1 c1).1), ?_⟩
      refine bEqL (x := l5) h_l5 ?_
      refine bGo hA 1 9 (44, .aload_n 0, 1, 26, 0, [0], []) rfl rfl rfl ?_
      refine bGo hA 1 10 (45, .getfield 134, 3, 27, 0, [12, 45, 3, 97, 1, 0], []) rfl rfl rfl ?_
      refine ⟨rfl, ?_⟩
      refine bGo hA 1 11 (48, .iload_n 1, 1, 28, 0, [1], []) rfl rfl rfl ?_
      refine bGo hA 1 12 (49, .iaload, 1, 29, 0, [], []) rfl rfl rfl ?_
      refine ⟨rfl, (bIxP (x := l1) (n := 4096) h_l1 ((h.1 c1).2.2.1 c2).1), ?_⟩
      refine bEqL (x := l1) h_l1 ?_
      refine bGo hA 1 13 (50, .if_icmp .ne (60), 3, 30, 62, [], []) rfl rfl rfl ?_
      refine bB_eq (x := (bi σ 102 l5)) (y := (bi σ 97 l1)) (bi_rg _ _ _) (bi_rg _ _ _) (fun c3 => ?_) (fun c3 => ?_)
      · refine bGo hA 1 14 (53, .aload_n 0, 1, 31, 0, [0], []) rfl rfl rfl ?_
        refine bGo hA 1 15 (54, .getfield 152, 3, 32, 0, [12, 52, 3, 103, 1, 0], []) rfl rfl rfl ?_
        refine ⟨rfl, ?_⟩
        refine bGo hA 2 0 (57, .iload 5, 2, 33, 0, [5], []) rfl rfl rfl ?_
        refine bGo hA 2 1 (59, .iaload, 1, 34, 0, [], []) rfl rfl rfl ?_
        refine ⟨rfl, (bIxP (x := l5) (n := 120) h_l5 (h.1 c1).1), ?_⟩
        refine bEqL (x := l5) h_l5 ?_
        refine bGo hA 2 2 (60, .aload_n 0, 1, 35, 0, [0], []) rfl rfl rfl ?_
        refine bGo hA 2 3 (61, .getfield 137, 3, 36, 0, [12, 46, 3, 98, 1, 0], []) rfl rfl rfl ?_
        refine ⟨rfl, ?_⟩
        refine bGo hA 2 4 (64, .iload_n 1, 1, 37, 0, [1], []) rfl rfl rfl ?_
        refine bGo hA 2 5 (65, .iaload, 1, 38, 0, [], []) rfl rfl rfl ?_
        refine ⟨rfl, (bIxP (x := l1) (n := 4096) h_l1 ((h.1 c1).2.2.1 c2).1), ?_⟩
        refine bEqL (x := l1) h_l1 ?_
        refine bGo hA 2 6 (66, .if_icmp .ne (44), 3, 39, 62, [], []) rfl rfl rfl ?_
        refine bB_eq (x := (bi σ 103 l5)) (y := (bi σ 98 l1)) (bi_rg _ _ _) (bi_rg _ _ _) (fun c4 => ?_) (fun c4 => ?_)
        · refine bGo hA 2 7 (69, .aload_n 0, 1, 40, 0, [0], []) rfl rfl rfl ?_
          refine bGo hA 2 8 (70, .getfield 158, 3, 41, 0, [12, 54, 3, 105, 1, 0], []) rfl rfl rfl ?_
          refine ⟨rfl, ?_⟩
          refine bGo hA 2 9 (73, .iload 5, 2, 42, 0, [5], []) rfl rfl rfl ?_
          refine bGo hA 2 10 (75, .iaload, 1, 43, 0, [], []) rfl rfl rfl ?_
          refine ⟨rfl, (bIxP (x := l5) (n := 120) h_l5 (h.1 c1).1), ?_⟩
          refine bEqL (x := l5) h_l5 ?_
          refine bGo hA 2 11 (76, .iload_n 2, 1, 44, 0, [2], []) rfl rfl rfl ?_
          refine bGo hA 2 12 (77, .if_icmp .ne (33), 3, 45, 62, [], []) rfl rfl rfl ?_
          refine bB_eq (x := (bi σ 105 l5)) (y := l2) (bi_rg _ _ _) h_l2 (fun c5 => ?_) (fun c5 => ?_)
          · refine bGo hA 2 13 (80, .aload_n 0, 1, 46, 0, [0], []) rfl rfl rfl ?_
            refine bGo hA 2 14 (81, .getfield 71, 3, 47, 0, [12, 24, 3, 76, 1, 0], []) rfl rfl rfl ?_
            refine ⟨rfl, ?_⟩
            refine bGo hA 2 15 (84, .iload_n 3, 1, 48, 0, [3], []) rfl rfl rfl ?_
            refine bGo hA 3 0 (85, .iaload, 1, 49, 0, [], []) rfl rfl rfl ?_
            refine ⟨rfl, (bIxP (x := l3) (n := 16) h_l3 (h.1 c1).2.1), ?_⟩
            refine bEqL (x := l3) h_l3 ?_
            refine bGo hA 3 1 (86, .iconst (5), 1, 50, 0, [], [(5, 0)]) rfl rfl rfl ?_
            refine bEqI bl_5 ?_
            refine bGo hA 3 2 (87, .if_icmp .ne (19), 3, 51, 60, [], []) rfl rfl rfl ?_
            refine bB_eq (x := (bi σ 76 l3)) (y := 5) (bi_rg _ _ _) (by decide : bRg 5) (fun c6 => ?_) (fun c6 => ?_)
            · refine bGo hA 3 3 (90, .aload_n 0, 1, 52, 0, [0], []) rfl rfl rfl ?_
              refine bGo hA 3 4 (91, .getfield 155, 3, 53, 0, [12, 53, 3, 104, 1, 0], []) rfl rfl rfl ?_
              refine ⟨rfl, ?_⟩
              refine bGo hA 3 5 (94, .iload 5, 2, 54, 0, [5], []) rfl rfl rfl ?_
              refine bGo hA 3 6 (96, .iaload, 1, 55, 0, [], []) rfl rfl rfl ?_
              refine ⟨rfl, (bIxP (x := l5) (n := 120) h_l5 (h.1 c1).1), ?_⟩
              refine bEqL (x := l5) h_l5 ?_
              refine bGo hA 3 7 (97, .aload_n 0, 1, 56, 0, [0], []) rfl rfl rfl ?_
              refine bGo hA 3 8 (98, .getfield 68, 3, 57, 0, [12, 23, 3, 75, 1, 0], []) rfl rfl rfl ?_
              refine ⟨rfl, ?_⟩
              refine bGo hA 3 9 (101, .iload_n 3, 1, 58, 0, [3], []) rfl rfl rfl ?_
              refine bGo hA 3 10 (102, .iaload, 1, 59, 0, [], []) rfl rfl rfl ?_
              refine ⟨rfl, (bIxP (x := l3) (n := 16) h_l3 (h.1 c1).2.1), ?_⟩
              refine bEqL (x := l3) h_l3 ?_
              refine bGo hA 3 11 (103, .if_icmp .ne (7), 3, 60, 62, [], []) rfl rfl rfl ?_
              refine bB_eq (x := (bi σ 104 l5)) (y := (bi σ 75 l3)) (bi_rg _ _ _) (bi_rg _ _ _) (fun c7 => ?_) (fun c7 => ?_)
              · refine bGo hA 3 12 (106, .iconst (1), 1, 61, 0, [], [(1, 0)]) rfl rfl rfl ?_
                refine bEqI bl_1 ?_
                refine bGo hA 3 13 (107, .goto (4), 3, 62, 63, [], []) rfl rfl rfl ?_
                refine bGo hA 3 15 (111, .istore 6, 2, 64, 0, [6], []) rfl rfl rfl ?_
                refine bGo hA 4 0 (113, .iconst (0), 1, 65, 0, [], [(0, 0)]) rfl rfl rfl ?_
                refine bEqI bl_0 ?_
                refine bGo hA 4 1 (114, .istore 7, 2, 66, 0, [7], []) rfl rfl rfl ?_
                exact (((((((h.1 c1).2.2.1 c2).2.1 c3).1 c4).1 c5).1 c6).1 c7)
              · refine bGo hA 3 14 (110, .iconst (0), 1, 63, 0, [], [(0, 0)]) rfl rfl rfl ?_
                refine bEqI bl_0 ?_
                refine bGo hA 3 15 (111, .istore 6, 2, 64, 0, [6], []) rfl rfl rfl ?_
                refine bGo hA 4 0 (113, .iconst (0), 1, 65, 0, [], [(0, 0)]) rfl rfl rfl ?_
                refine bEqI bl_0 ?_
                refine bGo hA 4 1 (114, .istore 7, 2, 66, 0, [7], []) rfl rfl rfl ?_
                exact (((((((h.1 c1).2.2.1 c2).2.1 c3).1 c4).1 c5).1 c6).2 c7)
            · refine bGo hA 3 12 (106, .iconst (1), 1, 61, 0, [], [(1, 0)]) rfl rfl rfl ?_
              refine bEqI bl_1 ?_
              refine bGo hA 3 13 (107, .goto (4), 3, 62, 63, [], []) rfl rfl rfl ?_
              refine bGo hA 3 15 (111, .istore 6, 2, 64, 0, [6], []) rfl rfl rfl ?_
              refine bGo hA 4 0 (113, .iconst (0), 1, 65, 0, [], [(0, 0)]) rfl rfl rfl ?_
              refine bEqI bl_0 ?_
              refine bGo hA 4 1 (114, .istore 7, 2, 66, 0, [7], []) rfl rfl rfl ?_
              exact ((((((h.1 c1).2.2.1 c2).2.1 c3).1 c4).1 c5).2 c6)
          · refine bGo hA 3 14 (110, .iconst (0), 1, 63, 0, [], [(0, 0)]) rfl rfl rfl ?_
            refine bEqI bl_0 ?_
            refine bGo hA 3 15 (111, .istore 6, 2, 64, 0, [6], []) rfl rfl rfl ?_
            refine bGo hA 4 0 (113, .iconst (0), 1, 65, 0, [], [(0, 0)]) rfl rfl rfl ?_
            refine bEqI bl_0 ?_
            refine bGo hA 4 1 (114, .istore 7, 2, 66, 0, [7], []) rfl rfl rfl ?_
            exact (((((h.1 c1).2.2.1 c2).2.1 c3).1 c4).2 c5)
        · refine bGo hA 3 14 (110, .iconst (0), 1, 63, 0, [], [(0, 0)]) rfl rfl rfl ?_
          refine bEqI bl_0 ?_
          refine bGo hA 3 15 (111, .istore 6, 2, 64, 0, [6], []) rfl rfl rfl ?_
          refine bGo hA 4 0 (113, .iconst (0), 1, 65, 0, [], [(0, 0)]) rfl rfl rfl ?_
          refine bEqI bl_0 ?_
          refine bGo hA 4 1 (114, .istore 7, 2, 66, 0, [7], []) rfl rfl rfl ?_
          exact ((((h.1 c1).2.2.1 c2).2.1 c3).2 c4)
      · refine bGo hA 3 14 (110, .iconst (0), 1, 63, 0, [], [(0, 0)]) rfl rfl rfl ?_
        refine bEqI bl_0 ?_
        refine bGo hA 3 15 (111, .istore 6, 2, 64, 0, [6], []) rfl rfl rfl ?_
        refine bGo hA 4 0 (113, .iconst (0), 1, 65, 0, [], [(0, 0)]) rfl rfl rfl ?_
        refine bEqI bl_0 ?_
        refine bGo hA 4 1 (114, .istore 7, 2, 66, 0, [7], []) rfl rfl rfl ?_
        exact (((h.1 c1).2.2.1 c2).2.2 c3)
    · refine bGo hA 3 14 (110, .iconst (0), 1, 63, 0, [], [(0, 0)]) rfl rfl rfl ?_
      refine bEqI bl_0 ?_
      refine bGo hA 3 15 (111, .istore 6, 2, 64, 0, [6], []) rfl rfl rfl ?_
      refine bGo hA 4 0 (113, .iconst (0), 1, 65, 0, [], [(0, 0)]) rfl rfl rfl ?_
      refine bEqI bl_0 ?_
      refine bGo hA 4 1 (114, .istore 7, 2, 66, 0, [7], []) rfl rfl rfl ?_
      exact ((h.1 c1).2.2.2 c2)
  · refine bGo hA 6 2 (183, .iload 4, 2, 99, 0, [4], []) rfl rfl rfl ?_
    refine bGo hA 6 3 (185, .ireturn, 1, 0, 0, [1], []) rfl rfl rfl ?_
    exact (h.2 c1)

theorem sq246_66 {lvl : Nat} {C : bCall} {Q : bPost} {A : bPt → Prop} (hC : bMono C) (hA : bClosed lvl bm246 C Q A) {l1 : Int} {l2 : Int} {l3 : Int} {l4 : Int} {l5 : Int} {l6 : Int} {l7 : Int} {σ : bSt}  (h_l1 : bRg l1) (h_l2 : bRg l2) (h_l3 : bRg l3) (h_l4 : bRg l4) (h_l5 : bRg l5) (h_l6 : bRg l6) (h_l7 : bRg l7)
  (h : ((l7 < l2 → ((l6 = 0 → ((l6 = 0 → (bRg (l5 + 1) ∧ A (8, [.ref 12, .int (bn l1), .int (bn l2), .int (bn l3), .int (bn l4), .int (bn (l5 + 1)), .int (bn l6), .int (bn l7)], [], σ))) ∧ (¬ l6 = 0 → (bRg (l5 + 1) ∧ A (8, [.ref 12, .int (bn l1), .int (bn l2), .int (bn l3), .int (bn l5), .int (bn (l5 + 1)), .int (bn l6), .int (bn l7)], [], σ))))) ∧ (¬ l6 = 0 → (bRg (40 * l5) ∧ (bRg ((40 * l5) + l7) ∧ ((0 ≤ ((40 * l5) + l7) ∧ ((40 * l5) + l7) < 4800) ∧ ((0 ≤ l7 ∧ l7 < 64) ∧ (((bi σ 106 ((40 * l5) + l7)) = (bi σ 116 l7) → (bRg (l7 + 1) ∧ A (66, [.ref 12, .int (bn l1), .int (bn l2), .int (bn l3), .int (bn l4), .int (bn l5), .int (bn 1), .int (bn (l7 + 1))], [], σ))) ∧ (¬ (bi σ 106 ((40 * l5) + l7)) = (bi σ 116 l7) → (bRg (l7 + 1) ∧ A (66, [.ref 12, .int (bn l1), .int (bn l2), .int (bn l3), .int (bn l4), .int (bn l5), .int (bn 0), .int (bn (l7 + 1))], [], σ))))))))))) ∧ (¬ l7 < l2 → ((l6 = 0 → (bRg (l5 + 1) ∧ A (8, [.ref 12, .int (bn l1), .int (bn l2), .int (bn l3), .int (bn l4), .int (bn (l5 + 1)), .int (bn l6), .int (bn l7)], [], σ))) ∧ (¬ l6 = 0 → (bRg (l5 + 1) ∧ A (8, [.ref 12, .int (bn l1), .int (bn l2), .int (bn l3), .int (bn l5), .int (bn (l5 + 1)), .int (bn l6), .int (bn l7)], [], σ))))))) : A (66, [.ref 12, .int (bn l1), .int (bn l2), .int (bn l3), .int (bn l4), .int (bn l5), .int (bn l6), .int (bn l7)], [], σ) := by
  refine bGo hA 4 2 (116, .iload 7, 2, 67, 0, [7], []) rfl rfl rfl ?_
  refine bGo hA 4 3 (118, .iload_n 2, 1, 68, 0, [2], []) rfl rfl rfl ?_
  refine bGo hA 4 4 (119, .if_icmp .ge (44), 3, 69, 90, [], []) rfl rfl rfl ?_
  refine bB_lt (x := l7) (y := l2) h_l7 h_l2 (fun c1 => ?_) (fun c1 => ?_)
  · refine bGo hA 4 5 (122, .iload 6, 2, 70, 0, [6], []) rfl rfl rfl ?_
    refine bGo hA 4 6 (124, .ifCond .eq (39), 3, 71, 90, [], []) rfl rfl rfl ?_
    refine bB_eq0 (x := l6) h_l6 (fun c2 => ?_) (fun c2 => ?_)
    · refine bGo hA 5 10 (163, .iload 6, 2, 91, 0, [6], []) rfl rfl rfl ?_
      refine bGo hA 5 11 (165, .ifCond .eq (8), 3, 92, 94, [], []) rfl rfl rfl ?_
      refine bB_eq0 (x := l6) h_l6 (fun c3 => ?_) (fun c3 => ?_)
      · refine bGo hA 5 14 (173, .iload 4, 2, 95, 0, [4], []) rfl rfl rfl ?_
        refine bGo hA 5 15 (175, .istore 4, 2, 96, 0, [4], []) rfl rfl rfl ?_
        refine bGo hA 6 0 (177, .iinc 5 (1), 3, 97, 0, [5], [(1, 0)]) rfl rfl rfl ?_
        refine bEqC (fun v => A (97, [.ref 12, .int (bn l1), .int (bn l2), .int (bn l3), .int (bn l4), .int v, .int (bn l6), .int (bn l7)], [], σ)) ((congrArg (fun w => bn l5 + w) bl_1).trans (bn_add l5 1)) ?_
        refine bGo hA 6 1 (180, .goto (-168), 3, 98, 8, [], []) rfl rfl rfl ?_
        exact (((h.1 c1).1 c2).1 c3).2
      · refine bGo hA 5 12 (168, .iload 5, 2, 93, 0, [5], []) rfl rfl rfl ?_
        refine bGo hA 5 13 (170, .goto (5), 3, 94, 95, [], []) rfl rfl rfl ?_
        refine bGo hA 5 15 (175, .istore 4, 2, 96, 0, [4], []) rfl rfl rfl ?_
        refine bGo hA 6 0 (177, .iinc 5 (1), 3, 97, 0, [5], [(1, 0)]) rfl rfl rfl ?_
        refine bEqC (fun v => A (97, [.ref 12, .int (bn l1), .int (bn l2), .int (bn l3), .int (bn l5), .int v, .int (bn l6), .int (bn l7)], [], σ)) ((congrArg (fun w => bn l5 + w) bl_1).trans (bn_add l5 1)) ?_
        refine bGo hA 6 1 (180, .goto (-168), 3, 98, 8, [], []) rfl rfl rfl ?_
        exact (((h.1 c1).1 c2).2 c3).2
    · refine bGo hA 4 7 (127, .aload_n 0, 1, 72, 0, [0], []) rfl rfl rfl ?_
      refine bGo hA 4 8 (128, .getfield 161, 3, 73, 0, [12, 55, 3, 106, 1, 0], []) rfl rfl rfl ?_
      refine ⟨rfl, ?_⟩
      refine bGo hA 4 9 (131, .bipush (40), 2, 74, 0, [], [(40, 0)]) rfl rfl rfl ?_
      refine bEqI bl_40 ?_
      refine bGo hA 4 10 (133, .iload 5, 2, 75, 0, [5], []) rfl rfl rfl ?_
      refine bGo hA 4 11 (135, .imul, 1, 76, 0, [], []) rfl rfl rfl ?_
      refine bEqI (bn_mul 40 l5) ?_
      refine bGo hA 4 12 (136, .iload 7, 2, 77, 0, [7], []) rfl rfl rfl ?_
      refine bGo hA 4 13 (138, .iadd, 1, 78, 0, [], []) rfl rfl rfl ?_
      refine bEqI (bn_add (40 * l5) l7) ?_
      refine bGo hA 4 14 (139, .iaload, 1, 79, 0, [], []) rfl rfl rfl ?_
      refine ⟨rfl, (bIxP (x := ((40 * l5) + l7)) (n := 4800) ((h.1 c1).2 c2).2.1 ((h.1 c1).2 c2).2.2.1), ?_⟩
      refine bEqL (x := ((40 * l5) + l7)) ((h.1 c1).2 c2).2.1 ?_
      refine bGo hA 4 15 (140, .aload_n 0, 1, 80, 0, [0], []) rfl rfl rfl ?_
      refine bGo hA 5 0 (141, .getfield 191, 3, 81, 0, [12, 65, 3, 116, 1, 0], []) rfl rfl rfl ?_
      refine ⟨rfl, ?_⟩
      refine bGo hA 5 1 (144, .iload 7, 2, 82, 0, [7], []) rfl rfl rfl ?_
      refine bGo hA 5 2 (146, .iaload, 1, 83, 0, [], []) rfl rfl rfl ?_
      refine ⟨rfl, (bIxP (x := l7) (n := 64) h_l7 ((h.1 c1).2 c2).2.2.2.1), ?_⟩
      refine bEqL (x := l7) h_l7 ?_
      refine bGo hA 5 3 (147, .if_icmp .ne (7), 3, 84, 86, [], []) rfl rfl rfl ?_
      refine bB_eq (x := (bi σ 106 ((40 * l5) + l7))) (y := (bi σ 116 l7)) (bi_rg _ _ _) (bi_rg _ _ _) (fun c4 => ?_) (fun c4 => ?_)
      · refine bGo hA 5 4 (150, .iconst (1), 1, 85, 0, [], [(1, 0)]) rfl rfl rfl ?_
        refine bEqI bl_1 ?_
        refine bGo hA 5 5 (151, .goto (4), 3, 86, 87, [], []) rfl rfl rfl ?_
        refine bGo hA 5 7 (155, .istore 6, 2, 88, 0, [6], []) rfl rfl rfl ?_
        refine bGo hA 5 8 (157, .iinc 7 (1), 3, 89, 0, [7], [(1, 0)]) rfl rfl rfl ?_
        refine bEqC (fun v => A (89, [.ref 12, .int (bn l1), .int (bn l2), .int (bn l3), .int (bn l4), .int (bn l5), .int (bn 1), .int v], [], σ)) ((congrArg (fun w => bn l7 + w) bl_1).trans (bn_add l7 1)) ?_
        refine bGo hA 5 9 (160, .goto (-44), 3, 90, 66, [], []) rfl rfl rfl ?_
        exact (((h.1 c1).2 c2).2.2.2.2.1 c4).2
      · refine bGo hA 5 6 (154, .iconst (0), 1, 87, 0, [], [(0, 0)]) rfl rfl rfl ?_
        refine bEqI bl_0 ?_
        refine bGo hA 5 7 (155, .istore 6, 2, 88, 0, [6], []) rfl rfl rfl ?_
        refine bGo hA 5 8 (157, .iinc 7 (1), 3, 89, 0, [7], [(1, 0)]) rfl rfl rfl ?_
        refine bEqC (fun v => A (89, [.ref 12, .int (bn l1), .int (bn l2), .int (bn l3), .int (bn l4), .int (bn l5), .int (bn 0), .int v], [], σ)) ((congrArg (fun w => bn l7 + w) bl_1).trans (bn_add l7 1)) ?_
        refine bGo hA 5 9 (160, .goto (-44), 3, 90, 66, [], []) rfl rfl rfl ?_
        exact (((h.1 c1).2 c2).2.2.2.2.2 c4).2
  · refine bGo hA 5 10 (163, .iload 6, 2, 91, 0, [6], []) rfl rfl rfl ?_
    refine bGo hA 5 11 (165, .ifCond .eq (8), 3, 92, 94, [], []) rfl rfl rfl ?_
    refine bB_eq0 (x := l6) h_l6 (fun c5 => ?_) (fun c5 => ?_)
    · refine bGo hA 5 14 (173, .iload 4, 2, 95, 0, [4], []) rfl rfl rfl ?_
      refine bGo hA 5 15 (175, .istore 4, 2, 96, 0, [4], []) rfl rfl rfl ?_
      refine bGo hA 6 0 (177, .iinc 5 (1), 3, 97, 0, [5], [(1, 0)]) rfl rfl rfl ?_
      refine bEqC (fun v => A (97, [.ref 12, .int (bn l1), .int (bn l2), .int (bn l3), .int (bn l4), .int v, .int (bn l6), .int (bn l7)], [], σ)) ((congrArg (fun w => bn l5 + w) bl_1).trans (bn_add l5 1)) ?_
      refine bGo hA 6 1 (180, .goto (-168), 3, 98, 8, [], []) rfl rfl rfl ?_
      exact ((h.2 c1).1 c5).2
    · refine bGo hA 5 12 (168, .iload 5, 2, 93, 0, [5], []) rfl rfl rfl ?_
      refine bGo hA 5 13 (170, .goto (5), 3, 94, 95, [], []) rfl rfl rfl ?_
      refine bGo hA 5 15 (175, .istore 4, 2, 96, 0, [4], []) rfl rfl rfl ?_
      refine bGo hA 6 0 (177, .iinc 5 (1), 3, 97, 0, [5], [(1, 0)]) rfl rfl rfl ?_
      refine bEqC (fun v => A (97, [.ref 12, .int (bn l1), .int (bn l2), .int (bn l3), .int (bn l5), .int v, .int (bn l6), .int (bn l7)], [], σ)) ((congrArg (fun w => bn l5 + w) bl_1).trans (bn_add l5 1)) ?_
      refine bGo hA 6 1 (180, .goto (-168), 3, 98, 8, [], []) rfl rfl rfl ?_
      exact ((h.2 c1).2 c5).2

theorem sq247_0 {lvl : Nat} {C : bCall} {Q : bPost} {A : bPt → Prop} (hC : bMono C) (hA : bClosed lvl bm247 C Q A)  {σ : bSt}  
  (h : A (2, [.ref 12, .int (bn 0), .float 0], [], σ)) : A (0, [.ref 12, .float 0, .float 0], [], σ) := by
  refine bGo hA 0 0 (0, .iconst (0), 1, 1, 0, [], [(0, 0)]) rfl rfl rfl ?_
  refine bEqI bl_0 ?_
  refine bGo hA 0 1 (1, .istore_n 1, 1, 2, 0, [1], []) rfl rfl rfl ?_
  exact h

theorem sq247_2 {lvl : Nat} {C : bCall} {Q : bPost} {A : bPt → Prop} (hC : bMono C) (hA : bClosed lvl bm247 C Q A) {l1 : Int} {v2 : Value} {σ : bSt}  (h_l1 : bRg l1)
  (h : (bRg (256 * (bi σ 12 22)) ∧ ((l1 < (256 * (bi σ 12 22)) → ((0 ≤ l1 ∧ l1 < 4096) ∧ (((bi σ 94 l1) = 0 → (bRg (l1 + 1) ∧ A (2, [.ref 12, .int (bn (l1 + 1)), v2], [], σ))) ∧ (¬ (bi σ 94 l1) = 0 → (((bi σ 95 l1) = 0 → (C 245 [.ref 12, .int (bn l1)] σ (bRn (fun r6 s4 => ((r6 = (-1) → (bRg (l1 + 1) ∧ A (2, [.ref 12, .int (bn (l1 + 1)), .int (bn r6)], [], (bw s4 99 l1 (-1))))) ∧ (¬ r6 = (-1) → (C 246 [.ref 12, .int (bn l1), .int (bn r6)] s4 (bRn (fun r11 s9 => (bRg (l1 + 1) ∧ A (2, [.ref 12, .int (bn (l1 + 1)), .int (bn r6)], [], (bw s9 99 l1 r11)))))))))))) ∧ (¬ (bi σ 95 l1) = 0 → (bRg (l1 + 1) ∧ A (2, [.ref 12, .int (bn (l1 + 1)), v2], [], σ)))))))) ∧ (¬ l1 < (256 * (bi σ 12 22)) → Q (.inl none) σ)))) : A (2, [.ref 12, .int (bn l1), v2], [], σ) := by
  refine bGo hA 0 2 (2, .iload_n 1, 1, 3, 0, [1], []) rfl rfl rfl ?_
  refine bGo hA 0 3 (3, .sipush (256), 3, 4, 0, [], [(256, 0)]) rfl rfl rfl ?_
  refine bEqI bl_256 ?_
  refine bGo hA 0 4 (6, .aload_n 0, 1, 5, 0, [0], []) rfl rfl rfl ?_
  refine bGo hA 0 5 (7, .getfield 380, 3, 6, 0, [12, 22, 0, 0, 0, 0], []) rfl rfl rfl ?_
  refine ⟨rfl, ?_⟩
  refine bEqI (bn_bi σ 12 22) ?_
  refine bGo hA 0 6 (10, .imul, 1, 7, 0, [], []) rfl rfl rfl ?_
  refine bEqI (bn_mul 256 (bi σ 12 22)) ?_
  refine bGo hA 0 7 (11, .if_icmp .ge (54), 3, 8, 37, [], []) rfl rfl rfl ?_
  refine bB_lt (x := l1) (y := (256 * (bi σ 12 22))) h_l1 h.1 (fun c1 => ?_) (fun c1 => ?_)
  · refine bGo hA 0 8 (14, .aload_n 0, 1, 9, 0, [0], []) rfl rfl rfl ?_
    refine bGo hA 0 9 (15, .getfield 125, 3, 10, 0, [12, 42, 3, 94, 1, 0], []) rfl rfl rfl ?_
    refine ⟨rfl, ?_⟩
    refine bGo hA 0 10 (18, .iload_n 1, 1, 11, 0, [1], []) rfl rfl rfl ?_
    refine bGo hA 0 11 (19, .baload, 1, 12, 0, [], []) rfl rfl rfl ?_
    refine ⟨rfl, (bIxP (x := l1) (n := 4096) h_l1 (h.2.1 c1).1), ?_⟩
    refine bEqL (x := l1) h_l1 ?_
    refine bGo hA 0 12 (20, .ifCond .eq (39), 3, 13, 35, [], []) rfl rfl rfl ?_
    refine bB_eq0 (x := (bi σ 94 l1)) (bi_rg _ _ _) (fun c2 => ?_) (fun c2 => ?_)
    · refine bGo hA 2 3 (59, .iinc 1 (1), 3, 36, 0, [1], [(1, 0)]) rfl rfl rfl ?_
      refine bEqC (fun v => A (36, [.ref 12, .int v, v2], [], σ)) ((congrArg (fun w => bn l1 + w) bl_1).trans (bn_add l1 1)) ?_
      refine bGo hA 2 4 (62, .goto (-60), 3, 37, 2, [], []) rfl rfl rfl ?_
      exact ((h.2.1 c1).2.1 c2).2
    · refine bGo hA 0 13 (23, .aload_n 0, 1, 14, 0, [0], []) rfl rfl rfl ?_
      refine bGo hA 0 14 (24, .getfield 128, 3, 15, 0, [12, 43, 3, 95, 1, 0], []) rfl rfl rfl ?_
      refine ⟨rfl, ?_⟩
      refine bGo hA 0 15 (27, .iload_n 1, 1, 16, 0, [1], []) rfl rfl rfl ?_
      refine bGo hA 1 0 (28, .iaload, 1, 17, 0, [], []) rfl rfl rfl ?_
      refine ⟨rfl, (bIxP (x := l1) (n := 4096) h_l1 (h.2.1 c1).1), ?_⟩
      refine bEqL (x := l1) h_l1 ?_
      refine bGo hA 1 1 (29, .ifCond .ne (30), 3, 18, 35, [], []) rfl rfl rfl ?_
      refine bB_eq0 (x := (bi σ 95 l1)) (bi_rg _ _ _) (fun c3 => ?_) (fun c3 => ?_)
      · refine bGo hA 1 2 (32, .aload_n 0, 1, 19, 0, [0], []) rfl rfl rfl ?_
        refine bGo hA 1 3 (33, .iload_n 1, 1, 20, 0, [1], []) rfl rfl rfl ?_
        refine bGo hA 1 4 (34, .invokevirtual 413, 3, 21, 0, [0, 12, 245, 1], []) rfl rfl rfl ?_
        refine ⟨rfl, ?_⟩
        refine hC _ _ _ _ _ (bRn_e (fun r6 s4 q7 k5 => ?_)) (((h.2.1 c1).2.2 c2).1 c3)
        show A (21, [.ref 12, .int (bn l1), v2], [.int (bn r6)], s4)
        refine bGo hA 1 5 (37, .istore_n 2, 1, 22, 0, [2], []) rfl rfl rfl ?_
        refine bGo hA 1 6 (38, .aload_n 0, 1, 23, 0, [0], []) rfl rfl rfl ?_
        refine bGo hA 1 7 (39, .getfield 140, 3, 24, 0, [12, 47, 3, 99, 1, 0], []) rfl rfl rfl ?_
        refine ⟨rfl, ?_⟩
        refine bGo hA 1 8 (42, .iload_n 1, 1, 25, 0, [1], []) rfl rfl rfl ?_
        refine bGo hA 1 9 (43, .iload_n 2, 1, 26, 0, [2], []) rfl rfl rfl ?_
        refine bGo hA 1 10 (44, .iconst (-1), 1, 27, 0, [], [(-1, 0)]) rfl rfl rfl ?_
        refine bEqI bl_m1 ?_
        refine bGo hA 1 11 (45, .if_icmp .ne (7), 3, 28, 30, [], []) rfl rfl rfl ?_
        refine bB_eq (x := r6) (y := (-1)) q7 (by decide : bRg (-1)) (fun c8 => ?_) (fun c8 => ?_)
        · refine bGo hA 1 12 (48, .iconst (-1), 1, 29, 0, [], [(-1, 0)]) rfl rfl rfl ?_
          refine bEqI bl_m1 ?_
          refine bGo hA 1 13 (49, .goto (9), 3, 30, 34, [], []) rfl rfl rfl ?_
          refine bGo hA 2 2 (58, .iastore, 1, 35, 0, [], []) rfl rfl rfl ?_
          refine ⟨rfl, (bIxP (x := l1) (n := 4096) h_l1 (h.2.1 c1).1), by decide, ?_⟩
          refine bEqS (x := l1) h_l1 ?_
          refine bGo hA 2 3 (59, .iinc 1 (1), 3, 36, 0, [1], [(1, 0)]) rfl rfl rfl ?_
          refine bEqC (fun v => A (36, [.ref 12, .int v, .int (bn r6)], [], (bw s4 99 l1 (-1)))) ((congrArg (fun w => bn l1 + w) bl_1).trans (bn_add l1 1)) ?_
          refine bGo hA 2 4 (62, .goto (-60), 3, 37, 2, [], []) rfl rfl rfl ?_
          exact (k5.1 c8).2
        · refine bGo hA 1 14 (52, .aload_n 0, 1, 31, 0, [0], []) rfl rfl rfl ?_
          refine bGo hA 1 15 (53, .iload_n 1, 1, 32, 0, [1], []) rfl rfl rfl ?_
          refine bGo hA 2 0 (54, .iload_n 2, 1, 33, 0, [2], []) rfl rfl rfl ?_
          refine bGo hA 2 1 (55, .invokevirtual 416, 3, 34, 0, [0, 12, 246, 2], []) rfl rfl rfl ?_
          refine ⟨rfl, ?_⟩
          refine hC _ _ _ _ _ (bRn_e (fun r11 s9 q12 k10 => ?_)) (k5.2 c8)
          show A (34, [.ref 12, .int (bn l1), .int (bn r6)], [.int (bn r11), .int (bn l1), .ref 99], s9)
          refine bGo hA 2 2 (58, .iastore, 1, 35, 0, [], []) rfl rfl rfl ?_
          refine ⟨rfl, (bIxP (x := l1) (n := 4096) h_l1 (h.2.1 c1).1), by decide, ?_⟩
          refine bEqS (x := l1) h_l1 ?_
          refine bGo hA 2 3 (59, .iinc 1 (1), 3, 36, 0, [1], [(1, 0)]) rfl rfl rfl ?_
          refine bEqC (fun v => A (36, [.ref 12, .int v, .int (bn r6)], [], (bw s9 99 l1 r11))) ((congrArg (fun w => bn l1 + w) bl_1).trans (bn_add l1 1)) ?_
          refine bGo hA 2 4 (62, .goto (-60), 3, 37, 2, [], []) rfl rfl rfl ?_
          exact k10.2
      · refine bGo hA 2 3 (59, .iinc 1 (1), 3, 36, 0, [1], [(1, 0)]) rfl rfl rfl ?_
        refine bEqC (fun v => A (36, [.ref 12, .int v, v2], [], σ)) ((congrArg (fun w => bn l1 + w) bl_1).trans (bn_add l1 1)) ?_
        refine bGo hA 2 4 (62, .goto (-60), 3, 37, 2, [], []) rfl rfl rfl ?_
        exact (((h.2.1 c1).2.2 c2).2 c3).2
  · refine bGo hA 2 5 (65, .return_, 1, 0, 0, [0], []) rfl rfl rfl ?_
    exact (h.2.2 c1)

theorem sq248_0 {lvl : Nat} {C : bCall} {Q : bPost} {A : bPt → Prop} (hC : bMono C) (hA : bClosed lvl bm248 C Q A) {x1 : Int} {σ : bSt}  (h_x1 : bRg x1)
  (h : (C 225 [.ref 12, .int (bn x1)] σ (bRn (fun r3 s1 => ((r3 = 0 → (C 197 [.ref 12, .int (bn 1)] s1 (bRn (fun r8 s6 => ((r8 = 0 → (C 249 [.ref 12, .int (bn x1)] s6 (bRn (fun r13 s11 => Q (.inl (some (.int (bn r13)))) s11)))) ∧ (¬ r8 = 0 → Q (.inl (some (.int (bn 0)))) s6)))))) ∧ (¬ r3 = 0 → (C 197 [.ref 12, .int (bn 0)] s1 (bRn (fun r17 s15 => ((r17 = 0 → (C 249 [.ref 12, .int (bn x1)] s15 (bRn (fun r22 s20 => Q (.inl (some (.int (bn r22)))) s20)))) ∧ (¬ r17 = 0 → Q (.inl (some (.int (bn 0)))) s15))))))))))) : A (0, [.ref 12, .int (bn x1)], [], σ) := by
  refine bGo hA 0 0 (0, .aload_n 0, 1, 1, 0, [0], []) rfl rfl rfl ?_
  refine bGo hA 0 1 (1, .aload_n 0, 1, 2, 0, [0], []) rfl rfl rfl ?_
  refine bGo hA 0 2 (2, .iload_n 1, 1, 3, 0, [1], []) rfl rfl rfl ?_
  refine bGo hA 0 3 (3, .invokevirtual 383, 3, 4, 0, [0, 12, 225, 1], []) rfl rfl rfl ?_
  refine ⟨rfl, ?_⟩
  refine hC _ _ _ _ _ (bRn_e (fun r3 s1 q4 k2 => ?_)) h
  show A (4, [.ref 12, .int (bn x1)], [.int (bn r3), .ref 12], s1)
  refine bGo hA 0 4 (6, .ifCond .eq (7), 3, 5, 7, [], []) rfl rfl rfl ?_
  refine bB_eq0 (x := r3) q4 (fun c5 => ?_) (fun c5 => ?_)
  · refine bGo hA 0 7 (13, .iconst (1), 1, 8, 0, [], [(1, 0)]) rfl rfl rfl ?_
    refine bEqI bl_1 ?_
    refine bGo hA 0 8 (14, .invokevirtual 333, 3, 9, 0, [0, 12, 197, 1], []) rfl rfl rfl ?_
    refine ⟨rfl, ?_⟩
    refine hC _ _ _ _ _ (bRn_e (fun r8 s6 q9 k7 => ?_)) (k2.1 c5)
    show A (9, [.ref 12, .int (bn x1)], [.int (bn r8)], s6)
    refine bGo hA 0 9 (17, .ifCond .eq (5), 3, 10, 12, [], []) rfl rfl rfl ?_
    refine bB_eq0 (x := r8) q9 (fun c10 => ?_) (fun c10 => ?_)
    · refine bGo hA 0 12 (22, .aload_n 0, 1, 13, 0, [0], []) rfl rfl rfl ?_
      refine bGo hA 0 13 (23, .iload_n 1, 1, 14, 0, [1], []) rfl rfl rfl ?_
      refine bGo hA 0 14 (24, .invokevirtual 419, 3, 15, 0, [0, 12, 249, 1], []) rfl rfl rfl ?_
      refine ⟨rfl, ?_⟩
      refine hC _ _ _ _ _ (bRn_e (fun r13 s11 q14 k12 => ?_)) (k7.1 c10)
      show A (15, [.ref 12, .int (bn x1)], [.int (bn r13)], s11)
      refine bGo hA 0 15 (27, .ireturn, 1, 0, 0, [1], []) rfl rfl rfl ?_
      exact k12
    · refine bGo hA 0 10 (20, .iconst (0), 1, 11, 0, [], [(0, 0)]) rfl rfl rfl ?_
      refine bEqI bl_0 ?_
      refine bGo hA 0 11 (21, .ireturn, 1, 12, 0, [1], []) rfl rfl rfl ?_
      exact (k7.2 c10)
  · refine bGo hA 0 5 (9, .iconst (0), 1, 6, 0, [], [(0, 0)]) rfl rfl rfl ?_
    refine bEqI bl_0 ?_
    refine bGo hA 0 6 (10, .goto (4), 3, 7, 8, [], []) rfl rfl rfl ?_
    refine bGo hA 0 8 (14, .invokevirtual 333, 3, 9, 0, [0, 12, 197, 1], []) rfl rfl rfl ?_
    refine ⟨rfl, ?_⟩
    refine hC _ _ _ _ _ (bRn_e (fun r17 s15 q18 k16 => ?_)) (k2.2 c5)
    show A (9, [.ref 12, .int (bn x1)], [.int (bn r17)], s15)
    refine bGo hA 0 9 (17, .ifCond .eq (5), 3, 10, 12, [], []) rfl rfl rfl ?_
    refine bB_eq0 (x := r17) q18 (fun c19 => ?_) (fun c19 => ?_)
    · refine bGo hA 0 12 (22, .aload_n 0, 1, 13, 0, [0], []) rfl rfl rfl ?_
      refine bGo hA 0 13 (23, .iload_n 1, 1, 14, 0, [1], []) rfl rfl rfl ?_
      refine bGo hA 0 14 (24, .invokevirtual 419, 3, 15, 0, [0, 12, 249, 1], []) rfl rfl rfl ?_
      refine ⟨rfl, ?_⟩
      refine hC _ _ _ _ _ (bRn_e (fun r22 s20 q23 k21 => ?_)) (k16.1 c19)
      show A (15, [.ref 12, .int (bn x1)], [.int (bn r22)], s20)
      refine bGo hA 0 15 (27, .ireturn, 1, 0, 0, [1], []) rfl rfl rfl ?_
      exact k21
    · refine bGo hA 0 10 (20, .iconst (0), 1, 11, 0, [], [(0, 0)]) rfl rfl rfl ?_
      refine bEqI bl_0 ?_
      refine bGo hA 0 11 (21, .ireturn, 1, 12, 0, [1], []) rfl rfl rfl ?_
      exact (k16.2 c19)

theorem sq249_0 {lvl : Nat} {C : bCall} {Q : bPost} {A : bPt → Prop} (hC : bMono C) (hA : bClosed lvl bm249 C Q A) {x1 : Int} {σ : bSt}  (h_x1 : bRg x1)
  (h : (C 241 [.ref 12, .int (bn (bShl 1 x1))] σ (bRv (fun s1 => (C 247 [.ref 12] s1 (bRv (fun s3 => (bRg (256 * x1) ∧ (C 238 [.ref 12] s3 (bRn (fun r7 s5 => (bRg ((256 * x1) + r7) ∧ ((0 ≤ ((256 * x1) + r7) ∧ ((256 * x1) + r7) < 4096) ∧ (((bi s5 95 ((256 * x1) + r7)) = 0 → Q (.inl (some (.int (bn (bi s5 99 ((256 * x1) + r7)))))) s5) ∧ (¬ (bi s5 95 ((256 * x1) + r7)) = 0 → Q (.inl (some (.int (bn (-1))))) s5))))))))))))))) : A (0, [.ref 12, .int (bn x1), .float 0], [], σ) := by
  refine bGo hA 0 0 (0, .aload_n 0, 1, 1, 0, [0], []) rfl rfl rfl ?_
  refine bGo hA 0 1 (1, .iconst (1), 1, 2, 0, [], [(1, 0)]) rfl rfl rfl ?_
  refine bEqI bl_1 ?_
  refine bGo hA 0 2 (2, .iload_n 1, 1, 3, 0, [1], []) rfl rfl rfl ?_
  refine bGo hA 0 3 (3, .ishl, 1, 4, 0, [], []) rfl rfl rfl ?_
  refine bEqI (bn_shl 1 x1) ?_
  refine bGo hA 0 4 (4, .invokevirtual 407, 3, 5, 0, [0, 12, 241, 1], []) rfl rfl rfl ?_
  refine ⟨rfl, ?_⟩
  refine hC _ _ _ _ _ (bRv_e (fun s1 k2 => ?_)) h
  show A (5, [.ref 12, .int (bn x1), .float 0], [], s1)
  refine bGo hA 0 5 (7, .aload_n 0, 1, 6, 0, [0], []) rfl rfl rfl ?_
  refine bGo hA 0 6 (8, .invokevirtual 422, 3, 7, 0, [0, 12, 247, 0], []) rfl rfl rfl ?_
  refine ⟨rfl, ?_⟩
  refine hC _ _ _ _ _ (bRv_e (fun s3 k4 => ?_)) k2
  show A (7, [.ref 12, .int (bn x1), .float 0], [], s3)
  refine bGo hA 0 7 (11, .sipush (256), 3, 8, 0, [], [(256, 0)]) rfl rfl rfl ?_
  refine bEqI bl_256 ?_
  refine bGo hA 0 8 (14, .iload_n 1, 1, 9, 0, [1], []) rfl rfl rfl ?_
  refine bGo hA 0 9 (15, .imul, 1, 10, 0, [], []) rfl rfl rfl ?_
  refine bEqI (bn_mul 256 x1) ?_
  refine bGo hA 0 10 (16, .aload_n 0, 1, 11, 0, [0], []) rfl rfl rfl ?_
  refine bGo hA 0 11 (17, .invokevirtual 394, 3, 12, 0, [0, 12, 238, 0], []) rfl rfl rfl ?_
  refine ⟨rfl, ?_⟩
  refine hC _ _ _ _ _ (bRn_e (fun r7 s5 q8 k6 => ?_)) k4.2
  show A (12, [.ref 12, .int (bn x1), .float 0], [.int (bn r7), .int (bn (256 * x1))], s5)
  refine bGo hA 0 12 (20, .iadd, 1, 13, 0, [], []) rfl rfl rfl ?_
  refine bEqI (bn_add (256 * x1) r7) ?_
  refine bGo hA 0 13 (21, .istore_n 2, 1, 14, 0, [2], []) rfl rfl rfl ?_
  refine bGo hA 0 14 (22, .aload_n 0, 1, 15, 0, [0], []) rfl rfl rfl ?_
  refine bGo hA 0 15 (23, .getfield 128, 3, 16, 0, [12, 43, 3, 95, 1, 0], []) rfl rfl rfl ?_
  refine ⟨rfl, ?_⟩
  refine bGo hA 1 0 (26, .iload_n 2, 1, 17, 0, [2], []) rfl rfl rfl ?_
  refine bGo hA 1 1 (27, .iaload, 1, 18, 0, [], []) rfl rfl rfl ?_
  refine ⟨rfl, (bIxP (x := ((256 * x1) + r7)) (n := 4096) k6.1 k6.2.1), ?_⟩
  refine bEqL (x := ((256 * x1) + r7)) k6.1 ?_
  refine bGo hA 1 2 (28, .ifCond .eq (7), 3, 19, 21, [], []) rfl rfl rfl ?_
  refine bB_eq0 (x := (bi s5 95 ((256 * x1) + r7))) (bi_rg _ _ _) (fun c9 => ?_) (fun c9 => ?_)
  · refine bGo hA 1 5 (35, .aload_n 0, 1, 22, 0, [0], []) rfl rfl rfl ?_
    refine bGo hA 1 6 (36, .getfield 140, 3, 23, 0, [12, 47, 3, 99, 1, 0], []) rfl rfl rfl ?_
    refine ⟨rfl, ?_⟩
    refine bGo hA 1 7 (39, .iload_n 2, 1, 24, 0, [2], []) rfl rfl rfl ?_
    refine bGo hA 1 8 (40, .iaload, 1, 25, 0, [], []) rfl rfl rfl ?_
    refine ⟨rfl, (bIxP (x := ((256 * x1) + r7)) (n := 4096) k6.1 k6.2.1), ?_⟩
    refine bEqL (x := ((256 * x1) + r7)) k6.1 ?_
    refine bGo hA 1 9 (41, .ireturn, 1, 0, 0, [1], []) rfl rfl rfl ?_
    exact (k6.2.2.1 c9)
  · refine bGo hA 1 3 (31, .iconst (-1), 1, 20, 0, [], [(-1, 0)]) rfl rfl rfl ?_
    refine bEqI bl_m1 ?_
    refine bGo hA 1 4 (32, .goto (9), 3, 21, 25, [], []) rfl rfl rfl ?_
    refine bGo hA 1 9 (41, .ireturn, 1, 0, 0, [1], []) rfl rfl rfl ?_
    exact (k6.2.2.2 c9)

theorem sq256_0 {lvl : Nat} {C : bCall} {Q : bPost} {A : bPt → Prop} (hC : bMono C) (hA : bClosed lvl bm256 C Q A) {x1 : Int} {σ : bSt}  (h_x1 : bRg x1)
  (h : (C 225 [.ref 12, .int (bn x1)] σ (bRn (fun r3 s1 => ((r3 = 0 → (C 197 [.ref 12, .int (bn 1)] s1 (bRn (fun r8 s6 => ((r8 = 0 → (C 249 [.ref 12, .int (bn x1)] s6 (bRn (fun r13 s11 => ((r13 = (-1) → Q (.inl (some (.int (bn (-1))))) s11) ∧ (¬ r13 = (-1) → ((0 ≤ r13 ∧ r13 < 120) ∧ (((bi s11 111 r13) = 0 → Q (.inl (some (.int (bn (-1))))) s11) ∧ (¬ (bi s11 111 r13) = 0 → Q (.inl (some (.int (bn (bi s11 112 r13))))) s11))))))))) ∧ (¬ r8 = 0 → Q (.inl (some (.int (bn 0)))) s6)))))) ∧ (¬ r3 = 0 → (C 197 [.ref 12, .int (bn 0)] s1 (bRn (fun r19 s17 => ((r19 = 0 → (C 249 [.ref 12, .int (bn x1)] s17 (bRn (fun r24 s22 => ((r24 = (-1) → Q (.inl (some (.int (bn (-1))))) s22) ∧ (¬ r24 = (-1) → ((0 ≤ r24 ∧ r24 < 120) ∧ (((bi s22 111 r24) = 0 → Q (.inl (some (.int (bn (-1))))) s22) ∧ (¬ (bi s22 111 r24) = 0 → Q (.inl (some (.int (bn (bi s22 112 r24))))) s22))))))))) ∧ (¬ r19 = 0 → Q (.inl (some (.int (bn 0)))) s17))))))))))) : A (0, [.ref 12, .int (bn x1), .float 0], [], σ) := by
  refine bGo hA 0 0 (0, .aload_n 0, 1, 1, 0, [0], []) rfl rfl rfl ?_
  refine bGo hA 0 1 (1, .aload_n 0, 1, 2, 0, [0], []) rfl rfl rfl ?_
  refine bGo hA 0 2 (2, .iload_n 1, 1, 3, 0, [1], []) rfl rfl rfl ?_
  refine bGo hA 0 3 (3, .invokevirtual 383, 3, 4, 0, [0, 12, 225, 1], []) rfl rfl rfl ?_
  refine ⟨rfl, ?_⟩
  refine hC _ _ _ _ _ (bRn_e (fun r3 s1 q4 k2 => ?_)) h
  show A (4, [.ref 12, .int (bn x1), .float 0], [.int (bn r3), .ref 12], s1)
  refine bGo hA 0 4 (6, .ifCond .eq (7), 3, 5, 7, [], []) rfl rfl rfl ?_
  refine bB_eq0 (x := r3) q4 (fun c5 => ?_) (fun c5 => ?_)
  · refine bGo hA 0 7 (13, .iconst (1), 1, 8, 0, [], [(1, 0)]) rfl rfl rfl ?_
    refine bEqI bl_1 ?_
    refine bGo hA 0 8 (14, .invokevirtual 333, 3, 9, 0, [0, 12, 197, 1], []) rfl rfl rfl ?_
    refine ⟨rfl, ?_⟩
    refine hC _ _ _ _ _ (bRn_e (fun r8 s6 q9 k7 => ?_)) (k2.1 c5)
    show A (9, [.ref 12, .int (bn x1), .float 0], [.int (bn r8)], s6)
    refine bGo hA 0 9 (17, .ifCond .eq (5), 3, 10, 12, [], []) rfl rfl rfl ?_
    refine bB_eq0 (x := r8) q9 (fun c10 => ?_) (fun c10 => ?_)
    · refine bGo hA 0 12 (22, .aload_n 0, 1, 13, 0, [0], []) rfl rfl rfl ?_
      refine bGo hA 0 13 (23, .iload_n 1, 1, 14, 0, [1], []) rfl rfl rfl ?_
      refine bGo hA 0 14 (24, .invokevirtual 419, 3, 15, 0, [0, 12, 249, 1], []) rfl rfl rfl ?_
      refine ⟨rfl, ?_⟩
      refine hC _ _ _ _ _ (bRn_e (fun r13 s11 q14 k12 => ?_)) (k7.1 c10)
      show A (15, [.ref 12, .int (bn x1), .float 0], [.int (bn r13)], s11)
      refine bGo hA 0 15 (27, .istore_n 2, 1, 16, 0, [2], []) rfl rfl rfl ?_
      refine bGo hA 1 0 (28, .iload_n 2, 1, 17, 0, [2], []) rfl rfl rfl ?_
      refine bGo hA 1 1 (29, .iconst (-1), 1, 18, 0, [], [(-1, 0)]) rfl rfl rfl ?_
      refine bEqI bl_m1 ?_
      refine bGo hA 1 2 (30, .if_icmp .eq (12), 3, 19, 24, [], []) rfl rfl rfl ?_
      refine bB_eq (x := r13) (y := (-1)) q14 (by decide : bRg (-1)) (fun c15 => ?_) (fun c15 => ?_)
      · refine bGo hA 1 8 (42, .iconst (-1), 1, 25, 0, [], [(-1, 0)]) rfl rfl rfl ?_
        refine bEqI bl_m1 ?_
        refine bGo hA 1 9 (43, .goto (9), 3, 26, 30, [], []) rfl rfl rfl ?_
        refine bGo hA 1 14 (52, .ireturn, 1, 0, 0, [1], []) rfl rfl rfl ?_
        exact (k12.1 c15)
      · refine bGo hA 1 3 (33, .aload_n 0, 1, 20, 0, [0], []) rfl rfl rfl ?_
        refine bGo hA 1 4 (34, .getfield 176, 3, 21, 0, [12, 60, 3, 111, 1, 0], []) rfl rfl rfl ?_
        refine ⟨rfl, ?_⟩
        refine bGo hA 1 5 (37, .iload_n 2, 1, 22, 0, [2], []) rfl rfl rfl ?_
        refine bGo hA 1 6 (38, .baload, 1, 23, 0, [], []) rfl rfl rfl ?_
        refine ⟨rfl, (bIxP (x := r13) (n := 120) q14 (k12.2 c15).1), ?_⟩
        refine bEqL (x := r13) q14 ?_
        refine bGo hA 1 7 (39, .ifCond .ne (7), 3, 24, 26, [], []) rfl rfl rfl ?_
        refine bB_eq0 (x := (bi s11 111 r13)) (bi_rg _ _ _) (fun c16 => ?_) (fun c16 => ?_)
        · refine bGo hA 1 8 (42, .iconst (-1), 1, 25, 0, [], [(-1, 0)]) rfl rfl rfl ?_
          refine bEqI bl_m1 ?_
          refine bGo hA 1 9 (43, .goto (9), 3, 26, 30, [], []) rfl rfl rfl ?_
          refine bGo hA 1 14 (52, .ireturn, 1, 0, 0, [1], []) rfl rfl rfl ?_
          exact ((k12.2 c15).2.1 c16)
        · refine bGo hA 1 10 (46, .aload_n 0, 1, 27, 0, [0], []) rfl rfl rfl ?_
          refine bGo hA 1 11 (47, .getfield 179, 3, 28, 0, [12, 61, 3, 112, 1, 0], []) rfl rfl rfl ?_
          refine ⟨rfl, ?_⟩
          refine bGo hA 1 12 (50, .iload_n 2, 1, 29, 0, [2], []) rfl rfl rfl ?_
          refine bGo hA 1 13 (51, .iaload, 1, 30, 0, [], []) rfl rfl rfl ?_
          refine ⟨rfl, (bIxP (x := r13) (n := 120) q14 (k12.2 c15).1), ?_⟩
          refine bEqL (x := r13) q14 ?_
          refine bGo hA 1 14 (52, .ireturn, 1, 0, 0, [1], []) rfl rfl rfl ?_
          exact ((k12.2 c15).2.2 c16)
    · refine bGo hA 0 10 (20, .iconst (0), 1, 11, 0, [], [(0, 0)]) rfl rfl rfl ?_
      refine bEqI bl_0 ?_
      refine bGo hA 0 11 (21, .ireturn, 1, 12, 0, [1], []) rfl rfl rfl ?_
      exact (k7.2 c10)
  · refine bGo hA 0 5 (9, .iconst (0), 1, 6, 0, [], [(0, 0)]) rfl rfl rfl ?_
    refine bEqI bl_0 ?_
    refine bGo hA 0 6 (10, .goto (4), 3, 7, 8, [], []) rfl rfl rfl ?_
    refine bGo hA 0 8 (14, .invokevirtual 333, 3, 9, 0, [0, 12, 197, 1], []) rfl rfl rfl ?_
    refine ⟨rfl, ?_⟩
    refine hC _ _ _ _ _ (bRn_e (fun r19 s17 q20 k18 => ?_)) (k2.2 c5)
    show A (9, [.ref 12, .int (bn x1), .float 0], [.int (bn r19)], s17)
    refine bGo hA 0 9 (17, .ifCond .eq (5), 3, 10, 12, [], []) rfl rfl rfl ?_
    refine bB_eq0 (x := r19) q20 (fun c21 => ?_) (fun c21 => ?_)
    · refine bGo hA 0 12 (22, .aload_n 0, 1, 13, 0, [0], []) rfl rfl rfl ?_
      refine bGo hA 0 13 (23, .iload_n 1, 1, 14, 0, [1], []) rfl rfl rfl ?_
      refine bGo hA 0 14 (24, .invokevirtual 419, 3, 15, 0, [0, 12, 249, 1], []) rfl rfl rfl ?_
      refine ⟨rfl, ?_⟩
      refine hC _ _ _ _ _ (bRn_e (fun r24 s22 q25 k23 => ?_)) (k18.1 c21)
      show A (15, [.ref 12, .int (bn x1), .float 0], [.int (bn r24)], s22)
      refine bGo hA 0 15 (27, .istore_n 2, 1, 16, 0, [2], []) rfl rfl rfl ?_
      refine bGo hA 1 0 (28, .iload_n 2, 1, 17, 0, [2], []) rfl rfl rfl ?_
      refine bGo hA 1 1 (29, .iconst (-1), 1, 18, 0, [], [(-1, 0)]) rfl rfl rfl ?_
      refine bEqI bl_m1 ?_
      refine bGo hA 1 2 (30, .if_icmp .eq (12), 3, 19, 24, [], []) rfl rfl rfl ?_
      refine bB_eq (x := r24) (y := (-1)) q25 (by decide : bRg (-1)) (fun c26 => ?_) (fun c26 => ?_)
      · refine bGo hA 1 8 (42, .iconst (-1), 1, 25, 0, [], [(-1, 0)]) rfl rfl rfl ?_
        refine bEqI bl_m1 ?_
        refine bGo hA 1 9 (43, .goto (9), 3, 26, 30, [], []) rfl rfl rfl ?_
        refine bGo hA 1 14 (52, .ireturn, 1, 0, 0, [1], []) rfl rfl rfl ?_
        exact (k23.1 c26)
      · refine bGo hA 1 3 (33, .aload_n 0, 1, 20, 0, [0], []) rfl rfl rfl ?_
        refine bGo hA 1 4 (34, .getfield 176, 3, 21, 0, [12, 60, 3, 111, 1, 0], []) rfl rfl rfl ?_
        refine ⟨rfl, ?_⟩
        refine bGo hA 1 5 (37, .iload_n 2, 1, 22, 0, [2], []) rfl rfl rfl ?_
        refine bGo hA 1 6 (38, .baload, 1, 23, 0, [], []) rfl rfl rfl ?_
        refine ⟨rfl, (bIxP (x := r24) (n := 120) q25 (k23.2 c26).1), ?_⟩
        refine bEqL (x := r24) q25 ?_
        refine bGo hA 1 7 (39, .ifCond .ne (7), 3, 24, 26, [], []) rfl rfl rfl ?_
        refine bB_eq0 (x := (bi s22 111 r24)) (bi_rg _ _ _) (fun c27 => ?_) (fun c27 => ?_)
        · refine bGo hA 1 8 (42, .iconst (-1), 1, 25, 0, [], [(-1, 0)]) rfl rfl rfl ?_
          refine bEqI bl_m1 ?_
          refine bGo hA 1 9 (43, .goto (9), 3, 26, 30, [], []) rfl rfl rfl ?_
          refine bGo hA 1 14 (52, .ireturn, 1, 0, 0, [1], []) rfl rfl rfl ?_
          exact ((k23.2 c26).2.1 c27)
        · refine bGo hA 1 10 (46, .aload_n 0, 1, 27, 0, [0], []) rfl rfl rfl ?_
          refine bGo hA 1 11 (47, .getfield 179, 3, 28, 0, [12, 61, 3, 112, 1, 0], []) rfl rfl rfl ?_
          refine ⟨rfl, ?_⟩
          refine bGo hA 1 12 (50, .iload_n 2, 1, 29, 0, [2], []) rfl rfl rfl ?_
          refine bGo hA 1 13 (51, .iaload, 1, 30, 0, [], []) rfl rfl rfl ?_
          refine ⟨rfl, (bIxP (x := r24) (n := 120) q25 (k23.2 c26).1), ?_⟩
          refine bEqL (x := r24) q25 ?_
          refine bGo hA 1 14 (52, .ireturn, 1, 0, 0, [1], []) rfl rfl rfl ?_
          exact ((k23.2 c26).2.2 c27)
    · refine bGo hA 0 10 (20, .iconst (0), 1, 11, 0, [], [(0, 0)]) rfl rfl rfl ?_
      refine bEqI bl_0 ?_
      refine bGo hA 0 11 (21, .ireturn, 1, 12, 0, [1], []) rfl rfl rfl ?_
      exact (k18.2 c21)

theorem sq263_0 {lvl : Nat} {C : bCall} {Q : bPost} {A : bPt → Prop} (hC : bMono C) (hA : bClosed lvl bm263 C Q A) {x1 : Int} {σ : bSt}  (h_x1 : bRg x1)
  (h : (C 225 [.ref 12, .int (bn x1)] σ (bRn (fun r3 s1 => ((r3 = 0 → (C 197 [.ref 12, .int (bn 1)] s1 (bRn (fun r8 s6 => ((r8 = 0 → (C 241 [.ref 12, .int (bn (bShl 1 x1))] s6 (bRv (fun s11 => A (19, [.ref 12, .int (bn x1), .int (bn 0)], [], s11))))) ∧ (¬ r8 = 0 → Q (.inl (some (.int (bn 0)))) s6)))))) ∧ (¬ r3 = 0 → (C 197 [.ref 12, .int (bn 0)] s1 (bRn (fun r15 s13 => ((r15 = 0 → (C 241 [.ref 12, .int (bn (bShl 1 x1))] s13 (bRv (fun s18 => A (19, [.ref 12, .int (bn x1), .int (bn 0)], [], s18))))) ∧ (¬ r15 = 0 → Q (.inl (some (.int (bn 0)))) s13))))))))))) : A (0, [.ref 12, .int (bn x1), .float 0], [], σ) := by
  refine bGo hA 0 0 (0, .aload_n 0, 1, 1, 0, [0], []) rfl rfl rfl ?_
  refine bGo hA 0 1 (1, .aload_n 0, 1, 2, 0, [0], []) rfl rfl rfl ?_
  refine bGo hA 0 2 (2, .iload_n 1, 1, 3, 0, [1], []) rfl rfl rfl ?_
  refine bGo hA 0 3 (3, .invokevirtual 383, 3, 4, 0, [0, 12, 225, 1], []) rfl rfl rfl ?_
  refine ⟨rfl, ?_⟩
  refine hC _ _ _ _ _ (bRn_e (fun r3 s1 q4 k2 => ?_)) h
  show A (4, [.ref 12, .int (bn x1), .float 0], [.int (bn r3), .ref 12], s1)
  refine bGo hA 0 4 (6, .ifCond .eq (7), 3, 5, 7, [], []) rfl rfl rfl ?_
  refine bB_eq0 (x := r3) q4 (fun c5 => ?_) (fun c5 => ?_)
  · refine bGo hA 0 7 (13, .iconst (1), 1, 8, 0, [], [(1, 0)]) rfl rfl rfl ?_
    refine bEqI bl_1 ?_
    refine bGo hA 0 8 (14, .invokevirtual 333, 3, 9, 0, [0, 12, 197, 1], []) rfl rfl rfl ?_
    refine ⟨rfl, ?_⟩
    refine hC _ _ _ _ _ (bRn_e (fun r8 s6 q9 k7 => ?_)) (k2.1 c5)
    show A (9, [.ref 12, .int (bn x1), .float 0], [.int (bn r8)], s6)
    refine bGo hA 0 9 (17, .ifCond .eq (5), 3, 10, 12, [], []) rfl rfl rfl ?_
    refine bB_eq0 (x := r8) q9 (fun c10 => ?_) (fun c10 => ?_)
    · refine bGo hA 0 12 (22, .aload_n 0, 1, 13, 0, [0], []) rfl rfl rfl ?_
      refine bGo hA 0 13 (23, .iconst (1), 1, 14, 0, [], [(1, 0)]) rfl rfl rfl ?_
      refine bEqI bl_1 ?_
      refine bGo hA 0 14 (24, .iload_n 1, 1, 15, 0, [1], []) rfl rfl rfl ?_
      refine bGo hA 0 15 (25, .ishl, 1, 16, 0, [], []) rfl rfl rfl ?_
      refine bEqI (bn_shl 1 x1) ?_
      refine bGo hA 1 0 (26, .invokevirtual 407, 3, 17, 0, [0, 12, 241, 1], []) rfl rfl rfl ?_
      refine ⟨rfl, ?_⟩
      refine hC _ _ _ _ _ (bRv_e (fun s11 k12 => ?_)) (k7.1 c10)
      show A (17, [.ref 12, .int (bn x1), .float 0], [], s11)
      refine bGo hA 1 1 (29, .iconst (0), 1, 18, 0, [], [(0, 0)]) rfl rfl rfl ?_
      refine bEqI bl_0 ?_
      refine bGo hA 1 2 (30, .istore_n 2, 1, 19, 0, [2], []) rfl rfl rfl ?_
      exact k12
    · refine bGo hA 0 10 (20, .iconst (0), 1, 11, 0, [], [(0, 0)]) rfl rfl rfl ?_
      refine bEqI bl_0 ?_
      refine bGo hA 0 11 (21, .ireturn, 1, 12, 0, [1], []) rfl rfl rfl ?_
      exact (k7.2 c10)
  · refine bGo hA 0 5 (9, .iconst (0), 1, 6, 0, [], [(0, 0)]) rfl rfl rfl ?_
    refine bEqI bl_0 ?_
    refine bGo hA 0 6 (10, .goto (4), 3, 7, 8, [], []) rfl rfl rfl ?_
    refine bGo hA 0 8 (14, .invokevirtual 333, 3, 9, 0, [0, 12, 197, 1], []) rfl rfl rfl ?_
    refine ⟨rfl, ?_⟩
    refine hC _ _ _ _ _ (bRn_e (fun r15 s13 q16 k14 => ?_)) (k2.2 c5)
    show A (9, [.ref 12, .int (bn x1), .float 0], [.int (bn r15)], s13)
    refine bGo hA 0 9 (17, .ifCond .eq (5), 3, 10, 12, [], []) rfl rfl rfl ?_
    refine bB_eq0 (x := r15) q16 (fun c17 => ?_) (fun c17 => ?_)
    · refine bGo hA 0 12 (22, .aload_n 0, 1, 13, 0, [0], []) rfl rfl rfl ?_
      refine bGo hA 0 13 (23, .iconst (1), 1, 14, 0, [], [(1, 0)]) rfl rfl rfl ?_
      refine bEqI bl_1 ?_
      refine bGo hA 0 14 (24, .iload_n 1, 1, 15, 0, [1], []) rfl rfl rfl ?_
      refine bGo hA 0 15 (25, .ishl, 1, 16, 0, [], []) rfl rfl rfl ?_
      refine bEqI (bn_shl 1 x1) ?_
      refine bGo hA 1 0 (26, .invokevirtual 407, 3, 17, 0, [0, 12, 241, 1], []) rfl rfl rfl ?_
      refine ⟨rfl, ?_⟩
      refine hC _ _ _ _ _ (bRv_e (fun s18 k19 => ?_)) (k14.1 c17)
      show A (17, [.ref 12, .int (bn x1), .float 0], [], s18)
      refine bGo hA 1 1 (29, .iconst (0), 1, 18, 0, [], [(0, 0)]) rfl rfl rfl ?_
      refine bEqI bl_0 ?_
      refine bGo hA 1 2 (30, .istore_n 2, 1, 19, 0, [2], []) rfl rfl rfl ?_
      exact k19
    · refine bGo hA 0 10 (20, .iconst (0), 1, 11, 0, [], [(0, 0)]) rfl rfl rfl ?_
      refine bEqI bl_0 ?_
      refine bGo hA 0 11 (21, .ireturn, 1, 12, 0, [1], []) rfl rfl rfl ?_
      exact (k14.2 c17)

theorem sq263_19 {lvl : Nat} {C : bCall} {Q : bPost} {A : bPt → Prop} (hC : bMono C) (hA : bClosed lvl bm263 C Q A) {l1 : Int} {l2 : Int} {σ : bSt}  (h_l1 : bRg l1) (h_l2 : bRg l2)
  (h : (bRg (256 * (bi σ 12 22)) ∧ ((l2 < (256 * (bi σ 12 22)) → ((0 ≤ l2 ∧ l2 < 4096) ∧ (((bi σ 94 l2) = 0 → (bRg (l2 + 1) ∧ A (19, [.ref 12, .int (bn l1), .int (bn (l2 + 1))], [], σ))) ∧ (¬ (bi σ 94 l2) = 0 → (((bi σ 95 l2) = 0 → (C 264 [.ref 12, .int (bn l2)] σ (bRn (fun r6 s4 => (bRg (l2 + 1) ∧ A (19, [.ref 12, .int (bn l1), .int (bn (l2 + 1))], [], (bw s4 100 l2 r6))))))) ∧ (¬ (bi σ 95 l2) = 0 → (bRg (l2 + 1) ∧ A (19, [.ref 12, .int (bn l1), .int (bn (l2 + 1))], [], (bw σ 100 l2 (-5)))))))))) ∧ (¬ l2 < (256 * (bi σ 12 22)) → (bRg (256 * l1) ∧ (C 238 [.ref 12] σ (bRn (fun r10 s8 => (bRg ((256 * l1) + r10) ∧ ((0 ≤ ((256 * l1) + r10) ∧ ((256 * l1) + r10) < 4096) ∧ (((bi s8 100 ((256 * l1) + r10)) = (-5) → Q (.inl (some (.int (bn (-1))))) s8) ∧ (¬ (bi s8 100 ((256 * l1) + r10)) = (-5) → Q (.inl (some (.int (bn (bi s8 100 ((256 * l1) + r10)))))) s8)))))))))))) : A (19, [.ref 12, .int (bn l1), .int (bn l2)], [], σ) := by
  refine bGo hA 1 3 (31, .iload_n 2, 1, 20, 0, [2], []) rfl rfl rfl ?_
  refine bGo hA 1 4 (32, .sipush (256), 3, 21, 0, [], [(256, 0)]) rfl rfl rfl ?_
  refine bEqI bl_256 ?_
  refine bGo hA 1 5 (35, .aload_n 0, 1, 22, 0, [0], []) rfl rfl rfl ?_
  refine bGo hA 1 6 (36, .getfield 380, 3, 23, 0, [12, 22, 0, 0, 0, 0], []) rfl rfl rfl ?_
  refine ⟨rfl, ?_⟩
  refine bEqI (bn_bi σ 12 22) ?_
  refine bGo hA 1 7 (39, .imul, 1, 24, 0, [], []) rfl rfl rfl ?_
  refine bEqI (bn_mul 256 (bi σ 12 22)) ?_
  refine bGo hA 1 8 (40, .if_icmp .ge (43), 3, 25, 46, [], []) rfl rfl rfl ?_
  refine bB_lt (x := l2) (y := (256 * (bi σ 12 22))) h_l2 h.1 (fun c1 => ?_) (fun c1 => ?_)
  · refine bGo hA 1 9 (43, .aload_n 0, 1, 26, 0, [0], []) rfl rfl rfl ?_
    refine bGo hA 1 10 (44, .getfield 125, 3, 27, 0, [12, 42, 3, 94, 1, 0], []) rfl rfl rfl ?_
    refine ⟨rfl, ?_⟩
    refine bGo hA 1 11 (47, .iload_n 2, 1, 28, 0, [2], []) rfl rfl rfl ?_
    refine bGo hA 1 12 (48, .baload, 1, 29, 0, [], []) rfl rfl rfl ?_
    refine ⟨rfl, (bIxP (x := l2) (n := 4096) h_l2 (h.2.1 c1).1), ?_⟩
    refine bEqL (x := l2) h_l2 ?_
    refine bGo hA 1 13 (49, .ifCond .eq (28), 3, 30, 44, [], []) rfl rfl rfl ?_
    refine bB_eq0 (x := (bi σ 94 l2)) (bi_rg _ _ _) (fun c2 => ?_) (fun c2 => ?_)
    · refine bGo hA 2 12 (77, .iinc 2 (1), 3, 45, 0, [2], [(1, 0)]) rfl rfl rfl ?_
      refine bEqC (fun v => A (45, [.ref 12, .int (bn l1), .int v], [], σ)) ((congrArg (fun w => bn l2 + w) bl_1).trans (bn_add l2 1)) ?_
      refine bGo hA 2 13 (80, .goto (-49), 3, 46, 19, [], []) rfl rfl rfl ?_
      exact ((h.2.1 c1).2.1 c2).2
    · refine bGo hA 1 14 (52, .aload_n 0, 1, 31, 0, [0], []) rfl rfl rfl ?_
      refine bGo hA 1 15 (53, .getfield 143, 3, 32, 0, [12, 48, 3, 100, 1, 0], []) rfl rfl rfl ?_
      refine ⟨rfl, ?_⟩
      refine bGo hA 2 0 (56, .iload_n 2, 1, 33, 0, [2], []) rfl rfl rfl ?_
      refine bGo hA 2 1 (57, .aload_n 0, 1, 34, 0, [0], []) rfl rfl rfl ?_
      refine bGo hA 2 2 (58, .getfield 128, 3, 35, 0, [12, 43, 3, 95, 1, 0], []) rfl rfl rfl ?_
      refine ⟨rfl, ?_⟩
      refine bGo hA 2 3 (61, .iload_n 2, 1, 36, 0, [2], []) rfl rfl rfl ?_
      refine bGo hA 2 4 (62, .iaload, 1, 37, 0, [], []) rfl rfl rfl ?_
      refine ⟨rfl, (bIxP (x := l2) (n := 4096) h_l2 (h.2.1 c1).1), ?_⟩
      refine bEqL (x := l2) h_l2 ?_
      refine bGo hA 2 5 (63, .ifCond .ne (11), 3, 38, 42, [], []) rfl rfl rfl ?_
      refine bB_eq0 (x := (bi σ 95 l2)) (bi_rg _ _ _) (fun c3 => ?_) (fun c3 => ?_)
      · refine bGo hA 2 6 (66, .aload_n 0, 1, 39, 0, [0], []) rfl rfl rfl ?_
        refine bGo hA 2 7 (67, .iload_n 2, 1, 40, 0, [2], []) rfl rfl rfl ?_
        refine bGo hA 2 8 (68, .invokevirtual 452, 3, 41, 0, [0, 12, 264, 1], []) rfl rfl rfl ?_
        refine ⟨rfl, ?_⟩
        refine hC _ _ _ _ _ (bRn_e (fun r6 s4 q7 k5 => ?_)) (((h.2.1 c1).2.2 c2).1 c3)
        show A (41, [.ref 12, .int (bn l1), .int (bn l2)], [.int (bn r6), .int (bn l2), .ref 100], s4)
        refine bGo hA 2 9 (71, .goto (5), 3, 42, 43, [], []) rfl rfl rfl ?_
        refine bGo hA 2 11 (76, .iastore, 1, 44, 0, [], []) rfl rfl rfl ?_
        refine ⟨rfl, (bIxP (x := l2) (n := 4096) h_l2 (h.2.1 c1).1), by decide, ?_⟩
        refine bEqS (x := l2) h_l2 ?_
        refine bGo hA 2 12 (77, .iinc 2 (1), 3, 45, 0, [2], [(1, 0)]) rfl rfl rfl ?_
        refine bEqC (fun v => A (45, [.ref 12, .int (bn l1), .int v], [], (bw s4 100 l2 r6))) ((congrArg (fun w => bn l2 + w) bl_1).trans (bn_add l2 1)) ?_
        refine bGo hA 2 13 (80, .goto (-49), 3, 46, 19, [], []) rfl rfl rfl ?_
        exact k5.2
      · refine bGo hA 2 10 (74, .bipush (-5), 2, 43, 0, [], [(-5, 0)]) rfl rfl rfl ?_
        refine bEqI bl_m5 ?_
        refine bGo hA 2 11 (76, .iastore, 1, 44, 0, [], []) rfl rfl rfl ?_
        refine ⟨rfl, (bIxP (x := l2) (n := 4096) h_l2 (h.2.1 c1).1), by decide, ?_⟩
        refine bEqS (x := l2) h_l2 ?_
        refine bGo hA 2 12 (77, .iinc 2 (1), 3, 45, 0, [2], [(1, 0)]) rfl rfl rfl ?_
        refine bEqC (fun v => A (45, [.ref 12, .int (bn l1), .int v], [], (bw σ 100 l2 (-5)))) ((congrArg (fun w => bn l2 + w) bl_1).trans (bn_add l2 1)) ?_
        refine bGo hA 2 13 (80, .goto (-49), 3, 46, 19, [], []) rfl rfl rfl ?_
        exact (((h.2.1 c1).2.2 c2).2 c3).2
  · refine bGo hA 2 14 (83, .aload_n 0, 1, 47, 0, [0], []) rfl rfl rfl ?_
    refine bGo hA 2 15 (84, .getfield 143, 3, 48, 0, [12, 48, 3, 100, 1, 0], []) rfl rfl rfl ?_
    refine ⟨rfl, ?_⟩
    refine bGo hA 3 0 (87, .sipush (256), 3, 49, 0, [], [(256, 0)]) rfl rfl rfl ?_
    refine bEqI bl_256 ?_
    refine bGo hA 3 1 (90, .iload_n 1, 1, 50, 0, [1], []) rfl rfl rfl ?_
    refine bGo hA 3 2 (91, .imul, 1, 51, 0, [], []) rfl rfl rfl ?_
    refine bEqI (bn_mul 256 l1) ?_
    refine bGo hA 3 3 (92, .aload_n 0, 1, 52, 0, [0], []) rfl rfl rfl ?_
    refine bGo hA 3 4 (93, .invokevirtual 394, 3, 53, 0, [0, 12, 238, 0], []) rfl rfl rfl ?_
    refine ⟨rfl, ?_⟩
    refine hC _ _ _ _ _ (bRn_e (fun r10 s8 q11 k9 => ?_)) (h.2.2 c1).2
    show A (53, [.ref 12, .int (bn l1), .int (bn l2)], [.int (bn r10), .int (bn (256 * l1)), .ref 100], s8)
    refine bGo hA 3 5 (96, .iadd, 1, 54, 0, [], []) rfl rfl rfl ?_
    refine bEqI (bn_add (256 * l1) r10) ?_
    refine bGo hA 3 6 (97, .iaload, 1, 55, 0, [], []) rfl rfl rfl ?_
    refine ⟨rfl, (bIxP (x := ((256 * l1) + r10)) (n := 4096) k9.1 k9.2.1), ?_⟩
    refine bEqL (x := ((256 * l1) + r10)) k9.1 ?_
    refine bGo hA 3 7 (98, .istore_n 2, 1, 56, 0, [2], []) rfl rfl rfl ?_
    refine bGo hA 3 8 (99, .iload_n 2, 1, 57, 0, [2], []) rfl rfl rfl ?_
    refine bGo hA 3 9 (100, .bipush (-5), 2, 58, 0, [], [(-5, 0)]) rfl rfl rfl ?_
    refine bEqI bl_m5 ?_
    refine bGo hA 3 10 (102, .if_icmp .ne (7), 3, 59, 61, [], []) rfl rfl rfl ?_
    refine bB_eq (x := (bi s8 100 ((256 * l1) + r10))) (y := (-5)) (bi_rg _ _ _) (by decide : bRg (-5)) (fun c12 => ?_) (fun c12 => ?_)
    · refine bGo hA 3 11 (105, .iconst (-1), 1, 60, 0, [], [(-1, 0)]) rfl rfl rfl ?_
      refine bEqI bl_m1 ?_
      refine bGo hA 3 12 (106, .goto (4), 3, 61, 62, [], []) rfl rfl rfl ?_
      refine bGo hA 3 14 (110, .ireturn, 1, 0, 0, [1], []) rfl rfl rfl ?_
      exact (k9.2.2.1 c12)
    · refine bGo hA 3 13 (109, .iload_n 2, 1, 62, 0, [2], []) rfl rfl rfl ?_
      refine bGo hA 3 14 (110, .ireturn, 1, 0, 0, [1], []) rfl rfl rfl ?_
      exact (k9.2.2.2 c12)


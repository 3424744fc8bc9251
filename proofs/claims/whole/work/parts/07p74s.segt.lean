/-! segments of methods 129-134,153-155,222-224,239, by program (wip/whole/gen13.py): from a cut of a method on to the next cuts -/
theorem sq129_0 {lvl : Nat} {C : bCall} {Q : bPost} {A : bPt → Prop} (hC : bMono C) (hA : bClosed lvl bm129 C Q A) {x0 : Int} {x1 : Int} {σ : bSt}  (h_x0 : bRg x0) (h_x1 : bRg x1)
  (h : (bRg (2 * x1) ∧ Q (.inl (some (.int (bn (bAnd (bShr x0 (bAnd (2 * x1) 7)) 3))))) σ)) : A (0, [.int (bn x0), .int (bn x1)], [], σ) := by
  refine bGo hA 0 0 (0, .iload_n 0, 1, 1, 0, [0], []) rfl rfl rfl ?_
  refine bGo hA 0 1 (1, .iconst (2), 1, 2, 0, [], [(2, 0)]) rfl rfl rfl ?_
  refine bEqI bl_2 ?_
  refine bGo hA 0 2 (2, .iload_n 1, 1, 3, 0, [1], []) rfl rfl rfl ?_
  refine bGo hA 0 3 (3, .imul, 1, 4, 0, [], []) rfl rfl rfl ?_
  refine bEqI (bn_mul 2 x1) ?_
  refine bGo hA 0 4 (4, .bipush (7), 2, 5, 0, [], [(7, 0)]) rfl rfl rfl ?_
  refine bEqI bl_7 ?_
  refine bGo hA 0 5 (6, .iand, 1, 6, 0, [], []) rfl rfl rfl ?_
  refine bEqI (bn_and (2 * x1) 7) ?_
  refine bGo hA 0 6 (7, .ishr, 1, 7, 0, [], []) rfl rfl rfl ?_
  refine bEqI (bn_shr x0 (bAnd (2 * x1) 7)) ?_
  refine bGo hA 0 7 (8, .iconst (3), 1, 8, 0, [], [(3, 0)]) rfl rfl rfl ?_
  refine bEqI bl_3 ?_
  refine bGo hA 0 8 (9, .iand, 1, 9, 0, [], []) rfl rfl rfl ?_
  refine bEqI (bn_and (bShr x0 (bAnd (2 * x1) 7)) 3) ?_
  refine bGo hA 0 9 (10, .ireturn, 1, 0, 0, [1], []) rfl rfl rfl ?_
  exact h.2

theorem sq130_0 {lvl : Nat} {C : bCall} {Q : bPost} {A : bPt → Prop} (hC : bMono C) (hA : bClosed lvl bm130 C Q A) {x0 : Int} {x1 : Int} {x2 : Int} {σ : bSt}  (h_x0 : bRg x0) (h_x1 : bRg x1) (h_x2 : bRg x2)
  (h : (bRg (2 * x1) ∧ Q (.inl (some (.int (bn (bOr (bAnd x0 (bXor (bShl 3 (bAnd (2 * x1) 7)) (-1))) (bShl x2 (bAnd (2 * x1) 7))))))) σ)) : A (0, [.int (bn x0), .int (bn x1), .int (bn x2), .float 0], [], σ) := by
  refine bGo hA 0 0 (0, .iconst (2), 1, 1, 0, [], [(2, 0)]) rfl rfl rfl ?_
  refine bEqI bl_2 ?_
  refine bGo hA 0 1 (1, .iload_n 1, 1, 2, 0, [1], []) rfl rfl rfl ?_
  refine bGo hA 0 2 (2, .imul, 1, 3, 0, [], []) rfl rfl rfl ?_
  refine bEqI (bn_mul 2 x1) ?_
  refine bGo hA 0 3 (3, .bipush (7), 2, 4, 0, [], [(7, 0)]) rfl rfl rfl ?_
  refine bEqI bl_7 ?_
  refine bGo hA 0 4 (5, .iand, 1, 5, 0, [], []) rfl rfl rfl ?_
  refine bEqI (bn_and (2 * x1) 7) ?_
  refine bGo hA 0 5 (6, .istore_n 3, 1, 6, 0, [3], []) rfl rfl rfl ?_
  refine bGo hA 0 6 (7, .iload_n 0, 1, 7, 0, [0], []) rfl rfl rfl ?_
  refine bGo hA 0 7 (8, .iconst (3), 1, 8, 0, [], [(3, 0)]) rfl rfl rfl ?_
  refine bEqI bl_3 ?_
  refine bGo hA 0 8 (9, .iload_n 3, 1, 9, 0, [3], []) rfl rfl rfl ?_
  refine bGo hA 0 9 (10, .ishl, 1, 10, 0, [], []) rfl rfl rfl ?_
  refine bEqI (bn_shl 3 (bAnd (2 * x1) 7)) ?_
  refine bGo hA 0 10 (11, .iconst (-1), 1, 11, 0, [], [(-1, 0)]) rfl rfl rfl ?_
  refine bEqI bl_m1 ?_
  refine bGo hA 0 11 (12, .ixor, 1, 12, 0, [], []) rfl rfl rfl ?_
  refine bEqI (bn_xor (bShl 3 (bAnd (2 * x1) 7)) (-1)) ?_
  refine bGo hA 0 12 (13, .iand, 1, 13, 0, [], []) rfl rfl rfl ?_
  refine bEqI (bn_and x0 (bXor (bShl 3 (bAnd (2 * x1) 7)) (-1))) ?_
  refine bGo hA 0 13 (14, .iload_n 2, 1, 14, 0, [2], []) rfl rfl rfl ?_
  refine bGo hA 0 14 (15, .iload_n 3, 1, 15, 0, [3], []) rfl rfl rfl ?_
  refine bGo hA 0 15 (16, .ishl, 1, 16, 0, [], []) rfl rfl rfl ?_
  refine bEqI (bn_shl x2 (bAnd (2 * x1) 7)) ?_
  refine bGo hA 1 0 (17, .ior, 1, 17, 0, [], []) rfl rfl rfl ?_
  refine bEqI (bn_or (bAnd x0 (bXor (bShl 3 (bAnd (2 * x1) 7)) (-1))) (bShl x2 (bAnd (2 * x1) 7))) ?_
  refine bGo hA 1 1 (18, .ireturn, 1, 0, 0, [1], []) rfl rfl rfl ?_
  exact h.2

theorem sq131_0 {lvl : Nat} {C : bCall} {Q : bPost} {A : bPt → Prop} (hC : bMono C) (hA : bClosed lvl bm131 C Q A) {x1 : Int} {x2 : Int} {σ : bSt}  (h_x1 : bRg x1) (h_x2 : bRg x2)
  (h : (C 129 [.int (bn (bi σ 10 0)), .int (bn x1)] σ (bRn (fun r3 s1 => (C 130 [.int (bn (bi s1 10 0)), .int (bn x1), .int (bn x2)] s1 (bRn (fun r7 s5 => Q (.inl (some (.int (bn r3)))) (bw s5 10 0 r7)))))))) : A (0, [.ref 10, .int (bn x1), .int (bn x2), .float 0], [], σ) := by
  refine bGo hA 0 0 (0, .aload_n 0, 1, 1, 0, [0], []) rfl rfl rfl ?_
  refine bGo hA 0 1 (1, .getfield 24, 3, 2, 0, [10, 0, 0, 0, 0, 0], []) rfl rfl rfl ?_
  refine ⟨rfl, ?_⟩
  refine bEqI (bn_bi σ 10 0) ?_
  refine bGo hA 0 2 (4, .iload_n 1, 1, 3, 0, [1], []) rfl rfl rfl ?_
  refine bGo hA 0 3 (5, .invokestatic 28, 3, 4, 0, [2, 129, 2], []) rfl rfl rfl ?_
  refine hC _ _ _ _ _ (bRn_e (fun r3 s1 q4 k2 => ?_)) h
  show A (4, [.ref 10, .int (bn x1), .int (bn x2), .float 0], [.int (bn r3)], s1)
  refine bGo hA 0 4 (8, .istore_n 3, 1, 5, 0, [3], []) rfl rfl rfl ?_
  refine bGo hA 0 5 (9, .aload_n 0, 1, 6, 0, [0], []) rfl rfl rfl ?_
  refine bGo hA 0 6 (10, .aload_n 0, 1, 7, 0, [0], []) rfl rfl rfl ?_
  refine bGo hA 0 7 (11, .getfield 24, 3, 8, 0, [10, 0, 0, 0, 0, 0], []) rfl rfl rfl ?_
  refine ⟨rfl, ?_⟩
  refine bEqI (bn_bi s1 10 0) ?_
  refine bGo hA 0 8 (14, .iload_n 1, 1, 9, 0, [1], []) rfl rfl rfl ?_
  refine bGo hA 0 9 (15, .iload_n 2, 1, 10, 0, [2], []) rfl rfl rfl ?_
  refine bGo hA 0 10 (16, .invokestatic 32, 3, 11, 0, [2, 130, 3], []) rfl rfl rfl ?_
  refine hC _ _ _ _ _ (bRn_e (fun r7 s5 q8 k6 => ?_)) k2
  show A (11, [.ref 10, .int (bn x1), .int (bn x2), .int (bn r3)], [.int (bn r7), .ref 10], s5)
  refine bGo hA 0 11 (19, .putfield 24, 3, 12, 0, [10, 0, 0, 0, 0, 0], []) rfl rfl rfl ?_
  refine ⟨rfl, ?_⟩
  refine bGo hA 0 12 (22, .iload_n 3, 1, 13, 0, [3], []) rfl rfl rfl ?_
  refine bGo hA 0 13 (23, .ireturn, 1, 0, 0, [1], []) rfl rfl rfl ?_
  exact k6

theorem sq132_0 {lvl : Nat} {C : bCall} {Q : bPost} {A : bPt → Prop} (hC : bMono C) (hA : bClosed lvl bm132 C Q A) {x1 : Int} {x2 : Int} {x3 : Int} {x4 : Int} {σ : bSt}  (h_x1 : bRg x1) (h_x2 : bRg x2) (h_x3 : bRg x3) (h_x4 : bRg x4)
  (h : (C 141 [.ref 52, .int (bn (bi σ 10 1)), .int (bn x1)] σ (bRv (fun s1 => (C 141 [.ref 53, .int (bn (bi s1 10 1)), .int (bn x2)] s1 (bRv (fun s3 => (C 141 [.ref 54, .int (bn (bi s3 10 1)), .int (bn x3)] s3 (bRv (fun s5 => (C 141 [.ref 55, .int (bn (bi s5 10 1)), .int (bn x4)] s5 (bRv (fun s7 => (bRg ((bi s7 10 1) + 1) ∧ Q (.inl (some (.int (bn ((bi s7 10 1) + 1))))) (bw s7 10 1 ((bi s7 10 1) + 1)))))))))))))))) : A (0, [.ref 10, .int (bn x1), .int (bn x2), .int (bn x3), .int (bn x4)], [], σ) := by
  refine bGo hA 0 0 (0, .aload_n 0, 1, 1, 0, [0], []) rfl rfl rfl ?_
  refine bGo hA 0 1 (1, .getfield 9, 3, 2, 0, [10, 2, 3, 52, 1, 0], []) rfl rfl rfl ?_
  refine ⟨rfl, ?_⟩
  refine bGo hA 0 2 (4, .aload_n 0, 1, 3, 0, [0], []) rfl rfl rfl ?_
  refine bGo hA 0 3 (5, .getfield 36, 3, 4, 0, [10, 1, 0, 0, 0, 0], []) rfl rfl rfl ?_
  refine ⟨rfl, ?_⟩
  refine bEqI (bn_bi σ 10 1) ?_
  refine bGo hA 0 4 (8, .iload_n 1, 1, 5, 0, [1], []) rfl rfl rfl ?_
  refine bGo hA 0 5 (9, .invokestatic 39, 3, 6, 1, [2, 141, 3], []) rfl rfl rfl ?_
  refine hC _ _ _ _ _ (bRv_e (fun s1 k2 => ?_)) h
  show A (6, [.ref 10, .int (bn x1), .int (bn x2), .int (bn x3), .int (bn x4)], [], s1)
  refine bGo hA 0 6 (12, .aload_n 0, 1, 7, 0, [0], []) rfl rfl rfl ?_
  refine bGo hA 0 7 (13, .getfield 15, 3, 8, 0, [10, 3, 3, 53, 1, 0], []) rfl rfl rfl ?_
  refine ⟨rfl, ?_⟩
  refine bGo hA 0 8 (16, .aload_n 0, 1, 9, 0, [0], []) rfl rfl rfl ?_
  refine bGo hA 0 9 (17, .getfield 36, 3, 10, 0, [10, 1, 0, 0, 0, 0], []) rfl rfl rfl ?_
  refine ⟨rfl, ?_⟩
  refine bEqI (bn_bi s1 10 1) ?_
  refine bGo hA 0 10 (20, .iload_n 2, 1, 11, 0, [2], []) rfl rfl rfl ?_
  refine bGo hA 0 11 (21, .invokestatic 39, 3, 12, 1, [2, 141, 3], []) rfl rfl rfl ?_
  refine hC _ _ _ _ _ (bRv_e (fun s3 k4 => ?_)) k2
  show A (12, [.ref 10, .int (bn x1), .int (bn x2), .int (bn x3), .int (bn x4)], [], s3)
  refine bGo hA 0 12 (24, .aload_n 0, 1, 13, 0, [0], []) rfl rfl rfl ?_
  refine bGo hA 0 13 (25, .getfield 18, 3, 14, 0, [10, 4, 3, 54, 1, 0], []) rfl rfl rfl ?_
  refine ⟨rfl, ?_⟩
  refine bGo hA 0 14 (28, .aload_n 0, 1, 15, 0, [0], []) rfl rfl rfl ?_
  refine bGo hA 0 15 (29, .getfield 36, 3, 16, 0, [10, 1, 0, 0, 0, 0], []) rfl rfl rfl ?_
  refine ⟨rfl, ?_⟩
  refine bEqI (bn_bi s3 10 1) ?_
  refine bGo hA 1 0 (32, .iload_n 3, 1, 17, 0, [3], []) rfl rfl rfl ?_
  refine bGo hA 1 1 (33, .invokestatic 39, 3, 18, 1, [2, 141, 3], []) rfl rfl rfl ?_
  refine hC _ _ _ _ _ (bRv_e (fun s5 k6 => ?_)) k4
  show A (18, [.ref 10, .int (bn x1), .int (bn x2), .int (bn x3), .int (bn x4)], [], s5)
  refine bGo hA 1 2 (36, .aload_n 0, 1, 19, 0, [0], []) rfl rfl rfl ?_
  refine bGo hA 1 3 (37, .getfield 21, 3, 20, 0, [10, 5, 3, 55, 1, 0], []) rfl rfl rfl ?_
  refine ⟨rfl, ?_⟩
  refine bGo hA 1 4 (40, .aload_n 0, 1, 21, 0, [0], []) rfl rfl rfl ?_
  refine bGo hA 1 5 (41, .getfield 36, 3, 22, 0, [10, 1, 0, 0, 0, 0], []) rfl rfl rfl ?_
  refine ⟨rfl, ?_⟩
  refine bEqI (bn_bi s5 10 1) ?_
  refine bGo hA 1 6 (44, .iload 4, 2, 23, 0, [4], []) rfl rfl rfl ?_
  refine bGo hA 1 7 (46, .invokestatic 39, 3, 24, 1, [2, 141, 3], []) rfl rfl rfl ?_
  refine hC _ _ _ _ _ (bRv_e (fun s7 k8 => ?_)) k6
  show A (24, [.ref 10, .int (bn x1), .int (bn x2), .int (bn x3), .int (bn x4)], [], s7)
  refine bGo hA 1 8 (49, .aload_n 0, 1, 25, 0, [0], []) rfl rfl rfl ?_
  refine bGo hA 1 9 (50, .dup, 1, 26, 0, [], []) rfl rfl rfl ?_
  refine bGo hA 1 10 (51, .getfield 36, 3, 27, 0, [10, 1, 0, 0, 0, 0], []) rfl rfl rfl ?_
  refine ⟨rfl, ?_⟩
  refine bEqI (bn_bi s7 10 1) ?_
  refine bGo hA 1 11 (54, .iconst (1), 1, 28, 0, [], [(1, 0)]) rfl rfl rfl ?_
  refine bEqI bl_1 ?_
  refine bGo hA 1 12 (55, .iadd, 1, 29, 0, [], []) rfl rfl rfl ?_
  refine bEqI (bn_add (bi s7 10 1) 1) ?_
  refine bGo hA 1 13 (56, .putfield 36, 3, 30, 0, [10, 1, 0, 0, 0, 0], []) rfl rfl rfl ?_
  refine ⟨rfl, ?_⟩
  refine bGo hA 1 14 (59, .aload_n 0, 1, 31, 0, [0], []) rfl rfl rfl ?_
  refine bGo hA 1 15 (60, .getfield 36, 3, 32, 0, [10, 1, 0, 0, 0, 0], []) rfl rfl rfl ?_
  refine ⟨rfl, ?_⟩
  refine bEqI ((bn_bi (bw s7 10 1 ((bi s7 10 1) + 1)) 10 1).trans (congrArg bn (bi_eq k8.1))) ?_
  refine bGo hA 2 0 (63, .ireturn, 1, 0, 0, [1], []) rfl rfl rfl ?_
  exact k8.2

theorem sq133_0 {lvl : Nat} {C : bCall} {Q : bPost} {A : bPt → Prop} (hC : bMono C) (hA : bClosed lvl bm133 C Q A) {x1 : Int} {σ : bSt}  (h_x1 : bRg x1)
  (h : (C 142 [.ref 52, .int (bn x1), .int (bn (bi σ 10 1))] σ (bRv (fun s1 => (C 142 [.ref 53, .int (bn x1), .int (bn (bi s1 10 1))] s1 (bRv (fun s3 => (C 142 [.ref 54, .int (bn x1), .int (bn (bi s3 10 1))] s3 (bRv (fun s5 => (C 142 [.ref 55, .int (bn x1), .int (bn (bi s5 10 1))] s5 (bRv (fun s7 => (bRg ((bi s7 10 1) - 1) ∧ Q (.inl (some (.int (bn ((bi s7 10 1) - 1))))) (bw s7 10 1 ((bi s7 10 1) - 1)))))))))))))))) : A (0, [.ref 10, .int (bn x1)], [], σ) := by
  refine bGo hA 0 0 (0, .aload_n 0, 1, 1, 0, [0], []) rfl rfl rfl ?_
  refine bGo hA 0 1 (1, .getfield 9, 3, 2, 0, [10, 2, 3, 52, 1, 0], []) rfl rfl rfl ?_
  refine ⟨rfl, ?_⟩
  refine bGo hA 0 2 (4, .iload_n 1, 1, 3, 0, [1], []) rfl rfl rfl ?_
  refine bGo hA 0 3 (5, .aload_n 0, 1, 4, 0, [0], []) rfl rfl rfl ?_
  refine bGo hA 0 4 (6, .getfield 36, 3, 5, 0, [10, 1, 0, 0, 0, 0], []) rfl rfl rfl ?_
  refine ⟨rfl, ?_⟩
  refine bEqI (bn_bi σ 10 1) ?_
  refine bGo hA 0 5 (9, .invokestatic 43, 3, 6, 1, [2, 142, 3], []) rfl rfl rfl ?_
  refine hC _ _ _ _ _ (bRv_e (fun s1 k2 => ?_)) h
  show A (6, [.ref 10, .int (bn x1)], [], s1)
  refine bGo hA 0 6 (12, .aload_n 0, 1, 7, 0, [0], []) rfl rfl rfl ?_
  refine bGo hA 0 7 (13, .getfield 15, 3, 8, 0, [10, 3, 3, 53, 1, 0], []) rfl rfl rfl ?_
  refine ⟨rfl, ?_⟩
  refine bGo hA 0 8 (16, .iload_n 1, 1, 9, 0, [1], []) rfl rfl rfl ?_
  refine bGo hA 0 9 (17, .aload_n 0, 1, 10, 0, [0], []) rfl rfl rfl ?_
  refine bGo hA 0 10 (18, .getfield 36, 3, 11, 0, [10, 1, 0, 0, 0, 0], []) rfl rfl rfl ?_
  refine ⟨rfl, ?_⟩
  refine bEqI (bn_bi s1 10 1) ?_
  refine bGo hA 0 11 (21, .invokestatic 43, 3, 12, 1, [2, 142, 3], []) rfl rfl rfl ?_
  refine hC _ _ _ _ _ (bRv_e (fun s3 k4 => ?_)) k2
  show A (12, [.ref 10, .int (bn x1)], [], s3)
  refine bGo hA 0 12 (24, .aload_n 0, 1, 13, 0, [0], []) rfl rfl rfl ?_
  refine bGo hA 0 13 (25, .getfield 18, 3, 14, 0, [10, 4, 3, 54, 1, 0], []) rfl rfl rfl ?_
  refine ⟨rfl, ?_⟩
  refine bGo hA 0 14 (28, .iload_n 1, 1, 15, 0, [1], []) rfl rfl rfl ?_
  refine bGo hA 0 15 (29, .aload_n 0, 1, 16, 0, [0], []) rfl rfl rfl ?_
  refine bGo hA 1 0 (30, .getfield 36, 3, 17, 0, [10, 1, 0, 0, 0, 0], []) rfl rfl rfl ?_
  refine ⟨rfl, ?_⟩
  refine bEqI (bn_bi s3 10 1) ?_
  refine bGo hA 1 1 (33, .invokestatic 43, 3, 18, 1, [2, 142, 3], []) rfl rfl rfl ?_
  refine hC _ _ _ _ _ (bRv_e (fun s5 k6 => ?_)) k4
  show A (18, [.ref 10, .int (bn x1)], [], s5)
  refine bGo hA 1 2 (36, .aload_n 0, 1, 19, 0, [0], []) rfl rfl rfl ?_
  refine bGo hA 1 3 (37, .getfield 21, 3, 20, 0, [10, 5, 3, 55, 1, 0], []) rfl rfl rfl ?_
  refine ⟨rfl, ?_⟩
  refine bGo hA 1 4 (40, .iload_n 1, 1, 21, 0, [1], []) rfl rfl rfl ?_
  refine bGo hA 1 5 (41, .aload_n 0, 1, 22, 0, [0], []) rfl rfl rfl ?_
  refine bGo hA 1 6 (42, .getfield 36, 3, 23, 0, [10, 1, 0, 0, 0, 0], []) rfl rfl rfl ?_
  refine ⟨rfl, ?_⟩
  refine bEqI (bn_bi s5 10 1) ?_
  refine bGo hA 1 7 (45, .invokestatic 43, 3, 24, 1, [2, 142, 3], []) rfl rfl rfl ?_
  refine hC _ _ _ _ _ (bRv_e (fun s7 k8 => ?_)) k6
  show A (24, [.ref 10, .int (bn x1)], [], s7)
  refine bGo hA 1 8 (48, .aload_n 0, 1, 25, 0, [0], []) rfl rfl rfl ?_
  refine bGo hA 1 9 (49, .dup, 1, 26, 0, [], []) rfl rfl rfl ?_
  refine bGo hA 1 10 (50, .getfield 36, 3, 27, 0, [10, 1, 0, 0, 0, 0], []) rfl rfl rfl ?_
  refine ⟨rfl, ?_⟩
  refine bEqI (bn_bi s7 10 1) ?_
  refine bGo hA 1 11 (53, .iconst (1), 1, 28, 0, [], [(1, 0)]) rfl rfl rfl ?_
  refine bEqI bl_1 ?_
  refine bGo hA 1 12 (54, .isub, 1, 29, 0, [], []) rfl rfl rfl ?_
  refine bEqI (bn_sub (bi s7 10 1) 1) ?_
  refine bGo hA 1 13 (55, .putfield 36, 3, 30, 0, [10, 1, 0, 0, 0, 0], []) rfl rfl rfl ?_
  refine ⟨rfl, ?_⟩
  refine bGo hA 1 14 (58, .aload_n 0, 1, 31, 0, [0], []) rfl rfl rfl ?_
  refine bGo hA 1 15 (59, .getfield 36, 3, 32, 0, [10, 1, 0, 0, 0, 0], []) rfl rfl rfl ?_
  refine ⟨rfl, ?_⟩
  refine bEqI ((bn_bi (bw s7 10 1 ((bi s7 10 1) - 1)) 10 1).trans (congrArg bn (bi_eq k8.1))) ?_
  refine bGo hA 2 0 (62, .ireturn, 1, 0, 0, [1], []) rfl rfl rfl ?_
  exact k8.2

theorem sq134_0 {lvl : Nat} {C : bCall} {Q : bPost} {A : bPt → Prop} (hC : bMono C) (hA : bClosed lvl bm134 C Q A) {x1 : Int} {x2 : Int} {σ : bSt}  (h_x1 : bRg x1) (h_x2 : bRg x2)
  (h : A (2, [.ref 10, .int (bn x1), .int (bn x2), .int (bn 0), .float 0, .float 0], [], σ)) : A (0, [.ref 10, .int (bn x1), .int (bn x2), .float 0, .float 0, .float 0], [], σ) := by
  refine bGo hA 0 0 (0, .iconst (0), 1, 1, 0, [], [(0, 0)]) rfl rfl rfl ?_
  refine bEqI bl_0 ?_
  refine bGo hA 0 1 (1, .istore_n 3, 1, 2, 0, [3], []) rfl rfl rfl ?_
  exact h

theorem sq134_2 {lvl : Nat} {C : bCall} {Q : bPost} {A : bPt → Prop} (hC : bMono C) (hA : bClosed lvl bm134 C Q A) {l1 : Int} {l2 : Int} {l3 : Int} {v4 : Value} {v5 : Value} {σ : bSt}  (h_l1 : bRg l1) (h_l2 : bRg l2) (h_l3 : bRg l3)
  (h : ((l3 < (bi σ 10 1) → (C 140 [.ref 53, .int (bn l3)] σ (bRn (fun r4 s2 => ((r4 = (-1) → (C 140 [.ref 52, .int (bn l3)] s2 (bRn (fun r10 s8 => ((r10 = l1 → (C 140 [.ref 55, .int (bn l3)] s8 (bRn (fun r15 s13 => Q (.inl (some (.int (bn r15)))) s13)))) ∧ (¬ r10 = l1 → (bRg (l3 + 1) ∧ A (2, [.ref 10, .int (bn l1), .int (bn l2), .int (bn (l3 + 1)), .int (bn r4), .int (bn 1)], [], s8)))))))) ∧ (¬ r4 = (-1) → (C 129 [.int (bn l2), .int (bn r4)] s2 (bRn (fun r19 s17 => (C 140 [.ref 54, .int (bn l3)] s17 (bRn (fun r23 s21 => ((r19 = r23 → (C 140 [.ref 52, .int (bn l3)] s21 (bRn (fun r29 s27 => ((r29 = l1 → (C 140 [.ref 55, .int (bn l3)] s27 (bRn (fun r34 s32 => Q (.inl (some (.int (bn r34)))) s32)))) ∧ (¬ r29 = l1 → (bRg (l3 + 1) ∧ A (2, [.ref 10, .int (bn l1), .int (bn l2), .int (bn (l3 + 1)), .int (bn r4), .int (bn 1)], [], s27)))))))) ∧ (¬ r19 = r23 → (bRg (l3 + 1) ∧ A (2, [.ref 10, .int (bn l1), .int (bn l2), .int (bn (l3 + 1)), .int (bn r4), .int (bn 0)], [], s21)))))))))))))))) ∧ (¬ l3 < (bi σ 10 1) → Q (.inl (some (.int (bn (-1))))) σ))) : A (2, [.ref 10, .int (bn l1), .int (bn l2), .int (bn l3), v4, v5], [], σ) := by
  refine bGo hA 0 2 (2, .iload_n 3, 1, 3, 0, [3], []) rfl rfl rfl ?_
  refine bGo hA 0 3 (3, .aload_n 0, 1, 4, 0, [0], []) rfl rfl rfl ?_
  refine bGo hA 0 4 (4, .getfield 36, 3, 5, 0, [10, 1, 0, 0, 0, 0], []) rfl rfl rfl ?_
  refine ⟨rfl, ?_⟩
  refine bEqI (bn_bi σ 10 1) ?_
  refine bGo hA 0 5 (7, .if_icmp .ge (75), 3, 6, 41, [], []) rfl rfl rfl ?_
  refine bB_lt (x := l3) (y := (bi σ 10 1)) h_l3 (bi_rg _ _ _) (fun c1 => ?_) (fun c1 => ?_)
  · refine bGo hA 0 6 (10, .aload_n 0, 1, 7, 0, [0], []) rfl rfl rfl ?_
    refine bGo hA 0 7 (11, .getfield 15, 3, 8, 0, [10, 3, 3, 53, 1, 0], []) rfl rfl rfl ?_
    refine ⟨rfl, ?_⟩
    refine bGo hA 0 8 (14, .iload_n 3, 1, 9, 0, [3], []) rfl rfl rfl ?_
    refine bGo hA 0 9 (15, .invokestatic 46, 3, 10, 1, [2, 140, 2], []) rfl rfl rfl ?_
    refine hC _ _ _ _ _ (bRn_e (fun r4 s2 q5 k3 => ?_)) (h.1 c1)
    show A (10, [.ref 10, .int (bn l1), .int (bn l2), .int (bn l3), v4, v5], [.int (bn r4)], s2)
    refine bGo hA 0 10 (18, .istore 4, 2, 11, 0, [4], []) rfl rfl rfl ?_
    refine bGo hA 0 11 (20, .iload 4, 2, 12, 0, [4], []) rfl rfl rfl ?_
    refine bGo hA 0 12 (22, .iconst (-1), 1, 13, 0, [], [(-1, 0)]) rfl rfl rfl ?_
    refine bEqI bl_m1 ?_
    refine bGo hA 0 13 (23, .if_icmp .eq (20), 3, 14, 22, [], []) rfl rfl rfl ?_
    refine bB_eq (x := r4) (y := (-1)) q5 (by decide : bRg (-1)) (fun c6 => ?_) (fun c6 => ?_)
    · refine bGo hA 1 6 (43, .iconst (1), 1, 23, 0, [], [(1, 0)]) rfl rfl rfl ?_
      refine bEqI bl_1 ?_
      refine bGo hA 1 7 (44, .goto (4), 3, 24, 25, [], []) rfl rfl rfl ?_
      refine bGo hA 1 9 (48, .istore 5, 2, 26, 0, [5], []) rfl rfl rfl ?_
      refine bGo hA 1 10 (50, .iload 5, 2, 27, 0, [5], []) rfl rfl rfl ?_
      refine bGo hA 1 11 (52, .ifCond .eq (24), 3, 28, 39, [], []) rfl rfl rfl ?_
      refine ⟨fun c => absurd c (by decide), fun _ => ?_⟩
      refine bGo hA 1 12 (55, .aload_n 0, 1, 29, 0, [0], []) rfl rfl rfl ?_
      refine bGo hA 1 13 (56, .getfield 9, 3, 30, 0, [10, 2, 3, 52, 1, 0], []) rfl rfl rfl ?_
      refine ⟨rfl, ?_⟩
      refine bGo hA 1 14 (59, .iload_n 3, 1, 31, 0, [3], []) rfl rfl rfl ?_
      refine bGo hA 1 15 (60, .invokestatic 46, 3, 32, 1, [2, 140, 2], []) rfl rfl rfl ?_
      refine hC _ _ _ _ _ (bRn_e (fun r10 s8 q11 k9 => ?_)) (k3.1 c6)
      show A (32, [.ref 10, .int (bn l1), .int (bn l2), .int (bn l3), .int (bn r4), .int (bn 1)], [.int (bn r10)], s8)
      refine bGo hA 2 0 (63, .iload_n 1, 1, 33, 0, [1], []) rfl rfl rfl ?_
      refine bGo hA 2 1 (64, .if_icmp .ne (12), 3, 34, 39, [], []) rfl rfl rfl ?_
      refine bB_eq (x := r10) (y := l1) q11 h_l1 (fun c12 => ?_) (fun c12 => ?_)
      · refine bGo hA 2 2 (67, .aload_n 0, 1, 35, 0, [0], []) rfl rfl rfl ?_
        refine bGo hA 2 3 (68, .getfield 21, 3, 36, 0, [10, 5, 3, 55, 1, 0], []) rfl rfl rfl ?_
        refine ⟨rfl, ?_⟩
        refine bGo hA 2 4 (71, .iload_n 3, 1, 37, 0, [3], []) rfl rfl rfl ?_
        refine bGo hA 2 5 (72, .invokestatic 46, 3, 38, 1, [2, 140, 2], []) rfl rfl rfl ?_
        refine hC _ _ _ _ _ (bRn_e (fun r15 s13 q16 k14 => ?_)) (k9.1 c12)
        show A (38, [.ref 10, .int (bn l1), .int (bn l2), .int (bn l3), .int (bn r4), .int (bn 1)], [.int (bn r15)], s13)
        refine bGo hA 2 6 (75, .ireturn, 1, 39, 0, [1], []) rfl rfl rfl ?_
        exact k14
      · refine bGo hA 2 7 (76, .iinc 3 (1), 3, 40, 0, [3], [(1, 0)]) rfl rfl rfl ?_
        refine bEqC (fun v => A (40, [.ref 10, .int (bn l1), .int (bn l2), .int v, .int (bn r4), .int (bn 1)], [], s8)) ((congrArg (fun w => bn l3 + w) bl_1).trans (bn_add l3 1)) ?_
        refine bGo hA 2 8 (79, .goto (-77), 3, 41, 2, [], []) rfl rfl rfl ?_
        exact (k9.2 c12).2
    · refine bGo hA 0 14 (26, .iload_n 2, 1, 15, 0, [2], []) rfl rfl rfl ?_
      refine bGo hA 0 15 (27, .iload 4, 2, 16, 0, [4], []) rfl rfl rfl ?_
      refine bGo hA 1 0 (29, .invokestatic 28, 3, 17, 0, [2, 129, 2], []) rfl rfl rfl ?_
      refine hC _ _ _ _ _ (bRn_e (fun r19 s17 q20 k18 => ?_)) (k3.2 c6)
      show A (17, [.ref 10, .int (bn l1), .int (bn l2), .int (bn l3), .int (bn r4), v5], [.int (bn r19)], s17)
      refine bGo hA 1 1 (32, .aload_n 0, 1, 18, 0, [0], []) rfl rfl rfl ?_
      refine bGo hA 1 2 (33, .getfield 18, 3, 19, 0, [10, 4, 3, 54, 1, 0], []) rfl rfl rfl ?_
      refine ⟨rfl, ?_⟩
      refine bGo hA 1 3 (36, .iload_n 3, 1, 20, 0, [3], []) rfl rfl rfl ?_
      refine bGo hA 1 4 (37, .invokestatic 46, 3, 21, 1, [2, 140, 2], []) rfl rfl rfl ?_
      refine hC _ _ _ _ _ (bRn_e (fun r23 s21 q24 k22 => ?_)) k18
      show A (21, [.ref 10, .int (bn l1), .int (bn l2), .int (bn l3), .int (bn r4), v5], [.int (bn r23), .int (bn r19)], s21)
      refine bGo hA 1 5 (40, .if_icmp .ne (7), 3, 22, 24, [], []) rfl rfl rfl ?_
      refine bB_eq (x := r19) (y := r23) q20 q24 (fun c25 => ?_) (fun c25 => ?_)
      · refine bGo hA 1 6 (43, .iconst (1), 1, 23, 0, [], [(1, 0)]) rfl rfl rfl ?_
        refine bEqI bl_1 ?_
        refine bGo hA 1 7 (44, .goto (4), 3, 24, 25, [], []) rfl rfl rfl ?_
        refine bGo hA 1 9 (48, .istore 5, 2, 26, 0, [5], []) rfl rfl rfl ?_
        refine bGo hA 1 10 (50, .iload 5, 2, 27, 0, [5], []) rfl rfl rfl ?_
        refine bGo hA 1 11 (52, .ifCond .eq (24), 3, 28, 39, [], []) rfl rfl rfl ?_
        refine ⟨fun c => absurd c (by decide), fun _ => ?_⟩
        refine bGo hA 1 12 (55, .aload_n 0, 1, 29, 0, [0], []) rfl rfl rfl ?_
        refine bGo hA 1 13 (56, .getfield 9, 3, 30, 0, [10, 2, 3, 52, 1, 0], []) rfl rfl rfl ?_
        refine ⟨rfl, ?_⟩
        refine bGo hA 1 14 (59, .iload_n 3, 1, 31, 0, [3], []) rfl rfl rfl ?_
        refine bGo hA 1 15 (60, .invokestatic 46, 3, 32, 1, [2, 140, 2], []) rfl rfl rfl ?_
        refine hC _ _ _ _ _ (bRn_e (fun r29 s27 q30 k28 => ?_)) (k22.1 c25)
        show A (32, [.ref 10, .int (bn l1), .int (bn l2), .int (bn l3), .int (bn r4), .int (bn 1)], [.int (bn r29)], s27)
        refine bGo hA 2 0 (63, .iload_n 1, 1, 33, 0, [1], []) rfl rfl rfl ?_
        refine bGo hA 2 1 (64, .if_icmp .ne (12), 3, 34, 39, [], []) rfl rfl rfl ?_
        refine bB_eq (x := r29) (y := l1) q30 h_l1 (fun c31 => ?_) (fun c31 => ?_)
        · refine bGo hA 2 2 (67, .aload_n 0, 1, 35, 0, [0], []) rfl rfl rfl ?_
          refine bGo hA 2 3 (68, .getfield 21, 3, 36, 0, [10, 5, 3, 55, 1, 0], []) rfl rfl rfl ?_
          refine ⟨rfl, ?_⟩
          refine bGo hA 2 4 (71, .iload_n 3, 1, 37, 0, [3], []) rfl rfl rfl ?_
          refine bGo hA 2 5 (72, .invokestatic 46, 3, 38, 1, [2, 140, 2], []) rfl rfl rfl ?_
          refine hC _ _ _ _ _ (bRn_e (fun r34 s32 q35 k33 => ?_)) (k28.1 c31)
          show A (38, [.ref 10, .int (bn l1), .int (bn l2), .int (bn l3), .int (bn r4), .int (bn 1)], [.int (bn r34)], s32)
          refine bGo hA 2 6 (75, .ireturn, 1, 39, 0, [1], []) rfl rfl rfl ?_
          exact k33
        · refine bGo hA 2 7 (76, .iinc 3 (1), 3, 40, 0, [3], [(1, 0)]) rfl rfl rfl ?_
          refine bEqC (fun v => A (40, [.ref 10, .int (bn l1), .int (bn l2), .int v, .int (bn r4), .int (bn 1)], [], s27)) ((congrArg (fun w => bn l3 + w) bl_1).trans (bn_add l3 1)) ?_
          refine bGo hA 2 8 (79, .goto (-77), 3, 41, 2, [], []) rfl rfl rfl ?_
          exact (k28.2 c31).2
      · refine bGo hA 1 8 (47, .iconst (0), 1, 25, 0, [], [(0, 0)]) rfl rfl rfl ?_
        refine bEqI bl_0 ?_
        refine bGo hA 1 9 (48, .istore 5, 2, 26, 0, [5], []) rfl rfl rfl ?_
        refine bGo hA 1 10 (50, .iload 5, 2, 27, 0, [5], []) rfl rfl rfl ?_
        refine bGo hA 1 11 (52, .ifCond .eq (24), 3, 28, 39, [], []) rfl rfl rfl ?_
        refine ⟨fun _ => ?_, fun c => absurd (by decide) c⟩
        refine bGo hA 2 7 (76, .iinc 3 (1), 3, 40, 0, [3], [(1, 0)]) rfl rfl rfl ?_
        refine bEqC (fun v => A (40, [.ref 10, .int (bn l1), .int (bn l2), .int v, .int (bn r4), .int (bn 0)], [], s21)) ((congrArg (fun w => bn l3 + w) bl_1).trans (bn_add l3 1)) ?_
        refine bGo hA 2 8 (79, .goto (-77), 3, 41, 2, [], []) rfl rfl rfl ?_
        exact (k22.2 c25).2
  · refine bGo hA 2 9 (82, .iconst (-1), 1, 42, 0, [], [(-1, 0)]) rfl rfl rfl ?_
    refine bEqI bl_m1 ?_
    refine bGo hA 2 10 (83, .ireturn, 1, 0, 0, [1], []) rfl rfl rfl ?_
    exact (h.2 c1)

theorem sq153_0 {lvl : Nat} {C : bCall} {Q : bPost} {A : bPt → Prop} (hC : bMono C) (hA : bClosed lvl bm153 C Q A) {x1 : Int} {x2 : Int} {σ : bSt}  (h_x1 : bRg x1) (h_x2 : bRg x2)
  (h : (C 136 [.int (bn x1), .int (bn 4)] σ (bRvx (fun s1 => (C 138 [.int (bn x2), .int (bn 0), .int (bn 3)] s1 (bRvx (fun s3 => (C 131 [.ref 10, .int (bn x1), .int (bn x2)] s3 (bRn (fun r7 s5 => Q (.inl (some (.int (bn r7)))) s5)))) (fun E s3 => Q (.inr E) s3)))) (fun E s1 => Q (.inr E) s1)))) : A (0, [.ref 11, .int (bn x1), .int (bn x2)], [], σ) := by
  refine bGo hA 0 0 (0, .iload_n 1, 1, 1, 0, [1], []) rfl rfl rfl ?_
  refine bGo hA 0 1 (1, .iconst (4), 1, 2, 0, [], [(4, 0)]) rfl rfl rfl ?_
  refine bEqI bl_4 ?_
  refine bGo hA 0 2 (2, .invokestatic 76, 3, 3, 0, [2, 136, 2], []) rfl rfl rfl ?_
  refine hC _ _ _ _ _ (bRvx_e (fun s1 k2 => ?_) (fun E s1 k2 => ?_)) h
  · show A (3, [.ref 11, .int (bn x1), .int (bn x2)], [], s1)
    refine bGo hA 0 3 (5, .iload_n 2, 1, 4, 0, [2], []) rfl rfl rfl ?_
    refine bGo hA 0 4 (6, .iconst (0), 1, 5, 0, [], [(0, 0)]) rfl rfl rfl ?_
    refine bEqI bl_0 ?_
    refine bGo hA 0 5 (7, .iconst (3), 1, 6, 0, [], [(3, 0)]) rfl rfl rfl ?_
    refine bEqI bl_3 ?_
    refine bGo hA 0 6 (8, .invokestatic 80, 3, 7, 0, [2, 138, 3], []) rfl rfl rfl ?_
    refine hC _ _ _ _ _ (bRvx_e (fun s3 k4 => ?_) (fun E s3 k4 => ?_)) k2
    · show A (7, [.ref 11, .int (bn x1), .int (bn x2)], [], s3)
      refine bGo hA 0 7 (11, .aload_n 0, 1, 8, 0, [0], []) rfl rfl rfl ?_
      refine bGo hA 0 8 (12, .getfield 26, 3, 9, 0, [11, 2, 3, 10, 0, 0], []) rfl rfl rfl ?_
      refine ⟨rfl, ?_⟩
      refine bGo hA 0 9 (15, .iload_n 1, 1, 10, 0, [1], []) rfl rfl rfl ?_
      refine bGo hA 0 10 (16, .iload_n 2, 1, 11, 0, [2], []) rfl rfl rfl ?_
      refine bGo hA 0 11 (17, .invokevirtual 132, 3, 12, 0, [0, 10, 131, 2], []) rfl rfl rfl ?_
      refine ⟨rfl, ?_⟩
      refine hC _ _ _ _ _ (bRn_e (fun r7 s5 q8 k6 => ?_)) k4
      show A (12, [.ref 11, .int (bn x1), .int (bn x2)], [.int (bn r7)], s5)
      refine bGo hA 0 12 (20, .ireturn, 1, 0, 0, [1], []) rfl rfl rfl ?_
      exact k6
    · exact k4
  · exact k2

theorem sq154_0 {lvl : Nat} {C : bCall} {Q : bPost} {A : bPt → Prop} (hC : bMono C) (hA : bClosed lvl bm154 C Q A) {x1 : Int} {x2 : Int} {x3 : Int} {x4 : Int} {σ : bSt}  (h_x1 : bRg x1) (h_x2 : bRg x2) (h_x3 : bRg x3) (h_x4 : bRg x4)
  (h : ((x2 = (-1) → A (6, [.ref 11, .int (bn x1), .int (bn x2), .int (bn x3), .int (bn x4)], [], σ)) ∧ (¬ x2 = (-1) → (C 136 [.int (bn x2), .int (bn 4)] σ (bRvx (fun s2 => A (6, [.ref 11, .int (bn x1), .int (bn x2), .int (bn x3), .int (bn x4)], [], s2)) (fun E s2 => Q (.inr E) s2)))))) : A (0, [.ref 11, .int (bn x1), .int (bn x2), .int (bn x3), .int (bn x4)], [], σ) := by
  refine bGo hA 0 0 (0, .iload_n 2, 1, 1, 0, [2], []) rfl rfl rfl ?_
  refine bGo hA 0 1 (1, .iconst (-1), 1, 2, 0, [], [(-1, 0)]) rfl rfl rfl ?_
  refine bEqI bl_m1 ?_
  refine bGo hA 0 2 (2, .if_icmp .eq (8), 3, 3, 6, [], []) rfl rfl rfl ?_
  refine bB_eq (x := x2) (y := (-1)) h_x2 (by decide : bRg (-1)) (fun c1 => ?_) (fun c1 => ?_)
  · exact (h.1 c1)
  · refine bGo hA 0 3 (5, .iload_n 2, 1, 4, 0, [2], []) rfl rfl rfl ?_
    refine bGo hA 0 4 (6, .iconst (4), 1, 5, 0, [], [(4, 0)]) rfl rfl rfl ?_
    refine bEqI bl_4 ?_
    refine bGo hA 0 5 (7, .invokestatic 76, 3, 6, 0, [2, 136, 2], []) rfl rfl rfl ?_
    refine hC _ _ _ _ _ (bRvx_e (fun s2 k3 => ?_) (fun E s2 k3 => ?_)) (h.2 c1)
    · show A (6, [.ref 11, .int (bn x1), .int (bn x2), .int (bn x3), .int (bn x4)], [], s2)
      exact k3
    · exact k3

theorem sq154_6 {lvl : Nat} {C : bCall} {Q : bPost} {A : bPt → Prop} (hC : bMono C) (hA : bClosed lvl bm154 C Q A) {l1 : Int} {l2 : Int} {l3 : Int} {l4 : Int} {σ : bSt}  (h_l1 : bRg l1) (h_l2 : bRg l2) (h_l3 : bRg l3) (h_l4 : bRg l4)
  (h : (C 138 [.int (bn l1), .int (bn 0), .int (bn 2)] σ (bRvx (fun s1 => ((l2 = (-1) → (C 138 [.int (bn l3), .int (bn 0), .int (bn 0)] s1 (bRvx (fun s4 => (C 138 [.int (bn l4), .int (bn 0), .int (bn 99)] s4 (bRvx (fun s6 => (((bi s6 10 1) < 8 → (C 139 [.int (bn 1)] s6 (bRvx (fun s9 => (C 132 [.ref 10, .int (bn l1), .int (bn l2), .int (bn l3), .int (bn l4)] s9 (bRn (fun r13 s11 => Q (.inl (some (.int (bn r13)))) s11)))) (fun E s9 => Q (.inr E) s9)))) ∧ (¬ (bi s6 10 1) < 8 → (C 139 [.int (bn 0)] s6 (bRvx (fun s15 => (C 132 [.ref 10, .int (bn l1), .int (bn l2), .int (bn l3), .int (bn l4)] s15 (bRn (fun r19 s17 => Q (.inl (some (.int (bn r19)))) s17)))) (fun E s15 => Q (.inr E) s15)))))) (fun E s6 => Q (.inr E) s6)))) (fun E s4 => Q (.inr E) s4)))) ∧ (¬ l2 = (-1) → (C 138 [.int (bn l3), .int (bn 0), .int (bn 3)] s1 (bRvx (fun s21 => (C 138 [.int (bn l4), .int (bn 0), .int (bn 99)] s21 (bRvx (fun s23 => (((bi s23 10 1) < 8 → (C 139 [.int (bn 1)] s23 (bRvx (fun s26 => (C 132 [.ref 10, .int (bn l1), .int (bn l2), .int (bn l3), .int (bn l4)] s26 (bRn (fun r30 s28 => Q (.inl (some (.int (bn r30)))) s28)))) (fun E s26 => Q (.inr E) s26)))) ∧ (¬ (bi s23 10 1) < 8 → (C 139 [.int (bn 0)] s23 (bRvx (fun s32 => (C 132 [.ref 10, .int (bn l1), .int (bn l2), .int (bn l3), .int (bn l4)] s32 (bRn (fun r36 s34 => Q (.inl (some (.int (bn r36)))) s34)))) (fun E s32 => Q (.inr E) s32)))))) (fun E s23 => Q (.inr E) s23)))) (fun E s21 => Q (.inr E) s21)))))) (fun E s1 => Q (.inr E) s1)))) : A (6, [.ref 11, .int (bn l1), .int (bn l2), .int (bn l3), .int (bn l4)], [], σ) := by
  refine bGo hA 0 6 (10, .iload_n 1, 1, 7, 0, [1], []) rfl rfl rfl ?_
  refine bGo hA 0 7 (11, .iconst (0), 1, 8, 0, [], [(0, 0)]) rfl rfl rfl ?_
  refine bEqI bl_0 ?_
  refine bGo hA 0 8 (12, .iconst (2), 1, 9, 0, [], [(2, 0)]) rfl rfl rfl ?_
  refine bEqI bl_2 ?_
  refine bGo hA 0 9 (13, .invokestatic 80, 3, 10, 0, [2, 138, 3], []) rfl rfl rfl ?_
  refine hC _ _ _ _ _ (bRvx_e (fun s1 k2 => ?_) (fun E s1 k2 => ?_)) h
  · show A (10, [.ref 11, .int (bn l1), .int (bn l2), .int (bn l3), .int (bn l4)], [], s1)
    refine bGo hA 0 10 (16, .iload_n 3, 1, 11, 0, [3], []) rfl rfl rfl ?_
    refine bGo hA 0 11 (17, .iconst (0), 1, 12, 0, [], [(0, 0)]) rfl rfl rfl ?_
    refine bEqI bl_0 ?_
    refine bGo hA 0 12 (18, .iload_n 2, 1, 13, 0, [2], []) rfl rfl rfl ?_
    refine bGo hA 0 13 (19, .iconst (-1), 1, 14, 0, [], [(-1, 0)]) rfl rfl rfl ?_
    refine bEqI bl_m1 ?_
    refine bGo hA 0 14 (20, .if_icmp .ne (7), 3, 15, 17, [], []) rfl rfl rfl ?_
    refine bB_eq (x := l2) (y := (-1)) h_l2 (by decide : bRg (-1)) (fun c3 => ?_) (fun c3 => ?_)
    · refine bGo hA 0 15 (23, .iconst (0), 1, 16, 0, [], [(0, 0)]) rfl rfl rfl ?_
      refine bEqI bl_0 ?_
      refine bGo hA 1 0 (24, .goto (4), 3, 17, 18, [], []) rfl rfl rfl ?_
      refine bGo hA 1 2 (28, .invokestatic 80, 3, 19, 0, [2, 138, 3], []) rfl rfl rfl ?_
      refine hC _ _ _ _ _ (bRvx_e (fun s4 k5 => ?_) (fun E s4 k5 => ?_)) (k2.1 c3)
      · show A (19, [.ref 11, .int (bn l1), .int (bn l2), .int (bn l3), .int (bn l4)], [], s4)
        refine bGo hA 1 3 (31, .iload 4, 2, 20, 0, [4], []) rfl rfl rfl ?_
        refine bGo hA 1 4 (33, .iconst (0), 1, 21, 0, [], [(0, 0)]) rfl rfl rfl ?_
        refine bEqI bl_0 ?_
        refine bGo hA 1 5 (34, .bipush (99), 2, 22, 0, [], [(99, 0)]) rfl rfl rfl ?_
        refine bEqI bl_99 ?_
        refine bGo hA 1 6 (36, .invokestatic 80, 3, 23, 0, [2, 138, 3], []) rfl rfl rfl ?_
        refine hC _ _ _ _ _ (bRvx_e (fun s6 k7 => ?_) (fun E s6 k7 => ?_)) k5
        · show A (23, [.ref 11, .int (bn l1), .int (bn l2), .int (bn l3), .int (bn l4)], [], s6)
          refine bGo hA 1 7 (39, .aload_n 0, 1, 24, 0, [0], []) rfl rfl rfl ?_
          refine bGo hA 1 8 (40, .getfield 26, 3, 25, 0, [11, 2, 3, 10, 0, 0], []) rfl rfl rfl ?_
          refine ⟨rfl, ?_⟩
          refine bGo hA 1 9 (43, .getfield 135, 3, 26, 0, [10, 1, 0, 0, 0, 0], []) rfl rfl rfl ?_
          refine ⟨rfl, ?_⟩
          refine bEqI (bn_bi s6 10 1) ?_
          refine bGo hA 1 10 (46, .bipush (8), 2, 27, 0, [], [(8, 0)]) rfl rfl rfl ?_
          refine bEqI bl_8 ?_
          refine bGo hA 1 11 (48, .if_icmp .ge (7), 3, 28, 30, [], []) rfl rfl rfl ?_
          refine bB_lt (x := (bi s6 10 1)) (y := 8) (bi_rg _ _ _) (by decide : bRg 8) (fun c8 => ?_) (fun c8 => ?_)
          · refine bGo hA 1 12 (51, .iconst (1), 1, 29, 0, [], [(1, 0)]) rfl rfl rfl ?_
            refine bEqI bl_1 ?_
            refine bGo hA 1 13 (52, .goto (4), 3, 30, 31, [], []) rfl rfl rfl ?_
            refine bGo hA 1 15 (56, .invokestatic 88, 3, 32, 0, [2, 139, 1], []) rfl rfl rfl ?_
            refine hC _ _ _ _ _ (bRvx_e (fun s9 k10 => ?_) (fun E s9 k10 => ?_)) (k7.1 c8)
            · show A (32, [.ref 11, .int (bn l1), .int (bn l2), .int (bn l3), .int (bn l4)], [], s9)
              refine bGo hA 2 0 (59, .aload_n 0, 1, 33, 0, [0], []) rfl rfl rfl ?_
              refine bGo hA 2 1 (60, .getfield 26, 3, 34, 0, [11, 2, 3, 10, 0, 0], []) rfl rfl rfl ?_
              refine ⟨rfl, ?_⟩
              refine bGo hA 2 2 (63, .iload_n 1, 1, 35, 0, [1], []) rfl rfl rfl ?_
              refine bGo hA 2 3 (64, .iload_n 2, 1, 36, 0, [2], []) rfl rfl rfl ?_
              refine bGo hA 2 4 (65, .iload_n 3, 1, 37, 0, [3], []) rfl rfl rfl ?_
              refine bGo hA 2 5 (66, .iload 4, 2, 38, 0, [4], []) rfl rfl rfl ?_
              refine bGo hA 2 6 (68, .invokevirtual 139, 3, 39, 0, [0, 10, 132, 4], []) rfl rfl rfl ?_
              refine ⟨rfl, ?_⟩
              refine hC _ _ _ _ _ (bRn_e (fun r13 s11 q14 k12 => ?_)) k10
              show A (39, [.ref 11, .int (bn l1), .int (bn l2), .int (bn l3), .int (bn l4)], [.int (bn r13)], s11)
              refine bGo hA 2 7 (71, .ireturn, 1, 0, 0, [1], []) rfl rfl rfl ?_
              exact k12
            · exact k10
          · refine bGo hA 1 14 (55, .iconst (0), 1, 31, 0, [], [(0, 0)]) rfl rfl rfl ?_
            refine bEqI bl_0 ?_
            refine bGo hA 1 15 (56, .invokestatic 88, 3, 32, 0, [2, 139, 1], []) rfl rfl rfl ?_
            refine hC _ _ _ _ _ (bRvx_e (fun s15 k16 => ?_) (fun E s15 k16 => ?_)) (k7.2 c8)
            · show A (32, [.ref 11, .int (bn l1), .int (bn l2), .int (bn l3), .int (bn l4)], [], s15)
              refine bGo hA 2 0 (59, .aload_n 0, 1, 33, 0, [0], []) rfl rfl rfl ?_
              refine bGo hA 2 1 (60, .getfield 26, 3, 34, 0, [11, 2, 3, 10, 0, 0], []) rfl rfl rfl ?_
              refine ⟨rfl, ?_⟩
              refine bGo hA 2 2 (63, .iload_n 1, 1, 35, 0, [1], []) rfl rfl rfl ?_
              refine bGo hA 2 3 (64, .iload_n 2, 1, 36, 0, [2], []) rfl rfl rfl ?_
              refine bGo hA 2 4 (65, .iload_n 3, 1, 37, 0, [3], []) rfl rfl rfl ?_
              refine bGo hA 2 5 (66, .iload 4, 2, 38, 0, [4], []) rfl rfl rfl ?_
              refine bGo hA 2 6 (68, .invokevirtual 139, 3, 39, 0, [0, 10, 132, 4], []) rfl rfl rfl ?_
              refine ⟨rfl, ?_⟩
              refine hC _ _ _ _ _ (bRn_e (fun r19 s17 q20 k18 => ?_)) k16
              show A (39, [.ref 11, .int (bn l1), .int (bn l2), .int (bn l3), .int (bn l4)], [.int (bn r19)], s17)
              refine bGo hA 2 7 (71, .ireturn, 1, 0, 0, [1], []) rfl rfl rfl ?_
              exact k18
            · exact k16
        · exact k7
      · exact k5
    · refine bGo hA 1 1 (27, .iconst (3), 1, 18, 0, [], [(3, 0)]) rfl rfl rfl ?_
      refine bEqI bl_3 ?_
      refine bGo hA 1 2 (28, .invokestatic 80, 3, 19, 0, [2, 138, 3], []) rfl rfl rfl ?_
      refine hC _ _ _ _ _ (bRvx_e (fun s21 k22 => ?_) (fun E s21 k22 => ?_)) (k2.2 c3)
      · show A (19, [.ref 11, .int (bn l1), .int (bn l2), .int (bn l3), .int (bn l4)], [], s21)
        refine bGo hA 1 3 (31, .iload 4, 2, 20, 0, [4], []) rfl rfl rfl ?_
        refine bGo hA 1 4 (33, .iconst (0), 1, 21, 0, [], [(0, 0)]) rfl rfl rfl ?_
        refine bEqI bl_0 ?_
        refine bGo hA 1 5 (34, .bipush (99), 2, 22, 0, [], [(99, 0)]) rfl rfl rfl ?_
        refine bEqI bl_99 ?_
        refine bGo hA 1 6 (36, .invokestatic 80, 3, 23, 0, [2, 138, 3], []) rfl rfl rfl ?_
        refine hC _ _ _ _ _ (bRvx_e (fun s23 k24 => ?_) (fun E s23 k24 => ?_)) k22
        · show A (23, [.ref 11, .int (bn l1), .int (bn l2), .int (bn l3), .int (bn l4)], [], s23)
          refine bGo hA 1 7 (39, .aload_n 0, 1, 24, 0, [0], []) rfl rfl rfl ?_
          refine bGo hA 1 8 (40, .getfield 26, 3, 25, 0, [11, 2, 3, 10, 0, 0], []) rfl rfl rfl ?_
          refine ⟨rfl, ?_⟩
          refine bGo hA 1 9 (43, .getfield 135, 3, 26, 0, [10, 1, 0, 0, 0, 0], []) rfl rfl rfl ?_
          refine ⟨rfl, ?_⟩
          refine bEqI (bn_bi s23 10 1) ?_
          refine bGo hA 1 10 (46, .bipush (8), 2, 27, 0, [], [(8, 0)]) rfl rfl rfl ?_
          refine bEqI bl_8 ?_
          refine bGo hA 1 11 (48, .if_icmp .ge (7), 3, 28, 30, [], []) rfl rfl rfl ?_
          refine bB_lt (x := (bi s23 10 1)) (y := 8) (bi_rg _ _ _) (by decide : bRg 8) (fun c25 => ?_) (fun c25 => ?_)
          · refine bGo hA 1 12 (51, .iconst (1), 1, 29, 0, [], [(1, 0)]) rfl rfl rfl ?_
            refine bEqI bl_1 ?_
            refine bGo hA 1 13 (52, .goto (4), 3, 30, 31, [], []) rfl rfl rfl ?_
            refine bGo hA 1 15 (56, .invokestatic 88, 3, 32, 0, [2, 139, 1], []) rfl rfl rfl ?_
            refine hC _ _ _ _ _ (bRvx_e (fun s26 k27 => ?_) (fun E s26 k27 => ?_)) (k24.1 c25)
            · show A (32, [.ref 11, .int (bn l1), .int (bn l2), .int (bn l3), .int (bn l4)], [], s26)
              refine bGo hA 2 0 (59, .aload_n 0, 1, 33, 0, [0], []) rfl rfl rfl ?_
              refine bGo hA 2 1 (60, .getfield 26, 3, 34, 0, [11, 2, 3, 10, 0, 0], []) rfl rfl rfl ?_
              refine ⟨rfl, ?_⟩
              refine bGo hA 2 2 (63, .iload_n 1, 1, 35, 0, [1], []) rfl rfl rfl ?_
              refine bGo hA 2 3 (64, .iload_n 2, 1, 36, 0, [2], []) rfl rfl rfl ?_
              refine bGo hA 2 4 (65, .iload_n 3, 1, 37, 0, [3], []) rfl rfl rfl ?_
              refine bGo hA 2 5 (66, .iload 4, 2, 38, 0, [4], []) rfl rfl rfl ?_
              refine bGo hA 2 6 (68, .invokevirtual 139, 3, 39, 0, [0, 10, 132, 4], []) rfl rfl rfl ?_
              refine ⟨rfl, ?_⟩
              refine hC _ _ _ _ _ (bRn_e (fun r30 s28 q31 k29 => ?_)) k27
              show A (39, [.ref 11, .int (bn l1), .int (bn l2), .int (bn l3), .int (bn l4)], [.int (bn r30)], s28)
              refine bGo hA 2 7 (71, .ireturn, 1, 0, 0, [1], []) rfl rfl rfl ?_
              exact k29
            · exact k27
          · refine bGo hA 1 14 (55, .iconst (0), 1, 31, 0, [], [(0, 0)]) rfl rfl rfl ?_
            refine bEqI bl_0 ?_
            refine bGo hA 1 15 (56, .invokestatic 88, 3, 32, 0, [2, 139, 1], []) rfl rfl rfl ?_
            refine hC _ _ _ _ _ (bRvx_e (fun s32 k33 => ?_) (fun E s32 k33 => ?_)) (k24.2 c25)
            · show A (32, [.ref 11, .int (bn l1), .int (bn l2), .int (bn l3), .int (bn l4)], [], s32)
              refine bGo hA 2 0 (59, .aload_n 0, 1, 33, 0, [0], []) rfl rfl rfl ?_
              refine bGo hA 2 1 (60, .getfield 26, 3, 34, 0, [11, 2, 3, 10, 0, 0], []) rfl rfl rfl ?_
              refine ⟨rfl, ?_⟩
              refine bGo hA 2 2 (63, .iload_n 1, 1, 35, 0, [1], []) rfl rfl rfl ?_
              refine bGo hA 2 3 (64, .iload_n 2, 1, 36, 0, [2], []) rfl rfl rfl ?_
              refine bGo hA 2 4 (65, .iload_n 3, 1, 37, 0, [3], []) rfl rfl rfl ?_
              refine bGo hA 2 5 (66, .iload 4, 2, 38, 0, [4], []) rfl rfl rfl ?_
              refine bGo hA 2 6 (68, .invokevirtual 139, 3, 39, 0, [0, 10, 132, 4], []) rfl rfl rfl ?_
              refine ⟨rfl, ?_⟩
              refine hC _ _ _ _ _ (bRn_e (fun r36 s34 q37 k35 => ?_)) k33
              show A (39, [.ref 11, .int (bn l1), .int (bn l2), .int (bn l3), .int (bn l4)], [.int (bn r36)], s34)
              refine bGo hA 2 7 (71, .ireturn, 1, 0, 0, [1], []) rfl rfl rfl ?_
              exact k35
            · exact k33
        · exact k24
      · exact k22
  · exact k2

theorem sq155_0 {lvl : Nat} {C : bCall} {Q : bPost} {A : bPt → Prop} (hC : bMono C) (hA : bClosed lvl bm155 C Q A) {x1 : Int} {σ : bSt}  (h_x1 : bRg x1)
  (h : (C 136 [.int (bn x1), .int (bn (bi σ 10 1))] σ (bRvx (fun s1 => (C 133 [.ref 10, .int (bn x1)] s1 (bRn (fun r5 s3 => Q (.inl (some (.int (bn r5)))) s3)))) (fun E s1 => Q (.inr E) s1)))) : A (0, [.ref 11, .int (bn x1)], [], σ) := by
  refine bGo hA 0 0 (0, .iload_n 1, 1, 1, 0, [1], []) rfl rfl rfl ?_
  refine bGo hA 0 1 (1, .aload_n 0, 1, 2, 0, [0], []) rfl rfl rfl ?_
  refine bGo hA 0 2 (2, .getfield 26, 3, 3, 0, [11, 2, 3, 10, 0, 0], []) rfl rfl rfl ?_
  refine ⟨rfl, ?_⟩
  refine bGo hA 0 3 (5, .getfield 135, 3, 4, 0, [10, 1, 0, 0, 0, 0], []) rfl rfl rfl ?_
  refine ⟨rfl, ?_⟩
  refine bEqI (bn_bi σ 10 1) ?_
  refine bGo hA 0 4 (8, .invokestatic 76, 3, 5, 0, [2, 136, 2], []) rfl rfl rfl ?_
  refine hC _ _ _ _ _ (bRvx_e (fun s1 k2 => ?_) (fun E s1 k2 => ?_)) h
  · show A (5, [.ref 11, .int (bn x1)], [], s1)
    refine bGo hA 0 5 (11, .aload_n 0, 1, 6, 0, [0], []) rfl rfl rfl ?_
    refine bGo hA 0 6 (12, .getfield 26, 3, 7, 0, [11, 2, 3, 10, 0, 0], []) rfl rfl rfl ?_
    refine ⟨rfl, ?_⟩
    refine bGo hA 0 7 (15, .iload_n 1, 1, 8, 0, [1], []) rfl rfl rfl ?_
    refine bGo hA 0 8 (16, .invokevirtual 142, 3, 9, 0, [0, 10, 133, 1], []) rfl rfl rfl ?_
    refine ⟨rfl, ?_⟩
    refine hC _ _ _ _ _ (bRn_e (fun r5 s3 q6 k4 => ?_)) k2
    show A (9, [.ref 11, .int (bn x1)], [.int (bn r5)], s3)
    refine bGo hA 0 9 (19, .ireturn, 1, 0, 0, [1], []) rfl rfl rfl ?_
    exact k4
  · exact k2

theorem sq222_0 {lvl : Nat} {C : bCall} {Q : bPost} {A : bPt → Prop} (hC : bMono C) (hA : bClosed lvl bm222 C Q A) {x1 : Int} {x2 : Int} {σ : bSt}  (h_x1 : bRg x1) (h_x2 : bRg x2)
  (h : (C 199 [.int (bn x1), .int (bn 0), .int (bn 3)] σ (bRn (fun r3 s1 => ((r3 = 0 → (C 197 [.ref 12, .int (bn 1)] s1 (bRn (fun r8 s6 => ((r8 = 0 → ((0 ≤ x1 ∧ x1 < 4) ∧ Q (.inl (some (.int (bn (bi s6 70 x1))))) (bw s6 70 x1 x2))) ∧ (¬ r8 = 0 → Q (.inl (some (.int (bn 0)))) s6)))))) ∧ (¬ r3 = 0 → (C 199 [.int (bn x2), .int (bn 0), .int (bn 3)] s1 (bRn (fun r13 s11 => ((r13 = 0 → (C 197 [.ref 12, .int (bn 2)] s11 (bRn (fun r18 s16 => ((r18 = 0 → ((0 ≤ x1 ∧ x1 < 4) ∧ Q (.inl (some (.int (bn (bi s16 70 x1))))) (bw s16 70 x1 x2))) ∧ (¬ r18 = 0 → Q (.inl (some (.int (bn 0)))) s16)))))) ∧ (¬ r13 = 0 → (C 197 [.ref 12, .int (bn 0)] s11 (bRn (fun r23 s21 => ((r23 = 0 → ((0 ≤ x1 ∧ x1 < 4) ∧ Q (.inl (some (.int (bn (bi s21 70 x1))))) (bw s21 70 x1 x2))) ∧ (¬ r23 = 0 → Q (.inl (some (.int (bn 0)))) s21)))))))))))))))) : A (0, [.ref 12, .int (bn x1), .int (bn x2), .float 0], [], σ) := by
  refine bGo hA 0 0 (0, .aload_n 0, 1, 1, 0, [0], []) rfl rfl rfl ?_
  refine bGo hA 0 1 (1, .iload_n 1, 1, 2, 0, [1], []) rfl rfl rfl ?_
  refine bGo hA 0 2 (2, .iconst (0), 1, 3, 0, [], [(0, 0)]) rfl rfl rfl ?_
  refine bEqI bl_0 ?_
  refine bGo hA 0 3 (3, .iconst (3), 1, 4, 0, [], [(3, 0)]) rfl rfl rfl ?_
  refine bEqI bl_3 ?_
  refine bGo hA 0 4 (4, .invokestatic 325, 3, 5, 0, [2, 199, 3], []) rfl rfl rfl ?_
  refine hC _ _ _ _ _ (bRn_e (fun r3 s1 q4 k2 => ?_)) h
  show A (5, [.ref 12, .int (bn x1), .int (bn x2), .float 0], [.int (bn r3), .ref 12], s1)
  refine bGo hA 0 5 (7, .ifCond .ne (7), 3, 6, 8, [], []) rfl rfl rfl ?_
  refine bB_eq0 (x := r3) q4 (fun c5 => ?_) (fun c5 => ?_)
  · refine bGo hA 0 6 (10, .iconst (1), 1, 7, 0, [], [(1, 0)]) rfl rfl rfl ?_
    refine bEqI bl_1 ?_
    refine bGo hA 0 7 (11, .goto (17), 3, 8, 16, [], []) rfl rfl rfl ?_
    refine bGo hA 1 0 (28, .invokevirtual 333, 3, 17, 0, [0, 12, 197, 1], []) rfl rfl rfl ?_
    refine ⟨rfl, ?_⟩
    refine hC _ _ _ _ _ (bRn_e (fun r8 s6 q9 k7 => ?_)) (k2.1 c5)
    show A (17, [.ref 12, .int (bn x1), .int (bn x2), .float 0], [.int (bn r8)], s6)
    refine bGo hA 1 1 (31, .ifCond .eq (5), 3, 18, 20, [], []) rfl rfl rfl ?_
    refine bB_eq0 (x := r8) q9 (fun c10 => ?_) (fun c10 => ?_)
    · refine bGo hA 1 4 (36, .aload_n 0, 1, 21, 0, [0], []) rfl rfl rfl ?_
      refine bGo hA 1 5 (37, .getfield 53, 3, 22, 0, [12, 16, 3, 70, 1, 0], []) rfl rfl rfl ?_
      refine ⟨rfl, ?_⟩
      refine bGo hA 1 6 (40, .iload_n 1, 1, 23, 0, [1], []) rfl rfl rfl ?_
      refine bGo hA 1 7 (41, .iaload, 1, 24, 0, [], []) rfl rfl rfl ?_
      refine ⟨rfl, (bIxP (x := x1) (n := 4) h_x1 (k7.1 c10).1), ?_⟩
      refine bEqL (x := x1) h_x1 ?_
      refine bGo hA 1 8 (42, .istore_n 3, 1, 25, 0, [3], []) rfl rfl rfl ?_
      refine bGo hA 1 9 (43, .aload_n 0, 1, 26, 0, [0], []) rfl rfl rfl ?_
      refine bGo hA 1 10 (44, .getfield 53, 3, 27, 0, [12, 16, 3, 70, 1, 0], []) rfl rfl rfl ?_
      refine ⟨rfl, ?_⟩
      refine bGo hA 1 11 (47, .iload_n 1, 1, 28, 0, [1], []) rfl rfl rfl ?_
      refine bGo hA 1 12 (48, .iload_n 2, 1, 29, 0, [2], []) rfl rfl rfl ?_
      refine bGo hA 1 13 (49, .iastore, 1, 30, 0, [], []) rfl rfl rfl ?_
      refine ⟨rfl, (bIxP (x := x1) (n := 4) h_x1 (k7.1 c10).1), by decide, ?_⟩
      refine bEqS (x := x1) h_x1 ?_
      refine bGo hA 1 14 (50, .iload_n 3, 1, 31, 0, [3], []) rfl rfl rfl ?_
      refine bGo hA 1 15 (51, .ireturn, 1, 0, 0, [1], []) rfl rfl rfl ?_
      exact (k7.1 c10).2
    · refine bGo hA 1 2 (34, .iconst (0), 1, 19, 0, [], [(0, 0)]) rfl rfl rfl ?_
      refine bEqI bl_0 ?_
      refine bGo hA 1 3 (35, .ireturn, 1, 20, 0, [1], []) rfl rfl rfl ?_
      exact (k7.2 c10)
  · refine bGo hA 0 8 (14, .iload_n 2, 1, 9, 0, [2], []) rfl rfl rfl ?_
    refine bGo hA 0 9 (15, .iconst (0), 1, 10, 0, [], [(0, 0)]) rfl rfl rfl ?_
    refine bEqI bl_0 ?_
    refine bGo hA 0 10 (16, .iconst (3), 1, 11, 0, [], [(3, 0)]) rfl rfl rfl ?_
    refine bEqI bl_3 ?_
    refine bGo hA 0 11 (17, .invokestatic 325, 3, 12, 0, [2, 199, 3], []) rfl rfl rfl ?_
    refine hC _ _ _ _ _ (bRn_e (fun r13 s11 q14 k12 => ?_)) (k2.2 c5)
    show A (12, [.ref 12, .int (bn x1), .int (bn x2), .float 0], [.int (bn r13), .ref 12], s11)
    refine bGo hA 0 12 (20, .ifCond .eq (7), 3, 13, 15, [], []) rfl rfl rfl ?_
    refine bB_eq0 (x := r13) q14 (fun c15 => ?_) (fun c15 => ?_)
    · refine bGo hA 0 15 (27, .iconst (2), 1, 16, 0, [], [(2, 0)]) rfl rfl rfl ?_
      refine bEqI bl_2 ?_
      refine bGo hA 1 0 (28, .invokevirtual 333, 3, 17, 0, [0, 12, 197, 1], []) rfl rfl rfl ?_
      refine ⟨rfl, ?_⟩
      refine hC _ _ _ _ _ (bRn_e (fun r18 s16 q19 k17 => ?_)) (k12.1 c15)
      show A (17, [.ref 12, .int (bn x1), .int (bn x2), .float 0], [.int (bn r18)], s16)
      refine bGo hA 1 1 (31, .ifCond .eq (5), 3, 18, 20, [], []) rfl rfl rfl ?_
      refine bB_eq0 (x := r18) q19 (fun c20 => ?_) (fun c20 => ?_)
      · refine bGo hA 1 4 (36, .aload_n 0, 1, 21, 0, [0], []) rfl rfl rfl ?_
        refine bGo hA 1 5 (37, .getfield 53, 3, 22, 0, [12, 16, 3, 70, 1, 0], []) rfl rfl rfl ?_
        refine ⟨rfl, ?_⟩
        refine bGo hA 1 6 (40, .iload_n 1, 1, 23, 0, [1], []) rfl rfl rfl ?_
        refine bGo hA 1 7 (41, .iaload, 1, 24, 0, [], []) rfl rfl rfl ?_
        refine ⟨rfl, (bIxP (x := x1) (n := 4) h_x1 (k17.1 c20).1), ?_⟩
        refine bEqL (x := x1) h_x1 ?_
        refine bGo hA 1 8 (42, .istore_n 3, 1, 25, 0, [3], []) rfl rfl rfl ?_
        refine bGo hA 1 9 (43, .aload_n 0, 1, 26, 0, [0], []) rfl rfl rfl ?_
        refine bGo hA 1 10 (44, .getfield 53, 3, 27, 0, [12, 16, 3, 70, 1, 0], []) rfl rfl rfl ?_
        refine ⟨rfl, ?_⟩
        refine bGo hA 1 11 (47, .iload_n 1, 1, 28, 0, [1], []) rfl rfl rfl ?_
        refine bGo hA 1 12 (48, .iload_n 2, 1, 29, 0, [2], []) rfl rfl rfl ?_
        refine bGo hA 1 13 (49, .iastore, 1, 30, 0, [], []) rfl rfl rfl ?_
        refine ⟨rfl, (bIxP (x := x1) (n := 4) h_x1 (k17.1 c20).1), by decide, ?_⟩
        refine bEqS (x := x1) h_x1 ?_
        refine bGo hA 1 14 (50, .iload_n 3, 1, 31, 0, [3], []) rfl rfl rfl ?_
        refine bGo hA 1 15 (51, .ireturn, 1, 0, 0, [1], []) rfl rfl rfl ?_
        exact (k17.1 c20).2
      · refine bGo hA 1 2 (34, .iconst (0), 1, 19, 0, [], [(0, 0)]) rfl rfl rfl ?_
        refine bEqI bl_0 ?_
        refine bGo hA 1 3 (35, .ireturn, 1, 20, 0, [1], []) rfl rfl rfl ?_
        exact (k17.2 c20)
    · refine bGo hA 0 13 (23, .iconst (0), 1, 14, 0, [], [(0, 0)]) rfl rfl rfl ?_
      refine bEqI bl_0 ?_
      refine bGo hA 0 14 (24, .goto (4), 3, 15, 16, [], []) rfl rfl rfl ?_
      refine bGo hA 1 0 (28, .invokevirtual 333, 3, 17, 0, [0, 12, 197, 1], []) rfl rfl rfl ?_
      refine ⟨rfl, ?_⟩
      refine hC _ _ _ _ _ (bRn_e (fun r23 s21 q24 k22 => ?_)) (k12.2 c15)
      show A (17, [.ref 12, .int (bn x1), .int (bn x2), .float 0], [.int (bn r23)], s21)
      refine bGo hA 1 1 (31, .ifCond .eq (5), 3, 18, 20, [], []) rfl rfl rfl ?_
      refine bB_eq0 (x := r23) q24 (fun c25 => ?_) (fun c25 => ?_)
      · refine bGo hA 1 4 (36, .aload_n 0, 1, 21, 0, [0], []) rfl rfl rfl ?_
        refine bGo hA 1 5 (37, .getfield 53, 3, 22, 0, [12, 16, 3, 70, 1, 0], []) rfl rfl rfl ?_
        refine ⟨rfl, ?_⟩
        refine bGo hA 1 6 (40, .iload_n 1, 1, 23, 0, [1], []) rfl rfl rfl ?_
        refine bGo hA 1 7 (41, .iaload, 1, 24, 0, [], []) rfl rfl rfl ?_
        refine ⟨rfl, (bIxP (x := x1) (n := 4) h_x1 (k22.1 c25).1), ?_⟩
        refine bEqL (x := x1) h_x1 ?_
        refine bGo hA 1 8 (42, .istore_n 3, 1, 25, 0, [3], []) rfl rfl rfl ?_
        refine bGo hA 1 9 (43, .aload_n 0, 1, 26, 0, [0], []) rfl rfl rfl ?_
        refine bGo hA 1 10 (44, .getfield 53, 3, 27, 0, [12, 16, 3, 70, 1, 0], []) rfl rfl rfl ?_
        refine ⟨rfl, ?_⟩
        refine bGo hA 1 11 (47, .iload_n 1, 1, 28, 0, [1], []) rfl rfl rfl ?_
        refine bGo hA 1 12 (48, .iload_n 2, 1, 29, 0, [2], []) rfl rfl rfl ?_
        refine bGo hA 1 13 (49, .iastore, 1, 30, 0, [], []) rfl rfl rfl ?_
        refine ⟨rfl, (bIxP (x := x1) (n := 4) h_x1 (k22.1 c25).1), by decide, ?_⟩
        refine bEqS (x := x1) h_x1 ?_
        refine bGo hA 1 14 (50, .iload_n 3, 1, 31, 0, [3], []) rfl rfl rfl ?_
        refine bGo hA 1 15 (51, .ireturn, 1, 0, 0, [1], []) rfl rfl rfl ?_
        exact (k22.1 c25).2
      · refine bGo hA 1 2 (34, .iconst (0), 1, 19, 0, [], [(0, 0)]) rfl rfl rfl ?_
        refine bEqI bl_0 ?_
        refine bGo hA 1 3 (35, .ireturn, 1, 20, 0, [1], []) rfl rfl rfl ?_
        exact (k22.2 c25)

theorem sq223_0 {lvl : Nat} {C : bCall} {Q : bPost} {A : bPt → Prop} (hC : bMono C) (hA : bClosed lvl bm223 C Q A) {x1 : Int} {x2 : Int} {x3 : Int} {x4 : Int} {σ : bSt}  (h_x1 : bRg x1) (h_x2 : bRg x2) (h_x3 : bRg x3) (h_x4 : bRg x4)
  (h : (C 199 [.int (bn x2), .int (bn (-1)), .int (bn 3)] σ (bRn (fun r3 s1 => (C 199 [.int (bn x1), .int (bn 0), .int (bn 2)] s1 (bRn (fun r7 s5 => ((r7 = 0 → A (28, [.ref 12, .int (bn x1), .int (bn x2), .int (bn x3), .int (bn x4), .int (bn r3), .float 0], [.int (bn 0)], s5)) ∧ (¬ r7 = 0 → ((x2 = (-1) → (C 199 [.int (bn x3), .int (bn 0), .int (bn 0)] s5 (bRn (fun r13 s11 => ((r13 = 0 → A (28, [.ref 12, .int (bn x1), .int (bn x2), .int (bn x3), .int (bn x4), .int (bn r3), .float 0], [.int (bn 0)], s11)) ∧ (¬ r13 = 0 → (C 199 [.int (bn x4), .int (bn 0), .int (bn 99)] s11 (bRn (fun r18 s16 => ((r18 = 0 → A (28, [.ref 12, .int (bn x1), .int (bn x2), .int (bn x3), .int (bn x4), .int (bn r3), .float 0], [.int (bn 0)], s16)) ∧ (¬ r18 = 0 → A (28, [.ref 12, .int (bn x1), .int (bn x2), .int (bn x3), .int (bn x4), .int (bn r3), .float 0], [.int (bn 1)], s16)))))))))))) ∧ (¬ x2 = (-1) → (C 199 [.int (bn x3), .int (bn 0), .int (bn 3)] s5 (bRn (fun r23 s21 => ((r23 = 0 → A (28, [.ref 12, .int (bn x1), .int (bn x2), .int (bn x3), .int (bn x4), .int (bn r3), .float 0], [.int (bn 0)], s21)) ∧ (¬ r23 = 0 → (C 199 [.int (bn x4), .int (bn 0), .int (bn 99)] s21 (bRn (fun r28 s26 => ((r28 = 0 → A (28, [.ref 12, .int (bn x1), .int (bn x2), .int (bn x3), .int (bn x4), .int (bn r3), .float 0], [.int (bn 0)], s26)) ∧ (¬ r28 = 0 → A (28, [.ref 12, .int (bn x1), .int (bn x2), .int (bn x3), .int (bn x4), .int (bn r3), .float 0], [.int (bn 1)], s26)))))))))))))))))))))) : A (0, [.ref 12, .int (bn x1), .int (bn x2), .int (bn x3), .int (bn x4), .float 0, .float 0], [], σ) := by
  refine bGo hA 0 0 (0, .iload_n 2, 1, 1, 0, [2], []) rfl rfl rfl ?_
  refine bGo hA 0 1 (1, .iconst (-1), 1, 2, 0, [], [(-1, 0)]) rfl rfl rfl ?_
  refine bEqI bl_m1 ?_
  refine bGo hA 0 2 (2, .iconst (3), 1, 3, 0, [], [(3, 0)]) rfl rfl rfl ?_
  refine bEqI bl_3 ?_
  refine bGo hA 0 3 (3, .invokestatic 325, 3, 4, 0, [2, 199, 3], []) rfl rfl rfl ?_
  refine hC _ _ _ _ _ (bRn_e (fun r3 s1 q4 k2 => ?_)) h
  show A (4, [.ref 12, .int (bn x1), .int (bn x2), .int (bn x3), .int (bn x4), .float 0, .float 0], [.int (bn r3)], s1)
  refine bGo hA 0 4 (6, .istore 5, 2, 5, 0, [5], []) rfl rfl rfl ?_
  refine bGo hA 0 5 (8, .iload_n 1, 1, 6, 0, [1], []) rfl rfl rfl ?_
  refine bGo hA 0 6 (9, .iconst (0), 1, 7, 0, [], [(0, 0)]) rfl rfl rfl ?_
  refine bEqI bl_0 ?_
  refine bGo hA 0 7 (10, .iconst (2), 1, 8, 0, [], [(2, 0)]) rfl rfl rfl ?_
  refine bEqI bl_2 ?_
  refine bGo hA 0 8 (11, .invokestatic 325, 3, 9, 0, [2, 199, 3], []) rfl rfl rfl ?_
  refine hC _ _ _ _ _ (bRn_e (fun r7 s5 q8 k6 => ?_)) k2
  show A (9, [.ref 12, .int (bn x1), .int (bn x2), .int (bn x3), .int (bn x4), .int (bn r3), .float 0], [.int (bn r7)], s5)
  refine bGo hA 0 9 (14, .ifCond .eq (36), 3, 10, 27, [], []) rfl rfl rfl ?_
  refine bB_eq0 (x := r7) q8 (fun c9 => ?_) (fun c9 => ?_)
  · refine bGo hA 1 11 (50, .iconst (0), 1, 28, 0, [], [(0, 0)]) rfl rfl rfl ?_
    refine bEqI bl_0 ?_
    exact (k6.1 c9)
  · refine bGo hA 0 10 (17, .iload_n 3, 1, 11, 0, [3], []) rfl rfl rfl ?_
    refine bGo hA 0 11 (18, .iconst (0), 1, 12, 0, [], [(0, 0)]) rfl rfl rfl ?_
    refine bEqI bl_0 ?_
    refine bGo hA 0 12 (19, .iload_n 2, 1, 13, 0, [2], []) rfl rfl rfl ?_
    refine bGo hA 0 13 (20, .iconst (-1), 1, 14, 0, [], [(-1, 0)]) rfl rfl rfl ?_
    refine bEqI bl_m1 ?_
    refine bGo hA 0 14 (21, .if_icmp .ne (7), 3, 15, 17, [], []) rfl rfl rfl ?_
    refine bB_eq (x := x2) (y := (-1)) h_x2 (by decide : bRg (-1)) (fun c10 => ?_) (fun c10 => ?_)
    · refine bGo hA 0 15 (24, .iconst (0), 1, 16, 0, [], [(0, 0)]) rfl rfl rfl ?_
      refine bEqI bl_0 ?_
      refine bGo hA 1 0 (25, .goto (4), 3, 17, 18, [], []) rfl rfl rfl ?_
      refine bGo hA 1 2 (29, .invokestatic 325, 3, 19, 0, [2, 199, 3], []) rfl rfl rfl ?_
      refine hC _ _ _ _ _ (bRn_e (fun r13 s11 q14 k12 => ?_)) ((k6.2 c9).1 c10)
      show A (19, [.ref 12, .int (bn x1), .int (bn x2), .int (bn x3), .int (bn x4), .int (bn r3), .float 0], [.int (bn r13)], s11)
      refine bGo hA 1 3 (32, .ifCond .eq (18), 3, 20, 27, [], []) rfl rfl rfl ?_
      refine bB_eq0 (x := r13) q14 (fun c15 => ?_) (fun c15 => ?_)
      · refine bGo hA 1 11 (50, .iconst (0), 1, 28, 0, [], [(0, 0)]) rfl rfl rfl ?_
        refine bEqI bl_0 ?_
        exact (k12.1 c15)
      · refine bGo hA 1 4 (35, .iload 4, 2, 21, 0, [4], []) rfl rfl rfl ?_
        refine bGo hA 1 5 (37, .iconst (0), 1, 22, 0, [], [(0, 0)]) rfl rfl rfl ?_
        refine bEqI bl_0 ?_
        refine bGo hA 1 6 (38, .bipush (99), 2, 23, 0, [], [(99, 0)]) rfl rfl rfl ?_
        refine bEqI bl_99 ?_
        refine bGo hA 1 7 (40, .invokestatic 325, 3, 24, 0, [2, 199, 3], []) rfl rfl rfl ?_
        refine hC _ _ _ _ _ (bRn_e (fun r18 s16 q19 k17 => ?_)) (k12.2 c15)
        show A (24, [.ref 12, .int (bn x1), .int (bn x2), .int (bn x3), .int (bn x4), .int (bn r3), .float 0], [.int (bn r18)], s16)
        refine bGo hA 1 8 (43, .ifCond .eq (7), 3, 25, 27, [], []) rfl rfl rfl ?_
        refine bB_eq0 (x := r18) q19 (fun c20 => ?_) (fun c20 => ?_)
        · refine bGo hA 1 11 (50, .iconst (0), 1, 28, 0, [], [(0, 0)]) rfl rfl rfl ?_
          refine bEqI bl_0 ?_
          exact (k17.1 c20)
        · refine bGo hA 1 9 (46, .iconst (1), 1, 26, 0, [], [(1, 0)]) rfl rfl rfl ?_
          refine bEqI bl_1 ?_
          refine bGo hA 1 10 (47, .goto (4), 3, 27, 28, [], []) rfl rfl rfl ?_
          exact (k17.2 c20)
    · refine bGo hA 1 1 (28, .iconst (3), 1, 18, 0, [], [(3, 0)]) rfl rfl rfl ?_
      refine bEqI bl_3 ?_
      refine bGo hA 1 2 (29, .invokestatic 325, 3, 19, 0, [2, 199, 3], []) rfl rfl rfl ?_
      refine hC _ _ _ _ _ (bRn_e (fun r23 s21 q24 k22 => ?_)) ((k6.2 c9).2 c10)
      show A (19, [.ref 12, .int (bn x1), .int (bn x2), .int (bn x3), .int (bn x4), .int (bn r3), .float 0], [.int (bn r23)], s21)
      refine bGo hA 1 3 (32, .ifCond .eq (18), 3, 20, 27, [], []) rfl rfl rfl ?_
      refine bB_eq0 (x := r23) q24 (fun c25 => ?_) (fun c25 => ?_)
      · refine bGo hA 1 11 (50, .iconst (0), 1, 28, 0, [], [(0, 0)]) rfl rfl rfl ?_
        refine bEqI bl_0 ?_
        exact (k22.1 c25)
      · refine bGo hA 1 4 (35, .iload 4, 2, 21, 0, [4], []) rfl rfl rfl ?_
        refine bGo hA 1 5 (37, .iconst (0), 1, 22, 0, [], [(0, 0)]) rfl rfl rfl ?_
        refine bEqI bl_0 ?_
        refine bGo hA 1 6 (38, .bipush (99), 2, 23, 0, [], [(99, 0)]) rfl rfl rfl ?_
        refine bEqI bl_99 ?_
        refine bGo hA 1 7 (40, .invokestatic 325, 3, 24, 0, [2, 199, 3], []) rfl rfl rfl ?_
        refine hC _ _ _ _ _ (bRn_e (fun r28 s26 q29 k27 => ?_)) (k22.2 c25)
        show A (24, [.ref 12, .int (bn x1), .int (bn x2), .int (bn x3), .int (bn x4), .int (bn r3), .float 0], [.int (bn r28)], s26)
        refine bGo hA 1 8 (43, .ifCond .eq (7), 3, 25, 27, [], []) rfl rfl rfl ?_
        refine bB_eq0 (x := r28) q29 (fun c30 => ?_) (fun c30 => ?_)
        · refine bGo hA 1 11 (50, .iconst (0), 1, 28, 0, [], [(0, 0)]) rfl rfl rfl ?_
          refine bEqI bl_0 ?_
          exact (k27.1 c30)
        · refine bGo hA 1 9 (46, .iconst (1), 1, 26, 0, [], [(1, 0)]) rfl rfl rfl ?_
          refine bEqI bl_1 ?_
          refine bGo hA 1 10 (47, .goto (4), 3, 27, 28, [], []) rfl rfl rfl ?_
          exact (k27.2 c30)

theorem sq223_28 {lvl : Nat} {C : bCall} {Q : bPost} {A : bPt → Prop} (hC : bMono C) (hA : bClosed lvl bm223 C Q A) {l1 : Int} {l2 : Int} {l3 : Int} {l4 : Int} {l5 : Int} {v6 : Value} {t0 : Int} {σ : bSt}  (h_l1 : bRg l1) (h_l2 : bRg l2) (h_l3 : bRg l3) (h_l4 : bRg l4) (h_l5 : bRg l5) (h_t0 : bRg t0)
  (h : ((l5 = 0 → (C 197 [.ref 12, .int (bn 1)] σ (bRn (fun r4 s2 => ((r4 = 0 → ((0 ≤ (bi s2 12 17) ∧ (bi s2 12 17) < 8) ∧ ((0 ≤ (bi s2 12 17) ∧ (bi s2 12 17) < 8) ∧ ((0 ≤ (bi s2 12 17) ∧ (bi s2 12 17) < 8) ∧ ((0 ≤ (bi s2 12 17) ∧ (bi s2 12 17) < 8) ∧ (bRg ((bi s2 12 17) + 1) ∧ Q (.inl (some (.int (bn ((bi s2 12 17) + 1))))) (bw (bw (bw (bw (bw s2 71 (bi s2 12 17) l1) 72 (bi s2 12 17) l2) 73 (bi s2 12 17) l3) 74 (bi s2 12 17) l4) 12 17 ((bi s2 12 17) + 1)))))))) ∧ (¬ r4 = 0 → Q (.inl (some (.int (bn 0)))) s2)))))) ∧ (¬ l5 = 0 → ((t0 = 0 → (C 197 [.ref 12, .int (bn 2)] σ (bRn (fun r10 s8 => ((r10 = 0 → ((0 ≤ (bi s8 12 17) ∧ (bi s8 12 17) < 8) ∧ ((0 ≤ (bi s8 12 17) ∧ (bi s8 12 17) < 8) ∧ ((0 ≤ (bi s8 12 17) ∧ (bi s8 12 17) < 8) ∧ ((0 ≤ (bi s8 12 17) ∧ (bi s8 12 17) < 8) ∧ (bRg ((bi s8 12 17) + 1) ∧ Q (.inl (some (.int (bn ((bi s8 12 17) + 1))))) (bw (bw (bw (bw (bw s8 71 (bi s8 12 17) l1) 72 (bi s8 12 17) l2) 73 (bi s8 12 17) l3) 74 (bi s8 12 17) l4) 12 17 ((bi s8 12 17) + 1)))))))) ∧ (¬ r10 = 0 → Q (.inl (some (.int (bn 0)))) s8)))))) ∧ (¬ t0 = 0 → (((bi σ 12 17) = 8 → (C 197 [.ref 12, .int (bn 3)] σ (bRn (fun r16 s14 => ((r16 = 0 → ((0 ≤ (bi s14 12 17) ∧ (bi s14 12 17) < 8) ∧ ((0 ≤ (bi s14 12 17) ∧ (bi s14 12 17) < 8) ∧ ((0 ≤ (bi s14 12 17) ∧ (bi s14 12 17) < 8) ∧ ((0 ≤ (bi s14 12 17) ∧ (bi s14 12 17) < 8) ∧ (bRg ((bi s14 12 17) + 1) ∧ Q (.inl (some (.int (bn ((bi s14 12 17) + 1))))) (bw (bw (bw (bw (bw s14 71 (bi s14 12 17) l1) 72 (bi s14 12 17) l2) 73 (bi s14 12 17) l3) 74 (bi s14 12 17) l4) 12 17 ((bi s14 12 17) + 1)))))))) ∧ (¬ r16 = 0 → Q (.inl (some (.int (bn 0)))) s14)))))) ∧ (¬ (bi σ 12 17) = 8 → (C 197 [.ref 12, .int (bn 0)] σ (bRn (fun r21 s19 => ((r21 = 0 → ((0 ≤ (bi s19 12 17) ∧ (bi s19 12 17) < 8) ∧ ((0 ≤ (bi s19 12 17) ∧ (bi s19 12 17) < 8) ∧ ((0 ≤ (bi s19 12 17) ∧ (bi s19 12 17) < 8) ∧ ((0 ≤ (bi s19 12 17) ∧ (bi s19 12 17) < 8) ∧ (bRg ((bi s19 12 17) + 1) ∧ Q (.inl (some (.int (bn ((bi s19 12 17) + 1))))) (bw (bw (bw (bw (bw s19 71 (bi s19 12 17) l1) 72 (bi s19 12 17) l2) 73 (bi s19 12 17) l3) 74 (bi s19 12 17) l4) 12 17 ((bi s19 12 17) + 1)))))))) ∧ (¬ r21 = 0 → Q (.inl (some (.int (bn 0)))) s19)))))))))))) : A (28, [.ref 12, .int (bn l1), .int (bn l2), .int (bn l3), .int (bn l4), .int (bn l5), v6], [.int (bn t0)], σ) := by
  refine bGo hA 1 12 (51, .istore 6, 2, 29, 0, [6], []) rfl rfl rfl ?_
  refine bGo hA 1 13 (53, .aload_n 0, 1, 30, 0, [0], []) rfl rfl rfl ?_
  refine bGo hA 1 14 (54, .iload 5, 2, 31, 0, [5], []) rfl rfl rfl ?_
  refine bGo hA 1 15 (56, .ifCond .ne (7), 3, 32, 34, [], []) rfl rfl rfl ?_
  refine bB_eq0 (x := l5) h_l5 (fun c1 => ?_) (fun c1 => ?_)
  · refine bGo hA 2 0 (59, .iconst (1), 1, 33, 0, [], [(1, 0)]) rfl rfl rfl ?_
    refine bEqI bl_1 ?_
    refine bGo hA 2 1 (60, .goto (26), 3, 34, 45, [], []) rfl rfl rfl ?_
    refine bGo hA 2 13 (86, .invokevirtual 333, 3, 46, 0, [0, 12, 197, 1], []) rfl rfl rfl ?_
    refine ⟨rfl, ?_⟩
    refine hC _ _ _ _ _ (bRn_e (fun r4 s2 q5 k3 => ?_)) (h.1 c1)
    show A (46, [.ref 12, .int (bn l1), .int (bn l2), .int (bn l3), .int (bn l4), .int (bn l5), .int (bn t0)], [.int (bn r4)], s2)
    refine bGo hA 2 14 (89, .ifCond .eq (5), 3, 47, 49, [], []) rfl rfl rfl ?_
    refine bB_eq0 (x := r4) q5 (fun c6 => ?_) (fun c6 => ?_)
    · refine bGo hA 3 1 (94, .aload_n 0, 1, 50, 0, [0], []) rfl rfl rfl ?_
      refine bGo hA 3 2 (95, .getfield 56, 3, 51, 0, [12, 18, 3, 71, 1, 0], []) rfl rfl rfl ?_
      refine ⟨rfl, ?_⟩
      refine bGo hA 3 3 (98, .aload_n 0, 1, 52, 0, [0], []) rfl rfl rfl ?_
      refine bGo hA 3 4 (99, .getfield 377, 3, 53, 0, [12, 17, 0, 0, 0, 0], []) rfl rfl rfl ?_
      refine ⟨rfl, ?_⟩
      refine bEqI (bn_bi s2 12 17) ?_
      refine bGo hA 3 5 (102, .iload_n 1, 1, 54, 0, [1], []) rfl rfl rfl ?_
      refine bGo hA 3 6 (103, .iastore, 1, 55, 0, [], []) rfl rfl rfl ?_
      refine ⟨rfl, (bIxP (x := (bi s2 12 17)) (n := 8) (bi_rg _ _ _) (k3.1 c6).1), by decide, ?_⟩
      refine bEqS (x := (bi s2 12 17)) (bi_rg _ _ _) ?_
      refine bGo hA 3 7 (104, .aload_n 0, 1, 56, 0, [0], []) rfl rfl rfl ?_
      refine bGo hA 3 8 (105, .getfield 59, 3, 57, 0, [12, 19, 3, 72, 1, 0], []) rfl rfl rfl ?_
      refine ⟨rfl, ?_⟩
      refine bGo hA 3 9 (108, .aload_n 0, 1, 58, 0, [0], []) rfl rfl rfl ?_
      refine bGo hA 3 10 (109, .getfield 377, 3, 59, 0, [12, 17, 0, 0, 0, 0], []) rfl rfl rfl ?_
      refine ⟨rfl, ?_⟩
      refine bEqI ((bn_bi (bw s2 71 (bi s2 12 17) l1) 12 17).trans (congrArg bn (bi_ne (by decide)))) ?_
      refine bGo hA 3 11 (112, .iload_n 2, 1, 60, 0, [2], []) rfl rfl rfl ?_
      refine bGo hA 3 12 (113, .iastore, 1, 61, 0, [], []) rfl rfl rfl ?_
      refine ⟨rfl, (bIxP (x := (bi s2 12 17)) (n := 8) (bi_rg _ _ _) (k3.1 c6).2.1), by decide, ?_⟩
      refine bEqS (x := (bi s2 12 17)) (bi_rg _ _ _) ?_
      refine bGo hA 3 13 (114, .aload_n 0, 1, 62, 0, [0], []) rfl rfl rfl ?_
      refine bGo hA 3 14 (115, .getfield 62, 3, 63, 0, [12, 20, 3, 73, 1, 0], []) rfl rfl rfl ?_
      refine ⟨rfl, ?_⟩
      refine bGo hA 3 15 (118, .aload_n 0, 1, 64, 0, [0], []) rfl rfl rfl ?_
      refine bGo hA 4 0 (119, .getfield 377, 3, 65, 0, [12, 17, 0, 0, 0, 0], []) rfl rfl rfl ?_
      refine ⟨rfl, ?_⟩
      refine bEqI ((bn_bi (bw (bw s2 71 (bi s2 12 17) l1) 72 (bi s2 12 17) l2) 12 17).trans (congrArg bn ((bi_ne (by decide)).trans (bi_ne (by decide))))) ?_
      refine bGo hA 4 1 (122, .iload_n 3, 1, 66, 0, [3], []) rfl rfl rfl ?_
      refine bGo hA 4 2 (123, .iastore, 1, 67, 0, [], []) rfl rfl rfl ?_
      refine ⟨rfl, (bIxP (x := (bi s2 12 17)) (n := 8) (bi_rg _ _ _) (k3.1 c6).2.2.1), by decide, ?_⟩
      refine bEqS (x := (bi s2 12 17)) (bi_rg _ _ _) ?_
      refine bGo hA 4 3 (124, .aload_n 0, 1, 68, 0, [0], []) rfl rfl rfl ?_
      refine bGo hA 4 4 (125, .getfield 65, 3, 69, 0, [12, 21, 3, 74, 1, 0], []) rfl rfl rfl ?_
      refine ⟨rfl, ?_⟩
      refine bGo hA 4 5 (128, .aload_n 0, 1, 70, 0, [0], []) rfl rfl rfl ?_
      refine bGo hA 4 6 (129, .getfield 377, 3, 71, 0, [12, 17, 0, 0, 0, 0], []) rfl rfl rfl ?_
      refine ⟨rfl, ?_⟩
      refine bEqI ((bn_bi (bw (bw (bw s2 71 (bi s2 12 17) l1) 72 (bi s2 12 17) l2) 73 (bi s2 12 17) l3) 12 17).trans (congrArg bn (((bi_ne (by decide)).trans (bi_ne (by decide))).trans (bi_ne (by decide))))) ?_
      refine bGo hA 4 7 (132, .iload 4, 2, 72, 0, [4], []) rfl rfl rfl ?_
      refine bGo hA 4 8 (134, .iastore, 1, 73, 0, [], []) rfl rfl rfl ?_
      refine ⟨rfl, (bIxP (x := (bi s2 12 17)) (n := 8) (bi_rg _ _ _) (k3.1 c6).2.2.2.1), by decide, ?_⟩
      refine bEqS (x := (bi s2 12 17)) (bi_rg _ _ _) ?_
      refine bGo hA 4 9 (135, .aload_n 0, 1, 74, 0, [0], []) rfl rfl rfl ?_
      refine bGo hA 4 10 (136, .dup, 1, 75, 0, [], []) rfl rfl rfl ?_
      refine bGo hA 4 11 (137, .getfield 377, 3, 76, 0, [12, 17, 0, 0, 0, 0], []) rfl rfl rfl ?_
      refine ⟨rfl, ?_⟩
      refine bEqI ((bn_bi (bw (bw (bw (bw s2 71 (bi s2 12 17) l1) 72 (bi s2 12 17) l2) 73 (bi s2 12 17) l3) 74 (bi s2 12 17) l4) 12 17).trans (congrArg bn ((((bi_ne (by decide)).trans (bi_ne (by decide))).trans (bi_ne (by decide))).trans (bi_ne (by decide))))) ?_
      refine bGo hA 4 12 (140, .iconst (1), 1, 77, 0, [], [(1, 0)]) rfl rfl rfl ?_
      refine bEqI bl_1 ?_
      refine bGo hA 4 13 (141, .iadd, 1, 78, 0, [], []) rfl rfl rfl ?_
      refine bEqI (bn_add (bi s2 12 17) 1) ?_
      refine bGo hA 4 14 (142, .putfield 377, 3, 79, 0, [12, 17, 0, 0, 0, 0], []) rfl rfl rfl ?_
      refine ⟨rfl, ?_⟩
      refine bGo hA 4 15 (145, .aload_n 0, 1, 80, 0, [0], []) rfl rfl rfl ?_
      refine bGo hA 5 0 (146, .getfield 377, 3, 81, 0, [12, 17, 0, 0, 0, 0], []) rfl rfl rfl ?_
      refine ⟨rfl, ?_⟩
      refine bEqI ((bn_bi (bw (bw (bw (bw (bw s2 71 (bi s2 12 17) l1) 72 (bi s2 12 17) l2) 73 (bi s2 12 17) l3) 74 (bi s2 12 17) l4) 12 17 ((bi s2 12 17) + 1)) 12 17).trans (congrArg bn (bi_eq (k3.1 c6).2.2.2.2.1))) ?_
      refine bGo hA 5 1 (149, .ireturn, 1, 0, 0, [1], []) rfl rfl rfl ?_
      exact (k3.1 c6).2.2.2.2.2
    · refine bGo hA 2 15 (92, .iconst (0), 1, 48, 0, [], [(0, 0)]) rfl rfl rfl ?_
      refine bEqI bl_0 ?_
      refine bGo hA 3 0 (93, .ireturn, 1, 49, 0, [1], []) rfl rfl rfl ?_
      exact (k3.2 c6)
  · refine bGo hA 2 2 (63, .iload 6, 2, 35, 0, [6], []) rfl rfl rfl ?_
    refine bGo hA 2 3 (65, .ifCond .ne (7), 3, 36, 38, [], []) rfl rfl rfl ?_
    refine bB_eq0 (x := t0) h_t0 (fun c7 => ?_) (fun c7 => ?_)
    · refine bGo hA 2 4 (68, .iconst (2), 1, 37, 0, [], [(2, 0)]) rfl rfl rfl ?_
      refine bEqI bl_2 ?_
      refine bGo hA 2 5 (69, .goto (17), 3, 38, 45, [], []) rfl rfl rfl ?_
      refine bGo hA 2 13 (86, .invokevirtual 333, 3, 46, 0, [0, 12, 197, 1], []) rfl rfl rfl ?_
      refine ⟨rfl, ?_⟩
      refine hC _ _ _ _ _ (bRn_e (fun r10 s8 q11 k9 => ?_)) ((h.2 c1).1 c7)
      show A (46, [.ref 12, .int (bn l1), .int (bn l2), .int (bn l3), .int (bn l4), .int (bn l5), .int (bn t0)], [.int (bn r10)], s8)
      refine bGo hA 2 14 (89, .ifCond .eq (5), 3, 47, 49, [], []) rfl rfl rfl ?_
      refine bB_eq0 (x := r10) q11 (fun c12 => ?_) (fun c12 => ?_)
      · refine bGo hA 3 1 (94, .aload_n 0, 1, 50, 0, [0], []) rfl rfl rfl ?_
        refine bGo hA 3 2 (95, .getfield 56, 3, 51, 0, [12, 18, 3, 71, 1, 0], []) rfl rfl rfl ?_
        refine ⟨rfl, ?_⟩
        refine bGo hA 3 3 (98, .aload_n 0, 1, 52, 0, [0], []) rfl rfl rfl ?_
        refine bGo hA 3 4 (99, .getfield 377, 3, 53, 0, [12, 17, 0, 0, 0, 0], []) rfl rfl rfl ?_
        refine ⟨rfl, ?_⟩
        refine bEqI (bn_bi s8 12 17) ?_
        refine bGo hA 3 5 (102, .iload_n 1, 1, 54, 0, [1], []) rfl rfl rfl ?_
        refine bGo hA 3 6 (103, .iastore, 1, 55, 0, [], []) rfl rfl rfl ?_
        refine ⟨rfl, (bIxP (x := (bi s8 12 17)) (n := 8) (bi_rg _ _ _) (k9.1 c12).1), by decide, ?_⟩
        refine bEqS (x := (bi s8 12 17)) (bi_rg _ _ _) ?_
        refine bGo hA 3 7 (104, .aload_n 0, 1, 56, 0, [0], []) rfl rfl rfl ?_
        refine bGo hA 3 8 (105, .getfield 59, 3, 57, 0, [12, 19, 3, 72, 1, 0], []) rfl rfl rfl ?_
        refine ⟨rfl, ?_⟩
        refine bGo hA 3 9 (108, .aload_n 0, 1, 58, 0, [0], []) rfl rfl rfl ?_
        refine bGo hA 3 10 (109, .getfield 377, 3, 59, 0, [12, 17, 0, 0, 0, 0], []) rfl rfl rfl ?_
        refine ⟨rfl, ?_⟩
        refine bEqI ((bn_bi (bw s8 71 (bi s8 12 17) l1) 12 17).trans (congrArg bn (bi_ne (by decide)))) ?_
        refine bGo hA 3 11 (112, .iload_n 2, 1, 60, 0, [2], []) rfl rfl rfl ?_
        refine bGo hA 3 12 (113, .iastore, 1, 61, 0, [], []) rfl rfl rfl ?_
        refine ⟨rfl, (bIxP (x := (bi s8 12 17)) (n := 8) (bi_rg _ _ _) (k9.1 c12).2.1), by decide, ?_⟩
        refine bEqS (x := (bi s8 12 17)) (bi_rg _ _ _) ?_
        refine bGo hA 3 13 (114, .aload_n 0, 1, 62, 0, [0], []) rfl rfl rfl ?_
        refine bGo hA 3 14 (115, .getfield 62, 3, 63, 0, [12, 20, 3, 73, 1, 0], []) rfl rfl rfl ?_
        refine ⟨rfl, ?_⟩
        refine bGo hA 3 15 (118, .aload_n 0, 1, 64, 0, [0], []) rfl rfl rfl ?_
        refine bGo hA 4 0 (119, .getfield 377, 3, 65, 0, [12, 17, 0, 0, 0, 0], []) rfl rfl rfl ?_
        refine ⟨rfl, ?_⟩
        refine bEqI ((bn_bi (bw (bw s8 71 (bi s8 12 17) l1) 72 (bi s8 12 17) l2) 12 17).trans (congrArg bn ((bi_ne (by decide)).trans (bi_ne (by decide))))) ?_
        refine bGo hA 4 1 (122, .iload_n 3, 1, 66, 0, [3], []) rfl rfl rfl ?_
        refine bGo hA 4 2 (123, .iastore, 1, 67, 0, [], []) rfl rfl rfl ?_
        refine ⟨rfl, (bIxP (x := (bi s8 12 17)) (n := 8) (bi_rg _ _ _) (k9.1 c12).2.2.1), by decide, ?_⟩
        refine bEqS (x := (bi s8 12 17)) (bi_rg _ _ _) ?_
        refine bGo hA 4 3 (124, .aload_n 0, 1, 68, 0, [0], []) rfl rfl rfl ?_
        refine bGo hA 4 4 (125, .getfield 65, 3, 69, 0, [12, 21, 3, 74, 1, 0], []) rfl rfl rfl ?_
        refine ⟨rfl, ?_⟩
        refine bGo hA 4 5 (128, .aload_n 0, 1, 70, 0, [0], []) rfl rfl rfl ?_
        refine bGo hA 4 6 (129, .getfield 377, 3, 71, 0, [12, 17, 0, 0, 0, 0], []) rfl rfl rfl ?_
        refine ⟨rfl, ?_⟩
        refine bEqI ((bn_bi (bw (bw (bw s8 71 (bi s8 12 17) l1) 72 (bi s8 12 17) l2) 73 (bi s8 12 17) l3) 12 17).trans (congrArg bn (((bi_ne (by decide)).trans (bi_ne (by decide))).trans (bi_ne (by decide))))) ?_
        refine bGo hA 4 7 (132, .iload 4, 2, 72, 0, [4], []) rfl rfl rfl ?_
        refine bGo hA 4 8 (134, .iastore, 1, 73, 0, [], []) rfl rfl rfl ?_
        refine ⟨rfl, (bIxP (x := (bi s8 12 17)) (n := 8) (bi_rg _ _ _) (k9.1 c12).2.2.2.1), by decide, ?_⟩
        refine bEqS (x := (bi s8 12 17)) (bi_rg _ _ _) ?_
        refine bGo hA 4 9 (135, .aload_n 0, 1, 74, 0, [0], []) rfl rfl rfl ?_
        refine bGo hA 4 10 (136, .dup, 1, 75, 0, [], []) rfl rfl rfl ?_
        refine bGo hA 4 11 (137, .getfield 377, 3, 76, 0, [12, 17, 0, 0, 0, 0], []) rfl rfl rfl ?_
        refine ⟨rfl, ?_⟩
        refine bEqI ((bn_bi (bw (bw (bw (bw s8 71 (bi s8 12 17) l1) 72 (bi s8 12 17) l2) 73 (bi s8 12 17) l3) 74 (bi s8 12 17) l4) 12 17).trans (congrArg bn ((((bi_ne (by decide)).trans (bi_ne (by decide))).trans (bi_ne (by decide))).trans (bi_ne (by decide))))) ?_
        refine bGo hA 4 12 (140, .iconst (1), 1, 77, 0, [], [(1, 0)]) rfl rfl rfl ?_
        refine bEqI bl_1 ?_
        refine bGo hA 4 13 (141, .iadd, 1, 78, 0, [], []) rfl rfl rfl ?_
        refine bEqI (bn_add (bi s8 12 17) 1) ?_
        refine bGo hA 4 14 (142, .putfield 377, 3, 79, 0, [12, 17, 0, 0, 0, 0], []) rfl rfl rfl ?_
        refine ⟨rfl, ?_⟩
        refine bGo hA 4 15 (145, .aload_n 0, 1, 80, 0, [0], []) rfl rfl rfl ?_
        refine bGo hA 5 0 (146, .getfield 377, 3, 81, 0, [12, 17, 0, 0, 0, 0], []) rfl rfl rfl ?_
        refine ⟨rfl, ?_⟩
        refine bEqI ((bn_bi (bw (bw (bw (bw (bw s8 71 (bi s8 12 17) l1) 72 (bi s8 12 17) l2) 73 (bi s8 12 17) l3) 74 (bi s8 12 17) l4) 12 17 ((bi s8 12 17) + 1)) 12 17).trans (congrArg bn (bi_eq (k9.1 c12).2.2.2.2.1))) ?_
        refine bGo hA 5 1 (149, .ireturn, 1, 0, 0, [1], []) rfl rfl rfl ?_
        exact (k9.1 c12).2.2.2.2.2
      · refine bGo hA 2 15 (92, .iconst (0), 1, 48, 0, [], [(0, 0)]) rfl rfl rfl ?_
        refine bEqI bl_0 ?_
        refine bGo hA 3 0 (93, .ireturn, 1, 49, 0, [1], []) rfl rfl rfl ?_
        exact (k9.2 c12)
    · refine bGo hA 2 6 (72, .aload_n 0, 1, 39, 0, [0], []) rfl rfl rfl ?_
      refine bGo hA 2 7 (73, .getfield 377, 3, 40, 0, [12, 17, 0, 0, 0, 0], []) rfl rfl rfl ?_
      refine ⟨rfl, ?_⟩
      refine bEqI (bn_bi σ 12 17) ?_
      refine bGo hA 2 8 (76, .bipush (8), 2, 41, 0, [], [(8, 0)]) rfl rfl rfl ?_
      refine bEqI bl_8 ?_
      refine bGo hA 2 9 (78, .if_icmp .ne (7), 3, 42, 44, [], []) rfl rfl rfl ?_
      refine bB_eq (x := (bi σ 12 17)) (y := 8) (bi_rg _ _ _) (by decide : bRg 8) (fun c13 => ?_) (fun c13 => ?_)
      · refine bGo hA 2 10 (81, .iconst (3), 1, 43, 0, [], [(3, 0)]) rfl rfl rfl ?_
        refine bEqI bl_3 ?_
        refine bGo hA 2 11 (82, .goto (4), 3, 44, 45, [], []) rfl rfl rfl ?_
        refine bGo hA 2 13 (86, .invokevirtual 333, 3, 46, 0, [0, 12, 197, 1], []) rfl rfl rfl ?_
        refine ⟨rfl, ?_⟩
        refine hC _ _ _ _ _ (bRn_e (fun r16 s14 q17 k15 => ?_)) (((h.2 c1).2 c7).1 c13)
        show A (46, [.ref 12, .int (bn l1), .int (bn l2), .int (bn l3), .int (bn l4), .int (bn l5), .int (bn t0)], [.int (bn r16)], s14)
        refine bGo hA 2 14 (89, .ifCond .eq (5), 3, 47, 49, [], []) rfl rfl rfl ?_
        refine bB_eq0 (x := r16) q17 (fun c18 => ?_) (fun c18 => ?_)
        · refine bGo hA 3 1 (94, .aload_n 0, 1, 50, 0, [0], []) rfl rfl rfl ?_
          refine bGo hA 3 2 (95, .getfield 56, 3, 51, 0, [12, 18, 3, 71, 1, 0], []) rfl rfl rfl ?_
          refine ⟨rfl, ?_⟩
          refine bGo hA 3 3 (98, .aload_n 0, 1, 52, 0, [0], []) rfl rfl rfl ?_
          refine bGo hA 3 4 (99, .getfield 377, 3, 53, 0, [12, 17, 0, 0, 0, 0], []) rfl rfl rfl ?_
          refine ⟨rfl, ?_⟩
          refine bEqI (bn_bi s14 12 17) ?_
          refine bGo hA 3 5 (102, .iload_n 1, 1, 54, 0, [1], []) rfl rfl rfl ?_
          refine bGo hA 3 6 (103, .iastore, 1, 55, 0, [], []) rfl rfl rfl ?_
          refine ⟨rfl, (bIxP (x := (bi s14 12 17)) (n := 8) (bi_rg _ _ _) (k15.1 c18).1), by decide, ?_⟩
          refine bEqS (x := (bi s14 12 17)) (bi_rg _ _ _) ?_
          refine bGo hA 3 7 (104, .aload_n 0, 1, 56, 0, [0], []) rfl rfl rfl ?_
          refine bGo hA 3 8 (105, .getfield 59, 3, 57, 0, [12, 19, 3, 72, 1, 0], []) rfl rfl rfl ?_
          refine ⟨rfl, ?_⟩
          refine bGo hA 3 9 (108, .aload_n 0, 1, 58, 0, [0], []) rfl rfl rfl ?_
          refine bGo hA 3 10 (109, .getfield 377, 3, 59, 0, [12, 17, 0, 0, 0, 0], []) rfl rfl rfl ?_
          refine ⟨rfl, ?_⟩
          refine bEqI ((bn_bi (bw s14 71 (bi s14 12 17) l1) 12 17).trans (congrArg bn (bi_ne (by decide)))) ?_
          refine bGo hA 3 11 (112, .iload_n 2, 1, 60, 0, [2], []) rfl rfl rfl ?_
          refine bGo hA 3 12 (113, .iastore, 1, 61, 0, [], []) rfl rfl rfl ?_
          refine ⟨rfl, (bIxP (x := (bi s14 12 17)) (n := 8) (bi_rg _ _ _) (k15.1 c18).2.1), by decide, ?_⟩
          refine bEqS (x := (bi s14 12 17)) (bi_rg _ _ _) ?_
          refine bGo hA 3 13 (114, .aload_n 0, 1, 62, 0, [0], []) rfl rfl rfl ?_
          refine bGo hA 3 14 (115, .getfield 62, 3, 63, 0, [12, 20, 3, 73, 1, 0], []) rfl rfl rfl ?_
          refine ⟨rfl, ?_⟩
          refine bGo hA 3 15 (118, .aload_n 0, 1, 64, 0, [0], []) rfl rfl rfl ?_
          refine bGo hA 4 0 (119, .getfield 377, 3, 65, 0, [12, 17, 0, 0, 0, 0], []) rfl rfl rfl ?_
          refine ⟨rfl, ?_⟩
          refine bEqI ((bn_bi (bw (bw s14 71 (bi s14 12 17) l1) 72 (bi s14 12 17) l2) 12 17).trans (congrArg bn ((bi_ne (by decide)).trans (bi_ne (by decide))))) ?_
          refine bGo hA 4 1 (122, .iload_n 3, 1, 66, 0, [3], []) rfl rfl rfl ?_
          refine bGo hA 4 2 (123, .iastore, 1, 67, 0, [], []) rfl rfl rfl ?_
          refine ⟨rfl, (bIxP (x := (bi s14 12 17)) (n := 8) (bi_rg _ _ _) (k15.1 c18).2.2.1), by decide, ?_⟩
          refine bEqS (x := (bi s14 12 17)) (bi_rg _ _ _) ?_
          refine bGo hA 4 3 (124, .aload_n 0, 1, 68, 0, [0], []) rfl rfl rfl ?_
          refine bGo hA 4 4 (125, .getfield 65, 3, 69, 0, [12, 21, 3, 74, 1, 0], []) rfl rfl rfl ?_
          refine ⟨rfl, ?_⟩
          refine bGo hA 4 5 (128, .aload_n 0, 1, 70, 0, [0], []) rfl rfl rfl ?_
          refine bGo hA 4 6 (129, .getfield 377, 3, 71, 0, [12, 17, 0, 0, 0, 0], []) rfl rfl rfl ?_
          refine ⟨rfl, ?_⟩
          refine bEqI ((bn_bi (bw (bw (bw s14 71 (bi s14 12 17) l1) 72 (bi s14 12 17) l2) 73 (bi s14 12 17) l3) 12 17).trans (congrArg bn (((bi_ne (by decide)).trans (bi_ne (by decide))).trans (bi_ne (by decide))))) ?_
          refine bGo hA 4 7 (132, .iload 4, 2, 72, 0, [4], []) rfl rfl rfl ?_
          refine bGo hA 4 8 (134, .iastore, 1, 73, 0, [], []) rfl rfl rfl ?_
          refine ⟨rfl, (bIxP (x := (bi s14 12 17)) (n := 8) (bi_rg _ _ _) (k15.1 c18).2.2.2.1), by decide, ?_⟩
          refine bEqS (x := (bi s14 12 17)) (bi_rg _ _ _) ?_
          refine bGo hA 4 9 (135, .aload_n 0, 1, 74, 0, [0], []) rfl rfl rfl ?_
          refine bGo hA 4 10 (136, .dup, 1, 75, 0, [], []) rfl rfl rfl ?_
          refine bGo hA 4 11 (137, .getfield 377, 3, 76, 0, [12, 17, 0, 0, 0, 0], []) rfl rfl rfl ?_
          refine ⟨rfl, ?_⟩
          refine bEqI ((bn_bi (bw (bw (bw (bw s14 71 (bi s14 12 17) l1) 72 (bi s14 12 17) l2) 73 (bi s14 12 17) l3) 74 (bi s14 12 17) l4) 12 17).trans (congrArg bn ((((bi_ne (by decide)).trans (bi_ne (by decide))).trans (bi_ne (by decide))).trans (bi_ne (by decide))))) ?_
          refine bGo hA 4 12 (140, .iconst (1), 1, 77, 0, [], [(1, 0)]) rfl rfl rfl ?_
          refine bEqI bl_1 ?_
          refine bGo hA 4 13 (141, .iadd, 1, 78, 0, [], []) rfl rfl rfl ?_
          refine bEqI (bn_add (bi s14 12 17) 1) ?_
          refine bGo hA 4 14 (142, .putfield 377, 3, 79, 0, [12, 17, 0, 0, 0, 0], []) rfl rfl rfl ?_
          refine ⟨rfl, ?_⟩
          refine bGo hA 4 15 (145, .aload_n 0, 1, 80, 0, [0], []) rfl rfl rfl ?_
          refine bGo hA 5 0 (146, .getfield 377, 3, 81, 0, [12, 17, 0, 0, 0, 0], []) rfl rfl rfl ?_
          refine ⟨rfl, ?_⟩
          refine bEqI ((bn_bi (bw (bw (bw (bw (bw s14 71 (bi s14 12 17) l1) 72 (bi s14 12 17) l2) 73 (bi s14 12 17) l3) 74 (bi s14 12 17) l4) 12 17 ((bi s14 12 17) + 1)) 12 17).trans (congrArg bn (bi_eq (k15.1 c18).2.2.2.2.1))) ?_
          refine bGo hA 5 1 (149, .ireturn, 1, 0, 0, [1], []) rfl rfl rfl ?_
          exact (k15.1 c18).2.2.2.2.2
        · refine bGo hA 2 15 (92, .iconst (0), 1, 48, 0, [], [(0, 0)]) rfl rfl rfl ?_
          refine bEqI bl_0 ?_
          refine bGo hA 3 0 (93, .ireturn, 1, 49, 0, [1], []) rfl rfl rfl ?_
          exact (k15.2 c18)
      · refine bGo hA 2 12 (85, .iconst (0), 1, 45, 0, [], [(0, 0)]) rfl rfl rfl ?_
        refine bEqI bl_0 ?_
        refine bGo hA 2 13 (86, .invokevirtual 333, 3, 46, 0, [0, 12, 197, 1], []) rfl rfl rfl ?_
        refine ⟨rfl, ?_⟩
        refine hC _ _ _ _ _ (bRn_e (fun r21 s19 q22 k20 => ?_)) (((h.2 c1).2 c7).2 c13)
        show A (46, [.ref 12, .int (bn l1), .int (bn l2), .int (bn l3), .int (bn l4), .int (bn l5), .int (bn t0)], [.int (bn r21)], s19)
        refine bGo hA 2 14 (89, .ifCond .eq (5), 3, 47, 49, [], []) rfl rfl rfl ?_
        refine bB_eq0 (x := r21) q22 (fun c23 => ?_) (fun c23 => ?_)
        · refine bGo hA 3 1 (94, .aload_n 0, 1, 50, 0, [0], []) rfl rfl rfl ?_
          refine bGo hA 3 2 (95, .getfield 56, 3, 51, 0, [12, 18, 3, 71, 1, 0], []) rfl rfl rfl ?_
          refine ⟨rfl, ?_⟩
          refine bGo hA 3 3 (98, .aload_n 0, 1, 52, 0, [0], []) rfl rfl rfl ?_
          refine bGo hA 3 4 (99, .getfield 377, 3, 53, 0, [12, 17, 0, 0, 0, 0], []) rfl rfl rfl ?_
          refine ⟨rfl, ?_⟩
          refine bEqI (bn_bi s19 12 17) ?_
          refine bGo hA 3 5 (102, .iload_n 1, 1, 54, 0, [1], []) rfl rfl rfl ?_
          refine bGo hA 3 6 (103, .iastore, 1, 55, 0, [], []) rfl rfl rfl ?_
          refine ⟨rfl, (bIxP (x := (bi s19 12 17)) (n := 8) (bi_rg _ _ _) (k20.1 c23).1), by decide, ?_⟩
          refine bEqS (x := (bi s19 12 17)) (bi_rg _ _ _) ?_
          refine bGo hA 3 7 (104, .aload_n 0, 1, 56, 0, [0], []) rfl rfl rfl ?_
          refine bGo hA 3 8 (105, .getfield 59, 3, 57, 0, [12, 19, 3, 72, 1, 0], []) rfl rfl rfl ?_
          refine ⟨rfl, ?_⟩
          refine bGo hA 3 9 (108, .aload_n 0, 1, 58, 0, [0], []) rfl rfl rfl ?_
          refine bGo hA 3 10 (109, .getfield 377, 3, 59, 0, [12, 17, 0, 0, 0, 0], []) rfl rfl rfl ?_
          refine ⟨rfl, ?_⟩
          refine bEqI ((bn_bi (bw s19 71 (bi s19 12 17) l1) 12 17).trans (congrArg bn (bi_ne (by decide)))) ?_
          refine bGo hA 3 11 (112, .iload_n 2, 1, 60, 0, [2], []) rfl rfl rfl ?_
          refine bGo hA 3 12 (113, .iastore, 1, 61, 0, [], []) rfl rfl rfl ?_
          refine ⟨rfl, (bIxP (x := (bi s19 12 17)) (n := 8) (bi_rg _ _ _) (k20.1 c23).2.1), by decide, ?_⟩
          refine bEqS (x := (bi s19 12 17)) (bi_rg _ _ _) ?_
          refine bGo hA 3 13 (114, .aload_n 0, 1, 62, 0, [0], []) rfl rfl rfl ?_
          refine bGo hA 3 14 (115, .getfield 62, 3, 63, 0, [12, 20, 3, 73, 1, 0], []) rfl rfl rfl ?_
          refine ⟨rfl, ?_⟩
          refine bGo hA 3 15 (118, .aload_n 0, 1, 64, 0, [0], []) rfl rfl rfl ?_
          refine bGo hA 4 0 (119, .getfield 377, 3, 65, 0, [12, 17, 0, 0, 0, 0], []) rfl rfl rfl ?_
          refine ⟨rfl, ?_⟩
          refine bEqI ((bn_bi (bw (bw s19 71 (bi s19 12 17) l1) 72 (bi s19 12 17) l2) 12 17).trans (congrArg bn ((bi_ne (by decide)).trans (bi_ne (by decide))))) ?_
          refine bGo hA 4 1 (122, .iload_n 3, 1, 66, 0, [3], []) rfl rfl rfl ?_
          refine bGo hA 4 2 (123, .iastore, 1, 67, 0, [], []) rfl rfl rfl ?_
          refine ⟨rfl, (bIxP (x := (bi s19 12 17)) (n := 8) (bi_rg _ _ _) (k20.1 c23).2.2.1), by decide, ?_⟩
          refine bEqS (x := (bi s19 12 17)) (bi_rg _ _ _) ?_
          refine bGo hA 4 3 (124, .aload_n 0, 1, 68, 0, [0], []) rfl rfl rfl ?_
          refine bGo hA 4 4 (125, .getfield 65, 3, 69, 0, [12, 21, 3, 74, 1, 0], []) rfl rfl rfl ?_
          refine ⟨rfl, ?_⟩
          refine bGo hA 4 5 (128, .aload_n 0, 1, 70, 0, [0], []) rfl rfl rfl ?_
          refine bGo hA 4 6 (129, .getfield 377, 3, 71, 0, [12, 17, 0, 0, 0, 0], []) rfl rfl rfl ?_
          refine ⟨rfl, ?_⟩
          refine bEqI ((bn_bi (bw (bw (bw s19 71 (bi s19 12 17) l1) 72 (bi s19 12 17) l2) 73 (bi s19 12 17) l3) 12 17).trans (congrArg bn (((bi_ne (by decide)).trans (bi_ne (by decide))).trans (bi_ne (by decide))))) ?_
          refine bGo hA 4 7 (132, .iload 4, 2, 72, 0, [4], []) rfl rfl rfl ?_
          refine bGo hA 4 8 (134, .iastore, 1, 73, 0, [], []) rfl rfl rfl ?_
          refine ⟨rfl, (bIxP (x := (bi s19 12 17)) (n := 8) (bi_rg _ _ _) (k20.1 c23).2.2.2.1), by decide, ?_⟩
          refine bEqS (x := (bi s19 12 17)) (bi_rg _ _ _) ?_
          refine bGo hA 4 9 (135, .aload_n 0, 1, 74, 0, [0], []) rfl rfl rfl ?_
          refine bGo hA 4 10 (136, .dup, 1, 75, 0, [], []) rfl rfl rfl ?_
          refine bGo hA 4 11 (137, .getfield 377, 3, 76, 0, [12, 17, 0, 0, 0, 0], []) rfl rfl rfl ?_
          refine ⟨rfl, ?_⟩
          refine bEqI ((bn_bi (bw (bw (bw (bw s19 71 (bi s19 12 17) l1) 72 (bi s19 12 17) l2) 73 (bi s19 12 17) l3) 74 (bi s19 12 17) l4) 12 17).trans (congrArg bn ((((bi_ne (by decide)).trans (bi_ne (by decide))).trans (bi_ne (by decide))).trans (bi_ne (by decide))))) ?_
          refine bGo hA 4 12 (140, .iconst (1), 1, 77, 0, [], [(1, 0)]) rfl rfl rfl ?_
          refine bEqI bl_1 ?_
          refine bGo hA 4 13 (141, .iadd, 1, 78, 0, [], []) rfl rfl rfl ?_
          refine bEqI (bn_add (bi s19 12 17) 1) ?_
          refine bGo hA 4 14 (142, .putfield 377, 3, 79, 0, [12, 17, 0, 0, 0, 0], []) rfl rfl rfl ?_
          refine ⟨rfl, ?_⟩
          refine bGo hA 4 15 (145, .aload_n 0, 1, 80, 0, [0], []) rfl rfl rfl ?_
          refine bGo hA 5 0 (146, .getfield 377, 3, 81, 0, [12, 17, 0, 0, 0, 0], []) rfl rfl rfl ?_
          refine ⟨rfl, ?_⟩
          refine bEqI ((bn_bi (bw (bw (bw (bw (bw s19 71 (bi s19 12 17) l1) 72 (bi s19 12 17) l2) 73 (bi s19 12 17) l3) 74 (bi s19 12 17) l4) 12 17 ((bi s19 12 17) + 1)) 12 17).trans (congrArg bn (bi_eq (k20.1 c23).2.2.2.2.1))) ?_
          refine bGo hA 5 1 (149, .ireturn, 1, 0, 0, [1], []) rfl rfl rfl ?_
          exact (k20.1 c23).2.2.2.2.2
        · refine bGo hA 2 15 (92, .iconst (0), 1, 48, 0, [], [(0, 0)]) rfl rfl rfl ?_
          refine bEqI bl_0 ?_
          refine bGo hA 3 0 (93, .ireturn, 1, 49, 0, [1], []) rfl rfl rfl ?_
          exact (k20.2 c23)

theorem sq224_0 {lvl : Nat} {C : bCall} {Q : bPost} {A : bPt → Prop} (hC : bMono C) (hA : bClosed lvl bm224 C Q A) {x1 : Int} {σ : bSt}  (h_x1 : bRg x1)
  (h : (bRg ((bi σ 12 17) - 1) ∧ (C 199 [.int (bn x1), .int (bn 0), .int (bn ((bi σ 12 17) - 1))] σ (bRn (fun r3 s1 => ((r3 = 0 → (C 197 [.ref 12, .int (bn 1)] s1 (bRn (fun r8 s6 => ((r8 = 0 → A (18, [.ref 12, .int (bn x1), .int (bn x1)], [], s6)) ∧ (¬ r8 = 0 → Q (.inl (some (.int (bn 0)))) s6)))))) ∧ (¬ r3 = 0 → (C 197 [.ref 12, .int (bn 0)] s1 (bRn (fun r13 s11 => ((r13 = 0 → A (18, [.ref 12, .int (bn x1), .int (bn x1)], [], s11)) ∧ (¬ r13 = 0 → Q (.inl (some (.int (bn 0)))) s11)))))))))))) : A (0, [.ref 12, .int (bn x1), .float 0], [], σ) := by
  refine bGo hA 0 0 (0, .aload_n 0, 1, 1, 0, [0], []) rfl rfl rfl ?_
  refine bGo hA 0 1 (1, .iload_n 1, 1, 2, 0, [1], []) rfl rfl rfl ?_
  refine bGo hA 0 2 (2, .iconst (0), 1, 3, 0, [], [(0, 0)]) rfl rfl rfl ?_
  refine bEqI bl_0 ?_
  refine bGo hA 0 3 (3, .aload_n 0, 1, 4, 0, [0], []) rfl rfl rfl ?_
  refine bGo hA 0 4 (4, .getfield 377, 3, 5, 0, [12, 17, 0, 0, 0, 0], []) rfl rfl rfl ?_
  refine ⟨rfl, ?_⟩
  refine bEqI (bn_bi σ 12 17) ?_
  refine bGo hA 0 5 (7, .iconst (1), 1, 6, 0, [], [(1, 0)]) rfl rfl rfl ?_
  refine bEqI bl_1 ?_
  refine bGo hA 0 6 (8, .isub, 1, 7, 0, [], []) rfl rfl rfl ?_
  refine bEqI (bn_sub (bi σ 12 17) 1) ?_
  refine bGo hA 0 7 (9, .invokestatic 325, 3, 8, 0, [2, 199, 3], []) rfl rfl rfl ?_
  refine hC _ _ _ _ _ (bRn_e (fun r3 s1 q4 k2 => ?_)) h.2
  show A (8, [.ref 12, .int (bn x1), .float 0], [.int (bn r3), .ref 12], s1)
  refine bGo hA 0 8 (12, .ifCond .eq (7), 3, 9, 11, [], []) rfl rfl rfl ?_
  refine bB_eq0 (x := r3) q4 (fun c5 => ?_) (fun c5 => ?_)
  · refine bGo hA 0 11 (19, .iconst (1), 1, 12, 0, [], [(1, 0)]) rfl rfl rfl ?_
    refine bEqI bl_1 ?_
    refine bGo hA 0 12 (20, .invokevirtual 333, 3, 13, 0, [0, 12, 197, 1], []) rfl rfl rfl ?_
    refine ⟨rfl, ?_⟩
    refine hC _ _ _ _ _ (bRn_e (fun r8 s6 q9 k7 => ?_)) (k2.1 c5)
    show A (13, [.ref 12, .int (bn x1), .float 0], [.int (bn r8)], s6)
    refine bGo hA 0 13 (23, .ifCond .eq (5), 3, 14, 16, [], []) rfl rfl rfl ?_
    refine bB_eq0 (x := r8) q9 (fun c10 => ?_) (fun c10 => ?_)
    · refine bGo hA 1 0 (28, .iload_n 1, 1, 17, 0, [1], []) rfl rfl rfl ?_
      refine bGo hA 1 1 (29, .istore_n 2, 1, 18, 0, [2], []) rfl rfl rfl ?_
      exact (k7.1 c10)
    · refine bGo hA 0 14 (26, .iconst (0), 1, 15, 0, [], [(0, 0)]) rfl rfl rfl ?_
      refine bEqI bl_0 ?_
      refine bGo hA 0 15 (27, .ireturn, 1, 16, 0, [1], []) rfl rfl rfl ?_
      exact (k7.2 c10)
  · refine bGo hA 0 9 (15, .iconst (0), 1, 10, 0, [], [(0, 0)]) rfl rfl rfl ?_
    refine bEqI bl_0 ?_
    refine bGo hA 0 10 (16, .goto (4), 3, 11, 12, [], []) rfl rfl rfl ?_
    refine bGo hA 0 12 (20, .invokevirtual 333, 3, 13, 0, [0, 12, 197, 1], []) rfl rfl rfl ?_
    refine ⟨rfl, ?_⟩
    refine hC _ _ _ _ _ (bRn_e (fun r13 s11 q14 k12 => ?_)) (k2.2 c5)
    show A (13, [.ref 12, .int (bn x1), .float 0], [.int (bn r13)], s11)
    refine bGo hA 0 13 (23, .ifCond .eq (5), 3, 14, 16, [], []) rfl rfl rfl ?_
    refine bB_eq0 (x := r13) q14 (fun c15 => ?_) (fun c15 => ?_)
    · refine bGo hA 1 0 (28, .iload_n 1, 1, 17, 0, [1], []) rfl rfl rfl ?_
      refine bGo hA 1 1 (29, .istore_n 2, 1, 18, 0, [2], []) rfl rfl rfl ?_
      exact (k12.1 c15)
    · refine bGo hA 0 14 (26, .iconst (0), 1, 15, 0, [], [(0, 0)]) rfl rfl rfl ?_
      refine bEqI bl_0 ?_
      refine bGo hA 0 15 (27, .ireturn, 1, 16, 0, [1], []) rfl rfl rfl ?_
      exact (k12.2 c15)

theorem sq224_18 {lvl : Nat} {C : bCall} {Q : bPost} {A : bPt → Prop} (hC : bMono C) (hA : bClosed lvl bm224 C Q A) {v1 : Value} {l2 : Int} {σ : bSt}  (h_l2 : bRg l2)
  (h : (bRg ((bi σ 12 17) - 1) ∧ ((l2 < ((bi σ 12 17) - 1) → (bRg (l2 + 1) ∧ ((0 ≤ (l2 + 1) ∧ (l2 + 1) < 8) ∧ ((0 ≤ l2 ∧ l2 < 8) ∧ ((0 ≤ (l2 + 1) ∧ (l2 + 1) < 8) ∧ ((0 ≤ l2 ∧ l2 < 8) ∧ ((0 ≤ (l2 + 1) ∧ (l2 + 1) < 8) ∧ ((0 ≤ l2 ∧ l2 < 8) ∧ ((0 ≤ (l2 + 1) ∧ (l2 + 1) < 8) ∧ ((0 ≤ l2 ∧ l2 < 8) ∧ A (18, [.ref 12, (bUnl v1), .int (bn (l2 + 1))], [], (bw (bw (bw (bw σ 71 l2 (bi σ 71 (l2 + 1))) 72 l2 (bi σ 72 (l2 + 1))) 73 l2 (bi σ 73 (l2 + 1))) 74 l2 (bi σ 74 (l2 + 1)))))))))))))) ∧ (¬ l2 < ((bi σ 12 17) - 1) → Q (.inl (some (.int (bn ((bi σ 12 17) - 1))))) (bw σ 12 17 ((bi σ 12 17) - 1)))))) : A (18, [.ref 12, v1, .int (bn l2)], [], σ) := by
  refine bGo hA 1 2 (30, .iload_n 2, 1, 19, 0, [2], []) rfl rfl rfl ?_
  refine bGo hA 1 3 (31, .aload_n 0, 1, 20, 0, [0], []) rfl rfl rfl ?_
  refine bGo hA 1 4 (32, .getfield 377, 3, 21, 0, [12, 17, 0, 0, 0, 0], []) rfl rfl rfl ?_
  refine ⟨rfl, ?_⟩
  refine bEqI (bn_bi σ 12 17) ?_
  refine bGo hA 1 5 (35, .iconst (1), 1, 22, 0, [], [(1, 0)]) rfl rfl rfl ?_
  refine bEqI bl_1 ?_
  refine bGo hA 1 6 (36, .isub, 1, 23, 0, [], []) rfl rfl rfl ?_
  refine bEqI (bn_sub (bi σ 12 17) 1) ?_
  refine bGo hA 1 7 (37, .if_icmp .ge (65), 3, 24, 66, [], []) rfl rfl rfl ?_
  refine bB_lt (x := l2) (y := ((bi σ 12 17) - 1)) h_l2 h.1 (fun c1 => ?_) (fun c1 => ?_)
  · refine bGo hA 1 8 (40, .aload_n 0, 1, 25, 0, [0], []) rfl rfl rfl ?_
    refine bGo hA 1 9 (41, .getfield 56, 3, 26, 0, [12, 18, 3, 71, 1, 0], []) rfl rfl rfl ?_
    refine ⟨rfl, ?_⟩
    refine bGo hA 1 10 (44, .iload_n 2, 1, 27, 0, [2], []) rfl rfl rfl ?_
    refine bGo hA 1 11 (45, .aload_n 0, 1, 28, 0, [0], []) rfl rfl rfl ?_
    refine bGo hA 1 12 (46, .getfield 56, 3, 29, 0, [12, 18, 3, 71, 1, 0], []) rfl rfl rfl ?_
    refine ⟨rfl, ?_⟩
    refine bGo hA 1 13 (49, .iload_n 2, 1, 30, 0, [2], []) rfl rfl rfl ?_
    refine bGo hA 1 14 (50, .iconst (1), 1, 31, 0, [], [(1, 0)]) rfl rfl rfl ?_
    refine bEqI bl_1 ?_
    refine bGo hA 1 15 (51, .iadd, 1, 32, 0, [], []) rfl rfl rfl ?_
    refine bEqI (bn_add l2 1) ?_
    refine bGo hA 2 0 (52, .iaload, 1, 33, 0, [], []) rfl rfl rfl ?_
    refine ⟨rfl, (bIxP (x := (l2 + 1)) (n := 8) (h.2.1 c1).1 (h.2.1 c1).2.1), ?_⟩
    refine bEqL (x := (l2 + 1)) (h.2.1 c1).1 ?_
    refine bGo hA 2 1 (53, .iastore, 1, 34, 0, [], []) rfl rfl rfl ?_
    refine ⟨rfl, (bIxP (x := l2) (n := 8) h_l2 (h.2.1 c1).2.2.1), by decide, ?_⟩
    refine bEqS (x := l2) h_l2 ?_
    refine bGo hA 2 2 (54, .aload_n 0, 1, 35, 0, [0], []) rfl rfl rfl ?_
    refine bGo hA 2 3 (55, .getfield 59, 3, 36, 0, [12, 19, 3, 72, 1, 0], []) rfl rfl rfl ?_
    refine ⟨rfl, ?_⟩
    refine bGo hA 2 4 (58, .iload_n 2, 1, 37, 0, [2], []) rfl rfl rfl ?_
    refine bGo hA 2 5 (59, .aload_n 0, 1, 38, 0, [0], []) rfl rfl rfl ?_
    refine bGo hA 2 6 (60, .getfield 59, 3, 39, 0, [12, 19, 3, 72, 1, 0], []) rfl rfl rfl ?_
    refine ⟨rfl, ?_⟩
    refine bGo hA 2 7 (63, .iload_n 2, 1, 40, 0, [2], []) rfl rfl rfl ?_
    refine bGo hA 2 8 (64, .iconst (1), 1, 41, 0, [], [(1, 0)]) rfl rfl rfl ?_
    refine bEqI bl_1 ?_
    refine bGo hA 2 9 (65, .iadd, 1, 42, 0, [], []) rfl rfl rfl ?_
    refine bEqI (bn_add l2 1) ?_
    refine bGo hA 2 10 (66, .iaload, 1, 43, 0, [], []) rfl rfl rfl ?_
    refine ⟨rfl, (bIxP (x := (l2 + 1)) (n := 8) (h.2.1 c1).1 (h.2.1 c1).2.2.2.1), ?_⟩
    refine bEqL (x := (l2 + 1)) (h.2.1 c1).1 ?_
    refine bEqI (congrArg bn (bi_ne (by decide))) ?_
    refine bGo hA 2 11 (67, .iastore, 1, 44, 0, [], []) rfl rfl rfl ?_
    refine ⟨rfl, (bIxP (x := l2) (n := 8) h_l2 (h.2.1 c1).2.2.2.2.1), by decide, ?_⟩
    refine bEqS (x := l2) h_l2 ?_
    refine bGo hA 2 12 (68, .aload_n 0, 1, 45, 0, [0], []) rfl rfl rfl ?_
    refine bGo hA 2 13 (69, .getfield 62, 3, 46, 0, [12, 20, 3, 73, 1, 0], []) rfl rfl rfl ?_
    refine ⟨rfl, ?_⟩
    refine bGo hA 2 14 (72, .iload_n 2, 1, 47, 0, [2], []) rfl rfl rfl ?_
    refine bGo hA 2 15 (73, .aload_n 0, 1, 48, 0, [0], []) rfl rfl rfl ?_
    refine bGo hA 3 0 (74, .getfield 62, 3, 49, 0, [12, 20, 3, 73, 1, 0], []) rfl rfl rfl ?_
    refine ⟨rfl, ?_⟩
    refine bGo hA 3 1 (77, .iload_n 2, 1, 50, 0, [2], []) rfl rfl rfl ?_
    refine bGo hA 3 2 (78, .iconst (1), 1, 51, 0, [], [(1, 0)]) rfl rfl rfl ?_
    refine bEqI bl_1 ?_
    refine bGo hA 3 3 (79, .iadd, 1, 52, 0, [], []) rfl rfl rfl ?_
    refine bEqI (bn_add l2 1) ?_
    refine bGo hA 3 4 (80, .iaload, 1, 53, 0, [], []) rfl rfl rfl ?_
    refine ⟨rfl, (bIxP (x := (l2 + 1)) (n := 8) (h.2.1 c1).1 (h.2.1 c1).2.2.2.2.2.1), ?_⟩
    refine bEqL (x := (l2 + 1)) (h.2.1 c1).1 ?_
    refine bEqI (congrArg bn ((bi_ne (by decide)).trans (bi_ne (by decide)))) ?_
    refine bGo hA 3 5 (81, .iastore, 1, 54, 0, [], []) rfl rfl rfl ?_
    refine ⟨rfl, (bIxP (x := l2) (n := 8) h_l2 (h.2.1 c1).2.2.2.2.2.2.1), by decide, ?_⟩
    refine bEqS (x := l2) h_l2 ?_
    refine bGo hA 3 6 (82, .aload_n 0, 1, 55, 0, [0], []) rfl rfl rfl ?_
    refine bGo hA 3 7 (83, .getfield 65, 3, 56, 0, [12, 21, 3, 74, 1, 0], []) rfl rfl rfl ?_
    refine ⟨rfl, ?_⟩
    refine bGo hA 3 8 (86, .iload_n 2, 1, 57, 0, [2], []) rfl rfl rfl ?_
    refine bGo hA 3 9 (87, .aload_n 0, 1, 58, 0, [0], []) rfl rfl rfl ?_
    refine bGo hA 3 10 (88, .getfield 65, 3, 59, 0, [12, 21, 3, 74, 1, 0], []) rfl rfl rfl ?_
    refine ⟨rfl, ?_⟩
    refine bGo hA 3 11 (91, .iload_n 2, 1, 60, 0, [2], []) rfl rfl rfl ?_
    refine bGo hA 3 12 (92, .iconst (1), 1, 61, 0, [], [(1, 0)]) rfl rfl rfl ?_
    refine bEqI bl_1 ?_
    refine bGo hA 3 13 (93, .iadd, 1, 62, 0, [], []) rfl rfl rfl ?_
    refine bEqI (bn_add l2 1) ?_
    refine bGo hA 3 14 (94, .iaload, 1, 63, 0, [], []) rfl rfl rfl ?_
    refine ⟨rfl, (bIxP (x := (l2 + 1)) (n := 8) (h.2.1 c1).1 (h.2.1 c1).2.2.2.2.2.2.2.1), ?_⟩
    refine bEqL (x := (l2 + 1)) (h.2.1 c1).1 ?_
    refine bEqI (congrArg bn (((bi_ne (by decide)).trans (bi_ne (by decide))).trans (bi_ne (by decide)))) ?_
    refine bGo hA 3 15 (95, .iastore, 1, 64, 0, [], []) rfl rfl rfl ?_
    refine ⟨rfl, (bIxP (x := l2) (n := 8) h_l2 (h.2.1 c1).2.2.2.2.2.2.2.2.1), by decide, ?_⟩
    refine bEqS (x := l2) h_l2 ?_
    refine bGo hA 4 0 (96, .iinc 2 (1), 3, 65, 0, [2], [(1, 0)]) rfl rfl rfl ?_
    refine bEqC (fun v => A (65, [.ref 12, (bUnl v1), .int v], [], (bw (bw (bw (bw σ 71 l2 (bi σ 71 (l2 + 1))) 72 l2 (bi σ 72 (l2 + 1))) 73 l2 (bi σ 73 (l2 + 1))) 74 l2 (bi σ 74 (l2 + 1))))) ((congrArg (fun w => bn l2 + w) bl_1).trans (bn_add l2 1)) ?_
    refine bGo hA 4 1 (99, .goto (-69), 3, 66, 18, [], []) rfl rfl rfl ?_
    exact (h.2.1 c1).2.2.2.2.2.2.2.2.2
  · refine bGo hA 4 2 (102, .aload_n 0, 1, 67, 0, [0], []) rfl rfl rfl ?_
    refine bGo hA 4 3 (103, .dup, 1, 68, 0, [], []) rfl rfl rfl ?_
    refine bGo hA 4 4 (104, .getfield 377, 3, 69, 0, [12, 17, 0, 0, 0, 0], []) rfl rfl rfl ?_
    refine ⟨rfl, ?_⟩
    refine bEqI (bn_bi σ 12 17) ?_
    refine bGo hA 4 5 (107, .iconst (1), 1, 70, 0, [], [(1, 0)]) rfl rfl rfl ?_
    refine bEqI bl_1 ?_
    refine bGo hA 4 6 (108, .isub, 1, 71, 0, [], []) rfl rfl rfl ?_
    refine bEqI (bn_sub (bi σ 12 17) 1) ?_
    refine bGo hA 4 7 (109, .putfield 377, 3, 72, 0, [12, 17, 0, 0, 0, 0], []) rfl rfl rfl ?_
    refine ⟨rfl, ?_⟩
    refine bGo hA 4 8 (112, .aload_n 0, 1, 73, 0, [0], []) rfl rfl rfl ?_
    refine bGo hA 4 9 (113, .getfield 377, 3, 74, 0, [12, 17, 0, 0, 0, 0], []) rfl rfl rfl ?_
    refine ⟨rfl, ?_⟩
    refine bEqI ((bn_bi (bw σ 12 17 ((bi σ 12 17) - 1)) 12 17).trans (congrArg bn (bi_eq h.1))) ?_
    refine bGo hA 4 10 (116, .ireturn, 1, 0, 0, [1], []) rfl rfl rfl ?_
    exact (h.2.2 c1)

theorem sq239_0 {lvl : Nat} {C : bCall} {Q : bPost} {A : bPt → Prop} (hC : bMono C) (hA : bClosed lvl bm239 C Q A) {x0 : Int} {x1 : Int} {σ : bSt}  (h_x0 : bRg x0) (h_x1 : bRg x1)
  (h : (bRg (2 * x1) ∧ Q (.inl (some (.int (bn (bAnd (bShr x0 (2 * x1)) 3))))) σ)) : A (0, [.int (bn x0), .int (bn x1)], [], σ) := by
  refine bGo hA 0 0 (0, .iload_n 0, 1, 1, 0, [0], []) rfl rfl rfl ?_
  refine bGo hA 0 1 (1, .iconst (2), 1, 2, 0, [], [(2, 0)]) rfl rfl rfl ?_
  refine bEqI bl_2 ?_
  refine bGo hA 0 2 (2, .iload_n 1, 1, 3, 0, [1], []) rfl rfl rfl ?_
  refine bGo hA 0 3 (3, .imul, 1, 4, 0, [], []) rfl rfl rfl ?_
  refine bEqI (bn_mul 2 x1) ?_
  refine bGo hA 0 4 (4, .ishr, 1, 5, 0, [], []) rfl rfl rfl ?_
  refine bEqI (bn_shr x0 (2 * x1)) ?_
  refine bGo hA 0 5 (5, .iconst (3), 1, 6, 0, [], [(3, 0)]) rfl rfl rfl ?_
  refine bEqI bl_3 ?_
  refine bGo hA 0 6 (6, .iand, 1, 7, 0, [], []) rfl rfl rfl ?_
  refine bEqI (bn_and (bShr x0 (2 * x1)) 3) ?_
  refine bGo hA 0 7 (7, .ireturn, 1, 0, 0, [1], []) rfl rfl rfl ?_
  exact h.2


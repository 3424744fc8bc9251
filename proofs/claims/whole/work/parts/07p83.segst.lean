/-! segments of methods 91-94,148,149,212,213, by program (wip/whole/gen13.py): from a cut of a method on to the next cuts -/
theorem sq91_0 {lvl : Nat} {C : bCall} {Q : bPost} {A : bPt → Prop} (hC : bMono C) (hA : bClosed lvl bm91 C Q A) {x1 : Int} {σ : bSt}  (h_x1 : bRg x1)
  (h : (C 140 [.ref 34, .int (bn x1)] σ (bRn (fun r3 s1 => Q (.inl (some (.int (bn r3)))) s1)))) : A (0, [.ref 7, .int (bn x1)], [], σ) := by
  refine bGo hA 0 0 (0, .aload_n 0, 1, 1, 0, [0], []) rfl rfl rfl ?_
  refine bGo hA 0 1 (1, .getfield 9, 3, 2, 0, [7, 0, 3, 34, 1, 0], []) rfl rfl rfl ?_
  refine ⟨rfl, ?_⟩
  refine bGo hA 0 2 (4, .iload_n 1, 1, 3, 0, [1], []) rfl rfl rfl ?_
  refine bGo hA 0 3 (5, .invokestatic 55, 3, 4, 1, [2, 140, 2], []) rfl rfl rfl ?_
  refine hC _ _ _ _ _ (bRn_e (fun r3 s1 q4 k2 => ?_)) h
  show A (4, [.ref 7, .int (bn x1)], [.int (bn r3)], s1)
  refine bGo hA 0 4 (8, .ireturn, 1, 0, 0, [1], []) rfl rfl rfl ?_
  exact k2

theorem sq92_0 {lvl : Nat} {C : bCall} {Q : bPost} {A : bPt → Prop} (hC : bMono C) (hA : bClosed lvl bm92 C Q A) {x1 : Int} {x2 : Int} {x3 : Int} {x4 : Int} {x5 : Int} {σ : bSt}  (h_x1 : bRg x1) (h_x2 : bRg x2) (h_x3 : bRg x3) (h_x4 : bRg x4) (h_x5 : bRg x5)
  (h : (bRg (x1 * 12) ∧ (C 91 [.ref 7, .int (bn x1)] σ (bRn (fun r3 s1 => (bRg ((x1 * 12) + r3) ∧ (C 141 [.ref 35, .int (bn ((x1 * 12) + r3)), .int (bn x2)] s1 (bRv (fun s5 => (C 141 [.ref 36, .int (bn ((x1 * 12) + r3)), .int (bn x3)] s5 (bRv (fun s7 => (C 141 [.ref 37, .int (bn ((x1 * 12) + r3)), .int (bn x4)] s7 (bRv (fun s9 => (C 141 [.ref 38, .int (bn ((x1 * 12) + r3)), .int (bn x5)] s9 (bRv (fun s11 => (C 94 [.ref 7, .int (bn x1), .int (bn 1)] s11 (bRn (fun r15 s13 => Q (.inl (some (.int (bn r15)))) s13))))))))))))))))))))) : A (0, [.ref 7, .int (bn x1), .int (bn x2), .int (bn x3), .int (bn x4), .int (bn x5), .float 0], [], σ) := by
  refine bGo hA 0 0 (0, .iload_n 1, 1, 1, 0, [1], []) rfl rfl rfl ?_
  refine bGo hA 0 1 (1, .bipush (12), 2, 2, 0, [], [(12, 0)]) rfl rfl rfl ?_
  refine bEqI bl_12 ?_
  refine bGo hA 0 2 (3, .imul, 1, 3, 0, [], []) rfl rfl rfl ?_
  refine bEqI (bn_mul x1 12) ?_
  refine bGo hA 0 3 (4, .aload_n 0, 1, 4, 0, [0], []) rfl rfl rfl ?_
  refine bGo hA 0 4 (5, .iload_n 1, 1, 5, 0, [1], []) rfl rfl rfl ?_
  refine bGo hA 0 5 (6, .invokevirtual 59, 3, 6, 0, [0, 7, 91, 1], []) rfl rfl rfl ?_
  refine ⟨rfl, ?_⟩
  refine hC _ _ _ _ _ (bRn_e (fun r3 s1 q4 k2 => ?_)) h.2
  show A (6, [.ref 7, .int (bn x1), .int (bn x2), .int (bn x3), .int (bn x4), .int (bn x5), .float 0], [.int (bn r3), .int (bn (x1 * 12))], s1)
  refine bGo hA 0 6 (9, .iadd, 1, 7, 0, [], []) rfl rfl rfl ?_
  refine bEqI (bn_add (x1 * 12) r3) ?_
  refine bGo hA 0 7 (10, .istore 6, 2, 8, 0, [6], []) rfl rfl rfl ?_
  refine bGo hA 0 8 (12, .aload_n 0, 1, 9, 0, [0], []) rfl rfl rfl ?_
  refine bGo hA 0 9 (13, .getfield 15, 3, 10, 0, [7, 1, 3, 35, 1, 0], []) rfl rfl rfl ?_
  refine ⟨rfl, ?_⟩
  refine bGo hA 0 10 (16, .iload 6, 2, 11, 0, [6], []) rfl rfl rfl ?_
  refine bGo hA 0 11 (18, .iload_n 2, 1, 12, 0, [2], []) rfl rfl rfl ?_
  refine bGo hA 0 12 (19, .invokestatic 63, 3, 13, 1, [2, 141, 3], []) rfl rfl rfl ?_
  refine hC _ _ _ _ _ (bRv_e (fun s5 k6 => ?_)) k2.2
  show A (13, [.ref 7, .int (bn x1), .int (bn x2), .int (bn x3), .int (bn x4), .int (bn x5), .int (bn ((x1 * 12) + r3))], [], s5)
  refine bGo hA 0 13 (22, .aload_n 0, 1, 14, 0, [0], []) rfl rfl rfl ?_
  refine bGo hA 0 14 (23, .getfield 18, 3, 15, 0, [7, 2, 3, 36, 1, 0], []) rfl rfl rfl ?_
  refine ⟨rfl, ?_⟩
  refine bGo hA 0 15 (26, .iload 6, 2, 16, 0, [6], []) rfl rfl rfl ?_
  refine bGo hA 1 0 (28, .iload_n 3, 1, 17, 0, [3], []) rfl rfl rfl ?_
  refine bGo hA 1 1 (29, .invokestatic 63, 3, 18, 1, [2, 141, 3], []) rfl rfl rfl ?_
  refine hC _ _ _ _ _ (bRv_e (fun s7 k8 => ?_)) k6
  show A (18, [.ref 7, .int (bn x1), .int (bn x2), .int (bn x3), .int (bn x4), .int (bn x5), .int (bn ((x1 * 12) + r3))], [], s7)
  refine bGo hA 1 2 (32, .aload_n 0, 1, 19, 0, [0], []) rfl rfl rfl ?_
  refine bGo hA 1 3 (33, .getfield 21, 3, 20, 0, [7, 3, 3, 37, 1, 0], []) rfl rfl rfl ?_
  refine ⟨rfl, ?_⟩
  refine bGo hA 1 4 (36, .iload 6, 2, 21, 0, [6], []) rfl rfl rfl ?_
  refine bGo hA 1 5 (38, .iload 4, 2, 22, 0, [4], []) rfl rfl rfl ?_
  refine bGo hA 1 6 (40, .invokestatic 63, 3, 23, 1, [2, 141, 3], []) rfl rfl rfl ?_
  refine hC _ _ _ _ _ (bRv_e (fun s9 k10 => ?_)) k8
  show A (23, [.ref 7, .int (bn x1), .int (bn x2), .int (bn x3), .int (bn x4), .int (bn x5), .int (bn ((x1 * 12) + r3))], [], s9)
  refine bGo hA 1 7 (43, .aload_n 0, 1, 24, 0, [0], []) rfl rfl rfl ?_
  refine bGo hA 1 8 (44, .getfield 24, 3, 25, 0, [7, 4, 3, 38, 1, 0], []) rfl rfl rfl ?_
  refine ⟨rfl, ?_⟩
  refine bGo hA 1 9 (47, .iload 6, 2, 26, 0, [6], []) rfl rfl rfl ?_
  refine bGo hA 1 10 (49, .iload 5, 2, 27, 0, [5], []) rfl rfl rfl ?_
  refine bGo hA 1 11 (51, .invokestatic 63, 3, 28, 1, [2, 141, 3], []) rfl rfl rfl ?_
  refine hC _ _ _ _ _ (bRv_e (fun s11 k12 => ?_)) k10
  show A (28, [.ref 7, .int (bn x1), .int (bn x2), .int (bn x3), .int (bn x4), .int (bn x5), .int (bn ((x1 * 12) + r3))], [], s11)
  refine bGo hA 1 12 (54, .aload_n 0, 1, 29, 0, [0], []) rfl rfl rfl ?_
  refine bGo hA 1 13 (55, .iload_n 1, 1, 30, 0, [1], []) rfl rfl rfl ?_
  refine bGo hA 1 14 (56, .iconst (1), 1, 31, 0, [], [(1, 0)]) rfl rfl rfl ?_
  refine bEqI bl_1 ?_
  refine bGo hA 1 15 (57, .invokevirtual 67, 3, 32, 0, [0, 7, 94, 2], []) rfl rfl rfl ?_
  refine ⟨rfl, ?_⟩
  refine hC _ _ _ _ _ (bRn_e (fun r15 s13 q16 k14 => ?_)) k12
  show A (32, [.ref 7, .int (bn x1), .int (bn x2), .int (bn x3), .int (bn x4), .int (bn x5), .int (bn ((x1 * 12) + r3))], [.int (bn r15)], s13)
  refine bGo hA 2 0 (60, .ireturn, 1, 0, 0, [1], []) rfl rfl rfl ?_
  exact k14

theorem sq93_0 {lvl : Nat} {C : bCall} {Q : bPost} {A : bPt → Prop} (hC : bMono C) (hA : bClosed lvl bm93 C Q A) {x1 : Int} {x2 : Int} {σ : bSt}  (h_x1 : bRg x1) (h_x2 : bRg x2)
  (h : (bRg (x1 * 12) ∧ (bRg ((x1 * 12) + x2) ∧ (C 91 [.ref 7, .int (bn x1)] σ (bRn (fun r3 s1 => (bRg ((x1 * 12) + r3) ∧ (C 142 [.ref 35, .int (bn ((x1 * 12) + x2)), .int (bn ((x1 * 12) + r3))] s1 (bRv (fun s5 => (C 142 [.ref 36, .int (bn ((x1 * 12) + x2)), .int (bn ((x1 * 12) + r3))] s5 (bRv (fun s7 => (C 142 [.ref 37, .int (bn ((x1 * 12) + x2)), .int (bn ((x1 * 12) + r3))] s7 (bRv (fun s9 => (C 142 [.ref 38, .int (bn ((x1 * 12) + x2)), .int (bn ((x1 * 12) + r3))] s9 (bRv (fun s11 => (C 94 [.ref 7, .int (bn x1), .int (bn (-1))] s11 (bRn (fun r15 s13 => Q (.inl (some (.int (bn r15)))) s13)))))))))))))))))))))) : A (0, [.ref 7, .int (bn x1), .int (bn x2), .float 0, .float 0], [], σ) := by
  refine bGo hA 0 0 (0, .iload_n 1, 1, 1, 0, [1], []) rfl rfl rfl ?_
  refine bGo hA 0 1 (1, .bipush (12), 2, 2, 0, [], [(12, 0)]) rfl rfl rfl ?_
  refine bEqI bl_12 ?_
  refine bGo hA 0 2 (3, .imul, 1, 3, 0, [], []) rfl rfl rfl ?_
  refine bEqI (bn_mul x1 12) ?_
  refine bGo hA 0 3 (4, .iload_n 2, 1, 4, 0, [2], []) rfl rfl rfl ?_
  refine bGo hA 0 4 (5, .iadd, 1, 5, 0, [], []) rfl rfl rfl ?_
  refine bEqI (bn_add (x1 * 12) x2) ?_
  refine bGo hA 0 5 (6, .istore_n 3, 1, 6, 0, [3], []) rfl rfl rfl ?_
  refine bGo hA 0 6 (7, .iload_n 1, 1, 7, 0, [1], []) rfl rfl rfl ?_
  refine bGo hA 0 7 (8, .bipush (12), 2, 8, 0, [], [(12, 0)]) rfl rfl rfl ?_
  refine bEqI bl_12 ?_
  refine bGo hA 0 8 (10, .imul, 1, 9, 0, [], []) rfl rfl rfl ?_
  refine bEqI (bn_mul x1 12) ?_
  refine bGo hA 0 9 (11, .aload_n 0, 1, 10, 0, [0], []) rfl rfl rfl ?_
  refine bGo hA 0 10 (12, .iload_n 1, 1, 11, 0, [1], []) rfl rfl rfl ?_
  refine bGo hA 0 11 (13, .invokevirtual 59, 3, 12, 0, [0, 7, 91, 1], []) rfl rfl rfl ?_
  refine ⟨rfl, ?_⟩
  refine hC _ _ _ _ _ (bRn_e (fun r3 s1 q4 k2 => ?_)) h.2.2
  show A (12, [.ref 7, .int (bn x1), .int (bn x2), .int (bn ((x1 * 12) + x2)), .float 0], [.int (bn r3), .int (bn (x1 * 12))], s1)
  refine bGo hA 0 12 (16, .iadd, 1, 13, 0, [], []) rfl rfl rfl ?_
  refine bEqI (bn_add (x1 * 12) r3) ?_
  refine bGo hA 0 13 (17, .istore 4, 2, 14, 0, [4], []) rfl rfl rfl ?_
  refine bGo hA 0 14 (19, .aload_n 0, 1, 15, 0, [0], []) rfl rfl rfl ?_
  refine bGo hA 0 15 (20, .getfield 15, 3, 16, 0, [7, 1, 3, 35, 1, 0], []) rfl rfl rfl ?_
  refine ⟨rfl, ?_⟩
  refine bGo hA 1 0 (23, .iload_n 3, 1, 17, 0, [3], []) rfl rfl rfl ?_
  refine bGo hA 1 1 (24, .iload 4, 2, 18, 0, [4], []) rfl rfl rfl ?_
  refine bGo hA 1 2 (26, .invokestatic 71, 3, 19, 1, [2, 142, 3], []) rfl rfl rfl ?_
  refine hC _ _ _ _ _ (bRv_e (fun s5 k6 => ?_)) k2.2
  show A (19, [.ref 7, .int (bn x1), .int (bn x2), .int (bn ((x1 * 12) + x2)), .int (bn ((x1 * 12) + r3))], [], s5)
  refine bGo hA 1 3 (29, .aload_n 0, 1, 20, 0, [0], []) rfl rfl rfl ?_
  refine bGo hA 1 4 (30, .getfield 18, 3, 21, 0, [7, 2, 3, 36, 1, 0], []) rfl rfl rfl ?_
  refine ⟨rfl, ?_⟩
  refine bGo hA 1 5 (33, .iload_n 3, 1, 22, 0, [3], []) rfl rfl rfl ?_
  refine bGo hA 1 6 (34, .iload 4, 2, 23, 0, [4], []) rfl rfl rfl ?_
  refine bGo hA 1 7 (36, .invokestatic 71, 3, 24, 1, [2, 142, 3], []) rfl rfl rfl ?_
  refine hC _ _ _ _ _ (bRv_e (fun s7 k8 => ?_)) k6
  show A (24, [.ref 7, .int (bn x1), .int (bn x2), .int (bn ((x1 * 12) + x2)), .int (bn ((x1 * 12) + r3))], [], s7)
  refine bGo hA 1 8 (39, .aload_n 0, 1, 25, 0, [0], []) rfl rfl rfl ?_
  refine bGo hA 1 9 (40, .getfield 21, 3, 26, 0, [7, 3, 3, 37, 1, 0], []) rfl rfl rfl ?_
  refine ⟨rfl, ?_⟩
  refine bGo hA 1 10 (43, .iload_n 3, 1, 27, 0, [3], []) rfl rfl rfl ?_
  refine bGo hA 1 11 (44, .iload 4, 2, 28, 0, [4], []) rfl rfl rfl ?_
  refine bGo hA 1 12 (46, .invokestatic 71, 3, 29, 1, [2, 142, 3], []) rfl rfl rfl ?_
  refine hC _ _ _ _ _ (bRv_e (fun s9 k10 => ?_)) k8
  show A (29, [.ref 7, .int (bn x1), .int (bn x2), .int (bn ((x1 * 12) + x2)), .int (bn ((x1 * 12) + r3))], [], s9)
  refine bGo hA 1 13 (49, .aload_n 0, 1, 30, 0, [0], []) rfl rfl rfl ?_
  refine bGo hA 1 14 (50, .getfield 24, 3, 31, 0, [7, 4, 3, 38, 1, 0], []) rfl rfl rfl ?_
  refine ⟨rfl, ?_⟩
  refine bGo hA 1 15 (53, .iload_n 3, 1, 32, 0, [3], []) rfl rfl rfl ?_
  refine bGo hA 2 0 (54, .iload 4, 2, 33, 0, [4], []) rfl rfl rfl ?_
  refine bGo hA 2 1 (56, .invokestatic 71, 3, 34, 1, [2, 142, 3], []) rfl rfl rfl ?_
  refine hC _ _ _ _ _ (bRv_e (fun s11 k12 => ?_)) k10
  show A (34, [.ref 7, .int (bn x1), .int (bn x2), .int (bn ((x1 * 12) + x2)), .int (bn ((x1 * 12) + r3))], [], s11)
  refine bGo hA 2 2 (59, .aload_n 0, 1, 35, 0, [0], []) rfl rfl rfl ?_
  refine bGo hA 2 3 (60, .iload_n 1, 1, 36, 0, [1], []) rfl rfl rfl ?_
  refine bGo hA 2 4 (61, .iconst (-1), 1, 37, 0, [], [(-1, 0)]) rfl rfl rfl ?_
  refine bEqI bl_m1 ?_
  refine bGo hA 2 5 (62, .invokevirtual 67, 3, 38, 0, [0, 7, 94, 2], []) rfl rfl rfl ?_
  refine ⟨rfl, ?_⟩
  refine hC _ _ _ _ _ (bRn_e (fun r15 s13 q16 k14 => ?_)) k12
  show A (38, [.ref 7, .int (bn x1), .int (bn x2), .int (bn ((x1 * 12) + x2)), .int (bn ((x1 * 12) + r3))], [.int (bn r15)], s13)
  refine bGo hA 2 6 (65, .ireturn, 1, 0, 0, [1], []) rfl rfl rfl ?_
  exact k14

theorem sq94_0 {lvl : Nat} {C : bCall} {Q : bPost} {A : bPt → Prop} (hC : bMono C) (hA : bClosed lvl bm94 C Q A) {x1 : Int} {x2 : Int} {σ : bSt}  (h_x1 : bRg x1) (h_x2 : bRg x2)
  (h : (C 91 [.ref 7, .int (bn x1)] σ (bRn (fun r3 s1 => (bRg (r3 + x2) ∧ (C 141 [.ref 34, .int (bn x1), .int (bn (r3 + x2))] s1 (bRv (fun s5 => (C 91 [.ref 7, .int (bn x1)] (bw s5 7 15 (-1)) (bRn (fun r9 s7 => Q (.inl (some (.int (bn r9)))) s7))))))))))) : A (0, [.ref 7, .int (bn x1), .int (bn x2)], [], σ) := by
  refine bGo hA 0 0 (0, .aload_n 0, 1, 1, 0, [0], []) rfl rfl rfl ?_
  refine bGo hA 0 1 (1, .getfield 9, 3, 2, 0, [7, 0, 3, 34, 1, 0], []) rfl rfl rfl ?_
  refine ⟨rfl, ?_⟩
  refine bGo hA 0 2 (4, .iload_n 1, 1, 3, 0, [1], []) rfl rfl rfl ?_
  refine bGo hA 0 3 (5, .aload_n 0, 1, 4, 0, [0], []) rfl rfl rfl ?_
  refine bGo hA 0 4 (6, .iload_n 1, 1, 5, 0, [1], []) rfl rfl rfl ?_
  refine bGo hA 0 5 (7, .invokevirtual 59, 3, 6, 0, [0, 7, 91, 1], []) rfl rfl rfl ?_
  refine ⟨rfl, ?_⟩
  refine hC _ _ _ _ _ (bRn_e (fun r3 s1 q4 k2 => ?_)) h
  show A (6, [.ref 7, .int (bn x1), .int (bn x2)], [.int (bn r3), .int (bn x1), .ref 34], s1)
  refine bGo hA 0 6 (10, .iload_n 2, 1, 7, 0, [2], []) rfl rfl rfl ?_
  refine bGo hA 0 7 (11, .iadd, 1, 8, 0, [], []) rfl rfl rfl ?_
  refine bEqI (bn_add r3 x2) ?_
  refine bGo hA 0 8 (12, .invokestatic 63, 3, 9, 1, [2, 141, 3], []) rfl rfl rfl ?_
  refine hC _ _ _ _ _ (bRv_e (fun s5 k6 => ?_)) k2.2
  show A (9, [.ref 7, .int (bn x1), .int (bn x2)], [], s5)
  refine bGo hA 0 9 (15, .aload_n 0, 1, 10, 0, [0], []) rfl rfl rfl ?_
  refine bGo hA 0 10 (16, .iconst (-1), 1, 11, 0, [], [(-1, 0)]) rfl rfl rfl ?_
  refine bEqI bl_m1 ?_
  refine bGo hA 0 11 (17, .putfield 52, 3, 12, 0, [7, 15, 0, 0, 0, 0], []) rfl rfl rfl ?_
  refine ⟨rfl, ?_⟩
  refine bGo hA 0 12 (20, .aload_n 0, 1, 13, 0, [0], []) rfl rfl rfl ?_
  refine bGo hA 0 13 (21, .iload_n 1, 1, 14, 0, [1], []) rfl rfl rfl ?_
  refine bGo hA 0 14 (22, .invokevirtual 59, 3, 15, 0, [0, 7, 91, 1], []) rfl rfl rfl ?_
  refine ⟨rfl, ?_⟩
  refine hC _ _ _ _ _ (bRn_e (fun r9 s7 q10 k8 => ?_)) k6
  show A (15, [.ref 7, .int (bn x1), .int (bn x2)], [.int (bn r9)], s7)
  refine bGo hA 0 15 (25, .ireturn, 1, 0, 0, [1], []) rfl rfl rfl ?_
  exact k8

theorem sq148_0 {lvl : Nat} {C : bCall} {Q : bPost} {A : bPt → Prop} (hC : bMono C) (hA : bClosed lvl bm148 C Q A) {x1 : Int} {x2 : Int} {x3 : Int} {x4 : Int} {x5 : Int} {σ : bSt}  (h_x1 : bRg x1) (h_x2 : bRg x2) (h_x3 : bRg x3) (h_x4 : bRg x4) (h_x5 : bRg x5)
  (h : (C 136 [.int (bn x1), .int (bn 6)] σ (bRvx (fun s1 => (C 136 [.int (bn x3), .int (bn 8)] s1 (bRvx (fun s3 => ((x2 = 1 → A (21, [.ref 11, .int (bn x1), .int (bn x2), .int (bn x3), .int (bn x4), .int (bn x5), .float 0], [.int (bn 1)], s3)) ∧ (¬ x2 = 1 → ((x2 = 2 → A (21, [.ref 11, .int (bn x1), .int (bn x2), .int (bn x3), .int (bn x4), .int (bn x5), .float 0], [.int (bn 1)], s3)) ∧ (¬ x2 = 2 → ((x2 = 4 → A (21, [.ref 11, .int (bn x1), .int (bn x2), .int (bn x3), .int (bn x4), .int (bn x5), .float 0], [.int (bn 1)], s3)) ∧ (¬ x2 = 4 → ((x2 = 5 → A (21, [.ref 11, .int (bn x1), .int (bn x2), .int (bn x3), .int (bn x4), .int (bn x5), .float 0], [.int (bn 1)], s3)) ∧ (¬ x2 = 5 → A (21, [.ref 11, .int (bn x1), .int (bn x2), .int (bn x3), .int (bn x4), .int (bn x5), .float 0], [.int (bn 0)], s3)))))))))) (fun E s3 => Q (.inr E) s3)))) (fun E s1 => Q (.inr E) s1)))) : A (0, [.ref 11, .int (bn x1), .int (bn x2), .int (bn x3), .int (bn x4), .int (bn x5), .float 0], [], σ) := by
  refine bGo hA 0 0 (0, .iload_n 1, 1, 1, 0, [1], []) rfl rfl rfl ?_
  refine bGo hA 0 1 (1, .bipush (6), 2, 2, 0, [], [(6, 0)]) rfl rfl rfl ?_
  refine bEqI bl_6 ?_
  refine bGo hA 0 2 (3, .invokestatic 76, 3, 3, 0, [2, 136, 2], []) rfl rfl rfl ?_
  refine hC _ _ _ _ _ (bRvx_e (fun s1 k2 => ?_) (fun E s1 k2 => ?_)) h
  · show A (3, [.ref 11, .int (bn x1), .int (bn x2), .int (bn x3), .int (bn x4), .int (bn x5), .float 0], [], s1)
    refine bGo hA 0 3 (6, .iload_n 3, 1, 4, 0, [3], []) rfl rfl rfl ?_
    refine bGo hA 0 4 (7, .bipush (8), 2, 5, 0, [], [(8, 0)]) rfl rfl rfl ?_
    refine bEqI bl_8 ?_
    refine bGo hA 0 5 (9, .invokestatic 76, 3, 6, 0, [2, 136, 2], []) rfl rfl rfl ?_
    refine hC _ _ _ _ _ (bRvx_e (fun s3 k4 => ?_) (fun E s3 k4 => ?_)) k2
    · show A (6, [.ref 11, .int (bn x1), .int (bn x2), .int (bn x3), .int (bn x4), .int (bn x5), .float 0], [], s3)
      refine bGo hA 0 6 (12, .iload_n 2, 1, 7, 0, [2], []) rfl rfl rfl ?_
      refine bGo hA 0 7 (13, .iconst (1), 1, 8, 0, [], [(1, 0)]) rfl rfl rfl ?_
      refine bEqI bl_1 ?_
      refine bGo hA 0 8 (14, .if_icmp .eq (18), 3, 9, 18, [], []) rfl rfl rfl ?_
      refine bB_eq (x := x2) (y := 1) h_x2 (by decide : bRg 1) (fun c5 => ?_) (fun c5 => ?_)
      · refine bGo hA 1 2 (32, .iconst (1), 1, 19, 0, [], [(1, 0)]) rfl rfl rfl ?_
        refine bEqI bl_1 ?_
        refine bGo hA 1 3 (33, .goto (4), 3, 20, 21, [], []) rfl rfl rfl ?_
        exact (k4.1 c5)
      · refine bGo hA 0 9 (17, .iload_n 2, 1, 10, 0, [2], []) rfl rfl rfl ?_
        refine bGo hA 0 10 (18, .iconst (2), 1, 11, 0, [], [(2, 0)]) rfl rfl rfl ?_
        refine bEqI bl_2 ?_
        refine bGo hA 0 11 (19, .if_icmp .eq (13), 3, 12, 18, [], []) rfl rfl rfl ?_
        refine bB_eq (x := x2) (y := 2) h_x2 (by decide : bRg 2) (fun c6 => ?_) (fun c6 => ?_)
        · refine bGo hA 1 2 (32, .iconst (1), 1, 19, 0, [], [(1, 0)]) rfl rfl rfl ?_
          refine bEqI bl_1 ?_
          refine bGo hA 1 3 (33, .goto (4), 3, 20, 21, [], []) rfl rfl rfl ?_
          exact ((k4.2 c5).1 c6)
        · refine bGo hA 0 12 (22, .iload_n 2, 1, 13, 0, [2], []) rfl rfl rfl ?_
          refine bGo hA 0 13 (23, .iconst (4), 1, 14, 0, [], [(4, 0)]) rfl rfl rfl ?_
          refine bEqI bl_4 ?_
          refine bGo hA 0 14 (24, .if_icmp .eq (8), 3, 15, 18, [], []) rfl rfl rfl ?_
          refine bB_eq (x := x2) (y := 4) h_x2 (by decide : bRg 4) (fun c7 => ?_) (fun c7 => ?_)
          · refine bGo hA 1 2 (32, .iconst (1), 1, 19, 0, [], [(1, 0)]) rfl rfl rfl ?_
            refine bEqI bl_1 ?_
            refine bGo hA 1 3 (33, .goto (4), 3, 20, 21, [], []) rfl rfl rfl ?_
            exact (((k4.2 c5).2 c6).1 c7)
          · refine bGo hA 0 15 (27, .iload_n 2, 1, 16, 0, [2], []) rfl rfl rfl ?_
            refine bGo hA 1 0 (28, .iconst (5), 1, 17, 0, [], [(5, 0)]) rfl rfl rfl ?_
            refine bEqI bl_5 ?_
            refine bGo hA 1 1 (29, .if_icmp .ne (7), 3, 18, 20, [], []) rfl rfl rfl ?_
            refine bB_eq (x := x2) (y := 5) h_x2 (by decide : bRg 5) (fun c8 => ?_) (fun c8 => ?_)
            · refine bGo hA 1 2 (32, .iconst (1), 1, 19, 0, [], [(1, 0)]) rfl rfl rfl ?_
              refine bEqI bl_1 ?_
              refine bGo hA 1 3 (33, .goto (4), 3, 20, 21, [], []) rfl rfl rfl ?_
              exact ((((k4.2 c5).2 c6).2 c7).1 c8)
            · refine bGo hA 1 4 (36, .iconst (0), 1, 21, 0, [], [(0, 0)]) rfl rfl rfl ?_
              refine bEqI bl_0 ?_
              exact ((((k4.2 c5).2 c6).2 c7).2 c8)
    · exact k4
  · exact k2

theorem sq148_21 {lvl : Nat} {C : bCall} {Q : bPost} {A : bPt → Prop} (hC : bMono C) (hA : bClosed lvl bm148 C Q A) {l1 : Int} {l2 : Int} {l3 : Int} {l4 : Int} {l5 : Int} {v6 : Value} {t0 : Int} {σ : bSt}  (h_l1 : bRg l1) (h_l2 : bRg l2) (h_l3 : bRg l3) (h_l4 : bRg l4) (h_l5 : bRg l5) (h_t0 : bRg t0)
  (h : ((t0 = 0 → ((l2 = 1 → (C 136 [.int (bn l5), .int (bn 6)] σ (bRvx (fun s3 => (C 138 [.int (bn l2), .int (bn 0), .int (bn 6)] s3 (bRvx (fun s5 => ((t0 = 0 → ((l2 = 0 → (C 138 [.int (bn l4), .int (bn 0), .int (bn 999)] s5 (bRvx (fun s9 => A (47, [.ref 11, .int (bn l1), .int (bn l2), .int (bn l3), .int (bn l4), .int (bn l5), .int (bn t0)], [], s9)) (fun E s9 => Q (.inr E) s9)))) ∧ (¬ l2 = 0 → (C 138 [.int (bn l4), .int (bn 0), .int (bn 0)] s5 (bRvx (fun s11 => A (47, [.ref 11, .int (bn l1), .int (bn l2), .int (bn l3), .int (bn l4), .int (bn l5), .int (bn t0)], [], s11)) (fun E s11 => Q (.inr E) s11)))))) ∧ (¬ t0 = 0 → A (47, [.ref 11, .int (bn l1), .int (bn l2), .int (bn l3), .int (bn l4), .int (bn l5), .int (bn t0)], [], s5)))) (fun E s5 => Q (.inr E) s5)))) (fun E s3 => Q (.inr E) s3)))) ∧ (¬ l2 = 1 → (C 138 [.int (bn l2), .int (bn 0), .int (bn 6)] σ (bRvx (fun s13 => ((t0 = 0 → ((l2 = 0 → (C 138 [.int (bn l4), .int (bn 0), .int (bn 999)] s13 (bRvx (fun s17 => A (47, [.ref 11, .int (bn l1), .int (bn l2), .int (bn l3), .int (bn l4), .int (bn l5), .int (bn t0)], [], s17)) (fun E s17 => Q (.inr E) s17)))) ∧ (¬ l2 = 0 → (C 138 [.int (bn l4), .int (bn 0), .int (bn 0)] s13 (bRvx (fun s19 => A (47, [.ref 11, .int (bn l1), .int (bn l2), .int (bn l3), .int (bn l4), .int (bn l5), .int (bn t0)], [], s19)) (fun E s19 => Q (.inr E) s19)))))) ∧ (¬ t0 = 0 → A (47, [.ref 11, .int (bn l1), .int (bn l2), .int (bn l3), .int (bn l4), .int (bn l5), .int (bn t0)], [], s13)))) (fun E s13 => Q (.inr E) s13)))))) ∧ (¬ t0 = 0 → (C 136 [.int (bn l4), .int (bn 8)] σ (bRvx (fun s21 => ((l2 = 1 → (C 136 [.int (bn l5), .int (bn 6)] s21 (bRvx (fun s24 => (C 138 [.int (bn l2), .int (bn 0), .int (bn 6)] s24 (bRvx (fun s26 => ((t0 = 0 → ((l2 = 0 → (C 138 [.int (bn l4), .int (bn 0), .int (bn 999)] s26 (bRvx (fun s30 => A (47, [.ref 11, .int (bn l1), .int (bn l2), .int (bn l3), .int (bn l4), .int (bn l5), .int (bn t0)], [], s30)) (fun E s30 => Q (.inr E) s30)))) ∧ (¬ l2 = 0 → (C 138 [.int (bn l4), .int (bn 0), .int (bn 0)] s26 (bRvx (fun s32 => A (47, [.ref 11, .int (bn l1), .int (bn l2), .int (bn l3), .int (bn l4), .int (bn l5), .int (bn t0)], [], s32)) (fun E s32 => Q (.inr E) s32)))))) ∧ (¬ t0 = 0 → A (47, [.ref 11, .int (bn l1), .int (bn l2), .int (bn l3), .int (bn l4), .int (bn l5), .int (bn t0)], [], s26)))) (fun E s26 => Q (.inr E) s26)))) (fun E s24 => Q (.inr E) s24)))) ∧ (¬ l2 = 1 → (C 138 [.int (bn l2), .int (bn 0), .int (bn 6)] s21 (bRvx (fun s34 => ((t0 = 0 → ((l2 = 0 → (C 138 [.int (bn l4), .int (bn 0), .int (bn 999)] s34 (bRvx (fun s38 => A (47, [.ref 11, .int (bn l1), .int (bn l2), .int (bn l3), .int (bn l4), .int (bn l5), .int (bn t0)], [], s38)) (fun E s38 => Q (.inr E) s38)))) ∧ (¬ l2 = 0 → (C 138 [.int (bn l4), .int (bn 0), .int (bn 0)] s34 (bRvx (fun s40 => A (47, [.ref 11, .int (bn l1), .int (bn l2), .int (bn l3), .int (bn l4), .int (bn l5), .int (bn t0)], [], s40)) (fun E s40 => Q (.inr E) s40)))))) ∧ (¬ t0 = 0 → A (47, [.ref 11, .int (bn l1), .int (bn l2), .int (bn l3), .int (bn l4), .int (bn l5), .int (bn t0)], [], s34)))) (fun E s34 => Q (.inr E) s34)))))) (fun E s21 => Q (.inr E) s21)))))) : A (21, [.ref 11, .int (bn l1), .int (bn l2), .int (bn l3), .int (bn l4), .int (bn l5), v6], [.int (bn t0)], σ) := by
  refine bGo hA 1 5 (37, .istore 6, 2, 22, 0, [6], []) rfl rfl rfl ?_
  refine bGo hA 1 6 (39, .iload 6, 2, 23, 0, [6], []) rfl rfl rfl ?_
  refine bGo hA 1 7 (41, .ifCond .eq (10), 3, 24, 27, [], []) rfl rfl rfl ?_
  refine bB_eq0 (x := t0) h_t0 (fun c1 => ?_) (fun c1 => ?_)
  · refine bGo hA 1 11 (51, .iload_n 2, 1, 28, 0, [2], []) rfl rfl rfl ?_
    refine bGo hA 1 12 (52, .iconst (1), 1, 29, 0, [], [(1, 0)]) rfl rfl rfl ?_
    refine bEqI bl_1 ?_
    refine bGo hA 1 13 (53, .if_icmp .ne (10), 3, 30, 33, [], []) rfl rfl rfl ?_
    refine bB_eq (x := l2) (y := 1) h_l2 (by decide : bRg 1) (fun c2 => ?_) (fun c2 => ?_)
    · refine bGo hA 1 14 (56, .iload 5, 2, 31, 0, [5], []) rfl rfl rfl ?_
      refine bGo hA 1 15 (58, .bipush (6), 2, 32, 0, [], [(6, 0)]) rfl rfl rfl ?_
      refine bEqI bl_6 ?_
      refine bGo hA 2 0 (60, .invokestatic 76, 3, 33, 0, [2, 136, 2], []) rfl rfl rfl ?_
      refine hC _ _ _ _ _ (bRvx_e (fun s3 k4 => ?_) (fun E s3 k4 => ?_)) ((h.1 c1).1 c2)
      · show A (33, [.ref 11, .int (bn l1), .int (bn l2), .int (bn l3), .int (bn l4), .int (bn l5), .int (bn t0)], [], s3)
        refine bGo hA 2 1 (63, .iload_n 2, 1, 34, 0, [2], []) rfl rfl rfl ?_
        refine bGo hA 2 2 (64, .iconst (0), 1, 35, 0, [], [(0, 0)]) rfl rfl rfl ?_
        refine bEqI bl_0 ?_
        refine bGo hA 2 3 (65, .bipush (6), 2, 36, 0, [], [(6, 0)]) rfl rfl rfl ?_
        refine bEqI bl_6 ?_
        refine bGo hA 2 4 (67, .invokestatic 80, 3, 37, 0, [2, 138, 3], []) rfl rfl rfl ?_
        refine hC _ _ _ _ _ (bRvx_e (fun s5 k6 => ?_) (fun E s5 k6 => ?_)) k4
        · show A (37, [.ref 11, .int (bn l1), .int (bn l2), .int (bn l3), .int (bn l4), .int (bn l5), .int (bn t0)], [], s5)
          refine bGo hA 2 5 (70, .iload 6, 2, 38, 0, [6], []) rfl rfl rfl ?_
          refine bGo hA 2 6 (72, .ifCond .ne (20), 3, 39, 47, [], []) rfl rfl rfl ?_
          refine bB_eq0 (x := t0) h_t0 (fun c7 => ?_) (fun c7 => ?_)
          · refine bGo hA 2 7 (75, .iload 4, 2, 40, 0, [4], []) rfl rfl rfl ?_
            refine bGo hA 2 8 (77, .iconst (0), 1, 41, 0, [], [(0, 0)]) rfl rfl rfl ?_
            refine bEqI bl_0 ?_
            refine bGo hA 2 9 (78, .iload_n 2, 1, 42, 0, [2], []) rfl rfl rfl ?_
            refine bGo hA 2 10 (79, .ifCond .ne (9), 3, 43, 45, [], []) rfl rfl rfl ?_
            refine bB_eq0 (x := l2) h_l2 (fun c8 => ?_) (fun c8 => ?_)
            · refine bGo hA 2 11 (82, .sipush (999), 3, 44, 0, [], [(999, 0)]) rfl rfl rfl ?_
              refine bEqI bl_999 ?_
              refine bGo hA 2 12 (85, .goto (4), 3, 45, 46, [], []) rfl rfl rfl ?_
              refine bGo hA 2 14 (89, .invokestatic 80, 3, 47, 0, [2, 138, 3], []) rfl rfl rfl ?_
              refine hC _ _ _ _ _ (bRvx_e (fun s9 k10 => ?_) (fun E s9 k10 => ?_)) ((k6.1 c7).1 c8)
              · show A (47, [.ref 11, .int (bn l1), .int (bn l2), .int (bn l3), .int (bn l4), .int (bn l5), .int (bn t0)], [], s9)
                exact k10
              · exact k10
            · refine bGo hA 2 13 (88, .iconst (0), 1, 46, 0, [], [(0, 0)]) rfl rfl rfl ?_
              refine bEqI bl_0 ?_
              refine bGo hA 2 14 (89, .invokestatic 80, 3, 47, 0, [2, 138, 3], []) rfl rfl rfl ?_
              refine hC _ _ _ _ _ (bRvx_e (fun s11 k12 => ?_) (fun E s11 k12 => ?_)) ((k6.1 c7).2 c8)
              · show A (47, [.ref 11, .int (bn l1), .int (bn l2), .int (bn l3), .int (bn l4), .int (bn l5), .int (bn t0)], [], s11)
                exact k12
              · exact k12
          · exact (k6.2 c7)
        · exact k6
      · exact k4
    · refine bGo hA 2 1 (63, .iload_n 2, 1, 34, 0, [2], []) rfl rfl rfl ?_
      refine bGo hA 2 2 (64, .iconst (0), 1, 35, 0, [], [(0, 0)]) rfl rfl rfl ?_
      refine bEqI bl_0 ?_
      refine bGo hA 2 3 (65, .bipush (6), 2, 36, 0, [], [(6, 0)]) rfl rfl rfl ?_
      refine bEqI bl_6 ?_
      refine bGo hA 2 4 (67, .invokestatic 80, 3, 37, 0, [2, 138, 3], []) rfl rfl rfl ?_
      refine hC _ _ _ _ _ (bRvx_e (fun s13 k14 => ?_) (fun E s13 k14 => ?_)) ((h.1 c1).2 c2)
      · show A (37, [.ref 11, .int (bn l1), .int (bn l2), .int (bn l3), .int (bn l4), .int (bn l5), .int (bn t0)], [], s13)
        refine bGo hA 2 5 (70, .iload 6, 2, 38, 0, [6], []) rfl rfl rfl ?_
        refine bGo hA 2 6 (72, .ifCond .ne (20), 3, 39, 47, [], []) rfl rfl rfl ?_
        refine bB_eq0 (x := t0) h_t0 (fun c15 => ?_) (fun c15 => ?_)
        · refine bGo hA 2 7 (75, .iload 4, 2, 40, 0, [4], []) rfl rfl rfl ?_
          refine bGo hA 2 8 (77, .iconst (0), 1, 41, 0, [], [(0, 0)]) rfl rfl rfl ?_
          refine bEqI bl_0 ?_
          refine bGo hA 2 9 (78, .iload_n 2, 1, 42, 0, [2], []) rfl rfl rfl ?_
          refine bGo hA 2 10 (79, .ifCond .ne (9), 3, 43, 45, [], []) rfl rfl rfl ?_
          refine bB_eq0 (x := l2) h_l2 (fun c16 => ?_) (fun c16 => ?_)
          · refine bGo hA 2 11 (82, .sipush (999), 3, 44, 0, [], [(999, 0)]) rfl rfl rfl ?_
            refine bEqI bl_999 ?_
            refine bGo hA 2 12 (85, .goto (4), 3, 45, 46, [], []) rfl rfl rfl ?_
            refine bGo hA 2 14 (89, .invokestatic 80, 3, 47, 0, [2, 138, 3], []) rfl rfl rfl ?_
            refine hC _ _ _ _ _ (bRvx_e (fun s17 k18 => ?_) (fun E s17 k18 => ?_)) ((k14.1 c15).1 c16)
            · show A (47, [.ref 11, .int (bn l1), .int (bn l2), .int (bn l3), .int (bn l4), .int (bn l5), .int (bn t0)], [], s17)
              exact k18
            · exact k18
          · refine bGo hA 2 13 (88, .iconst (0), 1, 46, 0, [], [(0, 0)]) rfl rfl rfl ?_
            refine bEqI bl_0 ?_
            refine bGo hA 2 14 (89, .invokestatic 80, 3, 47, 0, [2, 138, 3], []) rfl rfl rfl ?_
            refine hC _ _ _ _ _ (bRvx_e (fun s19 k20 => ?_) (fun E s19 k20 => ?_)) ((k14.1 c15).2 c16)
            · show A (47, [.ref 11, .int (bn l1), .int (bn l2), .int (bn l3), .int (bn l4), .int (bn l5), .int (bn t0)], [], s19)
              exact k20
            · exact k20
        · exact (k14.2 c15)
      · exact k14
  · refine bGo hA 1 8 (44, .iload 4, 2, 25, 0, [4], []) rfl rfl rfl ?_
    refine bGo hA 1 9 (46, .bipush (8), 2, 26, 0, [], [(8, 0)]) rfl rfl rfl ?_
    refine bEqI bl_8 ?_
    refine bGo hA 1 10 (48, .invokestatic 76, 3, 27, 0, [2, 136, 2], []) rfl rfl rfl ?_
    refine hC _ _ _ _ _ (bRvx_e (fun s21 k22 => ?_) (fun E s21 k22 => ?_)) (h.2 c1)
    · show A (27, [.ref 11, .int (bn l1), .int (bn l2), .int (bn l3), .int (bn l4), .int (bn l5), .int (bn t0)], [], s21)
      refine bGo hA 1 11 (51, .iload_n 2, 1, 28, 0, [2], []) rfl rfl rfl ?_
      refine bGo hA 1 12 (52, .iconst (1), 1, 29, 0, [], [(1, 0)]) rfl rfl rfl ?_
      refine bEqI bl_1 ?_
      refine bGo hA 1 13 (53, .if_icmp .ne (10), 3, 30, 33, [], []) rfl rfl rfl ?_
      refine bB_eq (x := l2) (y := 1) h_l2 (by decide : bRg 1) (fun c23 => ?_) (fun c23 => ?_)
      · refine bGo hA 1 14 (56, .iload 5, 2, 31, 0, [5], []) rfl rfl rfl ?_
        refine bGo hA 1 15 (58, .bipush (6), 2, 32, 0, [], [(6, 0)]) rfl rfl rfl ?_
        refine bEqI bl_6 ?_
        refine bGo hA 2 0 (60, .invokestatic 76, 3, 33, 0, [2, 136, 2], []) rfl rfl rfl ?_
        refine hC _ _ _ _ _ (bRvx_e (fun s24 k25 => ?_) (fun E s24 k25 => ?_)) (k22.1 c23)
        · show A (33, [.ref 11, .int (bn l1), .int (bn l2), .int (bn l3), .int (bn l4), .int (bn l5), .int (bn t0)], [], s24)
          refine bGo hA 2 1 (63, .iload_n 2, 1, 34, 0, [2], []) rfl rfl rfl ?_
          refine bGo hA 2 2 (64, .iconst (0), 1, 35, 0, [], [(0, 0)]) rfl rfl rfl ?_
          refine bEqI bl_0 ?_
          refine bGo hA 2 3 (65, .bipush (6), 2, 36, 0, [], [(6, 0)]) rfl rfl rfl ?_
          refine bEqI bl_6 ?_
          refine bGo hA 2 4 (67, .invokestatic 80, 3, 37, 0, [2, 138, 3], []) rfl rfl rfl ?_
          refine hC _ _ _ _ _ (bRvx_e (fun s26 k27 => ?_) (fun E s26 k27 => ?_)) k25
          · show A (37, [.ref 11, .int (bn l1), .int (bn l2), .int (bn l3), .int (bn l4), .int (bn l5), .int (bn t0)], [], s26)
            refine bGo hA 2 5 (70, .iload 6, 2, 38, 0, [6], []) rfl rfl rfl ?_
            refine bGo hA 2 6 (72, .ifCond .ne (20), 3, 39, 47, [], []) rfl rfl rfl ?_
            refine bB_eq0 (x := t0) h_t0 (fun c28 => ?_) (fun c28 => ?_)
            · refine bGo hA 2 7 (75, .iload 4, 2, 40, 0, [4], []) rfl rfl rfl ?_
              refine bGo hA 2 8 (77, .iconst (0), 1, 41, 0, [], [(0, 0)]) rfl rfl rfl ?_
              refine bEqI bl_0 ?_
              refine bGo hA 2 9 (78, .iload_n 2, 1, 42, 0, [2], []) rfl rfl rfl ?_
              refine bGo hA 2 10 (79, .ifCond .ne (9), 3, 43, 45, [], []) rfl rfl rfl ?_
              refine bB_eq0 (x := l2) h_l2 (fun c29 => ?_) (fun c29 => ?_)
              · refine bGo hA 2 11 (82, .sipush (999), 3, 44, 0, [], [(999, 0)]) rfl rfl rfl ?_
                refine bEqI bl_999 ?_
                refine bGo hA 2 12 (85, .goto (4), 3, 45, 46, [], []) rfl rfl rfl ?_
                refine bGo hA 2 14 (89, .invokestatic 80, 3, 47, 0, [2, 138, 3], []) rfl rfl rfl ?_
                refine hC _ _ _ _ _ (bRvx_e (fun s30 k31 => ?_) (fun E s30 k31 => ?_)) ((k27.1 c28).1 c29)
                · show A (47, [.ref 11, .int (bn l1), .int (bn l2), .int (bn l3), .int (bn l4), .int (bn l5), .int (bn t0)], [], s30)
                  exact k31
                · exact k31
              · refine bGo hA 2 13 (88, .iconst (0), 1, 46, 0, [], [(0, 0)]) rfl rfl rfl ?_
                refine bEqI bl_0 ?_
                refine bGo hA 2 14 (89, .invokestatic 80, 3, 47, 0, [2, 138, 3], []) rfl rfl rfl ?_
                refine hC _ _ _ _ _ (bRvx_e (fun s32 k33 => ?_) (fun E s32 k33 => ?_)) ((k27.1 c28).2 c29)
                · show A (47, [.ref 11, .int (bn l1), .int (bn l2), .int (bn l3), .int (bn l4), .int (bn l5), .int (bn t0)], [], s32)
                  exact k33
                · exact k33
            · exact (k27.2 c28)
          · exact k27
        · exact k25
      · refine bGo hA 2 1 (63, .iload_n 2, 1, 34, 0, [2], []) rfl rfl rfl ?_
        refine bGo hA 2 2 (64, .iconst (0), 1, 35, 0, [], [(0, 0)]) rfl rfl rfl ?_
        refine bEqI bl_0 ?_
        refine bGo hA 2 3 (65, .bipush (6), 2, 36, 0, [], [(6, 0)]) rfl rfl rfl ?_
        refine bEqI bl_6 ?_
        refine bGo hA 2 4 (67, .invokestatic 80, 3, 37, 0, [2, 138, 3], []) rfl rfl rfl ?_
        refine hC _ _ _ _ _ (bRvx_e (fun s34 k35 => ?_) (fun E s34 k35 => ?_)) (k22.2 c23)
        · show A (37, [.ref 11, .int (bn l1), .int (bn l2), .int (bn l3), .int (bn l4), .int (bn l5), .int (bn t0)], [], s34)
          refine bGo hA 2 5 (70, .iload 6, 2, 38, 0, [6], []) rfl rfl rfl ?_
          refine bGo hA 2 6 (72, .ifCond .ne (20), 3, 39, 47, [], []) rfl rfl rfl ?_
          refine bB_eq0 (x := t0) h_t0 (fun c36 => ?_) (fun c36 => ?_)
          · refine bGo hA 2 7 (75, .iload 4, 2, 40, 0, [4], []) rfl rfl rfl ?_
            refine bGo hA 2 8 (77, .iconst (0), 1, 41, 0, [], [(0, 0)]) rfl rfl rfl ?_
            refine bEqI bl_0 ?_
            refine bGo hA 2 9 (78, .iload_n 2, 1, 42, 0, [2], []) rfl rfl rfl ?_
            refine bGo hA 2 10 (79, .ifCond .ne (9), 3, 43, 45, [], []) rfl rfl rfl ?_
            refine bB_eq0 (x := l2) h_l2 (fun c37 => ?_) (fun c37 => ?_)
            · refine bGo hA 2 11 (82, .sipush (999), 3, 44, 0, [], [(999, 0)]) rfl rfl rfl ?_
              refine bEqI bl_999 ?_
              refine bGo hA 2 12 (85, .goto (4), 3, 45, 46, [], []) rfl rfl rfl ?_
              refine bGo hA 2 14 (89, .invokestatic 80, 3, 47, 0, [2, 138, 3], []) rfl rfl rfl ?_
              refine hC _ _ _ _ _ (bRvx_e (fun s38 k39 => ?_) (fun E s38 k39 => ?_)) ((k35.1 c36).1 c37)
              · show A (47, [.ref 11, .int (bn l1), .int (bn l2), .int (bn l3), .int (bn l4), .int (bn l5), .int (bn t0)], [], s38)
                exact k39
              · exact k39
            · refine bGo hA 2 13 (88, .iconst (0), 1, 46, 0, [], [(0, 0)]) rfl rfl rfl ?_
              refine bEqI bl_0 ?_
              refine bGo hA 2 14 (89, .invokestatic 80, 3, 47, 0, [2, 138, 3], []) rfl rfl rfl ?_
              refine hC _ _ _ _ _ (bRvx_e (fun s40 k41 => ?_) (fun E s40 k41 => ?_)) ((k35.1 c36).2 c37)
              · show A (47, [.ref 11, .int (bn l1), .int (bn l2), .int (bn l3), .int (bn l4), .int (bn l5), .int (bn t0)], [], s40)
                exact k41
              · exact k41
          · exact (k35.2 c36)
        · exact k35
    · exact k22

theorem sq148_47 {lvl : Nat} {C : bCall} {Q : bPost} {A : bPt → Prop} (hC : bMono C) (hA : bClosed lvl bm148 C Q A) {l1 : Int} {l2 : Int} {l3 : Int} {l4 : Int} {l5 : Int} {v6 : Value} {σ : bSt}  (h_l1 : bRg l1) (h_l2 : bRg l2) (h_l3 : bRg l3) (h_l4 : bRg l4) (h_l5 : bRg l5)
  (h : ((l2 = 1 → (C 91 [.ref 7, .int (bn l1)] σ (bRn (fun r4 s2 => ((r4 < 12 → (C 139 [.int (bn 1)] s2 (bRvx (fun s7 => (C 92 [.ref 7, .int (bn l1), .int (bn l2), .int (bn l3), .int (bn l4), .int (bn l5)] s7 (bRn (fun r11 s9 => Q (.inl (some (.int (bn r11)))) s9)))) (fun E s7 => Q (.inr E) s7)))) ∧ (¬ r4 < 12 → (C 139 [.int (bn 0)] s2 (bRvx (fun s13 => (C 92 [.ref 7, .int (bn l1), .int (bn l2), .int (bn l3), .int (bn l4), .int (bn l5)] s13 (bRn (fun r17 s15 => Q (.inl (some (.int (bn r17)))) s15)))) (fun E s13 => Q (.inr E) s13))))))))) ∧ (¬ l2 = 1 → (C 138 [.int (bn l5), .int (bn 0), .int (bn 0)] σ (bRvx (fun s19 => (C 91 [.ref 7, .int (bn l1)] s19 (bRn (fun r23 s21 => ((r23 < 12 → (C 139 [.int (bn 1)] s21 (bRvx (fun s26 => (C 92 [.ref 7, .int (bn l1), .int (bn l2), .int (bn l3), .int (bn l4), .int (bn l5)] s26 (bRn (fun r30 s28 => Q (.inl (some (.int (bn r30)))) s28)))) (fun E s26 => Q (.inr E) s26)))) ∧ (¬ r23 < 12 → (C 139 [.int (bn 0)] s21 (bRvx (fun s32 => (C 92 [.ref 7, .int (bn l1), .int (bn l2), .int (bn l3), .int (bn l4), .int (bn l5)] s32 (bRn (fun r36 s34 => Q (.inl (some (.int (bn r36)))) s34)))) (fun E s32 => Q (.inr E) s32))))))))) (fun E s19 => Q (.inr E) s19)))))) : A (47, [.ref 11, .int (bn l1), .int (bn l2), .int (bn l3), .int (bn l4), .int (bn l5), v6], [], σ) := by
  refine bGo hA 2 15 (92, .iload_n 2, 1, 48, 0, [2], []) rfl rfl rfl ?_
  refine bGo hA 3 0 (93, .iconst (1), 1, 49, 0, [], [(1, 0)]) rfl rfl rfl ?_
  refine bEqI bl_1 ?_
  refine bGo hA 3 1 (94, .if_icmp .eq (10), 3, 50, 54, [], []) rfl rfl rfl ?_
  refine bB_eq (x := l2) (y := 1) h_l2 (by decide : bRg 1) (fun c1 => ?_) (fun c1 => ?_)
  · refine bGo hA 3 6 (104, .aload_n 0, 1, 55, 0, [0], []) rfl rfl rfl ?_
    refine bGo hA 3 7 (105, .getfield 19, 3, 56, 0, [11, 1, 3, 7, 0, 0], []) rfl rfl rfl ?_
    refine ⟨rfl, ?_⟩
    refine bGo hA 3 8 (108, .iload_n 1, 1, 57, 0, [1], []) rfl rfl rfl ?_
    refine bGo hA 3 9 (109, .invokevirtual 108, 3, 58, 0, [0, 7, 91, 1], []) rfl rfl rfl ?_
    refine ⟨rfl, ?_⟩
    refine hC _ _ _ _ _ (bRn_e (fun r4 s2 q5 k3 => ?_)) (h.1 c1)
    show A (58, [.ref 11, .int (bn l1), .int (bn l2), .int (bn l3), .int (bn l4), .int (bn l5), v6], [.int (bn r4)], s2)
    refine bGo hA 3 10 (112, .bipush (12), 2, 59, 0, [], [(12, 0)]) rfl rfl rfl ?_
    refine bEqI bl_12 ?_
    refine bGo hA 3 11 (114, .if_icmp .ge (7), 3, 60, 62, [], []) rfl rfl rfl ?_
    refine bB_lt (x := r4) (y := 12) q5 (by decide : bRg 12) (fun c6 => ?_) (fun c6 => ?_)
    · refine bGo hA 3 12 (117, .iconst (1), 1, 61, 0, [], [(1, 0)]) rfl rfl rfl ?_
      refine bEqI bl_1 ?_
      refine bGo hA 3 13 (118, .goto (4), 3, 62, 63, [], []) rfl rfl rfl ?_
      refine bGo hA 3 15 (122, .invokestatic 88, 3, 64, 0, [2, 139, 1], []) rfl rfl rfl ?_
      refine hC _ _ _ _ _ (bRvx_e (fun s7 k8 => ?_) (fun E s7 k8 => ?_)) (k3.1 c6)
      · show A (64, [.ref 11, .int (bn l1), .int (bn l2), .int (bn l3), .int (bn l4), .int (bn l5), v6], [], s7)
        refine bGo hA 4 0 (125, .aload_n 0, 1, 65, 0, [0], []) rfl rfl rfl ?_
        refine bGo hA 4 1 (126, .getfield 19, 3, 66, 0, [11, 1, 3, 7, 0, 0], []) rfl rfl rfl ?_
        refine ⟨rfl, ?_⟩
        refine bGo hA 4 2 (129, .iload_n 1, 1, 67, 0, [1], []) rfl rfl rfl ?_
        refine bGo hA 4 3 (130, .iload_n 2, 1, 68, 0, [2], []) rfl rfl rfl ?_
        refine bGo hA 4 4 (131, .iload_n 3, 1, 69, 0, [3], []) rfl rfl rfl ?_
        refine bGo hA 4 5 (132, .iload 4, 2, 70, 0, [4], []) rfl rfl rfl ?_
        refine bGo hA 4 6 (134, .iload 5, 2, 71, 0, [5], []) rfl rfl rfl ?_
        refine bGo hA 4 7 (136, .invokevirtual 111, 3, 72, 0, [0, 7, 92, 5], []) rfl rfl rfl ?_
        refine ⟨rfl, ?_⟩
        refine hC _ _ _ _ _ (bRn_e (fun r11 s9 q12 k10 => ?_)) k8
        show A (72, [.ref 11, .int (bn l1), .int (bn l2), .int (bn l3), .int (bn l4), .int (bn l5), v6], [.int (bn r11)], s9)
        refine bGo hA 4 8 (139, .ireturn, 1, 0, 0, [1], []) rfl rfl rfl ?_
        exact k10
      · exact k8
    · refine bGo hA 3 14 (121, .iconst (0), 1, 63, 0, [], [(0, 0)]) rfl rfl rfl ?_
      refine bEqI bl_0 ?_
      refine bGo hA 3 15 (122, .invokestatic 88, 3, 64, 0, [2, 139, 1], []) rfl rfl rfl ?_
      refine hC _ _ _ _ _ (bRvx_e (fun s13 k14 => ?_) (fun E s13 k14 => ?_)) (k3.2 c6)
      · show A (64, [.ref 11, .int (bn l1), .int (bn l2), .int (bn l3), .int (bn l4), .int (bn l5), v6], [], s13)
        refine bGo hA 4 0 (125, .aload_n 0, 1, 65, 0, [0], []) rfl rfl rfl ?_
        refine bGo hA 4 1 (126, .getfield 19, 3, 66, 0, [11, 1, 3, 7, 0, 0], []) rfl rfl rfl ?_
        refine ⟨rfl, ?_⟩
        refine bGo hA 4 2 (129, .iload_n 1, 1, 67, 0, [1], []) rfl rfl rfl ?_
        refine bGo hA 4 3 (130, .iload_n 2, 1, 68, 0, [2], []) rfl rfl rfl ?_
        refine bGo hA 4 4 (131, .iload_n 3, 1, 69, 0, [3], []) rfl rfl rfl ?_
        refine bGo hA 4 5 (132, .iload 4, 2, 70, 0, [4], []) rfl rfl rfl ?_
        refine bGo hA 4 6 (134, .iload 5, 2, 71, 0, [5], []) rfl rfl rfl ?_
        refine bGo hA 4 7 (136, .invokevirtual 111, 3, 72, 0, [0, 7, 92, 5], []) rfl rfl rfl ?_
        refine ⟨rfl, ?_⟩
        refine hC _ _ _ _ _ (bRn_e (fun r17 s15 q18 k16 => ?_)) k14
        show A (72, [.ref 11, .int (bn l1), .int (bn l2), .int (bn l3), .int (bn l4), .int (bn l5), v6], [.int (bn r17)], s15)
        refine bGo hA 4 8 (139, .ireturn, 1, 0, 0, [1], []) rfl rfl rfl ?_
        exact k16
      · exact k14
  · refine bGo hA 3 2 (97, .iload 5, 2, 51, 0, [5], []) rfl rfl rfl ?_
    refine bGo hA 3 3 (99, .iconst (0), 1, 52, 0, [], [(0, 0)]) rfl rfl rfl ?_
    refine bEqI bl_0 ?_
    refine bGo hA 3 4 (100, .iconst (0), 1, 53, 0, [], [(0, 0)]) rfl rfl rfl ?_
    refine bEqI bl_0 ?_
    refine bGo hA 3 5 (101, .invokestatic 80, 3, 54, 0, [2, 138, 3], []) rfl rfl rfl ?_
    refine hC _ _ _ _ _ (bRvx_e (fun s19 k20 => ?_) (fun E s19 k20 => ?_)) (h.2 c1)
    · show A (54, [.ref 11, .int (bn l1), .int (bn l2), .int (bn l3), .int (bn l4), .int (bn l5), v6], [], s19)
      refine bGo hA 3 6 (104, .aload_n 0, 1, 55, 0, [0], []) rfl rfl rfl ?_
      refine bGo hA 3 7 (105, .getfield 19, 3, 56, 0, [11, 1, 3, 7, 0, 0], []) rfl rfl rfl ?_
      refine ⟨rfl, ?_⟩
      refine bGo hA 3 8 (108, .iload_n 1, 1, 57, 0, [1], []) rfl rfl rfl ?_
      refine bGo hA 3 9 (109, .invokevirtual 108, 3, 58, 0, [0, 7, 91, 1], []) rfl rfl rfl ?_
      refine ⟨rfl, ?_⟩
      refine hC _ _ _ _ _ (bRn_e (fun r23 s21 q24 k22 => ?_)) k20
      show A (58, [.ref 11, .int (bn l1), .int (bn l2), .int (bn l3), .int (bn l4), .int (bn l5), v6], [.int (bn r23)], s21)
      refine bGo hA 3 10 (112, .bipush (12), 2, 59, 0, [], [(12, 0)]) rfl rfl rfl ?_
      refine bEqI bl_12 ?_
      refine bGo hA 3 11 (114, .if_icmp .ge (7), 3, 60, 62, [], []) rfl rfl rfl ?_
      refine bB_lt (x := r23) (y := 12) q24 (by decide : bRg 12) (fun c25 => ?_) (fun c25 => ?_)
      · refine bGo hA 3 12 (117, .iconst (1), 1, 61, 0, [], [(1, 0)]) rfl rfl rfl ?_
        refine bEqI bl_1 ?_
        refine bGo hA 3 13 (118, .goto (4), 3, 62, 63, [], []) rfl rfl rfl ?_
        refine bGo hA 3 15 (122, .invokestatic 88, 3, 64, 0, [2, 139, 1], []) rfl rfl rfl ?_
        refine hC _ _ _ _ _ (bRvx_e (fun s26 k27 => ?_) (fun E s26 k27 => ?_)) (k22.1 c25)
        · show A (64, [.ref 11, .int (bn l1), .int (bn l2), .int (bn l3), .int (bn l4), .int (bn l5), v6], [], s26)
          refine bGo hA 4 0 (125, .aload_n 0, 1, 65, 0, [0], []) rfl rfl rfl ?_
          refine bGo hA 4 1 (126, .getfield 19, 3, 66, 0, [11, 1, 3, 7, 0, 0], []) rfl rfl rfl ?_
          refine ⟨rfl, ?_⟩
          refine bGo hA 4 2 (129, .iload_n 1, 1, 67, 0, [1], []) rfl rfl rfl ?_
          refine bGo hA 4 3 (130, .iload_n 2, 1, 68, 0, [2], []) rfl rfl rfl ?_
          refine bGo hA 4 4 (131, .iload_n 3, 1, 69, 0, [3], []) rfl rfl rfl ?_
          refine bGo hA 4 5 (132, .iload 4, 2, 70, 0, [4], []) rfl rfl rfl ?_
          refine bGo hA 4 6 (134, .iload 5, 2, 71, 0, [5], []) rfl rfl rfl ?_
          refine bGo hA 4 7 (136, .invokevirtual 111, 3, 72, 0, [0, 7, 92, 5], []) rfl rfl rfl ?_
          refine ⟨rfl, ?_⟩
          refine hC _ _ _ _ _ (bRn_e (fun r30 s28 q31 k29 => ?_)) k27
          show A (72, [.ref 11, .int (bn l1), .int (bn l2), .int (bn l3), .int (bn l4), .int (bn l5), v6], [.int (bn r30)], s28)
          refine bGo hA 4 8 (139, .ireturn, 1, 0, 0, [1], []) rfl rfl rfl ?_
          exact k29
        · exact k27
      · refine bGo hA 3 14 (121, .iconst (0), 1, 63, 0, [], [(0, 0)]) rfl rfl rfl ?_
        refine bEqI bl_0 ?_
        refine bGo hA 3 15 (122, .invokestatic 88, 3, 64, 0, [2, 139, 1], []) rfl rfl rfl ?_
        refine hC _ _ _ _ _ (bRvx_e (fun s32 k33 => ?_) (fun E s32 k33 => ?_)) (k22.2 c25)
        · show A (64, [.ref 11, .int (bn l1), .int (bn l2), .int (bn l3), .int (bn l4), .int (bn l5), v6], [], s32)
          refine bGo hA 4 0 (125, .aload_n 0, 1, 65, 0, [0], []) rfl rfl rfl ?_
          refine bGo hA 4 1 (126, .getfield 19, 3, 66, 0, [11, 1, 3, 7, 0, 0], []) rfl rfl rfl ?_
          refine ⟨rfl, ?_⟩
          refine bGo hA 4 2 (129, .iload_n 1, 1, 67, 0, [1], []) rfl rfl rfl ?_
          refine bGo hA 4 3 (130, .iload_n 2, 1, 68, 0, [2], []) rfl rfl rfl ?_
          refine bGo hA 4 4 (131, .iload_n 3, 1, 69, 0, [3], []) rfl rfl rfl ?_
          refine bGo hA 4 5 (132, .iload 4, 2, 70, 0, [4], []) rfl rfl rfl ?_
          refine bGo hA 4 6 (134, .iload 5, 2, 71, 0, [5], []) rfl rfl rfl ?_
          refine bGo hA 4 7 (136, .invokevirtual 111, 3, 72, 0, [0, 7, 92, 5], []) rfl rfl rfl ?_
          refine ⟨rfl, ?_⟩
          refine hC _ _ _ _ _ (bRn_e (fun r36 s34 q37 k35 => ?_)) k33
          show A (72, [.ref 11, .int (bn l1), .int (bn l2), .int (bn l3), .int (bn l4), .int (bn l5), v6], [.int (bn r36)], s34)
          refine bGo hA 4 8 (139, .ireturn, 1, 0, 0, [1], []) rfl rfl rfl ?_
          exact k35
        · exact k33
    · exact k20

theorem sq149_0 {lvl : Nat} {C : bCall} {Q : bPost} {A : bPt → Prop} (hC : bMono C) (hA : bClosed lvl bm149 C Q A) {x1 : Int} {x2 : Int} {σ : bSt}  (h_x1 : bRg x1) (h_x2 : bRg x2)
  (h : (C 136 [.int (bn x1), .int (bn 6)] σ (bRvx (fun s1 => (C 91 [.ref 7, .int (bn x1)] s1 (bRn (fun r5 s3 => (C 136 [.int (bn x2), .int (bn r5)] s3 (bRvx (fun s7 => (C 93 [.ref 7, .int (bn x1), .int (bn x2)] s7 (bRn (fun r11 s9 => Q (.inl (some (.int (bn r11)))) s9)))) (fun E s7 => Q (.inr E) s7))))))) (fun E s1 => Q (.inr E) s1)))) : A (0, [.ref 11, .int (bn x1), .int (bn x2)], [], σ) := by
  refine bGo hA 0 0 (0, .iload_n 1, 1, 1, 0, [1], []) rfl rfl rfl ?_
  refine bGo hA 0 1 (1, .bipush (6), 2, 2, 0, [], [(6, 0)]) rfl rfl rfl ?_
  refine bEqI bl_6 ?_
  refine bGo hA 0 2 (3, .invokestatic 76, 3, 3, 0, [2, 136, 2], []) rfl rfl rfl ?_
  refine hC _ _ _ _ _ (bRvx_e (fun s1 k2 => ?_) (fun E s1 k2 => ?_)) h
  · show A (3, [.ref 11, .int (bn x1), .int (bn x2)], [], s1)
    refine bGo hA 0 3 (6, .iload_n 2, 1, 4, 0, [2], []) rfl rfl rfl ?_
    refine bGo hA 0 4 (7, .aload_n 0, 1, 5, 0, [0], []) rfl rfl rfl ?_
    refine bGo hA 0 5 (8, .getfield 19, 3, 6, 0, [11, 1, 3, 7, 0, 0], []) rfl rfl rfl ?_
    refine ⟨rfl, ?_⟩
    refine bGo hA 0 6 (11, .iload_n 1, 1, 7, 0, [1], []) rfl rfl rfl ?_
    refine bGo hA 0 7 (12, .invokevirtual 108, 3, 8, 0, [0, 7, 91, 1], []) rfl rfl rfl ?_
    refine ⟨rfl, ?_⟩
    refine hC _ _ _ _ _ (bRn_e (fun r5 s3 q6 k4 => ?_)) k2
    show A (8, [.ref 11, .int (bn x1), .int (bn x2)], [.int (bn r5), .int (bn x2)], s3)
    refine bGo hA 0 8 (15, .invokestatic 76, 3, 9, 0, [2, 136, 2], []) rfl rfl rfl ?_
    refine hC _ _ _ _ _ (bRvx_e (fun s7 k8 => ?_) (fun E s7 k8 => ?_)) k4
    · show A (9, [.ref 11, .int (bn x1), .int (bn x2)], [], s7)
      refine bGo hA 0 9 (18, .aload_n 0, 1, 10, 0, [0], []) rfl rfl rfl ?_
      refine bGo hA 0 10 (19, .getfield 19, 3, 11, 0, [11, 1, 3, 7, 0, 0], []) rfl rfl rfl ?_
      refine ⟨rfl, ?_⟩
      refine bGo hA 0 11 (22, .iload_n 1, 1, 12, 0, [1], []) rfl rfl rfl ?_
      refine bGo hA 0 12 (23, .iload_n 2, 1, 13, 0, [2], []) rfl rfl rfl ?_
      refine bGo hA 0 13 (24, .invokevirtual 115, 3, 14, 0, [0, 7, 93, 2], []) rfl rfl rfl ?_
      refine ⟨rfl, ?_⟩
      refine hC _ _ _ _ _ (bRn_e (fun r11 s9 q12 k10 => ?_)) k8
      show A (14, [.ref 11, .int (bn x1), .int (bn x2)], [.int (bn r11)], s9)
      refine bGo hA 0 14 (27, .ireturn, 1, 0, 0, [1], []) rfl rfl rfl ?_
      exact k10
    · exact k8
  · exact k2

theorem sq212_0 {lvl : Nat} {C : bCall} {Q : bPost} {A : bPt → Prop} (hC : bMono C) (hA : bClosed lvl bm212 C Q A) {x1 : Int} {x2 : Int} {x3 : Int} {x4 : Int} {x5 : Int} {σ : bSt}  (h_x1 : bRg x1) (h_x2 : bRg x2) (h_x3 : bRg x3) (h_x4 : bRg x4) (h_x5 : bRg x5)
  (h : ((x2 = 1 → (C 210 [.int (bn x1)] σ (bRn (fun r4 s2 => ((r4 = 0 → A (36, [.ref 12, .int (bn x1), .int (bn x2), .int (bn x3), .int (bn x4), .int (bn x5), .int (bn 1), .float 0, .float 0, .float 0], [.int (bn 0)], s2)) ∧ (¬ r4 = 0 → (C 211 [.int (bn x3)] s2 (bRn (fun r9 s7 => ((r9 = 0 → A (36, [.ref 12, .int (bn x1), .int (bn x2), .int (bn x3), .int (bn x4), .int (bn x5), .int (bn 1), .float 0, .float 0, .float 0], [.int (bn 0)], s7)) ∧ (¬ r9 = 0 → (C 211 [.int (bn x4)] s7 (bRn (fun r15 s13 => ((r15 = 0 → A (36, [.ref 12, .int (bn x1), .int (bn x2), .int (bn x3), .int (bn x4), .int (bn x5), .int (bn 1), .float 0, .float 0, .float 0], [.int (bn 0)], s13)) ∧ (¬ r15 = 0 → ((x2 = 1 → (C 210 [.int (bn x5)] s13 (bRn (fun r21 s19 => ((r21 = 0 → A (36, [.ref 12, .int (bn x1), .int (bn x2), .int (bn x3), .int (bn x4), .int (bn x5), .int (bn 1), .float 0, .float 0, .float 0], [.int (bn 0)], s19)) ∧ (¬ r21 = 0 → A (36, [.ref 12, .int (bn x1), .int (bn x2), .int (bn x3), .int (bn x4), .int (bn x5), .int (bn 1), .float 0, .float 0, .float 0], [.int (bn 1)], s19))))))) ∧ (¬ x2 = 1 → A (36, [.ref 12, .int (bn x1), .int (bn x2), .int (bn x3), .int (bn x4), .int (bn x5), .int (bn 1), .float 0, .float 0, .float 0], [.int (bn 1)], s13))))))))))))))))))) ∧ (¬ x2 = 1 → ((x2 = 2 → (C 210 [.int (bn x1)] σ (bRn (fun r27 s25 => ((r27 = 0 → A (36, [.ref 12, .int (bn x1), .int (bn x2), .int (bn x3), .int (bn x4), .int (bn x5), .int (bn 1), .float 0, .float 0, .float 0], [.int (bn 0)], s25)) ∧ (¬ r27 = 0 → (C 211 [.int (bn x3)] s25 (bRn (fun r32 s30 => ((r32 = 0 → A (36, [.ref 12, .int (bn x1), .int (bn x2), .int (bn x3), .int (bn x4), .int (bn x5), .int (bn 1), .float 0, .float 0, .float 0], [.int (bn 0)], s30)) ∧ (¬ r32 = 0 → (C 211 [.int (bn x4)] s30 (bRn (fun r38 s36 => ((r38 = 0 → A (36, [.ref 12, .int (bn x1), .int (bn x2), .int (bn x3), .int (bn x4), .int (bn x5), .int (bn 1), .float 0, .float 0, .float 0], [.int (bn 0)], s36)) ∧ (¬ r38 = 0 → ((x2 = 1 → (C 210 [.int (bn x5)] s36 (bRn (fun r44 s42 => ((r44 = 0 → A (36, [.ref 12, .int (bn x1), .int (bn x2), .int (bn x3), .int (bn x4), .int (bn x5), .int (bn 1), .float 0, .float 0, .float 0], [.int (bn 0)], s42)) ∧ (¬ r44 = 0 → A (36, [.ref 12, .int (bn x1), .int (bn x2), .int (bn x3), .int (bn x4), .int (bn x5), .int (bn 1), .float 0, .float 0, .float 0], [.int (bn 1)], s42))))))) ∧ (¬ x2 = 1 → A (36, [.ref 12, .int (bn x1), .int (bn x2), .int (bn x3), .int (bn x4), .int (bn x5), .int (bn 1), .float 0, .float 0, .float 0], [.int (bn 1)], s36))))))))))))))))))) ∧ (¬ x2 = 2 → ((x2 = 4 → (C 210 [.int (bn x1)] σ (bRn (fun r50 s48 => ((r50 = 0 → A (36, [.ref 12, .int (bn x1), .int (bn x2), .int (bn x3), .int (bn x4), .int (bn x5), .int (bn 1), .float 0, .float 0, .float 0], [.int (bn 0)], s48)) ∧ (¬ r50 = 0 → (C 211 [.int (bn x3)] s48 (bRn (fun r55 s53 => ((r55 = 0 → A (36, [.ref 12, .int (bn x1), .int (bn x2), .int (bn x3), .int (bn x4), .int (bn x5), .int (bn 1), .float 0, .float 0, .float 0], [.int (bn 0)], s53)) ∧ (¬ r55 = 0 → (C 211 [.int (bn x4)] s53 (bRn (fun r61 s59 => ((r61 = 0 → A (36, [.ref 12, .int (bn x1), .int (bn x2), .int (bn x3), .int (bn x4), .int (bn x5), .int (bn 1), .float 0, .float 0, .float 0], [.int (bn 0)], s59)) ∧ (¬ r61 = 0 → ((x2 = 1 → (C 210 [.int (bn x5)] s59 (bRn (fun r67 s65 => ((r67 = 0 → A (36, [.ref 12, .int (bn x1), .int (bn x2), .int (bn x3), .int (bn x4), .int (bn x5), .int (bn 1), .float 0, .float 0, .float 0], [.int (bn 0)], s65)) ∧ (¬ r67 = 0 → A (36, [.ref 12, .int (bn x1), .int (bn x2), .int (bn x3), .int (bn x4), .int (bn x5), .int (bn 1), .float 0, .float 0, .float 0], [.int (bn 1)], s65))))))) ∧ (¬ x2 = 1 → A (36, [.ref 12, .int (bn x1), .int (bn x2), .int (bn x3), .int (bn x4), .int (bn x5), .int (bn 1), .float 0, .float 0, .float 0], [.int (bn 1)], s59))))))))))))))))))) ∧ (¬ x2 = 4 → ((x2 = 5 → (C 210 [.int (bn x1)] σ (bRn (fun r73 s71 => ((r73 = 0 → A (36, [.ref 12, .int (bn x1), .int (bn x2), .int (bn x3), .int (bn x4), .int (bn x5), .int (bn 1), .float 0, .float 0, .float 0], [.int (bn 0)], s71)) ∧ (¬ r73 = 0 → (C 211 [.int (bn x3)] s71 (bRn (fun r78 s76 => ((r78 = 0 → A (36, [.ref 12, .int (bn x1), .int (bn x2), .int (bn x3), .int (bn x4), .int (bn x5), .int (bn 1), .float 0, .float 0, .float 0], [.int (bn 0)], s76)) ∧ (¬ r78 = 0 → (C 211 [.int (bn x4)] s76 (bRn (fun r84 s82 => ((r84 = 0 → A (36, [.ref 12, .int (bn x1), .int (bn x2), .int (bn x3), .int (bn x4), .int (bn x5), .int (bn 1), .float 0, .float 0, .float 0], [.int (bn 0)], s82)) ∧ (¬ r84 = 0 → ((x2 = 1 → (C 210 [.int (bn x5)] s82 (bRn (fun r90 s88 => ((r90 = 0 → A (36, [.ref 12, .int (bn x1), .int (bn x2), .int (bn x3), .int (bn x4), .int (bn x5), .int (bn 1), .float 0, .float 0, .float 0], [.int (bn 0)], s88)) ∧ (¬ r90 = 0 → A (36, [.ref 12, .int (bn x1), .int (bn x2), .int (bn x3), .int (bn x4), .int (bn x5), .int (bn 1), .float 0, .float 0, .float 0], [.int (bn 1)], s88))))))) ∧ (¬ x2 = 1 → A (36, [.ref 12, .int (bn x1), .int (bn x2), .int (bn x3), .int (bn x4), .int (bn x5), .int (bn 1), .float 0, .float 0, .float 0], [.int (bn 1)], s82))))))))))))))))))) ∧ (¬ x2 = 5 → (C 210 [.int (bn x1)] σ (bRn (fun r95 s93 => ((r95 = 0 → A (36, [.ref 12, .int (bn x1), .int (bn x2), .int (bn x3), .int (bn x4), .int (bn x5), .int (bn 0), .float 0, .float 0, .float 0], [.int (bn 0)], s93)) ∧ (¬ r95 = 0 → (C 211 [.int (bn x3)] s93 (bRn (fun r100 s98 => ((r100 = 0 → A (36, [.ref 12, .int (bn x1), .int (bn x2), .int (bn x3), .int (bn x4), .int (bn x5), .int (bn 0), .float 0, .float 0, .float 0], [.int (bn 0)], s98)) ∧ (¬ r100 = 0 → ((x2 = 1 → (C 210 [.int (bn x5)] s98 (bRn (fun r107 s105 => ((r107 = 0 → A (36, [.ref 12, .int (bn x1), .int (bn x2), .int (bn x3), .int (bn x4), .int (bn x5), .int (bn 0), .float 0, .float 0, .float 0], [.int (bn 0)], s105)) ∧ (¬ r107 = 0 → A (36, [.ref 12, .int (bn x1), .int (bn x2), .int (bn x3), .int (bn x4), .int (bn x5), .int (bn 0), .float 0, .float 0, .float 0], [.int (bn 1)], s105))))))) ∧ (¬ x2 = 1 → A (36, [.ref 12, .int (bn x1), .int (bn x2), .int (bn x3), .int (bn x4), .int (bn x5), .int (bn 0), .float 0, .float 0, .float 0], [.int (bn 1)], s98)))))))))))))))))))))) : A (0, [.ref 12, .int (bn x1), .int (bn x2), .int (bn x3), .int (bn x4), .int (bn x5), .float 0, .float 0, .float 0, .float 0], [], σ) := by
  refine bGo hA 0 0 (0, .iload_n 2, 1, 1, 0, [2], []) rfl rfl rfl ?_
  refine bGo hA 0 1 (1, .iconst (1), 1, 2, 0, [], [(1, 0)]) rfl rfl rfl ?_
  refine bEqI bl_1 ?_
  refine bGo hA 0 2 (2, .if_icmp .eq (18), 3, 3, 12, [], []) rfl rfl rfl ?_
  refine bB_eq (x := x2) (y := 1) h_x2 (by decide : bRg 1) (fun c1 => ?_) (fun c1 => ?_)
  · refine bGo hA 0 12 (20, .iconst (1), 1, 13, 0, [], [(1, 0)]) rfl rfl rfl ?_
    refine bEqI bl_1 ?_
    refine bGo hA 0 13 (21, .goto (4), 3, 14, 15, [], []) rfl rfl rfl ?_
    refine bGo hA 0 15 (25, .istore 6, 2, 16, 0, [6], []) rfl rfl rfl ?_
    refine bGo hA 1 0 (27, .iload_n 1, 1, 17, 0, [1], []) rfl rfl rfl ?_
    refine bGo hA 1 1 (28, .invokestatic 350, 3, 18, 0, [2, 210, 1], []) rfl rfl rfl ?_
    refine hC _ _ _ _ _ (bRn_e (fun r4 s2 q5 k3 => ?_)) (h.1 c1)
    show A (18, [.ref 12, .int (bn x1), .int (bn x2), .int (bn x3), .int (bn x4), .int (bn x5), .int (bn 1), .float 0, .float 0, .float 0], [.int (bn r4)], s2)
    refine bGo hA 1 2 (31, .ifCond .eq (40), 3, 19, 35, [], []) rfl rfl rfl ?_
    refine bB_eq0 (x := r4) q5 (fun c6 => ?_) (fun c6 => ?_)
    · refine bGo hA 2 3 (71, .iconst (0), 1, 36, 0, [], [(0, 0)]) rfl rfl rfl ?_
      refine bEqI bl_0 ?_
      exact (k3.1 c6)
    · refine bGo hA 1 3 (34, .iload_n 3, 1, 20, 0, [3], []) rfl rfl rfl ?_
      refine bGo hA 1 4 (35, .invokestatic 353, 3, 21, 0, [2, 211, 1], []) rfl rfl rfl ?_
      refine hC _ _ _ _ _ (bRn_e (fun r9 s7 q10 k8 => ?_)) (k3.2 c6)
      show A (21, [.ref 12, .int (bn x1), .int (bn x2), .int (bn x3), .int (bn x4), .int (bn x5), .int (bn 1), .float 0, .float 0, .float 0], [.int (bn r9)], s7)
      refine bGo hA 1 5 (38, .ifCond .eq (33), 3, 22, 35, [], []) rfl rfl rfl ?_
      refine bB_eq0 (x := r9) q10 (fun c11 => ?_) (fun c11 => ?_)
      · refine bGo hA 2 3 (71, .iconst (0), 1, 36, 0, [], [(0, 0)]) rfl rfl rfl ?_
        refine bEqI bl_0 ?_
        exact (k8.1 c11)
      · refine bGo hA 1 6 (41, .iload 6, 2, 23, 0, [6], []) rfl rfl rfl ?_
        refine bGo hA 1 7 (43, .ifCond .eq (11), 3, 24, 27, [], []) rfl rfl rfl ?_
        refine ⟨fun c => absurd c (by decide), fun _ => ?_⟩
        refine bGo hA 1 8 (46, .iload 4, 2, 25, 0, [4], []) rfl rfl rfl ?_
        refine bGo hA 1 9 (48, .invokestatic 353, 3, 26, 0, [2, 211, 1], []) rfl rfl rfl ?_
        refine hC _ _ _ _ _ (bRn_e (fun r15 s13 q16 k14 => ?_)) (k8.2 c11)
        show A (26, [.ref 12, .int (bn x1), .int (bn x2), .int (bn x3), .int (bn x4), .int (bn x5), .int (bn 1), .float 0, .float 0, .float 0], [.int (bn r15)], s13)
        refine bGo hA 1 10 (51, .ifCond .eq (20), 3, 27, 35, [], []) rfl rfl rfl ?_
        refine bB_eq0 (x := r15) q16 (fun c17 => ?_) (fun c17 => ?_)
        · refine bGo hA 2 3 (71, .iconst (0), 1, 36, 0, [], [(0, 0)]) rfl rfl rfl ?_
          refine bEqI bl_0 ?_
          exact (k14.1 c17)
        · refine bGo hA 1 11 (54, .iload_n 2, 1, 28, 0, [2], []) rfl rfl rfl ?_
          refine bGo hA 1 12 (55, .iconst (1), 1, 29, 0, [], [(1, 0)]) rfl rfl rfl ?_
          refine bEqI bl_1 ?_
          refine bGo hA 1 13 (56, .if_icmp .ne (11), 3, 30, 33, [], []) rfl rfl rfl ?_
          refine bB_eq (x := x2) (y := 1) h_x2 (by decide : bRg 1) (fun c18 => ?_) (fun c18 => ?_)
          · refine bGo hA 1 14 (59, .iload 5, 2, 31, 0, [5], []) rfl rfl rfl ?_
            refine bGo hA 1 15 (61, .invokestatic 350, 3, 32, 0, [2, 210, 1], []) rfl rfl rfl ?_
            refine hC _ _ _ _ _ (bRn_e (fun r21 s19 q22 k20 => ?_)) ((k14.2 c17).1 c18)
            show A (32, [.ref 12, .int (bn x1), .int (bn x2), .int (bn x3), .int (bn x4), .int (bn x5), .int (bn 1), .float 0, .float 0, .float 0], [.int (bn r21)], s19)
            refine bGo hA 2 0 (64, .ifCond .eq (7), 3, 33, 35, [], []) rfl rfl rfl ?_
            refine bB_eq0 (x := r21) q22 (fun c23 => ?_) (fun c23 => ?_)
            · refine bGo hA 2 3 (71, .iconst (0), 1, 36, 0, [], [(0, 0)]) rfl rfl rfl ?_
              refine bEqI bl_0 ?_
              exact (k20.1 c23)
            · refine bGo hA 2 1 (67, .iconst (1), 1, 34, 0, [], [(1, 0)]) rfl rfl rfl ?_
              refine bEqI bl_1 ?_
              refine bGo hA 2 2 (68, .goto (4), 3, 35, 36, [], []) rfl rfl rfl ?_
              exact (k20.2 c23)
          · refine bGo hA 2 1 (67, .iconst (1), 1, 34, 0, [], [(1, 0)]) rfl rfl rfl ?_
            refine bEqI bl_1 ?_
            refine bGo hA 2 2 (68, .goto (4), 3, 35, 36, [], []) rfl rfl rfl ?_
            exact ((k14.2 c17).2 c18)
  · refine bGo hA 0 3 (5, .iload_n 2, 1, 4, 0, [2], []) rfl rfl rfl ?_
    refine bGo hA 0 4 (6, .iconst (2), 1, 5, 0, [], [(2, 0)]) rfl rfl rfl ?_
    refine bEqI bl_2 ?_
    refine bGo hA 0 5 (7, .if_icmp .eq (13), 3, 6, 12, [], []) rfl rfl rfl ?_
    refine bB_eq (x := x2) (y := 2) h_x2 (by decide : bRg 2) (fun c24 => ?_) (fun c24 => ?_)
    · refine bGo hA 0 12 (20, .iconst (1), 1, 13, 0, [], [(1, 0)]) rfl rfl rfl ?_
      refine bEqI bl_1 ?_
      refine bGo hA 0 13 (21, .goto (4), 3, 14, 15, [], []) rfl rfl rfl ?_
      refine bGo hA 0 15 (25, .istore 6, 2, 16, 0, [6], []) rfl rfl rfl ?_
      refine bGo hA 1 0 (27, .iload_n 1, 1, 17, 0, [1], []) rfl rfl rfl ?_
      refine bGo hA 1 1 (28, .invokestatic 350, 3, 18, 0, [2, 210, 1], []) rfl rfl rfl ?_
      refine hC _ _ _ _ _ (bRn_e (fun r27 s25 q28 k26 => ?_)) ((h.2 c1).1 c24)
      show A (18, [.ref 12, .int (bn x1), .int (bn x2), .int (bn x3), .int (bn x4), .int (bn x5), .int (bn 1), .float 0, .float 0, .float 0], [.int (bn r27)], s25)
      refine bGo hA 1 2 (31, .ifCond .eq (40), 3, 19, 35, [], []) rfl rfl rfl ?_
      refine bB_eq0 (x := r27) q28 (fun c29 => ?_) (fun c29 => ?_)
      · refine bGo hA 2 3 (71, .iconst (0), 1, 36, 0, [], [(0, 0)]) rfl rfl rfl ?_
        refine bEqI bl_0 ?_
        exact (k26.1 c29)
      · refine bGo hA 1 3 (34, .iload_n 3, 1, 20, 0, [3], []) rfl rfl rfl ?_
        refine bGo hA 1 4 (35, .invokestatic 353, 3, 21, 0, [2, 211, 1], []) rfl rfl rfl ?_
        refine hC _ _ _ _ _ (bRn_e (fun r32 s30 q33 k31 => ?_)) (k26.2 c29)
        show A (21, [.ref 12, .int (bn x1), .int (bn x2), .int (bn x3), .int (bn x4), .int (bn x5), .int (bn 1), .float 0, .float 0, .float 0], [.int (bn r32)], s30)
        refine bGo hA 1 5 (38, .ifCond .eq (33), 3, 22, 35, [], []) rfl rfl rfl ?_
        refine bB_eq0 (x := r32) q33 (fun c34 => ?_) (fun c34 => ?_)
        · refine bGo hA 2 3 (71, .iconst (0), 1, 36, 0, [], [(0, 0)]) rfl rfl rfl ?_
          refine bEqI bl_0 ?_
          exact (k31.1 c34)
        · refine bGo hA 1 6 (41, .iload 6, 2, 23, 0, [6], []) rfl rfl rfl ?_
          refine bGo hA 1 7 (43, .ifCond .eq (11), 3, 24, 27, [], []) rfl rfl rfl ?_
          refine ⟨fun c => absurd c (by decide), fun _ => ?_⟩
          refine bGo hA 1 8 (46, .iload 4, 2, 25, 0, [4], []) rfl rfl rfl ?_
          refine bGo hA 1 9 (48, .invokestatic 353, 3, 26, 0, [2, 211, 1], []) rfl rfl rfl ?_
          refine hC _ _ _ _ _ (bRn_e (fun r38 s36 q39 k37 => ?_)) (k31.2 c34)
          show A (26, [.ref 12, .int (bn x1), .int (bn x2), .int (bn x3), .int (bn x4), .int (bn x5), .int (bn 1), .float 0, .float 0, .float 0], [.int (bn r38)], s36)
          refine bGo hA 1 10 (51, .ifCond .eq (20), 3, 27, 35, [], []) rfl rfl rfl ?_
          refine bB_eq0 (x := r38) q39 (fun c40 => ?_) (fun c40 => ?_)
          · refine bGo hA 2 3 (71, .iconst (0), 1, 36, 0, [], [(0, 0)]) rfl rfl rfl ?_
            refine bEqI bl_0 ?_
            exact (k37.1 c40)
          · refine bGo hA 1 11 (54, .iload_n 2, 1, 28, 0, [2], []) rfl rfl rfl ?_
            refine bGo hA 1 12 (55, .iconst (1), 1, 29, 0, [], [(1, 0)]) rfl rfl rfl ?_
            refine bEqI bl_1 ?_
            refine bGo hA 1 13 (56, .if_icmp .ne (11), 3, 30, 33, [], []) rfl rfl rfl ?_
            refine bB_eq (x := x2) (y := 1) h_x2 (by decide : bRg 1) (fun c41 => ?_) (fun c41 => ?_)
            · refine bGo hA 1 14 (59, .iload 5, 2, 31, 0, [5], []) rfl rfl rfl ?_
              refine bGo hA 1 15 (61, .invokestatic 350, 3, 32, 0, [2, 210, 1], []) rfl rfl rfl ?_
              refine hC _ _ _ _ _ (bRn_e (fun r44 s42 q45 k43 => ?_)) ((k37.2 c40).1 c41)
              show A (32, [.ref 12, .int (bn x1), .int (bn x2), .int (bn x3), .int (bn x4), .int (bn x5), .int (bn 1), .float 0, .float 0, .float 0], [.int (bn r44)], s42)
              refine bGo hA 2 0 (64, .ifCond .eq (7), 3, 33, 35, [], []) rfl rfl rfl ?_
              refine bB_eq0 (x := r44) q45 (fun c46 => ?_) (fun c46 => ?_)
              · refine bGo hA 2 3 (71, .iconst (0), 1, 36, 0, [], [(0, 0)]) rfl rfl rfl ?_
                refine bEqI bl_0 ?_
                exact (k43.1 c46)
              · refine bGo hA 2 1 (67, .iconst (1), 1, 34, 0, [], [(1, 0)]) rfl rfl rfl ?_
                refine bEqI bl_1 ?_
                refine bGo hA 2 2 (68, .goto (4), 3, 35, 36, [], []) rfl rfl rfl ?_
                exact (k43.2 c46)
            · refine bGo hA 2 1 (67, .iconst (1), 1, 34, 0, [], [(1, 0)]) rfl rfl rfl ?_
              refine bEqI bl_1 ?_
              refine bGo hA 2 2 (68, .goto (4), 3, 35, 36, [], []) rfl rfl rfl ?_
              exact ((k37.2 c40).2 c41)
    · refine bGo hA 0 6 (10, .iload_n 2, 1, 7, 0, [2], []) rfl rfl rfl ?_
      refine bGo hA 0 7 (11, .iconst (4), 1, 8, 0, [], [(4, 0)]) rfl rfl rfl ?_
      refine bEqI bl_4 ?_
      refine bGo hA 0 8 (12, .if_icmp .eq (8), 3, 9, 12, [], []) rfl rfl rfl ?_
      refine bB_eq (x := x2) (y := 4) h_x2 (by decide : bRg 4) (fun c47 => ?_) (fun c47 => ?_)
      · refine bGo hA 0 12 (20, .iconst (1), 1, 13, 0, [], [(1, 0)]) rfl rfl rfl ?_
        refine bEqI bl_1 ?_
        refine bGo hA 0 13 (21, .goto (4), 3, 14, 15, [], []) rfl rfl rfl ?_
        refine bGo hA 0 15 (25, .istore 6, 2, 16, 0, [6], []) rfl rfl rfl ?_
        refine bGo hA 1 0 (27, .iload_n 1, 1, 17, 0, [1], []) rfl rfl rfl ?_
        refine bGo hA 1 1 (28, .invokestatic 350, 3, 18, 0, [2, 210, 1], []) rfl rfl rfl ?_
        refine hC _ _ _ _ _ (bRn_e (fun r50 s48 q51 k49 => ?_)) (((h.2 c1).2 c24).1 c47)
        show A (18, [.ref 12, .int (bn x1), .int (bn x2), .int (bn x3), .int (bn x4), .int (bn x5), .int (bn 1), .float 0, .float 0, .float 0], [.int (bn r50)], s48)
        refine bGo hA 1 2 (31, .ifCond .eq (40), 3, 19, 35, [], []) rfl rfl rfl ?_
        refine bB_eq0 (x := r50) q51 (fun c52 => ?_) (fun c52 => ?_)
        · refine bGo hA 2 3 (71, .iconst (0), 1, 36, 0, [], [(0, 0)]) rfl rfl rfl ?_
          refine bEqI bl_0 ?_
          exact (k49.1 c52)
        · refine bGo hA 1 3 (34, .iload_n 3, 1, 20, 0, [3], []) rfl rfl rfl ?_
          refine bGo hA 1 4 (35, .invokestatic 353, 3, 21, 0, [2, 211, 1], []) rfl rfl rfl ?_
          refine hC _ _ _ _ _ (bRn_e (fun r55 s53 q56 k54 => ?_)) (k49.2 c52)
          show A (21, [.ref 12, .int (bn x1), .int (bn x2), .int (bn x3), .int (bn x4), .int (bn x5), .int (bn 1), .float 0, .float 0, .float 0], [.int (bn r55)], s53)
          refine bGo hA 1 5 (38, .ifCond .eq (33), 3, 22, 35, [], []) rfl rfl rfl ?_
          refine bB_eq0 (x := r55) q56 (fun c57 => ?_) (fun c57 => ?_)
          · refine bGo hA 2 3 (71, .iconst (0), 1, 36, 0, [], [(0, 0)]) rfl rfl rfl ?_
            refine bEqI bl_0 ?_
            exact (k54.1 c57)
          · refine bGo hA 1 6 (41, .iload 6, 2, 23, 0, [6], []) rfl rfl rfl ?_
            refine bGo hA 1 7 (43, .ifCond .eq (11), 3, 24, 27, [], []) rfl rfl rfl ?_
            refine ⟨fun c => absurd c (by decide), fun _ => ?_⟩
            refine bGo hA 1 8 (46, .iload 4, 2, 25, 0, [4], []) rfl rfl rfl ?_
            refine bGo hA 1 9 (48, .invokestatic 353, 3, 26, 0, [2, 211, 1], []) rfl rfl rfl ?_
            refine hC _ _ _ _ _ (bRn_e (fun r61 s59 q62 k60 => ?_)) (k54.2 c57)
            show A (26, [.ref 12, .int (bn x1), .int (bn x2), .int (bn x3), .int (bn x4), .int (bn x5), .int (bn 1), .float 0, .float 0, .float 0], [.int (bn r61)], s59)
            refine bGo hA 1 10 (51, .ifCond .eq (20), 3, 27, 35, [], []) rfl rfl rfl ?_
            refine bB_eq0 (x := r61) q62 (fun c63 => ?_) (fun c63 => ?_)
            · refine bGo hA 2 3 (71, .iconst (0), 1, 36, 0, [], [(0, 0)]) rfl rfl rfl ?_
              refine bEqI bl_0 ?_
              exact (k60.1 c63)
            · refine bGo hA 1 11 (54, .iload_n 2, 1, 28, 0, [2], []) rfl rfl rfl ?_
              refine bGo hA 1 12 (55, .iconst (1), 1, 29, 0, [], [(1, 0)]) rfl rfl rfl ?_
              refine bEqI bl_1 ?_
              refine bGo hA 1 13 (56, .if_icmp .ne (11), 3, 30, 33, [], []) rfl rfl rfl ?_
              refine bB_eq (x := x2) (y := 1) h_x2 (by decide : bRg 1) (fun c64 => ?_) (fun c64 => ?_)
              · refine bGo hA 1 14 (59, .iload 5, 2, 31, 0, [5], []) rfl rfl rfl ?_
                refine bGo hA 1 15 (61, .invokestatic 350, 3, 32, 0, [2, 210, 1], []) rfl rfl rfl ?_
                refine hC _ _ _ _ _ (bRn_e (fun r67 s65 q68 k66 => ?_)) ((k60.2 c63).1 c64)
                show A (32, [.ref 12, .int (bn x1), .int (bn x2), .int (bn x3), .int (bn x4), .int (bn x5), .int (bn 1), .float 0, .float 0, .float 0], [.int (bn r67)], s65)
                refine bGo hA 2 0 (64, .ifCond .eq (7), 3, 33, 35, [], []) rfl rfl rfl ?_
                refine bB_eq0 (x := r67) q68 (fun c69 => ?_) (fun c69 => ?_)
                · refine bGo hA 2 3 (71, .iconst (0), 1, 36, 0, [], [(0, 0)]) rfl rfl rfl ?_
                  refine bEqI bl_0 ?_
                  exact (k66.1 c69)
                · refine bGo hA 2 1 (67, .iconst (1), 1, 34, 0, [], [(1, 0)]) rfl rfl rfl ?_
                  refine bEqI bl_1 ?_
                  refine bGo hA 2 2 (68, .goto (4), 3, 35, 36, [], []) rfl rfl rfl ?_
                  exact (k66.2 c69)
              · refine bGo hA 2 1 (67, .iconst (1), 1, 34, 0, [], [(1, 0)]) rfl rfl rfl ?_
                refine bEqI bl_1 ?_
                refine bGo hA 2 2 (68, .goto (4), 3, 35, 36, [], []) rfl rfl rfl ?_
                exact ((k60.2 c63).2 c64)
      · refine bGo hA 0 9 (15, .iload_n 2, 1, 10, 0, [2], []) rfl rfl rfl ?_
        refine bGo hA 0 10 (16, .iconst (5), 1, 11, 0, [], [(5, 0)]) rfl rfl rfl ?_
        refine bEqI bl_5 ?_
        refine bGo hA 0 11 (17, .if_icmp .ne (7), 3, 12, 14, [], []) rfl rfl rfl ?_
        refine bB_eq (x := x2) (y := 5) h_x2 (by decide : bRg 5) (fun c70 => ?_) (fun c70 => ?_)
        · refine bGo hA 0 12 (20, .iconst (1), 1, 13, 0, [], [(1, 0)]) rfl rfl rfl ?_
          refine bEqI bl_1 ?_
          refine bGo hA 0 13 (21, .goto (4), 3, 14, 15, [], []) rfl rfl rfl ?_
          refine bGo hA 0 15 (25, .istore 6, 2, 16, 0, [6], []) rfl rfl rfl ?_
          refine bGo hA 1 0 (27, .iload_n 1, 1, 17, 0, [1], []) rfl rfl rfl ?_
          refine bGo hA 1 1 (28, .invokestatic 350, 3, 18, 0, [2, 210, 1], []) rfl rfl rfl ?_
          refine hC _ _ _ _ _ (bRn_e (fun r73 s71 q74 k72 => ?_)) ((((h.2 c1).2 c24).2 c47).1 c70)
          show A (18, [.ref 12, .int (bn x1), .int (bn x2), .int (bn x3), .int (bn x4), .int (bn x5), .int (bn 1), .float 0, .float 0, .float 0], [.int (bn r73)], s71)
          refine bGo hA 1 2 (31, .ifCond .eq (40), 3, 19, 35, [], []) rfl rfl rfl ?_
          refine bB_eq0 (x := r73) q74 (fun c75 => ?_) (fun c75 => ?_)
          · refine bGo hA 2 3 (71, .iconst (0), 1, 36, 0, [], [(0, 0)]) rfl rfl rfl ?_
            refine bEqI bl_0 ?_
            exact (k72.1 c75)
          · refine bGo hA 1 3 (34, .iload_n 3, 1, 20, 0, [3], []) rfl rfl rfl ?_
            refine bGo hA 1 4 (35, .invokestatic 353, 3, 21, 0, [2, 211, 1], []) rfl rfl rfl ?_
            refine hC _ _ _ _ _ (bRn_e (fun r78 s76 q79 k77 => ?_)) (k72.2 c75)
            show A (21, [.ref 12, .int (bn x1), .int (bn x2), .int (bn x3), .int (bn x4), .int (bn x5), .int (bn 1), .float 0, .float 0, .float 0], [.int (bn r78)], s76)
            refine bGo hA 1 5 (38, .ifCond .eq (33), 3, 22, 35, [], []) rfl rfl rfl ?_
            refine bB_eq0 (x := r78) q79 (fun c80 => ?_) (fun c80 => ?_)
            · refine bGo hA 2 3 (71, .iconst (0), 1, 36, 0, [], [(0, 0)]) rfl rfl rfl ?_
              refine bEqI bl_0 ?_
              exact (k77.1 c80)
            · refine bGo hA 1 6 (41, .iload 6, 2, 23, 0, [6], []) rfl rfl rfl ?_
              refine bGo hA 1 7 (43, .ifCond .eq (11), 3, 24, 27, [], []) rfl rfl rfl ?_
              refine ⟨fun c => absurd c (by decide), fun _ => ?_⟩
              refine bGo hA 1 8 (46, .iload 4, 2, 25, 0, [4], []) rfl rfl rfl ?_
              refine bGo hA 1 9 (48, .invokestatic 353, 3, 26, 0, [2, 211, 1], []) rfl rfl rfl ?_
              refine hC _ _ _ _ _ (bRn_e (fun r84 s82 q85 k83 => ?_)) (k77.2 c80)
              show A (26, [.ref 12, .int (bn x1), .int (bn x2), .int (bn x3), .int (bn x4), .int (bn x5), .int (bn 1), .float 0, .float 0, .float 0], [.int (bn r84)], s82)
              refine bGo hA 1 10 (51, .ifCond .eq (20), 3, 27, 35, [], []) rfl rfl rfl ?_
              refine bB_eq0 (x := r84) q85 (fun c86 => ?_) (fun c86 => ?_)
              · refine bGo hA 2 3 (71, .iconst (0), 1, 36, 0, [], [(0, 0)]) rfl rfl rfl ?_
                refine bEqI bl_0 ?_
                exact (k83.1 c86)
              · refine bGo hA 1 11 (54, .iload_n 2, 1, 28, 0, [2], []) rfl rfl rfl ?_
                refine bGo hA 1 12 (55, .iconst (1), 1, 29, 0, [], [(1, 0)]) rfl rfl rfl ?_
                refine bEqI bl_1 ?_
                refine bGo hA 1 13 (56, .if_icmp .ne (11), 3, 30, 33, [], []) rfl rfl rfl ?_
                refine bB_eq (x := x2) (y := 1) h_x2 (by decide : bRg 1) (fun c87 => ?_) (fun c87 => ?_)
                · refine bGo hA 1 14 (59, .iload 5, 2, 31, 0, [5], []) rfl rfl rfl ?_
                  refine bGo hA 1 15 (61, .invokestatic 350, 3, 32, 0, [2, 210, 1], []) rfl rfl rfl ?_
                  refine hC _ _ _ _ _ (bRn_e (fun r90 s88 q91 k89 => ?_)) ((k83.2 c86).1 c87)
                  show A (32, [.ref 12, .int (bn x1), .int (bn x2), .int (bn x3), .int (bn x4), .int (bn x5), .int (bn 1), .float 0, .float 0, .float 0], [.int (bn r90)], s88)
                  refine bGo hA 2 0 (64, .ifCond .eq (7), 3, 33, 35, [], []) rfl rfl rfl ?_
                  refine bB_eq0 (x := r90) q91 (fun c92 => ?_) (fun c92 => ?_)
                  · refine bGo hA 2 3 (71, .iconst (0), 1, 36, 0, [], [(0, 0)]) rfl rfl rfl ?_
                    refine bEqI bl_0 ?_
                    exact (k89.1 c92)
                  · refine bGo hA 2 1 (67, .iconst (1), 1, 34, 0, [], [(1, 0)]) rfl rfl rfl ?_
                    refine bEqI bl_1 ?_
                    refine bGo hA 2 2 (68, .goto (4), 3, 35, 36, [], []) rfl rfl rfl ?_
                    exact (k89.2 c92)
                · refine bGo hA 2 1 (67, .iconst (1), 1, 34, 0, [], [(1, 0)]) rfl rfl rfl ?_
                  refine bEqI bl_1 ?_
                  refine bGo hA 2 2 (68, .goto (4), 3, 35, 36, [], []) rfl rfl rfl ?_
                  exact ((k83.2 c86).2 c87)
        · refine bGo hA 0 14 (24, .iconst (0), 1, 15, 0, [], [(0, 0)]) rfl rfl rfl ?_
          refine bEqI bl_0 ?_
          refine bGo hA 0 15 (25, .istore 6, 2, 16, 0, [6], []) rfl rfl rfl ?_
          refine bGo hA 1 0 (27, .iload_n 1, 1, 17, 0, [1], []) rfl rfl rfl ?_
          refine bGo hA 1 1 (28, .invokestatic 350, 3, 18, 0, [2, 210, 1], []) rfl rfl rfl ?_
          refine hC _ _ _ _ _ (bRn_e (fun r95 s93 q96 k94 => ?_)) ((((h.2 c1).2 c24).2 c47).2 c70)
          show A (18, [.ref 12, .int (bn x1), .int (bn x2), .int (bn x3), .int (bn x4), .int (bn x5), .int (bn 0), .float 0, .float 0, .float 0], [.int (bn r95)], s93)
          refine bGo hA 1 2 (31, .ifCond .eq (40), 3, 19, 35, [], []) rfl rfl rfl ?_
          refine bB_eq0 (x := r95) q96 (fun c97 => ?_) (fun c97 => ?_)
          · refine bGo hA 2 3 (71, .iconst (0), 1, 36, 0, [], [(0, 0)]) rfl rfl rfl ?_
            refine bEqI bl_0 ?_
            exact (k94.1 c97)
          · refine bGo hA 1 3 (34, .iload_n 3, 1, 20, 0, [3], []) rfl rfl rfl ?_
            refine bGo hA 1 4 (35, .invokestatic 353, 3, 21, 0, [2, 211, 1], []) rfl rfl rfl ?_
            refine hC _ _ _ _ _ (bRn_e (fun r100 s98 q101 k99 => ?_)) (k94.2 c97)
            show A (21, [.ref 12, .int (bn x1), .int (bn x2), .int (bn x3), .int (bn x4), .int (bn x5), .int (bn 0), .float 0, .float 0, .float 0], [.int (bn r100)], s98)
            refine bGo hA 1 5 (38, .ifCond .eq (33), 3, 22, 35, [], []) rfl rfl rfl ?_
            refine bB_eq0 (x := r100) q101 (fun c102 => ?_) (fun c102 => ?_)
            · refine bGo hA 2 3 (71, .iconst (0), 1, 36, 0, [], [(0, 0)]) rfl rfl rfl ?_
              refine bEqI bl_0 ?_
              exact (k99.1 c102)
            · refine bGo hA 1 6 (41, .iload 6, 2, 23, 0, [6], []) rfl rfl rfl ?_
              refine bGo hA 1 7 (43, .ifCond .eq (11), 3, 24, 27, [], []) rfl rfl rfl ?_
              refine ⟨fun _ => ?_, fun c => absurd (by decide) c⟩
              refine bGo hA 1 11 (54, .iload_n 2, 1, 28, 0, [2], []) rfl rfl rfl ?_
              refine bGo hA 1 12 (55, .iconst (1), 1, 29, 0, [], [(1, 0)]) rfl rfl rfl ?_
              refine bEqI bl_1 ?_
              refine bGo hA 1 13 (56, .if_icmp .ne (11), 3, 30, 33, [], []) rfl rfl rfl ?_
              refine bB_eq (x := x2) (y := 1) h_x2 (by decide : bRg 1) (fun c104 => ?_) (fun c104 => ?_)
              · refine bGo hA 1 14 (59, .iload 5, 2, 31, 0, [5], []) rfl rfl rfl ?_
                refine bGo hA 1 15 (61, .invokestatic 350, 3, 32, 0, [2, 210, 1], []) rfl rfl rfl ?_
                refine hC _ _ _ _ _ (bRn_e (fun r107 s105 q108 k106 => ?_)) ((k99.2 c102).1 c104)
                show A (32, [.ref 12, .int (bn x1), .int (bn x2), .int (bn x3), .int (bn x4), .int (bn x5), .int (bn 0), .float 0, .float 0, .float 0], [.int (bn r107)], s105)
                refine bGo hA 2 0 (64, .ifCond .eq (7), 3, 33, 35, [], []) rfl rfl rfl ?_
                refine bB_eq0 (x := r107) q108 (fun c109 => ?_) (fun c109 => ?_)
                · refine bGo hA 2 3 (71, .iconst (0), 1, 36, 0, [], [(0, 0)]) rfl rfl rfl ?_
                  refine bEqI bl_0 ?_
                  exact (k106.1 c109)
                · refine bGo hA 2 1 (67, .iconst (1), 1, 34, 0, [], [(1, 0)]) rfl rfl rfl ?_
                  refine bEqI bl_1 ?_
                  refine bGo hA 2 2 (68, .goto (4), 3, 35, 36, [], []) rfl rfl rfl ?_
                  exact (k106.2 c109)
              · refine bGo hA 2 1 (67, .iconst (1), 1, 34, 0, [], [(1, 0)]) rfl rfl rfl ?_
                refine bEqI bl_1 ?_
                refine bGo hA 2 2 (68, .goto (4), 3, 35, 36, [], []) rfl rfl rfl ?_
                exact ((k99.2 c102).2 c104)

theorem sq212_36 {lvl : Nat} {C : bCall} {Q : bPost} {A : bPt → Prop} (hC : bMono C) (hA : bClosed lvl bm212 C Q A) {l1 : Int} {l2 : Int} {l3 : Int} {l4 : Int} {l5 : Int} {l6 : Int} {v7 : Value} {v8 : Value} {v9 : Value} {t0 : Int} {σ : bSt}  (h_l1 : bRg l1) (h_l2 : bRg l2) (h_l3 : bRg l3) (h_l4 : bRg l4) (h_l5 : bRg l5) (h_l6 : bRg l6) (h_t0 : bRg t0)
  (h : (C 199 [.int (bn l2), .int (bn 0), .int (bn 6)] σ (bRn (fun r3 s1 => ((r3 = 0 → ((t0 = 0 → A (80, [.ref 12, .int (bn l1), .int (bn l2), .int (bn l3), .int (bn l4), .int (bn l5), .int (bn l6), .int (bn t0), .int (bn 0), v9], [.int (bn 1), .ref 12], s1)) ∧ (¬ t0 = 0 → A (80, [.ref 12, .int (bn l1), .int (bn l2), .int (bn l3), .int (bn l4), .int (bn l5), .int (bn l6), .int (bn t0), .int (bn 0), v9], [.int (bn 2), .ref 12], s1)))) ∧ (¬ r3 = 0 → ((l6 = 0 → ((l2 = 0 → (C 199 [.int (bn l4), .int (bn 0), .int (bn 999)] s1 (bRn (fun r12 s10 => ((r12 = 0 → ((t0 = 0 → A (80, [.ref 12, .int (bn l1), .int (bn l2), .int (bn l3), .int (bn l4), .int (bn l5), .int (bn l6), .int (bn t0), .int (bn 0), v9], [.int (bn 1), .ref 12], s10)) ∧ (¬ t0 = 0 → A (80, [.ref 12, .int (bn l1), .int (bn l2), .int (bn l3), .int (bn l4), .int (bn l5), .int (bn l6), .int (bn t0), .int (bn 0), v9], [.int (bn 2), .ref 12], s10)))) ∧ (¬ r12 = 0 → A (53, [.ref 12, .int (bn l1), .int (bn l2), .int (bn l3), .int (bn l4), .int (bn l5), .int (bn l6), .int (bn t0), v8, v9], [], s10))))))) ∧ (¬ l2 = 0 → (C 199 [.int (bn l4), .int (bn 0), .int (bn 0)] s1 (bRn (fun r19 s17 => ((r19 = 0 → ((t0 = 0 → A (80, [.ref 12, .int (bn l1), .int (bn l2), .int (bn l3), .int (bn l4), .int (bn l5), .int (bn l6), .int (bn t0), .int (bn 0), v9], [.int (bn 1), .ref 12], s17)) ∧ (¬ t0 = 0 → A (80, [.ref 12, .int (bn l1), .int (bn l2), .int (bn l3), .int (bn l4), .int (bn l5), .int (bn l6), .int (bn t0), .int (bn 0), v9], [.int (bn 2), .ref 12], s17)))) ∧ (¬ r19 = 0 → A (53, [.ref 12, .int (bn l1), .int (bn l2), .int (bn l3), .int (bn l4), .int (bn l5), .int (bn l6), .int (bn t0), v8, v9], [], s17))))))))) ∧ (¬ l6 = 0 → A (53, [.ref 12, .int (bn l1), .int (bn l2), .int (bn l3), .int (bn l4), .int (bn l5), .int (bn l6), .int (bn t0), v8, v9], [], s1))))))))) : A (36, [.ref 12, .int (bn l1), .int (bn l2), .int (bn l3), .int (bn l4), .int (bn l5), .int (bn l6), v7, v8, v9], [.int (bn t0)], σ) := by
  refine bGo hA 2 4 (72, .istore 7, 2, 37, 0, [7], []) rfl rfl rfl ?_
  refine bGo hA 2 5 (74, .iload_n 2, 1, 38, 0, [2], []) rfl rfl rfl ?_
  refine bGo hA 2 6 (75, .iconst (0), 1, 39, 0, [], [(0, 0)]) rfl rfl rfl ?_
  refine bEqI bl_0 ?_
  refine bGo hA 2 7 (76, .bipush (6), 2, 40, 0, [], [(6, 0)]) rfl rfl rfl ?_
  refine bEqI bl_6 ?_
  refine bGo hA 2 8 (78, .invokestatic 325, 3, 41, 0, [2, 199, 3], []) rfl rfl rfl ?_
  refine hC _ _ _ _ _ (bRn_e (fun r3 s1 q4 k2 => ?_)) h
  show A (41, [.ref 12, .int (bn l1), .int (bn l2), .int (bn l3), .int (bn l4), .int (bn l5), .int (bn l6), .int (bn t0), v8, v9], [.int (bn r3)], s1)
  refine bGo hA 2 9 (81, .ifCond .eq (42), 3, 42, 60, [], []) rfl rfl rfl ?_
  refine bB_eq0 (x := r3) q4 (fun c5 => ?_) (fun c5 => ?_)
  · refine bGo hA 3 12 (123, .iconst (0), 1, 61, 0, [], [(0, 0)]) rfl rfl rfl ?_
    refine bEqI bl_0 ?_
    refine bGo hA 3 13 (124, .istore 8, 2, 62, 0, [8], []) rfl rfl rfl ?_
    refine bGo hA 3 14 (126, .aload_n 0, 1, 63, 0, [0], []) rfl rfl rfl ?_
    refine bGo hA 3 15 (127, .iload 7, 2, 64, 0, [7], []) rfl rfl rfl ?_
    refine bGo hA 4 0 (129, .ifCond .ne (7), 3, 65, 67, [], []) rfl rfl rfl ?_
    refine bB_eq0 (x := t0) h_t0 (fun c6 => ?_) (fun c6 => ?_)
    · refine bGo hA 4 1 (132, .iconst (1), 1, 66, 0, [], [(1, 0)]) rfl rfl rfl ?_
      refine bEqI bl_1 ?_
      refine bGo hA 4 2 (133, .goto (28), 3, 67, 80, [], []) rfl rfl rfl ?_
      exact ((k2.1 c5).1 c6)
    · refine bGo hA 4 3 (136, .iload 8, 2, 68, 0, [8], []) rfl rfl rfl ?_
      refine bGo hA 4 4 (138, .ifCond .ne (7), 3, 69, 71, [], []) rfl rfl rfl ?_
      refine ⟨fun _ => ?_, fun c => absurd (by decide) c⟩
      refine bGo hA 4 5 (141, .iconst (2), 1, 70, 0, [], [(2, 0)]) rfl rfl rfl ?_
      refine bEqI bl_2 ?_
      refine bGo hA 4 6 (142, .goto (19), 3, 71, 80, [], []) rfl rfl rfl ?_
      exact ((k2.1 c5).2 c6)
  · refine bGo hA 2 10 (84, .iload 6, 2, 43, 0, [6], []) rfl rfl rfl ?_
    refine bGo hA 2 11 (86, .ifCond .ne (23), 3, 44, 53, [], []) rfl rfl rfl ?_
    refine bB_eq0 (x := l6) h_l6 (fun c8 => ?_) (fun c8 => ?_)
    · refine bGo hA 2 12 (89, .iload 4, 2, 45, 0, [4], []) rfl rfl rfl ?_
      refine bGo hA 2 13 (91, .iconst (0), 1, 46, 0, [], [(0, 0)]) rfl rfl rfl ?_
      refine bEqI bl_0 ?_
      refine bGo hA 2 14 (92, .iload_n 2, 1, 47, 0, [2], []) rfl rfl rfl ?_
      refine bGo hA 2 15 (93, .ifCond .ne (9), 3, 48, 50, [], []) rfl rfl rfl ?_
      refine bB_eq0 (x := l2) h_l2 (fun c9 => ?_) (fun c9 => ?_)
      · refine bGo hA 3 0 (96, .sipush (999), 3, 49, 0, [], [(999, 0)]) rfl rfl rfl ?_
        refine bEqI bl_999 ?_
        refine bGo hA 3 1 (99, .goto (4), 3, 50, 51, [], []) rfl rfl rfl ?_
        refine bGo hA 3 3 (103, .invokestatic 325, 3, 52, 0, [2, 199, 3], []) rfl rfl rfl ?_
        refine hC _ _ _ _ _ (bRn_e (fun r12 s10 q13 k11 => ?_)) (((k2.2 c5).1 c8).1 c9)
        show A (52, [.ref 12, .int (bn l1), .int (bn l2), .int (bn l3), .int (bn l4), .int (bn l5), .int (bn l6), .int (bn t0), v8, v9], [.int (bn r12)], s10)
        refine bGo hA 3 4 (106, .ifCond .eq (17), 3, 53, 60, [], []) rfl rfl rfl ?_
        refine bB_eq0 (x := r12) q13 (fun c14 => ?_) (fun c14 => ?_)
        · refine bGo hA 3 12 (123, .iconst (0), 1, 61, 0, [], [(0, 0)]) rfl rfl rfl ?_
          refine bEqI bl_0 ?_
          refine bGo hA 3 13 (124, .istore 8, 2, 62, 0, [8], []) rfl rfl rfl ?_
          refine bGo hA 3 14 (126, .aload_n 0, 1, 63, 0, [0], []) rfl rfl rfl ?_
          refine bGo hA 3 15 (127, .iload 7, 2, 64, 0, [7], []) rfl rfl rfl ?_
          refine bGo hA 4 0 (129, .ifCond .ne (7), 3, 65, 67, [], []) rfl rfl rfl ?_
          refine bB_eq0 (x := t0) h_t0 (fun c15 => ?_) (fun c15 => ?_)
          · refine bGo hA 4 1 (132, .iconst (1), 1, 66, 0, [], [(1, 0)]) rfl rfl rfl ?_
            refine bEqI bl_1 ?_
            refine bGo hA 4 2 (133, .goto (28), 3, 67, 80, [], []) rfl rfl rfl ?_
            exact ((k11.1 c14).1 c15)
          · refine bGo hA 4 3 (136, .iload 8, 2, 68, 0, [8], []) rfl rfl rfl ?_
            refine bGo hA 4 4 (138, .ifCond .ne (7), 3, 69, 71, [], []) rfl rfl rfl ?_
            refine ⟨fun _ => ?_, fun c => absurd (by decide) c⟩
            refine bGo hA 4 5 (141, .iconst (2), 1, 70, 0, [], [(2, 0)]) rfl rfl rfl ?_
            refine bEqI bl_2 ?_
            refine bGo hA 4 6 (142, .goto (19), 3, 71, 80, [], []) rfl rfl rfl ?_
            exact ((k11.1 c14).2 c15)
        · exact (k11.2 c14)
      · refine bGo hA 3 2 (102, .iconst (0), 1, 51, 0, [], [(0, 0)]) rfl rfl rfl ?_
        refine bEqI bl_0 ?_
        refine bGo hA 3 3 (103, .invokestatic 325, 3, 52, 0, [2, 199, 3], []) rfl rfl rfl ?_
        refine hC _ _ _ _ _ (bRn_e (fun r19 s17 q20 k18 => ?_)) (((k2.2 c5).1 c8).2 c9)
        show A (52, [.ref 12, .int (bn l1), .int (bn l2), .int (bn l3), .int (bn l4), .int (bn l5), .int (bn l6), .int (bn t0), v8, v9], [.int (bn r19)], s17)
        refine bGo hA 3 4 (106, .ifCond .eq (17), 3, 53, 60, [], []) rfl rfl rfl ?_
        refine bB_eq0 (x := r19) q20 (fun c21 => ?_) (fun c21 => ?_)
        · refine bGo hA 3 12 (123, .iconst (0), 1, 61, 0, [], [(0, 0)]) rfl rfl rfl ?_
          refine bEqI bl_0 ?_
          refine bGo hA 3 13 (124, .istore 8, 2, 62, 0, [8], []) rfl rfl rfl ?_
          refine bGo hA 3 14 (126, .aload_n 0, 1, 63, 0, [0], []) rfl rfl rfl ?_
          refine bGo hA 3 15 (127, .iload 7, 2, 64, 0, [7], []) rfl rfl rfl ?_
          refine bGo hA 4 0 (129, .ifCond .ne (7), 3, 65, 67, [], []) rfl rfl rfl ?_
          refine bB_eq0 (x := t0) h_t0 (fun c22 => ?_) (fun c22 => ?_)
          · refine bGo hA 4 1 (132, .iconst (1), 1, 66, 0, [], [(1, 0)]) rfl rfl rfl ?_
            refine bEqI bl_1 ?_
            refine bGo hA 4 2 (133, .goto (28), 3, 67, 80, [], []) rfl rfl rfl ?_
            exact ((k18.1 c21).1 c22)
          · refine bGo hA 4 3 (136, .iload 8, 2, 68, 0, [8], []) rfl rfl rfl ?_
            refine bGo hA 4 4 (138, .ifCond .ne (7), 3, 69, 71, [], []) rfl rfl rfl ?_
            refine ⟨fun _ => ?_, fun c => absurd (by decide) c⟩
            refine bGo hA 4 5 (141, .iconst (2), 1, 70, 0, [], [(2, 0)]) rfl rfl rfl ?_
            refine bEqI bl_2 ?_
            refine bGo hA 4 6 (142, .goto (19), 3, 71, 80, [], []) rfl rfl rfl ?_
            exact ((k18.1 c21).2 c22)
        · exact (k18.2 c21)
    · exact ((k2.2 c5).2 c8)

theorem sq212_80 {lvl : Nat} {C : bCall} {Q : bPost} {A : bPt → Prop} (hC : bMono C) (hA : bClosed lvl bm212 C Q A) {l1 : Int} {l2 : Int} {l3 : Int} {l4 : Int} {l5 : Int} {v6 : Value} {v7 : Value} {v8 : Value} {v9 : Value} {t0 : Int} {σ : bSt}  (h_l1 : bRg l1) (h_l2 : bRg l2) (h_l3 : bRg l3) (h_l4 : bRg l4) (h_l5 : bRg l5) (h_t0 : bRg t0)
  (h : (C 197 [.ref 12, .int (bn t0)] σ (bRn (fun r3 s1 => ((r3 = 0 → (bRg (12 * l1) ∧ ((0 ≤ l1 ∧ l1 < 6) ∧ (bRg ((12 * l1) + (bi s1 58 l1)) ∧ (bRg (4 * ((12 * l1) + (bi s1 58 l1))) ∧ ((0 ≤ (4 * ((12 * l1) + (bi s1 58 l1))) ∧ (4 * ((12 * l1) + (bi s1 58 l1))) < 288) ∧ (bRg ((4 * ((12 * l1) + (bi s1 58 l1))) + 1) ∧ ((0 ≤ ((4 * ((12 * l1) + (bi s1 58 l1))) + 1) ∧ ((4 * ((12 * l1) + (bi s1 58 l1))) + 1) < 288) ∧ (bRg ((4 * ((12 * l1) + (bi s1 58 l1))) + 2) ∧ ((0 ≤ ((4 * ((12 * l1) + (bi s1 58 l1))) + 2) ∧ ((4 * ((12 * l1) + (bi s1 58 l1))) + 2) < 288) ∧ (bRg ((4 * ((12 * l1) + (bi s1 58 l1))) + 3) ∧ ((0 ≤ ((4 * ((12 * l1) + (bi s1 58 l1))) + 3) ∧ ((4 * ((12 * l1) + (bi s1 58 l1))) + 3) < 288) ∧ (bRg ((bi s1 58 l1) + 1) ∧ Q (.inl (some (.int (bn ((bi s1 58 l1) + 1))))) (bw (bw (bw (bw (bw s1 59 (4 * ((12 * l1) + (bi s1 58 l1))) l2) 59 ((4 * ((12 * l1) + (bi s1 58 l1))) + 1) l3) 59 ((4 * ((12 * l1) + (bi s1 58 l1))) + 2) l4) 59 ((4 * ((12 * l1) + (bi s1 58 l1))) + 3) l5) 58 l1 ((bi s1 58 l1) + 1))))))))))))))) ∧ (¬ r3 = 0 → Q (.inl (some (.int (bn 0)))) s1)))))) : A (80, [.ref 12, .int (bn l1), .int (bn l2), .int (bn l3), .int (bn l4), .int (bn l5), v6, v7, v8, v9], [.int (bn t0), .ref 12], σ) := by
  refine bGo hA 5 0 (161, .invokevirtual 333, 3, 81, 0, [0, 12, 197, 1], []) rfl rfl rfl ?_
  refine ⟨rfl, ?_⟩
  refine hC _ _ _ _ _ (bRn_e (fun r3 s1 q4 k2 => ?_)) h
  show A (81, [.ref 12, .int (bn l1), .int (bn l2), .int (bn l3), .int (bn l4), .int (bn l5), v6, v7, v8, v9], [.int (bn r3)], s1)
  refine bGo hA 5 1 (164, .ifCond .eq (5), 3, 82, 84, [], []) rfl rfl rfl ?_
  refine bB_eq0 (x := r3) q4 (fun c5 => ?_) (fun c5 => ?_)
  · refine bGo hA 5 4 (169, .iconst (4), 1, 85, 0, [], [(4, 0)]) rfl rfl rfl ?_
    refine bEqI bl_4 ?_
    refine bGo hA 5 5 (170, .bipush (12), 2, 86, 0, [], [(12, 0)]) rfl rfl rfl ?_
    refine bEqI bl_12 ?_
    refine bGo hA 5 6 (172, .iload_n 1, 1, 87, 0, [1], []) rfl rfl rfl ?_
    refine bGo hA 5 7 (173, .imul, 1, 88, 0, [], []) rfl rfl rfl ?_
    refine bEqI (bn_mul 12 l1) ?_
    refine bGo hA 5 8 (174, .aload_n 0, 1, 89, 0, [0], []) rfl rfl rfl ?_
    refine bGo hA 5 9 (175, .getfield 17, 3, 90, 0, [12, 3, 3, 58, 1, 0], []) rfl rfl rfl ?_
    refine ⟨rfl, ?_⟩
    refine bGo hA 5 10 (178, .iload_n 1, 1, 91, 0, [1], []) rfl rfl rfl ?_
    refine bGo hA 5 11 (179, .iaload, 1, 92, 0, [], []) rfl rfl rfl ?_
    refine ⟨rfl, (bIxP (x := l1) (n := 6) h_l1 (k2.1 c5).2.1), ?_⟩
    refine bEqL (x := l1) h_l1 ?_
    refine bGo hA 5 12 (180, .iadd, 1, 93, 0, [], []) rfl rfl rfl ?_
    refine bEqI (bn_add (12 * l1) (bi s1 58 l1)) ?_
    refine bGo hA 5 13 (181, .imul, 1, 94, 0, [], []) rfl rfl rfl ?_
    refine bEqI (bn_mul 4 ((12 * l1) + (bi s1 58 l1))) ?_
    refine bGo hA 5 14 (182, .istore 9, 2, 95, 0, [9], []) rfl rfl rfl ?_
    refine bGo hA 5 15 (184, .aload_n 0, 1, 96, 0, [0], []) rfl rfl rfl ?_
    refine bGo hA 6 0 (185, .getfield 20, 3, 97, 0, [12, 4, 3, 59, 1, 0], []) rfl rfl rfl ?_
    refine ⟨rfl, ?_⟩
    refine bGo hA 6 1 (188, .iload 9, 2, 98, 0, [9], []) rfl rfl rfl ?_
    refine bGo hA 6 2 (190, .iload_n 2, 1, 99, 0, [2], []) rfl rfl rfl ?_
    refine bGo hA 6 3 (191, .iastore, 1, 100, 0, [], []) rfl rfl rfl ?_
    refine ⟨rfl, (bIxP (x := (4 * ((12 * l1) + (bi s1 58 l1)))) (n := 288) (k2.1 c5).2.2.2.1 (k2.1 c5).2.2.2.2.1), by decide, ?_⟩
    refine bEqS (x := (4 * ((12 * l1) + (bi s1 58 l1)))) (k2.1 c5).2.2.2.1 ?_
    refine bGo hA 6 4 (192, .aload_n 0, 1, 101, 0, [0], []) rfl rfl rfl ?_
    refine bGo hA 6 5 (193, .getfield 20, 3, 102, 0, [12, 4, 3, 59, 1, 0], []) rfl rfl rfl ?_
    refine ⟨rfl, ?_⟩
    refine bGo hA 6 6 (196, .iload 9, 2, 103, 0, [9], []) rfl rfl rfl ?_
    refine bGo hA 6 7 (198, .iconst (1), 1, 104, 0, [], [(1, 0)]) rfl rfl rfl ?_
    refine bEqI bl_1 ?_
    refine bGo hA 6 8 (199, .iadd, 1, 105, 0, [], []) rfl rfl rfl ?_
    refine bEqI (bn_add (4 * ((12 * l1) + (bi s1 58 l1))) 1) ?_
    refine bGo hA 6 9 (200, .iload_n 3, 1, 106, 0, [3], []) rfl rfl rfl ?_
    refine bGo hA 6 10 (201, .iastore, 1, 107, 0, [], []) rfl rfl rfl ?_
    refine ⟨rfl, (bIxP (x := ((4 * ((12 * l1) + (bi s1 58 l1))) + 1)) (n := 288) (k2.1 c5).2.2.2.2.2.1 (k2.1 c5).2.2.2.2.2.2.1), by decide, ?_⟩
    refine bEqS (x := ((4 * ((12 * l1) + (bi s1 58 l1))) + 1)) (k2.1 c5).2.2.2.2.2.1 ?_
    refine bGo hA 6 11 (202, .aload_n 0, 1, 108, 0, [0], []) rfl rfl rfl ?_
    refine bGo hA 6 12 (203, .getfield 20, 3, 109, 0, [12, 4, 3, 59, 1, 0], []) rfl rfl rfl ?_
    refine ⟨rfl, ?_⟩
    refine bGo hA 6 13 (206, .iload 9, 2, 110, 0, [9], []) rfl rfl rfl ?_
    refine bGo hA 6 14 (208, .iconst (2), 1, 111, 0, [], [(2, 0)]) rfl rfl rfl ?_
    refine bEqI bl_2 ?_
    refine bGo hA 6 15 (209, .iadd, 1, 112, 0, [], []) rfl rfl rfl ?_
    refine bEqI (bn_add (4 * ((12 * l1) + (bi s1 58 l1))) 2) ?_
    refine bGo hA 7 0 (210, .iload 4, 2, 113, 0, [4], []) rfl rfl rfl ?_
    refine bGo hA 7 1 (212, .iastore, 1, 114, 0, [], []) rfl rfl rfl ?_
    refine ⟨rfl, (bIxP (x := ((4 * ((12 * l1) + (bi s1 58 l1))) + 2)) (n := 288) (k2.1 c5).2.2.2.2.2.2.2.1 (k2.1 c5).2.2.2.2.2.2.2.2.1), by decide, ?_⟩
    refine bEqS (x := ((4 * ((12 * l1) + (bi s1 58 l1))) + 2)) (k2.1 c5).2.2.2.2.2.2.2.1 ?_
    refine bGo hA 7 2 (213, .aload_n 0, 1, 115, 0, [0], []) rfl rfl rfl ?_
    refine bGo hA 7 3 (214, .getfield 20, 3, 116, 0, [12, 4, 3, 59, 1, 0], []) rfl rfl rfl ?_
    refine ⟨rfl, ?_⟩
    refine bGo hA 7 4 (217, .iload 9, 2, 117, 0, [9], []) rfl rfl rfl ?_
    refine bGo hA 7 5 (219, .iconst (3), 1, 118, 0, [], [(3, 0)]) rfl rfl rfl ?_
    refine bEqI bl_3 ?_
    refine bGo hA 7 6 (220, .iadd, 1, 119, 0, [], []) rfl rfl rfl ?_
    refine bEqI (bn_add (4 * ((12 * l1) + (bi s1 58 l1))) 3) ?_
    refine bGo hA 7 7 (221, .iload 5, 2, 120, 0, [5], []) rfl rfl rfl ?_
    refine bGo hA 7 8 (223, .iastore, 1, 121, 0, [], []) rfl rfl rfl ?_
    refine ⟨rfl, (bIxP (x := ((4 * ((12 * l1) + (bi s1 58 l1))) + 3)) (n := 288) (k2.1 c5).2.2.2.2.2.2.2.2.2.1 (k2.1 c5).2.2.2.2.2.2.2.2.2.2.1), by decide, ?_⟩
    refine bEqS (x := ((4 * ((12 * l1) + (bi s1 58 l1))) + 3)) (k2.1 c5).2.2.2.2.2.2.2.2.2.1 ?_
    refine bGo hA 7 9 (224, .aload_n 0, 1, 122, 0, [0], []) rfl rfl rfl ?_
    refine bGo hA 7 10 (225, .getfield 17, 3, 123, 0, [12, 3, 3, 58, 1, 0], []) rfl rfl rfl ?_
    refine ⟨rfl, ?_⟩
    refine bGo hA 7 11 (228, .iload_n 1, 1, 124, 0, [1], []) rfl rfl rfl ?_
    refine bGo hA 7 12 (229, .dup2, 1, 125, 0, [], []) rfl rfl rfl ?_
    refine bGo hA 7 13 (230, .iaload, 1, 126, 0, [], []) rfl rfl rfl ?_
    refine ⟨rfl, (bIxP (x := l1) (n := 6) h_l1 (k2.1 c5).2.1), ?_⟩
    refine bEqL (x := l1) h_l1 ?_
    refine bEqI (congrArg bn ((((bi_ne (by decide)).trans (bi_ne (by decide))).trans (bi_ne (by decide))).trans (bi_ne (by decide)))) ?_
    refine bGo hA 7 14 (231, .iconst (1), 1, 127, 0, [], [(1, 0)]) rfl rfl rfl ?_
    refine bEqI bl_1 ?_
    refine bGo hA 7 15 (232, .iadd, 1, 128, 0, [], []) rfl rfl rfl ?_
    refine bEqI (bn_add (bi s1 58 l1) 1) ?_
    refine bGo hA 8 0 (233, .iastore, 1, 129, 0, [], []) rfl rfl rfl ?_
    refine ⟨rfl, (bIxP (x := l1) (n := 6) h_l1 (k2.1 c5).2.1), by decide, ?_⟩
    refine bEqS (x := l1) h_l1 ?_
    refine bGo hA 8 1 (234, .aload_n 0, 1, 130, 0, [0], []) rfl rfl rfl ?_
    refine bGo hA 8 2 (235, .getfield 17, 3, 131, 0, [12, 3, 3, 58, 1, 0], []) rfl rfl rfl ?_
    refine ⟨rfl, ?_⟩
    refine bGo hA 8 3 (238, .iload_n 1, 1, 132, 0, [1], []) rfl rfl rfl ?_
    refine bGo hA 8 4 (239, .iaload, 1, 133, 0, [], []) rfl rfl rfl ?_
    refine ⟨rfl, (bIxP (x := l1) (n := 6) h_l1 (k2.1 c5).2.1), ?_⟩
    refine bEqL (x := l1) h_l1 ?_
    refine bEqI (congrArg bn (bi_eq (k2.1 c5).2.2.2.2.2.2.2.2.2.2.2.1)) ?_
    refine bGo hA 8 5 (240, .ireturn, 1, 0, 0, [1], []) rfl rfl rfl ?_
    exact (k2.1 c5).2.2.2.2.2.2.2.2.2.2.2.2
  · refine bGo hA 5 2 (167, .iconst (0), 1, 83, 0, [], [(0, 0)]) rfl rfl rfl ?_
    refine bEqI bl_0 ?_
    refine bGo hA 5 3 (168, .ireturn, 1, 84, 0, [1], []) rfl rfl rfl ?_
    exact (k2.2 c5)

theorem sq212_53 {lvl : Nat} {C : bCall} {Q : bPost} {A : bPt → Prop} (hC : bMono C) (hA : bClosed lvl bm212 C Q A) {l1 : Int} {l2 : Int} {l3 : Int} {l4 : Int} {l5 : Int} {v6 : Value} {l7 : Int} {v8 : Value} {v9 : Value} {σ : bSt}  (h_l1 : bRg l1) (h_l2 : bRg l2) (h_l3 : bRg l3) (h_l4 : bRg l4) (h_l5 : bRg l5) (h_l7 : bRg l7)
  (h : ((l2 = 1 → ((l7 = 0 → A (80, [.ref 12, .int (bn l1), .int (bn l2), .int (bn l3), .int (bn l4), .int (bn l5), v6, .int (bn l7), .int (bn 1), v9], [.int (bn 1), .ref 12], σ)) ∧ (¬ l7 = 0 → ((0 ≤ l1 ∧ l1 < 6) ∧ (((bi σ 58 l1) = 12 → A (80, [.ref 12, .int (bn l1), .int (bn l2), .int (bn l3), .int (bn l4), .int (bn l5), v6, .int (bn l7), .int (bn 1), v9], [.int (bn 3), .ref 12], σ)) ∧ (¬ (bi σ 58 l1) = 12 → A (80, [.ref 12, .int (bn l1), .int (bn l2), .int (bn l3), .int (bn l4), .int (bn l5), v6, .int (bn l7), .int (bn 1), v9], [.int (bn 0), .ref 12], σ))))))) ∧ (¬ l2 = 1 → ((l5 = 0 → ((l7 = 0 → A (80, [.ref 12, .int (bn l1), .int (bn l2), .int (bn l3), .int (bn l4), .int (bn l5), v6, .int (bn l7), .int (bn 1), v9], [.int (bn 1), .ref 12], σ)) ∧ (¬ l7 = 0 → ((0 ≤ l1 ∧ l1 < 6) ∧ (((bi σ 58 l1) = 12 → A (80, [.ref 12, .int (bn l1), .int (bn l2), .int (bn l3), .int (bn l4), .int (bn l5), v6, .int (bn l7), .int (bn 1), v9], [.int (bn 3), .ref 12], σ)) ∧ (¬ (bi σ 58 l1) = 12 → A (80, [.ref 12, .int (bn l1), .int (bn l2), .int (bn l3), .int (bn l4), .int (bn l5), v6, .int (bn l7), .int (bn 1), v9], [.int (bn 0), .ref 12], σ))))))) ∧ (¬ l5 = 0 → ((l7 = 0 → A (80, [.ref 12, .int (bn l1), .int (bn l2), .int (bn l3), .int (bn l4), .int (bn l5), v6, .int (bn l7), .int (bn 0), v9], [.int (bn 1), .ref 12], σ)) ∧ (¬ l7 = 0 → A (80, [.ref 12, .int (bn l1), .int (bn l2), .int (bn l3), .int (bn l4), .int (bn l5), v6, .int (bn l7), .int (bn 0), v9], [.int (bn 2), .ref 12], σ)))))))) : A (53, [.ref 12, .int (bn l1), .int (bn l2), .int (bn l3), .int (bn l4), .int (bn l5), v6, .int (bn l7), v8, v9], [], σ) := by
  refine bGo hA 3 5 (109, .iload_n 2, 1, 54, 0, [2], []) rfl rfl rfl ?_
  refine bGo hA 3 6 (110, .iconst (1), 1, 55, 0, [], [(1, 0)]) rfl rfl rfl ?_
  refine bEqI bl_1 ?_
  refine bGo hA 3 7 (111, .if_icmp .eq (8), 3, 56, 58, [], []) rfl rfl rfl ?_
  refine bB_eq (x := l2) (y := 1) h_l2 (by decide : bRg 1) (fun c1 => ?_) (fun c1 => ?_)
  · refine bGo hA 3 10 (119, .iconst (1), 1, 59, 0, [], [(1, 0)]) rfl rfl rfl ?_
    refine bEqI bl_1 ?_
    refine bGo hA 3 11 (120, .goto (4), 3, 60, 61, [], []) rfl rfl rfl ?_
    refine bGo hA 3 13 (124, .istore 8, 2, 62, 0, [8], []) rfl rfl rfl ?_
    refine bGo hA 3 14 (126, .aload_n 0, 1, 63, 0, [0], []) rfl rfl rfl ?_
    refine bGo hA 3 15 (127, .iload 7, 2, 64, 0, [7], []) rfl rfl rfl ?_
    refine bGo hA 4 0 (129, .ifCond .ne (7), 3, 65, 67, [], []) rfl rfl rfl ?_
    refine bB_eq0 (x := l7) h_l7 (fun c2 => ?_) (fun c2 => ?_)
    · refine bGo hA 4 1 (132, .iconst (1), 1, 66, 0, [], [(1, 0)]) rfl rfl rfl ?_
      refine bEqI bl_1 ?_
      refine bGo hA 4 2 (133, .goto (28), 3, 67, 80, [], []) rfl rfl rfl ?_
      exact ((h.1 c1).1 c2)
    · refine bGo hA 4 3 (136, .iload 8, 2, 68, 0, [8], []) rfl rfl rfl ?_
      refine bGo hA 4 4 (138, .ifCond .ne (7), 3, 69, 71, [], []) rfl rfl rfl ?_
      refine ⟨fun c => absurd c (by decide), fun _ => ?_⟩
      refine bGo hA 4 7 (145, .aload_n 0, 1, 72, 0, [0], []) rfl rfl rfl ?_
      refine bGo hA 4 8 (146, .getfield 17, 3, 73, 0, [12, 3, 3, 58, 1, 0], []) rfl rfl rfl ?_
      refine ⟨rfl, ?_⟩
      refine bGo hA 4 9 (149, .iload_n 1, 1, 74, 0, [1], []) rfl rfl rfl ?_
      refine bGo hA 4 10 (150, .iaload, 1, 75, 0, [], []) rfl rfl rfl ?_
      refine ⟨rfl, (bIxP (x := l1) (n := 6) h_l1 ((h.1 c1).2 c2).1), ?_⟩
      refine bEqL (x := l1) h_l1 ?_
      refine bGo hA 4 11 (151, .bipush (12), 2, 76, 0, [], [(12, 0)]) rfl rfl rfl ?_
      refine bEqI bl_12 ?_
      refine bGo hA 4 12 (153, .if_icmp .ne (7), 3, 77, 79, [], []) rfl rfl rfl ?_
      refine bB_eq (x := (bi σ 58 l1)) (y := 12) (bi_rg _ _ _) (by decide : bRg 12) (fun c4 => ?_) (fun c4 => ?_)
      · refine bGo hA 4 13 (156, .iconst (3), 1, 78, 0, [], [(3, 0)]) rfl rfl rfl ?_
        refine bEqI bl_3 ?_
        refine bGo hA 4 14 (157, .goto (4), 3, 79, 80, [], []) rfl rfl rfl ?_
        exact (((h.1 c1).2 c2).2.1 c4)
      · refine bGo hA 4 15 (160, .iconst (0), 1, 80, 0, [], [(0, 0)]) rfl rfl rfl ?_
        refine bEqI bl_0 ?_
        exact (((h.1 c1).2 c2).2.2 c4)
  · refine bGo hA 3 8 (114, .iload 5, 2, 57, 0, [5], []) rfl rfl rfl ?_
    refine bGo hA 3 9 (116, .ifCond .ne (7), 3, 58, 60, [], []) rfl rfl rfl ?_
    refine bB_eq0 (x := l5) h_l5 (fun c5 => ?_) (fun c5 => ?_)
    · refine bGo hA 3 10 (119, .iconst (1), 1, 59, 0, [], [(1, 0)]) rfl rfl rfl ?_
      refine bEqI bl_1 ?_
      refine bGo hA 3 11 (120, .goto (4), 3, 60, 61, [], []) rfl rfl rfl ?_
      refine bGo hA 3 13 (124, .istore 8, 2, 62, 0, [8], []) rfl rfl rfl ?_
      refine bGo hA 3 14 (126, .aload_n 0, 1, 63, 0, [0], []) rfl rfl rfl ?_
      refine bGo hA 3 15 (127, .iload 7, 2, 64, 0, [7], []) rfl rfl rfl ?_
      refine bGo hA 4 0 (129, .ifCond .ne (7), 3, 65, 67, [], []) rfl rfl rfl ?_
      refine bB_eq0 (x := l7) h_l7 (fun c6 => ?_) (fun c6 => ?_)
      · refine bGo hA 4 1 (132, .iconst (1), 1, 66, 0, [], [(1, 0)]) rfl rfl rfl ?_
        refine bEqI bl_1 ?_
        refine bGo hA 4 2 (133, .goto (28), 3, 67, 80, [], []) rfl rfl rfl ?_
        exact (((h.2 c1).1 c5).1 c6)
      · refine bGo hA 4 3 (136, .iload 8, 2, 68, 0, [8], []) rfl rfl rfl ?_
        refine bGo hA 4 4 (138, .ifCond .ne (7), 3, 69, 71, [], []) rfl rfl rfl ?_
        refine ⟨fun c => absurd c (by decide), fun _ => ?_⟩
        refine bGo hA 4 7 (145, .aload_n 0, 1, 72, 0, [0], []) rfl rfl rfl ?_
        refine bGo hA 4 8 (146, .getfield 17, 3, 73, 0, [12, 3, 3, 58, 1, 0], []) rfl rfl rfl ?_
        refine ⟨rfl, ?_⟩
        refine bGo hA 4 9 (149, .iload_n 1, 1, 74, 0, [1], []) rfl rfl rfl ?_
        refine bGo hA 4 10 (150, .iaload, 1, 75, 0, [], []) rfl rfl rfl ?_
        refine ⟨rfl, (bIxP (x := l1) (n := 6) h_l1 (((h.2 c1).1 c5).2 c6).1), ?_⟩
        refine bEqL (x := l1) h_l1 ?_
        refine bGo hA 4 11 (151, .bipush (12), 2, 76, 0, [], [(12, 0)]) rfl rfl rfl ?_
        refine bEqI bl_12 ?_
        refine bGo hA 4 12 (153, .if_icmp .ne (7), 3, 77, 79, [], []) rfl rfl rfl ?_
        refine bB_eq (x := (bi σ 58 l1)) (y := 12) (bi_rg _ _ _) (by decide : bRg 12) (fun c8 => ?_) (fun c8 => ?_)
        · refine bGo hA 4 13 (156, .iconst (3), 1, 78, 0, [], [(3, 0)]) rfl rfl rfl ?_
          refine bEqI bl_3 ?_
          refine bGo hA 4 14 (157, .goto (4), 3, 79, 80, [], []) rfl rfl rfl ?_
          exact ((((h.2 c1).1 c5).2 c6).2.1 c8)
        · refine bGo hA 4 15 (160, .iconst (0), 1, 80, 0, [], [(0, 0)]) rfl rfl rfl ?_
          refine bEqI bl_0 ?_
          exact ((((h.2 c1).1 c5).2 c6).2.2 c8)
    · refine bGo hA 3 12 (123, .iconst (0), 1, 61, 0, [], [(0, 0)]) rfl rfl rfl ?_
      refine bEqI bl_0 ?_
      refine bGo hA 3 13 (124, .istore 8, 2, 62, 0, [8], []) rfl rfl rfl ?_
      refine bGo hA 3 14 (126, .aload_n 0, 1, 63, 0, [0], []) rfl rfl rfl ?_
      refine bGo hA 3 15 (127, .iload 7, 2, 64, 0, [7], []) rfl rfl rfl ?_
      refine bGo hA 4 0 (129, .ifCond .ne (7), 3, 65, 67, [], []) rfl rfl rfl ?_
      refine bB_eq0 (x := l7) h_l7 (fun c9 => ?_) (fun c9 => ?_)
      · refine bGo hA 4 1 (132, .iconst (1), 1, 66, 0, [], [(1, 0)]) rfl rfl rfl ?_
        refine bEqI bl_1 ?_
        refine bGo hA 4 2 (133, .goto (28), 3, 67, 80, [], []) rfl rfl rfl ?_
        exact (((h.2 c1).2 c5).1 c9)
      · refine bGo hA 4 3 (136, .iload 8, 2, 68, 0, [8], []) rfl rfl rfl ?_
        refine bGo hA 4 4 (138, .ifCond .ne (7), 3, 69, 71, [], []) rfl rfl rfl ?_
        refine ⟨fun _ => ?_, fun c => absurd (by decide) c⟩
        refine bGo hA 4 5 (141, .iconst (2), 1, 70, 0, [], [(2, 0)]) rfl rfl rfl ?_
        refine bEqI bl_2 ?_
        refine bGo hA 4 6 (142, .goto (19), 3, 71, 80, [], []) rfl rfl rfl ?_
        exact (((h.2 c1).2 c5).2 c9)

theorem sq213_0 {lvl : Nat} {C : bCall} {Q : bPost} {A : bPt → Prop} (hC : bMono C) (hA : bClosed lvl bm213 C Q A) {x1 : Int} {x2 : Int} {σ : bSt}  (h_x1 : bRg x1) (h_x2 : bRg x2)
  (h : (C 210 [.int (bn x1)] σ (bRn (fun r3 s1 => ((r3 = 0 → (C 197 [.ref 12, .int (bn 1)] s1 (bRn (fun r9 s7 => ((r9 = 0 → (bRg (12 * x1) ∧ (bRg ((12 * x1) + x2) ∧ (bRg (4 * ((12 * x1) + x2)) ∧ A (35, [.ref 12, .int (bn x1), .int (bn x2), .int (bn 0), .int (bn (4 * ((12 * x1) + x2)))], [], s7))))) ∧ (¬ r9 = 0 → Q (.inl (some (.int (bn 0)))) s7)))))) ∧ (¬ r3 = 0 → ((0 ≤ x1 ∧ x1 < 6) ∧ (bRg ((bi s1 58 x1) - 1) ∧ (C 199 [.int (bn x2), .int (bn 0), .int (bn ((bi s1 58 x1) - 1))] s1 (bRn (fun r14 s12 => ((r14 = 0 → (C 197 [.ref 12, .int (bn 1)] s12 (bRn (fun r20 s18 => ((r20 = 0 → (bRg (12 * x1) ∧ (bRg ((12 * x1) + x2) ∧ (bRg (4 * ((12 * x1) + x2)) ∧ A (35, [.ref 12, .int (bn x1), .int (bn x2), .int (bn 0), .int (bn (4 * ((12 * x1) + x2)))], [], s18))))) ∧ (¬ r20 = 0 → Q (.inl (some (.int (bn 0)))) s18)))))) ∧ (¬ r14 = 0 → (C 197 [.ref 12, .int (bn 0)] s12 (bRn (fun r26 s24 => ((r26 = 0 → (bRg (12 * x1) ∧ (bRg ((12 * x1) + x2) ∧ (bRg (4 * ((12 * x1) + x2)) ∧ A (35, [.ref 12, .int (bn x1), .int (bn x2), .int (bn 1), .int (bn (4 * ((12 * x1) + x2)))], [], s24))))) ∧ (¬ r26 = 0 → Q (.inl (some (.int (bn 0)))) s24)))))))))))))))))) : A (0, [.ref 12, .int (bn x1), .int (bn x2), .float 0, .float 0], [], σ) := by
  refine bGo hA 0 0 (0, .iload_n 1, 1, 1, 0, [1], []) rfl rfl rfl ?_
  refine bGo hA 0 1 (1, .invokestatic 350, 3, 2, 0, [2, 210, 1], []) rfl rfl rfl ?_
  refine hC _ _ _ _ _ (bRn_e (fun r3 s1 q4 k2 => ?_)) h
  show A (2, [.ref 12, .int (bn x1), .int (bn x2), .float 0, .float 0], [.int (bn r3)], s1)
  refine bGo hA 0 2 (4, .ifCond .eq (23), 3, 3, 15, [], []) rfl rfl rfl ?_
  refine bB_eq0 (x := r3) q4 (fun c5 => ?_) (fun c5 => ?_)
  · refine bGo hA 0 15 (27, .iconst (0), 1, 16, 0, [], [(0, 0)]) rfl rfl rfl ?_
    refine bEqI bl_0 ?_
    refine bGo hA 1 0 (28, .istore_n 3, 1, 17, 0, [3], []) rfl rfl rfl ?_
    refine bGo hA 1 1 (29, .aload_n 0, 1, 18, 0, [0], []) rfl rfl rfl ?_
    refine bGo hA 1 2 (30, .iload_n 3, 1, 19, 0, [3], []) rfl rfl rfl ?_
    refine bGo hA 1 3 (31, .ifCond .eq (7), 3, 20, 22, [], []) rfl rfl rfl ?_
    refine ⟨fun _ => ?_, fun c => absurd (by decide) c⟩
    refine bGo hA 1 6 (38, .iconst (1), 1, 23, 0, [], [(1, 0)]) rfl rfl rfl ?_
    refine bEqI bl_1 ?_
    refine bGo hA 1 7 (39, .invokevirtual 333, 3, 24, 0, [0, 12, 197, 1], []) rfl rfl rfl ?_
    refine ⟨rfl, ?_⟩
    refine hC _ _ _ _ _ (bRn_e (fun r9 s7 q10 k8 => ?_)) (k2.1 c5)
    show A (24, [.ref 12, .int (bn x1), .int (bn x2), .int (bn 0), .float 0], [.int (bn r9)], s7)
    refine bGo hA 1 8 (42, .ifCond .eq (5), 3, 25, 27, [], []) rfl rfl rfl ?_
    refine bB_eq0 (x := r9) q10 (fun c11 => ?_) (fun c11 => ?_)
    · refine bGo hA 1 11 (47, .iconst (4), 1, 28, 0, [], [(4, 0)]) rfl rfl rfl ?_
      refine bEqI bl_4 ?_
      refine bGo hA 1 12 (48, .bipush (12), 2, 29, 0, [], [(12, 0)]) rfl rfl rfl ?_
      refine bEqI bl_12 ?_
      refine bGo hA 1 13 (50, .iload_n 1, 1, 30, 0, [1], []) rfl rfl rfl ?_
      refine bGo hA 1 14 (51, .imul, 1, 31, 0, [], []) rfl rfl rfl ?_
      refine bEqI (bn_mul 12 x1) ?_
      refine bGo hA 1 15 (52, .iload_n 2, 1, 32, 0, [2], []) rfl rfl rfl ?_
      refine bGo hA 2 0 (53, .iadd, 1, 33, 0, [], []) rfl rfl rfl ?_
      refine bEqI (bn_add (12 * x1) x2) ?_
      refine bGo hA 2 1 (54, .imul, 1, 34, 0, [], []) rfl rfl rfl ?_
      refine bEqI (bn_mul 4 ((12 * x1) + x2)) ?_
      refine bGo hA 2 2 (55, .istore 4, 2, 35, 0, [4], []) rfl rfl rfl ?_
      exact (k8.1 c11).2.2.2
    · refine bGo hA 1 9 (45, .iconst (0), 1, 26, 0, [], [(0, 0)]) rfl rfl rfl ?_
      refine bEqI bl_0 ?_
      refine bGo hA 1 10 (46, .ireturn, 1, 27, 0, [1], []) rfl rfl rfl ?_
      exact (k8.2 c11)
  · refine bGo hA 0 3 (7, .iload_n 2, 1, 4, 0, [2], []) rfl rfl rfl ?_
    refine bGo hA 0 4 (8, .iconst (0), 1, 5, 0, [], [(0, 0)]) rfl rfl rfl ?_
    refine bEqI bl_0 ?_
    refine bGo hA 0 5 (9, .aload_n 0, 1, 6, 0, [0], []) rfl rfl rfl ?_
    refine bGo hA 0 6 (10, .getfield 17, 3, 7, 0, [12, 3, 3, 58, 1, 0], []) rfl rfl rfl ?_
    refine ⟨rfl, ?_⟩
    refine bGo hA 0 7 (13, .iload_n 1, 1, 8, 0, [1], []) rfl rfl rfl ?_
    refine bGo hA 0 8 (14, .iaload, 1, 9, 0, [], []) rfl rfl rfl ?_
    refine ⟨rfl, (bIxP (x := x1) (n := 6) h_x1 (k2.2 c5).1), ?_⟩
    refine bEqL (x := x1) h_x1 ?_
    refine bGo hA 0 9 (15, .iconst (1), 1, 10, 0, [], [(1, 0)]) rfl rfl rfl ?_
    refine bEqI bl_1 ?_
    refine bGo hA 0 10 (16, .isub, 1, 11, 0, [], []) rfl rfl rfl ?_
    refine bEqI (bn_sub (bi s1 58 x1) 1) ?_
    refine bGo hA 0 11 (17, .invokestatic 325, 3, 12, 0, [2, 199, 3], []) rfl rfl rfl ?_
    refine hC _ _ _ _ _ (bRn_e (fun r14 s12 q15 k13 => ?_)) (k2.2 c5).2.2
    show A (12, [.ref 12, .int (bn x1), .int (bn x2), .float 0, .float 0], [.int (bn r14)], s12)
    refine bGo hA 0 12 (20, .ifCond .eq (7), 3, 13, 15, [], []) rfl rfl rfl ?_
    refine bB_eq0 (x := r14) q15 (fun c16 => ?_) (fun c16 => ?_)
    · refine bGo hA 0 15 (27, .iconst (0), 1, 16, 0, [], [(0, 0)]) rfl rfl rfl ?_
      refine bEqI bl_0 ?_
      refine bGo hA 1 0 (28, .istore_n 3, 1, 17, 0, [3], []) rfl rfl rfl ?_
      refine bGo hA 1 1 (29, .aload_n 0, 1, 18, 0, [0], []) rfl rfl rfl ?_
      refine bGo hA 1 2 (30, .iload_n 3, 1, 19, 0, [3], []) rfl rfl rfl ?_
      refine bGo hA 1 3 (31, .ifCond .eq (7), 3, 20, 22, [], []) rfl rfl rfl ?_
      refine ⟨fun _ => ?_, fun c => absurd (by decide) c⟩
      refine bGo hA 1 6 (38, .iconst (1), 1, 23, 0, [], [(1, 0)]) rfl rfl rfl ?_
      refine bEqI bl_1 ?_
      refine bGo hA 1 7 (39, .invokevirtual 333, 3, 24, 0, [0, 12, 197, 1], []) rfl rfl rfl ?_
      refine ⟨rfl, ?_⟩
      refine hC _ _ _ _ _ (bRn_e (fun r20 s18 q21 k19 => ?_)) (k13.1 c16)
      show A (24, [.ref 12, .int (bn x1), .int (bn x2), .int (bn 0), .float 0], [.int (bn r20)], s18)
      refine bGo hA 1 8 (42, .ifCond .eq (5), 3, 25, 27, [], []) rfl rfl rfl ?_
      refine bB_eq0 (x := r20) q21 (fun c22 => ?_) (fun c22 => ?_)
      · refine bGo hA 1 11 (47, .iconst (4), 1, 28, 0, [], [(4, 0)]) rfl rfl rfl ?_
        refine bEqI bl_4 ?_
        refine bGo hA 1 12 (48, .bipush (12), 2, 29, 0, [], [(12, 0)]) rfl rfl rfl ?_
        refine bEqI bl_12 ?_
        refine bGo hA 1 13 (50, .iload_n 1, 1, 30, 0, [1], []) rfl rfl rfl ?_
        refine bGo hA 1 14 (51, .imul, 1, 31, 0, [], []) rfl rfl rfl ?_
        refine bEqI (bn_mul 12 x1) ?_
        refine bGo hA 1 15 (52, .iload_n 2, 1, 32, 0, [2], []) rfl rfl rfl ?_
        refine bGo hA 2 0 (53, .iadd, 1, 33, 0, [], []) rfl rfl rfl ?_
        refine bEqI (bn_add (12 * x1) x2) ?_
        refine bGo hA 2 1 (54, .imul, 1, 34, 0, [], []) rfl rfl rfl ?_
        refine bEqI (bn_mul 4 ((12 * x1) + x2)) ?_
        refine bGo hA 2 2 (55, .istore 4, 2, 35, 0, [4], []) rfl rfl rfl ?_
        exact (k19.1 c22).2.2.2
      · refine bGo hA 1 9 (45, .iconst (0), 1, 26, 0, [], [(0, 0)]) rfl rfl rfl ?_
        refine bEqI bl_0 ?_
        refine bGo hA 1 10 (46, .ireturn, 1, 27, 0, [1], []) rfl rfl rfl ?_
        exact (k19.2 c22)
    · refine bGo hA 0 13 (23, .iconst (1), 1, 14, 0, [], [(1, 0)]) rfl rfl rfl ?_
      refine bEqI bl_1 ?_
      refine bGo hA 0 14 (24, .goto (4), 3, 15, 16, [], []) rfl rfl rfl ?_
      refine bGo hA 1 0 (28, .istore_n 3, 1, 17, 0, [3], []) rfl rfl rfl ?_
      refine bGo hA 1 1 (29, .aload_n 0, 1, 18, 0, [0], []) rfl rfl rfl ?_
      refine bGo hA 1 2 (30, .iload_n 3, 1, 19, 0, [3], []) rfl rfl rfl ?_
      refine bGo hA 1 3 (31, .ifCond .eq (7), 3, 20, 22, [], []) rfl rfl rfl ?_
      refine ⟨fun c => absurd c (by decide), fun _ => ?_⟩
      refine bGo hA 1 4 (34, .iconst (0), 1, 21, 0, [], [(0, 0)]) rfl rfl rfl ?_
      refine bEqI bl_0 ?_
      refine bGo hA 1 5 (35, .goto (4), 3, 22, 23, [], []) rfl rfl rfl ?_
      refine bGo hA 1 7 (39, .invokevirtual 333, 3, 24, 0, [0, 12, 197, 1], []) rfl rfl rfl ?_
      refine ⟨rfl, ?_⟩
      refine hC _ _ _ _ _ (bRn_e (fun r26 s24 q27 k25 => ?_)) (k13.2 c16)
      show A (24, [.ref 12, .int (bn x1), .int (bn x2), .int (bn 1), .float 0], [.int (bn r26)], s24)
      refine bGo hA 1 8 (42, .ifCond .eq (5), 3, 25, 27, [], []) rfl rfl rfl ?_
      refine bB_eq0 (x := r26) q27 (fun c28 => ?_) (fun c28 => ?_)
      · refine bGo hA 1 11 (47, .iconst (4), 1, 28, 0, [], [(4, 0)]) rfl rfl rfl ?_
        refine bEqI bl_4 ?_
        refine bGo hA 1 12 (48, .bipush (12), 2, 29, 0, [], [(12, 0)]) rfl rfl rfl ?_
        refine bEqI bl_12 ?_
        refine bGo hA 1 13 (50, .iload_n 1, 1, 30, 0, [1], []) rfl rfl rfl ?_
        refine bGo hA 1 14 (51, .imul, 1, 31, 0, [], []) rfl rfl rfl ?_
        refine bEqI (bn_mul 12 x1) ?_
        refine bGo hA 1 15 (52, .iload_n 2, 1, 32, 0, [2], []) rfl rfl rfl ?_
        refine bGo hA 2 0 (53, .iadd, 1, 33, 0, [], []) rfl rfl rfl ?_
        refine bEqI (bn_add (12 * x1) x2) ?_
        refine bGo hA 2 1 (54, .imul, 1, 34, 0, [], []) rfl rfl rfl ?_
        refine bEqI (bn_mul 4 ((12 * x1) + x2)) ?_
        refine bGo hA 2 2 (55, .istore 4, 2, 35, 0, [4], []) rfl rfl rfl ?_
        exact (k25.1 c28).2.2.2
      · refine bGo hA 1 9 (45, .iconst (0), 1, 26, 0, [], [(0, 0)]) rfl rfl rfl ?_
        refine bEqI bl_0 ?_
        refine bGo hA 1 10 (46, .ireturn, 1, 27, 0, [1], []) rfl rfl rfl ?_
        exact (k25.2 c28)

theorem sq213_35 {lvl : Nat} {C : bCall} {Q : bPost} {A : bPt → Prop} (hC : bMono C) (hA : bClosed lvl bm213 C Q A) {l1 : Int} {v2 : Value} {v3 : Value} {l4 : Int} {σ : bSt}  (h_l1 : bRg l1) (h_l4 : bRg l4)
  (h : (bRg (12 * l1) ∧ ((0 ≤ l1 ∧ l1 < 6) ∧ (bRg ((12 * l1) + (bi σ 58 l1)) ∧ (bRg (((12 * l1) + (bi σ 58 l1)) - 1) ∧ (bRg (4 * (((12 * l1) + (bi σ 58 l1)) - 1)) ∧ ((l4 < (4 * (((12 * l1) + (bi σ 58 l1)) - 1)) → (bRg (l4 + 4) ∧ ((0 ≤ (l4 + 4) ∧ (l4 + 4) < 288) ∧ ((0 ≤ l4 ∧ l4 < 288) ∧ (bRg (l4 + 1) ∧ A (35, [.ref 12, .int (bn l1), v2, (bUnl v3), .int (bn (l4 + 1))], [], (bw σ 59 l4 (bi σ 59 (l4 + 4))))))))) ∧ (¬ l4 < (4 * (((12 * l1) + (bi σ 58 l1)) - 1)) → (bRg ((bi σ 58 l1) - 1) ∧ Q (.inl (some (.int (bn ((bi σ 58 l1) - 1))))) (bw σ 58 l1 ((bi σ 58 l1) - 1))))))))))) : A (35, [.ref 12, .int (bn l1), v2, v3, .int (bn l4)], [], σ) := by
  refine bGo hA 2 3 (57, .iload 4, 2, 36, 0, [4], []) rfl rfl rfl ?_
  refine bGo hA 2 4 (59, .iconst (4), 1, 37, 0, [], [(4, 0)]) rfl rfl rfl ?_
  refine bEqI bl_4 ?_
  refine bGo hA 2 5 (60, .bipush (12), 2, 38, 0, [], [(12, 0)]) rfl rfl rfl ?_
  refine bEqI bl_12 ?_
  refine bGo hA 2 6 (62, .iload_n 1, 1, 39, 0, [1], []) rfl rfl rfl ?_
  refine bGo hA 2 7 (63, .imul, 1, 40, 0, [], []) rfl rfl rfl ?_
  refine bEqI (bn_mul 12 l1) ?_
  refine bGo hA 2 8 (64, .aload_n 0, 1, 41, 0, [0], []) rfl rfl rfl ?_
  refine bGo hA 2 9 (65, .getfield 17, 3, 42, 0, [12, 3, 3, 58, 1, 0], []) rfl rfl rfl ?_
  refine ⟨rfl, ?_⟩
  refine bGo hA 2 10 (68, .iload_n 1, 1, 43, 0, [1], []) rfl rfl rfl ?_
  refine bGo hA 2 11 (69, .iaload, 1, 44, 0, [], []) rfl rfl rfl ?_
  refine ⟨rfl, (bIxP (x := l1) (n := 6) h_l1 h.2.1), ?_⟩
  refine bEqL (x := l1) h_l1 ?_
  refine bGo hA 2 12 (70, .iadd, 1, 45, 0, [], []) rfl rfl rfl ?_
  refine bEqI (bn_add (12 * l1) (bi σ 58 l1)) ?_
  refine bGo hA 2 13 (71, .iconst (1), 1, 46, 0, [], [(1, 0)]) rfl rfl rfl ?_
  refine bEqI bl_1 ?_
  refine bGo hA 2 14 (72, .isub, 1, 47, 0, [], []) rfl rfl rfl ?_
  refine bEqI (bn_sub ((12 * l1) + (bi σ 58 l1)) 1) ?_
  refine bGo hA 2 15 (73, .imul, 1, 48, 0, [], []) rfl rfl rfl ?_
  refine bEqI (bn_mul 4 (((12 * l1) + (bi σ 58 l1)) - 1)) ?_
  refine bGo hA 3 0 (74, .if_icmp .ge (25), 3, 49, 61, [], []) rfl rfl rfl ?_
  refine bB_lt (x := l4) (y := (4 * (((12 * l1) + (bi σ 58 l1)) - 1))) h_l4 h.2.2.2.2.1 (fun c1 => ?_) (fun c1 => ?_)
  · refine bGo hA 3 1 (77, .aload_n 0, 1, 50, 0, [0], []) rfl rfl rfl ?_
    refine bGo hA 3 2 (78, .getfield 20, 3, 51, 0, [12, 4, 3, 59, 1, 0], []) rfl rfl rfl ?_
    refine ⟨rfl, ?_⟩
    refine bGo hA 3 3 (81, .iload 4, 2, 52, 0, [4], []) rfl rfl rfl ?_
    refine bGo hA 3 4 (83, .aload_n 0, 1, 53, 0, [0], []) rfl rfl rfl ?_
    refine bGo hA 3 5 (84, .getfield 20, 3, 54, 0, [12, 4, 3, 59, 1, 0], []) rfl rfl rfl ?_
    refine ⟨rfl, ?_⟩
    refine bGo hA 3 6 (87, .iload 4, 2, 55, 0, [4], []) rfl rfl rfl ?_
    refine bGo hA 3 7 (89, .iconst (4), 1, 56, 0, [], [(4, 0)]) rfl rfl rfl ?_
    refine bEqI bl_4 ?_
    refine bGo hA 3 8 (90, .iadd, 1, 57, 0, [], []) rfl rfl rfl ?_
    refine bEqI (bn_add l4 4) ?_
    refine bGo hA 3 9 (91, .iaload, 1, 58, 0, [], []) rfl rfl rfl ?_
    refine ⟨rfl, (bIxP (x := (l4 + 4)) (n := 288) (h.2.2.2.2.2.1 c1).1 (h.2.2.2.2.2.1 c1).2.1), ?_⟩
    refine bEqL (x := (l4 + 4)) (h.2.2.2.2.2.1 c1).1 ?_
    refine bGo hA 3 10 (92, .iastore, 1, 59, 0, [], []) rfl rfl rfl ?_
    refine ⟨rfl, (bIxP (x := l4) (n := 288) h_l4 (h.2.2.2.2.2.1 c1).2.2.1), by decide, ?_⟩
    refine bEqS (x := l4) h_l4 ?_
    refine bGo hA 3 11 (93, .iinc 4 (1), 3, 60, 0, [4], [(1, 0)]) rfl rfl rfl ?_
    refine bEqC (fun v => A (60, [.ref 12, .int (bn l1), v2, (bUnl v3), .int v], [], (bw σ 59 l4 (bi σ 59 (l4 + 4))))) ((congrArg (fun w => bn l4 + w) bl_1).trans (bn_add l4 1)) ?_
    refine bGo hA 3 12 (96, .goto (-39), 3, 61, 35, [], []) rfl rfl rfl ?_
    exact (h.2.2.2.2.2.1 c1).2.2.2.2
  · refine bGo hA 3 13 (99, .aload_n 0, 1, 62, 0, [0], []) rfl rfl rfl ?_
    refine bGo hA 3 14 (100, .getfield 17, 3, 63, 0, [12, 3, 3, 58, 1, 0], []) rfl rfl rfl ?_
    refine ⟨rfl, ?_⟩
    refine bGo hA 3 15 (103, .iload_n 1, 1, 64, 0, [1], []) rfl rfl rfl ?_
    refine bGo hA 4 0 (104, .dup2, 1, 65, 0, [], []) rfl rfl rfl ?_
    refine bGo hA 4 1 (105, .iaload, 1, 66, 0, [], []) rfl rfl rfl ?_
    refine ⟨rfl, (bIxP (x := l1) (n := 6) h_l1 h.2.1), ?_⟩
    refine bEqL (x := l1) h_l1 ?_
    refine bGo hA 4 2 (106, .iconst (1), 1, 67, 0, [], [(1, 0)]) rfl rfl rfl ?_
    refine bEqI bl_1 ?_
    refine bGo hA 4 3 (107, .isub, 1, 68, 0, [], []) rfl rfl rfl ?_
    refine bEqI (bn_sub (bi σ 58 l1) 1) ?_
    refine bGo hA 4 4 (108, .iastore, 1, 69, 0, [], []) rfl rfl rfl ?_
    refine ⟨rfl, (bIxP (x := l1) (n := 6) h_l1 h.2.1), by decide, ?_⟩
    refine bEqS (x := l1) h_l1 ?_
    refine bGo hA 4 5 (109, .aload_n 0, 1, 70, 0, [0], []) rfl rfl rfl ?_
    refine bGo hA 4 6 (110, .getfield 17, 3, 71, 0, [12, 3, 3, 58, 1, 0], []) rfl rfl rfl ?_
    refine ⟨rfl, ?_⟩
    refine bGo hA 4 7 (113, .iload_n 1, 1, 72, 0, [1], []) rfl rfl rfl ?_
    refine bGo hA 4 8 (114, .iaload, 1, 73, 0, [], []) rfl rfl rfl ?_
    refine ⟨rfl, (bIxP (x := l1) (n := 6) h_l1 h.2.1), ?_⟩
    refine bEqL (x := l1) h_l1 ?_
    refine bEqI (congrArg bn (bi_eq (h.2.2.2.2.2.2 c1).1)) ?_
    refine bGo hA 4 9 (115, .ireturn, 1, 0, 0, [1], []) rfl rfl rfl ?_
    exact (h.2.2.2.2.2.2 c1).2


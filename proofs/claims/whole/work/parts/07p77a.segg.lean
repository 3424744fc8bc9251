/-! segments of methods 110-118,120,121,156-166,225-237, by program (wip/whole/gen13.py): from a cut of a method on to the next cuts -/
theorem sq110_0 {lvl : Nat} {C : bCall} {Q : bPost} {A : bPt → Prop} (hC : bMono C) (hA : bClosed lvl bm110 C Q A) {a0 : Nat} {x1 : Int} {σ : bSt} (h_a0 : a0 % 256 = 8) (h_x1 : bRg x1)
  (h : (C 141 [.ref (256 * (1 * (a0 / 256) + 0) + 46), .int (bn (bi σ a0 13)), .int (bn x1)] σ (bRv (fun s1 => (bRg ((bi s1 a0 13) + 1) ∧ Q (.inl (some (.int (bn (bi (bw s1 a0 13 ((bi s1 a0 13) + 1)) a0 13))))) (bw s1 a0 13 ((bi s1 a0 13) + 1))))))) : A (0, [.ref a0, .int (bn x1)], [], σ) := by
  refine bGo hA 0 0 (0, .aload_n 0, 1, 1, 0, [0], []) rfl rfl rfl ?_
  refine bGo hA 0 1 (1, .getfield 27, 3, 2, 0, [8, 15, 3, 46, 1, 0], []) rfl rfl rfl ?_
  refine ⟨h_a0, ?_⟩
  refine bGo hA 0 2 (4, .aload_n 0, 1, 3, 0, [0], []) rfl rfl rfl ?_
  refine bGo hA 0 3 (5, .getfield 56, 3, 4, 0, [8, 13, 0, 0, 0, 0], []) rfl rfl rfl ?_
  refine ⟨h_a0, ?_⟩
  refine bEqI (bn_bi σ a0 13) ?_
  refine bGo hA 0 4 (8, .iload_n 1, 1, 5, 0, [1], []) rfl rfl rfl ?_
  refine bGo hA 0 5 (9, .invokestatic 59, 3, 6, 1, [2, 141, 3], []) rfl rfl rfl ?_
  refine hC _ _ _ _ _ (bRv_e (fun s1 k2 => ?_)) h
  show A (6, [.ref a0, .int (bn x1)], [], s1)
  refine bGo hA 0 6 (12, .aload_n 0, 1, 7, 0, [0], []) rfl rfl rfl ?_
  refine bGo hA 0 7 (13, .dup, 1, 8, 0, [], []) rfl rfl rfl ?_
  refine bGo hA 0 8 (14, .getfield 56, 3, 9, 0, [8, 13, 0, 0, 0, 0], []) rfl rfl rfl ?_
  refine ⟨h_a0, ?_⟩
  refine bEqI (bn_bi s1 a0 13) ?_
  refine bGo hA 0 9 (17, .iconst (1), 1, 10, 0, [], [(1, 0)]) rfl rfl rfl ?_
  refine bEqI bl_1 ?_
  refine bGo hA 0 10 (18, .iadd, 1, 11, 0, [], []) rfl rfl rfl ?_
  refine bEqI (bn_add (bi s1 a0 13) 1) ?_
  refine bGo hA 0 11 (19, .putfield 56, 3, 12, 0, [8, 13, 0, 0, 0, 0], []) rfl rfl rfl ?_
  refine ⟨h_a0, ?_⟩
  refine bGo hA 0 12 (22, .aload_n 0, 1, 13, 0, [0], []) rfl rfl rfl ?_
  refine bGo hA 0 13 (23, .getfield 56, 3, 14, 0, [8, 13, 0, 0, 0, 0], []) rfl rfl rfl ?_
  refine ⟨h_a0, ?_⟩
  refine bEqI (bn_bi (bw s1 a0 13 ((bi s1 a0 13) + 1)) a0 13) ?_
  refine bGo hA 0 14 (26, .ireturn, 1, 0, 0, [1], []) rfl rfl rfl ?_
  exact k2.2

theorem sq111_0 {lvl : Nat} {C : bCall} {Q : bPost} {A : bPt → Prop} (hC : bMono C) (hA : bClosed lvl bm111 C Q A) {a0 : Nat} {σ : bSt} (h_a0 : a0 % 256 = 8) 
  (h : (bRg ((bi σ a0 13) - 1) ∧ Q (.inl (some (.int (bn (bi (bw σ a0 13 ((bi σ a0 13) - 1)) a0 13))))) (bw σ a0 13 ((bi σ a0 13) - 1)))) : A (0, [.ref a0], [], σ) := by
  refine bGo hA 0 0 (0, .aload_n 0, 1, 1, 0, [0], []) rfl rfl rfl ?_
  refine bGo hA 0 1 (1, .dup, 1, 2, 0, [], []) rfl rfl rfl ?_
  refine bGo hA 0 2 (2, .getfield 56, 3, 3, 0, [8, 13, 0, 0, 0, 0], []) rfl rfl rfl ?_
  refine ⟨h_a0, ?_⟩
  refine bEqI (bn_bi σ a0 13) ?_
  refine bGo hA 0 3 (5, .iconst (1), 1, 4, 0, [], [(1, 0)]) rfl rfl rfl ?_
  refine bEqI bl_1 ?_
  refine bGo hA 0 4 (6, .isub, 1, 5, 0, [], []) rfl rfl rfl ?_
  refine bEqI (bn_sub (bi σ a0 13) 1) ?_
  refine bGo hA 0 5 (7, .putfield 56, 3, 6, 0, [8, 13, 0, 0, 0, 0], []) rfl rfl rfl ?_
  refine ⟨h_a0, ?_⟩
  refine bGo hA 0 6 (10, .aload_n 0, 1, 7, 0, [0], []) rfl rfl rfl ?_
  refine bGo hA 0 7 (11, .getfield 56, 3, 8, 0, [8, 13, 0, 0, 0, 0], []) rfl rfl rfl ?_
  refine ⟨h_a0, ?_⟩
  refine bEqI (bn_bi (bw σ a0 13 ((bi σ a0 13) - 1)) a0 13) ?_
  refine bGo hA 0 8 (14, .ireturn, 1, 0, 0, [1], []) rfl rfl rfl ?_
  exact h.2

theorem sq112_0 {lvl : Nat} {C : bCall} {Q : bPost} {A : bPt → Prop} (hC : bMono C) (hA : bClosed lvl bm112 C Q A) {a0 : Nat} {x1 : Int} {σ : bSt} (h_a0 : a0 % 256 = 8) (h_x1 : bRg x1)
  (h : ((x1 < (bi σ a0 13) → (C 140 [.ref (256 * (1 * (a0 / 256) + 0) + 46), .int (bn x1)] σ (bRn (fun r4 s2 => Q (.inl (some (.int (bn r4)))) s2)))) ∧ (¬ x1 < (bi σ a0 13) → Q (.inl (some (.int (bn (-1))))) σ))) : A (0, [.ref a0, .int (bn x1)], [], σ) := by
  refine bGo hA 0 0 (0, .iload_n 1, 1, 1, 0, [1], []) rfl rfl rfl ?_
  refine bGo hA 0 1 (1, .aload_n 0, 1, 2, 0, [0], []) rfl rfl rfl ?_
  refine bGo hA 0 2 (2, .getfield 56, 3, 3, 0, [8, 13, 0, 0, 0, 0], []) rfl rfl rfl ?_
  refine ⟨h_a0, ?_⟩
  refine bEqI (bn_bi σ a0 13) ?_
  refine bGo hA 0 3 (5, .if_icmp .ge (14), 3, 4, 9, [], []) rfl rfl rfl ?_
  refine bB_lt (x := x1) (y := (bi σ a0 13)) h_x1 (bi_rg _ _ _) (fun c1 => ?_) (fun c1 => ?_)
  · refine bGo hA 0 4 (8, .aload_n 0, 1, 5, 0, [0], []) rfl rfl rfl ?_
    refine bGo hA 0 5 (9, .getfield 27, 3, 6, 0, [8, 15, 3, 46, 1, 0], []) rfl rfl rfl ?_
    refine ⟨h_a0, ?_⟩
    refine bGo hA 0 6 (12, .iload_n 1, 1, 7, 0, [1], []) rfl rfl rfl ?_
    refine bGo hA 0 7 (13, .invokestatic 63, 3, 8, 1, [2, 140, 2], []) rfl rfl rfl ?_
    refine hC _ _ _ _ _ (bRn_e (fun r4 s2 q5 k3 => ?_)) (h.1 c1)
    show A (8, [.ref a0, .int (bn x1)], [.int (bn r4)], s2)
    refine bGo hA 0 8 (16, .goto (4), 3, 9, 10, [], []) rfl rfl rfl ?_
    refine bGo hA 0 10 (20, .ireturn, 1, 0, 0, [1], []) rfl rfl rfl ?_
    exact k3
  · refine bGo hA 0 9 (19, .iconst (-1), 1, 10, 0, [], [(-1, 0)]) rfl rfl rfl ?_
    refine bEqI bl_m1 ?_
    refine bGo hA 0 10 (20, .ireturn, 1, 0, 0, [1], []) rfl rfl rfl ?_
    exact (h.2 c1)

theorem sq113_0 {lvl : Nat} {C : bCall} {Q : bPost} {A : bPt → Prop} (hC : bMono C) (hA : bClosed lvl bm113 C Q A) {a0 : Nat} {x1 : Int} {x2 : Int} {x3 : Int} {σ : bSt} (h_a0 : a0 % 256 = 8) (h_x1 : bRg x1) (h_x2 : bRg x2) (h_x3 : bRg x3)
  (h : (bRg (x1 * 4) ∧ (bRg ((x1 * 4) + x2) ∧ (bRg (((x1 * 4) + x2) * 1000) ∧ (bRg ((((x1 * 4) + x2) * 1000) + x3) ∧ (C 141 [.ref (256 * (1 * (a0 / 256) + 0) + 47), .int (bn (bi σ a0 14)), .int (bn ((((x1 * 4) + x2) * 1000) + x3))] σ (bRv (fun s1 => (bRg ((bi s1 a0 14) + 1) ∧ Q (.inl (some (.int (bn (bi (bw s1 a0 14 ((bi s1 a0 14) + 1)) a0 14))))) (bw s1 a0 14 ((bi s1 a0 14) + 1))))))))))) : A (0, [.ref a0, .int (bn x1), .int (bn x2), .int (bn x3)], [], σ) := by
  refine bGo hA 0 0 (0, .aload_n 0, 1, 1, 0, [0], []) rfl rfl rfl ?_
  refine bGo hA 0 1 (1, .getfield 31, 3, 2, 0, [8, 16, 3, 47, 1, 0], []) rfl rfl rfl ?_
  refine ⟨h_a0, ?_⟩
  refine bGo hA 0 2 (4, .aload_n 0, 1, 3, 0, [0], []) rfl rfl rfl ?_
  refine bGo hA 0 3 (5, .getfield 67, 3, 4, 0, [8, 14, 0, 0, 0, 0], []) rfl rfl rfl ?_
  refine ⟨h_a0, ?_⟩
  refine bEqI (bn_bi σ a0 14) ?_
  refine bGo hA 0 4 (8, .iload_n 1, 1, 5, 0, [1], []) rfl rfl rfl ?_
  refine bGo hA 0 5 (9, .iconst (4), 1, 6, 0, [], [(4, 0)]) rfl rfl rfl ?_
  refine bEqI bl_4 ?_
  refine bGo hA 0 6 (10, .imul, 1, 7, 0, [], []) rfl rfl rfl ?_
  refine bEqI (bn_mul x1 4) ?_
  refine bGo hA 0 7 (11, .iload_n 2, 1, 8, 0, [2], []) rfl rfl rfl ?_
  refine bGo hA 0 8 (12, .iadd, 1, 9, 0, [], []) rfl rfl rfl ?_
  refine bEqI (bn_add (x1 * 4) x2) ?_
  refine bGo hA 0 9 (13, .sipush (1000), 3, 10, 0, [], [(1000, 0)]) rfl rfl rfl ?_
  refine bEqI bl_1000 ?_
  refine bGo hA 0 10 (16, .imul, 1, 11, 0, [], []) rfl rfl rfl ?_
  refine bEqI (bn_mul ((x1 * 4) + x2) 1000) ?_
  refine bGo hA 0 11 (17, .iload_n 3, 1, 12, 0, [3], []) rfl rfl rfl ?_
  refine bGo hA 0 12 (18, .iadd, 1, 13, 0, [], []) rfl rfl rfl ?_
  refine bEqI (bn_add (((x1 * 4) + x2) * 1000) x3) ?_
  refine bGo hA 0 13 (19, .invokestatic 59, 3, 14, 1, [2, 141, 3], []) rfl rfl rfl ?_
  refine hC _ _ _ _ _ (bRv_e (fun s1 k2 => ?_)) h.2.2.2.2
  show A (14, [.ref a0, .int (bn x1), .int (bn x2), .int (bn x3)], [], s1)
  refine bGo hA 0 14 (22, .aload_n 0, 1, 15, 0, [0], []) rfl rfl rfl ?_
  refine bGo hA 0 15 (23, .dup, 1, 16, 0, [], []) rfl rfl rfl ?_
  refine bGo hA 1 0 (24, .getfield 67, 3, 17, 0, [8, 14, 0, 0, 0, 0], []) rfl rfl rfl ?_
  refine ⟨h_a0, ?_⟩
  refine bEqI (bn_bi s1 a0 14) ?_
  refine bGo hA 1 1 (27, .iconst (1), 1, 18, 0, [], [(1, 0)]) rfl rfl rfl ?_
  refine bEqI bl_1 ?_
  refine bGo hA 1 2 (28, .iadd, 1, 19, 0, [], []) rfl rfl rfl ?_
  refine bEqI (bn_add (bi s1 a0 14) 1) ?_
  refine bGo hA 1 3 (29, .putfield 67, 3, 20, 0, [8, 14, 0, 0, 0, 0], []) rfl rfl rfl ?_
  refine ⟨h_a0, ?_⟩
  refine bGo hA 1 4 (32, .aload_n 0, 1, 21, 0, [0], []) rfl rfl rfl ?_
  refine bGo hA 1 5 (33, .getfield 67, 3, 22, 0, [8, 14, 0, 0, 0, 0], []) rfl rfl rfl ?_
  refine ⟨h_a0, ?_⟩
  refine bEqI (bn_bi (bw s1 a0 14 ((bi s1 a0 14) + 1)) a0 14) ?_
  refine bGo hA 1 6 (36, .ireturn, 1, 0, 0, [1], []) rfl rfl rfl ?_
  exact k2.2

theorem sq114_0 {lvl : Nat} {C : bCall} {Q : bPost} {A : bPt → Prop} (hC : bMono C) (hA : bClosed lvl bm114 C Q A) {a0 : Nat} {x1 : Int} {x2 : Int} {σ : bSt} (h_a0 : a0 % 256 = 8) (h_x1 : bRg x1) (h_x2 : bRg x2)
  (h : ((x1 = (-1) → ((x1 = (-1) → Q (.inl none) (bw (bw σ a0 6 255) a0 7 0)) ∧ (¬ x1 = (-1) → (C 130 [.int (bn 0), .int (bn x1), .int (bn x2)] (bw σ a0 6 255) (bRn (fun r5 s3 => Q (.inl none) (bw s3 a0 7 r5))))))) ∧ (¬ x1 = (-1) → (C 130 [.int (bn 255), .int (bn x1), .int (bn 0)] σ (bRn (fun r9 s7 => ((x1 = (-1) → Q (.inl none) (bw (bw s7 a0 6 r9) a0 7 0)) ∧ (¬ x1 = (-1) → (C 130 [.int (bn 0), .int (bn x1), .int (bn x2)] (bw s7 a0 6 r9) (bRn (fun r14 s12 => Q (.inl none) (bw s12 a0 7 r14)))))))))))) : A (0, [.ref a0, .int (bn x1), .int (bn x2)], [], σ) := by
  refine bGo hA 0 0 (0, .aload_n 0, 1, 1, 0, [0], []) rfl rfl rfl ?_
  refine bGo hA 0 1 (1, .iload_n 1, 1, 2, 0, [1], []) rfl rfl rfl ?_
  refine bGo hA 0 2 (2, .iconst (-1), 1, 3, 0, [], [(-1, 0)]) rfl rfl rfl ?_
  refine bEqI bl_m1 ?_
  refine bGo hA 0 3 (3, .if_icmp .ne (9), 3, 4, 6, [], []) rfl rfl rfl ?_
  refine bB_eq (x := x1) (y := (-1)) h_x1 (by decide : bRg (-1)) (fun c1 => ?_) (fun c1 => ?_)
  · refine bGo hA 0 4 (6, .sipush (255), 3, 5, 0, [], [(255, 0)]) rfl rfl rfl ?_
    refine bEqI bl_255 ?_
    refine bGo hA 0 5 (9, .goto (11), 3, 6, 10, [], []) rfl rfl rfl ?_
    refine bGo hA 0 10 (20, .putfield 21, 3, 11, 0, [8, 6, 0, 0, 0, 0], []) rfl rfl rfl ?_
    refine ⟨h_a0, ?_⟩
    refine bGo hA 0 11 (23, .aload_n 0, 1, 12, 0, [0], []) rfl rfl rfl ?_
    refine bGo hA 0 12 (24, .iload_n 1, 1, 13, 0, [1], []) rfl rfl rfl ?_
    refine bGo hA 0 13 (25, .iconst (-1), 1, 14, 0, [], [(-1, 0)]) rfl rfl rfl ?_
    refine bEqI bl_m1 ?_
    refine bGo hA 0 14 (26, .if_icmp .ne (7), 3, 15, 17, [], []) rfl rfl rfl ?_
    refine bB_eq (x := x1) (y := (-1)) h_x1 (by decide : bRg (-1)) (fun c2 => ?_) (fun c2 => ?_)
    · refine bGo hA 0 15 (29, .iconst (0), 1, 16, 0, [], [(0, 0)]) rfl rfl rfl ?_
      refine bEqI bl_0 ?_
      refine bGo hA 1 0 (30, .goto (9), 3, 17, 21, [], []) rfl rfl rfl ?_
      refine bGo hA 1 5 (39, .putfield 76, 3, 22, 0, [8, 7, 0, 0, 0, 0], []) rfl rfl rfl ?_
      refine ⟨h_a0, ?_⟩
      refine bGo hA 1 6 (42, .return_, 1, 0, 0, [0], []) rfl rfl rfl ?_
      exact ((h.1 c1).1 c2)
    · refine bGo hA 1 1 (33, .iconst (0), 1, 18, 0, [], [(0, 0)]) rfl rfl rfl ?_
      refine bEqI bl_0 ?_
      refine bGo hA 1 2 (34, .iload_n 1, 1, 19, 0, [1], []) rfl rfl rfl ?_
      refine bGo hA 1 3 (35, .iload_n 2, 1, 20, 0, [2], []) rfl rfl rfl ?_
      refine bGo hA 1 4 (36, .invokestatic 70, 3, 21, 0, [2, 130, 3], []) rfl rfl rfl ?_
      refine hC _ _ _ _ _ (bRn_e (fun r5 s3 q6 k4 => ?_)) ((h.1 c1).2 c2)
      show A (21, [.ref a0, .int (bn x1), .int (bn x2)], [.int (bn r5), .ref a0], s3)
      refine bGo hA 1 5 (39, .putfield 76, 3, 22, 0, [8, 7, 0, 0, 0, 0], []) rfl rfl rfl ?_
      refine ⟨h_a0, ?_⟩
      refine bGo hA 1 6 (42, .return_, 1, 0, 0, [0], []) rfl rfl rfl ?_
      exact k4
  · refine bGo hA 0 6 (12, .sipush (255), 3, 7, 0, [], [(255, 0)]) rfl rfl rfl ?_
    refine bEqI bl_255 ?_
    refine bGo hA 0 7 (15, .iload_n 1, 1, 8, 0, [1], []) rfl rfl rfl ?_
    refine bGo hA 0 8 (16, .iconst (0), 1, 9, 0, [], [(0, 0)]) rfl rfl rfl ?_
    refine bEqI bl_0 ?_
    refine bGo hA 0 9 (17, .invokestatic 70, 3, 10, 0, [2, 130, 3], []) rfl rfl rfl ?_
    refine hC _ _ _ _ _ (bRn_e (fun r9 s7 q10 k8 => ?_)) (h.2 c1)
    show A (10, [.ref a0, .int (bn x1), .int (bn x2)], [.int (bn r9), .ref a0], s7)
    refine bGo hA 0 10 (20, .putfield 21, 3, 11, 0, [8, 6, 0, 0, 0, 0], []) rfl rfl rfl ?_
    refine ⟨h_a0, ?_⟩
    refine bGo hA 0 11 (23, .aload_n 0, 1, 12, 0, [0], []) rfl rfl rfl ?_
    refine bGo hA 0 12 (24, .iload_n 1, 1, 13, 0, [1], []) rfl rfl rfl ?_
    refine bGo hA 0 13 (25, .iconst (-1), 1, 14, 0, [], [(-1, 0)]) rfl rfl rfl ?_
    refine bEqI bl_m1 ?_
    refine bGo hA 0 14 (26, .if_icmp .ne (7), 3, 15, 17, [], []) rfl rfl rfl ?_
    refine bB_eq (x := x1) (y := (-1)) h_x1 (by decide : bRg (-1)) (fun c11 => ?_) (fun c11 => ?_)
    · refine bGo hA 0 15 (29, .iconst (0), 1, 16, 0, [], [(0, 0)]) rfl rfl rfl ?_
      refine bEqI bl_0 ?_
      refine bGo hA 1 0 (30, .goto (9), 3, 17, 21, [], []) rfl rfl rfl ?_
      refine bGo hA 1 5 (39, .putfield 76, 3, 22, 0, [8, 7, 0, 0, 0, 0], []) rfl rfl rfl ?_
      refine ⟨h_a0, ?_⟩
      refine bGo hA 1 6 (42, .return_, 1, 0, 0, [0], []) rfl rfl rfl ?_
      exact (k8.1 c11)
    · refine bGo hA 1 1 (33, .iconst (0), 1, 18, 0, [], [(0, 0)]) rfl rfl rfl ?_
      refine bEqI bl_0 ?_
      refine bGo hA 1 2 (34, .iload_n 1, 1, 19, 0, [1], []) rfl rfl rfl ?_
      refine bGo hA 1 3 (35, .iload_n 2, 1, 20, 0, [2], []) rfl rfl rfl ?_
      refine bGo hA 1 4 (36, .invokestatic 70, 3, 21, 0, [2, 130, 3], []) rfl rfl rfl ?_
      refine hC _ _ _ _ _ (bRn_e (fun r14 s12 q15 k13 => ?_)) (k8.2 c11)
      show A (21, [.ref a0, .int (bn x1), .int (bn x2)], [.int (bn r14), .ref a0], s12)
      refine bGo hA 1 5 (39, .putfield 76, 3, 22, 0, [8, 7, 0, 0, 0, 0], []) rfl rfl rfl ?_
      refine ⟨h_a0, ?_⟩
      refine bGo hA 1 6 (42, .return_, 1, 0, 0, [0], []) rfl rfl rfl ?_
      exact k13

theorem sq115_0 {lvl : Nat} {C : bCall} {Q : bPost} {A : bPt → Prop} (hC : bMono C) (hA : bClosed lvl bm115 C Q A) {a0 : Nat} {x1 : Int} {x2 : Int} {x3 : Int} {σ : bSt} (h_a0 : a0 % 256 = 8) (h_x1 : bRg x1) (h_x2 : bRg x2) (h_x3 : bRg x3)
  (h : ((x3 = 0 ∨ x3 = 1) ∧ Q (.inl none) (bw (bw (bw σ a0 8 x1) a0 9 x2) a0 10 x3))) : A (0, [.ref a0, .int (bn x1), .int (bn x2), .int (bn x3)], [], σ) := by
  refine bGo hA 0 0 (0, .aload_n 0, 1, 1, 0, [0], []) rfl rfl rfl ?_
  refine bGo hA 0 1 (1, .iload_n 1, 1, 2, 0, [1], []) rfl rfl rfl ?_
  refine bGo hA 0 2 (2, .putfield 79, 3, 3, 0, [8, 8, 0, 0, 0, 0], []) rfl rfl rfl ?_
  refine ⟨h_a0, ?_⟩
  refine bGo hA 0 3 (5, .aload_n 0, 1, 4, 0, [0], []) rfl rfl rfl ?_
  refine bGo hA 0 4 (6, .iload_n 2, 1, 5, 0, [2], []) rfl rfl rfl ?_
  refine bGo hA 0 5 (7, .putfield 24, 3, 6, 0, [8, 9, 0, 0, 0, 0], []) rfl rfl rfl ?_
  refine ⟨h_a0, ?_⟩
  refine bGo hA 0 6 (10, .aload_n 0, 1, 7, 0, [0], []) rfl rfl rfl ?_
  refine bGo hA 0 7 (11, .iload_n 3, 1, 8, 0, [3], []) rfl rfl rfl ?_
  refine bGo hA 0 8 (12, .putfield 82, 3, 9, 0, [8, 10, 1, 0, 0, 0], []) rfl rfl rfl ?_
  refine ⟨h_a0, b01 h.1, ?_⟩
  refine bGo hA 0 9 (15, .return_, 1, 0, 0, [0], []) rfl rfl rfl ?_
  exact h.2

theorem sq116_0 {lvl : Nat} {C : bCall} {Q : bPost} {A : bPt → Prop} (hC : bMono C) (hA : bClosed lvl bm116 C Q A) {a0 : Nat} {x1 : Int} {σ : bSt} (h_a0 : a0 % 256 = 8) (h_x1 : bRg x1)
  (h : A (2, [.ref a0, .int (bn x1), .int (bn 0), .float 0, .float 0], [], σ)) : A (0, [.ref a0, .int (bn x1), .float 0, .float 0, .float 0], [], σ) := by
  refine bGo hA 0 0 (0, .iconst (0), 1, 1, 0, [], [(0, 0)]) rfl rfl rfl ?_
  refine bEqI bl_0 ?_
  refine bGo hA 0 1 (1, .istore_n 2, 1, 2, 0, [2], []) rfl rfl rfl ?_
  exact h

theorem sq116_2 {lvl : Nat} {C : bCall} {Q : bPost} {A : bPt → Prop} (hC : bMono C) (hA : bClosed lvl bm116 C Q A) {l0 : Nat} {l1 : Int} {l2 : Int} {v3 : Value} {v4 : Value} {σ : bSt}  (h_l1 : bRg l1) (h_l2 : bRg l2)
  (h : (l0 % 256 = 8 ∧ ((l2 < (bi σ l0 14) → (C 140 [.ref (256 * (1 * (l0 / 256) + 0) + 47), .int (bn l2)] σ (bRn (fun r4 s2 => (0 ≤ r4 ∧ (C 129 [.int (bn l1), .int (bn ((r4 / 1000) / 4))] s2 (bRn (fun r8 s6 => ((r8 = ((r4 / 1000) % 4) → Q (.inl (some (.int (bn (r4 % 1000))))) s6) ∧ (¬ r8 = ((r4 / 1000) % 4) → (bRg (l2 + 1) ∧ A (2, [.ref l0, .int (bn l1), .int (bn (l2 + 1)), .int (bn r4), .int (bn ((r4 / 1000) % 4))], [], s6)))))))))))) ∧ (¬ l2 < (bi σ l0 14) → (((bi σ l0 3) = (-1) → Q (.inl (some (.int (bn (bi σ l0 2))))) σ) ∧ (¬ (bi σ l0 3) = (-1) → Q (.inl (some (.int (bn (bi σ l0 4))))) σ)))))) : A (2, [.ref l0, .int (bn l1), .int (bn l2), v3, v4], [], σ) := by
  refine bGo hA 0 2 (2, .iload_n 2, 1, 3, 0, [2], []) rfl rfl rfl ?_
  refine bGo hA 0 3 (3, .aload_n 0, 1, 4, 0, [0], []) rfl rfl rfl ?_
  refine bGo hA 0 4 (4, .getfield 67, 3, 5, 0, [8, 14, 0, 0, 0, 0], []) rfl rfl rfl ?_
  refine ⟨h.1, ?_⟩
  refine bEqI (bn_bi σ l0 14) ?_
  refine bGo hA 0 5 (7, .if_icmp .ge (49), 3, 6, 32, [], []) rfl rfl rfl ?_
  refine bB_lt (x := l2) (y := (bi σ l0 14)) h_l2 (bi_rg _ _ _) (fun c1 => ?_) (fun c1 => ?_)
  · refine bGo hA 0 6 (10, .aload_n 0, 1, 7, 0, [0], []) rfl rfl rfl ?_
    refine bGo hA 0 7 (11, .getfield 31, 3, 8, 0, [8, 16, 3, 47, 1, 0], []) rfl rfl rfl ?_
    refine ⟨h.1, ?_⟩
    refine bGo hA 0 8 (14, .iload_n 2, 1, 9, 0, [2], []) rfl rfl rfl ?_
    refine bGo hA 0 9 (15, .invokestatic 63, 3, 10, 1, [2, 140, 2], []) rfl rfl rfl ?_
    refine hC _ _ _ _ _ (bRn_e (fun r4 s2 q5 k3 => ?_)) (h.2.1 c1)
    show A (10, [.ref l0, .int (bn l1), .int (bn l2), v3, v4], [.int (bn r4)], s2)
    refine bGo hA 0 10 (18, .istore_n 3, 1, 11, 0, [3], []) rfl rfl rfl ?_
    refine bGo hA 0 11 (19, .iload_n 3, 1, 12, 0, [3], []) rfl rfl rfl ?_
    refine bGo hA 0 12 (20, .sipush (1000), 3, 13, 0, [], [(1000, 0)]) rfl rfl rfl ?_
    refine bEqI bl_1000 ?_
    refine bGo hA 0 13 (23, .idiv, 1, 14, 0, [], []) rfl rfl rfl ?_
    refine ⟨by decide, ?_⟩
    refine bEqI (bn_div q5 (by decide) k3.1) ?_
    refine bGo hA 0 14 (24, .iconst (4), 1, 15, 0, [], [(4, 0)]) rfl rfl rfl ?_
    refine bEqI bl_4 ?_
    refine bGo hA 0 15 (25, .irem, 1, 16, 0, [], []) rfl rfl rfl ?_
    refine ⟨by decide, ?_⟩
    refine bEqI (bn_rem (bRg_div q5 k3.1) (by decide) (Int.ediv_nonneg k3.1 (by decide))) ?_
    refine bGo hA 1 0 (26, .istore 4, 2, 17, 0, [4], []) rfl rfl rfl ?_
    refine bGo hA 1 1 (28, .iload_n 1, 1, 18, 0, [1], []) rfl rfl rfl ?_
    refine bGo hA 1 2 (29, .iload_n 3, 1, 19, 0, [3], []) rfl rfl rfl ?_
    refine bGo hA 1 3 (30, .sipush (1000), 3, 20, 0, [], [(1000, 0)]) rfl rfl rfl ?_
    refine bEqI bl_1000 ?_
    refine bGo hA 1 4 (33, .idiv, 1, 21, 0, [], []) rfl rfl rfl ?_
    refine ⟨by decide, ?_⟩
    refine bEqI (bn_div q5 (by decide) k3.1) ?_
    refine bGo hA 1 5 (34, .iconst (4), 1, 22, 0, [], [(4, 0)]) rfl rfl rfl ?_
    refine bEqI bl_4 ?_
    refine bGo hA 1 6 (35, .idiv, 1, 23, 0, [], []) rfl rfl rfl ?_
    refine ⟨by decide, ?_⟩
    refine bEqI (bn_div (bRg_div q5 k3.1) (by decide) (Int.ediv_nonneg k3.1 (by decide))) ?_
    refine bGo hA 1 7 (36, .invokestatic 86, 3, 24, 0, [2, 129, 2], []) rfl rfl rfl ?_
    refine hC _ _ _ _ _ (bRn_e (fun r8 s6 q9 k7 => ?_)) k3.2
    show A (24, [.ref l0, .int (bn l1), .int (bn l2), .int (bn r4), .int (bn ((r4 / 1000) % 4))], [.int (bn r8)], s6)
    refine bGo hA 1 8 (39, .iload 4, 2, 25, 0, [4], []) rfl rfl rfl ?_
    refine bGo hA 1 9 (41, .if_icmp .ne (9), 3, 26, 30, [], []) rfl rfl rfl ?_
    refine bB_eq (x := r8) (y := ((r4 / 1000) % 4)) q9 (bRg_mod (by decide) (by decide)) (fun c10 => ?_) (fun c10 => ?_)
    · refine bGo hA 1 10 (44, .iload_n 3, 1, 27, 0, [3], []) rfl rfl rfl ?_
      refine bGo hA 1 11 (45, .sipush (1000), 3, 28, 0, [], [(1000, 0)]) rfl rfl rfl ?_
      refine bEqI bl_1000 ?_
      refine bGo hA 1 12 (48, .irem, 1, 29, 0, [], []) rfl rfl rfl ?_
      refine ⟨by decide, ?_⟩
      refine bEqI (bn_rem q5 (by decide) k3.1) ?_
      refine bGo hA 1 13 (49, .ireturn, 1, 30, 0, [1], []) rfl rfl rfl ?_
      exact (k7.1 c10)
    · refine bGo hA 1 14 (50, .iinc 2 (1), 3, 31, 0, [2], [(1, 0)]) rfl rfl rfl ?_
      refine bEqC (fun v => A (31, [.ref l0, .int (bn l1), .int v, .int (bn r4), .int (bn ((r4 / 1000) % 4))], [], s6)) ((congrArg (fun w => bn l2 + w) bl_1).trans (bn_add l2 1)) ?_
      refine bGo hA 1 15 (53, .goto (-51), 3, 32, 2, [], []) rfl rfl rfl ?_
      exact (k7.2 c10).2
  · refine bGo hA 2 0 (56, .aload_n 0, 1, 33, 0, [0], []) rfl rfl rfl ?_
    refine bGo hA 2 1 (57, .getfield 9, 3, 34, 0, [8, 3, 0, 0, 0, 0], []) rfl rfl rfl ?_
    refine ⟨h.1, ?_⟩
    refine bEqI (bn_bi σ l0 3) ?_
    refine bGo hA 2 2 (60, .iconst (-1), 1, 35, 0, [], [(-1, 0)]) rfl rfl rfl ?_
    refine bEqI bl_m1 ?_
    refine bGo hA 2 3 (61, .if_icmp .ne (10), 3, 36, 39, [], []) rfl rfl rfl ?_
    refine bB_eq (x := (bi σ l0 3)) (y := (-1)) (bi_rg _ _ _) (by decide : bRg (-1)) (fun c11 => ?_) (fun c11 => ?_)
    · refine bGo hA 2 4 (64, .aload_n 0, 1, 37, 0, [0], []) rfl rfl rfl ?_
      refine bGo hA 2 5 (65, .getfield 47, 3, 38, 0, [8, 2, 0, 0, 0, 0], []) rfl rfl rfl ?_
      refine ⟨h.1, ?_⟩
      refine bEqI (bn_bi σ l0 2) ?_
      refine bGo hA 2 6 (68, .goto (7), 3, 39, 41, [], []) rfl rfl rfl ?_
      refine bGo hA 2 9 (75, .ireturn, 1, 0, 0, [1], []) rfl rfl rfl ?_
      exact ((h.2.2 c1).1 c11)
    · refine bGo hA 2 7 (71, .aload_n 0, 1, 40, 0, [0], []) rfl rfl rfl ?_
      refine bGo hA 2 8 (72, .getfield 15, 3, 41, 0, [8, 4, 0, 0, 0, 0], []) rfl rfl rfl ?_
      refine ⟨h.1, ?_⟩
      refine bEqI (bn_bi σ l0 4) ?_
      refine bGo hA 2 9 (75, .ireturn, 1, 0, 0, [1], []) rfl rfl rfl ?_
      exact ((h.2.2 c1).2 c11)

theorem sq117_0 {lvl : Nat} {C : bCall} {Q : bPost} {A : bPt → Prop} (hC : bMono C) (hA : bClosed lvl bm117 C Q A) {a0 : Nat} {x1 : Int} {σ : bSt} (h_a0 : a0 % 256 = 8) (h_x1 : bRg x1)
  (h : Q (.inl (some (.int (bn (bOr (bAnd x1 (bi σ a0 6)) (bi σ a0 7)))))) σ) : A (0, [.ref a0, .int (bn x1)], [], σ) := by
  refine bGo hA 0 0 (0, .iload_n 1, 1, 1, 0, [1], []) rfl rfl rfl ?_
  refine bGo hA 0 1 (1, .aload_n 0, 1, 2, 0, [0], []) rfl rfl rfl ?_
  refine bGo hA 0 2 (2, .getfield 21, 3, 3, 0, [8, 6, 0, 0, 0, 0], []) rfl rfl rfl ?_
  refine ⟨h_a0, ?_⟩
  refine bEqI (bn_bi σ a0 6) ?_
  refine bGo hA 0 3 (5, .iand, 1, 4, 0, [], []) rfl rfl rfl ?_
  refine bEqI (bn_and x1 (bi σ a0 6)) ?_
  refine bGo hA 0 4 (6, .aload_n 0, 1, 5, 0, [0], []) rfl rfl rfl ?_
  refine bGo hA 0 5 (7, .getfield 76, 3, 6, 0, [8, 7, 0, 0, 0, 0], []) rfl rfl rfl ?_
  refine ⟨h_a0, ?_⟩
  refine bEqI (bn_bi σ a0 7) ?_
  refine bGo hA 0 6 (10, .ior, 1, 7, 0, [], []) rfl rfl rfl ?_
  refine bEqI (bn_or (bAnd x1 (bi σ a0 6)) (bi σ a0 7)) ?_
  refine bGo hA 0 7 (11, .ireturn, 1, 0, 0, [1], []) rfl rfl rfl ?_
  exact h

theorem sq118_0 {lvl : Nat} {C : bCall} {Q : bPost} {A : bPt → Prop} (hC : bMono C) (hA : bClosed lvl bm118 C Q A) {a0 : Nat} {x1 : Int} {σ : bSt} (h_a0 : a0 % 256 = 8) (h_x1 : bRg x1)
  (h : (((bShr x1 6) < 0 → Q (.inl (some (.int (bn 0)))) σ) ∧ (¬ (bShr x1 6) < 0 → (¬ bTy (256 * (1 * (a0 / 256) + 0) + 49) = 9 ∧ (bRg (bLen σ (256 * (1 * (a0 / 256) + 0) + 49) : Int) ∧ (((bShr x1 6) < (bLen σ (256 * (1 * (a0 / 256) + 0) + 49) : Int) → (bTy (256 * (1 * (a0 / 256) + 0) + 49) = 2 ∧ ((0 ≤ (bShr x1 6) ∧ (bShr x1 6) < (bLen σ (256 * (1 * (a0 / 256) + 0) + 49) : Int)) ∧ (((bCmp (((bj σ (256 * (1 * (a0 / 256) + 0) + 49) (bShr x1 6)) >>> (bL x1 &&& 63)) &&& (Int64.ofNat 1)) (Int64.ofNat 0)) = 0 → ((0 ≤ (bShr x1 6) ∧ (bShr x1 6) < (bLen σ (256 * (1 * (a0 / 256) + 0) + 49) : Int)) ∧ ((0 ≤ (bShr x1 6) ∧ (bShr x1 6) < (bLen σ (256 * (1 * (a0 / 256) + 0) + 49) : Int)) ∧ ((256 * (1 * (a0 / 256) + 0) + 49) % 256 < 200 ∧ Q (.inl (some (.int (bn 1)))) (bwj σ (256 * (1 * (a0 / 256) + 0) + 49) (bShr x1 6) ((bj σ (256 * (1 * (a0 / 256) + 0) + 49) (bShr x1 6)) ||| ((Int64.ofNat 1) <<< (bL x1 &&& 63)))))))) ∧ (¬ (bCmp (((bj σ (256 * (1 * (a0 / 256) + 0) + 49) (bShr x1 6)) >>> (bL x1 &&& 63)) &&& (Int64.ofNat 1)) (Int64.ofNat 0)) = 0 → ((0 ≤ (bShr x1 6) ∧ (bShr x1 6) < (bLen σ (256 * (1 * (a0 / 256) + 0) + 49) : Int)) ∧ ((0 ≤ (bShr x1 6) ∧ (bShr x1 6) < (bLen σ (256 * (1 * (a0 / 256) + 0) + 49) : Int)) ∧ ((256 * (1 * (a0 / 256) + 0) + 49) % 256 < 200 ∧ Q (.inl (some (.int (bn 0)))) (bwj σ (256 * (1 * (a0 / 256) + 0) + 49) (bShr x1 6) ((bj σ (256 * (1 * (a0 / 256) + 0) + 49) (bShr x1 6)) ||| ((Int64.ofNat 1) <<< (bL x1 &&& 63)))))))))))) ∧ (¬ (bShr x1 6) < (bLen σ (256 * (1 * (a0 / 256) + 0) + 49) : Int) → Q (.inl (some (.int (bn 0)))) σ))))))) : A (0, [.ref a0, .int (bn x1), .float 0, .float 0], [], σ) := by
  refine bGo hA 0 0 (0, .iload_n 1, 1, 1, 0, [1], []) rfl rfl rfl ?_
  refine bGo hA 0 1 (1, .bipush (6), 2, 2, 0, [], [(6, 0)]) rfl rfl rfl ?_
  refine bEqI bl_6 ?_
  refine bGo hA 0 2 (3, .ishr, 1, 3, 0, [], []) rfl rfl rfl ?_
  refine bEqI (bn_shr x1 6) ?_
  refine bGo hA 0 3 (4, .istore_n 2, 1, 4, 0, [2], []) rfl rfl rfl ?_
  refine bGo hA 0 4 (5, .iload_n 2, 1, 5, 0, [2], []) rfl rfl rfl ?_
  refine bGo hA 0 5 (6, .ifCond .lt (12), 3, 6, 11, [], []) rfl rfl rfl ?_
  refine bB_lt0 (x := (bShr x1 6)) (bRgI _) (fun c1 => ?_) (fun c1 => ?_)
  · refine bGo hA 0 11 (18, .iconst (0), 1, 12, 0, [], [(0, 0)]) rfl rfl rfl ?_
    refine bEqI bl_0 ?_
    refine bGo hA 0 12 (19, .ireturn, 1, 13, 0, [2], []) rfl rfl rfl ?_
    exact ⟨b01 (Or.inl rfl), (h.1 c1)⟩
  · refine bGo hA 0 6 (9, .iload_n 2, 1, 7, 0, [2], []) rfl rfl rfl ?_
    refine bGo hA 0 7 (10, .aload_n 0, 1, 8, 0, [0], []) rfl rfl rfl ?_
    refine bGo hA 0 8 (11, .getfield 37, 3, 9, 0, [8, 18, 3, 49, 1, 0], []) rfl rfl rfl ?_
    refine ⟨h_a0, ?_⟩
    refine bGo hA 0 9 (14, .arraylength, 1, 10, 0, [], []) rfl rfl rfl ?_
    refine ⟨(h.2 c1).1, ?_⟩
    refine bEqI (bn_nat _).symm ?_
    refine bGo hA 0 10 (15, .if_icmp .lt (5), 3, 11, 13, [], []) rfl rfl rfl ?_
    refine bB_lt (x := (bShr x1 6)) (y := (bLen σ (256 * (1 * (a0 / 256) + 0) + 49) : Int)) (bRgI _) (h.2 c1).2.1 (fun c2 => ?_) (fun c2 => ?_)
    · refine bGo hA 0 13 (20, .aload_n 0, 1, 14, 0, [0], []) rfl rfl rfl ?_
      refine bGo hA 0 14 (21, .getfield 37, 3, 15, 0, [8, 18, 3, 49, 1, 0], []) rfl rfl rfl ?_
      refine ⟨h_a0, ?_⟩
      refine bGo hA 0 15 (24, .iload_n 2, 1, 16, 0, [2], []) rfl rfl rfl ?_
      refine bGo hA 1 0 (25, .laload, 1, 17, 0, [], []) rfl rfl rfl ?_
      refine ⟨((h.2 c1).2.2.1 c2).1, (bIxP (x := (bShr x1 6)) (n := bLen σ (256 * (1 * (a0 / 256) + 0) + 49)) (bRgI _) ((h.2 c1).2.2.1 c2).2.1), ?_⟩
      refine bEqJ (x := (bShr x1 6)) (bRgI _) ?_
      refine bGo hA 1 1 (26, .iload_n 1, 1, 18, 0, [1], []) rfl rfl rfl ?_
      refine bGo hA 1 2 (27, .lshr, 1, 19, 0, [], []) rfl rfl rfl ?_
      refine bGo hA 1 3 (28, .lconst 1, 1, 20, 0, [1], []) rfl rfl rfl ?_
      refine bGo hA 1 4 (29, .land, 1, 21, 0, [], []) rfl rfl rfl ?_
      refine bGo hA 1 5 (30, .lconst 0, 1, 22, 0, [0], []) rfl rfl rfl ?_
      refine bGo hA 1 6 (31, .lcmp, 1, 23, 0, [], []) rfl rfl rfl ?_
      refine bEqI (bn_cmp (((bj σ (256 * (1 * (a0 / 256) + 0) + 49) (bShr x1 6)) >>> (bL x1 &&& 63)) &&& (Int64.ofNat 1)) (Int64.ofNat 0)) ?_
      refine bGo hA 1 7 (32, .ifCond .ne (7), 3, 24, 26, [], []) rfl rfl rfl ?_
      refine bB_eq0 (x := (bCmp (((bj σ (256 * (1 * (a0 / 256) + 0) + 49) (bShr x1 6)) >>> (bL x1 &&& 63)) &&& (Int64.ofNat 1)) (Int64.ofNat 0))) (bRgI _) (fun c3 => ?_) (fun c3 => ?_)
      · refine bGo hA 1 8 (35, .iconst (1), 1, 25, 0, [], [(1, 0)]) rfl rfl rfl ?_
        refine bEqI bl_1 ?_
        refine bGo hA 1 9 (36, .goto (4), 3, 26, 27, [], []) rfl rfl rfl ?_
        refine bGo hA 1 11 (40, .istore_n 3, 1, 28, 0, [3], []) rfl rfl rfl ?_
        refine bGo hA 1 12 (41, .aload_n 0, 1, 29, 0, [0], []) rfl rfl rfl ?_
        refine bGo hA 1 13 (42, .getfield 37, 3, 30, 0, [8, 18, 3, 49, 1, 0], []) rfl rfl rfl ?_
        refine ⟨h_a0, ?_⟩
        refine bGo hA 1 14 (45, .iload_n 2, 1, 31, 0, [2], []) rfl rfl rfl ?_
        refine bGo hA 1 15 (46, .dup2, 1, 32, 0, [], []) rfl rfl rfl ?_
        refine bGo hA 2 0 (47, .laload, 1, 33, 0, [], []) rfl rfl rfl ?_
        refine ⟨((h.2 c1).2.2.1 c2).1, (bIxP (x := (bShr x1 6)) (n := bLen σ (256 * (1 * (a0 / 256) + 0) + 49)) (bRgI _) (((h.2 c1).2.2.1 c2).2.2.1 c3).1), ?_⟩
        refine bEqJ (x := (bShr x1 6)) (bRgI _) ?_
        refine bGo hA 2 1 (48, .lconst 1, 1, 34, 0, [1], []) rfl rfl rfl ?_
        refine bGo hA 2 2 (49, .iload_n 1, 1, 35, 0, [1], []) rfl rfl rfl ?_
        refine bGo hA 2 3 (50, .lshl, 1, 36, 0, [], []) rfl rfl rfl ?_
        refine bGo hA 2 4 (51, .lor, 1, 37, 0, [], []) rfl rfl rfl ?_
        refine bGo hA 2 5 (52, .lastore, 1, 38, 0, [], []) rfl rfl rfl ?_
        refine ⟨((h.2 c1).2.2.1 c2).1, (bIxP (x := (bShr x1 6)) (n := bLen σ (256 * (1 * (a0 / 256) + 0) + 49)) (bRgI _) (((h.2 c1).2.2.1 c2).2.2.1 c3).2.1), (((h.2 c1).2.2.1 c2).2.2.1 c3).2.2.1, ?_⟩
        refine bEqSJ (x := (bShr x1 6)) (bRgI _) ?_
        refine bGo hA 2 6 (53, .iload_n 3, 1, 39, 0, [3], []) rfl rfl rfl ?_
        refine bGo hA 2 7 (54, .ireturn, 1, 0, 0, [2], []) rfl rfl rfl ?_
        exact ⟨b01 (Or.inr rfl), (((h.2 c1).2.2.1 c2).2.2.1 c3).2.2.2⟩
      · refine bGo hA 1 10 (39, .iconst (0), 1, 27, 0, [], [(0, 0)]) rfl rfl rfl ?_
        refine bEqI bl_0 ?_
        refine bGo hA 1 11 (40, .istore_n 3, 1, 28, 0, [3], []) rfl rfl rfl ?_
        refine bGo hA 1 12 (41, .aload_n 0, 1, 29, 0, [0], []) rfl rfl rfl ?_
        refine bGo hA 1 13 (42, .getfield 37, 3, 30, 0, [8, 18, 3, 49, 1, 0], []) rfl rfl rfl ?_
        refine ⟨h_a0, ?_⟩
        refine bGo hA 1 14 (45, .iload_n 2, 1, 31, 0, [2], []) rfl rfl rfl ?_
        refine bGo hA 1 15 (46, .dup2, 1, 32, 0, [], []) rfl rfl rfl ?_
        refine bGo hA 2 0 (47, .laload, 1, 33, 0, [], []) rfl rfl rfl ?_
        refine ⟨((h.2 c1).2.2.1 c2).1, (bIxP (x := (bShr x1 6)) (n := bLen σ (256 * (1 * (a0 / 256) + 0) + 49)) (bRgI _) (((h.2 c1).2.2.1 c2).2.2.2 c3).1), ?_⟩
        refine bEqJ (x := (bShr x1 6)) (bRgI _) ?_
        refine bGo hA 2 1 (48, .lconst 1, 1, 34, 0, [1], []) rfl rfl rfl ?_
        refine bGo hA 2 2 (49, .iload_n 1, 1, 35, 0, [1], []) rfl rfl rfl ?_
        refine bGo hA 2 3 (50, .lshl, 1, 36, 0, [], []) rfl rfl rfl ?_
        refine bGo hA 2 4 (51, .lor, 1, 37, 0, [], []) rfl rfl rfl ?_
        refine bGo hA 2 5 (52, .lastore, 1, 38, 0, [], []) rfl rfl rfl ?_
        refine ⟨((h.2 c1).2.2.1 c2).1, (bIxP (x := (bShr x1 6)) (n := bLen σ (256 * (1 * (a0 / 256) + 0) + 49)) (bRgI _) (((h.2 c1).2.2.1 c2).2.2.2 c3).2.1), (((h.2 c1).2.2.1 c2).2.2.2 c3).2.2.1, ?_⟩
        refine bEqSJ (x := (bShr x1 6)) (bRgI _) ?_
        refine bGo hA 2 6 (53, .iload_n 3, 1, 39, 0, [3], []) rfl rfl rfl ?_
        refine bGo hA 2 7 (54, .ireturn, 1, 0, 0, [2], []) rfl rfl rfl ?_
        exact ⟨b01 (Or.inl rfl), (((h.2 c1).2.2.1 c2).2.2.2 c3).2.2.2⟩
    · refine bGo hA 0 11 (18, .iconst (0), 1, 12, 0, [], [(0, 0)]) rfl rfl rfl ?_
      refine bEqI bl_0 ?_
      refine bGo hA 0 12 (19, .ireturn, 1, 13, 0, [2], []) rfl rfl rfl ?_
      exact ⟨b01 (Or.inl rfl), ((h.2 c1).2.2.2 c2)⟩

theorem sq120_0 {lvl : Nat} {C : bCall} {Q : bPost} {A : bPt → Prop} (hC : bMono C) (hA : bClosed lvl bm120 C Q A) {x1 : Int} {σ : bSt}  (h_x1 : bRg x1)
  (h : ((x1 < 0 → Q (.inl (some (.ref 8))) σ) ∧ (¬ x1 < 0 → ((x1 < 16 → ((0 ≤ x1 ∧ x1 < 16) ∧ ((br σ 50 x1 = none → Q (.inl (some (.ref 8))) σ) ∧ (∀ z3 : Nat, br σ 50 x1 = some z3 → Q (.inl (some (.ref z3))) σ)))) ∧ (¬ x1 < 16 → Q (.inl (some (.ref 8))) σ))))) : A (0, [.ref 9, .int (bn x1), .float 0], [], σ) := by
  refine bGo hA 0 0 (0, .iload_n 1, 1, 1, 0, [1], []) rfl rfl rfl ?_
  refine bGo hA 0 1 (1, .ifCond .lt (21), 3, 2, 12, [], []) rfl rfl rfl ?_
  refine bB_lt0 (x := x1) h_x1 (fun c1 => ?_) (fun c1 => ?_)
  · refine bGo hA 0 12 (22, .aconst_null, 1, 13, 0, [], []) rfl rfl rfl ?_
    refine bGo hA 0 13 (23, .astore_n 2, 1, 14, 0, [2], []) rfl rfl rfl ?_
    refine bGo hA 0 14 (24, .aload_n 2, 1, 15, 0, [2], []) rfl rfl rfl ?_
    refine bGo hA 0 15 (25, .ifnonnull (10), 3, 16, 19, [], []) rfl rfl rfl ?_
    refine bGo hA 1 0 (28, .aload_n 0, 1, 17, 0, [0], []) rfl rfl rfl ?_
    refine bGo hA 1 1 (29, .getfield 20, 3, 18, 0, [9, 2, 3, 8, 0, 0], []) rfl rfl rfl ?_
    refine ⟨rfl, ?_⟩
    refine bGo hA 1 2 (32, .goto (4), 3, 19, 20, [], []) rfl rfl rfl ?_
    refine bGo hA 1 4 (36, .areturn, 1, 0, 0, [4], []) rfl rfl rfl ?_
    exact (h.1 c1)
  · refine bGo hA 0 2 (4, .iload_n 1, 1, 3, 0, [1], []) rfl rfl rfl ?_
    refine bGo hA 0 3 (5, .aload_n 0, 1, 4, 0, [0], []) rfl rfl rfl ?_
    refine bGo hA 0 4 (6, .getfield 11, 3, 5, 0, [9, 1, 3, 50, 1, 0], []) rfl rfl rfl ?_
    refine ⟨rfl, ?_⟩
    refine bGo hA 0 5 (9, .arraylength, 1, 6, 0, [], []) rfl rfl rfl ?_
    refine ⟨by decide, ?_⟩
    refine bEqI (bn_nat 16).symm ?_
    refine bGo hA 0 6 (10, .if_icmp .ge (12), 3, 7, 12, [], []) rfl rfl rfl ?_
    refine bB_lt (x := x1) (y := 16) h_x1 (by decide : bRg 16) (fun c2 => ?_) (fun c2 => ?_)
    · refine bGo hA 0 7 (13, .aload_n 0, 1, 8, 0, [0], []) rfl rfl rfl ?_
      refine bGo hA 0 8 (14, .getfield 11, 3, 9, 0, [9, 1, 3, 50, 1, 0], []) rfl rfl rfl ?_
      refine ⟨rfl, ?_⟩
      refine bGo hA 0 9 (17, .iload_n 1, 1, 10, 0, [1], []) rfl rfl rfl ?_
      refine bGo hA 0 10 (18, .aaload, 1, 11, 0, [18, 8], []) rfl rfl rfl ?_
      refine ⟨rfl, (bIxP (x := x1) (n := 16) h_x1 ((h.2 c1).1 c2).1), ?_⟩
      refine bOptX (P := fun v => A (11, [.ref 9, .int (bn x1), .float 0], v :: [], σ)) (a := 50) (x := x1) h_x1 (fun c4 => ?_) (fun z3 c4 => ?_)
      · refine bGo hA 0 11 (19, .goto (4), 3, 12, 13, [], []) rfl rfl rfl ?_
        refine bGo hA 0 13 (23, .astore_n 2, 1, 14, 0, [2], []) rfl rfl rfl ?_
        refine bGo hA 0 14 (24, .aload_n 2, 1, 15, 0, [2], []) rfl rfl rfl ?_
        refine bGo hA 0 15 (25, .ifnonnull (10), 3, 16, 19, [], []) rfl rfl rfl ?_
        refine bGo hA 1 0 (28, .aload_n 0, 1, 17, 0, [0], []) rfl rfl rfl ?_
        refine bGo hA 1 1 (29, .getfield 20, 3, 18, 0, [9, 2, 3, 8, 0, 0], []) rfl rfl rfl ?_
        refine ⟨rfl, ?_⟩
        refine bGo hA 1 2 (32, .goto (4), 3, 19, 20, [], []) rfl rfl rfl ?_
        refine bGo hA 1 4 (36, .areturn, 1, 0, 0, [4], []) rfl rfl rfl ?_
        exact (((h.2 c1).1 c2).2.1 c4)
      · refine bGo hA 0 11 (19, .goto (4), 3, 12, 13, [], []) rfl rfl rfl ?_
        refine bGo hA 0 13 (23, .astore_n 2, 1, 14, 0, [2], []) rfl rfl rfl ?_
        refine bGo hA 0 14 (24, .aload_n 2, 1, 15, 0, [2], []) rfl rfl rfl ?_
        refine bGo hA 0 15 (25, .ifnonnull (10), 3, 16, 19, [], []) rfl rfl rfl ?_
        refine bGo hA 1 3 (35, .aload_n 2, 1, 20, 0, [2], []) rfl rfl rfl ?_
        refine bGo hA 1 4 (36, .areturn, 1, 0, 0, [4], []) rfl rfl rfl ?_
        exact (((h.2 c1).1 c2).2.2 z3 c4)
    · refine bGo hA 0 12 (22, .aconst_null, 1, 13, 0, [], []) rfl rfl rfl ?_
      refine bGo hA 0 13 (23, .astore_n 2, 1, 14, 0, [2], []) rfl rfl rfl ?_
      refine bGo hA 0 14 (24, .aload_n 2, 1, 15, 0, [2], []) rfl rfl rfl ?_
      refine bGo hA 0 15 (25, .ifnonnull (10), 3, 16, 19, [], []) rfl rfl rfl ?_
      refine bGo hA 1 0 (28, .aload_n 0, 1, 17, 0, [0], []) rfl rfl rfl ?_
      refine bGo hA 1 1 (29, .getfield 20, 3, 18, 0, [9, 2, 3, 8, 0, 0], []) rfl rfl rfl ?_
      refine ⟨rfl, ?_⟩
      refine bGo hA 1 2 (32, .goto (4), 3, 19, 20, [], []) rfl rfl rfl ?_
      refine bGo hA 1 4 (36, .areturn, 1, 0, 0, [4], []) rfl rfl rfl ?_
      exact ((h.2 c1).2 c2)

theorem sq121_0 {lvl : Nat} {C : bCall} {Q : bPost} {A : bPt → Prop} (hC : bMono C) (hA : bClosed lvl bm121 C Q A) {x1 : Int} {x2 : Int} {x3 : Int} {σ : bSt}  (h_x1 : bRg x1) (h_x2 : bRg x2) (h_x3 : bRg x3)
  (h : (((bi σ 9 0) < 16 → (σ.2.2.2.1 (256 * ((bi σ 9 0).toNat + 1) + 8) = 0 ∧ ((256 * ((bi σ 9 0).toNat + 1) + 8) % 256 = 8 ∧ (C 109 [.retAddr (256 * ((bi σ 9 0).toNat + 1) + 8), .int (bn x1), .int (bn x2), .int (bn x3)] (bNew σ (256 * ((bi σ 9 0).toNat + 1) + 8) 1 19) (bRv (fun s2 => (s2.2.2.2.1 (256 * ((bi σ 9 0).toNat + 1) + 8) = 2 ∧ ((0 ≤ (bi σ 9 0) ∧ (bi σ 9 0) < 16) ∧ (bRg ((bi s2 9 0) + 1) ∧ (bRg (((bi s2 9 0) + 1) - 1) ∧ Q (.inl (some (.int (bn (((bi s2 9 0) + 1) - 1))))) (bw (bwr s2 50 (bi σ 9 0) (some (256 * ((bi σ 9 0).toNat + 1) + 8))) 9 0 ((bi s2 9 0) + 1)))))))))))) ∧ (¬ (bi σ 9 0) < 16 → (bRg ((bi σ 9 0) - 1) ∧ Q (.inl (some (.int (bn ((bi σ 9 0) - 1))))) σ)))) : A (0, [.ref 9, .int (bn x1), .int (bn x2), .int (bn x3)], [], σ) := by
  refine bGo hA 0 0 (0, .aload_n 0, 1, 1, 0, [0], []) rfl rfl rfl ?_
  refine bGo hA 0 1 (1, .getfield 28, 3, 2, 0, [9, 0, 0, 0, 0, 0], []) rfl rfl rfl ?_
  refine ⟨rfl, ?_⟩
  refine bEqI (bn_bi σ 9 0) ?_
  refine bGo hA 0 2 (4, .aload_n 0, 1, 3, 0, [0], []) rfl rfl rfl ?_
  refine bGo hA 0 3 (5, .getfield 11, 3, 4, 0, [9, 1, 3, 50, 1, 0], []) rfl rfl rfl ?_
  refine ⟨rfl, ?_⟩
  refine bGo hA 0 4 (8, .arraylength, 1, 5, 0, [], []) rfl rfl rfl ?_
  refine ⟨by decide, ?_⟩
  refine bEqI (bn_nat 16).symm ?_
  refine bGo hA 0 5 (9, .if_icmp .ge (32), 3, 6, 23, [], []) rfl rfl rfl ?_
  refine bB_lt (x := (bi σ 9 0)) (y := 16) (bi_rg _ _ _) (by decide : bRg 16) (fun c1 => ?_) (fun c1 => ?_)
  · refine bGo hA 0 6 (12, .aload_n 0, 1, 7, 0, [0], []) rfl rfl rfl ?_
    refine bGo hA 0 7 (13, .getfield 11, 3, 8, 0, [9, 1, 3, 50, 1, 0], []) rfl rfl rfl ?_
    refine ⟨rfl, ?_⟩
    refine bGo hA 0 8 (16, .aload_n 0, 1, 9, 0, [0], []) rfl rfl rfl ?_
    refine bGo hA 0 9 (17, .getfield 28, 3, 10, 0, [9, 0, 0, 0, 0, 0], []) rfl rfl rfl ?_
    refine ⟨rfl, ?_⟩
    refine bEqI (bn_bi σ 9 0) ?_
    refine bGo hA 0 10 (20, .new 9, 3, 11, 0, [2, 8, 19, 9, 0], []) rfl rfl rfl ?_
    refine ⟨(h.1 c1).1, ?_⟩
    refine bGo hA 0 11 (23, .dup, 1, 12, 0, [], []) rfl rfl rfl ?_
    refine bGo hA 0 12 (24, .iload_n 1, 1, 13, 0, [1], []) rfl rfl rfl ?_
    refine bGo hA 0 13 (25, .iload_n 2, 1, 14, 0, [2], []) rfl rfl rfl ?_
    refine bGo hA 0 14 (26, .iload_n 3, 1, 15, 0, [3], []) rfl rfl rfl ?_
    refine bGo hA 0 15 (27, .invokespecial 17, 3, 16, 0, [4, 8, 109, 3], []) rfl rfl rfl ?_
    refine ⟨(h.1 c1).2.1, rfl, ?_⟩
    refine hC _ _ _ _ _ (bRv_e (fun s2 k3 => ?_)) (h.1 c1).2.2
    refine ⟨⟨rfl, k3.1⟩, ?_⟩
    show A (16, [.ref 9, .int (bn x1), .int (bn x2), .int (bn x3)], [.ref (256 * ((bi σ 9 0).toNat + 1) + 8), .int (bn (bi σ 9 0)), .ref 50], s2)
    refine bGo hA 1 0 (30, .aastore, 1, 17, 0, [18, 8], []) rfl rfl rfl ?_
    refine ⟨rfl, (bIxP (x := (bi σ 9 0)) (n := 16) (bi_rg _ _ _) k3.2.1), by decide, (fun _ h => by cases h; exact (h.1 c1).2.1), ?_⟩
    refine bEqSR (x := (bi σ 9 0)) (bi_rg _ _ _) ?_
    refine bGo hA 1 1 (31, .aload_n 0, 1, 18, 0, [0], []) rfl rfl rfl ?_
    refine bGo hA 1 2 (32, .dup, 1, 19, 0, [], []) rfl rfl rfl ?_
    refine bGo hA 1 3 (33, .getfield 28, 3, 20, 0, [9, 0, 0, 0, 0, 0], []) rfl rfl rfl ?_
    refine ⟨rfl, ?_⟩
    refine bEqI ((bn_bi (bwr s2 50 (bi σ 9 0) (some (256 * ((bi σ 9 0).toNat + 1) + 8))) 9 0).trans (congrArg bn bi_bwr)) ?_
    refine bGo hA 1 4 (36, .iconst (1), 1, 21, 0, [], [(1, 0)]) rfl rfl rfl ?_
    refine bEqI bl_1 ?_
    refine bGo hA 1 5 (37, .iadd, 1, 22, 0, [], []) rfl rfl rfl ?_
    refine bEqI (bn_add (bi s2 9 0) 1) ?_
    refine bGo hA 1 6 (38, .putfield 28, 3, 23, 0, [9, 0, 0, 0, 0, 0], []) rfl rfl rfl ?_
    refine ⟨rfl, ?_⟩
    refine bGo hA 1 7 (41, .aload_n 0, 1, 24, 0, [0], []) rfl rfl rfl ?_
    refine bGo hA 1 8 (42, .getfield 28, 3, 25, 0, [9, 0, 0, 0, 0, 0], []) rfl rfl rfl ?_
    refine ⟨rfl, ?_⟩
    refine bEqI ((bn_bi (bw (bwr s2 50 (bi σ 9 0) (some (256 * ((bi σ 9 0).toNat + 1) + 8))) 9 0 ((bi s2 9 0) + 1)) 9 0).trans (congrArg bn (bi_eq k3.2.2.1))) ?_
    refine bGo hA 1 9 (45, .iconst (1), 1, 26, 0, [], [(1, 0)]) rfl rfl rfl ?_
    refine bEqI bl_1 ?_
    refine bGo hA 1 10 (46, .isub, 1, 27, 0, [], []) rfl rfl rfl ?_
    refine bEqI (bn_sub ((bi s2 9 0) + 1) 1) ?_
    refine bGo hA 1 11 (47, .ireturn, 1, 0, 0, [1], []) rfl rfl rfl ?_
    exact k3.2.2.2.2
  · refine bGo hA 1 7 (41, .aload_n 0, 1, 24, 0, [0], []) rfl rfl rfl ?_
    refine bGo hA 1 8 (42, .getfield 28, 3, 25, 0, [9, 0, 0, 0, 0, 0], []) rfl rfl rfl ?_
    refine ⟨rfl, ?_⟩
    refine bEqI (bn_bi σ 9 0) ?_
    refine bGo hA 1 9 (45, .iconst (1), 1, 26, 0, [], [(1, 0)]) rfl rfl rfl ?_
    refine bEqI bl_1 ?_
    refine bGo hA 1 10 (46, .isub, 1, 27, 0, [], []) rfl rfl rfl ?_
    refine bEqI (bn_sub (bi σ 9 0) 1) ?_
    refine bGo hA 1 11 (47, .ireturn, 1, 0, 0, [1], []) rfl rfl rfl ?_
    exact (h.2 c1).2

theorem sq156_0 {lvl : Nat} {C : bCall} {Q : bPost} {A : bPt → Prop} (hC : bMono C) (hA : bClosed lvl bm156 C Q A) {x1 : Int} {x2 : Int} {x3 : Int} {σ : bSt}  (h_x1 : bRg x1) (h_x2 : bRg x2) (h_x3 : bRg x3)
  (h : (C 136 [.int (bn x1), .int (bn 6)] σ (bRvx (fun s1 => (C 138 [.int (bn x2), .int (bn 0), .int (bn 5)] s1 (bRvx (fun s3 => (C 138 [.int (bn x3), .int (bn 0), .int (bn 999)] s3 (bRvx (fun s5 => (((bi s5 9 0) < 16 → (C 139 [.int (bn 1)] s5 (bRvx (fun s8 => (C 121 [.ref 9, .int (bn x1), .int (bn x2), .int (bn x3)] s8 (bRn (fun r12 s10 => Q (.inl (some (.int (bn r12)))) s10)))) (fun E s8 => Q (.inr E) s8)))) ∧ (¬ (bi s5 9 0) < 16 → (C 139 [.int (bn 0)] s5 (bRvx (fun s14 => (C 121 [.ref 9, .int (bn x1), .int (bn x2), .int (bn x3)] s14 (bRn (fun r18 s16 => Q (.inl (some (.int (bn r18)))) s16)))) (fun E s14 => Q (.inr E) s14)))))) (fun E s5 => Q (.inr E) s5)))) (fun E s3 => Q (.inr E) s3)))) (fun E s1 => Q (.inr E) s1)))) : A (0, [.ref 11, .int (bn x1), .int (bn x2), .int (bn x3)], [], σ) := by
  refine bGo hA 0 0 (0, .iload_n 1, 1, 1, 0, [1], []) rfl rfl rfl ?_
  refine bGo hA 0 1 (1, .bipush (6), 2, 2, 0, [], [(6, 0)]) rfl rfl rfl ?_
  refine bEqI bl_6 ?_
  refine bGo hA 0 2 (3, .invokestatic 76, 3, 3, 0, [2, 136, 2], []) rfl rfl rfl ?_
  refine hC _ _ _ _ _ (bRvx_e (fun s1 k2 => ?_) (fun E s1 k2 => ?_)) h
  · show A (3, [.ref 11, .int (bn x1), .int (bn x2), .int (bn x3)], [], s1)
    refine bGo hA 0 3 (6, .iload_n 2, 1, 4, 0, [2], []) rfl rfl rfl ?_
    refine bGo hA 0 4 (7, .iconst (0), 1, 5, 0, [], [(0, 0)]) rfl rfl rfl ?_
    refine bEqI bl_0 ?_
    refine bGo hA 0 5 (8, .iconst (5), 1, 6, 0, [], [(5, 0)]) rfl rfl rfl ?_
    refine bEqI bl_5 ?_
    refine bGo hA 0 6 (9, .invokestatic 80, 3, 7, 0, [2, 138, 3], []) rfl rfl rfl ?_
    refine hC _ _ _ _ _ (bRvx_e (fun s3 k4 => ?_) (fun E s3 k4 => ?_)) k2
    · show A (7, [.ref 11, .int (bn x1), .int (bn x2), .int (bn x3)], [], s3)
      refine bGo hA 0 7 (12, .iload_n 3, 1, 8, 0, [3], []) rfl rfl rfl ?_
      refine bGo hA 0 8 (13, .iconst (0), 1, 9, 0, [], [(0, 0)]) rfl rfl rfl ?_
      refine bEqI bl_0 ?_
      refine bGo hA 0 9 (14, .sipush (999), 3, 10, 0, [], [(999, 0)]) rfl rfl rfl ?_
      refine bEqI bl_999 ?_
      refine bGo hA 0 10 (17, .invokestatic 80, 3, 11, 0, [2, 138, 3], []) rfl rfl rfl ?_
      refine hC _ _ _ _ _ (bRvx_e (fun s5 k6 => ?_) (fun E s5 k6 => ?_)) k4
      · show A (11, [.ref 11, .int (bn x1), .int (bn x2), .int (bn x3)], [], s5)
        refine bGo hA 0 11 (20, .aload_n 0, 1, 12, 0, [0], []) rfl rfl rfl ?_
        refine bGo hA 0 12 (21, .getfield 33, 3, 13, 0, [11, 3, 3, 9, 0, 0], []) rfl rfl rfl ?_
        refine ⟨rfl, ?_⟩
        refine bGo hA 0 13 (24, .getfield 144, 3, 14, 0, [9, 0, 0, 0, 0, 0], []) rfl rfl rfl ?_
        refine ⟨rfl, ?_⟩
        refine bEqI (bn_bi s5 9 0) ?_
        refine bGo hA 0 14 (27, .bipush (16), 2, 15, 0, [], [(16, 0)]) rfl rfl rfl ?_
        refine bEqI bl_16 ?_
        refine bGo hA 0 15 (29, .if_icmp .ge (7), 3, 16, 18, [], []) rfl rfl rfl ?_
        refine bB_lt (x := (bi s5 9 0)) (y := 16) (bi_rg _ _ _) (by decide : bRg 16) (fun c7 => ?_) (fun c7 => ?_)
        · refine bGo hA 1 0 (32, .iconst (1), 1, 17, 0, [], [(1, 0)]) rfl rfl rfl ?_
          refine bEqI bl_1 ?_
          refine bGo hA 1 1 (33, .goto (4), 3, 18, 19, [], []) rfl rfl rfl ?_
          refine bGo hA 1 3 (37, .invokestatic 88, 3, 20, 0, [2, 139, 1], []) rfl rfl rfl ?_
          refine hC _ _ _ _ _ (bRvx_e (fun s8 k9 => ?_) (fun E s8 k9 => ?_)) (k6.1 c7)
          · show A (20, [.ref 11, .int (bn x1), .int (bn x2), .int (bn x3)], [], s8)
            refine bGo hA 1 4 (40, .aload_n 0, 1, 21, 0, [0], []) rfl rfl rfl ?_
            refine bGo hA 1 5 (41, .getfield 33, 3, 22, 0, [11, 3, 3, 9, 0, 0], []) rfl rfl rfl ?_
            refine ⟨rfl, ?_⟩
            refine bGo hA 1 6 (44, .iload_n 1, 1, 23, 0, [1], []) rfl rfl rfl ?_
            refine bGo hA 1 7 (45, .iload_n 2, 1, 24, 0, [2], []) rfl rfl rfl ?_
            refine bGo hA 1 8 (46, .iload_n 3, 1, 25, 0, [3], []) rfl rfl rfl ?_
            refine bGo hA 1 9 (47, .invokevirtual 145, 3, 26, 0, [0, 9, 121, 3], []) rfl rfl rfl ?_
            refine ⟨rfl, ?_⟩
            refine hC _ _ _ _ _ (bRn_e (fun r12 s10 q13 k11 => ?_)) k9
            show A (26, [.ref 11, .int (bn x1), .int (bn x2), .int (bn x3)], [.int (bn r12)], s10)
            refine bGo hA 1 10 (50, .ireturn, 1, 0, 0, [1], []) rfl rfl rfl ?_
            exact k11
          · exact k9
        · refine bGo hA 1 2 (36, .iconst (0), 1, 19, 0, [], [(0, 0)]) rfl rfl rfl ?_
          refine bEqI bl_0 ?_
          refine bGo hA 1 3 (37, .invokestatic 88, 3, 20, 0, [2, 139, 1], []) rfl rfl rfl ?_
          refine hC _ _ _ _ _ (bRvx_e (fun s14 k15 => ?_) (fun E s14 k15 => ?_)) (k6.2 c7)
          · show A (20, [.ref 11, .int (bn x1), .int (bn x2), .int (bn x3)], [], s14)
            refine bGo hA 1 4 (40, .aload_n 0, 1, 21, 0, [0], []) rfl rfl rfl ?_
            refine bGo hA 1 5 (41, .getfield 33, 3, 22, 0, [11, 3, 3, 9, 0, 0], []) rfl rfl rfl ?_
            refine ⟨rfl, ?_⟩
            refine bGo hA 1 6 (44, .iload_n 1, 1, 23, 0, [1], []) rfl rfl rfl ?_
            refine bGo hA 1 7 (45, .iload_n 2, 1, 24, 0, [2], []) rfl rfl rfl ?_
            refine bGo hA 1 8 (46, .iload_n 3, 1, 25, 0, [3], []) rfl rfl rfl ?_
            refine bGo hA 1 9 (47, .invokevirtual 145, 3, 26, 0, [0, 9, 121, 3], []) rfl rfl rfl ?_
            refine ⟨rfl, ?_⟩
            refine hC _ _ _ _ _ (bRn_e (fun r18 s16 q19 k17 => ?_)) k15
            show A (26, [.ref 11, .int (bn x1), .int (bn x2), .int (bn x3)], [.int (bn r18)], s16)
            refine bGo hA 1 10 (50, .ireturn, 1, 0, 0, [1], []) rfl rfl rfl ?_
            exact k17
          · exact k15
      · exact k6
    · exact k4
  · exact k2

theorem sq157_0 {lvl : Nat} {C : bCall} {Q : bPost} {A : bPt → Prop} (hC : bMono C) (hA : bClosed lvl bm157 C Q A) {x1 : Int} {x2 : Int} {x3 : Int} {σ : bSt}  (h_x1 : bRg x1) (h_x2 : bRg x2) (h_x3 : bRg x3)
  (h : (C 136 [.int (bn x1), .int (bn (bi σ 9 0))] σ (bRvx (fun s1 => (C 136 [.int (bn x2), .int (bn 6)] s1 (bRvx (fun s3 => (C 136 [.int (bn x3), .int (bn 8)] s3 (bRvx (fun s5 => (C 120 [.ref 9, .int (bn x1)] s5 (bRa (fun r9 s7 => (bRg (x2 * 8) ∧ (bRg ((x2 * 8) + x3) ∧ (r9 % 256 = 8 ∧ Q (.inl none) (bw s7 r9 3 ((x2 * 8) + x3))))))))) (fun E s5 => Q (.inr E) s5)))) (fun E s3 => Q (.inr E) s3)))) (fun E s1 => Q (.inr E) s1)))) : A (0, [.ref 11, .int (bn x1), .int (bn x2), .int (bn x3)], [], σ) := by
  refine bGo hA 0 0 (0, .iload_n 1, 1, 1, 0, [1], []) rfl rfl rfl ?_
  refine bGo hA 0 1 (1, .aload_n 0, 1, 2, 0, [0], []) rfl rfl rfl ?_
  refine bGo hA 0 2 (2, .getfield 33, 3, 3, 0, [11, 3, 3, 9, 0, 0], []) rfl rfl rfl ?_
  refine ⟨rfl, ?_⟩
  refine bGo hA 0 3 (5, .getfield 144, 3, 4, 0, [9, 0, 0, 0, 0, 0], []) rfl rfl rfl ?_
  refine ⟨rfl, ?_⟩
  refine bEqI (bn_bi σ 9 0) ?_
  refine bGo hA 0 4 (8, .invokestatic 76, 3, 5, 0, [2, 136, 2], []) rfl rfl rfl ?_
  refine hC _ _ _ _ _ (bRvx_e (fun s1 k2 => ?_) (fun E s1 k2 => ?_)) h
  · show A (5, [.ref 11, .int (bn x1), .int (bn x2), .int (bn x3)], [], s1)
    refine bGo hA 0 5 (11, .iload_n 2, 1, 6, 0, [2], []) rfl rfl rfl ?_
    refine bGo hA 0 6 (12, .bipush (6), 2, 7, 0, [], [(6, 0)]) rfl rfl rfl ?_
    refine bEqI bl_6 ?_
    refine bGo hA 0 7 (14, .invokestatic 76, 3, 8, 0, [2, 136, 2], []) rfl rfl rfl ?_
    refine hC _ _ _ _ _ (bRvx_e (fun s3 k4 => ?_) (fun E s3 k4 => ?_)) k2
    · show A (8, [.ref 11, .int (bn x1), .int (bn x2), .int (bn x3)], [], s3)
      refine bGo hA 0 8 (17, .iload_n 3, 1, 9, 0, [3], []) rfl rfl rfl ?_
      refine bGo hA 0 9 (18, .bipush (8), 2, 10, 0, [], [(8, 0)]) rfl rfl rfl ?_
      refine bEqI bl_8 ?_
      refine bGo hA 0 10 (20, .invokestatic 76, 3, 11, 0, [2, 136, 2], []) rfl rfl rfl ?_
      refine hC _ _ _ _ _ (bRvx_e (fun s5 k6 => ?_) (fun E s5 k6 => ?_)) k4
      · show A (11, [.ref 11, .int (bn x1), .int (bn x2), .int (bn x3)], [], s5)
        refine bGo hA 0 11 (23, .aload_n 0, 1, 12, 0, [0], []) rfl rfl rfl ?_
        refine bGo hA 0 12 (24, .getfield 33, 3, 13, 0, [11, 3, 3, 9, 0, 0], []) rfl rfl rfl ?_
        refine ⟨rfl, ?_⟩
        refine bGo hA 0 13 (27, .iload_n 1, 1, 14, 0, [1], []) rfl rfl rfl ?_
        refine bGo hA 0 14 (28, .invokevirtual 147, 3, 15, 0, [0, 9, 120, 1], []) rfl rfl rfl ?_
        refine ⟨rfl, ?_⟩
        refine hC _ _ _ _ _ (bRa_e (fun r9 s7 k8 => ?_)) k6
        show A (15, [.ref 11, .int (bn x1), .int (bn x2), .int (bn x3)], [.ref r9], s7)
        refine bGo hA 0 15 (31, .iload_n 2, 1, 16, 0, [2], []) rfl rfl rfl ?_
        refine bGo hA 1 0 (32, .bipush (8), 2, 17, 0, [], [(8, 0)]) rfl rfl rfl ?_
        refine bEqI bl_8 ?_
        refine bGo hA 1 1 (34, .imul, 1, 18, 0, [], []) rfl rfl rfl ?_
        refine bEqI (bn_mul x2 8) ?_
        refine bGo hA 1 2 (35, .iload_n 3, 1, 19, 0, [3], []) rfl rfl rfl ?_
        refine bGo hA 1 3 (36, .iadd, 1, 20, 0, [], []) rfl rfl rfl ?_
        refine bEqI (bn_add (x2 * 8) x3) ?_
        refine bGo hA 1 4 (37, .putfield 151, 3, 21, 0, [8, 3, 0, 0, 0, 0], []) rfl rfl rfl ?_
        refine ⟨k8.2.2.1, ?_⟩
        refine bGo hA 1 5 (40, .return_, 1, 0, 0, [0], []) rfl rfl rfl ?_
        exact k8.2.2.2
      · exact k6
    · exact k4
  · exact k2

theorem sq158_0 {lvl : Nat} {C : bCall} {Q : bPost} {A : bPt → Prop} (hC : bMono C) (hA : bClosed lvl bm158 C Q A) {x1 : Int} {x2 : Int} {x3 : Int} {x4 : Int} {σ : bSt}  (h_x1 : bRg x1) (h_x2 : bRg x2) (h_x3 : bRg x3) (h_x4 : bRg x4)
  (h : (C 136 [.int (bn x1), .int (bn (bi σ 9 0))] σ (bRvx (fun s1 => (C 136 [.int (bn x2), .int (bn 4)] s1 (bRvx (fun s3 => (C 138 [.int (bn x3), .int (bn 0), .int (bn 3)] s3 (bRvx (fun s5 => (C 138 [.int (bn x4), .int (bn 0), .int (bn 999)] s5 (bRvx (fun s7 => (C 120 [.ref 9, .int (bn x1)] s7 (bRa (fun r11 s9 => (r11 % 256 = 8 ∧ (((bi s9 r11 14) < 4 → (C 139 [.int (bn 1)] s9 (bRvx (fun s13 => (C 120 [.ref 9, .int (bn x1)] s13 (bRa (fun r17 s15 => (r17 % 256 = 8 ∧ (C 113 [.ref r17, .int (bn x2), .int (bn x3), .int (bn x4)] s15 (bRn (fun r20 s18 => Q (.inl (some (.int (bn r20)))) s18)))))))) (fun E s13 => Q (.inr E) s13)))) ∧ (¬ (bi s9 r11 14) < 4 → (C 139 [.int (bn 0)] s9 (bRvx (fun s22 => (C 120 [.ref 9, .int (bn x1)] s22 (bRa (fun r26 s24 => (r26 % 256 = 8 ∧ (C 113 [.ref r26, .int (bn x2), .int (bn x3), .int (bn x4)] s24 (bRn (fun r29 s27 => Q (.inl (some (.int (bn r29)))) s27)))))))) (fun E s22 => Q (.inr E) s22)))))))))) (fun E s7 => Q (.inr E) s7)))) (fun E s5 => Q (.inr E) s5)))) (fun E s3 => Q (.inr E) s3)))) (fun E s1 => Q (.inr E) s1)))) : A (0, [.ref 11, .int (bn x1), .int (bn x2), .int (bn x3), .int (bn x4)], [], σ) := by
  refine bGo hA 0 0 (0, .iload_n 1, 1, 1, 0, [1], []) rfl rfl rfl ?_
  refine bGo hA 0 1 (1, .aload_n 0, 1, 2, 0, [0], []) rfl rfl rfl ?_
  refine bGo hA 0 2 (2, .getfield 33, 3, 3, 0, [11, 3, 3, 9, 0, 0], []) rfl rfl rfl ?_
  refine ⟨rfl, ?_⟩
  refine bGo hA 0 3 (5, .getfield 144, 3, 4, 0, [9, 0, 0, 0, 0, 0], []) rfl rfl rfl ?_
  refine ⟨rfl, ?_⟩
  refine bEqI (bn_bi σ 9 0) ?_
  refine bGo hA 0 4 (8, .invokestatic 76, 3, 5, 0, [2, 136, 2], []) rfl rfl rfl ?_
  refine hC _ _ _ _ _ (bRvx_e (fun s1 k2 => ?_) (fun E s1 k2 => ?_)) h
  · show A (5, [.ref 11, .int (bn x1), .int (bn x2), .int (bn x3), .int (bn x4)], [], s1)
    refine bGo hA 0 5 (11, .iload_n 2, 1, 6, 0, [2], []) rfl rfl rfl ?_
    refine bGo hA 0 6 (12, .iconst (4), 1, 7, 0, [], [(4, 0)]) rfl rfl rfl ?_
    refine bEqI bl_4 ?_
    refine bGo hA 0 7 (13, .invokestatic 76, 3, 8, 0, [2, 136, 2], []) rfl rfl rfl ?_
    refine hC _ _ _ _ _ (bRvx_e (fun s3 k4 => ?_) (fun E s3 k4 => ?_)) k2
    · show A (8, [.ref 11, .int (bn x1), .int (bn x2), .int (bn x3), .int (bn x4)], [], s3)
      refine bGo hA 0 8 (16, .iload_n 3, 1, 9, 0, [3], []) rfl rfl rfl ?_
      refine bGo hA 0 9 (17, .iconst (0), 1, 10, 0, [], [(0, 0)]) rfl rfl rfl ?_
      refine bEqI bl_0 ?_
      refine bGo hA 0 10 (18, .iconst (3), 1, 11, 0, [], [(3, 0)]) rfl rfl rfl ?_
      refine bEqI bl_3 ?_
      refine bGo hA 0 11 (19, .invokestatic 80, 3, 12, 0, [2, 138, 3], []) rfl rfl rfl ?_
      refine hC _ _ _ _ _ (bRvx_e (fun s5 k6 => ?_) (fun E s5 k6 => ?_)) k4
      · show A (12, [.ref 11, .int (bn x1), .int (bn x2), .int (bn x3), .int (bn x4)], [], s5)
        refine bGo hA 0 12 (22, .iload 4, 2, 13, 0, [4], []) rfl rfl rfl ?_
        refine bGo hA 0 13 (24, .iconst (0), 1, 14, 0, [], [(0, 0)]) rfl rfl rfl ?_
        refine bEqI bl_0 ?_
        refine bGo hA 0 14 (25, .sipush (999), 3, 15, 0, [], [(999, 0)]) rfl rfl rfl ?_
        refine bEqI bl_999 ?_
        refine bGo hA 0 15 (28, .invokestatic 80, 3, 16, 0, [2, 138, 3], []) rfl rfl rfl ?_
        refine hC _ _ _ _ _ (bRvx_e (fun s7 k8 => ?_) (fun E s7 k8 => ?_)) k6
        · show A (16, [.ref 11, .int (bn x1), .int (bn x2), .int (bn x3), .int (bn x4)], [], s7)
          refine bGo hA 1 0 (31, .aload_n 0, 1, 17, 0, [0], []) rfl rfl rfl ?_
          refine bGo hA 1 1 (32, .getfield 33, 3, 18, 0, [11, 3, 3, 9, 0, 0], []) rfl rfl rfl ?_
          refine ⟨rfl, ?_⟩
          refine bGo hA 1 2 (35, .iload_n 1, 1, 19, 0, [1], []) rfl rfl rfl ?_
          refine bGo hA 1 3 (36, .invokevirtual 147, 3, 20, 0, [0, 9, 120, 1], []) rfl rfl rfl ?_
          refine ⟨rfl, ?_⟩
          refine hC _ _ _ _ _ (bRa_e (fun r11 s9 k10 => ?_)) k8
          show A (20, [.ref 11, .int (bn x1), .int (bn x2), .int (bn x3), .int (bn x4)], [.ref r11], s9)
          refine bGo hA 1 4 (39, .getfield 156, 3, 21, 0, [8, 14, 0, 0, 0, 0], []) rfl rfl rfl ?_
          refine ⟨k10.1, ?_⟩
          refine bEqI (bn_bi s9 r11 14) ?_
          refine bGo hA 1 5 (42, .iconst (4), 1, 22, 0, [], [(4, 0)]) rfl rfl rfl ?_
          refine bEqI bl_4 ?_
          refine bGo hA 1 6 (43, .if_icmp .ge (7), 3, 23, 25, [], []) rfl rfl rfl ?_
          refine bB_lt (x := (bi s9 r11 14)) (y := 4) (bi_rg _ _ _) (by decide : bRg 4) (fun c12 => ?_) (fun c12 => ?_)
          · refine bGo hA 1 7 (46, .iconst (1), 1, 24, 0, [], [(1, 0)]) rfl rfl rfl ?_
            refine bEqI bl_1 ?_
            refine bGo hA 1 8 (47, .goto (4), 3, 25, 26, [], []) rfl rfl rfl ?_
            refine bGo hA 1 10 (51, .invokestatic 88, 3, 27, 0, [2, 139, 1], []) rfl rfl rfl ?_
            refine hC _ _ _ _ _ (bRvx_e (fun s13 k14 => ?_) (fun E s13 k14 => ?_)) (k10.2.1 c12)
            · show A (27, [.ref 11, .int (bn x1), .int (bn x2), .int (bn x3), .int (bn x4)], [], s13)
              refine bGo hA 1 11 (54, .aload_n 0, 1, 28, 0, [0], []) rfl rfl rfl ?_
              refine bGo hA 1 12 (55, .getfield 33, 3, 29, 0, [11, 3, 3, 9, 0, 0], []) rfl rfl rfl ?_
              refine ⟨rfl, ?_⟩
              refine bGo hA 1 13 (58, .iload_n 1, 1, 30, 0, [1], []) rfl rfl rfl ?_
              refine bGo hA 1 14 (59, .invokevirtual 147, 3, 31, 0, [0, 9, 120, 1], []) rfl rfl rfl ?_
              refine ⟨rfl, ?_⟩
              refine hC _ _ _ _ _ (bRa_e (fun r17 s15 k16 => ?_)) k14
              show A (31, [.ref 11, .int (bn x1), .int (bn x2), .int (bn x3), .int (bn x4)], [.ref r17], s15)
              refine bGo hA 1 15 (62, .iload_n 2, 1, 32, 0, [2], []) rfl rfl rfl ?_
              refine bGo hA 2 0 (63, .iload_n 3, 1, 33, 0, [3], []) rfl rfl rfl ?_
              refine bGo hA 2 1 (64, .iload 4, 2, 34, 0, [4], []) rfl rfl rfl ?_
              refine bGo hA 2 2 (66, .invokevirtual 159, 3, 35, 0, [0, 8, 113, 3], []) rfl rfl rfl ?_
              refine ⟨k16.1, ?_⟩
              refine hC _ _ _ _ _ (bRn_e (fun r20 s18 q21 k19 => ?_)) k16.2
              show A (35, [.ref 11, .int (bn x1), .int (bn x2), .int (bn x3), .int (bn x4)], [.int (bn r20)], s18)
              refine bGo hA 2 3 (69, .ireturn, 1, 0, 0, [1], []) rfl rfl rfl ?_
              exact k19
            · exact k14
          · refine bGo hA 1 9 (50, .iconst (0), 1, 26, 0, [], [(0, 0)]) rfl rfl rfl ?_
            refine bEqI bl_0 ?_
            refine bGo hA 1 10 (51, .invokestatic 88, 3, 27, 0, [2, 139, 1], []) rfl rfl rfl ?_
            refine hC _ _ _ _ _ (bRvx_e (fun s22 k23 => ?_) (fun E s22 k23 => ?_)) (k10.2.2 c12)
            · show A (27, [.ref 11, .int (bn x1), .int (bn x2), .int (bn x3), .int (bn x4)], [], s22)
              refine bGo hA 1 11 (54, .aload_n 0, 1, 28, 0, [0], []) rfl rfl rfl ?_
              refine bGo hA 1 12 (55, .getfield 33, 3, 29, 0, [11, 3, 3, 9, 0, 0], []) rfl rfl rfl ?_
              refine ⟨rfl, ?_⟩
              refine bGo hA 1 13 (58, .iload_n 1, 1, 30, 0, [1], []) rfl rfl rfl ?_
              refine bGo hA 1 14 (59, .invokevirtual 147, 3, 31, 0, [0, 9, 120, 1], []) rfl rfl rfl ?_
              refine ⟨rfl, ?_⟩
              refine hC _ _ _ _ _ (bRa_e (fun r26 s24 k25 => ?_)) k23
              show A (31, [.ref 11, .int (bn x1), .int (bn x2), .int (bn x3), .int (bn x4)], [.ref r26], s24)
              refine bGo hA 1 15 (62, .iload_n 2, 1, 32, 0, [2], []) rfl rfl rfl ?_
              refine bGo hA 2 0 (63, .iload_n 3, 1, 33, 0, [3], []) rfl rfl rfl ?_
              refine bGo hA 2 1 (64, .iload 4, 2, 34, 0, [4], []) rfl rfl rfl ?_
              refine bGo hA 2 2 (66, .invokevirtual 159, 3, 35, 0, [0, 8, 113, 3], []) rfl rfl rfl ?_
              refine ⟨k25.1, ?_⟩
              refine hC _ _ _ _ _ (bRn_e (fun r29 s27 q30 k28 => ?_)) k25.2
              show A (35, [.ref 11, .int (bn x1), .int (bn x2), .int (bn x3), .int (bn x4)], [.int (bn r29)], s27)
              refine bGo hA 2 3 (69, .ireturn, 1, 0, 0, [1], []) rfl rfl rfl ?_
              exact k28
            · exact k23
        · exact k8
      · exact k6
    · exact k4
  · exact k2

theorem sq159_0 {lvl : Nat} {C : bCall} {Q : bPost} {A : bPt → Prop} (hC : bMono C) (hA : bClosed lvl bm159 C Q A) {x1 : Int} {x2 : Int} {σ : bSt}  (h_x1 : bRg x1) (h_x2 : bRg x2)
  (h : (C 136 [.int (bn x1), .int (bn (bi σ 9 0))] σ (bRvx (fun s1 => (C 136 [.int (bn x2), .int (bn 48)] s1 (bRvx (fun s3 => (C 120 [.ref 9, .int (bn x1)] s3 (bRa (fun r7 s5 => (r7 % 256 = 8 ∧ (((bi s5 r7 13) < 6 → (C 139 [.int (bn 1)] s5 (bRvx (fun s9 => (C 120 [.ref 9, .int (bn x1)] s9 (bRa (fun r13 s11 => (r13 % 256 = 8 ∧ (C 110 [.ref r13, .int (bn x2)] s11 (bRn (fun r16 s14 => Q (.inl (some (.int (bn r16)))) s14)))))))) (fun E s9 => Q (.inr E) s9)))) ∧ (¬ (bi s5 r7 13) < 6 → (C 139 [.int (bn 0)] s5 (bRvx (fun s18 => (C 120 [.ref 9, .int (bn x1)] s18 (bRa (fun r22 s20 => (r22 % 256 = 8 ∧ (C 110 [.ref r22, .int (bn x2)] s20 (bRn (fun r25 s23 => Q (.inl (some (.int (bn r25)))) s23)))))))) (fun E s18 => Q (.inr E) s18)))))))))) (fun E s3 => Q (.inr E) s3)))) (fun E s1 => Q (.inr E) s1)))) : A (0, [.ref 11, .int (bn x1), .int (bn x2)], [], σ) := by
  refine bGo hA 0 0 (0, .iload_n 1, 1, 1, 0, [1], []) rfl rfl rfl ?_
  refine bGo hA 0 1 (1, .aload_n 0, 1, 2, 0, [0], []) rfl rfl rfl ?_
  refine bGo hA 0 2 (2, .getfield 33, 3, 3, 0, [11, 3, 3, 9, 0, 0], []) rfl rfl rfl ?_
  refine ⟨rfl, ?_⟩
  refine bGo hA 0 3 (5, .getfield 144, 3, 4, 0, [9, 0, 0, 0, 0, 0], []) rfl rfl rfl ?_
  refine ⟨rfl, ?_⟩
  refine bEqI (bn_bi σ 9 0) ?_
  refine bGo hA 0 4 (8, .invokestatic 76, 3, 5, 0, [2, 136, 2], []) rfl rfl rfl ?_
  refine hC _ _ _ _ _ (bRvx_e (fun s1 k2 => ?_) (fun E s1 k2 => ?_)) h
  · show A (5, [.ref 11, .int (bn x1), .int (bn x2)], [], s1)
    refine bGo hA 0 5 (11, .iload_n 2, 1, 6, 0, [2], []) rfl rfl rfl ?_
    refine bGo hA 0 6 (12, .bipush (48), 2, 7, 0, [], [(48, 0)]) rfl rfl rfl ?_
    refine bEqI bl_48 ?_
    refine bGo hA 0 7 (14, .invokestatic 76, 3, 8, 0, [2, 136, 2], []) rfl rfl rfl ?_
    refine hC _ _ _ _ _ (bRvx_e (fun s3 k4 => ?_) (fun E s3 k4 => ?_)) k2
    · show A (8, [.ref 11, .int (bn x1), .int (bn x2)], [], s3)
      refine bGo hA 0 8 (17, .aload_n 0, 1, 9, 0, [0], []) rfl rfl rfl ?_
      refine bGo hA 0 9 (18, .getfield 33, 3, 10, 0, [11, 3, 3, 9, 0, 0], []) rfl rfl rfl ?_
      refine ⟨rfl, ?_⟩
      refine bGo hA 0 10 (21, .iload_n 1, 1, 11, 0, [1], []) rfl rfl rfl ?_
      refine bGo hA 0 11 (22, .invokevirtual 147, 3, 12, 0, [0, 9, 120, 1], []) rfl rfl rfl ?_
      refine ⟨rfl, ?_⟩
      refine hC _ _ _ _ _ (bRa_e (fun r7 s5 k6 => ?_)) k4
      show A (12, [.ref 11, .int (bn x1), .int (bn x2)], [.ref r7], s5)
      refine bGo hA 0 12 (25, .getfield 162, 3, 13, 0, [8, 13, 0, 0, 0, 0], []) rfl rfl rfl ?_
      refine ⟨k6.1, ?_⟩
      refine bEqI (bn_bi s5 r7 13) ?_
      refine bGo hA 0 13 (28, .bipush (6), 2, 14, 0, [], [(6, 0)]) rfl rfl rfl ?_
      refine bEqI bl_6 ?_
      refine bGo hA 0 14 (30, .if_icmp .ge (7), 3, 15, 17, [], []) rfl rfl rfl ?_
      refine bB_lt (x := (bi s5 r7 13)) (y := 6) (bi_rg _ _ _) (by decide : bRg 6) (fun c8 => ?_) (fun c8 => ?_)
      · refine bGo hA 0 15 (33, .iconst (1), 1, 16, 0, [], [(1, 0)]) rfl rfl rfl ?_
        refine bEqI bl_1 ?_
        refine bGo hA 1 0 (34, .goto (4), 3, 17, 18, [], []) rfl rfl rfl ?_
        refine bGo hA 1 2 (38, .invokestatic 88, 3, 19, 0, [2, 139, 1], []) rfl rfl rfl ?_
        refine hC _ _ _ _ _ (bRvx_e (fun s9 k10 => ?_) (fun E s9 k10 => ?_)) (k6.2.1 c8)
        · show A (19, [.ref 11, .int (bn x1), .int (bn x2)], [], s9)
          refine bGo hA 1 3 (41, .aload_n 0, 1, 20, 0, [0], []) rfl rfl rfl ?_
          refine bGo hA 1 4 (42, .getfield 33, 3, 21, 0, [11, 3, 3, 9, 0, 0], []) rfl rfl rfl ?_
          refine ⟨rfl, ?_⟩
          refine bGo hA 1 5 (45, .iload_n 1, 1, 22, 0, [1], []) rfl rfl rfl ?_
          refine bGo hA 1 6 (46, .invokevirtual 147, 3, 23, 0, [0, 9, 120, 1], []) rfl rfl rfl ?_
          refine ⟨rfl, ?_⟩
          refine hC _ _ _ _ _ (bRa_e (fun r13 s11 k12 => ?_)) k10
          show A (23, [.ref 11, .int (bn x1), .int (bn x2)], [.ref r13], s11)
          refine bGo hA 1 7 (49, .iload_n 2, 1, 24, 0, [2], []) rfl rfl rfl ?_
          refine bGo hA 1 8 (50, .invokevirtual 165, 3, 25, 0, [0, 8, 110, 1], []) rfl rfl rfl ?_
          refine ⟨k12.1, ?_⟩
          refine hC _ _ _ _ _ (bRn_e (fun r16 s14 q17 k15 => ?_)) k12.2
          show A (25, [.ref 11, .int (bn x1), .int (bn x2)], [.int (bn r16)], s14)
          refine bGo hA 1 9 (53, .ireturn, 1, 0, 0, [1], []) rfl rfl rfl ?_
          exact k15
        · exact k10
      · refine bGo hA 1 1 (37, .iconst (0), 1, 18, 0, [], [(0, 0)]) rfl rfl rfl ?_
        refine bEqI bl_0 ?_
        refine bGo hA 1 2 (38, .invokestatic 88, 3, 19, 0, [2, 139, 1], []) rfl rfl rfl ?_
        refine hC _ _ _ _ _ (bRvx_e (fun s18 k19 => ?_) (fun E s18 k19 => ?_)) (k6.2.2 c8)
        · show A (19, [.ref 11, .int (bn x1), .int (bn x2)], [], s18)
          refine bGo hA 1 3 (41, .aload_n 0, 1, 20, 0, [0], []) rfl rfl rfl ?_
          refine bGo hA 1 4 (42, .getfield 33, 3, 21, 0, [11, 3, 3, 9, 0, 0], []) rfl rfl rfl ?_
          refine ⟨rfl, ?_⟩
          refine bGo hA 1 5 (45, .iload_n 1, 1, 22, 0, [1], []) rfl rfl rfl ?_
          refine bGo hA 1 6 (46, .invokevirtual 147, 3, 23, 0, [0, 9, 120, 1], []) rfl rfl rfl ?_
          refine ⟨rfl, ?_⟩
          refine hC _ _ _ _ _ (bRa_e (fun r22 s20 k21 => ?_)) k19
          show A (23, [.ref 11, .int (bn x1), .int (bn x2)], [.ref r22], s20)
          refine bGo hA 1 7 (49, .iload_n 2, 1, 24, 0, [2], []) rfl rfl rfl ?_
          refine bGo hA 1 8 (50, .invokevirtual 165, 3, 25, 0, [0, 8, 110, 1], []) rfl rfl rfl ?_
          refine ⟨k21.1, ?_⟩
          refine hC _ _ _ _ _ (bRn_e (fun r25 s23 q26 k24 => ?_)) k21.2
          show A (25, [.ref 11, .int (bn x1), .int (bn x2)], [.int (bn r25)], s23)
          refine bGo hA 1 9 (53, .ireturn, 1, 0, 0, [1], []) rfl rfl rfl ?_
          exact k24
        · exact k19
    · exact k4
  · exact k2

theorem sq160_0 {lvl : Nat} {C : bCall} {Q : bPost} {A : bPt → Prop} (hC : bMono C) (hA : bClosed lvl bm160 C Q A) {x1 : Int} {x2 : Int} {x3 : Int} {σ : bSt}  (h_x1 : bRg x1) (h_x2 : bRg x2) (h_x3 : bRg x3)
  (h : (C 136 [.int (bn x1), .int (bn (bi σ 9 0))] σ (bRvx (fun s1 => (C 138 [.int (bn x2), .int (bn 0), .int (bn 255)] s1 (bRvx (fun s3 => (C 120 [.ref 9, .int (bn x1)] s3 (bRa (fun r7 s5 => (r7 % 256 = 8 ∧ (((bi s5 r7 13) < 6 → (C 139 [.int (bn 1)] s5 (bRvx (fun s9 => (C 120 [.ref 9, .int (bn x1)] s9 (bRa (fun r13 s11 => (bRg (x2 * 2) ∧ (bRg (1000 + (x2 * 2)) ∧ ((x3 = 0 → (bRg ((1000 + (x2 * 2)) + 0) ∧ (r13 % 256 = 8 ∧ (C 110 [.ref r13, .int (bn ((1000 + (x2 * 2)) + 0))] s11 (bRn (fun r17 s15 => Q (.inl (some (.int (bn r17)))) s15)))))) ∧ (¬ x3 = 0 → (bRg ((1000 + (x2 * 2)) + 1) ∧ (r13 % 256 = 8 ∧ (C 110 [.ref r13, .int (bn ((1000 + (x2 * 2)) + 1))] s11 (bRn (fun r21 s19 => Q (.inl (some (.int (bn r21)))) s19))))))))))))) (fun E s9 => Q (.inr E) s9)))) ∧ (¬ (bi s5 r7 13) < 6 → (C 139 [.int (bn 0)] s5 (bRvx (fun s23 => (C 120 [.ref 9, .int (bn x1)] s23 (bRa (fun r27 s25 => (bRg (x2 * 2) ∧ (bRg (1000 + (x2 * 2)) ∧ ((x3 = 0 → (bRg ((1000 + (x2 * 2)) + 0) ∧ (r27 % 256 = 8 ∧ (C 110 [.ref r27, .int (bn ((1000 + (x2 * 2)) + 0))] s25 (bRn (fun r31 s29 => Q (.inl (some (.int (bn r31)))) s29)))))) ∧ (¬ x3 = 0 → (bRg ((1000 + (x2 * 2)) + 1) ∧ (r27 % 256 = 8 ∧ (C 110 [.ref r27, .int (bn ((1000 + (x2 * 2)) + 1))] s25 (bRn (fun r35 s33 => Q (.inl (some (.int (bn r35)))) s33))))))))))))) (fun E s23 => Q (.inr E) s23)))))))))) (fun E s3 => Q (.inr E) s3)))) (fun E s1 => Q (.inr E) s1)))) : A (0, [.ref 11, .int (bn x1), .int (bn x2), .int (bn x3)], [], σ) := by
  refine bGo hA 0 0 (0, .iload_n 1, 1, 1, 0, [1], []) rfl rfl rfl ?_
  refine bGo hA 0 1 (1, .aload_n 0, 1, 2, 0, [0], []) rfl rfl rfl ?_
  refine bGo hA 0 2 (2, .getfield 33, 3, 3, 0, [11, 3, 3, 9, 0, 0], []) rfl rfl rfl ?_
  refine ⟨rfl, ?_⟩
  refine bGo hA 0 3 (5, .getfield 144, 3, 4, 0, [9, 0, 0, 0, 0, 0], []) rfl rfl rfl ?_
  refine ⟨rfl, ?_⟩
  refine bEqI (bn_bi σ 9 0) ?_
  refine bGo hA 0 4 (8, .invokestatic 76, 3, 5, 0, [2, 136, 2], []) rfl rfl rfl ?_
  refine hC _ _ _ _ _ (bRvx_e (fun s1 k2 => ?_) (fun E s1 k2 => ?_)) h
  · show A (5, [.ref 11, .int (bn x1), .int (bn x2), .int (bn x3)], [], s1)
    refine bGo hA 0 5 (11, .iload_n 2, 1, 6, 0, [2], []) rfl rfl rfl ?_
    refine bGo hA 0 6 (12, .iconst (0), 1, 7, 0, [], [(0, 0)]) rfl rfl rfl ?_
    refine bEqI bl_0 ?_
    refine bGo hA 0 7 (13, .sipush (255), 3, 8, 0, [], [(255, 0)]) rfl rfl rfl ?_
    refine bEqI bl_255 ?_
    refine bGo hA 0 8 (16, .invokestatic 80, 3, 9, 0, [2, 138, 3], []) rfl rfl rfl ?_
    refine hC _ _ _ _ _ (bRvx_e (fun s3 k4 => ?_) (fun E s3 k4 => ?_)) k2
    · show A (9, [.ref 11, .int (bn x1), .int (bn x2), .int (bn x3)], [], s3)
      refine bGo hA 0 9 (19, .aload_n 0, 1, 10, 0, [0], []) rfl rfl rfl ?_
      refine bGo hA 0 10 (20, .getfield 33, 3, 11, 0, [11, 3, 3, 9, 0, 0], []) rfl rfl rfl ?_
      refine ⟨rfl, ?_⟩
      refine bGo hA 0 11 (23, .iload_n 1, 1, 12, 0, [1], []) rfl rfl rfl ?_
      refine bGo hA 0 12 (24, .invokevirtual 147, 3, 13, 0, [0, 9, 120, 1], []) rfl rfl rfl ?_
      refine ⟨rfl, ?_⟩
      refine hC _ _ _ _ _ (bRa_e (fun r7 s5 k6 => ?_)) k4
      show A (13, [.ref 11, .int (bn x1), .int (bn x2), .int (bn x3)], [.ref r7], s5)
      refine bGo hA 0 13 (27, .getfield 162, 3, 14, 0, [8, 13, 0, 0, 0, 0], []) rfl rfl rfl ?_
      refine ⟨k6.1, ?_⟩
      refine bEqI (bn_bi s5 r7 13) ?_
      refine bGo hA 0 14 (30, .bipush (6), 2, 15, 0, [], [(6, 0)]) rfl rfl rfl ?_
      refine bEqI bl_6 ?_
      refine bGo hA 0 15 (32, .if_icmp .ge (7), 3, 16, 18, [], []) rfl rfl rfl ?_
      refine bB_lt (x := (bi s5 r7 13)) (y := 6) (bi_rg _ _ _) (by decide : bRg 6) (fun c8 => ?_) (fun c8 => ?_)
      · refine bGo hA 1 0 (35, .iconst (1), 1, 17, 0, [], [(1, 0)]) rfl rfl rfl ?_
        refine bEqI bl_1 ?_
        refine bGo hA 1 1 (36, .goto (4), 3, 18, 19, [], []) rfl rfl rfl ?_
        refine bGo hA 1 3 (40, .invokestatic 88, 3, 20, 0, [2, 139, 1], []) rfl rfl rfl ?_
        refine hC _ _ _ _ _ (bRvx_e (fun s9 k10 => ?_) (fun E s9 k10 => ?_)) (k6.2.1 c8)
        · show A (20, [.ref 11, .int (bn x1), .int (bn x2), .int (bn x3)], [], s9)
          refine bGo hA 1 4 (43, .aload_n 0, 1, 21, 0, [0], []) rfl rfl rfl ?_
          refine bGo hA 1 5 (44, .getfield 33, 3, 22, 0, [11, 3, 3, 9, 0, 0], []) rfl rfl rfl ?_
          refine ⟨rfl, ?_⟩
          refine bGo hA 1 6 (47, .iload_n 1, 1, 23, 0, [1], []) rfl rfl rfl ?_
          refine bGo hA 1 7 (48, .invokevirtual 147, 3, 24, 0, [0, 9, 120, 1], []) rfl rfl rfl ?_
          refine ⟨rfl, ?_⟩
          refine hC _ _ _ _ _ (bRa_e (fun r13 s11 k12 => ?_)) k10
          show A (24, [.ref 11, .int (bn x1), .int (bn x2), .int (bn x3)], [.ref r13], s11)
          refine bGo hA 1 8 (51, .sipush (1000), 3, 25, 0, [], [(1000, 0)]) rfl rfl rfl ?_
          refine bEqI bl_1000 ?_
          refine bGo hA 1 9 (54, .iload_n 2, 1, 26, 0, [2], []) rfl rfl rfl ?_
          refine bGo hA 1 10 (55, .iconst (2), 1, 27, 0, [], [(2, 0)]) rfl rfl rfl ?_
          refine bEqI bl_2 ?_
          refine bGo hA 1 11 (56, .imul, 1, 28, 0, [], []) rfl rfl rfl ?_
          refine bEqI (bn_mul x2 2) ?_
          refine bGo hA 1 12 (57, .iadd, 1, 29, 0, [], []) rfl rfl rfl ?_
          refine bEqI (bn_add 1000 (x2 * 2)) ?_
          refine bGo hA 1 13 (58, .iload_n 3, 1, 30, 0, [3], []) rfl rfl rfl ?_
          refine bGo hA 1 14 (59, .ifCond .eq (7), 3, 31, 33, [], []) rfl rfl rfl ?_
          refine bB_eq0 (x := x3) h_x3 (fun c14 => ?_) (fun c14 => ?_)
          · refine bGo hA 2 1 (66, .iconst (0), 1, 34, 0, [], [(0, 0)]) rfl rfl rfl ?_
            refine bEqI bl_0 ?_
            refine bGo hA 2 2 (67, .iadd, 1, 35, 0, [], []) rfl rfl rfl ?_
            refine bEqI (bn_add (1000 + (x2 * 2)) 0) ?_
            refine bGo hA 2 3 (68, .invokevirtual 165, 3, 36, 0, [0, 8, 110, 1], []) rfl rfl rfl ?_
            refine ⟨(k12.2.2.1 c14).2.1, ?_⟩
            refine hC _ _ _ _ _ (bRn_e (fun r17 s15 q18 k16 => ?_)) (k12.2.2.1 c14).2.2
            show A (36, [.ref 11, .int (bn x1), .int (bn x2), .int (bn x3)], [.int (bn r17)], s15)
            refine bGo hA 2 4 (71, .ireturn, 1, 0, 0, [1], []) rfl rfl rfl ?_
            exact k16
          · refine bGo hA 1 15 (62, .iconst (1), 1, 32, 0, [], [(1, 0)]) rfl rfl rfl ?_
            refine bEqI bl_1 ?_
            refine bGo hA 2 0 (63, .goto (4), 3, 33, 34, [], []) rfl rfl rfl ?_
            refine bGo hA 2 2 (67, .iadd, 1, 35, 0, [], []) rfl rfl rfl ?_
            refine bEqI (bn_add (1000 + (x2 * 2)) 1) ?_
            refine bGo hA 2 3 (68, .invokevirtual 165, 3, 36, 0, [0, 8, 110, 1], []) rfl rfl rfl ?_
            refine ⟨(k12.2.2.2 c14).2.1, ?_⟩
            refine hC _ _ _ _ _ (bRn_e (fun r21 s19 q22 k20 => ?_)) (k12.2.2.2 c14).2.2
            show A (36, [.ref 11, .int (bn x1), .int (bn x2), .int (bn x3)], [.int (bn r21)], s19)
            refine bGo hA 2 4 (71, .ireturn, 1, 0, 0, [1], []) rfl rfl rfl ?_
            exact k20
        · exact k10
      · refine bGo hA 1 2 (39, .iconst (0), 1, 19, 0, [], [(0, 0)]) rfl rfl rfl ?_
        refine bEqI bl_0 ?_
        refine bGo hA 1 3 (40, .invokestatic 88, 3, 20, 0, [2, 139, 1], []) rfl rfl rfl ?_
        refine hC _ _ _ _ _ (bRvx_e (fun s23 k24 => ?_) (fun E s23 k24 => ?_)) (k6.2.2 c8)
        · show A (20, [.ref 11, .int (bn x1), .int (bn x2), .int (bn x3)], [], s23)
          refine bGo hA 1 4 (43, .aload_n 0, 1, 21, 0, [0], []) rfl rfl rfl ?_
          refine bGo hA 1 5 (44, .getfield 33, 3, 22, 0, [11, 3, 3, 9, 0, 0], []) rfl rfl rfl ?_
          refine ⟨rfl, ?_⟩
          refine bGo hA 1 6 (47, .iload_n 1, 1, 23, 0, [1], []) rfl rfl rfl ?_
          refine bGo hA 1 7 (48, .invokevirtual 147, 3, 24, 0, [0, 9, 120, 1], []) rfl rfl rfl ?_
          refine ⟨rfl, ?_⟩
          refine hC _ _ _ _ _ (bRa_e (fun r27 s25 k26 => ?_)) k24
          show A (24, [.ref 11, .int (bn x1), .int (bn x2), .int (bn x3)], [.ref r27], s25)
          refine bGo hA 1 8 (51, .sipush (1000), 3, 25, 0, [], [(1000, 0)]) rfl rfl rfl ?_
          refine bEqI bl_1000 ?_
          refine bGo hA 1 9 (54, .iload_n 2, 1, 26, 0, [2], []) rfl rfl rfl ?_
          refine bGo hA 1 10 (55, .iconst (2), 1, 27, 0, [], [(2, 0)]) rfl rfl rfl ?_
          refine bEqI bl_2 ?_
          refine bGo hA 1 11 (56, .imul, 1, 28, 0, [], []) rfl rfl rfl ?_
          refine bEqI (bn_mul x2 2) ?_
          refine bGo hA 1 12 (57, .iadd, 1, 29, 0, [], []) rfl rfl rfl ?_
          refine bEqI (bn_add 1000 (x2 * 2)) ?_
          refine bGo hA 1 13 (58, .iload_n 3, 1, 30, 0, [3], []) rfl rfl rfl ?_
          refine bGo hA 1 14 (59, .ifCond .eq (7), 3, 31, 33, [], []) rfl rfl rfl ?_
          refine bB_eq0 (x := x3) h_x3 (fun c28 => ?_) (fun c28 => ?_)
          · refine bGo hA 2 1 (66, .iconst (0), 1, 34, 0, [], [(0, 0)]) rfl rfl rfl ?_
            refine bEqI bl_0 ?_
            refine bGo hA 2 2 (67, .iadd, 1, 35, 0, [], []) rfl rfl rfl ?_
            refine bEqI (bn_add (1000 + (x2 * 2)) 0) ?_
            refine bGo hA 2 3 (68, .invokevirtual 165, 3, 36, 0, [0, 8, 110, 1], []) rfl rfl rfl ?_
            refine ⟨(k26.2.2.1 c28).2.1, ?_⟩
            refine hC _ _ _ _ _ (bRn_e (fun r31 s29 q32 k30 => ?_)) (k26.2.2.1 c28).2.2
            show A (36, [.ref 11, .int (bn x1), .int (bn x2), .int (bn x3)], [.int (bn r31)], s29)
            refine bGo hA 2 4 (71, .ireturn, 1, 0, 0, [1], []) rfl rfl rfl ?_
            exact k30
          · refine bGo hA 1 15 (62, .iconst (1), 1, 32, 0, [], [(1, 0)]) rfl rfl rfl ?_
            refine bEqI bl_1 ?_
            refine bGo hA 2 0 (63, .goto (4), 3, 33, 34, [], []) rfl rfl rfl ?_
            refine bGo hA 2 2 (67, .iadd, 1, 35, 0, [], []) rfl rfl rfl ?_
            refine bEqI (bn_add (1000 + (x2 * 2)) 1) ?_
            refine bGo hA 2 3 (68, .invokevirtual 165, 3, 36, 0, [0, 8, 110, 1], []) rfl rfl rfl ?_
            refine ⟨(k26.2.2.2 c28).2.1, ?_⟩
            refine hC _ _ _ _ _ (bRn_e (fun r35 s33 q36 k34 => ?_)) (k26.2.2.2 c28).2.2
            show A (36, [.ref 11, .int (bn x1), .int (bn x2), .int (bn x3)], [.int (bn r35)], s33)
            refine bGo hA 2 4 (71, .ireturn, 1, 0, 0, [1], []) rfl rfl rfl ?_
            exact k34
        · exact k24
    · exact k4
  · exact k2

theorem sq161_0 {lvl : Nat} {C : bCall} {Q : bPost} {A : bPt → Prop} (hC : bMono C) (hA : bClosed lvl bm161 C Q A) {x1 : Int} {x2 : Int} {σ : bSt}  (h_x1 : bRg x1) (h_x2 : bRg x2)
  (h : (C 136 [.int (bn x1), .int (bn (bi σ 9 0))] σ (bRvx (fun s1 => (C 136 [.int (bn x2), .int (bn (bi s1 9 0))] s1 (bRvx (fun s3 => (bRg (x1 - 1) ∧ (C 138 [.int (bn x2), .int (bn 0), .int (bn (x1 - 1))] s3 (bRvx (fun s5 => (C 120 [.ref 9, .int (bn x1)] s5 (bRa (fun r9 s7 => (r9 % 256 = 8 ∧ (((bi s7 r9 13) < 6 → (C 139 [.int (bn 1)] s7 (bRvx (fun s11 => (C 120 [.ref 9, .int (bn x1)] s11 (bRa (fun r15 s13 => (bRg (100 + x2) ∧ (r15 % 256 = 8 ∧ (C 110 [.ref r15, .int (bn (100 + x2))] s13 (bRn (fun r18 s16 => Q (.inl (some (.int (bn r18)))) s16))))))))) (fun E s11 => Q (.inr E) s11)))) ∧ (¬ (bi s7 r9 13) < 6 → (C 139 [.int (bn 0)] s7 (bRvx (fun s20 => (C 120 [.ref 9, .int (bn x1)] s20 (bRa (fun r24 s22 => (bRg (100 + x2) ∧ (r24 % 256 = 8 ∧ (C 110 [.ref r24, .int (bn (100 + x2))] s22 (bRn (fun r27 s25 => Q (.inl (some (.int (bn r27)))) s25))))))))) (fun E s20 => Q (.inr E) s20)))))))))) (fun E s5 => Q (.inr E) s5))))) (fun E s3 => Q (.inr E) s3)))) (fun E s1 => Q (.inr E) s1)))) : A (0, [.ref 11, .int (bn x1), .int (bn x2)], [], σ) := by
  refine bGo hA 0 0 (0, .iload_n 1, 1, 1, 0, [1], []) rfl rfl rfl ?_
  refine bGo hA 0 1 (1, .aload_n 0, 1, 2, 0, [0], []) rfl rfl rfl ?_
  refine bGo hA 0 2 (2, .getfield 33, 3, 3, 0, [11, 3, 3, 9, 0, 0], []) rfl rfl rfl ?_
  refine ⟨rfl, ?_⟩
  refine bGo hA 0 3 (5, .getfield 144, 3, 4, 0, [9, 0, 0, 0, 0, 0], []) rfl rfl rfl ?_
  refine ⟨rfl, ?_⟩
  refine bEqI (bn_bi σ 9 0) ?_
  refine bGo hA 0 4 (8, .invokestatic 76, 3, 5, 0, [2, 136, 2], []) rfl rfl rfl ?_
  refine hC _ _ _ _ _ (bRvx_e (fun s1 k2 => ?_) (fun E s1 k2 => ?_)) h
  · show A (5, [.ref 11, .int (bn x1), .int (bn x2)], [], s1)
    refine bGo hA 0 5 (11, .iload_n 2, 1, 6, 0, [2], []) rfl rfl rfl ?_
    refine bGo hA 0 6 (12, .aload_n 0, 1, 7, 0, [0], []) rfl rfl rfl ?_
    refine bGo hA 0 7 (13, .getfield 33, 3, 8, 0, [11, 3, 3, 9, 0, 0], []) rfl rfl rfl ?_
    refine ⟨rfl, ?_⟩
    refine bGo hA 0 8 (16, .getfield 144, 3, 9, 0, [9, 0, 0, 0, 0, 0], []) rfl rfl rfl ?_
    refine ⟨rfl, ?_⟩
    refine bEqI (bn_bi s1 9 0) ?_
    refine bGo hA 0 9 (19, .invokestatic 76, 3, 10, 0, [2, 136, 2], []) rfl rfl rfl ?_
    refine hC _ _ _ _ _ (bRvx_e (fun s3 k4 => ?_) (fun E s3 k4 => ?_)) k2
    · show A (10, [.ref 11, .int (bn x1), .int (bn x2)], [], s3)
      refine bGo hA 0 10 (22, .iload_n 2, 1, 11, 0, [2], []) rfl rfl rfl ?_
      refine bGo hA 0 11 (23, .iconst (0), 1, 12, 0, [], [(0, 0)]) rfl rfl rfl ?_
      refine bEqI bl_0 ?_
      refine bGo hA 0 12 (24, .iload_n 1, 1, 13, 0, [1], []) rfl rfl rfl ?_
      refine bGo hA 0 13 (25, .iconst (1), 1, 14, 0, [], [(1, 0)]) rfl rfl rfl ?_
      refine bEqI bl_1 ?_
      refine bGo hA 0 14 (26, .isub, 1, 15, 0, [], []) rfl rfl rfl ?_
      refine bEqI (bn_sub x1 1) ?_
      refine bGo hA 0 15 (27, .invokestatic 80, 3, 16, 0, [2, 138, 3], []) rfl rfl rfl ?_
      refine hC _ _ _ _ _ (bRvx_e (fun s5 k6 => ?_) (fun E s5 k6 => ?_)) k4.2
      · show A (16, [.ref 11, .int (bn x1), .int (bn x2)], [], s5)
        refine bGo hA 1 0 (30, .aload_n 0, 1, 17, 0, [0], []) rfl rfl rfl ?_
        refine bGo hA 1 1 (31, .getfield 33, 3, 18, 0, [11, 3, 3, 9, 0, 0], []) rfl rfl rfl ?_
        refine ⟨rfl, ?_⟩
        refine bGo hA 1 2 (34, .iload_n 1, 1, 19, 0, [1], []) rfl rfl rfl ?_
        refine bGo hA 1 3 (35, .invokevirtual 147, 3, 20, 0, [0, 9, 120, 1], []) rfl rfl rfl ?_
        refine ⟨rfl, ?_⟩
        refine hC _ _ _ _ _ (bRa_e (fun r9 s7 k8 => ?_)) k6
        show A (20, [.ref 11, .int (bn x1), .int (bn x2)], [.ref r9], s7)
        refine bGo hA 1 4 (38, .getfield 162, 3, 21, 0, [8, 13, 0, 0, 0, 0], []) rfl rfl rfl ?_
        refine ⟨k8.1, ?_⟩
        refine bEqI (bn_bi s7 r9 13) ?_
        refine bGo hA 1 5 (41, .bipush (6), 2, 22, 0, [], [(6, 0)]) rfl rfl rfl ?_
        refine bEqI bl_6 ?_
        refine bGo hA 1 6 (43, .if_icmp .ge (7), 3, 23, 25, [], []) rfl rfl rfl ?_
        refine bB_lt (x := (bi s7 r9 13)) (y := 6) (bi_rg _ _ _) (by decide : bRg 6) (fun c10 => ?_) (fun c10 => ?_)
        · refine bGo hA 1 7 (46, .iconst (1), 1, 24, 0, [], [(1, 0)]) rfl rfl rfl ?_
          refine bEqI bl_1 ?_
          refine bGo hA 1 8 (47, .goto (4), 3, 25, 26, [], []) rfl rfl rfl ?_
          refine bGo hA 1 10 (51, .invokestatic 88, 3, 27, 0, [2, 139, 1], []) rfl rfl rfl ?_
          refine hC _ _ _ _ _ (bRvx_e (fun s11 k12 => ?_) (fun E s11 k12 => ?_)) (k8.2.1 c10)
          · show A (27, [.ref 11, .int (bn x1), .int (bn x2)], [], s11)
            refine bGo hA 1 11 (54, .aload_n 0, 1, 28, 0, [0], []) rfl rfl rfl ?_
            refine bGo hA 1 12 (55, .getfield 33, 3, 29, 0, [11, 3, 3, 9, 0, 0], []) rfl rfl rfl ?_
            refine ⟨rfl, ?_⟩
            refine bGo hA 1 13 (58, .iload_n 1, 1, 30, 0, [1], []) rfl rfl rfl ?_
            refine bGo hA 1 14 (59, .invokevirtual 147, 3, 31, 0, [0, 9, 120, 1], []) rfl rfl rfl ?_
            refine ⟨rfl, ?_⟩
            refine hC _ _ _ _ _ (bRa_e (fun r15 s13 k14 => ?_)) k12
            show A (31, [.ref 11, .int (bn x1), .int (bn x2)], [.ref r15], s13)
            refine bGo hA 1 15 (62, .bipush (100), 2, 32, 0, [], [(100, 0)]) rfl rfl rfl ?_
            refine bEqI bl_100 ?_
            refine bGo hA 2 0 (64, .iload_n 2, 1, 33, 0, [2], []) rfl rfl rfl ?_
            refine bGo hA 2 1 (65, .iadd, 1, 34, 0, [], []) rfl rfl rfl ?_
            refine bEqI (bn_add 100 x2) ?_
            refine bGo hA 2 2 (66, .invokevirtual 165, 3, 35, 0, [0, 8, 110, 1], []) rfl rfl rfl ?_
            refine ⟨k14.2.1, ?_⟩
            refine hC _ _ _ _ _ (bRn_e (fun r18 s16 q19 k17 => ?_)) k14.2.2
            show A (35, [.ref 11, .int (bn x1), .int (bn x2)], [.int (bn r18)], s16)
            refine bGo hA 2 3 (69, .ireturn, 1, 0, 0, [1], []) rfl rfl rfl ?_
            exact k17
          · exact k12
        · refine bGo hA 1 9 (50, .iconst (0), 1, 26, 0, [], [(0, 0)]) rfl rfl rfl ?_
          refine bEqI bl_0 ?_
          refine bGo hA 1 10 (51, .invokestatic 88, 3, 27, 0, [2, 139, 1], []) rfl rfl rfl ?_
          refine hC _ _ _ _ _ (bRvx_e (fun s20 k21 => ?_) (fun E s20 k21 => ?_)) (k8.2.2 c10)
          · show A (27, [.ref 11, .int (bn x1), .int (bn x2)], [], s20)
            refine bGo hA 1 11 (54, .aload_n 0, 1, 28, 0, [0], []) rfl rfl rfl ?_
            refine bGo hA 1 12 (55, .getfield 33, 3, 29, 0, [11, 3, 3, 9, 0, 0], []) rfl rfl rfl ?_
            refine ⟨rfl, ?_⟩
            refine bGo hA 1 13 (58, .iload_n 1, 1, 30, 0, [1], []) rfl rfl rfl ?_
            refine bGo hA 1 14 (59, .invokevirtual 147, 3, 31, 0, [0, 9, 120, 1], []) rfl rfl rfl ?_
            refine ⟨rfl, ?_⟩
            refine hC _ _ _ _ _ (bRa_e (fun r24 s22 k23 => ?_)) k21
            show A (31, [.ref 11, .int (bn x1), .int (bn x2)], [.ref r24], s22)
            refine bGo hA 1 15 (62, .bipush (100), 2, 32, 0, [], [(100, 0)]) rfl rfl rfl ?_
            refine bEqI bl_100 ?_
            refine bGo hA 2 0 (64, .iload_n 2, 1, 33, 0, [2], []) rfl rfl rfl ?_
            refine bGo hA 2 1 (65, .iadd, 1, 34, 0, [], []) rfl rfl rfl ?_
            refine bEqI (bn_add 100 x2) ?_
            refine bGo hA 2 2 (66, .invokevirtual 165, 3, 35, 0, [0, 8, 110, 1], []) rfl rfl rfl ?_
            refine ⟨k23.2.1, ?_⟩
            refine hC _ _ _ _ _ (bRn_e (fun r27 s25 q28 k26 => ?_)) k23.2.2
            show A (35, [.ref 11, .int (bn x1), .int (bn x2)], [.int (bn r27)], s25)
            refine bGo hA 2 3 (69, .ireturn, 1, 0, 0, [1], []) rfl rfl rfl ?_
            exact k26
          · exact k21
      · exact k6
    · exact k4
  · exact k2

theorem sq162_0 {lvl : Nat} {C : bCall} {Q : bPost} {A : bPt → Prop} (hC : bMono C) (hA : bClosed lvl bm162 C Q A) {x1 : Int} {σ : bSt}  (h_x1 : bRg x1)
  (h : (C 136 [.int (bn x1), .int (bn (bi σ 9 0))] σ (bRvx (fun s1 => (C 120 [.ref 9, .int (bn x1)] s1 (bRa (fun r5 s3 => (r5 % 256 = 8 ∧ (((0 : Int) < (bi s3 r5 13) → (C 139 [.int (bn 1)] s3 (bRvx (fun s7 => (C 120 [.ref 9, .int (bn x1)] s7 (bRa (fun r11 s9 => (r11 % 256 = 8 ∧ (C 111 [.ref r11] s9 (bRn (fun r14 s12 => Q (.inl (some (.int (bn r14)))) s12)))))))) (fun E s7 => Q (.inr E) s7)))) ∧ (¬ (0 : Int) < (bi s3 r5 13) → (C 139 [.int (bn 0)] s3 (bRvx (fun s16 => (C 120 [.ref 9, .int (bn x1)] s16 (bRa (fun r20 s18 => (r20 % 256 = 8 ∧ (C 111 [.ref r20] s18 (bRn (fun r23 s21 => Q (.inl (some (.int (bn r23)))) s21)))))))) (fun E s16 => Q (.inr E) s16)))))))))) (fun E s1 => Q (.inr E) s1)))) : A (0, [.ref 11, .int (bn x1)], [], σ) := by
  refine bGo hA 0 0 (0, .iload_n 1, 1, 1, 0, [1], []) rfl rfl rfl ?_
  refine bGo hA 0 1 (1, .aload_n 0, 1, 2, 0, [0], []) rfl rfl rfl ?_
  refine bGo hA 0 2 (2, .getfield 33, 3, 3, 0, [11, 3, 3, 9, 0, 0], []) rfl rfl rfl ?_
  refine ⟨rfl, ?_⟩
  refine bGo hA 0 3 (5, .getfield 144, 3, 4, 0, [9, 0, 0, 0, 0, 0], []) rfl rfl rfl ?_
  refine ⟨rfl, ?_⟩
  refine bEqI (bn_bi σ 9 0) ?_
  refine bGo hA 0 4 (8, .invokestatic 76, 3, 5, 0, [2, 136, 2], []) rfl rfl rfl ?_
  refine hC _ _ _ _ _ (bRvx_e (fun s1 k2 => ?_) (fun E s1 k2 => ?_)) h
  · show A (5, [.ref 11, .int (bn x1)], [], s1)
    refine bGo hA 0 5 (11, .aload_n 0, 1, 6, 0, [0], []) rfl rfl rfl ?_
    refine bGo hA 0 6 (12, .getfield 33, 3, 7, 0, [11, 3, 3, 9, 0, 0], []) rfl rfl rfl ?_
    refine ⟨rfl, ?_⟩
    refine bGo hA 0 7 (15, .iload_n 1, 1, 8, 0, [1], []) rfl rfl rfl ?_
    refine bGo hA 0 8 (16, .invokevirtual 147, 3, 9, 0, [0, 9, 120, 1], []) rfl rfl rfl ?_
    refine ⟨rfl, ?_⟩
    refine hC _ _ _ _ _ (bRa_e (fun r5 s3 k4 => ?_)) k2
    show A (9, [.ref 11, .int (bn x1)], [.ref r5], s3)
    refine bGo hA 0 9 (19, .getfield 162, 3, 10, 0, [8, 13, 0, 0, 0, 0], []) rfl rfl rfl ?_
    refine ⟨k4.1, ?_⟩
    refine bEqI (bn_bi s3 r5 13) ?_
    refine bGo hA 0 10 (22, .ifCond .le (7), 3, 11, 13, [], []) rfl rfl rfl ?_
    refine bB_gt0 (x := (bi s3 r5 13)) (bi_rg _ _ _) (fun c6 => ?_) (fun c6 => ?_)
    · refine bGo hA 0 11 (25, .iconst (1), 1, 12, 0, [], [(1, 0)]) rfl rfl rfl ?_
      refine bEqI bl_1 ?_
      refine bGo hA 0 12 (26, .goto (4), 3, 13, 14, [], []) rfl rfl rfl ?_
      refine bGo hA 0 14 (30, .invokestatic 88, 3, 15, 0, [2, 139, 1], []) rfl rfl rfl ?_
      refine hC _ _ _ _ _ (bRvx_e (fun s7 k8 => ?_) (fun E s7 k8 => ?_)) (k4.2.1 c6)
      · show A (15, [.ref 11, .int (bn x1)], [], s7)
        refine bGo hA 0 15 (33, .aload_n 0, 1, 16, 0, [0], []) rfl rfl rfl ?_
        refine bGo hA 1 0 (34, .getfield 33, 3, 17, 0, [11, 3, 3, 9, 0, 0], []) rfl rfl rfl ?_
        refine ⟨rfl, ?_⟩
        refine bGo hA 1 1 (37, .iload_n 1, 1, 18, 0, [1], []) rfl rfl rfl ?_
        refine bGo hA 1 2 (38, .invokevirtual 147, 3, 19, 0, [0, 9, 120, 1], []) rfl rfl rfl ?_
        refine ⟨rfl, ?_⟩
        refine hC _ _ _ _ _ (bRa_e (fun r11 s9 k10 => ?_)) k8
        show A (19, [.ref 11, .int (bn x1)], [.ref r11], s9)
        refine bGo hA 1 3 (41, .invokevirtual 168, 3, 20, 0, [0, 8, 111, 0], []) rfl rfl rfl ?_
        refine ⟨k10.1, ?_⟩
        refine hC _ _ _ _ _ (bRn_e (fun r14 s12 q15 k13 => ?_)) k10.2
        show A (20, [.ref 11, .int (bn x1)], [.int (bn r14)], s12)
        refine bGo hA 1 4 (44, .ireturn, 1, 0, 0, [1], []) rfl rfl rfl ?_
        exact k13
      · exact k8
    · refine bGo hA 0 13 (29, .iconst (0), 1, 14, 0, [], [(0, 0)]) rfl rfl rfl ?_
      refine bEqI bl_0 ?_
      refine bGo hA 0 14 (30, .invokestatic 88, 3, 15, 0, [2, 139, 1], []) rfl rfl rfl ?_
      refine hC _ _ _ _ _ (bRvx_e (fun s16 k17 => ?_) (fun E s16 k17 => ?_)) (k4.2.2 c6)
      · show A (15, [.ref 11, .int (bn x1)], [], s16)
        refine bGo hA 0 15 (33, .aload_n 0, 1, 16, 0, [0], []) rfl rfl rfl ?_
        refine bGo hA 1 0 (34, .getfield 33, 3, 17, 0, [11, 3, 3, 9, 0, 0], []) rfl rfl rfl ?_
        refine ⟨rfl, ?_⟩
        refine bGo hA 1 1 (37, .iload_n 1, 1, 18, 0, [1], []) rfl rfl rfl ?_
        refine bGo hA 1 2 (38, .invokevirtual 147, 3, 19, 0, [0, 9, 120, 1], []) rfl rfl rfl ?_
        refine ⟨rfl, ?_⟩
        refine hC _ _ _ _ _ (bRa_e (fun r20 s18 k19 => ?_)) k17
        show A (19, [.ref 11, .int (bn x1)], [.ref r20], s18)
        refine bGo hA 1 3 (41, .invokevirtual 168, 3, 20, 0, [0, 8, 111, 0], []) rfl rfl rfl ?_
        refine ⟨k19.1, ?_⟩
        refine hC _ _ _ _ _ (bRn_e (fun r23 s21 q24 k22 => ?_)) k19.2
        show A (20, [.ref 11, .int (bn x1)], [.int (bn r23)], s21)
        refine bGo hA 1 4 (44, .ireturn, 1, 0, 0, [1], []) rfl rfl rfl ?_
        exact k22
      · exact k17
  · exact k2

theorem sq163_0 {lvl : Nat} {C : bCall} {Q : bPost} {A : bPt → Prop} (hC : bMono C) (hA : bClosed lvl bm163 C Q A) {x1 : Int} {x2 : Int} {σ : bSt}  (h_x1 : bRg x1) (h_x2 : bRg x2)
  (h : (C 136 [.int (bn x1), .int (bn (bi σ 9 0))] σ (bRvx (fun s1 => (C 138 [.int (bn x2), .int (bn (-1)), .int (bn 2)] s1 (bRvx (fun s3 => (C 120 [.ref 9, .int (bn x1)] s3 (bRa (fun r7 s5 => (r7 % 256 = 8 ∧ (C 120 [.ref 9, .int (bn x1)] s5 (bRa (fun r10 s8 => (r10 % 256 = 8 ∧ Q (.inl (some (.int (bn (bi s5 r7 5))))) (bw s8 r10 5 x2)))))))))) (fun E s3 => Q (.inr E) s3)))) (fun E s1 => Q (.inr E) s1)))) : A (0, [.ref 11, .int (bn x1), .int (bn x2), .float 0], [], σ) := by
  refine bGo hA 0 0 (0, .iload_n 1, 1, 1, 0, [1], []) rfl rfl rfl ?_
  refine bGo hA 0 1 (1, .aload_n 0, 1, 2, 0, [0], []) rfl rfl rfl ?_
  refine bGo hA 0 2 (2, .getfield 33, 3, 3, 0, [11, 3, 3, 9, 0, 0], []) rfl rfl rfl ?_
  refine ⟨rfl, ?_⟩
  refine bGo hA 0 3 (5, .getfield 144, 3, 4, 0, [9, 0, 0, 0, 0, 0], []) rfl rfl rfl ?_
  refine ⟨rfl, ?_⟩
  refine bEqI (bn_bi σ 9 0) ?_
  refine bGo hA 0 4 (8, .invokestatic 76, 3, 5, 0, [2, 136, 2], []) rfl rfl rfl ?_
  refine hC _ _ _ _ _ (bRvx_e (fun s1 k2 => ?_) (fun E s1 k2 => ?_)) h
  · show A (5, [.ref 11, .int (bn x1), .int (bn x2), .float 0], [], s1)
    refine bGo hA 0 5 (11, .iload_n 2, 1, 6, 0, [2], []) rfl rfl rfl ?_
    refine bGo hA 0 6 (12, .iconst (-1), 1, 7, 0, [], [(-1, 0)]) rfl rfl rfl ?_
    refine bEqI bl_m1 ?_
    refine bGo hA 0 7 (13, .iconst (2), 1, 8, 0, [], [(2, 0)]) rfl rfl rfl ?_
    refine bEqI bl_2 ?_
    refine bGo hA 0 8 (14, .invokestatic 80, 3, 9, 0, [2, 138, 3], []) rfl rfl rfl ?_
    refine hC _ _ _ _ _ (bRvx_e (fun s3 k4 => ?_) (fun E s3 k4 => ?_)) k2
    · show A (9, [.ref 11, .int (bn x1), .int (bn x2), .float 0], [], s3)
      refine bGo hA 0 9 (17, .aload_n 0, 1, 10, 0, [0], []) rfl rfl rfl ?_
      refine bGo hA 0 10 (18, .getfield 33, 3, 11, 0, [11, 3, 3, 9, 0, 0], []) rfl rfl rfl ?_
      refine ⟨rfl, ?_⟩
      refine bGo hA 0 11 (21, .iload_n 1, 1, 12, 0, [1], []) rfl rfl rfl ?_
      refine bGo hA 0 12 (22, .invokevirtual 147, 3, 13, 0, [0, 9, 120, 1], []) rfl rfl rfl ?_
      refine ⟨rfl, ?_⟩
      refine hC _ _ _ _ _ (bRa_e (fun r7 s5 k6 => ?_)) k4
      show A (13, [.ref 11, .int (bn x1), .int (bn x2), .float 0], [.ref r7], s5)
      refine bGo hA 0 13 (25, .getfield 172, 3, 14, 0, [8, 5, 0, 0, 0, 0], []) rfl rfl rfl ?_
      refine ⟨k6.1, ?_⟩
      refine bEqI (bn_bi s5 r7 5) ?_
      refine bGo hA 0 14 (28, .istore_n 3, 1, 15, 0, [3], []) rfl rfl rfl ?_
      refine bGo hA 0 15 (29, .aload_n 0, 1, 16, 0, [0], []) rfl rfl rfl ?_
      refine bGo hA 1 0 (30, .getfield 33, 3, 17, 0, [11, 3, 3, 9, 0, 0], []) rfl rfl rfl ?_
      refine ⟨rfl, ?_⟩
      refine bGo hA 1 1 (33, .iload_n 1, 1, 18, 0, [1], []) rfl rfl rfl ?_
      refine bGo hA 1 2 (34, .invokevirtual 147, 3, 19, 0, [0, 9, 120, 1], []) rfl rfl rfl ?_
      refine ⟨rfl, ?_⟩
      refine hC _ _ _ _ _ (bRa_e (fun r10 s8 k9 => ?_)) k6.2
      show A (19, [.ref 11, .int (bn x1), .int (bn x2), .int (bn (bi s5 r7 5))], [.ref r10], s8)
      refine bGo hA 1 3 (37, .iload_n 2, 1, 20, 0, [2], []) rfl rfl rfl ?_
      refine bGo hA 1 4 (38, .putfield 172, 3, 21, 0, [8, 5, 0, 0, 0, 0], []) rfl rfl rfl ?_
      refine ⟨k9.1, ?_⟩
      refine bGo hA 1 5 (41, .iload_n 3, 1, 22, 0, [3], []) rfl rfl rfl ?_
      refine bGo hA 1 6 (42, .ireturn, 1, 0, 0, [1], []) rfl rfl rfl ?_
      exact k9.2
    · exact k4
  · exact k2

theorem sq164_0 {lvl : Nat} {C : bCall} {Q : bPost} {A : bPt → Prop} (hC : bMono C) (hA : bClosed lvl bm164 C Q A) {x1 : Int} {x2 : Int} {x3 : Int} {σ : bSt}  (h_x1 : bRg x1) (h_x2 : bRg x2) (h_x3 : bRg x3)
  (h : (C 136 [.int (bn x1), .int (bn (bi σ 9 0))] σ (bRvx (fun s1 => ((x2 = (-1) → ((x2 = (-1) → (C 138 [.int (bn x3), .int (bn 0), .int (bn 0)] s1 (bRvx (fun s5 => (C 120 [.ref 9, .int (bn x1)] s5 (bRa (fun r9 s7 => (r9 % 256 = 8 ∧ (C 114 [.ref r9, .int (bn x2), .int (bn x3)] s7 (bRv (fun s10 => Q (.inl none) s10)))))))) (fun E s5 => Q (.inr E) s5)))) ∧ (¬ x2 = (-1) → (C 138 [.int (bn x3), .int (bn 0), .int (bn 3)] s1 (bRvx (fun s12 => (C 120 [.ref 9, .int (bn x1)] s12 (bRa (fun r16 s14 => (r16 % 256 = 8 ∧ (C 114 [.ref r16, .int (bn x2), .int (bn x3)] s14 (bRv (fun s17 => Q (.inl none) s17)))))))) (fun E s12 => Q (.inr E) s12)))))) ∧ (¬ x2 = (-1) → (C 136 [.int (bn x2), .int (bn 4)] s1 (bRvx (fun s19 => ((x2 = (-1) → (C 138 [.int (bn x3), .int (bn 0), .int (bn 0)] s19 (bRvx (fun s22 => (C 120 [.ref 9, .int (bn x1)] s22 (bRa (fun r26 s24 => (r26 % 256 = 8 ∧ (C 114 [.ref r26, .int (bn x2), .int (bn x3)] s24 (bRv (fun s27 => Q (.inl none) s27)))))))) (fun E s22 => Q (.inr E) s22)))) ∧ (¬ x2 = (-1) → (C 138 [.int (bn x3), .int (bn 0), .int (bn 3)] s19 (bRvx (fun s29 => (C 120 [.ref 9, .int (bn x1)] s29 (bRa (fun r33 s31 => (r33 % 256 = 8 ∧ (C 114 [.ref r33, .int (bn x2), .int (bn x3)] s31 (bRv (fun s34 => Q (.inl none) s34)))))))) (fun E s29 => Q (.inr E) s29)))))) (fun E s19 => Q (.inr E) s19)))))) (fun E s1 => Q (.inr E) s1)))) : A (0, [.ref 11, .int (bn x1), .int (bn x2), .int (bn x3)], [], σ) := by
  refine bGo hA 0 0 (0, .iload_n 1, 1, 1, 0, [1], []) rfl rfl rfl ?_
  refine bGo hA 0 1 (1, .aload_n 0, 1, 2, 0, [0], []) rfl rfl rfl ?_
  refine bGo hA 0 2 (2, .getfield 33, 3, 3, 0, [11, 3, 3, 9, 0, 0], []) rfl rfl rfl ?_
  refine ⟨rfl, ?_⟩
  refine bGo hA 0 3 (5, .getfield 144, 3, 4, 0, [9, 0, 0, 0, 0, 0], []) rfl rfl rfl ?_
  refine ⟨rfl, ?_⟩
  refine bEqI (bn_bi σ 9 0) ?_
  refine bGo hA 0 4 (8, .invokestatic 76, 3, 5, 0, [2, 136, 2], []) rfl rfl rfl ?_
  refine hC _ _ _ _ _ (bRvx_e (fun s1 k2 => ?_) (fun E s1 k2 => ?_)) h
  · show A (5, [.ref 11, .int (bn x1), .int (bn x2), .int (bn x3)], [], s1)
    refine bGo hA 0 5 (11, .iload_n 2, 1, 6, 0, [2], []) rfl rfl rfl ?_
    refine bGo hA 0 6 (12, .iconst (-1), 1, 7, 0, [], [(-1, 0)]) rfl rfl rfl ?_
    refine bEqI bl_m1 ?_
    refine bGo hA 0 7 (13, .if_icmp .eq (8), 3, 8, 11, [], []) rfl rfl rfl ?_
    refine bB_eq (x := x2) (y := (-1)) h_x2 (by decide : bRg (-1)) (fun c3 => ?_) (fun c3 => ?_)
    · refine bGo hA 0 11 (21, .iload_n 3, 1, 12, 0, [3], []) rfl rfl rfl ?_
      refine bGo hA 0 12 (22, .iconst (0), 1, 13, 0, [], [(0, 0)]) rfl rfl rfl ?_
      refine bEqI bl_0 ?_
      refine bGo hA 0 13 (23, .iload_n 2, 1, 14, 0, [2], []) rfl rfl rfl ?_
      refine bGo hA 0 14 (24, .iconst (-1), 1, 15, 0, [], [(-1, 0)]) rfl rfl rfl ?_
      refine bEqI bl_m1 ?_
      refine bGo hA 0 15 (25, .if_icmp .ne (7), 3, 16, 18, [], []) rfl rfl rfl ?_
      refine bB_eq (x := x2) (y := (-1)) h_x2 (by decide : bRg (-1)) (fun c4 => ?_) (fun c4 => ?_)
      · refine bGo hA 1 0 (28, .iconst (0), 1, 17, 0, [], [(0, 0)]) rfl rfl rfl ?_
        refine bEqI bl_0 ?_
        refine bGo hA 1 1 (29, .goto (4), 3, 18, 19, [], []) rfl rfl rfl ?_
        refine bGo hA 1 3 (33, .invokestatic 80, 3, 20, 0, [2, 138, 3], []) rfl rfl rfl ?_
        refine hC _ _ _ _ _ (bRvx_e (fun s5 k6 => ?_) (fun E s5 k6 => ?_)) ((k2.1 c3).1 c4)
        · show A (20, [.ref 11, .int (bn x1), .int (bn x2), .int (bn x3)], [], s5)
          refine bGo hA 1 4 (36, .aload_n 0, 1, 21, 0, [0], []) rfl rfl rfl ?_
          refine bGo hA 1 5 (37, .getfield 33, 3, 22, 0, [11, 3, 3, 9, 0, 0], []) rfl rfl rfl ?_
          refine ⟨rfl, ?_⟩
          refine bGo hA 1 6 (40, .iload_n 1, 1, 23, 0, [1], []) rfl rfl rfl ?_
          refine bGo hA 1 7 (41, .invokevirtual 147, 3, 24, 0, [0, 9, 120, 1], []) rfl rfl rfl ?_
          refine ⟨rfl, ?_⟩
          refine hC _ _ _ _ _ (bRa_e (fun r9 s7 k8 => ?_)) k6
          show A (24, [.ref 11, .int (bn x1), .int (bn x2), .int (bn x3)], [.ref r9], s7)
          refine bGo hA 1 8 (44, .iload_n 2, 1, 25, 0, [2], []) rfl rfl rfl ?_
          refine bGo hA 1 9 (45, .iload_n 3, 1, 26, 0, [3], []) rfl rfl rfl ?_
          refine bGo hA 1 10 (46, .invokevirtual 175, 3, 27, 0, [0, 8, 114, 2], []) rfl rfl rfl ?_
          refine ⟨k8.1, ?_⟩
          refine hC _ _ _ _ _ (bRv_e (fun s10 k11 => ?_)) k8.2
          show A (27, [.ref 11, .int (bn x1), .int (bn x2), .int (bn x3)], [], s10)
          refine bGo hA 1 11 (49, .return_, 1, 0, 0, [0], []) rfl rfl rfl ?_
          exact k11
        · exact k6
      · refine bGo hA 1 2 (32, .iconst (3), 1, 19, 0, [], [(3, 0)]) rfl rfl rfl ?_
        refine bEqI bl_3 ?_
        refine bGo hA 1 3 (33, .invokestatic 80, 3, 20, 0, [2, 138, 3], []) rfl rfl rfl ?_
        refine hC _ _ _ _ _ (bRvx_e (fun s12 k13 => ?_) (fun E s12 k13 => ?_)) ((k2.1 c3).2 c4)
        · show A (20, [.ref 11, .int (bn x1), .int (bn x2), .int (bn x3)], [], s12)
          refine bGo hA 1 4 (36, .aload_n 0, 1, 21, 0, [0], []) rfl rfl rfl ?_
          refine bGo hA 1 5 (37, .getfield 33, 3, 22, 0, [11, 3, 3, 9, 0, 0], []) rfl rfl rfl ?_
          refine ⟨rfl, ?_⟩
          refine bGo hA 1 6 (40, .iload_n 1, 1, 23, 0, [1], []) rfl rfl rfl ?_
          refine bGo hA 1 7 (41, .invokevirtual 147, 3, 24, 0, [0, 9, 120, 1], []) rfl rfl rfl ?_
          refine ⟨rfl, ?_⟩
          refine hC _ _ _ _ _ (bRa_e (fun r16 s14 k15 => ?_)) k13
          show A (24, [.ref 11, .int (bn x1), .int (bn x2), .int (bn x3)], [.ref r16], s14)
          refine bGo hA 1 8 (44, .iload_n 2, 1, 25, 0, [2], []) rfl rfl rfl ?_
          refine bGo hA 1 9 (45, .iload_n 3, 1, 26, 0, [3], []) rfl rfl rfl ?_
          refine bGo hA 1 10 (46, .invokevirtual 175, 3, 27, 0, [0, 8, 114, 2], []) rfl rfl rfl ?_
          refine ⟨k15.1, ?_⟩
          refine hC _ _ _ _ _ (bRv_e (fun s17 k18 => ?_)) k15.2
          show A (27, [.ref 11, .int (bn x1), .int (bn x2), .int (bn x3)], [], s17)
          refine bGo hA 1 11 (49, .return_, 1, 0, 0, [0], []) rfl rfl rfl ?_
          exact k18
        · exact k13
    · refine bGo hA 0 8 (16, .iload_n 2, 1, 9, 0, [2], []) rfl rfl rfl ?_
      refine bGo hA 0 9 (17, .iconst (4), 1, 10, 0, [], [(4, 0)]) rfl rfl rfl ?_
      refine bEqI bl_4 ?_
      refine bGo hA 0 10 (18, .invokestatic 76, 3, 11, 0, [2, 136, 2], []) rfl rfl rfl ?_
      refine hC _ _ _ _ _ (bRvx_e (fun s19 k20 => ?_) (fun E s19 k20 => ?_)) (k2.2 c3)
      · show A (11, [.ref 11, .int (bn x1), .int (bn x2), .int (bn x3)], [], s19)
        refine bGo hA 0 11 (21, .iload_n 3, 1, 12, 0, [3], []) rfl rfl rfl ?_
        refine bGo hA 0 12 (22, .iconst (0), 1, 13, 0, [], [(0, 0)]) rfl rfl rfl ?_
        refine bEqI bl_0 ?_
        refine bGo hA 0 13 (23, .iload_n 2, 1, 14, 0, [2], []) rfl rfl rfl ?_
        refine bGo hA 0 14 (24, .iconst (-1), 1, 15, 0, [], [(-1, 0)]) rfl rfl rfl ?_
        refine bEqI bl_m1 ?_
        refine bGo hA 0 15 (25, .if_icmp .ne (7), 3, 16, 18, [], []) rfl rfl rfl ?_
        refine bB_eq (x := x2) (y := (-1)) h_x2 (by decide : bRg (-1)) (fun c21 => ?_) (fun c21 => ?_)
        · refine bGo hA 1 0 (28, .iconst (0), 1, 17, 0, [], [(0, 0)]) rfl rfl rfl ?_
          refine bEqI bl_0 ?_
          refine bGo hA 1 1 (29, .goto (4), 3, 18, 19, [], []) rfl rfl rfl ?_
          refine bGo hA 1 3 (33, .invokestatic 80, 3, 20, 0, [2, 138, 3], []) rfl rfl rfl ?_
          refine hC _ _ _ _ _ (bRvx_e (fun s22 k23 => ?_) (fun E s22 k23 => ?_)) (k20.1 c21)
          · show A (20, [.ref 11, .int (bn x1), .int (bn x2), .int (bn x3)], [], s22)
            refine bGo hA 1 4 (36, .aload_n 0, 1, 21, 0, [0], []) rfl rfl rfl ?_
            refine bGo hA 1 5 (37, .getfield 33, 3, 22, 0, [11, 3, 3, 9, 0, 0], []) rfl rfl rfl ?_
            refine ⟨rfl, ?_⟩
            refine bGo hA 1 6 (40, .iload_n 1, 1, 23, 0, [1], []) rfl rfl rfl ?_
            refine bGo hA 1 7 (41, .invokevirtual 147, 3, 24, 0, [0, 9, 120, 1], []) rfl rfl rfl ?_
            refine ⟨rfl, ?_⟩
            refine hC _ _ _ _ _ (bRa_e (fun r26 s24 k25 => ?_)) k23
            show A (24, [.ref 11, .int (bn x1), .int (bn x2), .int (bn x3)], [.ref r26], s24)
            refine bGo hA 1 8 (44, .iload_n 2, 1, 25, 0, [2], []) rfl rfl rfl ?_
            refine bGo hA 1 9 (45, .iload_n 3, 1, 26, 0, [3], []) rfl rfl rfl ?_
            refine bGo hA 1 10 (46, .invokevirtual 175, 3, 27, 0, [0, 8, 114, 2], []) rfl rfl rfl ?_
            refine ⟨k25.1, ?_⟩
            refine hC _ _ _ _ _ (bRv_e (fun s27 k28 => ?_)) k25.2
            show A (27, [.ref 11, .int (bn x1), .int (bn x2), .int (bn x3)], [], s27)
            refine bGo hA 1 11 (49, .return_, 1, 0, 0, [0], []) rfl rfl rfl ?_
            exact k28
          · exact k23
        · refine bGo hA 1 2 (32, .iconst (3), 1, 19, 0, [], [(3, 0)]) rfl rfl rfl ?_
          refine bEqI bl_3 ?_
          refine bGo hA 1 3 (33, .invokestatic 80, 3, 20, 0, [2, 138, 3], []) rfl rfl rfl ?_
          refine hC _ _ _ _ _ (bRvx_e (fun s29 k30 => ?_) (fun E s29 k30 => ?_)) (k20.2 c21)
          · show A (20, [.ref 11, .int (bn x1), .int (bn x2), .int (bn x3)], [], s29)
            refine bGo hA 1 4 (36, .aload_n 0, 1, 21, 0, [0], []) rfl rfl rfl ?_
            refine bGo hA 1 5 (37, .getfield 33, 3, 22, 0, [11, 3, 3, 9, 0, 0], []) rfl rfl rfl ?_
            refine ⟨rfl, ?_⟩
            refine bGo hA 1 6 (40, .iload_n 1, 1, 23, 0, [1], []) rfl rfl rfl ?_
            refine bGo hA 1 7 (41, .invokevirtual 147, 3, 24, 0, [0, 9, 120, 1], []) rfl rfl rfl ?_
            refine ⟨rfl, ?_⟩
            refine hC _ _ _ _ _ (bRa_e (fun r33 s31 k32 => ?_)) k30
            show A (24, [.ref 11, .int (bn x1), .int (bn x2), .int (bn x3)], [.ref r33], s31)
            refine bGo hA 1 8 (44, .iload_n 2, 1, 25, 0, [2], []) rfl rfl rfl ?_
            refine bGo hA 1 9 (45, .iload_n 3, 1, 26, 0, [3], []) rfl rfl rfl ?_
            refine bGo hA 1 10 (46, .invokevirtual 175, 3, 27, 0, [0, 8, 114, 2], []) rfl rfl rfl ?_
            refine ⟨k32.1, ?_⟩
            refine hC _ _ _ _ _ (bRv_e (fun s34 k35 => ?_)) k32.2
            show A (27, [.ref 11, .int (bn x1), .int (bn x2), .int (bn x3)], [], s34)
            refine bGo hA 1 11 (49, .return_, 1, 0, 0, [0], []) rfl rfl rfl ?_
            exact k35
          · exact k30
      · exact k20
  · exact k2

theorem sq165_0 {lvl : Nat} {C : bCall} {Q : bPost} {A : bPt → Prop} (hC : bMono C) (hA : bClosed lvl bm165 C Q A) {x1 : Int} {x2 : Int} {x3 : Int} {x4 : Int} {σ : bSt}  (h_x1 : bRg x1) (h_x2 : bRg x2) (h_x3 : bRg x3) (h_x4 : bRg x4)
  (h : (C 136 [.int (bn x1), .int (bn (bi σ 9 0))] σ (bRvx (fun s1 => (C 136 [.int (bn x2), .int (bn 3)] s1 (bRvx (fun s3 => (C 138 [.int (bn x3), .int (bn 1), .int (bn 20)] s3 (bRvx (fun s5 => (C 120 [.ref 9, .int (bn x1)] s5 (bRa (fun r9 s7 => (r9 % 256 = 8 ∧ (C 115 [.ref r9, .int (bn x2), .int (bn x3), .int (bn x4)] s7 (bRv (fun s10 => Q (.inl none) s10)))))))) (fun E s5 => Q (.inr E) s5)))) (fun E s3 => Q (.inr E) s3)))) (fun E s1 => Q (.inr E) s1)))) : A (0, [.ref 11, .int (bn x1), .int (bn x2), .int (bn x3), .int (bn x4)], [], σ) := by
  refine bGo hA 0 0 (0, .iload_n 1, 1, 1, 0, [1], []) rfl rfl rfl ?_
  refine bGo hA 0 1 (1, .aload_n 0, 1, 2, 0, [0], []) rfl rfl rfl ?_
  refine bGo hA 0 2 (2, .getfield 33, 3, 3, 0, [11, 3, 3, 9, 0, 0], []) rfl rfl rfl ?_
  refine ⟨rfl, ?_⟩
  refine bGo hA 0 3 (5, .getfield 144, 3, 4, 0, [9, 0, 0, 0, 0, 0], []) rfl rfl rfl ?_
  refine ⟨rfl, ?_⟩
  refine bEqI (bn_bi σ 9 0) ?_
  refine bGo hA 0 4 (8, .invokestatic 76, 3, 5, 0, [2, 136, 2], []) rfl rfl rfl ?_
  refine hC _ _ _ _ _ (bRvx_e (fun s1 k2 => ?_) (fun E s1 k2 => ?_)) h
  · show A (5, [.ref 11, .int (bn x1), .int (bn x2), .int (bn x3), .int (bn x4)], [], s1)
    refine bGo hA 0 5 (11, .iload_n 2, 1, 6, 0, [2], []) rfl rfl rfl ?_
    refine bGo hA 0 6 (12, .iconst (3), 1, 7, 0, [], [(3, 0)]) rfl rfl rfl ?_
    refine bEqI bl_3 ?_
    refine bGo hA 0 7 (13, .invokestatic 76, 3, 8, 0, [2, 136, 2], []) rfl rfl rfl ?_
    refine hC _ _ _ _ _ (bRvx_e (fun s3 k4 => ?_) (fun E s3 k4 => ?_)) k2
    · show A (8, [.ref 11, .int (bn x1), .int (bn x2), .int (bn x3), .int (bn x4)], [], s3)
      refine bGo hA 0 8 (16, .iload_n 3, 1, 9, 0, [3], []) rfl rfl rfl ?_
      refine bGo hA 0 9 (17, .iconst (1), 1, 10, 0, [], [(1, 0)]) rfl rfl rfl ?_
      refine bEqI bl_1 ?_
      refine bGo hA 0 10 (18, .bipush (20), 2, 11, 0, [], [(20, 0)]) rfl rfl rfl ?_
      refine bEqI bl_20 ?_
      refine bGo hA 0 11 (20, .invokestatic 80, 3, 12, 0, [2, 138, 3], []) rfl rfl rfl ?_
      refine hC _ _ _ _ _ (bRvx_e (fun s5 k6 => ?_) (fun E s5 k6 => ?_)) k4
      · show A (12, [.ref 11, .int (bn x1), .int (bn x2), .int (bn x3), .int (bn x4)], [], s5)
        refine bGo hA 0 12 (23, .aload_n 0, 1, 13, 0, [0], []) rfl rfl rfl ?_
        refine bGo hA 0 13 (24, .getfield 33, 3, 14, 0, [11, 3, 3, 9, 0, 0], []) rfl rfl rfl ?_
        refine ⟨rfl, ?_⟩
        refine bGo hA 0 14 (27, .iload_n 1, 1, 15, 0, [1], []) rfl rfl rfl ?_
        refine bGo hA 0 15 (28, .invokevirtual 147, 3, 16, 0, [0, 9, 120, 1], []) rfl rfl rfl ?_
        refine ⟨rfl, ?_⟩
        refine hC _ _ _ _ _ (bRa_e (fun r9 s7 k8 => ?_)) k6
        show A (16, [.ref 11, .int (bn x1), .int (bn x2), .int (bn x3), .int (bn x4)], [.ref r9], s7)
        refine bGo hA 1 0 (31, .iload_n 2, 1, 17, 0, [2], []) rfl rfl rfl ?_
        refine bGo hA 1 1 (32, .iload_n 3, 1, 18, 0, [3], []) rfl rfl rfl ?_
        refine bGo hA 1 2 (33, .iload 4, 2, 19, 0, [4], []) rfl rfl rfl ?_
        refine bGo hA 1 3 (35, .invokevirtual 178, 3, 20, 0, [0, 8, 115, 3], []) rfl rfl rfl ?_
        refine ⟨k8.1, ?_⟩
        refine hC _ _ _ _ _ (bRv_e (fun s10 k11 => ?_)) k8.2
        show A (20, [.ref 11, .int (bn x1), .int (bn x2), .int (bn x3), .int (bn x4)], [], s10)
        refine bGo hA 1 4 (38, .return_, 1, 0, 0, [0], []) rfl rfl rfl ?_
        exact k11
      · exact k6
    · exact k4
  · exact k2

theorem sq166_0 {lvl : Nat} {C : bCall} {Q : bPost} {A : bPt → Prop} (hC : bMono C) (hA : bClosed lvl bm166 C Q A) {x1 : Int} {x2 : Int} {x3 : Int} {σ : bSt}  (h_x1 : bRg x1) (h_x2 : bRg x2) (h_x3 : bRg x3)
  (h : (C 136 [.int (bn x1), .int (bn (bi σ 9 0))] σ (bRvx (fun s1 => (C 138 [.int (bn x2), .int (bn 0), .int (bn 4)] s1 (bRvx (fun s3 => (C 138 [.int (bn x3), .int (bn 0), .int (bn 9)] s3 (bRvx (fun s5 => (C 120 [.ref 9, .int (bn x1)] s5 (bRa (fun r9 s7 => (r9 % 256 = 8 ∧ (C 120 [.ref 9, .int (bn x1)] (bw s7 r9 11 x2) (bRa (fun r12 s10 => (r12 % 256 = 8 ∧ Q (.inl none) (bw s10 r12 12 x3)))))))))) (fun E s5 => Q (.inr E) s5)))) (fun E s3 => Q (.inr E) s3)))) (fun E s1 => Q (.inr E) s1)))) : A (0, [.ref 11, .int (bn x1), .int (bn x2), .int (bn x3)], [], σ) := by
  refine bGo hA 0 0 (0, .iload_n 1, 1, 1, 0, [1], []) rfl rfl rfl ?_
  refine bGo hA 0 1 (1, .aload_n 0, 1, 2, 0, [0], []) rfl rfl rfl ?_
  refine bGo hA 0 2 (2, .getfield 33, 3, 3, 0, [11, 3, 3, 9, 0, 0], []) rfl rfl rfl ?_
  refine ⟨rfl, ?_⟩
  refine bGo hA 0 3 (5, .getfield 144, 3, 4, 0, [9, 0, 0, 0, 0, 0], []) rfl rfl rfl ?_
  refine ⟨rfl, ?_⟩
  refine bEqI (bn_bi σ 9 0) ?_
  refine bGo hA 0 4 (8, .invokestatic 76, 3, 5, 0, [2, 136, 2], []) rfl rfl rfl ?_
  refine hC _ _ _ _ _ (bRvx_e (fun s1 k2 => ?_) (fun E s1 k2 => ?_)) h
  · show A (5, [.ref 11, .int (bn x1), .int (bn x2), .int (bn x3)], [], s1)
    refine bGo hA 0 5 (11, .iload_n 2, 1, 6, 0, [2], []) rfl rfl rfl ?_
    refine bGo hA 0 6 (12, .iconst (0), 1, 7, 0, [], [(0, 0)]) rfl rfl rfl ?_
    refine bEqI bl_0 ?_
    refine bGo hA 0 7 (13, .iconst (4), 1, 8, 0, [], [(4, 0)]) rfl rfl rfl ?_
    refine bEqI bl_4 ?_
    refine bGo hA 0 8 (14, .invokestatic 80, 3, 9, 0, [2, 138, 3], []) rfl rfl rfl ?_
    refine hC _ _ _ _ _ (bRvx_e (fun s3 k4 => ?_) (fun E s3 k4 => ?_)) k2
    · show A (9, [.ref 11, .int (bn x1), .int (bn x2), .int (bn x3)], [], s3)
      refine bGo hA 0 9 (17, .iload_n 3, 1, 10, 0, [3], []) rfl rfl rfl ?_
      refine bGo hA 0 10 (18, .iconst (0), 1, 11, 0, [], [(0, 0)]) rfl rfl rfl ?_
      refine bEqI bl_0 ?_
      refine bGo hA 0 11 (19, .bipush (9), 2, 12, 0, [], [(9, 0)]) rfl rfl rfl ?_
      refine bEqI bl_9 ?_
      refine bGo hA 0 12 (21, .invokestatic 80, 3, 13, 0, [2, 138, 3], []) rfl rfl rfl ?_
      refine hC _ _ _ _ _ (bRvx_e (fun s5 k6 => ?_) (fun E s5 k6 => ?_)) k4
      · show A (13, [.ref 11, .int (bn x1), .int (bn x2), .int (bn x3)], [], s5)
        refine bGo hA 0 13 (24, .aload_n 0, 1, 14, 0, [0], []) rfl rfl rfl ?_
        refine bGo hA 0 14 (25, .getfield 33, 3, 15, 0, [11, 3, 3, 9, 0, 0], []) rfl rfl rfl ?_
        refine ⟨rfl, ?_⟩
        refine bGo hA 0 15 (28, .iload_n 1, 1, 16, 0, [1], []) rfl rfl rfl ?_
        refine bGo hA 1 0 (29, .invokevirtual 147, 3, 17, 0, [0, 9, 120, 1], []) rfl rfl rfl ?_
        refine ⟨rfl, ?_⟩
        refine hC _ _ _ _ _ (bRa_e (fun r9 s7 k8 => ?_)) k6
        show A (17, [.ref 11, .int (bn x1), .int (bn x2), .int (bn x3)], [.ref r9], s7)
        refine bGo hA 1 1 (32, .iload_n 2, 1, 18, 0, [2], []) rfl rfl rfl ?_
        refine bGo hA 1 2 (33, .putfield 182, 3, 19, 0, [8, 11, 0, 0, 0, 0], []) rfl rfl rfl ?_
        refine ⟨k8.1, ?_⟩
        refine bGo hA 1 3 (36, .aload_n 0, 1, 20, 0, [0], []) rfl rfl rfl ?_
        refine bGo hA 1 4 (37, .getfield 33, 3, 21, 0, [11, 3, 3, 9, 0, 0], []) rfl rfl rfl ?_
        refine ⟨rfl, ?_⟩
        refine bGo hA 1 5 (40, .iload_n 1, 1, 22, 0, [1], []) rfl rfl rfl ?_
        refine bGo hA 1 6 (41, .invokevirtual 147, 3, 23, 0, [0, 9, 120, 1], []) rfl rfl rfl ?_
        refine ⟨rfl, ?_⟩
        refine hC _ _ _ _ _ (bRa_e (fun r12 s10 k11 => ?_)) k8.2
        show A (23, [.ref 11, .int (bn x1), .int (bn x2), .int (bn x3)], [.ref r12], s10)
        refine bGo hA 1 7 (44, .iload_n 3, 1, 24, 0, [3], []) rfl rfl rfl ?_
        refine bGo hA 1 8 (45, .putfield 185, 3, 25, 0, [8, 12, 0, 0, 0, 0], []) rfl rfl rfl ?_
        refine ⟨k11.1, ?_⟩
        refine bGo hA 1 9 (48, .return_, 1, 0, 0, [0], []) rfl rfl rfl ?_
        exact k11.2
      · exact k6
    · exact k4
  · exact k2

theorem sq225_0 {lvl : Nat} {C : bCall} {Q : bPost} {A : bPt → Prop} (hC : bMono C) (hA : bClosed lvl bm225 C Q A) {x1 : Int} {σ : bSt}  (h_x1 : bRg x1)
  (h : (bRg ((bi σ 12 22) - 1) ∧ (C 199 [.int (bn x1), .int (bn 0), .int (bn ((bi σ 12 22) - 1))] σ (bRn (fun r3 s1 => ((r3 = 0 ∨ r3 = 1) ∧ Q (.inl (some (.int (bn r3)))) s1)))))) : A (0, [.ref 12, .int (bn x1)], [], σ) := by
  refine bGo hA 0 0 (0, .iload_n 1, 1, 1, 0, [1], []) rfl rfl rfl ?_
  refine bGo hA 0 1 (1, .iconst (0), 1, 2, 0, [], [(0, 0)]) rfl rfl rfl ?_
  refine bEqI bl_0 ?_
  refine bGo hA 0 2 (2, .aload_n 0, 1, 3, 0, [0], []) rfl rfl rfl ?_
  refine bGo hA 0 3 (3, .getfield 380, 3, 4, 0, [12, 22, 0, 0, 0, 0], []) rfl rfl rfl ?_
  refine ⟨rfl, ?_⟩
  refine bEqI (bn_bi σ 12 22) ?_
  refine bGo hA 0 4 (6, .iconst (1), 1, 5, 0, [], [(1, 0)]) rfl rfl rfl ?_
  refine bEqI bl_1 ?_
  refine bGo hA 0 5 (7, .isub, 1, 6, 0, [], []) rfl rfl rfl ?_
  refine bEqI (bn_sub (bi σ 12 22) 1) ?_
  refine bGo hA 0 6 (8, .invokestatic 325, 3, 7, 0, [2, 199, 3], []) rfl rfl rfl ?_
  refine hC _ _ _ _ _ (bRn_e (fun r3 s1 q4 k2 => ?_)) h.2
  show A (7, [.ref 12, .int (bn x1)], [.int (bn r3)], s1)
  refine bGo hA 0 7 (11, .ireturn, 1, 0, 0, [2], []) rfl rfl rfl ?_
  exact ⟨b01 k2.1, k2.2⟩

theorem sq226_0 {lvl : Nat} {C : bCall} {Q : bPost} {A : bPt → Prop} (hC : bMono C) (hA : bClosed lvl bm226 C Q A) {x1 : Int} {x2 : Int} {x3 : Int} {σ : bSt}  (h_x1 : bRg x1) (h_x2 : bRg x2) (h_x3 : bRg x3)
  (h : (C 199 [.int (bn x2), .int (bn 0), .int (bn 5)] σ (bRn (fun r3 s1 => ((r3 = 0 → (C 201 [.int (bn x1)] s1 (bRn (fun r8 s6 => ((r8 = 0 → A (31, [.ref 12, .int (bn x1), .int (bn x2), .int (bn x3), .int (bn 0)], [.int (bn 1), .ref 12], s6)) ∧ (¬ r8 = 0 → A (31, [.ref 12, .int (bn x1), .int (bn x2), .int (bn x3), .int (bn 0)], [.int (bn 2), .ref 12], s6))))))) ∧ (¬ r3 = 0 → (C 199 [.int (bn x3), .int (bn 0), .int (bn 999)] s1 (bRn (fun r14 s12 => ((r14 = 0 → (C 201 [.int (bn x1)] s12 (bRn (fun r19 s17 => ((r19 = 0 → A (31, [.ref 12, .int (bn x1), .int (bn x2), .int (bn x3), .int (bn 0)], [.int (bn 1), .ref 12], s17)) ∧ (¬ r19 = 0 → A (31, [.ref 12, .int (bn x1), .int (bn x2), .int (bn x3), .int (bn 0)], [.int (bn 2), .ref 12], s17))))))) ∧ (¬ r14 = 0 → (C 201 [.int (bn x1)] s12 (bRn (fun r25 s23 => ((r25 = 0 → A (31, [.ref 12, .int (bn x1), .int (bn x2), .int (bn x3), .int (bn 1)], [.int (bn 1), .ref 12], s23)) ∧ (¬ r25 = 0 → (((bi s23 12 22) = 16 → A (31, [.ref 12, .int (bn x1), .int (bn x2), .int (bn x3), .int (bn 1)], [.int (bn 3), .ref 12], s23)) ∧ (¬ (bi s23 12 22) = 16 → A (31, [.ref 12, .int (bn x1), .int (bn x2), .int (bn x3), .int (bn 1)], [.int (bn 0), .ref 12], s23))))))))))))))))))) : A (0, [.ref 12, .int (bn x1), .int (bn x2), .int (bn x3), .float 0], [], σ) := by
  refine bGo hA 0 0 (0, .iload_n 2, 1, 1, 0, [2], []) rfl rfl rfl ?_
  refine bGo hA 0 1 (1, .iconst (0), 1, 2, 0, [], [(0, 0)]) rfl rfl rfl ?_
  refine bEqI bl_0 ?_
  refine bGo hA 0 2 (2, .iconst (5), 1, 3, 0, [], [(5, 0)]) rfl rfl rfl ?_
  refine bEqI bl_5 ?_
  refine bGo hA 0 3 (3, .invokestatic 325, 3, 4, 0, [2, 199, 3], []) rfl rfl rfl ?_
  refine hC _ _ _ _ _ (bRn_e (fun r3 s1 q4 k2 => ?_)) h
  show A (4, [.ref 12, .int (bn x1), .int (bn x2), .int (bn x3), .float 0], [.int (bn r3)], s1)
  refine bGo hA 0 4 (6, .ifCond .eq (18), 3, 5, 12, [], []) rfl rfl rfl ?_
  refine bB_eq0 (x := r3) q4 (fun c5 => ?_) (fun c5 => ?_)
  · refine bGo hA 0 12 (24, .iconst (0), 1, 13, 0, [], [(0, 0)]) rfl rfl rfl ?_
    refine bEqI bl_0 ?_
    refine bGo hA 0 13 (25, .istore 4, 2, 14, 0, [4], []) rfl rfl rfl ?_
    refine bGo hA 0 14 (27, .aload_n 0, 1, 15, 0, [0], []) rfl rfl rfl ?_
    refine bGo hA 0 15 (28, .iload_n 1, 1, 16, 0, [1], []) rfl rfl rfl ?_
    refine bGo hA 1 0 (29, .invokestatic 336, 3, 17, 0, [2, 201, 1], []) rfl rfl rfl ?_
    refine hC _ _ _ _ _ (bRn_e (fun r8 s6 q9 k7 => ?_)) (k2.1 c5)
    show A (17, [.ref 12, .int (bn x1), .int (bn x2), .int (bn x3), .int (bn 0)], [.int (bn r8), .ref 12], s6)
    refine bGo hA 1 1 (32, .ifCond .ne (7), 3, 18, 20, [], []) rfl rfl rfl ?_
    refine bB_eq0 (x := r8) q9 (fun c10 => ?_) (fun c10 => ?_)
    · refine bGo hA 1 2 (35, .iconst (1), 1, 19, 0, [], [(1, 0)]) rfl rfl rfl ?_
      refine bEqI bl_1 ?_
      refine bGo hA 1 3 (36, .goto (26), 3, 20, 31, [], []) rfl rfl rfl ?_
      exact (k7.1 c10)
    · refine bGo hA 1 4 (39, .iload 4, 2, 21, 0, [4], []) rfl rfl rfl ?_
      refine bGo hA 1 5 (41, .ifCond .ne (7), 3, 22, 24, [], []) rfl rfl rfl ?_
      refine ⟨fun _ => ?_, fun c => absurd (by decide) c⟩
      refine bGo hA 1 6 (44, .iconst (2), 1, 23, 0, [], [(2, 0)]) rfl rfl rfl ?_
      refine bEqI bl_2 ?_
      refine bGo hA 1 7 (45, .goto (17), 3, 24, 31, [], []) rfl rfl rfl ?_
      exact (k7.2 c10)
  · refine bGo hA 0 5 (9, .iload_n 3, 1, 6, 0, [3], []) rfl rfl rfl ?_
    refine bGo hA 0 6 (10, .iconst (0), 1, 7, 0, [], [(0, 0)]) rfl rfl rfl ?_
    refine bEqI bl_0 ?_
    refine bGo hA 0 7 (11, .sipush (999), 3, 8, 0, [], [(999, 0)]) rfl rfl rfl ?_
    refine bEqI bl_999 ?_
    refine bGo hA 0 8 (14, .invokestatic 325, 3, 9, 0, [2, 199, 3], []) rfl rfl rfl ?_
    refine hC _ _ _ _ _ (bRn_e (fun r14 s12 q15 k13 => ?_)) (k2.2 c5)
    show A (9, [.ref 12, .int (bn x1), .int (bn x2), .int (bn x3), .float 0], [.int (bn r14)], s12)
    refine bGo hA 0 9 (17, .ifCond .eq (7), 3, 10, 12, [], []) rfl rfl rfl ?_
    refine bB_eq0 (x := r14) q15 (fun c16 => ?_) (fun c16 => ?_)
    · refine bGo hA 0 12 (24, .iconst (0), 1, 13, 0, [], [(0, 0)]) rfl rfl rfl ?_
      refine bEqI bl_0 ?_
      refine bGo hA 0 13 (25, .istore 4, 2, 14, 0, [4], []) rfl rfl rfl ?_
      refine bGo hA 0 14 (27, .aload_n 0, 1, 15, 0, [0], []) rfl rfl rfl ?_
      refine bGo hA 0 15 (28, .iload_n 1, 1, 16, 0, [1], []) rfl rfl rfl ?_
      refine bGo hA 1 0 (29, .invokestatic 336, 3, 17, 0, [2, 201, 1], []) rfl rfl rfl ?_
      refine hC _ _ _ _ _ (bRn_e (fun r19 s17 q20 k18 => ?_)) (k13.1 c16)
      show A (17, [.ref 12, .int (bn x1), .int (bn x2), .int (bn x3), .int (bn 0)], [.int (bn r19), .ref 12], s17)
      refine bGo hA 1 1 (32, .ifCond .ne (7), 3, 18, 20, [], []) rfl rfl rfl ?_
      refine bB_eq0 (x := r19) q20 (fun c21 => ?_) (fun c21 => ?_)
      · refine bGo hA 1 2 (35, .iconst (1), 1, 19, 0, [], [(1, 0)]) rfl rfl rfl ?_
        refine bEqI bl_1 ?_
        refine bGo hA 1 3 (36, .goto (26), 3, 20, 31, [], []) rfl rfl rfl ?_
        exact (k18.1 c21)
      · refine bGo hA 1 4 (39, .iload 4, 2, 21, 0, [4], []) rfl rfl rfl ?_
        refine bGo hA 1 5 (41, .ifCond .ne (7), 3, 22, 24, [], []) rfl rfl rfl ?_
        refine ⟨fun _ => ?_, fun c => absurd (by decide) c⟩
        refine bGo hA 1 6 (44, .iconst (2), 1, 23, 0, [], [(2, 0)]) rfl rfl rfl ?_
        refine bEqI bl_2 ?_
        refine bGo hA 1 7 (45, .goto (17), 3, 24, 31, [], []) rfl rfl rfl ?_
        exact (k18.2 c21)
    · refine bGo hA 0 10 (20, .iconst (1), 1, 11, 0, [], [(1, 0)]) rfl rfl rfl ?_
      refine bEqI bl_1 ?_
      refine bGo hA 0 11 (21, .goto (4), 3, 12, 13, [], []) rfl rfl rfl ?_
      refine bGo hA 0 13 (25, .istore 4, 2, 14, 0, [4], []) rfl rfl rfl ?_
      refine bGo hA 0 14 (27, .aload_n 0, 1, 15, 0, [0], []) rfl rfl rfl ?_
      refine bGo hA 0 15 (28, .iload_n 1, 1, 16, 0, [1], []) rfl rfl rfl ?_
      refine bGo hA 1 0 (29, .invokestatic 336, 3, 17, 0, [2, 201, 1], []) rfl rfl rfl ?_
      refine hC _ _ _ _ _ (bRn_e (fun r25 s23 q26 k24 => ?_)) (k13.2 c16)
      show A (17, [.ref 12, .int (bn x1), .int (bn x2), .int (bn x3), .int (bn 1)], [.int (bn r25), .ref 12], s23)
      refine bGo hA 1 1 (32, .ifCond .ne (7), 3, 18, 20, [], []) rfl rfl rfl ?_
      refine bB_eq0 (x := r25) q26 (fun c27 => ?_) (fun c27 => ?_)
      · refine bGo hA 1 2 (35, .iconst (1), 1, 19, 0, [], [(1, 0)]) rfl rfl rfl ?_
        refine bEqI bl_1 ?_
        refine bGo hA 1 3 (36, .goto (26), 3, 20, 31, [], []) rfl rfl rfl ?_
        exact (k24.1 c27)
      · refine bGo hA 1 4 (39, .iload 4, 2, 21, 0, [4], []) rfl rfl rfl ?_
        refine bGo hA 1 5 (41, .ifCond .ne (7), 3, 22, 24, [], []) rfl rfl rfl ?_
        refine ⟨fun c => absurd c (by decide), fun _ => ?_⟩
        refine bGo hA 1 8 (48, .aload_n 0, 1, 25, 0, [0], []) rfl rfl rfl ?_
        refine bGo hA 1 9 (49, .getfield 380, 3, 26, 0, [12, 22, 0, 0, 0, 0], []) rfl rfl rfl ?_
        refine ⟨rfl, ?_⟩
        refine bEqI (bn_bi s23 12 22) ?_
        refine bGo hA 1 10 (52, .bipush (16), 2, 27, 0, [], [(16, 0)]) rfl rfl rfl ?_
        refine bEqI bl_16 ?_
        refine bGo hA 1 11 (54, .if_icmp .ne (7), 3, 28, 30, [], []) rfl rfl rfl ?_
        refine bB_eq (x := (bi s23 12 22)) (y := 16) (bi_rg _ _ _) (by decide : bRg 16) (fun c29 => ?_) (fun c29 => ?_)
        · refine bGo hA 1 12 (57, .iconst (3), 1, 29, 0, [], [(3, 0)]) rfl rfl rfl ?_
          refine bEqI bl_3 ?_
          refine bGo hA 1 13 (58, .goto (4), 3, 30, 31, [], []) rfl rfl rfl ?_
          exact ((k24.2 c27).1 c29)
        · refine bGo hA 1 14 (61, .iconst (0), 1, 31, 0, [], [(0, 0)]) rfl rfl rfl ?_
          refine bEqI bl_0 ?_
          exact ((k24.2 c27).2 c29)

theorem sq226_31 {lvl : Nat} {C : bCall} {Q : bPost} {A : bPt → Prop} (hC : bMono C) (hA : bClosed lvl bm226 C Q A) {l1 : Int} {l2 : Int} {l3 : Int} {v4 : Value} {t0 : Int} {σ : bSt}  (h_l1 : bRg l1) (h_l2 : bRg l2) (h_l3 : bRg l3) (h_t0 : bRg t0)
  (h : (C 197 [.ref 12, .int (bn t0)] σ (bRn (fun r3 s1 => ((r3 = 0 → ((0 ≤ (bi s1 12 22) ∧ (bi s1 12 22) < 16) ∧ (bRg ((bi s1 12 22) + 1) ∧ (bRg (((bi s1 12 22) + 1) - 1) ∧ Q (.inl (some (.int (bn (((bi s1 12 22) + 1) - 1))))) (bw (bw (bw (bw (bw (bw (bw (bw s1 75 (bi s1 12 22) l1) 76 (bi s1 12 22) l2) 77 (bi s1 12 22) l3) 78 (bi s1 12 22) (-1)) 80 (bi s1 12 22) (-1)) 81 (bi s1 12 22) (-1)) 90 (bi s1 12 22) 1) 12 22 ((bi s1 12 22) + 1)))))) ∧ (¬ r3 = 0 → Q (.inl (some (.int (bn 0)))) s1)))))) : A (31, [.ref 12, .int (bn l1), .int (bn l2), .int (bn l3), v4], [.int (bn t0), .ref 12], σ) := by
  refine bGo hA 1 15 (62, .invokevirtual 333, 3, 32, 0, [0, 12, 197, 1], []) rfl rfl rfl ?_
  refine ⟨rfl, ?_⟩
  refine hC _ _ _ _ _ (bRn_e (fun r3 s1 q4 k2 => ?_)) h
  show A (32, [.ref 12, .int (bn l1), .int (bn l2), .int (bn l3), v4], [.int (bn r3)], s1)
  refine bGo hA 2 0 (65, .ifCond .eq (5), 3, 33, 35, [], []) rfl rfl rfl ?_
  refine bB_eq0 (x := r3) q4 (fun c5 => ?_) (fun c5 => ?_)
  · refine bGo hA 2 3 (70, .aload_n 0, 1, 36, 0, [0], []) rfl rfl rfl ?_
    refine bGo hA 2 4 (71, .getfield 68, 3, 37, 0, [12, 23, 3, 75, 1, 0], []) rfl rfl rfl ?_
    refine ⟨rfl, ?_⟩
    refine bGo hA 2 5 (74, .aload_n 0, 1, 38, 0, [0], []) rfl rfl rfl ?_
    refine bGo hA 2 6 (75, .getfield 380, 3, 39, 0, [12, 22, 0, 0, 0, 0], []) rfl rfl rfl ?_
    refine ⟨rfl, ?_⟩
    refine bEqI (bn_bi s1 12 22) ?_
    refine bGo hA 2 7 (78, .iload_n 1, 1, 40, 0, [1], []) rfl rfl rfl ?_
    refine bGo hA 2 8 (79, .iastore, 1, 41, 0, [], []) rfl rfl rfl ?_
    refine ⟨rfl, (bIxP (x := (bi s1 12 22)) (n := 16) (bi_rg _ _ _) (k2.1 c5).1), by decide, ?_⟩
    refine bEqS (x := (bi s1 12 22)) (bi_rg _ _ _) ?_
    refine bGo hA 2 9 (80, .aload_n 0, 1, 42, 0, [0], []) rfl rfl rfl ?_
    refine bGo hA 2 10 (81, .getfield 71, 3, 43, 0, [12, 24, 3, 76, 1, 0], []) rfl rfl rfl ?_
    refine ⟨rfl, ?_⟩
    refine bGo hA 2 11 (84, .aload_n 0, 1, 44, 0, [0], []) rfl rfl rfl ?_
    refine bGo hA 2 12 (85, .getfield 380, 3, 45, 0, [12, 22, 0, 0, 0, 0], []) rfl rfl rfl ?_
    refine ⟨rfl, ?_⟩
    refine bEqI ((bn_bi (bw s1 75 (bi s1 12 22) l1) 12 22).trans (congrArg bn (bi_ne (by decide)))) ?_
    refine bGo hA 2 13 (88, .iload_n 2, 1, 46, 0, [2], []) rfl rfl rfl ?_
    refine bGo hA 2 14 (89, .iastore, 1, 47, 0, [], []) rfl rfl rfl ?_
    refine ⟨rfl, (bIxP (x := (bi s1 12 22)) (n := 16) (bi_rg _ _ _) (k2.1 c5).1), by decide, ?_⟩
    refine bEqS (x := (bi s1 12 22)) (bi_rg _ _ _) ?_
    refine bGo hA 2 15 (90, .aload_n 0, 1, 48, 0, [0], []) rfl rfl rfl ?_
    refine bGo hA 3 0 (91, .getfield 74, 3, 49, 0, [12, 25, 3, 77, 1, 0], []) rfl rfl rfl ?_
    refine ⟨rfl, ?_⟩
    refine bGo hA 3 1 (94, .aload_n 0, 1, 50, 0, [0], []) rfl rfl rfl ?_
    refine bGo hA 3 2 (95, .getfield 380, 3, 51, 0, [12, 22, 0, 0, 0, 0], []) rfl rfl rfl ?_
    refine ⟨rfl, ?_⟩
    refine bEqI ((bn_bi (bw (bw s1 75 (bi s1 12 22) l1) 76 (bi s1 12 22) l2) 12 22).trans (congrArg bn ((bi_ne (by decide)).trans (bi_ne (by decide))))) ?_
    refine bGo hA 3 3 (98, .iload_n 3, 1, 52, 0, [3], []) rfl rfl rfl ?_
    refine bGo hA 3 4 (99, .iastore, 1, 53, 0, [], []) rfl rfl rfl ?_
    refine ⟨rfl, (bIxP (x := (bi s1 12 22)) (n := 16) (bi_rg _ _ _) (k2.1 c5).1), by decide, ?_⟩
    refine bEqS (x := (bi s1 12 22)) (bi_rg _ _ _) ?_
    refine bGo hA 3 5 (100, .aload_n 0, 1, 54, 0, [0], []) rfl rfl rfl ?_
    refine bGo hA 3 6 (101, .getfield 77, 3, 55, 0, [12, 26, 3, 78, 1, 0], []) rfl rfl rfl ?_
    refine ⟨rfl, ?_⟩
    refine bGo hA 3 7 (104, .aload_n 0, 1, 56, 0, [0], []) rfl rfl rfl ?_
    refine bGo hA 3 8 (105, .getfield 380, 3, 57, 0, [12, 22, 0, 0, 0, 0], []) rfl rfl rfl ?_
    refine ⟨rfl, ?_⟩
    refine bEqI ((bn_bi (bw (bw (bw s1 75 (bi s1 12 22) l1) 76 (bi s1 12 22) l2) 77 (bi s1 12 22) l3) 12 22).trans (congrArg bn (((bi_ne (by decide)).trans (bi_ne (by decide))).trans (bi_ne (by decide))))) ?_
    refine bGo hA 3 9 (108, .iconst (-1), 1, 58, 0, [], [(-1, 0)]) rfl rfl rfl ?_
    refine bEqI bl_m1 ?_
    refine bGo hA 3 10 (109, .iastore, 1, 59, 0, [], []) rfl rfl rfl ?_
    refine ⟨rfl, (bIxP (x := (bi s1 12 22)) (n := 16) (bi_rg _ _ _) (k2.1 c5).1), by decide, ?_⟩
    refine bEqS (x := (bi s1 12 22)) (bi_rg _ _ _) ?_
    refine bGo hA 3 11 (110, .aload_n 0, 1, 60, 0, [0], []) rfl rfl rfl ?_
    refine bGo hA 3 12 (111, .getfield 83, 3, 61, 0, [12, 28, 3, 80, 1, 0], []) rfl rfl rfl ?_
    refine ⟨rfl, ?_⟩
    refine bGo hA 3 13 (114, .aload_n 0, 1, 62, 0, [0], []) rfl rfl rfl ?_
    refine bGo hA 3 14 (115, .getfield 380, 3, 63, 0, [12, 22, 0, 0, 0, 0], []) rfl rfl rfl ?_
    refine ⟨rfl, ?_⟩
    refine bEqI ((bn_bi (bw (bw (bw (bw s1 75 (bi s1 12 22) l1) 76 (bi s1 12 22) l2) 77 (bi s1 12 22) l3) 78 (bi s1 12 22) (-1)) 12 22).trans (congrArg bn ((((bi_ne (by decide)).trans (bi_ne (by decide))).trans (bi_ne (by decide))).trans (bi_ne (by decide))))) ?_
    refine bGo hA 3 15 (118, .iconst (-1), 1, 64, 0, [], [(-1, 0)]) rfl rfl rfl ?_
    refine bEqI bl_m1 ?_
    refine bGo hA 4 0 (119, .iastore, 1, 65, 0, [], []) rfl rfl rfl ?_
    refine ⟨rfl, (bIxP (x := (bi s1 12 22)) (n := 16) (bi_rg _ _ _) (k2.1 c5).1), by decide, ?_⟩
    refine bEqS (x := (bi s1 12 22)) (bi_rg _ _ _) ?_
    refine bGo hA 4 1 (120, .aload_n 0, 1, 66, 0, [0], []) rfl rfl rfl ?_
    refine bGo hA 4 2 (121, .getfield 86, 3, 67, 0, [12, 29, 3, 81, 1, 0], []) rfl rfl rfl ?_
    refine ⟨rfl, ?_⟩
    refine bGo hA 4 3 (124, .aload_n 0, 1, 68, 0, [0], []) rfl rfl rfl ?_
    refine bGo hA 4 4 (125, .getfield 380, 3, 69, 0, [12, 22, 0, 0, 0, 0], []) rfl rfl rfl ?_
    refine ⟨rfl, ?_⟩
    refine bEqI ((bn_bi (bw (bw (bw (bw (bw s1 75 (bi s1 12 22) l1) 76 (bi s1 12 22) l2) 77 (bi s1 12 22) l3) 78 (bi s1 12 22) (-1)) 80 (bi s1 12 22) (-1)) 12 22).trans (congrArg bn (((((bi_ne (by decide)).trans (bi_ne (by decide))).trans (bi_ne (by decide))).trans (bi_ne (by decide))).trans (bi_ne (by decide))))) ?_
    refine bGo hA 4 5 (128, .iconst (-1), 1, 70, 0, [], [(-1, 0)]) rfl rfl rfl ?_
    refine bEqI bl_m1 ?_
    refine bGo hA 4 6 (129, .iastore, 1, 71, 0, [], []) rfl rfl rfl ?_
    refine ⟨rfl, (bIxP (x := (bi s1 12 22)) (n := 16) (bi_rg _ _ _) (k2.1 c5).1), by decide, ?_⟩
    refine bEqS (x := (bi s1 12 22)) (bi_rg _ _ _) ?_
    refine bGo hA 4 7 (130, .aload_n 0, 1, 72, 0, [0], []) rfl rfl rfl ?_
    refine bGo hA 4 8 (131, .getfield 113, 3, 73, 0, [12, 38, 3, 90, 1, 0], []) rfl rfl rfl ?_
    refine ⟨rfl, ?_⟩
    refine bGo hA 4 9 (134, .aload_n 0, 1, 74, 0, [0], []) rfl rfl rfl ?_
    refine bGo hA 4 10 (135, .getfield 380, 3, 75, 0, [12, 22, 0, 0, 0, 0], []) rfl rfl rfl ?_
    refine ⟨rfl, ?_⟩
    refine bEqI ((bn_bi (bw (bw (bw (bw (bw (bw s1 75 (bi s1 12 22) l1) 76 (bi s1 12 22) l2) 77 (bi s1 12 22) l3) 78 (bi s1 12 22) (-1)) 80 (bi s1 12 22) (-1)) 81 (bi s1 12 22) (-1)) 12 22).trans (congrArg bn ((((((bi_ne (by decide)).trans (bi_ne (by decide))).trans (bi_ne (by decide))).trans (bi_ne (by decide))).trans (bi_ne (by decide))).trans (bi_ne (by decide))))) ?_
    refine bGo hA 4 11 (138, .iconst (1), 1, 76, 0, [], [(1, 0)]) rfl rfl rfl ?_
    refine bEqI bl_1 ?_
    refine bGo hA 4 12 (139, .iastore, 1, 77, 0, [], []) rfl rfl rfl ?_
    refine ⟨rfl, (bIxP (x := (bi s1 12 22)) (n := 16) (bi_rg _ _ _) (k2.1 c5).1), by decide, ?_⟩
    refine bEqS (x := (bi s1 12 22)) (bi_rg _ _ _) ?_
    refine bGo hA 4 13 (140, .aload_n 0, 1, 78, 0, [0], []) rfl rfl rfl ?_
    refine bGo hA 4 14 (141, .dup, 1, 79, 0, [], []) rfl rfl rfl ?_
    refine bGo hA 4 15 (142, .getfield 380, 3, 80, 0, [12, 22, 0, 0, 0, 0], []) rfl rfl rfl ?_
    refine ⟨rfl, ?_⟩
    refine bEqI ((bn_bi (bw (bw (bw (bw (bw (bw (bw s1 75 (bi s1 12 22) l1) 76 (bi s1 12 22) l2) 77 (bi s1 12 22) l3) 78 (bi s1 12 22) (-1)) 80 (bi s1 12 22) (-1)) 81 (bi s1 12 22) (-1)) 90 (bi s1 12 22) 1) 12 22).trans (congrArg bn (((((((bi_ne (by decide)).trans (bi_ne (by decide))).trans (bi_ne (by decide))).trans (bi_ne (by decide))).trans (bi_ne (by decide))).trans (bi_ne (by decide))).trans (bi_ne (by decide))))) ?_
    refine bGo hA 5 0 (145, .iconst (1), 1, 81, 0, [], [(1, 0)]) rfl rfl rfl ?_
    refine bEqI bl_1 ?_
    refine bGo hA 5 1 (146, .iadd, 1, 82, 0, [], []) rfl rfl rfl ?_
    refine bEqI (bn_add (bi s1 12 22) 1) ?_
    refine bGo hA 5 2 (147, .putfield 380, 3, 83, 0, [12, 22, 0, 0, 0, 0], []) rfl rfl rfl ?_
    refine ⟨rfl, ?_⟩
    refine bGo hA 5 3 (150, .aload_n 0, 1, 84, 0, [0], []) rfl rfl rfl ?_
    refine bGo hA 5 4 (151, .getfield 380, 3, 85, 0, [12, 22, 0, 0, 0, 0], []) rfl rfl rfl ?_
    refine ⟨rfl, ?_⟩
    refine bEqI ((bn_bi (bw (bw (bw (bw (bw (bw (bw (bw s1 75 (bi s1 12 22) l1) 76 (bi s1 12 22) l2) 77 (bi s1 12 22) l3) 78 (bi s1 12 22) (-1)) 80 (bi s1 12 22) (-1)) 81 (bi s1 12 22) (-1)) 90 (bi s1 12 22) 1) 12 22 ((bi s1 12 22) + 1)) 12 22).trans (congrArg bn (bi_eq (k2.1 c5).2.1))) ?_
    refine bGo hA 5 5 (154, .iconst (1), 1, 86, 0, [], [(1, 0)]) rfl rfl rfl ?_
    refine bEqI bl_1 ?_
    refine bGo hA 5 6 (155, .isub, 1, 87, 0, [], []) rfl rfl rfl ?_
    refine bEqI (bn_sub ((bi s1 12 22) + 1) 1) ?_
    refine bGo hA 5 7 (156, .ireturn, 1, 0, 0, [1], []) rfl rfl rfl ?_
    exact (k2.1 c5).2.2.2
  · refine bGo hA 2 1 (68, .iconst (0), 1, 34, 0, [], [(0, 0)]) rfl rfl rfl ?_
    refine bEqI bl_0 ?_
    refine bGo hA 2 2 (69, .ireturn, 1, 35, 0, [1], []) rfl rfl rfl ?_
    exact (k2.2 c5)

theorem sq227_0 {lvl : Nat} {C : bCall} {Q : bPost} {A : bPt → Prop} (hC : bMono C) (hA : bClosed lvl bm227 C Q A) {x1 : Int} {x2 : Int} {x3 : Int} {σ : bSt}  (h_x1 : bRg x1) (h_x2 : bRg x2) (h_x3 : bRg x3)
  (h : (C 225 [.ref 12, .int (bn x1)] σ (bRn (fun r3 s1 => ((r3 = 0 → (C 197 [.ref 12, .int (bn 1)] s1 (bRn (fun r8 s6 => ((r8 = 0 → ((0 ≤ x1 ∧ x1 < 16) ∧ Q (.inl none) (bw (bw s6 78 x1 x2) 79 x1 x3))) ∧ (¬ r8 = 0 → Q (.inl none) s6)))))) ∧ (¬ r3 = 0 → (C 210 [.int (bn x2)] s1 (bRn (fun r13 s11 => ((r13 = 0 → (C 197 [.ref 12, .int (bn 1)] s11 (bRn (fun r18 s16 => ((r18 = 0 → ((0 ≤ x1 ∧ x1 < 16) ∧ Q (.inl none) (bw (bw s16 78 x1 x2) 79 x1 x3))) ∧ (¬ r18 = 0 → Q (.inl none) s16)))))) ∧ (¬ r13 = 0 → (C 211 [.int (bn x3)] s11 (bRn (fun r23 s21 => ((r23 = 0 → (C 197 [.ref 12, .int (bn 1)] s21 (bRn (fun r28 s26 => ((r28 = 0 → ((0 ≤ x1 ∧ x1 < 16) ∧ Q (.inl none) (bw (bw s26 78 x1 x2) 79 x1 x3))) ∧ (¬ r28 = 0 → Q (.inl none) s26)))))) ∧ (¬ r23 = 0 → (C 197 [.ref 12, .int (bn 0)] s21 (bRn (fun r33 s31 => ((r33 = 0 → ((0 ≤ x1 ∧ x1 < 16) ∧ Q (.inl none) (bw (bw s31 78 x1 x2) 79 x1 x3))) ∧ (¬ r33 = 0 → Q (.inl none) s31))))))))))))))))))))) : A (0, [.ref 12, .int (bn x1), .int (bn x2), .int (bn x3)], [], σ) := by
  refine bGo hA 0 0 (0, .aload_n 0, 1, 1, 0, [0], []) rfl rfl rfl ?_
  refine bGo hA 0 1 (1, .aload_n 0, 1, 2, 0, [0], []) rfl rfl rfl ?_
  refine bGo hA 0 2 (2, .iload_n 1, 1, 3, 0, [1], []) rfl rfl rfl ?_
  refine bGo hA 0 3 (3, .invokevirtual 383, 3, 4, 0, [0, 12, 225, 1], []) rfl rfl rfl ?_
  refine ⟨rfl, ?_⟩
  refine hC _ _ _ _ _ (bRn_e (fun r3 s1 q4 k2 => ?_)) h
  show A (4, [.ref 12, .int (bn x1), .int (bn x2), .int (bn x3)], [.int (bn r3), .ref 12], s1)
  refine bGo hA 0 4 (6, .ifCond .eq (21), 3, 5, 13, [], []) rfl rfl rfl ?_
  refine bB_eq0 (x := r3) q4 (fun c5 => ?_) (fun c5 => ?_)
  · refine bGo hA 0 13 (27, .iconst (1), 1, 14, 0, [], [(1, 0)]) rfl rfl rfl ?_
    refine bEqI bl_1 ?_
    refine bGo hA 0 14 (28, .invokevirtual 333, 3, 15, 0, [0, 12, 197, 1], []) rfl rfl rfl ?_
    refine ⟨rfl, ?_⟩
    refine hC _ _ _ _ _ (bRn_e (fun r8 s6 q9 k7 => ?_)) (k2.1 c5)
    show A (15, [.ref 12, .int (bn x1), .int (bn x2), .int (bn x3)], [.int (bn r8)], s6)
    refine bGo hA 0 15 (31, .ifCond .ne (17), 3, 16, 26, [], []) rfl rfl rfl ?_
    refine bB_eq0 (x := r8) q9 (fun c10 => ?_) (fun c10 => ?_)
    · refine bGo hA 1 0 (34, .aload_n 0, 1, 17, 0, [0], []) rfl rfl rfl ?_
      refine bGo hA 1 1 (35, .getfield 77, 3, 18, 0, [12, 26, 3, 78, 1, 0], []) rfl rfl rfl ?_
      refine ⟨rfl, ?_⟩
      refine bGo hA 1 2 (38, .iload_n 1, 1, 19, 0, [1], []) rfl rfl rfl ?_
      refine bGo hA 1 3 (39, .iload_n 2, 1, 20, 0, [2], []) rfl rfl rfl ?_
      refine bGo hA 1 4 (40, .iastore, 1, 21, 0, [], []) rfl rfl rfl ?_
      refine ⟨rfl, (bIxP (x := x1) (n := 16) h_x1 (k7.1 c10).1), by decide, ?_⟩
      refine bEqS (x := x1) h_x1 ?_
      refine bGo hA 1 5 (41, .aload_n 0, 1, 22, 0, [0], []) rfl rfl rfl ?_
      refine bGo hA 1 6 (42, .getfield 80, 3, 23, 0, [12, 27, 3, 79, 1, 0], []) rfl rfl rfl ?_
      refine ⟨rfl, ?_⟩
      refine bGo hA 1 7 (45, .iload_n 1, 1, 24, 0, [1], []) rfl rfl rfl ?_
      refine bGo hA 1 8 (46, .iload_n 3, 1, 25, 0, [3], []) rfl rfl rfl ?_
      refine bGo hA 1 9 (47, .iastore, 1, 26, 0, [], []) rfl rfl rfl ?_
      refine ⟨rfl, (bIxP (x := x1) (n := 16) h_x1 (k7.1 c10).1), by decide, ?_⟩
      refine bEqS (x := x1) h_x1 ?_
      refine bGo hA 1 10 (48, .return_, 1, 0, 0, [0], []) rfl rfl rfl ?_
      exact (k7.1 c10).2
    · refine bGo hA 1 10 (48, .return_, 1, 0, 0, [0], []) rfl rfl rfl ?_
      exact (k7.2 c10)
  · refine bGo hA 0 5 (9, .iload_n 2, 1, 6, 0, [2], []) rfl rfl rfl ?_
    refine bGo hA 0 6 (10, .invokestatic 350, 3, 7, 0, [2, 210, 1], []) rfl rfl rfl ?_
    refine hC _ _ _ _ _ (bRn_e (fun r13 s11 q14 k12 => ?_)) (k2.2 c5)
    show A (7, [.ref 12, .int (bn x1), .int (bn x2), .int (bn x3)], [.int (bn r13), .ref 12], s11)
    refine bGo hA 0 7 (13, .ifCond .eq (14), 3, 8, 13, [], []) rfl rfl rfl ?_
    refine bB_eq0 (x := r13) q14 (fun c15 => ?_) (fun c15 => ?_)
    · refine bGo hA 0 13 (27, .iconst (1), 1, 14, 0, [], [(1, 0)]) rfl rfl rfl ?_
      refine bEqI bl_1 ?_
      refine bGo hA 0 14 (28, .invokevirtual 333, 3, 15, 0, [0, 12, 197, 1], []) rfl rfl rfl ?_
      refine ⟨rfl, ?_⟩
      refine hC _ _ _ _ _ (bRn_e (fun r18 s16 q19 k17 => ?_)) (k12.1 c15)
      show A (15, [.ref 12, .int (bn x1), .int (bn x2), .int (bn x3)], [.int (bn r18)], s16)
      refine bGo hA 0 15 (31, .ifCond .ne (17), 3, 16, 26, [], []) rfl rfl rfl ?_
      refine bB_eq0 (x := r18) q19 (fun c20 => ?_) (fun c20 => ?_)
      · refine bGo hA 1 0 (34, .aload_n 0, 1, 17, 0, [0], []) rfl rfl rfl ?_
        refine bGo hA 1 1 (35, .getfield 77, 3, 18, 0, [12, 26, 3, 78, 1, 0], []) rfl rfl rfl ?_
        refine ⟨rfl, ?_⟩
        refine bGo hA 1 2 (38, .iload_n 1, 1, 19, 0, [1], []) rfl rfl rfl ?_
        refine bGo hA 1 3 (39, .iload_n 2, 1, 20, 0, [2], []) rfl rfl rfl ?_
        refine bGo hA 1 4 (40, .iastore, 1, 21, 0, [], []) rfl rfl rfl ?_
        refine ⟨rfl, (bIxP (x := x1) (n := 16) h_x1 (k17.1 c20).1), by decide, ?_⟩
        refine bEqS (x := x1) h_x1 ?_
        refine bGo hA 1 5 (41, .aload_n 0, 1, 22, 0, [0], []) rfl rfl rfl ?_
        refine bGo hA 1 6 (42, .getfield 80, 3, 23, 0, [12, 27, 3, 79, 1, 0], []) rfl rfl rfl ?_
        refine ⟨rfl, ?_⟩
        refine bGo hA 1 7 (45, .iload_n 1, 1, 24, 0, [1], []) rfl rfl rfl ?_
        refine bGo hA 1 8 (46, .iload_n 3, 1, 25, 0, [3], []) rfl rfl rfl ?_
        refine bGo hA 1 9 (47, .iastore, 1, 26, 0, [], []) rfl rfl rfl ?_
        refine ⟨rfl, (bIxP (x := x1) (n := 16) h_x1 (k17.1 c20).1), by decide, ?_⟩
        refine bEqS (x := x1) h_x1 ?_
        refine bGo hA 1 10 (48, .return_, 1, 0, 0, [0], []) rfl rfl rfl ?_
        exact (k17.1 c20).2
      · refine bGo hA 1 10 (48, .return_, 1, 0, 0, [0], []) rfl rfl rfl ?_
        exact (k17.2 c20)
    · refine bGo hA 0 8 (16, .iload_n 3, 1, 9, 0, [3], []) rfl rfl rfl ?_
      refine bGo hA 0 9 (17, .invokestatic 353, 3, 10, 0, [2, 211, 1], []) rfl rfl rfl ?_
      refine hC _ _ _ _ _ (bRn_e (fun r23 s21 q24 k22 => ?_)) (k12.2 c15)
      show A (10, [.ref 12, .int (bn x1), .int (bn x2), .int (bn x3)], [.int (bn r23), .ref 12], s21)
      refine bGo hA 0 10 (20, .ifCond .eq (7), 3, 11, 13, [], []) rfl rfl rfl ?_
      refine bB_eq0 (x := r23) q24 (fun c25 => ?_) (fun c25 => ?_)
      · refine bGo hA 0 13 (27, .iconst (1), 1, 14, 0, [], [(1, 0)]) rfl rfl rfl ?_
        refine bEqI bl_1 ?_
        refine bGo hA 0 14 (28, .invokevirtual 333, 3, 15, 0, [0, 12, 197, 1], []) rfl rfl rfl ?_
        refine ⟨rfl, ?_⟩
        refine hC _ _ _ _ _ (bRn_e (fun r28 s26 q29 k27 => ?_)) (k22.1 c25)
        show A (15, [.ref 12, .int (bn x1), .int (bn x2), .int (bn x3)], [.int (bn r28)], s26)
        refine bGo hA 0 15 (31, .ifCond .ne (17), 3, 16, 26, [], []) rfl rfl rfl ?_
        refine bB_eq0 (x := r28) q29 (fun c30 => ?_) (fun c30 => ?_)
        · refine bGo hA 1 0 (34, .aload_n 0, 1, 17, 0, [0], []) rfl rfl rfl ?_
          refine bGo hA 1 1 (35, .getfield 77, 3, 18, 0, [12, 26, 3, 78, 1, 0], []) rfl rfl rfl ?_
          refine ⟨rfl, ?_⟩
          refine bGo hA 1 2 (38, .iload_n 1, 1, 19, 0, [1], []) rfl rfl rfl ?_
          refine bGo hA 1 3 (39, .iload_n 2, 1, 20, 0, [2], []) rfl rfl rfl ?_
          refine bGo hA 1 4 (40, .iastore, 1, 21, 0, [], []) rfl rfl rfl ?_
          refine ⟨rfl, (bIxP (x := x1) (n := 16) h_x1 (k27.1 c30).1), by decide, ?_⟩
          refine bEqS (x := x1) h_x1 ?_
          refine bGo hA 1 5 (41, .aload_n 0, 1, 22, 0, [0], []) rfl rfl rfl ?_
          refine bGo hA 1 6 (42, .getfield 80, 3, 23, 0, [12, 27, 3, 79, 1, 0], []) rfl rfl rfl ?_
          refine ⟨rfl, ?_⟩
          refine bGo hA 1 7 (45, .iload_n 1, 1, 24, 0, [1], []) rfl rfl rfl ?_
          refine bGo hA 1 8 (46, .iload_n 3, 1, 25, 0, [3], []) rfl rfl rfl ?_
          refine bGo hA 1 9 (47, .iastore, 1, 26, 0, [], []) rfl rfl rfl ?_
          refine ⟨rfl, (bIxP (x := x1) (n := 16) h_x1 (k27.1 c30).1), by decide, ?_⟩
          refine bEqS (x := x1) h_x1 ?_
          refine bGo hA 1 10 (48, .return_, 1, 0, 0, [0], []) rfl rfl rfl ?_
          exact (k27.1 c30).2
        · refine bGo hA 1 10 (48, .return_, 1, 0, 0, [0], []) rfl rfl rfl ?_
          exact (k27.2 c30)
      · refine bGo hA 0 11 (23, .iconst (0), 1, 12, 0, [], [(0, 0)]) rfl rfl rfl ?_
        refine bEqI bl_0 ?_
        refine bGo hA 0 12 (24, .goto (4), 3, 13, 14, [], []) rfl rfl rfl ?_
        refine bGo hA 0 14 (28, .invokevirtual 333, 3, 15, 0, [0, 12, 197, 1], []) rfl rfl rfl ?_
        refine ⟨rfl, ?_⟩
        refine hC _ _ _ _ _ (bRn_e (fun r33 s31 q34 k32 => ?_)) (k22.2 c25)
        show A (15, [.ref 12, .int (bn x1), .int (bn x2), .int (bn x3)], [.int (bn r33)], s31)
        refine bGo hA 0 15 (31, .ifCond .ne (17), 3, 16, 26, [], []) rfl rfl rfl ?_
        refine bB_eq0 (x := r33) q34 (fun c35 => ?_) (fun c35 => ?_)
        · refine bGo hA 1 0 (34, .aload_n 0, 1, 17, 0, [0], []) rfl rfl rfl ?_
          refine bGo hA 1 1 (35, .getfield 77, 3, 18, 0, [12, 26, 3, 78, 1, 0], []) rfl rfl rfl ?_
          refine ⟨rfl, ?_⟩
          refine bGo hA 1 2 (38, .iload_n 1, 1, 19, 0, [1], []) rfl rfl rfl ?_
          refine bGo hA 1 3 (39, .iload_n 2, 1, 20, 0, [2], []) rfl rfl rfl ?_
          refine bGo hA 1 4 (40, .iastore, 1, 21, 0, [], []) rfl rfl rfl ?_
          refine ⟨rfl, (bIxP (x := x1) (n := 16) h_x1 (k32.1 c35).1), by decide, ?_⟩
          refine bEqS (x := x1) h_x1 ?_
          refine bGo hA 1 5 (41, .aload_n 0, 1, 22, 0, [0], []) rfl rfl rfl ?_
          refine bGo hA 1 6 (42, .getfield 80, 3, 23, 0, [12, 27, 3, 79, 1, 0], []) rfl rfl rfl ?_
          refine ⟨rfl, ?_⟩
          refine bGo hA 1 7 (45, .iload_n 1, 1, 24, 0, [1], []) rfl rfl rfl ?_
          refine bGo hA 1 8 (46, .iload_n 3, 1, 25, 0, [3], []) rfl rfl rfl ?_
          refine bGo hA 1 9 (47, .iastore, 1, 26, 0, [], []) rfl rfl rfl ?_
          refine ⟨rfl, (bIxP (x := x1) (n := 16) h_x1 (k32.1 c35).1), by decide, ?_⟩
          refine bEqS (x := x1) h_x1 ?_
          refine bGo hA 1 10 (48, .return_, 1, 0, 0, [0], []) rfl rfl rfl ?_
          exact (k32.1 c35).2
        · refine bGo hA 1 10 (48, .return_, 1, 0, 0, [0], []) rfl rfl rfl ?_
          exact (k32.2 c35)

theorem sq228_0 {lvl : Nat} {C : bCall} {Q : bPost} {A : bPt → Prop} (hC : bMono C) (hA : bClosed lvl bm228 C Q A) {x1 : Int} {x2 : Int} {x3 : Int} {x4 : Int} {σ : bSt}  (h_x1 : bRg x1) (h_x2 : bRg x2) (h_x3 : bRg x3) (h_x4 : bRg x4)
  (h : (C 225 [.ref 12, .int (bn x1)] σ (bRn (fun r3 s1 => ((r3 = 0 → A (12, [.ref 12, .int (bn x1), .int (bn x2), .int (bn x3), .int (bn x4), .float 0, .float 0, .float 0], [.int (bn 0)], s1)) ∧ (¬ r3 = 0 → (C 199 [.int (bn x2), .int (bn 0), .int (bn 3)] s1 (bRn (fun r8 s6 => ((r8 = 0 → A (12, [.ref 12, .int (bn x1), .int (bn x2), .int (bn x3), .int (bn x4), .float 0, .float 0, .float 0], [.int (bn 0)], s6)) ∧ (¬ r8 = 0 → A (12, [.ref 12, .int (bn x1), .int (bn x2), .int (bn x3), .int (bn x4), .float 0, .float 0, .float 0], [.int (bn 1)], s6)))))))))))) : A (0, [.ref 12, .int (bn x1), .int (bn x2), .int (bn x3), .int (bn x4), .float 0, .float 0, .float 0], [], σ) := by
  refine bGo hA 0 0 (0, .aload_n 0, 1, 1, 0, [0], []) rfl rfl rfl ?_
  refine bGo hA 0 1 (1, .iload_n 1, 1, 2, 0, [1], []) rfl rfl rfl ?_
  refine bGo hA 0 2 (2, .invokevirtual 383, 3, 3, 0, [0, 12, 225, 1], []) rfl rfl rfl ?_
  refine ⟨rfl, ?_⟩
  refine hC _ _ _ _ _ (bRn_e (fun r3 s1 q4 k2 => ?_)) h
  show A (3, [.ref 12, .int (bn x1), .int (bn x2), .int (bn x3), .int (bn x4), .float 0, .float 0, .float 0], [.int (bn r3)], s1)
  refine bGo hA 0 3 (5, .ifCond .eq (16), 3, 4, 11, [], []) rfl rfl rfl ?_
  refine bB_eq0 (x := r3) q4 (fun c5 => ?_) (fun c5 => ?_)
  · refine bGo hA 0 11 (21, .iconst (0), 1, 12, 0, [], [(0, 0)]) rfl rfl rfl ?_
    refine bEqI bl_0 ?_
    exact (k2.1 c5)
  · refine bGo hA 0 4 (8, .iload_n 2, 1, 5, 0, [2], []) rfl rfl rfl ?_
    refine bGo hA 0 5 (9, .iconst (0), 1, 6, 0, [], [(0, 0)]) rfl rfl rfl ?_
    refine bEqI bl_0 ?_
    refine bGo hA 0 6 (10, .iconst (3), 1, 7, 0, [], [(3, 0)]) rfl rfl rfl ?_
    refine bEqI bl_3 ?_
    refine bGo hA 0 7 (11, .invokestatic 325, 3, 8, 0, [2, 199, 3], []) rfl rfl rfl ?_
    refine hC _ _ _ _ _ (bRn_e (fun r8 s6 q9 k7 => ?_)) (k2.2 c5)
    show A (8, [.ref 12, .int (bn x1), .int (bn x2), .int (bn x3), .int (bn x4), .float 0, .float 0, .float 0], [.int (bn r8)], s6)
    refine bGo hA 0 8 (14, .ifCond .eq (7), 3, 9, 11, [], []) rfl rfl rfl ?_
    refine bB_eq0 (x := r8) q9 (fun c10 => ?_) (fun c10 => ?_)
    · refine bGo hA 0 11 (21, .iconst (0), 1, 12, 0, [], [(0, 0)]) rfl rfl rfl ?_
      refine bEqI bl_0 ?_
      exact (k7.1 c10)
    · refine bGo hA 0 9 (17, .iconst (1), 1, 10, 0, [], [(1, 0)]) rfl rfl rfl ?_
      refine bEqI bl_1 ?_
      refine bGo hA 0 10 (18, .goto (4), 3, 11, 12, [], []) rfl rfl rfl ?_
      exact (k7.2 c10)

theorem sq228_12 {lvl : Nat} {C : bCall} {Q : bPost} {A : bPt → Prop} (hC : bMono C) (hA : bClosed lvl bm228 C Q A) {l1 : Int} {l2 : Int} {l3 : Int} {l4 : Int} {v5 : Value} {v6 : Value} {v7 : Value} {t0 : Int} {σ : bSt}  (h_l1 : bRg l1) (h_l2 : bRg l2) (h_l3 : bRg l3) (h_l4 : bRg l4) (h_t0 : bRg t0)
  (h : (C 199 [.int (bn l3), .int (bn 0), .int (bn 3)] σ (bRn (fun r3 s1 => ((r3 = 0 → ((t0 = 0 → A (45, [.ref 12, .int (bn l1), .int (bn l2), .int (bn l3), .int (bn l4), .int (bn t0), .int (bn 0), v7], [.int (bn 1), .ref 12], s1)) ∧ (¬ t0 = 0 → A (45, [.ref 12, .int (bn l1), .int (bn l2), .int (bn l3), .int (bn l4), .int (bn t0), .int (bn 0), v7], [.int (bn 2), .ref 12], s1)))) ∧ (¬ r3 = 0 → (C 199 [.int (bn l4), .int (bn 0), .int (bn 999)] s1 (bRn (fun r10 s8 => ((r10 = 0 → ((t0 = 0 → A (45, [.ref 12, .int (bn l1), .int (bn l2), .int (bn l3), .int (bn l4), .int (bn t0), .int (bn 0), v7], [.int (bn 1), .ref 12], s8)) ∧ (¬ t0 = 0 → A (45, [.ref 12, .int (bn l1), .int (bn l2), .int (bn l3), .int (bn l4), .int (bn t0), .int (bn 0), v7], [.int (bn 2), .ref 12], s8)))) ∧ (¬ r10 = 0 → ((t0 = 0 → A (45, [.ref 12, .int (bn l1), .int (bn l2), .int (bn l3), .int (bn l4), .int (bn t0), .int (bn 1), v7], [.int (bn 1), .ref 12], s8)) ∧ (¬ t0 = 0 → ((0 ≤ l1 ∧ l1 < 16) ∧ (((bi s8 83 l1) = 4 → A (45, [.ref 12, .int (bn l1), .int (bn l2), .int (bn l3), .int (bn l4), .int (bn t0), .int (bn 1), v7], [.int (bn 3), .ref 12], s8)) ∧ (¬ (bi s8 83 l1) = 4 → A (45, [.ref 12, .int (bn l1), .int (bn l2), .int (bn l3), .int (bn l4), .int (bn t0), .int (bn 1), v7], [.int (bn 0), .ref 12], s8))))))))))))))))) : A (12, [.ref 12, .int (bn l1), .int (bn l2), .int (bn l3), .int (bn l4), v5, v6, v7], [.int (bn t0)], σ) := by
  refine bGo hA 0 12 (22, .istore 5, 2, 13, 0, [5], []) rfl rfl rfl ?_
  refine bGo hA 0 13 (24, .iload_n 3, 1, 14, 0, [3], []) rfl rfl rfl ?_
  refine bGo hA 0 14 (25, .iconst (0), 1, 15, 0, [], [(0, 0)]) rfl rfl rfl ?_
  refine bEqI bl_0 ?_
  refine bGo hA 0 15 (26, .iconst (3), 1, 16, 0, [], [(3, 0)]) rfl rfl rfl ?_
  refine bEqI bl_3 ?_
  refine bGo hA 1 0 (27, .invokestatic 325, 3, 17, 0, [2, 199, 3], []) rfl rfl rfl ?_
  refine hC _ _ _ _ _ (bRn_e (fun r3 s1 q4 k2 => ?_)) h
  show A (17, [.ref 12, .int (bn l1), .int (bn l2), .int (bn l3), .int (bn l4), .int (bn t0), v6, v7], [.int (bn r3)], s1)
  refine bGo hA 1 1 (30, .ifCond .eq (19), 3, 18, 25, [], []) rfl rfl rfl ?_
  refine bB_eq0 (x := r3) q4 (fun c5 => ?_) (fun c5 => ?_)
  · refine bGo hA 1 9 (49, .iconst (0), 1, 26, 0, [], [(0, 0)]) rfl rfl rfl ?_
    refine bEqI bl_0 ?_
    refine bGo hA 1 10 (50, .istore 6, 2, 27, 0, [6], []) rfl rfl rfl ?_
    refine bGo hA 1 11 (52, .aload_n 0, 1, 28, 0, [0], []) rfl rfl rfl ?_
    refine bGo hA 1 12 (53, .iload 5, 2, 29, 0, [5], []) rfl rfl rfl ?_
    refine bGo hA 1 13 (55, .ifCond .ne (7), 3, 30, 32, [], []) rfl rfl rfl ?_
    refine bB_eq0 (x := t0) h_t0 (fun c6 => ?_) (fun c6 => ?_)
    · refine bGo hA 1 14 (58, .iconst (1), 1, 31, 0, [], [(1, 0)]) rfl rfl rfl ?_
      refine bEqI bl_1 ?_
      refine bGo hA 1 15 (59, .goto (27), 3, 32, 45, [], []) rfl rfl rfl ?_
      exact ((k2.1 c5).1 c6)
    · refine bGo hA 2 0 (62, .iload 6, 2, 33, 0, [6], []) rfl rfl rfl ?_
      refine bGo hA 2 1 (64, .ifCond .ne (7), 3, 34, 36, [], []) rfl rfl rfl ?_
      refine ⟨fun _ => ?_, fun c => absurd (by decide) c⟩
      refine bGo hA 2 2 (67, .iconst (2), 1, 35, 0, [], [(2, 0)]) rfl rfl rfl ?_
      refine bEqI bl_2 ?_
      refine bGo hA 2 3 (68, .goto (18), 3, 36, 45, [], []) rfl rfl rfl ?_
      exact ((k2.1 c5).2 c6)
  · refine bGo hA 1 2 (33, .iload 4, 2, 19, 0, [4], []) rfl rfl rfl ?_
    refine bGo hA 1 3 (35, .iconst (0), 1, 20, 0, [], [(0, 0)]) rfl rfl rfl ?_
    refine bEqI bl_0 ?_
    refine bGo hA 1 4 (36, .sipush (999), 3, 21, 0, [], [(999, 0)]) rfl rfl rfl ?_
    refine bEqI bl_999 ?_
    refine bGo hA 1 5 (39, .invokestatic 325, 3, 22, 0, [2, 199, 3], []) rfl rfl rfl ?_
    refine hC _ _ _ _ _ (bRn_e (fun r10 s8 q11 k9 => ?_)) (k2.2 c5)
    show A (22, [.ref 12, .int (bn l1), .int (bn l2), .int (bn l3), .int (bn l4), .int (bn t0), v6, v7], [.int (bn r10)], s8)
    refine bGo hA 1 6 (42, .ifCond .eq (7), 3, 23, 25, [], []) rfl rfl rfl ?_
    refine bB_eq0 (x := r10) q11 (fun c12 => ?_) (fun c12 => ?_)
    · refine bGo hA 1 9 (49, .iconst (0), 1, 26, 0, [], [(0, 0)]) rfl rfl rfl ?_
      refine bEqI bl_0 ?_
      refine bGo hA 1 10 (50, .istore 6, 2, 27, 0, [6], []) rfl rfl rfl ?_
      refine bGo hA 1 11 (52, .aload_n 0, 1, 28, 0, [0], []) rfl rfl rfl ?_
      refine bGo hA 1 12 (53, .iload 5, 2, 29, 0, [5], []) rfl rfl rfl ?_
      refine bGo hA 1 13 (55, .ifCond .ne (7), 3, 30, 32, [], []) rfl rfl rfl ?_
      refine bB_eq0 (x := t0) h_t0 (fun c13 => ?_) (fun c13 => ?_)
      · refine bGo hA 1 14 (58, .iconst (1), 1, 31, 0, [], [(1, 0)]) rfl rfl rfl ?_
        refine bEqI bl_1 ?_
        refine bGo hA 1 15 (59, .goto (27), 3, 32, 45, [], []) rfl rfl rfl ?_
        exact ((k9.1 c12).1 c13)
      · refine bGo hA 2 0 (62, .iload 6, 2, 33, 0, [6], []) rfl rfl rfl ?_
        refine bGo hA 2 1 (64, .ifCond .ne (7), 3, 34, 36, [], []) rfl rfl rfl ?_
        refine ⟨fun _ => ?_, fun c => absurd (by decide) c⟩
        refine bGo hA 2 2 (67, .iconst (2), 1, 35, 0, [], [(2, 0)]) rfl rfl rfl ?_
        refine bEqI bl_2 ?_
        refine bGo hA 2 3 (68, .goto (18), 3, 36, 45, [], []) rfl rfl rfl ?_
        exact ((k9.1 c12).2 c13)
    · refine bGo hA 1 7 (45, .iconst (1), 1, 24, 0, [], [(1, 0)]) rfl rfl rfl ?_
      refine bEqI bl_1 ?_
      refine bGo hA 1 8 (46, .goto (4), 3, 25, 26, [], []) rfl rfl rfl ?_
      refine bGo hA 1 10 (50, .istore 6, 2, 27, 0, [6], []) rfl rfl rfl ?_
      refine bGo hA 1 11 (52, .aload_n 0, 1, 28, 0, [0], []) rfl rfl rfl ?_
      refine bGo hA 1 12 (53, .iload 5, 2, 29, 0, [5], []) rfl rfl rfl ?_
      refine bGo hA 1 13 (55, .ifCond .ne (7), 3, 30, 32, [], []) rfl rfl rfl ?_
      refine bB_eq0 (x := t0) h_t0 (fun c15 => ?_) (fun c15 => ?_)
      · refine bGo hA 1 14 (58, .iconst (1), 1, 31, 0, [], [(1, 0)]) rfl rfl rfl ?_
        refine bEqI bl_1 ?_
        refine bGo hA 1 15 (59, .goto (27), 3, 32, 45, [], []) rfl rfl rfl ?_
        exact ((k9.2 c12).1 c15)
      · refine bGo hA 2 0 (62, .iload 6, 2, 33, 0, [6], []) rfl rfl rfl ?_
        refine bGo hA 2 1 (64, .ifCond .ne (7), 3, 34, 36, [], []) rfl rfl rfl ?_
        refine ⟨fun c => absurd c (by decide), fun _ => ?_⟩
        refine bGo hA 2 4 (71, .aload_n 0, 1, 37, 0, [0], []) rfl rfl rfl ?_
        refine bGo hA 2 5 (72, .getfield 92, 3, 38, 0, [12, 31, 3, 83, 1, 0], []) rfl rfl rfl ?_
        refine ⟨rfl, ?_⟩
        refine bGo hA 2 6 (75, .iload_n 1, 1, 39, 0, [1], []) rfl rfl rfl ?_
        refine bGo hA 2 7 (76, .iaload, 1, 40, 0, [], []) rfl rfl rfl ?_
        refine ⟨rfl, (bIxP (x := l1) (n := 16) h_l1 ((k9.2 c12).2 c15).1), ?_⟩
        refine bEqL (x := l1) h_l1 ?_
        refine bGo hA 2 8 (77, .iconst (4), 1, 41, 0, [], [(4, 0)]) rfl rfl rfl ?_
        refine bEqI bl_4 ?_
        refine bGo hA 2 9 (78, .if_icmp .ne (7), 3, 42, 44, [], []) rfl rfl rfl ?_
        refine bB_eq (x := (bi s8 83 l1)) (y := 4) (bi_rg _ _ _) (by decide : bRg 4) (fun c17 => ?_) (fun c17 => ?_)
        · refine bGo hA 2 10 (81, .iconst (3), 1, 43, 0, [], [(3, 0)]) rfl rfl rfl ?_
          refine bEqI bl_3 ?_
          refine bGo hA 2 11 (82, .goto (4), 3, 44, 45, [], []) rfl rfl rfl ?_
          exact (((k9.2 c12).2 c15).2.1 c17)
        · refine bGo hA 2 12 (85, .iconst (0), 1, 45, 0, [], [(0, 0)]) rfl rfl rfl ?_
          refine bEqI bl_0 ?_
          exact (((k9.2 c12).2 c15).2.2 c17)

theorem sq228_45 {lvl : Nat} {C : bCall} {Q : bPost} {A : bPt → Prop} (hC : bMono C) (hA : bClosed lvl bm228 C Q A) {l1 : Int} {l2 : Int} {l3 : Int} {l4 : Int} {v5 : Value} {v6 : Value} {v7 : Value} {t0 : Int} {σ : bSt}  (h_l1 : bRg l1) (h_l2 : bRg l2) (h_l3 : bRg l3) (h_l4 : bRg l4) (h_t0 : bRg t0)
  (h : (C 197 [.ref 12, .int (bn t0)] σ (bRn (fun r3 s1 => ((r3 = 0 → (bRg (4 * l1) ∧ ((0 ≤ l1 ∧ l1 < 16) ∧ (bRg ((4 * l1) + (bi s1 83 l1)) ∧ (bRg (3 * ((4 * l1) + (bi s1 83 l1))) ∧ ((0 ≤ (3 * ((4 * l1) + (bi s1 83 l1))) ∧ (3 * ((4 * l1) + (bi s1 83 l1))) < 192) ∧ (bRg ((3 * ((4 * l1) + (bi s1 83 l1))) + 1) ∧ ((0 ≤ ((3 * ((4 * l1) + (bi s1 83 l1))) + 1) ∧ ((3 * ((4 * l1) + (bi s1 83 l1))) + 1) < 192) ∧ (bRg ((3 * ((4 * l1) + (bi s1 83 l1))) + 2) ∧ ((0 ≤ ((3 * ((4 * l1) + (bi s1 83 l1))) + 2) ∧ ((3 * ((4 * l1) + (bi s1 83 l1))) + 2) < 192) ∧ (bRg ((bi s1 83 l1) + 1) ∧ Q (.inl (some (.int (bn ((bi s1 83 l1) + 1))))) (bw (bw (bw (bw s1 84 (3 * ((4 * l1) + (bi s1 83 l1))) l2) 84 ((3 * ((4 * l1) + (bi s1 83 l1))) + 1) l3) 84 ((3 * ((4 * l1) + (bi s1 83 l1))) + 2) l4) 83 l1 ((bi s1 83 l1) + 1))))))))))))) ∧ (¬ r3 = 0 → Q (.inl (some (.int (bn 0)))) s1)))))) : A (45, [.ref 12, .int (bn l1), .int (bn l2), .int (bn l3), .int (bn l4), v5, v6, v7], [.int (bn t0), .ref 12], σ) := by
  refine bGo hA 2 13 (86, .invokevirtual 333, 3, 46, 0, [0, 12, 197, 1], []) rfl rfl rfl ?_
  refine ⟨rfl, ?_⟩
  refine hC _ _ _ _ _ (bRn_e (fun r3 s1 q4 k2 => ?_)) h
  show A (46, [.ref 12, .int (bn l1), .int (bn l2), .int (bn l3), .int (bn l4), v5, v6, v7], [.int (bn r3)], s1)
  refine bGo hA 2 14 (89, .ifCond .eq (5), 3, 47, 49, [], []) rfl rfl rfl ?_
  refine bB_eq0 (x := r3) q4 (fun c5 => ?_) (fun c5 => ?_)
  · refine bGo hA 3 1 (94, .iconst (3), 1, 50, 0, [], [(3, 0)]) rfl rfl rfl ?_
    refine bEqI bl_3 ?_
    refine bGo hA 3 2 (95, .iconst (4), 1, 51, 0, [], [(4, 0)]) rfl rfl rfl ?_
    refine bEqI bl_4 ?_
    refine bGo hA 3 3 (96, .iload_n 1, 1, 52, 0, [1], []) rfl rfl rfl ?_
    refine bGo hA 3 4 (97, .imul, 1, 53, 0, [], []) rfl rfl rfl ?_
    refine bEqI (bn_mul 4 l1) ?_
    refine bGo hA 3 5 (98, .aload_n 0, 1, 54, 0, [0], []) rfl rfl rfl ?_
    refine bGo hA 3 6 (99, .getfield 92, 3, 55, 0, [12, 31, 3, 83, 1, 0], []) rfl rfl rfl ?_
    refine ⟨rfl, ?_⟩
    refine bGo hA 3 7 (102, .iload_n 1, 1, 56, 0, [1], []) rfl rfl rfl ?_
    refine bGo hA 3 8 (103, .iaload, 1, 57, 0, [], []) rfl rfl rfl ?_
    refine ⟨rfl, (bIxP (x := l1) (n := 16) h_l1 (k2.1 c5).2.1), ?_⟩
    refine bEqL (x := l1) h_l1 ?_
    refine bGo hA 3 9 (104, .iadd, 1, 58, 0, [], []) rfl rfl rfl ?_
    refine bEqI (bn_add (4 * l1) (bi s1 83 l1)) ?_
    refine bGo hA 3 10 (105, .imul, 1, 59, 0, [], []) rfl rfl rfl ?_
    refine bEqI (bn_mul 3 ((4 * l1) + (bi s1 83 l1))) ?_
    refine bGo hA 3 11 (106, .istore 7, 2, 60, 0, [7], []) rfl rfl rfl ?_
    refine bGo hA 3 12 (108, .aload_n 0, 1, 61, 0, [0], []) rfl rfl rfl ?_
    refine bGo hA 3 13 (109, .getfield 95, 3, 62, 0, [12, 32, 3, 84, 1, 0], []) rfl rfl rfl ?_
    refine ⟨rfl, ?_⟩
    refine bGo hA 3 14 (112, .iload 7, 2, 63, 0, [7], []) rfl rfl rfl ?_
    refine bGo hA 3 15 (114, .iload_n 2, 1, 64, 0, [2], []) rfl rfl rfl ?_
    refine bGo hA 4 0 (115, .iastore, 1, 65, 0, [], []) rfl rfl rfl ?_
    refine ⟨rfl, (bIxP (x := (3 * ((4 * l1) + (bi s1 83 l1)))) (n := 192) (k2.1 c5).2.2.2.1 (k2.1 c5).2.2.2.2.1), by decide, ?_⟩
    refine bEqS (x := (3 * ((4 * l1) + (bi s1 83 l1)))) (k2.1 c5).2.2.2.1 ?_
    refine bGo hA 4 1 (116, .aload_n 0, 1, 66, 0, [0], []) rfl rfl rfl ?_
    refine bGo hA 4 2 (117, .getfield 95, 3, 67, 0, [12, 32, 3, 84, 1, 0], []) rfl rfl rfl ?_
    refine ⟨rfl, ?_⟩
    refine bGo hA 4 3 (120, .iload 7, 2, 68, 0, [7], []) rfl rfl rfl ?_
    refine bGo hA 4 4 (122, .iconst (1), 1, 69, 0, [], [(1, 0)]) rfl rfl rfl ?_
    refine bEqI bl_1 ?_
    refine bGo hA 4 5 (123, .iadd, 1, 70, 0, [], []) rfl rfl rfl ?_
    refine bEqI (bn_add (3 * ((4 * l1) + (bi s1 83 l1))) 1) ?_
    refine bGo hA 4 6 (124, .iload_n 3, 1, 71, 0, [3], []) rfl rfl rfl ?_
    refine bGo hA 4 7 (125, .iastore, 1, 72, 0, [], []) rfl rfl rfl ?_
    refine ⟨rfl, (bIxP (x := ((3 * ((4 * l1) + (bi s1 83 l1))) + 1)) (n := 192) (k2.1 c5).2.2.2.2.2.1 (k2.1 c5).2.2.2.2.2.2.1), by decide, ?_⟩
    refine bEqS (x := ((3 * ((4 * l1) + (bi s1 83 l1))) + 1)) (k2.1 c5).2.2.2.2.2.1 ?_
    refine bGo hA 4 8 (126, .aload_n 0, 1, 73, 0, [0], []) rfl rfl rfl ?_
    refine bGo hA 4 9 (127, .getfield 95, 3, 74, 0, [12, 32, 3, 84, 1, 0], []) rfl rfl rfl ?_
    refine ⟨rfl, ?_⟩
    refine bGo hA 4 10 (130, .iload 7, 2, 75, 0, [7], []) rfl rfl rfl ?_
    refine bGo hA 4 11 (132, .iconst (2), 1, 76, 0, [], [(2, 0)]) rfl rfl rfl ?_
    refine bEqI bl_2 ?_
    refine bGo hA 4 12 (133, .iadd, 1, 77, 0, [], []) rfl rfl rfl ?_
    refine bEqI (bn_add (3 * ((4 * l1) + (bi s1 83 l1))) 2) ?_
    refine bGo hA 4 13 (134, .iload 4, 2, 78, 0, [4], []) rfl rfl rfl ?_
    refine bGo hA 4 14 (136, .iastore, 1, 79, 0, [], []) rfl rfl rfl ?_
    refine ⟨rfl, (bIxP (x := ((3 * ((4 * l1) + (bi s1 83 l1))) + 2)) (n := 192) (k2.1 c5).2.2.2.2.2.2.2.1 (k2.1 c5).2.2.2.2.2.2.2.2.1), by decide, ?_⟩
    refine bEqS (x := ((3 * ((4 * l1) + (bi s1 83 l1))) + 2)) (k2.1 c5).2.2.2.2.2.2.2.1 ?_
    refine bGo hA 4 15 (137, .aload_n 0, 1, 80, 0, [0], []) rfl rfl rfl ?_
    refine bGo hA 5 0 (138, .getfield 92, 3, 81, 0, [12, 31, 3, 83, 1, 0], []) rfl rfl rfl ?_
    refine ⟨rfl, ?_⟩
    refine bGo hA 5 1 (141, .iload_n 1, 1, 82, 0, [1], []) rfl rfl rfl ?_
    refine bGo hA 5 2 (142, .dup2, 1, 83, 0, [], []) rfl rfl rfl ?_
    refine bGo hA 5 3 (143, .iaload, 1, 84, 0, [], []) rfl rfl rfl ?_
    refine ⟨rfl, (bIxP (x := l1) (n := 16) h_l1 (k2.1 c5).2.1), ?_⟩
    refine bEqL (x := l1) h_l1 ?_
    refine bEqI (congrArg bn (((bi_ne (by decide)).trans (bi_ne (by decide))).trans (bi_ne (by decide)))) ?_
    refine bGo hA 5 4 (144, .iconst (1), 1, 85, 0, [], [(1, 0)]) rfl rfl rfl ?_
    refine bEqI bl_1 ?_
    refine bGo hA 5 5 (145, .iadd, 1, 86, 0, [], []) rfl rfl rfl ?_
    refine bEqI (bn_add (bi s1 83 l1) 1) ?_
    refine bGo hA 5 6 (146, .iastore, 1, 87, 0, [], []) rfl rfl rfl ?_
    refine ⟨rfl, (bIxP (x := l1) (n := 16) h_l1 (k2.1 c5).2.1), by decide, ?_⟩
    refine bEqS (x := l1) h_l1 ?_
    refine bGo hA 5 7 (147, .aload_n 0, 1, 88, 0, [0], []) rfl rfl rfl ?_
    refine bGo hA 5 8 (148, .getfield 92, 3, 89, 0, [12, 31, 3, 83, 1, 0], []) rfl rfl rfl ?_
    refine ⟨rfl, ?_⟩
    refine bGo hA 5 9 (151, .iload_n 1, 1, 90, 0, [1], []) rfl rfl rfl ?_
    refine bGo hA 5 10 (152, .iaload, 1, 91, 0, [], []) rfl rfl rfl ?_
    refine ⟨rfl, (bIxP (x := l1) (n := 16) h_l1 (k2.1 c5).2.1), ?_⟩
    refine bEqL (x := l1) h_l1 ?_
    refine bEqI (congrArg bn (bi_eq (k2.1 c5).2.2.2.2.2.2.2.2.2.1)) ?_
    refine bGo hA 5 11 (153, .ireturn, 1, 0, 0, [1], []) rfl rfl rfl ?_
    exact (k2.1 c5).2.2.2.2.2.2.2.2.2.2
  · refine bGo hA 2 15 (92, .iconst (0), 1, 48, 0, [], [(0, 0)]) rfl rfl rfl ?_
    refine bEqI bl_0 ?_
    refine bGo hA 3 0 (93, .ireturn, 1, 49, 0, [1], []) rfl rfl rfl ?_
    exact (k2.2 c5)

theorem sq229_0 {lvl : Nat} {C : bCall} {Q : bPost} {A : bPt → Prop} (hC : bMono C) (hA : bClosed lvl bm229 C Q A) {x1 : Int} {x2 : Int} {x3 : Int} {x4 : Int} {σ : bSt}  (h_x1 : bRg x1) (h_x2 : bRg x2) (h_x3 : bRg x3) (h_x4 : bRg x4)
  (h : (bRg (6 * x1) ∧ ((0 ≤ x1 ∧ x1 < 16) ∧ (bRg ((6 * x1) + (bi σ 85 x1)) ∧ ((0 ≤ ((6 * x1) + (bi σ 85 x1)) ∧ ((6 * x1) + (bi σ 85 x1)) < 96) ∧ ((x4 = 0 ∨ x4 = 1) ∧ (bRg ((bi σ 85 x1) + 1) ∧ Q (.inl (some (.int (bn ((bi σ 85 x1) + 1))))) (bw (bw (bw (bw σ 86 ((6 * x1) + (bi σ 85 x1)) x2) 87 ((6 * x1) + (bi σ 85 x1)) x3) 88 ((6 * x1) + (bi σ 85 x1)) x4) 85 x1 ((bi σ 85 x1) + 1))))))))) : A (0, [.ref 12, .int (bn x1), .int (bn x2), .int (bn x3), .int (bn x4), .float 0], [], σ) := by
  refine bGo hA 0 0 (0, .bipush (6), 2, 1, 0, [], [(6, 0)]) rfl rfl rfl ?_
  refine bEqI bl_6 ?_
  refine bGo hA 0 1 (2, .iload_n 1, 1, 2, 0, [1], []) rfl rfl rfl ?_
  refine bGo hA 0 2 (3, .imul, 1, 3, 0, [], []) rfl rfl rfl ?_
  refine bEqI (bn_mul 6 x1) ?_
  refine bGo hA 0 3 (4, .aload_n 0, 1, 4, 0, [0], []) rfl rfl rfl ?_
  refine bGo hA 0 4 (5, .getfield 98, 3, 5, 0, [12, 33, 3, 85, 1, 0], []) rfl rfl rfl ?_
  refine ⟨rfl, ?_⟩
  refine bGo hA 0 5 (8, .iload_n 1, 1, 6, 0, [1], []) rfl rfl rfl ?_
  refine bGo hA 0 6 (9, .iaload, 1, 7, 0, [], []) rfl rfl rfl ?_
  refine ⟨rfl, (bIxP (x := x1) (n := 16) h_x1 h.2.1), ?_⟩
  refine bEqL (x := x1) h_x1 ?_
  refine bGo hA 0 7 (10, .iadd, 1, 8, 0, [], []) rfl rfl rfl ?_
  refine bEqI (bn_add (6 * x1) (bi σ 85 x1)) ?_
  refine bGo hA 0 8 (11, .istore 5, 2, 9, 0, [5], []) rfl rfl rfl ?_
  refine bGo hA 0 9 (13, .aload_n 0, 1, 10, 0, [0], []) rfl rfl rfl ?_
  refine bGo hA 0 10 (14, .getfield 101, 3, 11, 0, [12, 34, 3, 86, 1, 0], []) rfl rfl rfl ?_
  refine ⟨rfl, ?_⟩
  refine bGo hA 0 11 (17, .iload 5, 2, 12, 0, [5], []) rfl rfl rfl ?_
  refine bGo hA 0 12 (19, .iload_n 2, 1, 13, 0, [2], []) rfl rfl rfl ?_
  refine bGo hA 0 13 (20, .iastore, 1, 14, 0, [], []) rfl rfl rfl ?_
  refine ⟨rfl, (bIxP (x := ((6 * x1) + (bi σ 85 x1))) (n := 96) h.2.2.1 h.2.2.2.1), by decide, ?_⟩
  refine bEqS (x := ((6 * x1) + (bi σ 85 x1))) h.2.2.1 ?_
  refine bGo hA 0 14 (21, .aload_n 0, 1, 15, 0, [0], []) rfl rfl rfl ?_
  refine bGo hA 0 15 (22, .getfield 104, 3, 16, 0, [12, 35, 3, 87, 1, 0], []) rfl rfl rfl ?_
  refine ⟨rfl, ?_⟩
  refine bGo hA 1 0 (25, .iload 5, 2, 17, 0, [5], []) rfl rfl rfl ?_
  refine bGo hA 1 1 (27, .iload_n 3, 1, 18, 0, [3], []) rfl rfl rfl ?_
  refine bGo hA 1 2 (28, .iastore, 1, 19, 0, [], []) rfl rfl rfl ?_
  refine ⟨rfl, (bIxP (x := ((6 * x1) + (bi σ 85 x1))) (n := 96) h.2.2.1 h.2.2.2.1), by decide, ?_⟩
  refine bEqS (x := ((6 * x1) + (bi σ 85 x1))) h.2.2.1 ?_
  refine bGo hA 1 3 (29, .aload_n 0, 1, 20, 0, [0], []) rfl rfl rfl ?_
  refine bGo hA 1 4 (30, .getfield 107, 3, 21, 0, [12, 36, 3, 88, 1, 0], []) rfl rfl rfl ?_
  refine ⟨rfl, ?_⟩
  refine bGo hA 1 5 (33, .iload 5, 2, 22, 0, [5], []) rfl rfl rfl ?_
  refine bGo hA 1 6 (35, .iload 4, 2, 23, 0, [4], []) rfl rfl rfl ?_
  refine bGo hA 1 7 (37, .bastore, 1, 24, 0, [], []) rfl rfl rfl ?_
  refine ⟨rfl, (bIxP (x := ((6 * x1) + (bi σ 85 x1))) (n := 96) h.2.2.1 h.2.2.2.1), by decide, b01 h.2.2.2.2.1, ?_⟩
  refine bEqS (x := ((6 * x1) + (bi σ 85 x1))) h.2.2.1 ?_
  refine bGo hA 1 8 (38, .aload_n 0, 1, 25, 0, [0], []) rfl rfl rfl ?_
  refine bGo hA 1 9 (39, .getfield 98, 3, 26, 0, [12, 33, 3, 85, 1, 0], []) rfl rfl rfl ?_
  refine ⟨rfl, ?_⟩
  refine bGo hA 1 10 (42, .iload_n 1, 1, 27, 0, [1], []) rfl rfl rfl ?_
  refine bGo hA 1 11 (43, .dup2, 1, 28, 0, [], []) rfl rfl rfl ?_
  refine bGo hA 1 12 (44, .iaload, 1, 29, 0, [], []) rfl rfl rfl ?_
  refine ⟨rfl, (bIxP (x := x1) (n := 16) h_x1 h.2.1), ?_⟩
  refine bEqL (x := x1) h_x1 ?_
  refine bEqI (congrArg bn (((bi_ne (by decide)).trans (bi_ne (by decide))).trans (bi_ne (by decide)))) ?_
  refine bGo hA 1 13 (45, .iconst (1), 1, 30, 0, [], [(1, 0)]) rfl rfl rfl ?_
  refine bEqI bl_1 ?_
  refine bGo hA 1 14 (46, .iadd, 1, 31, 0, [], []) rfl rfl rfl ?_
  refine bEqI (bn_add (bi σ 85 x1) 1) ?_
  refine bGo hA 1 15 (47, .iastore, 1, 32, 0, [], []) rfl rfl rfl ?_
  refine ⟨rfl, (bIxP (x := x1) (n := 16) h_x1 h.2.1), by decide, ?_⟩
  refine bEqS (x := x1) h_x1 ?_
  refine bGo hA 2 0 (48, .aload_n 0, 1, 33, 0, [0], []) rfl rfl rfl ?_
  refine bGo hA 2 1 (49, .getfield 98, 3, 34, 0, [12, 33, 3, 85, 1, 0], []) rfl rfl rfl ?_
  refine ⟨rfl, ?_⟩
  refine bGo hA 2 2 (52, .iload_n 1, 1, 35, 0, [1], []) rfl rfl rfl ?_
  refine bGo hA 2 3 (53, .iaload, 1, 36, 0, [], []) rfl rfl rfl ?_
  refine ⟨rfl, (bIxP (x := x1) (n := 16) h_x1 h.2.1), ?_⟩
  refine bEqL (x := x1) h_x1 ?_
  refine bEqI (congrArg bn (bi_eq h.2.2.2.2.2.1)) ?_
  refine bGo hA 2 4 (54, .ireturn, 1, 0, 0, [1], []) rfl rfl rfl ?_
  exact h.2.2.2.2.2.2

theorem sq230_0 {lvl : Nat} {C : bCall} {Q : bPost} {A : bPt → Prop} (hC : bMono C) (hA : bClosed lvl bm230 C Q A) {x1 : Int} {x2 : Int} {σ : bSt}  (h_x1 : bRg x1) (h_x2 : bRg x2)
  (h : (C 225 [.ref 12, .int (bn x1)] σ (bRn (fun r3 s1 => ((r3 = 0 → A (10, [.ref 12, .int (bn x1), .int (bn x2), .float 0], [.int (bn 0)], s1)) ∧ (¬ r3 = 0 → (C 200 [.int (bn x2)] s1 (bRn (fun r8 s6 => ((r8 = 0 → A (10, [.ref 12, .int (bn x1), .int (bn x2), .float 0], [.int (bn 0)], s6)) ∧ (¬ r8 = 0 → A (10, [.ref 12, .int (bn x1), .int (bn x2), .float 0], [.int (bn 1)], s6)))))))))))) : A (0, [.ref 12, .int (bn x1), .int (bn x2), .float 0], [], σ) := by
  refine bGo hA 0 0 (0, .aload_n 0, 1, 1, 0, [0], []) rfl rfl rfl ?_
  refine bGo hA 0 1 (1, .iload_n 1, 1, 2, 0, [1], []) rfl rfl rfl ?_
  refine bGo hA 0 2 (2, .invokevirtual 383, 3, 3, 0, [0, 12, 225, 1], []) rfl rfl rfl ?_
  refine ⟨rfl, ?_⟩
  refine hC _ _ _ _ _ (bRn_e (fun r3 s1 q4 k2 => ?_)) h
  show A (3, [.ref 12, .int (bn x1), .int (bn x2), .float 0], [.int (bn r3)], s1)
  refine bGo hA 0 3 (5, .ifCond .eq (14), 3, 4, 9, [], []) rfl rfl rfl ?_
  refine bB_eq0 (x := r3) q4 (fun c5 => ?_) (fun c5 => ?_)
  · refine bGo hA 0 9 (19, .iconst (0), 1, 10, 0, [], [(0, 0)]) rfl rfl rfl ?_
    refine bEqI bl_0 ?_
    exact (k2.1 c5)
  · refine bGo hA 0 4 (8, .iload_n 2, 1, 5, 0, [2], []) rfl rfl rfl ?_
    refine bGo hA 0 5 (9, .invokestatic 329, 3, 6, 0, [2, 200, 1], []) rfl rfl rfl ?_
    refine hC _ _ _ _ _ (bRn_e (fun r8 s6 q9 k7 => ?_)) (k2.2 c5)
    show A (6, [.ref 12, .int (bn x1), .int (bn x2), .float 0], [.int (bn r8)], s6)
    refine bGo hA 0 6 (12, .ifCond .eq (7), 3, 7, 9, [], []) rfl rfl rfl ?_
    refine bB_eq0 (x := r8) q9 (fun c10 => ?_) (fun c10 => ?_)
    · refine bGo hA 0 9 (19, .iconst (0), 1, 10, 0, [], [(0, 0)]) rfl rfl rfl ?_
      refine bEqI bl_0 ?_
      exact (k7.1 c10)
    · refine bGo hA 0 7 (15, .iconst (1), 1, 8, 0, [], [(1, 0)]) rfl rfl rfl ?_
      refine bEqI bl_1 ?_
      refine bGo hA 0 8 (16, .goto (4), 3, 9, 10, [], []) rfl rfl rfl ?_
      exact (k7.2 c10)

theorem sq230_10 {lvl : Nat} {C : bCall} {Q : bPost} {A : bPt → Prop} (hC : bMono C) (hA : bClosed lvl bm230 C Q A) {l1 : Int} {l2 : Int} {v3 : Value} {t0 : Int} {σ : bSt}  (h_l1 : bRg l1) (h_l2 : bRg l2) (h_t0 : bRg t0)
  (h : ((t0 = 0 → (C 197 [.ref 12, .int (bn 1)] σ (bRn (fun r4 s2 => ((r4 = 0 → (C 229 [.ref 12, .int (bn l1), .int (bn 0), .int (bn l2), .int (bn 0)] s2 (bRn (fun r9 s7 => Q (.inl (some (.int (bn r9)))) s7)))) ∧ (¬ r4 = 0 → Q (.inl (some (.int (bn 0)))) s2)))))) ∧ (¬ t0 = 0 → ((0 ≤ l1 ∧ l1 < 16) ∧ (((bi σ 85 l1) = 6 → (C 197 [.ref 12, .int (bn 2)] σ (bRn (fun r14 s12 => ((r14 = 0 → (C 229 [.ref 12, .int (bn l1), .int (bn 0), .int (bn l2), .int (bn 0)] s12 (bRn (fun r19 s17 => Q (.inl (some (.int (bn r19)))) s17)))) ∧ (¬ r14 = 0 → Q (.inl (some (.int (bn 0)))) s12)))))) ∧ (¬ (bi σ 85 l1) = 6 → (C 197 [.ref 12, .int (bn 0)] σ (bRn (fun r23 s21 => ((r23 = 0 → (C 229 [.ref 12, .int (bn l1), .int (bn 0), .int (bn l2), .int (bn 0)] s21 (bRn (fun r28 s26 => Q (.inl (some (.int (bn r28)))) s26)))) ∧ (¬ r23 = 0 → Q (.inl (some (.int (bn 0)))) s21))))))))))) : A (10, [.ref 12, .int (bn l1), .int (bn l2), v3], [.int (bn t0)], σ) := by
  refine bGo hA 0 10 (20, .istore_n 3, 1, 11, 0, [3], []) rfl rfl rfl ?_
  refine bGo hA 0 11 (21, .aload_n 0, 1, 12, 0, [0], []) rfl rfl rfl ?_
  refine bGo hA 0 12 (22, .iload_n 3, 1, 13, 0, [3], []) rfl rfl rfl ?_
  refine bGo hA 0 13 (23, .ifCond .ne (7), 3, 14, 16, [], []) rfl rfl rfl ?_
  refine bB_eq0 (x := t0) h_t0 (fun c1 => ?_) (fun c1 => ?_)
  · refine bGo hA 0 14 (26, .iconst (1), 1, 15, 0, [], [(1, 0)]) rfl rfl rfl ?_
    refine bEqI bl_1 ?_
    refine bGo hA 0 15 (27, .goto (19), 3, 16, 25, [], []) rfl rfl rfl ?_
    refine bGo hA 1 9 (46, .invokevirtual 333, 3, 26, 0, [0, 12, 197, 1], []) rfl rfl rfl ?_
    refine ⟨rfl, ?_⟩
    refine hC _ _ _ _ _ (bRn_e (fun r4 s2 q5 k3 => ?_)) (h.1 c1)
    show A (26, [.ref 12, .int (bn l1), .int (bn l2), .int (bn t0)], [.int (bn r4)], s2)
    refine bGo hA 1 10 (49, .ifCond .eq (7), 3, 27, 29, [], []) rfl rfl rfl ?_
    refine bB_eq0 (x := r4) q5 (fun c6 => ?_) (fun c6 => ?_)
    · refine bGo hA 1 13 (56, .aload_n 0, 1, 30, 0, [0], []) rfl rfl rfl ?_
      refine bGo hA 1 14 (57, .iload_n 1, 1, 31, 0, [1], []) rfl rfl rfl ?_
      refine bGo hA 1 15 (58, .iconst (0), 1, 32, 0, [], [(0, 0)]) rfl rfl rfl ?_
      refine bEqI bl_0 ?_
      refine bGo hA 2 0 (59, .iload_n 2, 1, 33, 0, [2], []) rfl rfl rfl ?_
      refine bGo hA 2 1 (60, .iconst (0), 1, 34, 0, [], [(0, 0)]) rfl rfl rfl ?_
      refine bEqI bl_0 ?_
      refine bGo hA 2 2 (61, .invokevirtual 386, 3, 35, 0, [0, 12, 229, 4], []) rfl rfl rfl ?_
      refine ⟨rfl, ?_⟩
      refine hC _ _ _ _ _ (bRn_e (fun r9 s7 q10 k8 => ?_)) (k3.1 c6)
      show A (35, [.ref 12, .int (bn l1), .int (bn l2), .int (bn t0)], [.int (bn r9)], s7)
      refine bGo hA 2 3 (64, .ireturn, 1, 0, 0, [1], []) rfl rfl rfl ?_
      exact k8
    · refine bGo hA 1 11 (52, .iconst (0), 1, 28, 0, [], [(0, 0)]) rfl rfl rfl ?_
      refine bEqI bl_0 ?_
      refine bGo hA 1 12 (53, .goto (11), 3, 29, 35, [], []) rfl rfl rfl ?_
      refine bGo hA 2 3 (64, .ireturn, 1, 0, 0, [1], []) rfl rfl rfl ?_
      exact (k3.2 c6)
  · refine bGo hA 1 0 (30, .aload_n 0, 1, 17, 0, [0], []) rfl rfl rfl ?_
    refine bGo hA 1 1 (31, .getfield 98, 3, 18, 0, [12, 33, 3, 85, 1, 0], []) rfl rfl rfl ?_
    refine ⟨rfl, ?_⟩
    refine bGo hA 1 2 (34, .iload_n 1, 1, 19, 0, [1], []) rfl rfl rfl ?_
    refine bGo hA 1 3 (35, .iaload, 1, 20, 0, [], []) rfl rfl rfl ?_
    refine ⟨rfl, (bIxP (x := l1) (n := 16) h_l1 (h.2 c1).1), ?_⟩
    refine bEqL (x := l1) h_l1 ?_
    refine bGo hA 1 4 (36, .bipush (6), 2, 21, 0, [], [(6, 0)]) rfl rfl rfl ?_
    refine bEqI bl_6 ?_
    refine bGo hA 1 5 (38, .if_icmp .ne (7), 3, 22, 24, [], []) rfl rfl rfl ?_
    refine bB_eq (x := (bi σ 85 l1)) (y := 6) (bi_rg _ _ _) (by decide : bRg 6) (fun c11 => ?_) (fun c11 => ?_)
    · refine bGo hA 1 6 (41, .iconst (2), 1, 23, 0, [], [(2, 0)]) rfl rfl rfl ?_
      refine bEqI bl_2 ?_
      refine bGo hA 1 7 (42, .goto (4), 3, 24, 25, [], []) rfl rfl rfl ?_
      refine bGo hA 1 9 (46, .invokevirtual 333, 3, 26, 0, [0, 12, 197, 1], []) rfl rfl rfl ?_
      refine ⟨rfl, ?_⟩
      refine hC _ _ _ _ _ (bRn_e (fun r14 s12 q15 k13 => ?_)) ((h.2 c1).2.1 c11)
      show A (26, [.ref 12, .int (bn l1), .int (bn l2), .int (bn t0)], [.int (bn r14)], s12)
      refine bGo hA 1 10 (49, .ifCond .eq (7), 3, 27, 29, [], []) rfl rfl rfl ?_
      refine bB_eq0 (x := r14) q15 (fun c16 => ?_) (fun c16 => ?_)
      · refine bGo hA 1 13 (56, .aload_n 0, 1, 30, 0, [0], []) rfl rfl rfl ?_
        refine bGo hA 1 14 (57, .iload_n 1, 1, 31, 0, [1], []) rfl rfl rfl ?_
        refine bGo hA 1 15 (58, .iconst (0), 1, 32, 0, [], [(0, 0)]) rfl rfl rfl ?_
        refine bEqI bl_0 ?_
        refine bGo hA 2 0 (59, .iload_n 2, 1, 33, 0, [2], []) rfl rfl rfl ?_
        refine bGo hA 2 1 (60, .iconst (0), 1, 34, 0, [], [(0, 0)]) rfl rfl rfl ?_
        refine bEqI bl_0 ?_
        refine bGo hA 2 2 (61, .invokevirtual 386, 3, 35, 0, [0, 12, 229, 4], []) rfl rfl rfl ?_
        refine ⟨rfl, ?_⟩
        refine hC _ _ _ _ _ (bRn_e (fun r19 s17 q20 k18 => ?_)) (k13.1 c16)
        show A (35, [.ref 12, .int (bn l1), .int (bn l2), .int (bn t0)], [.int (bn r19)], s17)
        refine bGo hA 2 3 (64, .ireturn, 1, 0, 0, [1], []) rfl rfl rfl ?_
        exact k18
      · refine bGo hA 1 11 (52, .iconst (0), 1, 28, 0, [], [(0, 0)]) rfl rfl rfl ?_
        refine bEqI bl_0 ?_
        refine bGo hA 1 12 (53, .goto (11), 3, 29, 35, [], []) rfl rfl rfl ?_
        refine bGo hA 2 3 (64, .ireturn, 1, 0, 0, [1], []) rfl rfl rfl ?_
        exact (k13.2 c16)
    · refine bGo hA 1 8 (45, .iconst (0), 1, 25, 0, [], [(0, 0)]) rfl rfl rfl ?_
      refine bEqI bl_0 ?_
      refine bGo hA 1 9 (46, .invokevirtual 333, 3, 26, 0, [0, 12, 197, 1], []) rfl rfl rfl ?_
      refine ⟨rfl, ?_⟩
      refine hC _ _ _ _ _ (bRn_e (fun r23 s21 q24 k22 => ?_)) ((h.2 c1).2.2 c11)
      show A (26, [.ref 12, .int (bn l1), .int (bn l2), .int (bn t0)], [.int (bn r23)], s21)
      refine bGo hA 1 10 (49, .ifCond .eq (7), 3, 27, 29, [], []) rfl rfl rfl ?_
      refine bB_eq0 (x := r23) q24 (fun c25 => ?_) (fun c25 => ?_)
      · refine bGo hA 1 13 (56, .aload_n 0, 1, 30, 0, [0], []) rfl rfl rfl ?_
        refine bGo hA 1 14 (57, .iload_n 1, 1, 31, 0, [1], []) rfl rfl rfl ?_
        refine bGo hA 1 15 (58, .iconst (0), 1, 32, 0, [], [(0, 0)]) rfl rfl rfl ?_
        refine bEqI bl_0 ?_
        refine bGo hA 2 0 (59, .iload_n 2, 1, 33, 0, [2], []) rfl rfl rfl ?_
        refine bGo hA 2 1 (60, .iconst (0), 1, 34, 0, [], [(0, 0)]) rfl rfl rfl ?_
        refine bEqI bl_0 ?_
        refine bGo hA 2 2 (61, .invokevirtual 386, 3, 35, 0, [0, 12, 229, 4], []) rfl rfl rfl ?_
        refine ⟨rfl, ?_⟩
        refine hC _ _ _ _ _ (bRn_e (fun r28 s26 q29 k27 => ?_)) (k22.1 c25)
        show A (35, [.ref 12, .int (bn l1), .int (bn l2), .int (bn t0)], [.int (bn r28)], s26)
        refine bGo hA 2 3 (64, .ireturn, 1, 0, 0, [1], []) rfl rfl rfl ?_
        exact k27
      · refine bGo hA 1 11 (52, .iconst (0), 1, 28, 0, [], [(0, 0)]) rfl rfl rfl ?_
        refine bEqI bl_0 ?_
        refine bGo hA 1 12 (53, .goto (11), 3, 29, 35, [], []) rfl rfl rfl ?_
        refine bGo hA 2 3 (64, .ireturn, 1, 0, 0, [1], []) rfl rfl rfl ?_
        exact (k22.2 c25)

theorem sq231_0 {lvl : Nat} {C : bCall} {Q : bPost} {A : bPt → Prop} (hC : bMono C) (hA : bClosed lvl bm231 C Q A) {x1 : Int} {x2 : Int} {x3 : Int} {σ : bSt}  (h_x1 : bRg x1) (h_x2 : bRg x2) (h_x3 : bRg x3)
  (h : (C 225 [.ref 12, .int (bn x1)] σ (bRn (fun r3 s1 => ((r3 = 0 → (C 197 [.ref 12, .int (bn 1)] s1 (bRn (fun r8 s6 => ((r8 = 0 → (C 229 [.ref 12, .int (bn x1), .int (bn 1), .int (bn x2), .int (bn x3)] s6 (bRn (fun r13 s11 => Q (.inl (some (.int (bn r13)))) s11)))) ∧ (¬ r8 = 0 → Q (.inl (some (.int (bn 0)))) s6)))))) ∧ (¬ r3 = 0 → (C 199 [.int (bn x2), .int (bn 0), .int (bn 255)] s1 (bRn (fun r17 s15 => ((r17 = 0 → (C 197 [.ref 12, .int (bn 2)] s15 (bRn (fun r22 s20 => ((r22 = 0 → (C 229 [.ref 12, .int (bn x1), .int (bn 1), .int (bn x2), .int (bn x3)] s20 (bRn (fun r27 s25 => Q (.inl (some (.int (bn r27)))) s25)))) ∧ (¬ r22 = 0 → Q (.inl (some (.int (bn 0)))) s20)))))) ∧ (¬ r17 = 0 → ((0 ≤ x1 ∧ x1 < 16) ∧ (((bi s15 85 x1) = 6 → (C 197 [.ref 12, .int (bn 3)] s15 (bRn (fun r32 s30 => ((r32 = 0 → (C 229 [.ref 12, .int (bn x1), .int (bn 1), .int (bn x2), .int (bn x3)] s30 (bRn (fun r37 s35 => Q (.inl (some (.int (bn r37)))) s35)))) ∧ (¬ r32 = 0 → Q (.inl (some (.int (bn 0)))) s30)))))) ∧ (¬ (bi s15 85 x1) = 6 → (C 197 [.ref 12, .int (bn 0)] s15 (bRn (fun r41 s39 => ((r41 = 0 → (C 229 [.ref 12, .int (bn x1), .int (bn 1), .int (bn x2), .int (bn x3)] s39 (bRn (fun r46 s44 => Q (.inl (some (.int (bn r46)))) s44)))) ∧ (¬ r41 = 0 → Q (.inl (some (.int (bn 0)))) s39))))))))))))))))))) : A (0, [.ref 12, .int (bn x1), .int (bn x2), .int (bn x3)], [], σ) := by
  refine bGo hA 0 0 (0, .aload_n 0, 1, 1, 0, [0], []) rfl rfl rfl ?_
  refine bGo hA 0 1 (1, .aload_n 0, 1, 2, 0, [0], []) rfl rfl rfl ?_
  refine bGo hA 0 2 (2, .iload_n 1, 1, 3, 0, [1], []) rfl rfl rfl ?_
  refine bGo hA 0 3 (3, .invokevirtual 383, 3, 4, 0, [0, 12, 225, 1], []) rfl rfl rfl ?_
  refine ⟨rfl, ?_⟩
  refine hC _ _ _ _ _ (bRn_e (fun r3 s1 q4 k2 => ?_)) h
  show A (4, [.ref 12, .int (bn x1), .int (bn x2), .int (bn x3)], [.int (bn r3), .ref 12], s1)
  refine bGo hA 0 4 (6, .ifCond .ne (7), 3, 5, 7, [], []) rfl rfl rfl ?_
  refine bB_eq0 (x := r3) q4 (fun c5 => ?_) (fun c5 => ?_)
  · refine bGo hA 0 5 (9, .iconst (1), 1, 6, 0, [], [(1, 0)]) rfl rfl rfl ?_
    refine bEqI bl_1 ?_
    refine bGo hA 0 6 (10, .goto (34), 3, 7, 23, [], []) rfl rfl rfl ?_
    refine bGo hA 1 7 (44, .invokevirtual 333, 3, 24, 0, [0, 12, 197, 1], []) rfl rfl rfl ?_
    refine ⟨rfl, ?_⟩
    refine hC _ _ _ _ _ (bRn_e (fun r8 s6 q9 k7 => ?_)) (k2.1 c5)
    show A (24, [.ref 12, .int (bn x1), .int (bn x2), .int (bn x3)], [.int (bn r8)], s6)
    refine bGo hA 1 8 (47, .ifCond .eq (7), 3, 25, 27, [], []) rfl rfl rfl ?_
    refine bB_eq0 (x := r8) q9 (fun c10 => ?_) (fun c10 => ?_)
    · refine bGo hA 1 11 (54, .aload_n 0, 1, 28, 0, [0], []) rfl rfl rfl ?_
      refine bGo hA 1 12 (55, .iload_n 1, 1, 29, 0, [1], []) rfl rfl rfl ?_
      refine bGo hA 1 13 (56, .iconst (1), 1, 30, 0, [], [(1, 0)]) rfl rfl rfl ?_
      refine bEqI bl_1 ?_
      refine bGo hA 1 14 (57, .iload_n 2, 1, 31, 0, [2], []) rfl rfl rfl ?_
      refine bGo hA 1 15 (58, .iload_n 3, 1, 32, 0, [3], []) rfl rfl rfl ?_
      refine bGo hA 2 0 (59, .invokevirtual 386, 3, 33, 0, [0, 12, 229, 4], []) rfl rfl rfl ?_
      refine ⟨rfl, ?_⟩
      refine hC _ _ _ _ _ (bRn_e (fun r13 s11 q14 k12 => ?_)) (k7.1 c10)
      show A (33, [.ref 12, .int (bn x1), .int (bn x2), .int (bn x3)], [.int (bn r13)], s11)
      refine bGo hA 2 1 (62, .ireturn, 1, 0, 0, [1], []) rfl rfl rfl ?_
      exact k12
    · refine bGo hA 1 9 (50, .iconst (0), 1, 26, 0, [], [(0, 0)]) rfl rfl rfl ?_
      refine bEqI bl_0 ?_
      refine bGo hA 1 10 (51, .goto (11), 3, 27, 33, [], []) rfl rfl rfl ?_
      refine bGo hA 2 1 (62, .ireturn, 1, 0, 0, [1], []) rfl rfl rfl ?_
      exact (k7.2 c10)
  · refine bGo hA 0 7 (13, .iload_n 2, 1, 8, 0, [2], []) rfl rfl rfl ?_
    refine bGo hA 0 8 (14, .iconst (0), 1, 9, 0, [], [(0, 0)]) rfl rfl rfl ?_
    refine bEqI bl_0 ?_
    refine bGo hA 0 9 (15, .sipush (255), 3, 10, 0, [], [(255, 0)]) rfl rfl rfl ?_
    refine bEqI bl_255 ?_
    refine bGo hA 0 10 (18, .invokestatic 325, 3, 11, 0, [2, 199, 3], []) rfl rfl rfl ?_
    refine hC _ _ _ _ _ (bRn_e (fun r17 s15 q18 k16 => ?_)) (k2.2 c5)
    show A (11, [.ref 12, .int (bn x1), .int (bn x2), .int (bn x3)], [.int (bn r17), .ref 12], s15)
    refine bGo hA 0 11 (21, .ifCond .ne (7), 3, 12, 14, [], []) rfl rfl rfl ?_
    refine bB_eq0 (x := r17) q18 (fun c19 => ?_) (fun c19 => ?_)
    · refine bGo hA 0 12 (24, .iconst (2), 1, 13, 0, [], [(2, 0)]) rfl rfl rfl ?_
      refine bEqI bl_2 ?_
      refine bGo hA 0 13 (25, .goto (19), 3, 14, 23, [], []) rfl rfl rfl ?_
      refine bGo hA 1 7 (44, .invokevirtual 333, 3, 24, 0, [0, 12, 197, 1], []) rfl rfl rfl ?_
      refine ⟨rfl, ?_⟩
      refine hC _ _ _ _ _ (bRn_e (fun r22 s20 q23 k21 => ?_)) (k16.1 c19)
      show A (24, [.ref 12, .int (bn x1), .int (bn x2), .int (bn x3)], [.int (bn r22)], s20)
      refine bGo hA 1 8 (47, .ifCond .eq (7), 3, 25, 27, [], []) rfl rfl rfl ?_
      refine bB_eq0 (x := r22) q23 (fun c24 => ?_) (fun c24 => ?_)
      · refine bGo hA 1 11 (54, .aload_n 0, 1, 28, 0, [0], []) rfl rfl rfl ?_
        refine bGo hA 1 12 (55, .iload_n 1, 1, 29, 0, [1], []) rfl rfl rfl ?_
        refine bGo hA 1 13 (56, .iconst (1), 1, 30, 0, [], [(1, 0)]) rfl rfl rfl ?_
        refine bEqI bl_1 ?_
        refine bGo hA 1 14 (57, .iload_n 2, 1, 31, 0, [2], []) rfl rfl rfl ?_
        refine bGo hA 1 15 (58, .iload_n 3, 1, 32, 0, [3], []) rfl rfl rfl ?_
        refine bGo hA 2 0 (59, .invokevirtual 386, 3, 33, 0, [0, 12, 229, 4], []) rfl rfl rfl ?_
        refine ⟨rfl, ?_⟩
        refine hC _ _ _ _ _ (bRn_e (fun r27 s25 q28 k26 => ?_)) (k21.1 c24)
        show A (33, [.ref 12, .int (bn x1), .int (bn x2), .int (bn x3)], [.int (bn r27)], s25)
        refine bGo hA 2 1 (62, .ireturn, 1, 0, 0, [1], []) rfl rfl rfl ?_
        exact k26
      · refine bGo hA 1 9 (50, .iconst (0), 1, 26, 0, [], [(0, 0)]) rfl rfl rfl ?_
        refine bEqI bl_0 ?_
        refine bGo hA 1 10 (51, .goto (11), 3, 27, 33, [], []) rfl rfl rfl ?_
        refine bGo hA 2 1 (62, .ireturn, 1, 0, 0, [1], []) rfl rfl rfl ?_
        exact (k21.2 c24)
    · refine bGo hA 0 14 (28, .aload_n 0, 1, 15, 0, [0], []) rfl rfl rfl ?_
      refine bGo hA 0 15 (29, .getfield 98, 3, 16, 0, [12, 33, 3, 85, 1, 0], []) rfl rfl rfl ?_
      refine ⟨rfl, ?_⟩
      refine bGo hA 1 0 (32, .iload_n 1, 1, 17, 0, [1], []) rfl rfl rfl ?_
      refine bGo hA 1 1 (33, .iaload, 1, 18, 0, [], []) rfl rfl rfl ?_
      refine ⟨rfl, (bIxP (x := x1) (n := 16) h_x1 (k16.2 c19).1), ?_⟩
      refine bEqL (x := x1) h_x1 ?_
      refine bGo hA 1 2 (34, .bipush (6), 2, 19, 0, [], [(6, 0)]) rfl rfl rfl ?_
      refine bEqI bl_6 ?_
      refine bGo hA 1 3 (36, .if_icmp .ne (7), 3, 20, 22, [], []) rfl rfl rfl ?_
      refine bB_eq (x := (bi s15 85 x1)) (y := 6) (bi_rg _ _ _) (by decide : bRg 6) (fun c29 => ?_) (fun c29 => ?_)
      · refine bGo hA 1 4 (39, .iconst (3), 1, 21, 0, [], [(3, 0)]) rfl rfl rfl ?_
        refine bEqI bl_3 ?_
        refine bGo hA 1 5 (40, .goto (4), 3, 22, 23, [], []) rfl rfl rfl ?_
        refine bGo hA 1 7 (44, .invokevirtual 333, 3, 24, 0, [0, 12, 197, 1], []) rfl rfl rfl ?_
        refine ⟨rfl, ?_⟩
        refine hC _ _ _ _ _ (bRn_e (fun r32 s30 q33 k31 => ?_)) ((k16.2 c19).2.1 c29)
        show A (24, [.ref 12, .int (bn x1), .int (bn x2), .int (bn x3)], [.int (bn r32)], s30)
        refine bGo hA 1 8 (47, .ifCond .eq (7), 3, 25, 27, [], []) rfl rfl rfl ?_
        refine bB_eq0 (x := r32) q33 (fun c34 => ?_) (fun c34 => ?_)
        · refine bGo hA 1 11 (54, .aload_n 0, 1, 28, 0, [0], []) rfl rfl rfl ?_
          refine bGo hA 1 12 (55, .iload_n 1, 1, 29, 0, [1], []) rfl rfl rfl ?_
          refine bGo hA 1 13 (56, .iconst (1), 1, 30, 0, [], [(1, 0)]) rfl rfl rfl ?_
          refine bEqI bl_1 ?_
          refine bGo hA 1 14 (57, .iload_n 2, 1, 31, 0, [2], []) rfl rfl rfl ?_
          refine bGo hA 1 15 (58, .iload_n 3, 1, 32, 0, [3], []) rfl rfl rfl ?_
          refine bGo hA 2 0 (59, .invokevirtual 386, 3, 33, 0, [0, 12, 229, 4], []) rfl rfl rfl ?_
          refine ⟨rfl, ?_⟩
          refine hC _ _ _ _ _ (bRn_e (fun r37 s35 q38 k36 => ?_)) (k31.1 c34)
          show A (33, [.ref 12, .int (bn x1), .int (bn x2), .int (bn x3)], [.int (bn r37)], s35)
          refine bGo hA 2 1 (62, .ireturn, 1, 0, 0, [1], []) rfl rfl rfl ?_
          exact k36
        · refine bGo hA 1 9 (50, .iconst (0), 1, 26, 0, [], [(0, 0)]) rfl rfl rfl ?_
          refine bEqI bl_0 ?_
          refine bGo hA 1 10 (51, .goto (11), 3, 27, 33, [], []) rfl rfl rfl ?_
          refine bGo hA 2 1 (62, .ireturn, 1, 0, 0, [1], []) rfl rfl rfl ?_
          exact (k31.2 c34)
      · refine bGo hA 1 6 (43, .iconst (0), 1, 23, 0, [], [(0, 0)]) rfl rfl rfl ?_
        refine bEqI bl_0 ?_
        refine bGo hA 1 7 (44, .invokevirtual 333, 3, 24, 0, [0, 12, 197, 1], []) rfl rfl rfl ?_
        refine ⟨rfl, ?_⟩
        refine hC _ _ _ _ _ (bRn_e (fun r41 s39 q42 k40 => ?_)) ((k16.2 c19).2.2 c29)
        show A (24, [.ref 12, .int (bn x1), .int (bn x2), .int (bn x3)], [.int (bn r41)], s39)
        refine bGo hA 1 8 (47, .ifCond .eq (7), 3, 25, 27, [], []) rfl rfl rfl ?_
        refine bB_eq0 (x := r41) q42 (fun c43 => ?_) (fun c43 => ?_)
        · refine bGo hA 1 11 (54, .aload_n 0, 1, 28, 0, [0], []) rfl rfl rfl ?_
          refine bGo hA 1 12 (55, .iload_n 1, 1, 29, 0, [1], []) rfl rfl rfl ?_
          refine bGo hA 1 13 (56, .iconst (1), 1, 30, 0, [], [(1, 0)]) rfl rfl rfl ?_
          refine bEqI bl_1 ?_
          refine bGo hA 1 14 (57, .iload_n 2, 1, 31, 0, [2], []) rfl rfl rfl ?_
          refine bGo hA 1 15 (58, .iload_n 3, 1, 32, 0, [3], []) rfl rfl rfl ?_
          refine bGo hA 2 0 (59, .invokevirtual 386, 3, 33, 0, [0, 12, 229, 4], []) rfl rfl rfl ?_
          refine ⟨rfl, ?_⟩
          refine hC _ _ _ _ _ (bRn_e (fun r46 s44 q47 k45 => ?_)) (k40.1 c43)
          show A (33, [.ref 12, .int (bn x1), .int (bn x2), .int (bn x3)], [.int (bn r46)], s44)
          refine bGo hA 2 1 (62, .ireturn, 1, 0, 0, [1], []) rfl rfl rfl ?_
          exact k45
        · refine bGo hA 1 9 (50, .iconst (0), 1, 26, 0, [], [(0, 0)]) rfl rfl rfl ?_
          refine bEqI bl_0 ?_
          refine bGo hA 1 10 (51, .goto (11), 3, 27, 33, [], []) rfl rfl rfl ?_
          refine bGo hA 2 1 (62, .ireturn, 1, 0, 0, [1], []) rfl rfl rfl ?_
          exact (k40.2 c43)

theorem sq232_0 {lvl : Nat} {C : bCall} {Q : bPost} {A : bPt → Prop} (hC : bMono C) (hA : bClosed lvl bm232 C Q A) {x1 : Int} {x2 : Int} {σ : bSt}  (h_x1 : bRg x1) (h_x2 : bRg x2)
  (h : (C 225 [.ref 12, .int (bn x1)] σ (bRn (fun r3 s1 => ((r3 = 0 → A (11, [.ref 12, .int (bn x1), .int (bn x2), .float 0], [.int (bn 0)], s1)) ∧ (¬ r3 = 0 → (C 225 [.ref 12, .int (bn x2)] s1 (bRn (fun r8 s6 => ((r8 = 0 → A (11, [.ref 12, .int (bn x1), .int (bn x2), .float 0], [.int (bn 0)], s6)) ∧ (¬ r8 = 0 → A (11, [.ref 12, .int (bn x1), .int (bn x2), .float 0], [.int (bn 1)], s6)))))))))))) : A (0, [.ref 12, .int (bn x1), .int (bn x2), .float 0], [], σ) := by
  refine bGo hA 0 0 (0, .aload_n 0, 1, 1, 0, [0], []) rfl rfl rfl ?_
  refine bGo hA 0 1 (1, .iload_n 1, 1, 2, 0, [1], []) rfl rfl rfl ?_
  refine bGo hA 0 2 (2, .invokevirtual 383, 3, 3, 0, [0, 12, 225, 1], []) rfl rfl rfl ?_
  refine ⟨rfl, ?_⟩
  refine hC _ _ _ _ _ (bRn_e (fun r3 s1 q4 k2 => ?_)) h
  show A (3, [.ref 12, .int (bn x1), .int (bn x2), .float 0], [.int (bn r3)], s1)
  refine bGo hA 0 3 (5, .ifCond .eq (15), 3, 4, 10, [], []) rfl rfl rfl ?_
  refine bB_eq0 (x := r3) q4 (fun c5 => ?_) (fun c5 => ?_)
  · refine bGo hA 0 10 (20, .iconst (0), 1, 11, 0, [], [(0, 0)]) rfl rfl rfl ?_
    refine bEqI bl_0 ?_
    exact (k2.1 c5)
  · refine bGo hA 0 4 (8, .aload_n 0, 1, 5, 0, [0], []) rfl rfl rfl ?_
    refine bGo hA 0 5 (9, .iload_n 2, 1, 6, 0, [2], []) rfl rfl rfl ?_
    refine bGo hA 0 6 (10, .invokevirtual 383, 3, 7, 0, [0, 12, 225, 1], []) rfl rfl rfl ?_
    refine ⟨rfl, ?_⟩
    refine hC _ _ _ _ _ (bRn_e (fun r8 s6 q9 k7 => ?_)) (k2.2 c5)
    show A (7, [.ref 12, .int (bn x1), .int (bn x2), .float 0], [.int (bn r8)], s6)
    refine bGo hA 0 7 (13, .ifCond .eq (7), 3, 8, 10, [], []) rfl rfl rfl ?_
    refine bB_eq0 (x := r8) q9 (fun c10 => ?_) (fun c10 => ?_)
    · refine bGo hA 0 10 (20, .iconst (0), 1, 11, 0, [], [(0, 0)]) rfl rfl rfl ?_
      refine bEqI bl_0 ?_
      exact (k7.1 c10)
    · refine bGo hA 0 8 (16, .iconst (1), 1, 9, 0, [], [(1, 0)]) rfl rfl rfl ?_
      refine bEqI bl_1 ?_
      refine bGo hA 0 9 (17, .goto (4), 3, 10, 11, [], []) rfl rfl rfl ?_
      exact (k7.2 c10)

theorem sq232_11 {lvl : Nat} {C : bCall} {Q : bPost} {A : bPt → Prop} (hC : bMono C) (hA : bClosed lvl bm232 C Q A) {l1 : Int} {l2 : Int} {v3 : Value} {t0 : Int} {σ : bSt}  (h_l1 : bRg l1) (h_l2 : bRg l2) (h_t0 : bRg t0)
  (h : ((t0 = 0 → (C 197 [.ref 12, .int (bn 1)] σ (bRn (fun r4 s2 => ((r4 = 0 → (C 229 [.ref 12, .int (bn l1), .int (bn 2), .int (bn l2), .int (bn 0)] s2 (bRn (fun r9 s7 => Q (.inl (some (.int (bn r9)))) s7)))) ∧ (¬ r4 = 0 → Q (.inl (some (.int (bn 0)))) s2)))))) ∧ (¬ t0 = 0 → ((l2 < l1 → ((0 ≤ l1 ∧ l1 < 16) ∧ (((bi σ 85 l1) = 6 → (C 197 [.ref 12, .int (bn 3)] σ (bRn (fun r15 s13 => ((r15 = 0 → (C 229 [.ref 12, .int (bn l1), .int (bn 2), .int (bn l2), .int (bn 0)] s13 (bRn (fun r20 s18 => Q (.inl (some (.int (bn r20)))) s18)))) ∧ (¬ r15 = 0 → Q (.inl (some (.int (bn 0)))) s13)))))) ∧ (¬ (bi σ 85 l1) = 6 → (C 197 [.ref 12, .int (bn 0)] σ (bRn (fun r24 s22 => ((r24 = 0 → (C 229 [.ref 12, .int (bn l1), .int (bn 2), .int (bn l2), .int (bn 0)] s22 (bRn (fun r29 s27 => Q (.inl (some (.int (bn r29)))) s27)))) ∧ (¬ r24 = 0 → Q (.inl (some (.int (bn 0)))) s22))))))))) ∧ (¬ l2 < l1 → (C 197 [.ref 12, .int (bn 2)] σ (bRn (fun r33 s31 => ((r33 = 0 → (C 229 [.ref 12, .int (bn l1), .int (bn 2), .int (bn l2), .int (bn 0)] s31 (bRn (fun r38 s36 => Q (.inl (some (.int (bn r38)))) s36)))) ∧ (¬ r33 = 0 → Q (.inl (some (.int (bn 0)))) s31)))))))))) : A (11, [.ref 12, .int (bn l1), .int (bn l2), v3], [.int (bn t0)], σ) := by
  refine bGo hA 0 11 (21, .istore_n 3, 1, 12, 0, [3], []) rfl rfl rfl ?_
  refine bGo hA 0 12 (22, .aload_n 0, 1, 13, 0, [0], []) rfl rfl rfl ?_
  refine bGo hA 0 13 (23, .iload_n 3, 1, 14, 0, [3], []) rfl rfl rfl ?_
  refine bGo hA 0 14 (24, .ifCond .ne (7), 3, 15, 17, [], []) rfl rfl rfl ?_
  refine bB_eq0 (x := t0) h_t0 (fun c1 => ?_) (fun c1 => ?_)
  · refine bGo hA 0 15 (27, .iconst (1), 1, 16, 0, [], [(1, 0)]) rfl rfl rfl ?_
    refine bEqI bl_1 ?_
    refine bGo hA 1 0 (28, .goto (28), 3, 17, 31, [], []) rfl rfl rfl ?_
    refine bGo hA 1 15 (56, .invokevirtual 333, 3, 32, 0, [0, 12, 197, 1], []) rfl rfl rfl ?_
    refine ⟨rfl, ?_⟩
    refine hC _ _ _ _ _ (bRn_e (fun r4 s2 q5 k3 => ?_)) (h.1 c1)
    show A (32, [.ref 12, .int (bn l1), .int (bn l2), .int (bn t0)], [.int (bn r4)], s2)
    refine bGo hA 2 0 (59, .ifCond .eq (7), 3, 33, 35, [], []) rfl rfl rfl ?_
    refine bB_eq0 (x := r4) q5 (fun c6 => ?_) (fun c6 => ?_)
    · refine bGo hA 2 3 (66, .aload_n 0, 1, 36, 0, [0], []) rfl rfl rfl ?_
      refine bGo hA 2 4 (67, .iload_n 1, 1, 37, 0, [1], []) rfl rfl rfl ?_
      refine bGo hA 2 5 (68, .iconst (2), 1, 38, 0, [], [(2, 0)]) rfl rfl rfl ?_
      refine bEqI bl_2 ?_
      refine bGo hA 2 6 (69, .iload_n 2, 1, 39, 0, [2], []) rfl rfl rfl ?_
      refine bGo hA 2 7 (70, .iconst (0), 1, 40, 0, [], [(0, 0)]) rfl rfl rfl ?_
      refine bEqI bl_0 ?_
      refine bGo hA 2 8 (71, .invokevirtual 386, 3, 41, 0, [0, 12, 229, 4], []) rfl rfl rfl ?_
      refine ⟨rfl, ?_⟩
      refine hC _ _ _ _ _ (bRn_e (fun r9 s7 q10 k8 => ?_)) (k3.1 c6)
      show A (41, [.ref 12, .int (bn l1), .int (bn l2), .int (bn t0)], [.int (bn r9)], s7)
      refine bGo hA 2 9 (74, .ireturn, 1, 0, 0, [1], []) rfl rfl rfl ?_
      exact k8
    · refine bGo hA 2 1 (62, .iconst (0), 1, 34, 0, [], [(0, 0)]) rfl rfl rfl ?_
      refine bEqI bl_0 ?_
      refine bGo hA 2 2 (63, .goto (11), 3, 35, 41, [], []) rfl rfl rfl ?_
      refine bGo hA 2 9 (74, .ireturn, 1, 0, 0, [1], []) rfl rfl rfl ?_
      exact (k3.2 c6)
  · refine bGo hA 1 1 (31, .iload_n 2, 1, 18, 0, [2], []) rfl rfl rfl ?_
    refine bGo hA 1 2 (32, .iload_n 1, 1, 19, 0, [1], []) rfl rfl rfl ?_
    refine bGo hA 1 3 (33, .if_icmp .lt (7), 3, 20, 22, [], []) rfl rfl rfl ?_
    refine bB_lt (x := l2) (y := l1) h_l2 h_l1 (fun c11 => ?_) (fun c11 => ?_)
    · refine bGo hA 1 6 (40, .aload_n 0, 1, 23, 0, [0], []) rfl rfl rfl ?_
      refine bGo hA 1 7 (41, .getfield 98, 3, 24, 0, [12, 33, 3, 85, 1, 0], []) rfl rfl rfl ?_
      refine ⟨rfl, ?_⟩
      refine bGo hA 1 8 (44, .iload_n 1, 1, 25, 0, [1], []) rfl rfl rfl ?_
      refine bGo hA 1 9 (45, .iaload, 1, 26, 0, [], []) rfl rfl rfl ?_
      refine ⟨rfl, (bIxP (x := l1) (n := 16) h_l1 ((h.2 c1).1 c11).1), ?_⟩
      refine bEqL (x := l1) h_l1 ?_
      refine bGo hA 1 10 (46, .bipush (6), 2, 27, 0, [], [(6, 0)]) rfl rfl rfl ?_
      refine bEqI bl_6 ?_
      refine bGo hA 1 11 (48, .if_icmp .ne (7), 3, 28, 30, [], []) rfl rfl rfl ?_
      refine bB_eq (x := (bi σ 85 l1)) (y := 6) (bi_rg _ _ _) (by decide : bRg 6) (fun c12 => ?_) (fun c12 => ?_)
      · refine bGo hA 1 12 (51, .iconst (3), 1, 29, 0, [], [(3, 0)]) rfl rfl rfl ?_
        refine bEqI bl_3 ?_
        refine bGo hA 1 13 (52, .goto (4), 3, 30, 31, [], []) rfl rfl rfl ?_
        refine bGo hA 1 15 (56, .invokevirtual 333, 3, 32, 0, [0, 12, 197, 1], []) rfl rfl rfl ?_
        refine ⟨rfl, ?_⟩
        refine hC _ _ _ _ _ (bRn_e (fun r15 s13 q16 k14 => ?_)) (((h.2 c1).1 c11).2.1 c12)
        show A (32, [.ref 12, .int (bn l1), .int (bn l2), .int (bn t0)], [.int (bn r15)], s13)
        refine bGo hA 2 0 (59, .ifCond .eq (7), 3, 33, 35, [], []) rfl rfl rfl ?_
        refine bB_eq0 (x := r15) q16 (fun c17 => ?_) (fun c17 => ?_)
        · refine bGo hA 2 3 (66, .aload_n 0, 1, 36, 0, [0], []) rfl rfl rfl ?_
          refine bGo hA 2 4 (67, .iload_n 1, 1, 37, 0, [1], []) rfl rfl rfl ?_
          refine bGo hA 2 5 (68, .iconst (2), 1, 38, 0, [], [(2, 0)]) rfl rfl rfl ?_
          refine bEqI bl_2 ?_
          refine bGo hA 2 6 (69, .iload_n 2, 1, 39, 0, [2], []) rfl rfl rfl ?_
          refine bGo hA 2 7 (70, .iconst (0), 1, 40, 0, [], [(0, 0)]) rfl rfl rfl ?_
          refine bEqI bl_0 ?_
          refine bGo hA 2 8 (71, .invokevirtual 386, 3, 41, 0, [0, 12, 229, 4], []) rfl rfl rfl ?_
          refine ⟨rfl, ?_⟩
          refine hC _ _ _ _ _ (bRn_e (fun r20 s18 q21 k19 => ?_)) (k14.1 c17)
          show A (41, [.ref 12, .int (bn l1), .int (bn l2), .int (bn t0)], [.int (bn r20)], s18)
          refine bGo hA 2 9 (74, .ireturn, 1, 0, 0, [1], []) rfl rfl rfl ?_
          exact k19
        · refine bGo hA 2 1 (62, .iconst (0), 1, 34, 0, [], [(0, 0)]) rfl rfl rfl ?_
          refine bEqI bl_0 ?_
          refine bGo hA 2 2 (63, .goto (11), 3, 35, 41, [], []) rfl rfl rfl ?_
          refine bGo hA 2 9 (74, .ireturn, 1, 0, 0, [1], []) rfl rfl rfl ?_
          exact (k14.2 c17)
      · refine bGo hA 1 14 (55, .iconst (0), 1, 31, 0, [], [(0, 0)]) rfl rfl rfl ?_
        refine bEqI bl_0 ?_
        refine bGo hA 1 15 (56, .invokevirtual 333, 3, 32, 0, [0, 12, 197, 1], []) rfl rfl rfl ?_
        refine ⟨rfl, ?_⟩
        refine hC _ _ _ _ _ (bRn_e (fun r24 s22 q25 k23 => ?_)) (((h.2 c1).1 c11).2.2 c12)
        show A (32, [.ref 12, .int (bn l1), .int (bn l2), .int (bn t0)], [.int (bn r24)], s22)
        refine bGo hA 2 0 (59, .ifCond .eq (7), 3, 33, 35, [], []) rfl rfl rfl ?_
        refine bB_eq0 (x := r24) q25 (fun c26 => ?_) (fun c26 => ?_)
        · refine bGo hA 2 3 (66, .aload_n 0, 1, 36, 0, [0], []) rfl rfl rfl ?_
          refine bGo hA 2 4 (67, .iload_n 1, 1, 37, 0, [1], []) rfl rfl rfl ?_
          refine bGo hA 2 5 (68, .iconst (2), 1, 38, 0, [], [(2, 0)]) rfl rfl rfl ?_
          refine bEqI bl_2 ?_
          refine bGo hA 2 6 (69, .iload_n 2, 1, 39, 0, [2], []) rfl rfl rfl ?_
          refine bGo hA 2 7 (70, .iconst (0), 1, 40, 0, [], [(0, 0)]) rfl rfl rfl ?_
          refine bEqI bl_0 ?_
          refine bGo hA 2 8 (71, .invokevirtual 386, 3, 41, 0, [0, 12, 229, 4], []) rfl rfl rfl ?_
          refine ⟨rfl, ?_⟩
          refine hC _ _ _ _ _ (bRn_e (fun r29 s27 q30 k28 => ?_)) (k23.1 c26)
          show A (41, [.ref 12, .int (bn l1), .int (bn l2), .int (bn t0)], [.int (bn r29)], s27)
          refine bGo hA 2 9 (74, .ireturn, 1, 0, 0, [1], []) rfl rfl rfl ?_
          exact k28
        · refine bGo hA 2 1 (62, .iconst (0), 1, 34, 0, [], [(0, 0)]) rfl rfl rfl ?_
          refine bEqI bl_0 ?_
          refine bGo hA 2 2 (63, .goto (11), 3, 35, 41, [], []) rfl rfl rfl ?_
          refine bGo hA 2 9 (74, .ireturn, 1, 0, 0, [1], []) rfl rfl rfl ?_
          exact (k23.2 c26)
    · refine bGo hA 1 4 (36, .iconst (2), 1, 21, 0, [], [(2, 0)]) rfl rfl rfl ?_
      refine bEqI bl_2 ?_
      refine bGo hA 1 5 (37, .goto (19), 3, 22, 31, [], []) rfl rfl rfl ?_
      refine bGo hA 1 15 (56, .invokevirtual 333, 3, 32, 0, [0, 12, 197, 1], []) rfl rfl rfl ?_
      refine ⟨rfl, ?_⟩
      refine hC _ _ _ _ _ (bRn_e (fun r33 s31 q34 k32 => ?_)) ((h.2 c1).2 c11)
      show A (32, [.ref 12, .int (bn l1), .int (bn l2), .int (bn t0)], [.int (bn r33)], s31)
      refine bGo hA 2 0 (59, .ifCond .eq (7), 3, 33, 35, [], []) rfl rfl rfl ?_
      refine bB_eq0 (x := r33) q34 (fun c35 => ?_) (fun c35 => ?_)
      · refine bGo hA 2 3 (66, .aload_n 0, 1, 36, 0, [0], []) rfl rfl rfl ?_
        refine bGo hA 2 4 (67, .iload_n 1, 1, 37, 0, [1], []) rfl rfl rfl ?_
        refine bGo hA 2 5 (68, .iconst (2), 1, 38, 0, [], [(2, 0)]) rfl rfl rfl ?_
        refine bEqI bl_2 ?_
        refine bGo hA 2 6 (69, .iload_n 2, 1, 39, 0, [2], []) rfl rfl rfl ?_
        refine bGo hA 2 7 (70, .iconst (0), 1, 40, 0, [], [(0, 0)]) rfl rfl rfl ?_
        refine bEqI bl_0 ?_
        refine bGo hA 2 8 (71, .invokevirtual 386, 3, 41, 0, [0, 12, 229, 4], []) rfl rfl rfl ?_
        refine ⟨rfl, ?_⟩
        refine hC _ _ _ _ _ (bRn_e (fun r38 s36 q39 k37 => ?_)) (k32.1 c35)
        show A (41, [.ref 12, .int (bn l1), .int (bn l2), .int (bn t0)], [.int (bn r38)], s36)
        refine bGo hA 2 9 (74, .ireturn, 1, 0, 0, [1], []) rfl rfl rfl ?_
        exact k37
      · refine bGo hA 2 1 (62, .iconst (0), 1, 34, 0, [], [(0, 0)]) rfl rfl rfl ?_
        refine bEqI bl_0 ?_
        refine bGo hA 2 2 (63, .goto (11), 3, 35, 41, [], []) rfl rfl rfl ?_
        refine bGo hA 2 9 (74, .ireturn, 1, 0, 0, [1], []) rfl rfl rfl ?_
        exact (k32.2 c35)

theorem sq233_0 {lvl : Nat} {C : bCall} {Q : bPost} {A : bPt → Prop} (hC : bMono C) (hA : bClosed lvl bm233 C Q A) {x1 : Int} {σ : bSt}  (h_x1 : bRg x1)
  (h : (C 225 [.ref 12, .int (bn x1)] σ (bRn (fun r3 s1 => ((r3 = 0 → (C 197 [.ref 12, .int (bn 1)] s1 (bRn (fun r8 s6 => ((r8 = 0 → ((0 ≤ x1 ∧ x1 < 16) ∧ (bRg ((bi s6 85 x1) - 1) ∧ Q (.inl (some (.int (bn ((bi s6 85 x1) - 1))))) (bw s6 85 x1 ((bi s6 85 x1) - 1))))) ∧ (¬ r8 = 0 → Q (.inl (some (.int (bn 0)))) s6)))))) ∧ (¬ r3 = 0 → ((0 ≤ x1 ∧ x1 < 16) ∧ (((bi s1 85 x1) = 0 → (C 197 [.ref 12, .int (bn 2)] s1 (bRn (fun r14 s12 => ((r14 = 0 → (bRg ((bi s12 85 x1) - 1) ∧ Q (.inl (some (.int (bn ((bi s12 85 x1) - 1))))) (bw s12 85 x1 ((bi s12 85 x1) - 1)))) ∧ (¬ r14 = 0 → Q (.inl (some (.int (bn 0)))) s12)))))) ∧ (¬ (bi s1 85 x1) = 0 → (C 197 [.ref 12, .int (bn 0)] s1 (bRn (fun r19 s17 => ((r19 = 0 → (bRg ((bi s17 85 x1) - 1) ∧ Q (.inl (some (.int (bn ((bi s17 85 x1) - 1))))) (bw s17 85 x1 ((bi s17 85 x1) - 1)))) ∧ (¬ r19 = 0 → Q (.inl (some (.int (bn 0)))) s17)))))))))))))) : A (0, [.ref 12, .int (bn x1)], [], σ) := by
  refine bGo hA 0 0 (0, .aload_n 0, 1, 1, 0, [0], []) rfl rfl rfl ?_
  refine bGo hA 0 1 (1, .aload_n 0, 1, 2, 0, [0], []) rfl rfl rfl ?_
  refine bGo hA 0 2 (2, .iload_n 1, 1, 3, 0, [1], []) rfl rfl rfl ?_
  refine bGo hA 0 3 (3, .invokevirtual 383, 3, 4, 0, [0, 12, 225, 1], []) rfl rfl rfl ?_
  refine ⟨rfl, ?_⟩
  refine hC _ _ _ _ _ (bRn_e (fun r3 s1 q4 k2 => ?_)) h
  show A (4, [.ref 12, .int (bn x1)], [.int (bn r3), .ref 12], s1)
  refine bGo hA 0 4 (6, .ifCond .ne (7), 3, 5, 7, [], []) rfl rfl rfl ?_
  refine bB_eq0 (x := r3) q4 (fun c5 => ?_) (fun c5 => ?_)
  · refine bGo hA 0 5 (9, .iconst (1), 1, 6, 0, [], [(1, 0)]) rfl rfl rfl ?_
    refine bEqI bl_1 ?_
    refine bGo hA 0 6 (10, .goto (17), 3, 7, 15, [], []) rfl rfl rfl ?_
    refine bGo hA 0 15 (27, .invokevirtual 333, 3, 16, 0, [0, 12, 197, 1], []) rfl rfl rfl ?_
    refine ⟨rfl, ?_⟩
    refine hC _ _ _ _ _ (bRn_e (fun r8 s6 q9 k7 => ?_)) (k2.1 c5)
    show A (16, [.ref 12, .int (bn x1)], [.int (bn r8)], s6)
    refine bGo hA 1 0 (30, .ifCond .eq (5), 3, 17, 19, [], []) rfl rfl rfl ?_
    refine bB_eq0 (x := r8) q9 (fun c10 => ?_) (fun c10 => ?_)
    · refine bGo hA 1 3 (35, .aload_n 0, 1, 20, 0, [0], []) rfl rfl rfl ?_
      refine bGo hA 1 4 (36, .getfield 98, 3, 21, 0, [12, 33, 3, 85, 1, 0], []) rfl rfl rfl ?_
      refine ⟨rfl, ?_⟩
      refine bGo hA 1 5 (39, .iload_n 1, 1, 22, 0, [1], []) rfl rfl rfl ?_
      refine bGo hA 1 6 (40, .dup2, 1, 23, 0, [], []) rfl rfl rfl ?_
      refine bGo hA 1 7 (41, .iaload, 1, 24, 0, [], []) rfl rfl rfl ?_
      refine ⟨rfl, (bIxP (x := x1) (n := 16) h_x1 (k7.1 c10).1), ?_⟩
      refine bEqL (x := x1) h_x1 ?_
      refine bGo hA 1 8 (42, .iconst (1), 1, 25, 0, [], [(1, 0)]) rfl rfl rfl ?_
      refine bEqI bl_1 ?_
      refine bGo hA 1 9 (43, .isub, 1, 26, 0, [], []) rfl rfl rfl ?_
      refine bEqI (bn_sub (bi s6 85 x1) 1) ?_
      refine bGo hA 1 10 (44, .iastore, 1, 27, 0, [], []) rfl rfl rfl ?_
      refine ⟨rfl, (bIxP (x := x1) (n := 16) h_x1 (k7.1 c10).1), by decide, ?_⟩
      refine bEqS (x := x1) h_x1 ?_
      refine bGo hA 1 11 (45, .aload_n 0, 1, 28, 0, [0], []) rfl rfl rfl ?_
      refine bGo hA 1 12 (46, .getfield 98, 3, 29, 0, [12, 33, 3, 85, 1, 0], []) rfl rfl rfl ?_
      refine ⟨rfl, ?_⟩
      refine bGo hA 1 13 (49, .iload_n 1, 1, 30, 0, [1], []) rfl rfl rfl ?_
      refine bGo hA 1 14 (50, .iaload, 1, 31, 0, [], []) rfl rfl rfl ?_
      refine ⟨rfl, (bIxP (x := x1) (n := 16) h_x1 (k7.1 c10).1), ?_⟩
      refine bEqL (x := x1) h_x1 ?_
      refine bEqI (congrArg bn (bi_eq (k7.1 c10).2.1)) ?_
      refine bGo hA 1 15 (51, .ireturn, 1, 0, 0, [1], []) rfl rfl rfl ?_
      exact (k7.1 c10).2.2
    · refine bGo hA 1 1 (33, .iconst (0), 1, 18, 0, [], [(0, 0)]) rfl rfl rfl ?_
      refine bEqI bl_0 ?_
      refine bGo hA 1 2 (34, .ireturn, 1, 19, 0, [1], []) rfl rfl rfl ?_
      exact (k7.2 c10)
  · refine bGo hA 0 7 (13, .aload_n 0, 1, 8, 0, [0], []) rfl rfl rfl ?_
    refine bGo hA 0 8 (14, .getfield 98, 3, 9, 0, [12, 33, 3, 85, 1, 0], []) rfl rfl rfl ?_
    refine ⟨rfl, ?_⟩
    refine bGo hA 0 9 (17, .iload_n 1, 1, 10, 0, [1], []) rfl rfl rfl ?_
    refine bGo hA 0 10 (18, .iaload, 1, 11, 0, [], []) rfl rfl rfl ?_
    refine ⟨rfl, (bIxP (x := x1) (n := 16) h_x1 (k2.2 c5).1), ?_⟩
    refine bEqL (x := x1) h_x1 ?_
    refine bGo hA 0 11 (19, .ifCond .ne (7), 3, 12, 14, [], []) rfl rfl rfl ?_
    refine bB_eq0 (x := (bi s1 85 x1)) (bi_rg _ _ _) (fun c11 => ?_) (fun c11 => ?_)
    · refine bGo hA 0 12 (22, .iconst (2), 1, 13, 0, [], [(2, 0)]) rfl rfl rfl ?_
      refine bEqI bl_2 ?_
      refine bGo hA 0 13 (23, .goto (4), 3, 14, 15, [], []) rfl rfl rfl ?_
      refine bGo hA 0 15 (27, .invokevirtual 333, 3, 16, 0, [0, 12, 197, 1], []) rfl rfl rfl ?_
      refine ⟨rfl, ?_⟩
      refine hC _ _ _ _ _ (bRn_e (fun r14 s12 q15 k13 => ?_)) ((k2.2 c5).2.1 c11)
      show A (16, [.ref 12, .int (bn x1)], [.int (bn r14)], s12)
      refine bGo hA 1 0 (30, .ifCond .eq (5), 3, 17, 19, [], []) rfl rfl rfl ?_
      refine bB_eq0 (x := r14) q15 (fun c16 => ?_) (fun c16 => ?_)
      · refine bGo hA 1 3 (35, .aload_n 0, 1, 20, 0, [0], []) rfl rfl rfl ?_
        refine bGo hA 1 4 (36, .getfield 98, 3, 21, 0, [12, 33, 3, 85, 1, 0], []) rfl rfl rfl ?_
        refine ⟨rfl, ?_⟩
        refine bGo hA 1 5 (39, .iload_n 1, 1, 22, 0, [1], []) rfl rfl rfl ?_
        refine bGo hA 1 6 (40, .dup2, 1, 23, 0, [], []) rfl rfl rfl ?_
        refine bGo hA 1 7 (41, .iaload, 1, 24, 0, [], []) rfl rfl rfl ?_
        refine ⟨rfl, (bIxP (x := x1) (n := 16) h_x1 (k2.2 c5).1), ?_⟩
        refine bEqL (x := x1) h_x1 ?_
        refine bGo hA 1 8 (42, .iconst (1), 1, 25, 0, [], [(1, 0)]) rfl rfl rfl ?_
        refine bEqI bl_1 ?_
        refine bGo hA 1 9 (43, .isub, 1, 26, 0, [], []) rfl rfl rfl ?_
        refine bEqI (bn_sub (bi s12 85 x1) 1) ?_
        refine bGo hA 1 10 (44, .iastore, 1, 27, 0, [], []) rfl rfl rfl ?_
        refine ⟨rfl, (bIxP (x := x1) (n := 16) h_x1 (k2.2 c5).1), by decide, ?_⟩
        refine bEqS (x := x1) h_x1 ?_
        refine bGo hA 1 11 (45, .aload_n 0, 1, 28, 0, [0], []) rfl rfl rfl ?_
        refine bGo hA 1 12 (46, .getfield 98, 3, 29, 0, [12, 33, 3, 85, 1, 0], []) rfl rfl rfl ?_
        refine ⟨rfl, ?_⟩
        refine bGo hA 1 13 (49, .iload_n 1, 1, 30, 0, [1], []) rfl rfl rfl ?_
        refine bGo hA 1 14 (50, .iaload, 1, 31, 0, [], []) rfl rfl rfl ?_
        refine ⟨rfl, (bIxP (x := x1) (n := 16) h_x1 (k2.2 c5).1), ?_⟩
        refine bEqL (x := x1) h_x1 ?_
        refine bEqI (congrArg bn (bi_eq (k13.1 c16).1)) ?_
        refine bGo hA 1 15 (51, .ireturn, 1, 0, 0, [1], []) rfl rfl rfl ?_
        exact (k13.1 c16).2
      · refine bGo hA 1 1 (33, .iconst (0), 1, 18, 0, [], [(0, 0)]) rfl rfl rfl ?_
        refine bEqI bl_0 ?_
        refine bGo hA 1 2 (34, .ireturn, 1, 19, 0, [1], []) rfl rfl rfl ?_
        exact (k13.2 c16)
    · refine bGo hA 0 14 (26, .iconst (0), 1, 15, 0, [], [(0, 0)]) rfl rfl rfl ?_
      refine bEqI bl_0 ?_
      refine bGo hA 0 15 (27, .invokevirtual 333, 3, 16, 0, [0, 12, 197, 1], []) rfl rfl rfl ?_
      refine ⟨rfl, ?_⟩
      refine hC _ _ _ _ _ (bRn_e (fun r19 s17 q20 k18 => ?_)) ((k2.2 c5).2.2 c11)
      show A (16, [.ref 12, .int (bn x1)], [.int (bn r19)], s17)
      refine bGo hA 1 0 (30, .ifCond .eq (5), 3, 17, 19, [], []) rfl rfl rfl ?_
      refine bB_eq0 (x := r19) q20 (fun c21 => ?_) (fun c21 => ?_)
      · refine bGo hA 1 3 (35, .aload_n 0, 1, 20, 0, [0], []) rfl rfl rfl ?_
        refine bGo hA 1 4 (36, .getfield 98, 3, 21, 0, [12, 33, 3, 85, 1, 0], []) rfl rfl rfl ?_
        refine ⟨rfl, ?_⟩
        refine bGo hA 1 5 (39, .iload_n 1, 1, 22, 0, [1], []) rfl rfl rfl ?_
        refine bGo hA 1 6 (40, .dup2, 1, 23, 0, [], []) rfl rfl rfl ?_
        refine bGo hA 1 7 (41, .iaload, 1, 24, 0, [], []) rfl rfl rfl ?_
        refine ⟨rfl, (bIxP (x := x1) (n := 16) h_x1 (k2.2 c5).1), ?_⟩
        refine bEqL (x := x1) h_x1 ?_
        refine bGo hA 1 8 (42, .iconst (1), 1, 25, 0, [], [(1, 0)]) rfl rfl rfl ?_
        refine bEqI bl_1 ?_
        refine bGo hA 1 9 (43, .isub, 1, 26, 0, [], []) rfl rfl rfl ?_
        refine bEqI (bn_sub (bi s17 85 x1) 1) ?_
        refine bGo hA 1 10 (44, .iastore, 1, 27, 0, [], []) rfl rfl rfl ?_
        refine ⟨rfl, (bIxP (x := x1) (n := 16) h_x1 (k2.2 c5).1), by decide, ?_⟩
        refine bEqS (x := x1) h_x1 ?_
        refine bGo hA 1 11 (45, .aload_n 0, 1, 28, 0, [0], []) rfl rfl rfl ?_
        refine bGo hA 1 12 (46, .getfield 98, 3, 29, 0, [12, 33, 3, 85, 1, 0], []) rfl rfl rfl ?_
        refine ⟨rfl, ?_⟩
        refine bGo hA 1 13 (49, .iload_n 1, 1, 30, 0, [1], []) rfl rfl rfl ?_
        refine bGo hA 1 14 (50, .iaload, 1, 31, 0, [], []) rfl rfl rfl ?_
        refine ⟨rfl, (bIxP (x := x1) (n := 16) h_x1 (k2.2 c5).1), ?_⟩
        refine bEqL (x := x1) h_x1 ?_
        refine bEqI (congrArg bn (bi_eq (k18.1 c21).1)) ?_
        refine bGo hA 1 15 (51, .ireturn, 1, 0, 0, [1], []) rfl rfl rfl ?_
        exact (k18.1 c21).2
      · refine bGo hA 1 1 (33, .iconst (0), 1, 18, 0, [], [(0, 0)]) rfl rfl rfl ?_
        refine bEqI bl_0 ?_
        refine bGo hA 1 2 (34, .ireturn, 1, 19, 0, [1], []) rfl rfl rfl ?_
        exact (k18.2 c21)

theorem sq234_0 {lvl : Nat} {C : bCall} {Q : bPost} {A : bPt → Prop} (hC : bMono C) (hA : bClosed lvl bm234 C Q A) {x1 : Int} {x2 : Int} {σ : bSt}  (h_x1 : bRg x1) (h_x2 : bRg x2)
  (h : (C 225 [.ref 12, .int (bn x1)] σ (bRn (fun r3 s1 => ((r3 = 0 → (C 197 [.ref 12, .int (bn 1)] s1 (bRn (fun r8 s6 => ((r8 = 0 → ((0 ≤ x1 ∧ x1 < 16) ∧ Q (.inl (some (.int (bn (bi s6 80 x1))))) (bw s6 80 x1 x2))) ∧ (¬ r8 = 0 → Q (.inl (some (.int (bn 0)))) s6)))))) ∧ (¬ r3 = 0 → (C 199 [.int (bn x2), .int (bn (-1)), .int (bn 2)] s1 (bRn (fun r13 s11 => ((r13 = 0 → (C 197 [.ref 12, .int (bn 2)] s11 (bRn (fun r18 s16 => ((r18 = 0 → ((0 ≤ x1 ∧ x1 < 16) ∧ Q (.inl (some (.int (bn (bi s16 80 x1))))) (bw s16 80 x1 x2))) ∧ (¬ r18 = 0 → Q (.inl (some (.int (bn 0)))) s16)))))) ∧ (¬ r13 = 0 → (C 197 [.ref 12, .int (bn 0)] s11 (bRn (fun r23 s21 => ((r23 = 0 → ((0 ≤ x1 ∧ x1 < 16) ∧ Q (.inl (some (.int (bn (bi s21 80 x1))))) (bw s21 80 x1 x2))) ∧ (¬ r23 = 0 → Q (.inl (some (.int (bn 0)))) s21)))))))))))))))) : A (0, [.ref 12, .int (bn x1), .int (bn x2), .float 0], [], σ) := by
  refine bGo hA 0 0 (0, .aload_n 0, 1, 1, 0, [0], []) rfl rfl rfl ?_
  refine bGo hA 0 1 (1, .aload_n 0, 1, 2, 0, [0], []) rfl rfl rfl ?_
  refine bGo hA 0 2 (2, .iload_n 1, 1, 3, 0, [1], []) rfl rfl rfl ?_
  refine bGo hA 0 3 (3, .invokevirtual 383, 3, 4, 0, [0, 12, 225, 1], []) rfl rfl rfl ?_
  refine ⟨rfl, ?_⟩
  refine hC _ _ _ _ _ (bRn_e (fun r3 s1 q4 k2 => ?_)) h
  show A (4, [.ref 12, .int (bn x1), .int (bn x2), .float 0], [.int (bn r3), .ref 12], s1)
  refine bGo hA 0 4 (6, .ifCond .ne (7), 3, 5, 7, [], []) rfl rfl rfl ?_
  refine bB_eq0 (x := r3) q4 (fun c5 => ?_) (fun c5 => ?_)
  · refine bGo hA 0 5 (9, .iconst (1), 1, 6, 0, [], [(1, 0)]) rfl rfl rfl ?_
    refine bEqI bl_1 ?_
    refine bGo hA 0 6 (10, .goto (17), 3, 7, 15, [], []) rfl rfl rfl ?_
    refine bGo hA 0 15 (27, .invokevirtual 333, 3, 16, 0, [0, 12, 197, 1], []) rfl rfl rfl ?_
    refine ⟨rfl, ?_⟩
    refine hC _ _ _ _ _ (bRn_e (fun r8 s6 q9 k7 => ?_)) (k2.1 c5)
    show A (16, [.ref 12, .int (bn x1), .int (bn x2), .float 0], [.int (bn r8)], s6)
    refine bGo hA 1 0 (30, .ifCond .eq (5), 3, 17, 19, [], []) rfl rfl rfl ?_
    refine bB_eq0 (x := r8) q9 (fun c10 => ?_) (fun c10 => ?_)
    · refine bGo hA 1 3 (35, .aload_n 0, 1, 20, 0, [0], []) rfl rfl rfl ?_
      refine bGo hA 1 4 (36, .getfield 83, 3, 21, 0, [12, 28, 3, 80, 1, 0], []) rfl rfl rfl ?_
      refine ⟨rfl, ?_⟩
      refine bGo hA 1 5 (39, .iload_n 1, 1, 22, 0, [1], []) rfl rfl rfl ?_
      refine bGo hA 1 6 (40, .iaload, 1, 23, 0, [], []) rfl rfl rfl ?_
      refine ⟨rfl, (bIxP (x := x1) (n := 16) h_x1 (k7.1 c10).1), ?_⟩
      refine bEqL (x := x1) h_x1 ?_
      refine bGo hA 1 7 (41, .istore_n 3, 1, 24, 0, [3], []) rfl rfl rfl ?_
      refine bGo hA 1 8 (42, .aload_n 0, 1, 25, 0, [0], []) rfl rfl rfl ?_
      refine bGo hA 1 9 (43, .getfield 83, 3, 26, 0, [12, 28, 3, 80, 1, 0], []) rfl rfl rfl ?_
      refine ⟨rfl, ?_⟩
      refine bGo hA 1 10 (46, .iload_n 1, 1, 27, 0, [1], []) rfl rfl rfl ?_
      refine bGo hA 1 11 (47, .iload_n 2, 1, 28, 0, [2], []) rfl rfl rfl ?_
      refine bGo hA 1 12 (48, .iastore, 1, 29, 0, [], []) rfl rfl rfl ?_
      refine ⟨rfl, (bIxP (x := x1) (n := 16) h_x1 (k7.1 c10).1), by decide, ?_⟩
      refine bEqS (x := x1) h_x1 ?_
      refine bGo hA 1 13 (49, .iload_n 3, 1, 30, 0, [3], []) rfl rfl rfl ?_
      refine bGo hA 1 14 (50, .ireturn, 1, 0, 0, [1], []) rfl rfl rfl ?_
      exact (k7.1 c10).2
    · refine bGo hA 1 1 (33, .iconst (0), 1, 18, 0, [], [(0, 0)]) rfl rfl rfl ?_
      refine bEqI bl_0 ?_
      refine bGo hA 1 2 (34, .ireturn, 1, 19, 0, [1], []) rfl rfl rfl ?_
      exact (k7.2 c10)
  · refine bGo hA 0 7 (13, .iload_n 2, 1, 8, 0, [2], []) rfl rfl rfl ?_
    refine bGo hA 0 8 (14, .iconst (-1), 1, 9, 0, [], [(-1, 0)]) rfl rfl rfl ?_
    refine bEqI bl_m1 ?_
    refine bGo hA 0 9 (15, .iconst (2), 1, 10, 0, [], [(2, 0)]) rfl rfl rfl ?_
    refine bEqI bl_2 ?_
    refine bGo hA 0 10 (16, .invokestatic 325, 3, 11, 0, [2, 199, 3], []) rfl rfl rfl ?_
    refine hC _ _ _ _ _ (bRn_e (fun r13 s11 q14 k12 => ?_)) (k2.2 c5)
    show A (11, [.ref 12, .int (bn x1), .int (bn x2), .float 0], [.int (bn r13), .ref 12], s11)
    refine bGo hA 0 11 (19, .ifCond .eq (7), 3, 12, 14, [], []) rfl rfl rfl ?_
    refine bB_eq0 (x := r13) q14 (fun c15 => ?_) (fun c15 => ?_)
    · refine bGo hA 0 14 (26, .iconst (2), 1, 15, 0, [], [(2, 0)]) rfl rfl rfl ?_
      refine bEqI bl_2 ?_
      refine bGo hA 0 15 (27, .invokevirtual 333, 3, 16, 0, [0, 12, 197, 1], []) rfl rfl rfl ?_
      refine ⟨rfl, ?_⟩
      refine hC _ _ _ _ _ (bRn_e (fun r18 s16 q19 k17 => ?_)) (k12.1 c15)
      show A (16, [.ref 12, .int (bn x1), .int (bn x2), .float 0], [.int (bn r18)], s16)
      refine bGo hA 1 0 (30, .ifCond .eq (5), 3, 17, 19, [], []) rfl rfl rfl ?_
      refine bB_eq0 (x := r18) q19 (fun c20 => ?_) (fun c20 => ?_)
      · refine bGo hA 1 3 (35, .aload_n 0, 1, 20, 0, [0], []) rfl rfl rfl ?_
        refine bGo hA 1 4 (36, .getfield 83, 3, 21, 0, [12, 28, 3, 80, 1, 0], []) rfl rfl rfl ?_
        refine ⟨rfl, ?_⟩
        refine bGo hA 1 5 (39, .iload_n 1, 1, 22, 0, [1], []) rfl rfl rfl ?_
        refine bGo hA 1 6 (40, .iaload, 1, 23, 0, [], []) rfl rfl rfl ?_
        refine ⟨rfl, (bIxP (x := x1) (n := 16) h_x1 (k17.1 c20).1), ?_⟩
        refine bEqL (x := x1) h_x1 ?_
        refine bGo hA 1 7 (41, .istore_n 3, 1, 24, 0, [3], []) rfl rfl rfl ?_
        refine bGo hA 1 8 (42, .aload_n 0, 1, 25, 0, [0], []) rfl rfl rfl ?_
        refine bGo hA 1 9 (43, .getfield 83, 3, 26, 0, [12, 28, 3, 80, 1, 0], []) rfl rfl rfl ?_
        refine ⟨rfl, ?_⟩
        refine bGo hA 1 10 (46, .iload_n 1, 1, 27, 0, [1], []) rfl rfl rfl ?_
        refine bGo hA 1 11 (47, .iload_n 2, 1, 28, 0, [2], []) rfl rfl rfl ?_
        refine bGo hA 1 12 (48, .iastore, 1, 29, 0, [], []) rfl rfl rfl ?_
        refine ⟨rfl, (bIxP (x := x1) (n := 16) h_x1 (k17.1 c20).1), by decide, ?_⟩
        refine bEqS (x := x1) h_x1 ?_
        refine bGo hA 1 13 (49, .iload_n 3, 1, 30, 0, [3], []) rfl rfl rfl ?_
        refine bGo hA 1 14 (50, .ireturn, 1, 0, 0, [1], []) rfl rfl rfl ?_
        exact (k17.1 c20).2
      · refine bGo hA 1 1 (33, .iconst (0), 1, 18, 0, [], [(0, 0)]) rfl rfl rfl ?_
        refine bEqI bl_0 ?_
        refine bGo hA 1 2 (34, .ireturn, 1, 19, 0, [1], []) rfl rfl rfl ?_
        exact (k17.2 c20)
    · refine bGo hA 0 12 (22, .iconst (0), 1, 13, 0, [], [(0, 0)]) rfl rfl rfl ?_
      refine bEqI bl_0 ?_
      refine bGo hA 0 13 (23, .goto (4), 3, 14, 15, [], []) rfl rfl rfl ?_
      refine bGo hA 0 15 (27, .invokevirtual 333, 3, 16, 0, [0, 12, 197, 1], []) rfl rfl rfl ?_
      refine ⟨rfl, ?_⟩
      refine hC _ _ _ _ _ (bRn_e (fun r23 s21 q24 k22 => ?_)) (k12.2 c15)
      show A (16, [.ref 12, .int (bn x1), .int (bn x2), .float 0], [.int (bn r23)], s21)
      refine bGo hA 1 0 (30, .ifCond .eq (5), 3, 17, 19, [], []) rfl rfl rfl ?_
      refine bB_eq0 (x := r23) q24 (fun c25 => ?_) (fun c25 => ?_)
      · refine bGo hA 1 3 (35, .aload_n 0, 1, 20, 0, [0], []) rfl rfl rfl ?_
        refine bGo hA 1 4 (36, .getfield 83, 3, 21, 0, [12, 28, 3, 80, 1, 0], []) rfl rfl rfl ?_
        refine ⟨rfl, ?_⟩
        refine bGo hA 1 5 (39, .iload_n 1, 1, 22, 0, [1], []) rfl rfl rfl ?_
        refine bGo hA 1 6 (40, .iaload, 1, 23, 0, [], []) rfl rfl rfl ?_
        refine ⟨rfl, (bIxP (x := x1) (n := 16) h_x1 (k22.1 c25).1), ?_⟩
        refine bEqL (x := x1) h_x1 ?_
        refine bGo hA 1 7 (41, .istore_n 3, 1, 24, 0, [3], []) rfl rfl rfl ?_
        refine bGo hA 1 8 (42, .aload_n 0, 1, 25, 0, [0], []) rfl rfl rfl ?_
        refine bGo hA 1 9 (43, .getfield 83, 3, 26, 0, [12, 28, 3, 80, 1, 0], []) rfl rfl rfl ?_
        refine ⟨rfl, ?_⟩
        refine bGo hA 1 10 (46, .iload_n 1, 1, 27, 0, [1], []) rfl rfl rfl ?_
        refine bGo hA 1 11 (47, .iload_n 2, 1, 28, 0, [2], []) rfl rfl rfl ?_
        refine bGo hA 1 12 (48, .iastore, 1, 29, 0, [], []) rfl rfl rfl ?_
        refine ⟨rfl, (bIxP (x := x1) (n := 16) h_x1 (k22.1 c25).1), by decide, ?_⟩
        refine bEqS (x := x1) h_x1 ?_
        refine bGo hA 1 13 (49, .iload_n 3, 1, 30, 0, [3], []) rfl rfl rfl ?_
        refine bGo hA 1 14 (50, .ireturn, 1, 0, 0, [1], []) rfl rfl rfl ?_
        exact (k22.1 c25).2
      · refine bGo hA 1 1 (33, .iconst (0), 1, 18, 0, [], [(0, 0)]) rfl rfl rfl ?_
        refine bEqI bl_0 ?_
        refine bGo hA 1 2 (34, .ireturn, 1, 19, 0, [1], []) rfl rfl rfl ?_
        exact (k22.2 c25)

theorem sq235_0 {lvl : Nat} {C : bCall} {Q : bPost} {A : bPt → Prop} (hC : bMono C) (hA : bClosed lvl bm235 C Q A) {x1 : Int} {x2 : Int} {x3 : Int} {σ : bSt}  (h_x1 : bRg x1) (h_x2 : bRg x2) (h_x3 : bRg x3)
  (h : (C 225 [.ref 12, .int (bn x1)] σ (bRn (fun r3 s1 => ((r3 = 0 → A (12, [.ref 12, .int (bn x1), .int (bn x2), .int (bn x3), .float 0], [.int (bn 0)], s1)) ∧ (¬ r3 = 0 → (C 199 [.int (bn x2), .int (bn (-1)), .int (bn 3)] s1 (bRn (fun r8 s6 => ((r8 = 0 → A (12, [.ref 12, .int (bn x1), .int (bn x2), .int (bn x3), .float 0], [.int (bn 0)], s6)) ∧ (¬ r8 = 0 → A (12, [.ref 12, .int (bn x1), .int (bn x2), .int (bn x3), .float 0], [.int (bn 1)], s6)))))))))))) : A (0, [.ref 12, .int (bn x1), .int (bn x2), .int (bn x3), .float 0], [], σ) := by
  refine bGo hA 0 0 (0, .aload_n 0, 1, 1, 0, [0], []) rfl rfl rfl ?_
  refine bGo hA 0 1 (1, .iload_n 1, 1, 2, 0, [1], []) rfl rfl rfl ?_
  refine bGo hA 0 2 (2, .invokevirtual 383, 3, 3, 0, [0, 12, 225, 1], []) rfl rfl rfl ?_
  refine ⟨rfl, ?_⟩
  refine hC _ _ _ _ _ (bRn_e (fun r3 s1 q4 k2 => ?_)) h
  show A (3, [.ref 12, .int (bn x1), .int (bn x2), .int (bn x3), .float 0], [.int (bn r3)], s1)
  refine bGo hA 0 3 (5, .ifCond .eq (16), 3, 4, 11, [], []) rfl rfl rfl ?_
  refine bB_eq0 (x := r3) q4 (fun c5 => ?_) (fun c5 => ?_)
  · refine bGo hA 0 11 (21, .iconst (0), 1, 12, 0, [], [(0, 0)]) rfl rfl rfl ?_
    refine bEqI bl_0 ?_
    exact (k2.1 c5)
  · refine bGo hA 0 4 (8, .iload_n 2, 1, 5, 0, [2], []) rfl rfl rfl ?_
    refine bGo hA 0 5 (9, .iconst (-1), 1, 6, 0, [], [(-1, 0)]) rfl rfl rfl ?_
    refine bEqI bl_m1 ?_
    refine bGo hA 0 6 (10, .iconst (3), 1, 7, 0, [], [(3, 0)]) rfl rfl rfl ?_
    refine bEqI bl_3 ?_
    refine bGo hA 0 7 (11, .invokestatic 325, 3, 8, 0, [2, 199, 3], []) rfl rfl rfl ?_
    refine hC _ _ _ _ _ (bRn_e (fun r8 s6 q9 k7 => ?_)) (k2.2 c5)
    show A (8, [.ref 12, .int (bn x1), .int (bn x2), .int (bn x3), .float 0], [.int (bn r8)], s6)
    refine bGo hA 0 8 (14, .ifCond .eq (7), 3, 9, 11, [], []) rfl rfl rfl ?_
    refine bB_eq0 (x := r8) q9 (fun c10 => ?_) (fun c10 => ?_)
    · refine bGo hA 0 11 (21, .iconst (0), 1, 12, 0, [], [(0, 0)]) rfl rfl rfl ?_
      refine bEqI bl_0 ?_
      exact (k7.1 c10)
    · refine bGo hA 0 9 (17, .iconst (1), 1, 10, 0, [], [(1, 0)]) rfl rfl rfl ?_
      refine bEqI bl_1 ?_
      refine bGo hA 0 10 (18, .goto (4), 3, 11, 12, [], []) rfl rfl rfl ?_
      exact (k7.2 c10)

theorem sq235_12 {lvl : Nat} {C : bCall} {Q : bPost} {A : bPt → Prop} (hC : bMono C) (hA : bClosed lvl bm235 C Q A) {l1 : Int} {l2 : Int} {l3 : Int} {v4 : Value} {t0 : Int} {σ : bSt}  (h_l1 : bRg l1) (h_l2 : bRg l2) (h_l3 : bRg l3) (h_t0 : bRg t0)
  (h : ((t0 = 0 → (C 197 [.ref 12, .int (bn 1)] σ (bRn (fun r4 s2 => ((r4 = 0 → ((0 ≤ l1 ∧ l1 < 16) ∧ Q (.inl none) (bw (bw s2 81 l1 l2) 82 l1 l3))) ∧ (¬ r4 = 0 → Q (.inl none) s2)))))) ∧ (¬ t0 = 0 → ((l2 = (-1) → (C 199 [.int (bn l3), .int (bn 0), .int (bn 0)] σ (bRn (fun r10 s8 => ((r10 = 0 → (C 197 [.ref 12, .int (bn 2)] s8 (bRn (fun r15 s13 => ((r15 = 0 → ((0 ≤ l1 ∧ l1 < 16) ∧ Q (.inl none) (bw (bw s13 81 l1 l2) 82 l1 l3))) ∧ (¬ r15 = 0 → Q (.inl none) s13)))))) ∧ (¬ r10 = 0 → (C 197 [.ref 12, .int (bn 0)] s8 (bRn (fun r20 s18 => ((r20 = 0 → ((0 ≤ l1 ∧ l1 < 16) ∧ Q (.inl none) (bw (bw s18 81 l1 l2) 82 l1 l3))) ∧ (¬ r20 = 0 → Q (.inl none) s18))))))))))) ∧ (¬ l2 = (-1) → (C 199 [.int (bn l3), .int (bn 0), .int (bn 3)] σ (bRn (fun r25 s23 => ((r25 = 0 → (C 197 [.ref 12, .int (bn 2)] s23 (bRn (fun r30 s28 => ((r30 = 0 → ((0 ≤ l1 ∧ l1 < 16) ∧ Q (.inl none) (bw (bw s28 81 l1 l2) 82 l1 l3))) ∧ (¬ r30 = 0 → Q (.inl none) s28)))))) ∧ (¬ r25 = 0 → (C 197 [.ref 12, .int (bn 0)] s23 (bRn (fun r35 s33 => ((r35 = 0 → ((0 ≤ l1 ∧ l1 < 16) ∧ Q (.inl none) (bw (bw s33 81 l1 l2) 82 l1 l3))) ∧ (¬ r35 = 0 → Q (.inl none) s33))))))))))))))) : A (12, [.ref 12, .int (bn l1), .int (bn l2), .int (bn l3), v4], [.int (bn t0)], σ) := by
  refine bGo hA 0 12 (22, .istore 4, 2, 13, 0, [4], []) rfl rfl rfl ?_
  refine bGo hA 0 13 (24, .aload_n 0, 1, 14, 0, [0], []) rfl rfl rfl ?_
  refine bGo hA 0 14 (25, .iload 4, 2, 15, 0, [4], []) rfl rfl rfl ?_
  refine bGo hA 0 15 (27, .ifCond .ne (7), 3, 16, 18, [], []) rfl rfl rfl ?_
  refine bB_eq0 (x := t0) h_t0 (fun c1 => ?_) (fun c1 => ?_)
  · refine bGo hA 1 0 (30, .iconst (1), 1, 17, 0, [], [(1, 0)]) rfl rfl rfl ?_
    refine bEqI bl_1 ?_
    refine bGo hA 1 1 (31, .goto (26), 3, 18, 31, [], []) rfl rfl rfl ?_
    refine bGo hA 1 15 (57, .invokevirtual 333, 3, 32, 0, [0, 12, 197, 1], []) rfl rfl rfl ?_
    refine ⟨rfl, ?_⟩
    refine hC _ _ _ _ _ (bRn_e (fun r4 s2 q5 k3 => ?_)) (h.1 c1)
    show A (32, [.ref 12, .int (bn l1), .int (bn l2), .int (bn l3), .int (bn t0)], [.int (bn r4)], s2)
    refine bGo hA 2 0 (60, .ifCond .ne (17), 3, 33, 43, [], []) rfl rfl rfl ?_
    refine bB_eq0 (x := r4) q5 (fun c6 => ?_) (fun c6 => ?_)
    · refine bGo hA 2 1 (63, .aload_n 0, 1, 34, 0, [0], []) rfl rfl rfl ?_
      refine bGo hA 2 2 (64, .getfield 86, 3, 35, 0, [12, 29, 3, 81, 1, 0], []) rfl rfl rfl ?_
      refine ⟨rfl, ?_⟩
      refine bGo hA 2 3 (67, .iload_n 1, 1, 36, 0, [1], []) rfl rfl rfl ?_
      refine bGo hA 2 4 (68, .iload_n 2, 1, 37, 0, [2], []) rfl rfl rfl ?_
      refine bGo hA 2 5 (69, .iastore, 1, 38, 0, [], []) rfl rfl rfl ?_
      refine ⟨rfl, (bIxP (x := l1) (n := 16) h_l1 (k3.1 c6).1), by decide, ?_⟩
      refine bEqS (x := l1) h_l1 ?_
      refine bGo hA 2 6 (70, .aload_n 0, 1, 39, 0, [0], []) rfl rfl rfl ?_
      refine bGo hA 2 7 (71, .getfield 89, 3, 40, 0, [12, 30, 3, 82, 1, 0], []) rfl rfl rfl ?_
      refine ⟨rfl, ?_⟩
      refine bGo hA 2 8 (74, .iload_n 1, 1, 41, 0, [1], []) rfl rfl rfl ?_
      refine bGo hA 2 9 (75, .iload_n 3, 1, 42, 0, [3], []) rfl rfl rfl ?_
      refine bGo hA 2 10 (76, .iastore, 1, 43, 0, [], []) rfl rfl rfl ?_
      refine ⟨rfl, (bIxP (x := l1) (n := 16) h_l1 (k3.1 c6).1), by decide, ?_⟩
      refine bEqS (x := l1) h_l1 ?_
      refine bGo hA 2 11 (77, .return_, 1, 0, 0, [0], []) rfl rfl rfl ?_
      exact (k3.1 c6).2
    · refine bGo hA 2 11 (77, .return_, 1, 0, 0, [0], []) rfl rfl rfl ?_
      exact (k3.2 c6)
  · refine bGo hA 1 2 (34, .iload_n 3, 1, 19, 0, [3], []) rfl rfl rfl ?_
    refine bGo hA 1 3 (35, .iconst (0), 1, 20, 0, [], [(0, 0)]) rfl rfl rfl ?_
    refine bEqI bl_0 ?_
    refine bGo hA 1 4 (36, .iload_n 2, 1, 21, 0, [2], []) rfl rfl rfl ?_
    refine bGo hA 1 5 (37, .iconst (-1), 1, 22, 0, [], [(-1, 0)]) rfl rfl rfl ?_
    refine bEqI bl_m1 ?_
    refine bGo hA 1 6 (38, .if_icmp .ne (7), 3, 23, 25, [], []) rfl rfl rfl ?_
    refine bB_eq (x := l2) (y := (-1)) h_l2 (by decide : bRg (-1)) (fun c7 => ?_) (fun c7 => ?_)
    · refine bGo hA 1 7 (41, .iconst (0), 1, 24, 0, [], [(0, 0)]) rfl rfl rfl ?_
      refine bEqI bl_0 ?_
      refine bGo hA 1 8 (42, .goto (4), 3, 25, 26, [], []) rfl rfl rfl ?_
      refine bGo hA 1 10 (46, .invokestatic 325, 3, 27, 0, [2, 199, 3], []) rfl rfl rfl ?_
      refine hC _ _ _ _ _ (bRn_e (fun r10 s8 q11 k9 => ?_)) ((h.2 c1).1 c7)
      show A (27, [.ref 12, .int (bn l1), .int (bn l2), .int (bn l3), .int (bn t0)], [.int (bn r10), .ref 12], s8)
      refine bGo hA 1 11 (49, .ifCond .eq (7), 3, 28, 30, [], []) rfl rfl rfl ?_
      refine bB_eq0 (x := r10) q11 (fun c12 => ?_) (fun c12 => ?_)
      · refine bGo hA 1 14 (56, .iconst (2), 1, 31, 0, [], [(2, 0)]) rfl rfl rfl ?_
        refine bEqI bl_2 ?_
        refine bGo hA 1 15 (57, .invokevirtual 333, 3, 32, 0, [0, 12, 197, 1], []) rfl rfl rfl ?_
        refine ⟨rfl, ?_⟩
        refine hC _ _ _ _ _ (bRn_e (fun r15 s13 q16 k14 => ?_)) (k9.1 c12)
        show A (32, [.ref 12, .int (bn l1), .int (bn l2), .int (bn l3), .int (bn t0)], [.int (bn r15)], s13)
        refine bGo hA 2 0 (60, .ifCond .ne (17), 3, 33, 43, [], []) rfl rfl rfl ?_
        refine bB_eq0 (x := r15) q16 (fun c17 => ?_) (fun c17 => ?_)
        · refine bGo hA 2 1 (63, .aload_n 0, 1, 34, 0, [0], []) rfl rfl rfl ?_
          refine bGo hA 2 2 (64, .getfield 86, 3, 35, 0, [12, 29, 3, 81, 1, 0], []) rfl rfl rfl ?_
          refine ⟨rfl, ?_⟩
          refine bGo hA 2 3 (67, .iload_n 1, 1, 36, 0, [1], []) rfl rfl rfl ?_
          refine bGo hA 2 4 (68, .iload_n 2, 1, 37, 0, [2], []) rfl rfl rfl ?_
          refine bGo hA 2 5 (69, .iastore, 1, 38, 0, [], []) rfl rfl rfl ?_
          refine ⟨rfl, (bIxP (x := l1) (n := 16) h_l1 (k14.1 c17).1), by decide, ?_⟩
          refine bEqS (x := l1) h_l1 ?_
          refine bGo hA 2 6 (70, .aload_n 0, 1, 39, 0, [0], []) rfl rfl rfl ?_
          refine bGo hA 2 7 (71, .getfield 89, 3, 40, 0, [12, 30, 3, 82, 1, 0], []) rfl rfl rfl ?_
          refine ⟨rfl, ?_⟩
          refine bGo hA 2 8 (74, .iload_n 1, 1, 41, 0, [1], []) rfl rfl rfl ?_
          refine bGo hA 2 9 (75, .iload_n 3, 1, 42, 0, [3], []) rfl rfl rfl ?_
          refine bGo hA 2 10 (76, .iastore, 1, 43, 0, [], []) rfl rfl rfl ?_
          refine ⟨rfl, (bIxP (x := l1) (n := 16) h_l1 (k14.1 c17).1), by decide, ?_⟩
          refine bEqS (x := l1) h_l1 ?_
          refine bGo hA 2 11 (77, .return_, 1, 0, 0, [0], []) rfl rfl rfl ?_
          exact (k14.1 c17).2
        · refine bGo hA 2 11 (77, .return_, 1, 0, 0, [0], []) rfl rfl rfl ?_
          exact (k14.2 c17)
      · refine bGo hA 1 12 (52, .iconst (0), 1, 29, 0, [], [(0, 0)]) rfl rfl rfl ?_
        refine bEqI bl_0 ?_
        refine bGo hA 1 13 (53, .goto (4), 3, 30, 31, [], []) rfl rfl rfl ?_
        refine bGo hA 1 15 (57, .invokevirtual 333, 3, 32, 0, [0, 12, 197, 1], []) rfl rfl rfl ?_
        refine ⟨rfl, ?_⟩
        refine hC _ _ _ _ _ (bRn_e (fun r20 s18 q21 k19 => ?_)) (k9.2 c12)
        show A (32, [.ref 12, .int (bn l1), .int (bn l2), .int (bn l3), .int (bn t0)], [.int (bn r20)], s18)
        refine bGo hA 2 0 (60, .ifCond .ne (17), 3, 33, 43, [], []) rfl rfl rfl ?_
        refine bB_eq0 (x := r20) q21 (fun c22 => ?_) (fun c22 => ?_)
        · refine bGo hA 2 1 (63, .aload_n 0, 1, 34, 0, [0], []) rfl rfl rfl ?_
          refine bGo hA 2 2 (64, .getfield 86, 3, 35, 0, [12, 29, 3, 81, 1, 0], []) rfl rfl rfl ?_
          refine ⟨rfl, ?_⟩
          refine bGo hA 2 3 (67, .iload_n 1, 1, 36, 0, [1], []) rfl rfl rfl ?_
          refine bGo hA 2 4 (68, .iload_n 2, 1, 37, 0, [2], []) rfl rfl rfl ?_
          refine bGo hA 2 5 (69, .iastore, 1, 38, 0, [], []) rfl rfl rfl ?_
          refine ⟨rfl, (bIxP (x := l1) (n := 16) h_l1 (k19.1 c22).1), by decide, ?_⟩
          refine bEqS (x := l1) h_l1 ?_
          refine bGo hA 2 6 (70, .aload_n 0, 1, 39, 0, [0], []) rfl rfl rfl ?_
          refine bGo hA 2 7 (71, .getfield 89, 3, 40, 0, [12, 30, 3, 82, 1, 0], []) rfl rfl rfl ?_
          refine ⟨rfl, ?_⟩
          refine bGo hA 2 8 (74, .iload_n 1, 1, 41, 0, [1], []) rfl rfl rfl ?_
          refine bGo hA 2 9 (75, .iload_n 3, 1, 42, 0, [3], []) rfl rfl rfl ?_
          refine bGo hA 2 10 (76, .iastore, 1, 43, 0, [], []) rfl rfl rfl ?_
          refine ⟨rfl, (bIxP (x := l1) (n := 16) h_l1 (k19.1 c22).1), by decide, ?_⟩
          refine bEqS (x := l1) h_l1 ?_
          refine bGo hA 2 11 (77, .return_, 1, 0, 0, [0], []) rfl rfl rfl ?_
          exact (k19.1 c22).2
        · refine bGo hA 2 11 (77, .return_, 1, 0, 0, [0], []) rfl rfl rfl ?_
          exact (k19.2 c22)
    · refine bGo hA 1 9 (45, .iconst (3), 1, 26, 0, [], [(3, 0)]) rfl rfl rfl ?_
      refine bEqI bl_3 ?_
      refine bGo hA 1 10 (46, .invokestatic 325, 3, 27, 0, [2, 199, 3], []) rfl rfl rfl ?_
      refine hC _ _ _ _ _ (bRn_e (fun r25 s23 q26 k24 => ?_)) ((h.2 c1).2 c7)
      show A (27, [.ref 12, .int (bn l1), .int (bn l2), .int (bn l3), .int (bn t0)], [.int (bn r25), .ref 12], s23)
      refine bGo hA 1 11 (49, .ifCond .eq (7), 3, 28, 30, [], []) rfl rfl rfl ?_
      refine bB_eq0 (x := r25) q26 (fun c27 => ?_) (fun c27 => ?_)
      · refine bGo hA 1 14 (56, .iconst (2), 1, 31, 0, [], [(2, 0)]) rfl rfl rfl ?_
        refine bEqI bl_2 ?_
        refine bGo hA 1 15 (57, .invokevirtual 333, 3, 32, 0, [0, 12, 197, 1], []) rfl rfl rfl ?_
        refine ⟨rfl, ?_⟩
        refine hC _ _ _ _ _ (bRn_e (fun r30 s28 q31 k29 => ?_)) (k24.1 c27)
        show A (32, [.ref 12, .int (bn l1), .int (bn l2), .int (bn l3), .int (bn t0)], [.int (bn r30)], s28)
        refine bGo hA 2 0 (60, .ifCond .ne (17), 3, 33, 43, [], []) rfl rfl rfl ?_
        refine bB_eq0 (x := r30) q31 (fun c32 => ?_) (fun c32 => ?_)
        · refine bGo hA 2 1 (63, .aload_n 0, 1, 34, 0, [0], []) rfl rfl rfl ?_
          refine bGo hA 2 2 (64, .getfield 86, 3, 35, 0, [12, 29, 3, 81, 1, 0], []) rfl rfl rfl ?_
          refine ⟨rfl, ?_⟩
          refine bGo hA 2 3 (67, .iload_n 1, 1, 36, 0, [1], []) rfl rfl rfl ?_
          refine bGo hA 2 4 (68, .iload_n 2, 1, 37, 0, [2], []) rfl rfl rfl ?_
          refine bGo hA 2 5 (69, .iastore, 1, 38, 0, [], []) rfl rfl rfl ?_
          refine ⟨rfl, (bIxP (x := l1) (n := 16) h_l1 (k29.1 c32).1), by decide, ?_⟩
          refine bEqS (x := l1) h_l1 ?_
          refine bGo hA 2 6 (70, .aload_n 0, 1, 39, 0, [0], []) rfl rfl rfl ?_
          refine bGo hA 2 7 (71, .getfield 89, 3, 40, 0, [12, 30, 3, 82, 1, 0], []) rfl rfl rfl ?_
          refine ⟨rfl, ?_⟩
          refine bGo hA 2 8 (74, .iload_n 1, 1, 41, 0, [1], []) rfl rfl rfl ?_
          refine bGo hA 2 9 (75, .iload_n 3, 1, 42, 0, [3], []) rfl rfl rfl ?_
          refine bGo hA 2 10 (76, .iastore, 1, 43, 0, [], []) rfl rfl rfl ?_
          refine ⟨rfl, (bIxP (x := l1) (n := 16) h_l1 (k29.1 c32).1), by decide, ?_⟩
          refine bEqS (x := l1) h_l1 ?_
          refine bGo hA 2 11 (77, .return_, 1, 0, 0, [0], []) rfl rfl rfl ?_
          exact (k29.1 c32).2
        · refine bGo hA 2 11 (77, .return_, 1, 0, 0, [0], []) rfl rfl rfl ?_
          exact (k29.2 c32)
      · refine bGo hA 1 12 (52, .iconst (0), 1, 29, 0, [], [(0, 0)]) rfl rfl rfl ?_
        refine bEqI bl_0 ?_
        refine bGo hA 1 13 (53, .goto (4), 3, 30, 31, [], []) rfl rfl rfl ?_
        refine bGo hA 1 15 (57, .invokevirtual 333, 3, 32, 0, [0, 12, 197, 1], []) rfl rfl rfl ?_
        refine ⟨rfl, ?_⟩
        refine hC _ _ _ _ _ (bRn_e (fun r35 s33 q36 k34 => ?_)) (k24.2 c27)
        show A (32, [.ref 12, .int (bn l1), .int (bn l2), .int (bn l3), .int (bn t0)], [.int (bn r35)], s33)
        refine bGo hA 2 0 (60, .ifCond .ne (17), 3, 33, 43, [], []) rfl rfl rfl ?_
        refine bB_eq0 (x := r35) q36 (fun c37 => ?_) (fun c37 => ?_)
        · refine bGo hA 2 1 (63, .aload_n 0, 1, 34, 0, [0], []) rfl rfl rfl ?_
          refine bGo hA 2 2 (64, .getfield 86, 3, 35, 0, [12, 29, 3, 81, 1, 0], []) rfl rfl rfl ?_
          refine ⟨rfl, ?_⟩
          refine bGo hA 2 3 (67, .iload_n 1, 1, 36, 0, [1], []) rfl rfl rfl ?_
          refine bGo hA 2 4 (68, .iload_n 2, 1, 37, 0, [2], []) rfl rfl rfl ?_
          refine bGo hA 2 5 (69, .iastore, 1, 38, 0, [], []) rfl rfl rfl ?_
          refine ⟨rfl, (bIxP (x := l1) (n := 16) h_l1 (k34.1 c37).1), by decide, ?_⟩
          refine bEqS (x := l1) h_l1 ?_
          refine bGo hA 2 6 (70, .aload_n 0, 1, 39, 0, [0], []) rfl rfl rfl ?_
          refine bGo hA 2 7 (71, .getfield 89, 3, 40, 0, [12, 30, 3, 82, 1, 0], []) rfl rfl rfl ?_
          refine ⟨rfl, ?_⟩
          refine bGo hA 2 8 (74, .iload_n 1, 1, 41, 0, [1], []) rfl rfl rfl ?_
          refine bGo hA 2 9 (75, .iload_n 3, 1, 42, 0, [3], []) rfl rfl rfl ?_
          refine bGo hA 2 10 (76, .iastore, 1, 43, 0, [], []) rfl rfl rfl ?_
          refine ⟨rfl, (bIxP (x := l1) (n := 16) h_l1 (k34.1 c37).1), by decide, ?_⟩
          refine bEqS (x := l1) h_l1 ?_
          refine bGo hA 2 11 (77, .return_, 1, 0, 0, [0], []) rfl rfl rfl ?_
          exact (k34.1 c37).2
        · refine bGo hA 2 11 (77, .return_, 1, 0, 0, [0], []) rfl rfl rfl ?_
          exact (k34.2 c37)

theorem sq236_0 {lvl : Nat} {C : bCall} {Q : bPost} {A : bPt → Prop} (hC : bMono C) (hA : bClosed lvl bm236 C Q A) {x1 : Int} {x2 : Int} {x3 : Int} {x4 : Int} {σ : bSt}  (h_x1 : bRg x1) (h_x2 : bRg x2) (h_x3 : bRg x3) (h_x4 : bRg x4)
  (h : (C 225 [.ref 12, .int (bn x1)] σ (bRn (fun r3 s1 => ((r3 = 0 → A (12, [.ref 12, .int (bn x1), .int (bn x2), .int (bn x3), .int (bn x4), .float 0], [.int (bn 0)], s1)) ∧ (¬ r3 = 0 → (C 199 [.int (bn x2), .int (bn 0), .int (bn 2)] s1 (bRn (fun r8 s6 => ((r8 = 0 → A (12, [.ref 12, .int (bn x1), .int (bn x2), .int (bn x3), .int (bn x4), .float 0], [.int (bn 0)], s6)) ∧ (¬ r8 = 0 → A (12, [.ref 12, .int (bn x1), .int (bn x2), .int (bn x3), .int (bn x4), .float 0], [.int (bn 1)], s6)))))))))))) : A (0, [.ref 12, .int (bn x1), .int (bn x2), .int (bn x3), .int (bn x4), .float 0], [], σ) := by
  refine bGo hA 0 0 (0, .aload_n 0, 1, 1, 0, [0], []) rfl rfl rfl ?_
  refine bGo hA 0 1 (1, .iload_n 1, 1, 2, 0, [1], []) rfl rfl rfl ?_
  refine bGo hA 0 2 (2, .invokevirtual 383, 3, 3, 0, [0, 12, 225, 1], []) rfl rfl rfl ?_
  refine ⟨rfl, ?_⟩
  refine hC _ _ _ _ _ (bRn_e (fun r3 s1 q4 k2 => ?_)) h
  show A (3, [.ref 12, .int (bn x1), .int (bn x2), .int (bn x3), .int (bn x4), .float 0], [.int (bn r3)], s1)
  refine bGo hA 0 3 (5, .ifCond .eq (16), 3, 4, 11, [], []) rfl rfl rfl ?_
  refine bB_eq0 (x := r3) q4 (fun c5 => ?_) (fun c5 => ?_)
  · refine bGo hA 0 11 (21, .iconst (0), 1, 12, 0, [], [(0, 0)]) rfl rfl rfl ?_
    refine bEqI bl_0 ?_
    exact (k2.1 c5)
  · refine bGo hA 0 4 (8, .iload_n 2, 1, 5, 0, [2], []) rfl rfl rfl ?_
    refine bGo hA 0 5 (9, .iconst (0), 1, 6, 0, [], [(0, 0)]) rfl rfl rfl ?_
    refine bEqI bl_0 ?_
    refine bGo hA 0 6 (10, .iconst (2), 1, 7, 0, [], [(2, 0)]) rfl rfl rfl ?_
    refine bEqI bl_2 ?_
    refine bGo hA 0 7 (11, .invokestatic 325, 3, 8, 0, [2, 199, 3], []) rfl rfl rfl ?_
    refine hC _ _ _ _ _ (bRn_e (fun r8 s6 q9 k7 => ?_)) (k2.2 c5)
    show A (8, [.ref 12, .int (bn x1), .int (bn x2), .int (bn x3), .int (bn x4), .float 0], [.int (bn r8)], s6)
    refine bGo hA 0 8 (14, .ifCond .eq (7), 3, 9, 11, [], []) rfl rfl rfl ?_
    refine bB_eq0 (x := r8) q9 (fun c10 => ?_) (fun c10 => ?_)
    · refine bGo hA 0 11 (21, .iconst (0), 1, 12, 0, [], [(0, 0)]) rfl rfl rfl ?_
      refine bEqI bl_0 ?_
      exact (k7.1 c10)
    · refine bGo hA 0 9 (17, .iconst (1), 1, 10, 0, [], [(1, 0)]) rfl rfl rfl ?_
      refine bEqI bl_1 ?_
      refine bGo hA 0 10 (18, .goto (4), 3, 11, 12, [], []) rfl rfl rfl ?_
      exact (k7.2 c10)

theorem sq236_12 {lvl : Nat} {C : bCall} {Q : bPost} {A : bPt → Prop} (hC : bMono C) (hA : bClosed lvl bm236 C Q A) {l1 : Int} {l2 : Int} {l3 : Int} {l4 : Int} {v5 : Value} {t0 : Int} {σ : bSt}  (h_l1 : bRg l1) (h_l2 : bRg l2) (h_l3 : bRg l3) (h_l4 : bRg l4) (h_t0 : bRg t0)
  (h : ((t0 = 0 → (C 197 [.ref 12, .int (bn 1)] σ (bRn (fun r4 s2 => ((r4 = 0 → ((0 ≤ l1 ∧ l1 < 16) ∧ ((l4 = 0 ∨ l4 = 1) ∧ Q (.inl none) (bw (bw (bw s2 89 l1 l2) 90 l1 l3) 91 l1 l4)))) ∧ (¬ r4 = 0 → Q (.inl none) s2)))))) ∧ (¬ t0 = 0 → (C 199 [.int (bn l3), .int (bn 1), .int (bn 20)] σ (bRn (fun r9 s7 => ((r9 = 0 → (C 197 [.ref 12, .int (bn 2)] s7 (bRn (fun r14 s12 => ((r14 = 0 → ((0 ≤ l1 ∧ l1 < 16) ∧ ((l4 = 0 ∨ l4 = 1) ∧ Q (.inl none) (bw (bw (bw s12 89 l1 l2) 90 l1 l3) 91 l1 l4)))) ∧ (¬ r14 = 0 → Q (.inl none) s12)))))) ∧ (¬ r9 = 0 → (C 197 [.ref 12, .int (bn 0)] s7 (bRn (fun r19 s17 => ((r19 = 0 → ((0 ≤ l1 ∧ l1 < 16) ∧ ((l4 = 0 ∨ l4 = 1) ∧ Q (.inl none) (bw (bw (bw s17 89 l1 l2) 90 l1 l3) 91 l1 l4)))) ∧ (¬ r19 = 0 → Q (.inl none) s17))))))))))))) : A (12, [.ref 12, .int (bn l1), .int (bn l2), .int (bn l3), .int (bn l4), v5], [.int (bn t0)], σ) := by
  refine bGo hA 0 12 (22, .istore 5, 2, 13, 0, [5], []) rfl rfl rfl ?_
  refine bGo hA 0 13 (24, .aload_n 0, 1, 14, 0, [0], []) rfl rfl rfl ?_
  refine bGo hA 0 14 (25, .iload 5, 2, 15, 0, [5], []) rfl rfl rfl ?_
  refine bGo hA 0 15 (27, .ifCond .ne (7), 3, 16, 18, [], []) rfl rfl rfl ?_
  refine bB_eq0 (x := t0) h_t0 (fun c1 => ?_) (fun c1 => ?_)
  · refine bGo hA 1 0 (30, .iconst (1), 1, 17, 0, [], [(1, 0)]) rfl rfl rfl ?_
    refine bEqI bl_1 ?_
    refine bGo hA 1 1 (31, .goto (18), 3, 18, 26, [], []) rfl rfl rfl ?_
    refine bGo hA 1 10 (49, .invokevirtual 333, 3, 27, 0, [0, 12, 197, 1], []) rfl rfl rfl ?_
    refine ⟨rfl, ?_⟩
    refine hC _ _ _ _ _ (bRn_e (fun r4 s2 q5 k3 => ?_)) (h.1 c1)
    show A (27, [.ref 12, .int (bn l1), .int (bn l2), .int (bn l3), .int (bn l4), .int (bn t0)], [.int (bn r4)], s2)
    refine bGo hA 1 11 (52, .ifCond .ne (25), 3, 28, 43, [], []) rfl rfl rfl ?_
    refine bB_eq0 (x := r4) q5 (fun c6 => ?_) (fun c6 => ?_)
    · refine bGo hA 1 12 (55, .aload_n 0, 1, 29, 0, [0], []) rfl rfl rfl ?_
      refine bGo hA 1 13 (56, .getfield 110, 3, 30, 0, [12, 37, 3, 89, 1, 0], []) rfl rfl rfl ?_
      refine ⟨rfl, ?_⟩
      refine bGo hA 1 14 (59, .iload_n 1, 1, 31, 0, [1], []) rfl rfl rfl ?_
      refine bGo hA 1 15 (60, .iload_n 2, 1, 32, 0, [2], []) rfl rfl rfl ?_
      refine bGo hA 2 0 (61, .iastore, 1, 33, 0, [], []) rfl rfl rfl ?_
      refine ⟨rfl, (bIxP (x := l1) (n := 16) h_l1 (k3.1 c6).1), by decide, ?_⟩
      refine bEqS (x := l1) h_l1 ?_
      refine bGo hA 2 1 (62, .aload_n 0, 1, 34, 0, [0], []) rfl rfl rfl ?_
      refine bGo hA 2 2 (63, .getfield 113, 3, 35, 0, [12, 38, 3, 90, 1, 0], []) rfl rfl rfl ?_
      refine ⟨rfl, ?_⟩
      refine bGo hA 2 3 (66, .iload_n 1, 1, 36, 0, [1], []) rfl rfl rfl ?_
      refine bGo hA 2 4 (67, .iload_n 3, 1, 37, 0, [3], []) rfl rfl rfl ?_
      refine bGo hA 2 5 (68, .iastore, 1, 38, 0, [], []) rfl rfl rfl ?_
      refine ⟨rfl, (bIxP (x := l1) (n := 16) h_l1 (k3.1 c6).1), by decide, ?_⟩
      refine bEqS (x := l1) h_l1 ?_
      refine bGo hA 2 6 (69, .aload_n 0, 1, 39, 0, [0], []) rfl rfl rfl ?_
      refine bGo hA 2 7 (70, .getfield 116, 3, 40, 0, [12, 39, 3, 91, 1, 0], []) rfl rfl rfl ?_
      refine ⟨rfl, ?_⟩
      refine bGo hA 2 8 (73, .iload_n 1, 1, 41, 0, [1], []) rfl rfl rfl ?_
      refine bGo hA 2 9 (74, .iload 4, 2, 42, 0, [4], []) rfl rfl rfl ?_
      refine bGo hA 2 10 (76, .bastore, 1, 43, 0, [], []) rfl rfl rfl ?_
      refine ⟨rfl, (bIxP (x := l1) (n := 16) h_l1 (k3.1 c6).1), by decide, b01 (k3.1 c6).2.1, ?_⟩
      refine bEqS (x := l1) h_l1 ?_
      refine bGo hA 2 11 (77, .return_, 1, 0, 0, [0], []) rfl rfl rfl ?_
      exact (k3.1 c6).2.2
    · refine bGo hA 2 11 (77, .return_, 1, 0, 0, [0], []) rfl rfl rfl ?_
      exact (k3.2 c6)
  · refine bGo hA 1 2 (34, .iload_n 3, 1, 19, 0, [3], []) rfl rfl rfl ?_
    refine bGo hA 1 3 (35, .iconst (1), 1, 20, 0, [], [(1, 0)]) rfl rfl rfl ?_
    refine bEqI bl_1 ?_
    refine bGo hA 1 4 (36, .bipush (20), 2, 21, 0, [], [(20, 0)]) rfl rfl rfl ?_
    refine bEqI bl_20 ?_
    refine bGo hA 1 5 (38, .invokestatic 325, 3, 22, 0, [2, 199, 3], []) rfl rfl rfl ?_
    refine hC _ _ _ _ _ (bRn_e (fun r9 s7 q10 k8 => ?_)) (h.2 c1)
    show A (22, [.ref 12, .int (bn l1), .int (bn l2), .int (bn l3), .int (bn l4), .int (bn t0)], [.int (bn r9), .ref 12], s7)
    refine bGo hA 1 6 (41, .ifCond .eq (7), 3, 23, 25, [], []) rfl rfl rfl ?_
    refine bB_eq0 (x := r9) q10 (fun c11 => ?_) (fun c11 => ?_)
    · refine bGo hA 1 9 (48, .iconst (2), 1, 26, 0, [], [(2, 0)]) rfl rfl rfl ?_
      refine bEqI bl_2 ?_
      refine bGo hA 1 10 (49, .invokevirtual 333, 3, 27, 0, [0, 12, 197, 1], []) rfl rfl rfl ?_
      refine ⟨rfl, ?_⟩
      refine hC _ _ _ _ _ (bRn_e (fun r14 s12 q15 k13 => ?_)) (k8.1 c11)
      show A (27, [.ref 12, .int (bn l1), .int (bn l2), .int (bn l3), .int (bn l4), .int (bn t0)], [.int (bn r14)], s12)
      refine bGo hA 1 11 (52, .ifCond .ne (25), 3, 28, 43, [], []) rfl rfl rfl ?_
      refine bB_eq0 (x := r14) q15 (fun c16 => ?_) (fun c16 => ?_)
      · refine bGo hA 1 12 (55, .aload_n 0, 1, 29, 0, [0], []) rfl rfl rfl ?_
        refine bGo hA 1 13 (56, .getfield 110, 3, 30, 0, [12, 37, 3, 89, 1, 0], []) rfl rfl rfl ?_
        refine ⟨rfl, ?_⟩
        refine bGo hA 1 14 (59, .iload_n 1, 1, 31, 0, [1], []) rfl rfl rfl ?_
        refine bGo hA 1 15 (60, .iload_n 2, 1, 32, 0, [2], []) rfl rfl rfl ?_
        refine bGo hA 2 0 (61, .iastore, 1, 33, 0, [], []) rfl rfl rfl ?_
        refine ⟨rfl, (bIxP (x := l1) (n := 16) h_l1 (k13.1 c16).1), by decide, ?_⟩
        refine bEqS (x := l1) h_l1 ?_
        refine bGo hA 2 1 (62, .aload_n 0, 1, 34, 0, [0], []) rfl rfl rfl ?_
        refine bGo hA 2 2 (63, .getfield 113, 3, 35, 0, [12, 38, 3, 90, 1, 0], []) rfl rfl rfl ?_
        refine ⟨rfl, ?_⟩
        refine bGo hA 2 3 (66, .iload_n 1, 1, 36, 0, [1], []) rfl rfl rfl ?_
        refine bGo hA 2 4 (67, .iload_n 3, 1, 37, 0, [3], []) rfl rfl rfl ?_
        refine bGo hA 2 5 (68, .iastore, 1, 38, 0, [], []) rfl rfl rfl ?_
        refine ⟨rfl, (bIxP (x := l1) (n := 16) h_l1 (k13.1 c16).1), by decide, ?_⟩
        refine bEqS (x := l1) h_l1 ?_
        refine bGo hA 2 6 (69, .aload_n 0, 1, 39, 0, [0], []) rfl rfl rfl ?_
        refine bGo hA 2 7 (70, .getfield 116, 3, 40, 0, [12, 39, 3, 91, 1, 0], []) rfl rfl rfl ?_
        refine ⟨rfl, ?_⟩
        refine bGo hA 2 8 (73, .iload_n 1, 1, 41, 0, [1], []) rfl rfl rfl ?_
        refine bGo hA 2 9 (74, .iload 4, 2, 42, 0, [4], []) rfl rfl rfl ?_
        refine bGo hA 2 10 (76, .bastore, 1, 43, 0, [], []) rfl rfl rfl ?_
        refine ⟨rfl, (bIxP (x := l1) (n := 16) h_l1 (k13.1 c16).1), by decide, b01 (k13.1 c16).2.1, ?_⟩
        refine bEqS (x := l1) h_l1 ?_
        refine bGo hA 2 11 (77, .return_, 1, 0, 0, [0], []) rfl rfl rfl ?_
        exact (k13.1 c16).2.2
      · refine bGo hA 2 11 (77, .return_, 1, 0, 0, [0], []) rfl rfl rfl ?_
        exact (k13.2 c16)
    · refine bGo hA 1 7 (44, .iconst (0), 1, 24, 0, [], [(0, 0)]) rfl rfl rfl ?_
      refine bEqI bl_0 ?_
      refine bGo hA 1 8 (45, .goto (4), 3, 25, 26, [], []) rfl rfl rfl ?_
      refine bGo hA 1 10 (49, .invokevirtual 333, 3, 27, 0, [0, 12, 197, 1], []) rfl rfl rfl ?_
      refine ⟨rfl, ?_⟩
      refine hC _ _ _ _ _ (bRn_e (fun r19 s17 q20 k18 => ?_)) (k8.2 c11)
      show A (27, [.ref 12, .int (bn l1), .int (bn l2), .int (bn l3), .int (bn l4), .int (bn t0)], [.int (bn r19)], s17)
      refine bGo hA 1 11 (52, .ifCond .ne (25), 3, 28, 43, [], []) rfl rfl rfl ?_
      refine bB_eq0 (x := r19) q20 (fun c21 => ?_) (fun c21 => ?_)
      · refine bGo hA 1 12 (55, .aload_n 0, 1, 29, 0, [0], []) rfl rfl rfl ?_
        refine bGo hA 1 13 (56, .getfield 110, 3, 30, 0, [12, 37, 3, 89, 1, 0], []) rfl rfl rfl ?_
        refine ⟨rfl, ?_⟩
        refine bGo hA 1 14 (59, .iload_n 1, 1, 31, 0, [1], []) rfl rfl rfl ?_
        refine bGo hA 1 15 (60, .iload_n 2, 1, 32, 0, [2], []) rfl rfl rfl ?_
        refine bGo hA 2 0 (61, .iastore, 1, 33, 0, [], []) rfl rfl rfl ?_
        refine ⟨rfl, (bIxP (x := l1) (n := 16) h_l1 (k18.1 c21).1), by decide, ?_⟩
        refine bEqS (x := l1) h_l1 ?_
        refine bGo hA 2 1 (62, .aload_n 0, 1, 34, 0, [0], []) rfl rfl rfl ?_
        refine bGo hA 2 2 (63, .getfield 113, 3, 35, 0, [12, 38, 3, 90, 1, 0], []) rfl rfl rfl ?_
        refine ⟨rfl, ?_⟩
        refine bGo hA 2 3 (66, .iload_n 1, 1, 36, 0, [1], []) rfl rfl rfl ?_
        refine bGo hA 2 4 (67, .iload_n 3, 1, 37, 0, [3], []) rfl rfl rfl ?_
        refine bGo hA 2 5 (68, .iastore, 1, 38, 0, [], []) rfl rfl rfl ?_
        refine ⟨rfl, (bIxP (x := l1) (n := 16) h_l1 (k18.1 c21).1), by decide, ?_⟩
        refine bEqS (x := l1) h_l1 ?_
        refine bGo hA 2 6 (69, .aload_n 0, 1, 39, 0, [0], []) rfl rfl rfl ?_
        refine bGo hA 2 7 (70, .getfield 116, 3, 40, 0, [12, 39, 3, 91, 1, 0], []) rfl rfl rfl ?_
        refine ⟨rfl, ?_⟩
        refine bGo hA 2 8 (73, .iload_n 1, 1, 41, 0, [1], []) rfl rfl rfl ?_
        refine bGo hA 2 9 (74, .iload 4, 2, 42, 0, [4], []) rfl rfl rfl ?_
        refine bGo hA 2 10 (76, .bastore, 1, 43, 0, [], []) rfl rfl rfl ?_
        refine ⟨rfl, (bIxP (x := l1) (n := 16) h_l1 (k18.1 c21).1), by decide, b01 (k18.1 c21).2.1, ?_⟩
        refine bEqS (x := l1) h_l1 ?_
        refine bGo hA 2 11 (77, .return_, 1, 0, 0, [0], []) rfl rfl rfl ?_
        exact (k18.1 c21).2.2
      · refine bGo hA 2 11 (77, .return_, 1, 0, 0, [0], []) rfl rfl rfl ?_
        exact (k18.2 c21)

theorem sq237_0 {lvl : Nat} {C : bCall} {Q : bPost} {A : bPt → Prop} (hC : bMono C) (hA : bClosed lvl bm237 C Q A) {x1 : Int} {x2 : Int} {x3 : Int} {σ : bSt}  (h_x1 : bRg x1) (h_x2 : bRg x2) (h_x3 : bRg x3)
  (h : (C 199 [.int (bn x2), .int (bn 0), .int (bn 4)] σ (bRn (fun r3 s1 => ((r3 = 0 → A (13, [.ref 12, .int (bn x1), .int (bn x2), .int (bn x3), .float 0], [.int (bn 0)], s1)) ∧ (¬ r3 = 0 → (C 199 [.int (bn x3), .int (bn 0), .int (bn 9)] s1 (bRn (fun r8 s6 => ((r8 = 0 → A (13, [.ref 12, .int (bn x1), .int (bn x2), .int (bn x3), .float 0], [.int (bn 0)], s6)) ∧ (¬ r8 = 0 → A (13, [.ref 12, .int (bn x1), .int (bn x2), .int (bn x3), .float 0], [.int (bn 1)], s6)))))))))))) : A (0, [.ref 12, .int (bn x1), .int (bn x2), .int (bn x3), .float 0], [], σ) := by
  refine bGo hA 0 0 (0, .iload_n 2, 1, 1, 0, [2], []) rfl rfl rfl ?_
  refine bGo hA 0 1 (1, .iconst (0), 1, 2, 0, [], [(0, 0)]) rfl rfl rfl ?_
  refine bEqI bl_0 ?_
  refine bGo hA 0 2 (2, .iconst (4), 1, 3, 0, [], [(4, 0)]) rfl rfl rfl ?_
  refine bEqI bl_4 ?_
  refine bGo hA 0 3 (3, .invokestatic 325, 3, 4, 0, [2, 199, 3], []) rfl rfl rfl ?_
  refine hC _ _ _ _ _ (bRn_e (fun r3 s1 q4 k2 => ?_)) h
  show A (4, [.ref 12, .int (bn x1), .int (bn x2), .int (bn x3), .float 0], [.int (bn r3)], s1)
  refine bGo hA 0 4 (6, .ifCond .eq (17), 3, 5, 12, [], []) rfl rfl rfl ?_
  refine bB_eq0 (x := r3) q4 (fun c5 => ?_) (fun c5 => ?_)
  · refine bGo hA 0 12 (23, .iconst (0), 1, 13, 0, [], [(0, 0)]) rfl rfl rfl ?_
    refine bEqI bl_0 ?_
    exact (k2.1 c5)
  · refine bGo hA 0 5 (9, .iload_n 3, 1, 6, 0, [3], []) rfl rfl rfl ?_
    refine bGo hA 0 6 (10, .iconst (0), 1, 7, 0, [], [(0, 0)]) rfl rfl rfl ?_
    refine bEqI bl_0 ?_
    refine bGo hA 0 7 (11, .bipush (9), 2, 8, 0, [], [(9, 0)]) rfl rfl rfl ?_
    refine bEqI bl_9 ?_
    refine bGo hA 0 8 (13, .invokestatic 325, 3, 9, 0, [2, 199, 3], []) rfl rfl rfl ?_
    refine hC _ _ _ _ _ (bRn_e (fun r8 s6 q9 k7 => ?_)) (k2.2 c5)
    show A (9, [.ref 12, .int (bn x1), .int (bn x2), .int (bn x3), .float 0], [.int (bn r8)], s6)
    refine bGo hA 0 9 (16, .ifCond .eq (7), 3, 10, 12, [], []) rfl rfl rfl ?_
    refine bB_eq0 (x := r8) q9 (fun c10 => ?_) (fun c10 => ?_)
    · refine bGo hA 0 12 (23, .iconst (0), 1, 13, 0, [], [(0, 0)]) rfl rfl rfl ?_
      refine bEqI bl_0 ?_
      exact (k7.1 c10)
    · refine bGo hA 0 10 (19, .iconst (1), 1, 11, 0, [], [(1, 0)]) rfl rfl rfl ?_
      refine bEqI bl_1 ?_
      refine bGo hA 0 11 (20, .goto (4), 3, 12, 13, [], []) rfl rfl rfl ?_
      exact (k7.2 c10)

theorem sq237_13 {lvl : Nat} {C : bCall} {Q : bPost} {A : bPt → Prop} (hC : bMono C) (hA : bClosed lvl bm237 C Q A) {l1 : Int} {l2 : Int} {l3 : Int} {v4 : Value} {t0 : Int} {σ : bSt}  (h_l1 : bRg l1) (h_l2 : bRg l2) (h_l3 : bRg l3) (h_t0 : bRg t0)
  (h : (C 225 [.ref 12, .int (bn l1)] σ (bRn (fun r3 s1 => ((r3 = 0 → (C 197 [.ref 12, .int (bn 1)] s1 (bRn (fun r8 s6 => ((r8 = 0 → ((0 ≤ l1 ∧ l1 < 16) ∧ Q (.inl none) (bw (bw s6 92 l1 l2) 93 l1 l3))) ∧ (¬ r8 = 0 → Q (.inl none) s6)))))) ∧ (¬ r3 = 0 → ((t0 = 0 → (C 197 [.ref 12, .int (bn 2)] s1 (bRn (fun r14 s12 => ((r14 = 0 → ((0 ≤ l1 ∧ l1 < 16) ∧ Q (.inl none) (bw (bw s12 92 l1 l2) 93 l1 l3))) ∧ (¬ r14 = 0 → Q (.inl none) s12)))))) ∧ (¬ t0 = 0 → (C 197 [.ref 12, .int (bn 0)] s1 (bRn (fun r19 s17 => ((r19 = 0 → ((0 ≤ l1 ∧ l1 < 16) ∧ Q (.inl none) (bw (bw s17 92 l1 l2) 93 l1 l3))) ∧ (¬ r19 = 0 → Q (.inl none) s17))))))))))))) : A (13, [.ref 12, .int (bn l1), .int (bn l2), .int (bn l3), v4], [.int (bn t0)], σ) := by
  refine bGo hA 0 13 (24, .istore 4, 2, 14, 0, [4], []) rfl rfl rfl ?_
  refine bGo hA 0 14 (26, .aload_n 0, 1, 15, 0, [0], []) rfl rfl rfl ?_
  refine bGo hA 0 15 (27, .aload_n 0, 1, 16, 0, [0], []) rfl rfl rfl ?_
  refine bGo hA 1 0 (28, .iload_n 1, 1, 17, 0, [1], []) rfl rfl rfl ?_
  refine bGo hA 1 1 (29, .invokevirtual 383, 3, 18, 0, [0, 12, 225, 1], []) rfl rfl rfl ?_
  refine ⟨rfl, ?_⟩
  refine hC _ _ _ _ _ (bRn_e (fun r3 s1 q4 k2 => ?_)) h
  show A (18, [.ref 12, .int (bn l1), .int (bn l2), .int (bn l3), .int (bn t0)], [.int (bn r3), .ref 12], s1)
  refine bGo hA 1 2 (32, .ifCond .ne (7), 3, 19, 21, [], []) rfl rfl rfl ?_
  refine bB_eq0 (x := r3) q4 (fun c5 => ?_) (fun c5 => ?_)
  · refine bGo hA 1 3 (35, .iconst (1), 1, 20, 0, [], [(1, 0)]) rfl rfl rfl ?_
    refine bEqI bl_1 ?_
    refine bGo hA 1 4 (36, .goto (13), 3, 21, 26, [], []) rfl rfl rfl ?_
    refine bGo hA 1 10 (49, .invokevirtual 333, 3, 27, 0, [0, 12, 197, 1], []) rfl rfl rfl ?_
    refine ⟨rfl, ?_⟩
    refine hC _ _ _ _ _ (bRn_e (fun r8 s6 q9 k7 => ?_)) (k2.1 c5)
    show A (27, [.ref 12, .int (bn l1), .int (bn l2), .int (bn l3), .int (bn t0)], [.int (bn r8)], s6)
    refine bGo hA 1 11 (52, .ifCond .ne (17), 3, 28, 38, [], []) rfl rfl rfl ?_
    refine bB_eq0 (x := r8) q9 (fun c10 => ?_) (fun c10 => ?_)
    · refine bGo hA 1 12 (55, .aload_n 0, 1, 29, 0, [0], []) rfl rfl rfl ?_
      refine bGo hA 1 13 (56, .getfield 119, 3, 30, 0, [12, 40, 3, 92, 1, 0], []) rfl rfl rfl ?_
      refine ⟨rfl, ?_⟩
      refine bGo hA 1 14 (59, .iload_n 1, 1, 31, 0, [1], []) rfl rfl rfl ?_
      refine bGo hA 1 15 (60, .iload_n 2, 1, 32, 0, [2], []) rfl rfl rfl ?_
      refine bGo hA 2 0 (61, .iastore, 1, 33, 0, [], []) rfl rfl rfl ?_
      refine ⟨rfl, (bIxP (x := l1) (n := 16) h_l1 (k7.1 c10).1), by decide, ?_⟩
      refine bEqS (x := l1) h_l1 ?_
      refine bGo hA 2 1 (62, .aload_n 0, 1, 34, 0, [0], []) rfl rfl rfl ?_
      refine bGo hA 2 2 (63, .getfield 122, 3, 35, 0, [12, 41, 3, 93, 1, 0], []) rfl rfl rfl ?_
      refine ⟨rfl, ?_⟩
      refine bGo hA 2 3 (66, .iload_n 1, 1, 36, 0, [1], []) rfl rfl rfl ?_
      refine bGo hA 2 4 (67, .iload_n 3, 1, 37, 0, [3], []) rfl rfl rfl ?_
      refine bGo hA 2 5 (68, .iastore, 1, 38, 0, [], []) rfl rfl rfl ?_
      refine ⟨rfl, (bIxP (x := l1) (n := 16) h_l1 (k7.1 c10).1), by decide, ?_⟩
      refine bEqS (x := l1) h_l1 ?_
      refine bGo hA 2 6 (69, .return_, 1, 0, 0, [0], []) rfl rfl rfl ?_
      exact (k7.1 c10).2
    · refine bGo hA 2 6 (69, .return_, 1, 0, 0, [0], []) rfl rfl rfl ?_
      exact (k7.2 c10)
  · refine bGo hA 1 5 (39, .iload 4, 2, 22, 0, [4], []) rfl rfl rfl ?_
    refine bGo hA 1 6 (41, .ifCond .eq (7), 3, 23, 25, [], []) rfl rfl rfl ?_
    refine bB_eq0 (x := t0) h_t0 (fun c11 => ?_) (fun c11 => ?_)
    · refine bGo hA 1 9 (48, .iconst (2), 1, 26, 0, [], [(2, 0)]) rfl rfl rfl ?_
      refine bEqI bl_2 ?_
      refine bGo hA 1 10 (49, .invokevirtual 333, 3, 27, 0, [0, 12, 197, 1], []) rfl rfl rfl ?_
      refine ⟨rfl, ?_⟩
      refine hC _ _ _ _ _ (bRn_e (fun r14 s12 q15 k13 => ?_)) ((k2.2 c5).1 c11)
      show A (27, [.ref 12, .int (bn l1), .int (bn l2), .int (bn l3), .int (bn t0)], [.int (bn r14)], s12)
      refine bGo hA 1 11 (52, .ifCond .ne (17), 3, 28, 38, [], []) rfl rfl rfl ?_
      refine bB_eq0 (x := r14) q15 (fun c16 => ?_) (fun c16 => ?_)
      · refine bGo hA 1 12 (55, .aload_n 0, 1, 29, 0, [0], []) rfl rfl rfl ?_
        refine bGo hA 1 13 (56, .getfield 119, 3, 30, 0, [12, 40, 3, 92, 1, 0], []) rfl rfl rfl ?_
        refine ⟨rfl, ?_⟩
        refine bGo hA 1 14 (59, .iload_n 1, 1, 31, 0, [1], []) rfl rfl rfl ?_
        refine bGo hA 1 15 (60, .iload_n 2, 1, 32, 0, [2], []) rfl rfl rfl ?_
        refine bGo hA 2 0 (61, .iastore, 1, 33, 0, [], []) rfl rfl rfl ?_
        refine ⟨rfl, (bIxP (x := l1) (n := 16) h_l1 (k13.1 c16).1), by decide, ?_⟩
        refine bEqS (x := l1) h_l1 ?_
        refine bGo hA 2 1 (62, .aload_n 0, 1, 34, 0, [0], []) rfl rfl rfl ?_
        refine bGo hA 2 2 (63, .getfield 122, 3, 35, 0, [12, 41, 3, 93, 1, 0], []) rfl rfl rfl ?_
        refine ⟨rfl, ?_⟩
        refine bGo hA 2 3 (66, .iload_n 1, 1, 36, 0, [1], []) rfl rfl rfl ?_
        refine bGo hA 2 4 (67, .iload_n 3, 1, 37, 0, [3], []) rfl rfl rfl ?_
        refine bGo hA 2 5 (68, .iastore, 1, 38, 0, [], []) rfl rfl rfl ?_
        refine ⟨rfl, (bIxP (x := l1) (n := 16) h_l1 (k13.1 c16).1), by decide, ?_⟩
        refine bEqS (x := l1) h_l1 ?_
        refine bGo hA 2 6 (69, .return_, 1, 0, 0, [0], []) rfl rfl rfl ?_
        exact (k13.1 c16).2
      · refine bGo hA 2 6 (69, .return_, 1, 0, 0, [0], []) rfl rfl rfl ?_
        exact (k13.2 c16)
    · refine bGo hA 1 7 (44, .iconst (0), 1, 24, 0, [], [(0, 0)]) rfl rfl rfl ?_
      refine bEqI bl_0 ?_
      refine bGo hA 1 8 (45, .goto (4), 3, 25, 26, [], []) rfl rfl rfl ?_
      refine bGo hA 1 10 (49, .invokevirtual 333, 3, 27, 0, [0, 12, 197, 1], []) rfl rfl rfl ?_
      refine ⟨rfl, ?_⟩
      refine hC _ _ _ _ _ (bRn_e (fun r19 s17 q20 k18 => ?_)) ((k2.2 c5).2 c11)
      show A (27, [.ref 12, .int (bn l1), .int (bn l2), .int (bn l3), .int (bn t0)], [.int (bn r19)], s17)
      refine bGo hA 1 11 (52, .ifCond .ne (17), 3, 28, 38, [], []) rfl rfl rfl ?_
      refine bB_eq0 (x := r19) q20 (fun c21 => ?_) (fun c21 => ?_)
      · refine bGo hA 1 12 (55, .aload_n 0, 1, 29, 0, [0], []) rfl rfl rfl ?_
        refine bGo hA 1 13 (56, .getfield 119, 3, 30, 0, [12, 40, 3, 92, 1, 0], []) rfl rfl rfl ?_
        refine ⟨rfl, ?_⟩
        refine bGo hA 1 14 (59, .iload_n 1, 1, 31, 0, [1], []) rfl rfl rfl ?_
        refine bGo hA 1 15 (60, .iload_n 2, 1, 32, 0, [2], []) rfl rfl rfl ?_
        refine bGo hA 2 0 (61, .iastore, 1, 33, 0, [], []) rfl rfl rfl ?_
        refine ⟨rfl, (bIxP (x := l1) (n := 16) h_l1 (k18.1 c21).1), by decide, ?_⟩
        refine bEqS (x := l1) h_l1 ?_
        refine bGo hA 2 1 (62, .aload_n 0, 1, 34, 0, [0], []) rfl rfl rfl ?_
        refine bGo hA 2 2 (63, .getfield 122, 3, 35, 0, [12, 41, 3, 93, 1, 0], []) rfl rfl rfl ?_
        refine ⟨rfl, ?_⟩
        refine bGo hA 2 3 (66, .iload_n 1, 1, 36, 0, [1], []) rfl rfl rfl ?_
        refine bGo hA 2 4 (67, .iload_n 3, 1, 37, 0, [3], []) rfl rfl rfl ?_
        refine bGo hA 2 5 (68, .iastore, 1, 38, 0, [], []) rfl rfl rfl ?_
        refine ⟨rfl, (bIxP (x := l1) (n := 16) h_l1 (k18.1 c21).1), by decide, ?_⟩
        refine bEqS (x := l1) h_l1 ?_
        refine bGo hA 2 6 (69, .return_, 1, 0, 0, [0], []) rfl rfl rfl ?_
        exact (k18.1 c21).2
      · refine bGo hA 2 6 (69, .return_, 1, 0, 0, [0], []) rfl rfl rfl ?_
        exact (k18.2 c21)


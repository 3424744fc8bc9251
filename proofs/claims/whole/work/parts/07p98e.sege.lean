/-! segments of methods 95,97,98,99,100,101,102,103,104,105,106,107,108,150,151,152, by program (wip/whole/gen13.py): from a cut of a method on to the next cuts -/
theorem sq95_0 {lvl : Nat} {C : bCall} {Q : bPost} {A : bPt → Prop} (hC : bMono C) (hA : bClosed lvl bm95 C Q A) {x1 : Int} {x2 : Int} {σ : bSt}  (h_x1 : bRg x1) (h_x2 : bRg x2)
  (h : (C 101 [.ref 7, .int (bn x1)] σ (bRv (fun s1 => (C 99 [.ref 7, .int (bn x1), .int (bn x2)] s1 (bRn (fun r5 s3 => ((r5 < 1000 → Q (.inl (some (.int (bn r5)))) s3) ∧ (¬ r5 < 1000 → Q (.inl (some (.int (bn (-2))))) s3))))))))) : A (0, [.ref 7, .int (bn x1), .int (bn x2), .float 0], [], σ) := by
  refine bGo hA 0 0 (0, .aload_n 0, 1, 1, 0, [0], []) rfl rfl rfl ?_
  refine bGo hA 0 1 (1, .iload_n 1, 1, 2, 0, [1], []) rfl rfl rfl ?_
  refine bGo hA 0 2 (2, .invokevirtual 74, 3, 3, 0, [0, 7, 101, 1], []) rfl rfl rfl ?_
  refine ⟨rfl, ?_⟩
  refine hC _ _ _ _ _ (bRv_e (fun s1 k2 => ?_)) h
  show A (3, [.ref 7, .int (bn x1), .int (bn x2), .float 0], [], s1)
  refine bGo hA 0 3 (5, .aload_n 0, 1, 4, 0, [0], []) rfl rfl rfl ?_
  refine bGo hA 0 4 (6, .iload_n 1, 1, 5, 0, [1], []) rfl rfl rfl ?_
  refine bGo hA 0 5 (7, .iload_n 2, 1, 6, 0, [2], []) rfl rfl rfl ?_
  refine bGo hA 0 6 (8, .invokevirtual 78, 3, 7, 0, [0, 7, 99, 2], []) rfl rfl rfl ?_
  refine ⟨rfl, ?_⟩
  refine hC _ _ _ _ _ (bRn_e (fun r5 s3 q6 k4 => ?_)) k2
  show A (7, [.ref 7, .int (bn x1), .int (bn x2), .float 0], [.int (bn r5)], s3)
  refine bGo hA 0 7 (11, .istore_n 3, 1, 8, 0, [3], []) rfl rfl rfl ?_
  refine bGo hA 0 8 (12, .iload_n 3, 1, 9, 0, [3], []) rfl rfl rfl ?_
  refine bGo hA 0 9 (13, .sipush (1000), 3, 10, 0, [], [(1000, 0)]) rfl rfl rfl ?_
  refine bEqI bl_1000 ?_
  refine bGo hA 0 10 (16, .if_icmp .lt (8), 3, 11, 13, [], []) rfl rfl rfl ?_
  refine bB_lt (x := r5) (y := 1000) q6 (by decide : bRg 1000) (fun c7 => ?_) (fun c7 => ?_)
  · refine bGo hA 0 13 (24, .iload_n 3, 1, 14, 0, [3], []) rfl rfl rfl ?_
    refine bGo hA 0 14 (25, .ireturn, 1, 0, 0, [1], []) rfl rfl rfl ?_
    exact (k4.1 c7)
  · refine bGo hA 0 11 (19, .bipush (-2), 2, 12, 0, [], [(-2, 0)]) rfl rfl rfl ?_
    refine bEqI bl_m2 ?_
    refine bGo hA 0 12 (21, .goto (4), 3, 13, 14, [], []) rfl rfl rfl ?_
    refine bGo hA 0 14 (25, .ireturn, 1, 0, 0, [1], []) rfl rfl rfl ?_
    exact (k4.2 c7)

theorem sq97_0 {lvl : Nat} {C : bCall} {Q : bPost} {A : bPt → Prop} (hC : bMono C) (hA : bClosed lvl bm97 C Q A) {x1 : Int} {x2 : Int} {x3 : Int} {σ : bSt}  (h_x1 : bRg x1) (h_x2 : bRg x2) (h_x3 : bRg x3)
  (h : (C 101 [.ref 7, .int (bn x1)] σ (bRv (fun s1 => (C 99 [.ref 7, .int (bn x1), .int (bn x2)] s1 (bRn (fun r5 s3 => (bRg (r5 - 1000) ∧ (((r5 - 1000) < 0 → Q (.inl (some (.int (bn (-1))))) s3) ∧ (¬ (r5 - 1000) < 0 → (C 140 [.ref 43, .int (bn (r5 - 1000))] s3 (bRn (fun r10 s8 => ((x3 < r10 → (bRg ((r5 - 1000) * 8) ∧ (bRg (((r5 - 1000) * 8) + x3) ∧ (C 140 [.ref 45, .int (bn (((r5 - 1000) * 8) + x3))] s8 (bRn (fun r15 s13 => Q (.inl (some (.int (bn r15)))) s13)))))) ∧ (¬ x3 < r10 → Q (.inl (some (.int (bn (-1))))) s8))))))))))))))) : A (0, [.ref 7, .int (bn x1), .int (bn x2), .int (bn x3), .float 0], [], σ) := by
  refine bGo hA 0 0 (0, .aload_n 0, 1, 1, 0, [0], []) rfl rfl rfl ?_
  refine bGo hA 0 1 (1, .iload_n 1, 1, 2, 0, [1], []) rfl rfl rfl ?_
  refine bGo hA 0 2 (2, .invokevirtual 74, 3, 3, 0, [0, 7, 101, 1], []) rfl rfl rfl ?_
  refine ⟨rfl, ?_⟩
  refine hC _ _ _ _ _ (bRv_e (fun s1 k2 => ?_)) h
  show A (3, [.ref 7, .int (bn x1), .int (bn x2), .int (bn x3), .float 0], [], s1)
  refine bGo hA 0 3 (5, .aload_n 0, 1, 4, 0, [0], []) rfl rfl rfl ?_
  refine bGo hA 0 4 (6, .iload_n 1, 1, 5, 0, [1], []) rfl rfl rfl ?_
  refine bGo hA 0 5 (7, .iload_n 2, 1, 6, 0, [2], []) rfl rfl rfl ?_
  refine bGo hA 0 6 (8, .invokevirtual 78, 3, 7, 0, [0, 7, 99, 2], []) rfl rfl rfl ?_
  refine ⟨rfl, ?_⟩
  refine hC _ _ _ _ _ (bRn_e (fun r5 s3 q6 k4 => ?_)) k2
  show A (7, [.ref 7, .int (bn x1), .int (bn x2), .int (bn x3), .float 0], [.int (bn r5)], s3)
  refine bGo hA 0 7 (11, .sipush (1000), 3, 8, 0, [], [(1000, 0)]) rfl rfl rfl ?_
  refine bEqI bl_1000 ?_
  refine bGo hA 0 8 (14, .isub, 1, 9, 0, [], []) rfl rfl rfl ?_
  refine bEqI (bn_sub r5 1000) ?_
  refine bGo hA 0 9 (15, .istore 4, 2, 10, 0, [4], []) rfl rfl rfl ?_
  refine bGo hA 0 10 (17, .iload 4, 2, 11, 0, [4], []) rfl rfl rfl ?_
  refine bGo hA 0 11 (19, .ifCond .lt (33), 3, 12, 27, [], []) rfl rfl rfl ?_
  refine bB_lt0 (x := (r5 - 1000)) k4.1 (fun c7 => ?_) (fun c7 => ?_)
  · refine bGo hA 1 11 (52, .iconst (-1), 1, 28, 0, [], [(-1, 0)]) rfl rfl rfl ?_
    refine bEqI bl_m1 ?_
    refine bGo hA 1 12 (53, .ireturn, 1, 0, 0, [1], []) rfl rfl rfl ?_
    exact (k4.2.1 c7)
  · refine bGo hA 0 12 (22, .iload_n 3, 1, 13, 0, [3], []) rfl rfl rfl ?_
    refine bGo hA 0 13 (23, .aload_n 0, 1, 14, 0, [0], []) rfl rfl rfl ?_
    refine bGo hA 0 14 (24, .getfield 39, 3, 15, 0, [7, 9, 3, 43, 1, 0], []) rfl rfl rfl ?_
    refine ⟨rfl, ?_⟩
    refine bGo hA 0 15 (27, .iload 4, 2, 16, 0, [4], []) rfl rfl rfl ?_
    refine bGo hA 1 0 (29, .invokestatic 55, 3, 17, 1, [2, 140, 2], []) rfl rfl rfl ?_
    refine hC _ _ _ _ _ (bRn_e (fun r10 s8 q11 k9 => ?_)) (k4.2.2 c7)
    show A (17, [.ref 7, .int (bn x1), .int (bn x2), .int (bn x3), .int (bn (r5 - 1000))], [.int (bn r10), .int (bn x3)], s8)
    refine bGo hA 1 1 (32, .if_icmp .ge (20), 3, 18, 27, [], []) rfl rfl rfl ?_
    refine bB_lt (x := x3) (y := r10) h_x3 q11 (fun c12 => ?_) (fun c12 => ?_)
    · refine bGo hA 1 2 (35, .aload_n 0, 1, 19, 0, [0], []) rfl rfl rfl ?_
      refine bGo hA 1 3 (36, .getfield 45, 3, 20, 0, [7, 11, 3, 45, 1, 0], []) rfl rfl rfl ?_
      refine ⟨rfl, ?_⟩
      refine bGo hA 1 4 (39, .iload 4, 2, 21, 0, [4], []) rfl rfl rfl ?_
      refine bGo hA 1 5 (41, .bipush (8), 2, 22, 0, [], [(8, 0)]) rfl rfl rfl ?_
      refine bEqI bl_8 ?_
      refine bGo hA 1 6 (43, .imul, 1, 23, 0, [], []) rfl rfl rfl ?_
      refine bEqI (bn_mul (r5 - 1000) 8) ?_
      refine bGo hA 1 7 (44, .iload_n 3, 1, 24, 0, [3], []) rfl rfl rfl ?_
      refine bGo hA 1 8 (45, .iadd, 1, 25, 0, [], []) rfl rfl rfl ?_
      refine bEqI (bn_add ((r5 - 1000) * 8) x3) ?_
      refine bGo hA 1 9 (46, .invokestatic 55, 3, 26, 1, [2, 140, 2], []) rfl rfl rfl ?_
      refine hC _ _ _ _ _ (bRn_e (fun r15 s13 q16 k14 => ?_)) (k9.1 c12).2.2
      show A (26, [.ref 7, .int (bn x1), .int (bn x2), .int (bn x3), .int (bn (r5 - 1000))], [.int (bn r15)], s13)
      refine bGo hA 1 10 (49, .goto (4), 3, 27, 28, [], []) rfl rfl rfl ?_
      refine bGo hA 1 12 (53, .ireturn, 1, 0, 0, [1], []) rfl rfl rfl ?_
      exact k14
    · refine bGo hA 1 11 (52, .iconst (-1), 1, 28, 0, [], [(-1, 0)]) rfl rfl rfl ?_
      refine bEqI bl_m1 ?_
      refine bGo hA 1 12 (53, .ireturn, 1, 0, 0, [1], []) rfl rfl rfl ?_
      exact (k9.2 c12)

theorem sq98_0 {lvl : Nat} {C : bCall} {Q : bPost} {A : bPt → Prop} (hC : bMono C) (hA : bClosed lvl bm98 C Q A) {x1 : Int} {x2 : Int} {σ : bSt}  (h_x1 : bRg x1) (h_x2 : bRg x2)
  (h : (C 101 [.ref 7, .int (bn x1)] σ (bRv (fun s1 => (((bi s1 7 14) = (-1) → Q (.inl (some (.int (bn (-1))))) s1) ∧ (¬ (bi s1 7 14) = (-1) → ((x2 < (bi s1 7 13) → (C 140 [.ref 42, .int (bn x2)] s1 (bRn (fun r7 s5 => (bRg (r7 * 1000) ∧ (C 140 [.ref 41, .int (bn r7)] s5 (bRn (fun r11 s9 => (bRg (r11 * 10) ∧ (bRg ((r7 * 1000) + (r11 * 10)) ∧ (bRg ((bi s9 7 13) - 1) ∧ ((x2 = ((bi s9 7 13) - 1) → (bRg (((r7 * 1000) + (r11 * 10)) + (bi s9 7 14)) ∧ Q (.inl (some (.int (bn (((r7 * 1000) + (r11 * 10)) + (bi s9 7 14)))))) s9)) ∧ (¬ x2 = ((bi s9 7 13) - 1) → (bRg (((r7 * 1000) + (r11 * 10)) + 6) ∧ Q (.inl (some (.int (bn (((r7 * 1000) + (r11 * 10)) + 6))))) s9)))))))))))))) ∧ (¬ x2 < (bi s1 7 13) → Q (.inl (some (.int (bn (-1))))) s1)))))))) : A (0, [.ref 7, .int (bn x1), .int (bn x2), .float 0], [], σ) := by
  refine bGo hA 0 0 (0, .aload_n 0, 1, 1, 0, [0], []) rfl rfl rfl ?_
  refine bGo hA 0 1 (1, .iload_n 1, 1, 2, 0, [1], []) rfl rfl rfl ?_
  refine bGo hA 0 2 (2, .invokevirtual 74, 3, 3, 0, [0, 7, 101, 1], []) rfl rfl rfl ?_
  refine ⟨rfl, ?_⟩
  refine hC _ _ _ _ _ (bRv_e (fun s1 k2 => ?_)) h
  show A (3, [.ref 7, .int (bn x1), .int (bn x2), .float 0], [], s1)
  refine bGo hA 0 3 (5, .aload_n 0, 1, 4, 0, [0], []) rfl rfl rfl ?_
  refine bGo hA 0 4 (6, .getfield 48, 3, 5, 0, [7, 14, 0, 0, 0, 0], []) rfl rfl rfl ?_
  refine ⟨rfl, ?_⟩
  refine bEqI (bn_bi s1 7 14) ?_
  refine bGo hA 0 5 (9, .iconst (-1), 1, 6, 0, [], [(-1, 0)]) rfl rfl rfl ?_
  refine bEqI bl_m1 ?_
  refine bGo hA 0 6 (10, .if_icmp .eq (11), 3, 7, 11, [], []) rfl rfl rfl ?_
  refine bB_eq (x := (bi s1 7 14)) (y := (-1)) (bi_rg _ _ _) (by decide : bRg (-1)) (fun c3 => ?_) (fun c3 => ?_)
  · refine bGo hA 0 11 (21, .iconst (-1), 1, 12, 0, [], [(-1, 0)]) rfl rfl rfl ?_
    refine bEqI bl_m1 ?_
    refine bGo hA 0 12 (22, .ireturn, 1, 13, 0, [1], []) rfl rfl rfl ?_
    exact (k2.1 c3)
  · refine bGo hA 0 7 (13, .iload_n 2, 1, 8, 0, [2], []) rfl rfl rfl ?_
    refine bGo hA 0 8 (14, .aload_n 0, 1, 9, 0, [0], []) rfl rfl rfl ?_
    refine bGo hA 0 9 (15, .getfield 81, 3, 10, 0, [7, 13, 0, 0, 0, 0], []) rfl rfl rfl ?_
    refine ⟨rfl, ?_⟩
    refine bEqI (bn_bi s1 7 13) ?_
    refine bGo hA 0 10 (18, .if_icmp .lt (5), 3, 11, 13, [], []) rfl rfl rfl ?_
    refine bB_lt (x := x2) (y := (bi s1 7 13)) h_x2 (bi_rg _ _ _) (fun c4 => ?_) (fun c4 => ?_)
    · refine bGo hA 0 13 (23, .aload_n 0, 1, 14, 0, [0], []) rfl rfl rfl ?_
      refine bGo hA 0 14 (24, .getfield 36, 3, 15, 0, [7, 8, 3, 42, 1, 0], []) rfl rfl rfl ?_
      refine ⟨rfl, ?_⟩
      refine bGo hA 0 15 (27, .iload_n 2, 1, 16, 0, [2], []) rfl rfl rfl ?_
      refine bGo hA 1 0 (28, .invokestatic 55, 3, 17, 1, [2, 140, 2], []) rfl rfl rfl ?_
      refine hC _ _ _ _ _ (bRn_e (fun r7 s5 q8 k6 => ?_)) ((k2.2 c3).1 c4)
      show A (17, [.ref 7, .int (bn x1), .int (bn x2), .float 0], [.int (bn r7)], s5)
      refine bGo hA 1 1 (31, .istore_n 3, 1, 18, 0, [3], []) rfl rfl rfl ?_
      refine bGo hA 1 2 (32, .iload_n 3, 1, 19, 0, [3], []) rfl rfl rfl ?_
      refine bGo hA 1 3 (33, .sipush (1000), 3, 20, 0, [], [(1000, 0)]) rfl rfl rfl ?_
      refine bEqI bl_1000 ?_
      refine bGo hA 1 4 (36, .imul, 1, 21, 0, [], []) rfl rfl rfl ?_
      refine bEqI (bn_mul r7 1000) ?_
      refine bGo hA 1 5 (37, .aload_n 0, 1, 22, 0, [0], []) rfl rfl rfl ?_
      refine bGo hA 1 6 (38, .getfield 33, 3, 23, 0, [7, 7, 3, 41, 1, 0], []) rfl rfl rfl ?_
      refine ⟨rfl, ?_⟩
      refine bGo hA 1 7 (41, .iload_n 3, 1, 24, 0, [3], []) rfl rfl rfl ?_
      refine bGo hA 1 8 (42, .invokestatic 55, 3, 25, 1, [2, 140, 2], []) rfl rfl rfl ?_
      refine hC _ _ _ _ _ (bRn_e (fun r11 s9 q12 k10 => ?_)) k6.2
      show A (25, [.ref 7, .int (bn x1), .int (bn x2), .int (bn r7)], [.int (bn r11), .int (bn (r7 * 1000))], s9)
      refine bGo hA 1 9 (45, .bipush (10), 2, 26, 0, [], [(10, 0)]) rfl rfl rfl ?_
      refine bEqI bl_10 ?_
      refine bGo hA 1 10 (47, .imul, 1, 27, 0, [], []) rfl rfl rfl ?_
      refine bEqI (bn_mul r11 10) ?_
      refine bGo hA 1 11 (48, .iadd, 1, 28, 0, [], []) rfl rfl rfl ?_
      refine bEqI (bn_add (r7 * 1000) (r11 * 10)) ?_
      refine bGo hA 1 12 (49, .iload_n 2, 1, 29, 0, [2], []) rfl rfl rfl ?_
      refine bGo hA 1 13 (50, .aload_n 0, 1, 30, 0, [0], []) rfl rfl rfl ?_
      refine bGo hA 1 14 (51, .getfield 81, 3, 31, 0, [7, 13, 0, 0, 0, 0], []) rfl rfl rfl ?_
      refine ⟨rfl, ?_⟩
      refine bEqI (bn_bi s9 7 13) ?_
      refine bGo hA 1 15 (54, .iconst (1), 1, 32, 0, [], [(1, 0)]) rfl rfl rfl ?_
      refine bEqI bl_1 ?_
      refine bGo hA 2 0 (55, .isub, 1, 33, 0, [], []) rfl rfl rfl ?_
      refine bEqI (bn_sub (bi s9 7 13) 1) ?_
      refine bGo hA 2 1 (56, .if_icmp .ne (10), 3, 34, 37, [], []) rfl rfl rfl ?_
      refine bB_eq (x := x2) (y := ((bi s9 7 13) - 1)) h_x2 k10.2.2.1 (fun c13 => ?_) (fun c13 => ?_)
      · refine bGo hA 2 2 (59, .aload_n 0, 1, 35, 0, [0], []) rfl rfl rfl ?_
        refine bGo hA 2 3 (60, .getfield 48, 3, 36, 0, [7, 14, 0, 0, 0, 0], []) rfl rfl rfl ?_
        refine ⟨rfl, ?_⟩
        refine bEqI (bn_bi s9 7 14) ?_
        refine bGo hA 2 4 (63, .goto (5), 3, 37, 38, [], []) rfl rfl rfl ?_
        refine bGo hA 2 6 (68, .iadd, 1, 39, 0, [], []) rfl rfl rfl ?_
        refine bEqI (bn_add ((r7 * 1000) + (r11 * 10)) (bi s9 7 14)) ?_
        refine bGo hA 2 7 (69, .ireturn, 1, 0, 0, [1], []) rfl rfl rfl ?_
        exact (k10.2.2.2.1 c13).2
      · refine bGo hA 2 5 (66, .bipush (6), 2, 38, 0, [], [(6, 0)]) rfl rfl rfl ?_
        refine bEqI bl_6 ?_
        refine bGo hA 2 6 (68, .iadd, 1, 39, 0, [], []) rfl rfl rfl ?_
        refine bEqI (bn_add ((r7 * 1000) + (r11 * 10)) 6) ?_
        refine bGo hA 2 7 (69, .ireturn, 1, 0, 0, [1], []) rfl rfl rfl ?_
        exact (k10.2.2.2.2 c13).2
    · refine bGo hA 0 11 (21, .iconst (-1), 1, 12, 0, [], [(-1, 0)]) rfl rfl rfl ?_
      refine bEqI bl_m1 ?_
      refine bGo hA 0 12 (22, .ireturn, 1, 13, 0, [1], []) rfl rfl rfl ?_
      exact ((k2.2 c3).2 c4)

theorem sq99_0 {lvl : Nat} {C : bCall} {Q : bPost} {A : bPt → Prop} (hC : bMono C) (hA : bClosed lvl bm99 C Q A) {x1 : Int} {x2 : Int} {σ : bSt}  (h_x1 : bRg x1) (h_x2 : bRg x2)
  (h : (((bi σ 7 14) = (-1) → (C 100 [.ref 7, .int (bn x1), .int (bn x2)] σ (bRn (fun r4 s2 => Q (.inl (some (.int (bn r4)))) s2)))) ∧ (¬ (bi σ 7 14) = (-1) → Q (.inl (some (.int (bn (-1))))) σ))) : A (0, [.ref 7, .int (bn x1), .int (bn x2)], [], σ) := by
  refine bGo hA 0 0 (0, .aload_n 0, 1, 1, 0, [0], []) rfl rfl rfl ?_
  refine bGo hA 0 1 (1, .getfield 48, 3, 2, 0, [7, 14, 0, 0, 0, 0], []) rfl rfl rfl ?_
  refine ⟨rfl, ?_⟩
  refine bEqI (bn_bi σ 7 14) ?_
  refine bGo hA 0 2 (4, .iconst (-1), 1, 3, 0, [], [(-1, 0)]) rfl rfl rfl ?_
  refine bEqI bl_m1 ?_
  refine bGo hA 0 3 (5, .if_icmp .ne (12), 3, 4, 9, [], []) rfl rfl rfl ?_
  refine bB_eq (x := (bi σ 7 14)) (y := (-1)) (bi_rg _ _ _) (by decide : bRg (-1)) (fun c1 => ?_) (fun c1 => ?_)
  · refine bGo hA 0 4 (8, .aload_n 0, 1, 5, 0, [0], []) rfl rfl rfl ?_
    refine bGo hA 0 5 (9, .iload_n 1, 1, 6, 0, [1], []) rfl rfl rfl ?_
    refine bGo hA 0 6 (10, .iload_n 2, 1, 7, 0, [2], []) rfl rfl rfl ?_
    refine bGo hA 0 7 (11, .invokevirtual 84, 3, 8, 0, [0, 7, 100, 2], []) rfl rfl rfl ?_
    refine ⟨rfl, ?_⟩
    refine hC _ _ _ _ _ (bRn_e (fun r4 s2 q5 k3 => ?_)) (h.1 c1)
    show A (8, [.ref 7, .int (bn x1), .int (bn x2)], [.int (bn r4)], s2)
    refine bGo hA 0 8 (14, .goto (4), 3, 9, 10, [], []) rfl rfl rfl ?_
    refine bGo hA 0 10 (18, .ireturn, 1, 0, 0, [1], []) rfl rfl rfl ?_
    exact k3
  · refine bGo hA 0 9 (17, .iconst (-1), 1, 10, 0, [], [(-1, 0)]) rfl rfl rfl ?_
    refine bEqI bl_m1 ?_
    refine bGo hA 0 10 (18, .ireturn, 1, 0, 0, [1], []) rfl rfl rfl ?_
    exact (h.2 c1)

theorem sq100_0 {lvl : Nat} {C : bCall} {Q : bPost} {A : bPt → Prop} (hC : bMono C) (hA : bClosed lvl bm100 C Q A) {x1 : Int} {x2 : Int} {σ : bSt}  (h_x1 : bRg x1) (h_x2 : bRg x2)
  (h : (bRg (x1 * 8) ∧ (bRg ((x1 * 8) + x2) ∧ (C 140 [.ref 39, .int (bn ((x1 * 8) + x2))] σ (bRn (fun r3 s1 => Q (.inl (some (.int (bn r3)))) s1)))))) : A (0, [.ref 7, .int (bn x1), .int (bn x2)], [], σ) := by
  refine bGo hA 0 0 (0, .aload_n 0, 1, 1, 0, [0], []) rfl rfl rfl ?_
  refine bGo hA 0 1 (1, .getfield 27, 3, 2, 0, [7, 5, 3, 39, 1, 0], []) rfl rfl rfl ?_
  refine ⟨rfl, ?_⟩
  refine bGo hA 0 2 (4, .iload_n 1, 1, 3, 0, [1], []) rfl rfl rfl ?_
  refine bGo hA 0 3 (5, .bipush (8), 2, 4, 0, [], [(8, 0)]) rfl rfl rfl ?_
  refine bEqI bl_8 ?_
  refine bGo hA 0 4 (7, .imul, 1, 5, 0, [], []) rfl rfl rfl ?_
  refine bEqI (bn_mul x1 8) ?_
  refine bGo hA 0 5 (8, .iload_n 2, 1, 6, 0, [2], []) rfl rfl rfl ?_
  refine bGo hA 0 6 (9, .iadd, 1, 7, 0, [], []) rfl rfl rfl ?_
  refine bEqI (bn_add (x1 * 8) x2) ?_
  refine bGo hA 0 7 (10, .invokestatic 55, 3, 8, 1, [2, 140, 2], []) rfl rfl rfl ?_
  refine hC _ _ _ _ _ (bRn_e (fun r3 s1 q4 k2 => ?_)) h.2.2
  show A (8, [.ref 7, .int (bn x1), .int (bn x2)], [.int (bn r3)], s1)
  refine bGo hA 0 8 (13, .ireturn, 1, 0, 0, [1], []) rfl rfl rfl ?_
  exact k2

theorem sq101_0 {lvl : Nat} {C : bCall} {Q : bPost} {A : bPt → Prop} (hC : bMono C) (hA : bClosed lvl bm101 C Q A) {x1 : Int} {σ : bSt}  (h_x1 : bRg x1)
  (h : ((x1 = (bi σ 7 15) → Q (.inl none) σ) ∧ (¬ x1 = (bi σ 7 15) → (C 361 [.ref 39, .int (bn (-1))] (bw σ 7 15 x1) (bRv (fun s2 => (C 361 [.ref 40, .int (bn 0)] s2 (bRv (fun s4 => (C 361 [.ref 41, .int (bn 0)] s4 (bRv (fun s6 => (C 102 [.ref 7, .int (bn x1)] (bw (bw (bw s6 7 12 0) 7 13 0) 7 14 (-1)) (bRv (fun s8 => A (34, [.ref 7, .int (bn x1), .int (bn 0)], [], s8)))))))))))))))) : A (0, [.ref 7, .int (bn x1), .float 0], [], σ) := by
  refine bGo hA 0 0 (0, .iload_n 1, 1, 1, 0, [1], []) rfl rfl rfl ?_
  refine bGo hA 0 1 (1, .aload_n 0, 1, 2, 0, [0], []) rfl rfl rfl ?_
  refine bGo hA 0 2 (2, .getfield 52, 3, 3, 0, [7, 15, 0, 0, 0, 0], []) rfl rfl rfl ?_
  refine ⟨rfl, ?_⟩
  refine bEqI (bn_bi σ 7 15) ?_
  refine bGo hA 0 3 (5, .if_icmp .ne (4), 3, 4, 5, [], []) rfl rfl rfl ?_
  refine bB_eq (x := x1) (y := (bi σ 7 15)) h_x1 (bi_rg _ _ _) (fun c1 => ?_) (fun c1 => ?_)
  · refine bGo hA 0 4 (8, .return_, 1, 5, 0, [0], []) rfl rfl rfl ?_
    exact (h.1 c1)
  · refine bGo hA 0 5 (9, .aload_n 0, 1, 6, 0, [0], []) rfl rfl rfl ?_
    refine bGo hA 0 6 (10, .iload_n 1, 1, 7, 0, [1], []) rfl rfl rfl ?_
    refine bGo hA 0 7 (11, .putfield 52, 3, 8, 0, [7, 15, 0, 0, 0, 0], []) rfl rfl rfl ?_
    refine ⟨rfl, ?_⟩
    refine bGo hA 0 8 (14, .aload_n 0, 1, 9, 0, [0], []) rfl rfl rfl ?_
    refine bGo hA 0 9 (15, .getfield 27, 3, 10, 0, [7, 5, 3, 39, 1, 0], []) rfl rfl rfl ?_
    refine ⟨rfl, ?_⟩
    refine bGo hA 0 10 (18, .iconst (-1), 1, 11, 0, [], [(-1, 0)]) rfl rfl rfl ?_
    refine bEqI bl_m1 ?_
    refine bGo hA 0 11 (19, .invokestatic 87, 3, 12, 0, [2, 361, 2], []) rfl rfl rfl ?_
    refine hC _ _ _ _ _ (bRv_e (fun s2 k3 => ?_)) (h.2 c1)
    show A (12, [.ref 7, .int (bn x1), .float 0], [], s2)
    refine bGo hA 0 12 (22, .aload_n 0, 1, 13, 0, [0], []) rfl rfl rfl ?_
    refine bGo hA 0 13 (23, .getfield 30, 3, 14, 0, [7, 6, 3, 40, 1, 0], []) rfl rfl rfl ?_
    refine ⟨rfl, ?_⟩
    refine bGo hA 0 14 (26, .iconst (0), 1, 15, 0, [], [(0, 0)]) rfl rfl rfl ?_
    refine bEqI bl_0 ?_
    refine bGo hA 0 15 (27, .invokestatic 87, 3, 16, 0, [2, 361, 2], []) rfl rfl rfl ?_
    refine hC _ _ _ _ _ (bRv_e (fun s4 k5 => ?_)) k3
    show A (16, [.ref 7, .int (bn x1), .float 0], [], s4)
    refine bGo hA 1 0 (30, .aload_n 0, 1, 17, 0, [0], []) rfl rfl rfl ?_
    refine bGo hA 1 1 (31, .getfield 33, 3, 18, 0, [7, 7, 3, 41, 1, 0], []) rfl rfl rfl ?_
    refine ⟨rfl, ?_⟩
    refine bGo hA 1 2 (34, .iconst (0), 1, 19, 0, [], [(0, 0)]) rfl rfl rfl ?_
    refine bEqI bl_0 ?_
    refine bGo hA 1 3 (35, .invokestatic 87, 3, 20, 0, [2, 361, 2], []) rfl rfl rfl ?_
    refine hC _ _ _ _ _ (bRv_e (fun s6 k7 => ?_)) k5
    show A (20, [.ref 7, .int (bn x1), .float 0], [], s6)
    refine bGo hA 1 4 (38, .aload_n 0, 1, 21, 0, [0], []) rfl rfl rfl ?_
    refine bGo hA 1 5 (39, .iconst (0), 1, 22, 0, [], [(0, 0)]) rfl rfl rfl ?_
    refine bEqI bl_0 ?_
    refine bGo hA 1 6 (40, .putfield 93, 3, 23, 0, [7, 12, 0, 0, 0, 0], []) rfl rfl rfl ?_
    refine ⟨rfl, ?_⟩
    refine bGo hA 1 7 (43, .aload_n 0, 1, 24, 0, [0], []) rfl rfl rfl ?_
    refine bGo hA 1 8 (44, .iconst (0), 1, 25, 0, [], [(0, 0)]) rfl rfl rfl ?_
    refine bEqI bl_0 ?_
    refine bGo hA 1 9 (45, .putfield 81, 3, 26, 0, [7, 13, 0, 0, 0, 0], []) rfl rfl rfl ?_
    refine ⟨rfl, ?_⟩
    refine bGo hA 1 10 (48, .aload_n 0, 1, 27, 0, [0], []) rfl rfl rfl ?_
    refine bGo hA 1 11 (49, .iconst (-1), 1, 28, 0, [], [(-1, 0)]) rfl rfl rfl ?_
    refine bEqI bl_m1 ?_
    refine bGo hA 1 12 (50, .putfield 48, 3, 29, 0, [7, 14, 0, 0, 0, 0], []) rfl rfl rfl ?_
    refine ⟨rfl, ?_⟩
    refine bGo hA 1 13 (53, .aload_n 0, 1, 30, 0, [0], []) rfl rfl rfl ?_
    refine bGo hA 1 14 (54, .iload_n 1, 1, 31, 0, [1], []) rfl rfl rfl ?_
    refine bGo hA 1 15 (55, .invokevirtual 96, 3, 32, 0, [0, 7, 102, 1], []) rfl rfl rfl ?_
    refine ⟨rfl, ?_⟩
    refine hC _ _ _ _ _ (bRv_e (fun s8 k9 => ?_)) k7
    show A (32, [.ref 7, .int (bn x1), .float 0], [], s8)
    refine bGo hA 2 0 (58, .iconst (0), 1, 33, 0, [], [(0, 0)]) rfl rfl rfl ?_
    refine bEqI bl_0 ?_
    refine bGo hA 2 1 (59, .istore_n 2, 1, 34, 0, [2], []) rfl rfl rfl ?_
    exact k9

theorem sq101_34 {lvl : Nat} {C : bCall} {Q : bPost} {A : bPt → Prop} (hC : bMono C) (hA : bClosed lvl bm101 C Q A) {v1 : Value} {l2 : Int} {σ : bSt}  (h_l2 : bRg l2)
  (h : ((l2 < 10000 → (((0 : Int) < (bi σ 7 13) → (((bi σ 7 14) = (-1) → (bRg ((bi σ 7 13) - 1) ∧ (C 140 [.ref 42, .int (bn ((bi σ 7 13) - 1))] σ (bRn (fun r6 s4 => (C 103 [.ref 7, .int (bn r6)] s4 (bRv (fun s8 => (bRg (l2 + 1) ∧ A (34, [.ref 7, (bUnl v1), .int (bn (l2 + 1))], [], s8)))))))))) ∧ (¬ (bi σ 7 14) = (-1) → Q (.inl none) σ))) ∧ (¬ (0 : Int) < (bi σ 7 13) → Q (.inl none) σ))) ∧ (¬ l2 < 10000 → Q (.inl none) σ))) : A (34, [.ref 7, v1, .int (bn l2)], [], σ) := by
  refine bGo hA 2 2 (60, .iload_n 2, 1, 35, 0, [2], []) rfl rfl rfl ?_
  refine bGo hA 2 3 (61, .sipush (10000), 3, 36, 0, [], [(10000, 0)]) rfl rfl rfl ?_
  refine bEqI bl_10000 ?_
  refine bGo hA 2 4 (64, .if_icmp .ge (41), 3, 37, 55, [], []) rfl rfl rfl ?_
  refine bB_lt (x := l2) (y := 10000) h_l2 (by decide : bRg 10000) (fun c1 => ?_) (fun c1 => ?_)
  · refine bGo hA 2 5 (67, .aload_n 0, 1, 38, 0, [0], []) rfl rfl rfl ?_
    refine bGo hA 2 6 (68, .getfield 81, 3, 39, 0, [7, 13, 0, 0, 0, 0], []) rfl rfl rfl ?_
    refine ⟨rfl, ?_⟩
    refine bEqI (bn_bi σ 7 13) ?_
    refine bGo hA 2 7 (71, .ifCond .le (34), 3, 40, 55, [], []) rfl rfl rfl ?_
    refine bB_gt0 (x := (bi σ 7 13)) (bi_rg _ _ _) (fun c2 => ?_) (fun c2 => ?_)
    · refine bGo hA 2 8 (74, .aload_n 0, 1, 41, 0, [0], []) rfl rfl rfl ?_
      refine bGo hA 2 9 (75, .getfield 48, 3, 42, 0, [7, 14, 0, 0, 0, 0], []) rfl rfl rfl ?_
      refine ⟨rfl, ?_⟩
      refine bEqI (bn_bi σ 7 14) ?_
      refine bGo hA 2 10 (78, .iconst (-1), 1, 43, 0, [], [(-1, 0)]) rfl rfl rfl ?_
      refine bEqI bl_m1 ?_
      refine bGo hA 2 11 (79, .if_icmp .ne (26), 3, 44, 55, [], []) rfl rfl rfl ?_
      refine bB_eq (x := (bi σ 7 14)) (y := (-1)) (bi_rg _ _ _) (by decide : bRg (-1)) (fun c3 => ?_) (fun c3 => ?_)
      · refine bGo hA 2 12 (82, .aload_n 0, 1, 45, 0, [0], []) rfl rfl rfl ?_
        refine bGo hA 2 13 (83, .aload_n 0, 1, 46, 0, [0], []) rfl rfl rfl ?_
        refine bGo hA 2 14 (84, .getfield 36, 3, 47, 0, [7, 8, 3, 42, 1, 0], []) rfl rfl rfl ?_
        refine ⟨rfl, ?_⟩
        refine bGo hA 2 15 (87, .aload_n 0, 1, 48, 0, [0], []) rfl rfl rfl ?_
        refine bGo hA 3 0 (88, .getfield 81, 3, 49, 0, [7, 13, 0, 0, 0, 0], []) rfl rfl rfl ?_
        refine ⟨rfl, ?_⟩
        refine bEqI (bn_bi σ 7 13) ?_
        refine bGo hA 3 1 (91, .iconst (1), 1, 50, 0, [], [(1, 0)]) rfl rfl rfl ?_
        refine bEqI bl_1 ?_
        refine bGo hA 3 2 (92, .isub, 1, 51, 0, [], []) rfl rfl rfl ?_
        refine bEqI (bn_sub (bi σ 7 13) 1) ?_
        refine bGo hA 3 3 (93, .invokestatic 55, 3, 52, 1, [2, 140, 2], []) rfl rfl rfl ?_
        refine hC _ _ _ _ _ (bRn_e (fun r6 s4 q7 k5 => ?_)) (((h.1 c1).1 c2).1 c3).2
        show A (52, [.ref 7, v1, .int (bn l2)], [.int (bn r6), .ref 7], s4)
        refine bGo hA 3 4 (96, .invokevirtual 99, 3, 53, 0, [0, 7, 103, 1], []) rfl rfl rfl ?_
        refine ⟨rfl, ?_⟩
        refine hC _ _ _ _ _ (bRv_e (fun s8 k9 => ?_)) k5
        show A (53, [.ref 7, v1, .int (bn l2)], [], s8)
        refine bGo hA 3 5 (99, .iinc 2 (1), 3, 54, 0, [2], [(1, 0)]) rfl rfl rfl ?_
        refine bEqC (fun v => A (54, [.ref 7, (bUnl v1), .int v], [], s8)) ((congrArg (fun w => bn l2 + w) bl_1).trans (bn_add l2 1)) ?_
        refine bGo hA 3 6 (102, .goto (-42), 3, 55, 34, [], []) rfl rfl rfl ?_
        exact k9.2
      · refine bGo hA 3 7 (105, .return_, 1, 0, 0, [0], []) rfl rfl rfl ?_
        exact (((h.1 c1).1 c2).2 c3)
    · refine bGo hA 3 7 (105, .return_, 1, 0, 0, [0], []) rfl rfl rfl ?_
      exact ((h.1 c1).2 c2)
  · refine bGo hA 3 7 (105, .return_, 1, 0, 0, [0], []) rfl rfl rfl ?_
    exact (h.2 c1)

theorem sq102_0 {lvl : Nat} {C : bCall} {Q : bPost} {A : bPt → Prop} (hC : bMono C) (hA : bClosed lvl bm102 C Q A) {x1 : Int} {σ : bSt}  (h_x1 : bRg x1)
  (h : (C 141 [.ref 40, .int (bn x1), .int (bn 1)] σ (bRv (fun s1 => (C 141 [.ref 42, .int (bn (bi s1 7 13)), .int (bn x1)] s1 (bRv (fun s3 => (bRg ((bi s3 7 13) + 1) ∧ Q (.inl none) (bw s3 7 13 ((bi s3 7 13) + 1)))))))))) : A (0, [.ref 7, .int (bn x1)], [], σ) := by
  refine bGo hA 0 0 (0, .aload_n 0, 1, 1, 0, [0], []) rfl rfl rfl ?_
  refine bGo hA 0 1 (1, .getfield 30, 3, 2, 0, [7, 6, 3, 40, 1, 0], []) rfl rfl rfl ?_
  refine ⟨rfl, ?_⟩
  refine bGo hA 0 2 (4, .iload_n 1, 1, 3, 0, [1], []) rfl rfl rfl ?_
  refine bGo hA 0 3 (5, .iconst (1), 1, 4, 0, [], [(1, 0)]) rfl rfl rfl ?_
  refine bEqI bl_1 ?_
  refine bGo hA 0 4 (6, .invokestatic 63, 3, 5, 1, [2, 141, 3], []) rfl rfl rfl ?_
  refine hC _ _ _ _ _ (bRv_e (fun s1 k2 => ?_)) h
  show A (5, [.ref 7, .int (bn x1)], [], s1)
  refine bGo hA 0 5 (9, .aload_n 0, 1, 6, 0, [0], []) rfl rfl rfl ?_
  refine bGo hA 0 6 (10, .getfield 36, 3, 7, 0, [7, 8, 3, 42, 1, 0], []) rfl rfl rfl ?_
  refine ⟨rfl, ?_⟩
  refine bGo hA 0 7 (13, .aload_n 0, 1, 8, 0, [0], []) rfl rfl rfl ?_
  refine bGo hA 0 8 (14, .getfield 81, 3, 9, 0, [7, 13, 0, 0, 0, 0], []) rfl rfl rfl ?_
  refine ⟨rfl, ?_⟩
  refine bEqI (bn_bi s1 7 13) ?_
  refine bGo hA 0 9 (17, .iload_n 1, 1, 10, 0, [1], []) rfl rfl rfl ?_
  refine bGo hA 0 10 (18, .invokestatic 63, 3, 11, 1, [2, 141, 3], []) rfl rfl rfl ?_
  refine hC _ _ _ _ _ (bRv_e (fun s3 k4 => ?_)) k2
  show A (11, [.ref 7, .int (bn x1)], [], s3)
  refine bGo hA 0 11 (21, .aload_n 0, 1, 12, 0, [0], []) rfl rfl rfl ?_
  refine bGo hA 0 12 (22, .dup, 1, 13, 0, [], []) rfl rfl rfl ?_
  refine bGo hA 0 13 (23, .getfield 81, 3, 14, 0, [7, 13, 0, 0, 0, 0], []) rfl rfl rfl ?_
  refine ⟨rfl, ?_⟩
  refine bEqI (bn_bi s3 7 13) ?_
  refine bGo hA 0 14 (26, .iconst (1), 1, 15, 0, [], [(1, 0)]) rfl rfl rfl ?_
  refine bEqI bl_1 ?_
  refine bGo hA 0 15 (27, .iadd, 1, 16, 0, [], []) rfl rfl rfl ?_
  refine bEqI (bn_add (bi s3 7 13) 1) ?_
  refine bGo hA 1 0 (28, .putfield 81, 3, 17, 0, [7, 13, 0, 0, 0, 0], []) rfl rfl rfl ?_
  refine ⟨rfl, ?_⟩
  refine bGo hA 1 1 (31, .return_, 1, 0, 0, [0], []) rfl rfl rfl ?_
  exact k4.2

theorem sq103_0 {lvl : Nat} {C : bCall} {Q : bPost} {A : bPt → Prop} (hC : bMono C) (hA : bClosed lvl bm103 C Q A) {x1 : Int} {σ : bSt}  (h_x1 : bRg x1)
  (h : (C 140 [.ref 41, .int (bn x1)] σ (bRn (fun r3 s1 => (bRg (x1 * 12) ∧ (bRg ((x1 * 12) + r3) ∧ (C 140 [.ref 34, .int (bn x1)] s1 (bRn (fun r7 s5 => ((r3 < r7 → (C 140 [.ref 35, .int (bn ((x1 * 12) + r3))] s5 (bRn (fun r12 s10 => ((r12 = 1 → (C 140 [.ref 38, .int (bn ((x1 * 12) + r3))] s10 (bRn (fun r17 s15 => (C 140 [.ref 40, .int (bn r17)] s15 (bRn (fun r21 s19 => ((r21 = 0 → (C 140 [.ref 38, .int (bn ((x1 * 12) + r3))] s19 (bRn (fun r26 s24 => (C 102 [.ref 7, .int (bn r26)] s24 (bRv (fun s28 => Q (.inl none) s28))))))) ∧ (¬ r21 = 0 → (C 104 [.ref 7, .int (bn x1), .int (bn ((x1 * 12) + r3))] s19 (bRn (fun r32 s30 => ((r32 = (-1) → (bRg (r3 + 1) ∧ (C 141 [.ref 41, .int (bn x1), .int (bn (r3 + 1))] (bw s30 7 14 r32) (bRv (fun s35 => (C 106 [.ref 7, .int (bn x1), .int (bn ((x1 * 12) + r3))] s35 (bRv (fun s37 => Q (.inl none) s37)))))))) ∧ (¬ r32 = (-1) → Q (.inl none) (bw s30 7 14 r32))))))))))))))) ∧ (¬ r12 = 1 → (C 104 [.ref 7, .int (bn x1), .int (bn ((x1 * 12) + r3))] s10 (bRn (fun r41 s39 => ((r41 = (-1) → (bRg (r3 + 1) ∧ (C 141 [.ref 41, .int (bn x1), .int (bn (r3 + 1))] (bw s39 7 14 r41) (bRv (fun s44 => (C 106 [.ref 7, .int (bn x1), .int (bn ((x1 * 12) + r3))] s44 (bRv (fun s46 => Q (.inl none) s46)))))))) ∧ (¬ r41 = (-1) → Q (.inl none) (bw s39 7 14 r41)))))))))))) ∧ (¬ r3 < r7 → (C 141 [.ref 40, .int (bn x1), .int (bn 2)] s5 (bRv (fun s48 => (bRg ((bi s48 7 13) - 1) ∧ Q (.inl none) (bw s48 7 13 ((bi s48 7 13) - 1))))))))))))))))) : A (0, [.ref 7, .int (bn x1), .float 0, .float 0], [], σ) := by
  refine bGo hA 0 0 (0, .aload_n 0, 1, 1, 0, [0], []) rfl rfl rfl ?_
  refine bGo hA 0 1 (1, .getfield 33, 3, 2, 0, [7, 7, 3, 41, 1, 0], []) rfl rfl rfl ?_
  refine ⟨rfl, ?_⟩
  refine bGo hA 0 2 (4, .iload_n 1, 1, 3, 0, [1], []) rfl rfl rfl ?_
  refine bGo hA 0 3 (5, .invokestatic 55, 3, 4, 1, [2, 140, 2], []) rfl rfl rfl ?_
  refine hC _ _ _ _ _ (bRn_e (fun r3 s1 q4 k2 => ?_)) h
  show A (4, [.ref 7, .int (bn x1), .float 0, .float 0], [.int (bn r3)], s1)
  refine bGo hA 0 4 (8, .istore_n 2, 1, 5, 0, [2], []) rfl rfl rfl ?_
  refine bGo hA 0 5 (9, .iload_n 1, 1, 6, 0, [1], []) rfl rfl rfl ?_
  refine bGo hA 0 6 (10, .bipush (12), 2, 7, 0, [], [(12, 0)]) rfl rfl rfl ?_
  refine bEqI bl_12 ?_
  refine bGo hA 0 7 (12, .imul, 1, 8, 0, [], []) rfl rfl rfl ?_
  refine bEqI (bn_mul x1 12) ?_
  refine bGo hA 0 8 (13, .iload_n 2, 1, 9, 0, [2], []) rfl rfl rfl ?_
  refine bGo hA 0 9 (14, .iadd, 1, 10, 0, [], []) rfl rfl rfl ?_
  refine bEqI (bn_add (x1 * 12) r3) ?_
  refine bGo hA 0 10 (15, .istore_n 3, 1, 11, 0, [3], []) rfl rfl rfl ?_
  refine bGo hA 0 11 (16, .iload_n 2, 1, 12, 0, [2], []) rfl rfl rfl ?_
  refine bGo hA 0 12 (17, .aload_n 0, 1, 13, 0, [0], []) rfl rfl rfl ?_
  refine bGo hA 0 13 (18, .getfield 9, 3, 14, 0, [7, 0, 3, 34, 1, 0], []) rfl rfl rfl ?_
  refine ⟨rfl, ?_⟩
  refine bGo hA 0 14 (21, .iload_n 1, 1, 15, 0, [1], []) rfl rfl rfl ?_
  refine bGo hA 0 15 (22, .invokestatic 55, 3, 16, 1, [2, 140, 2], []) rfl rfl rfl ?_
  refine hC _ _ _ _ _ (bRn_e (fun r7 s5 q8 k6 => ?_)) k2.2.2
  show A (16, [.ref 7, .int (bn x1), .int (bn r3), .int (bn ((x1 * 12) + r3))], [.int (bn r7), .int (bn r3)], s5)
  refine bGo hA 1 0 (25, .if_icmp .lt (25), 3, 17, 29, [], []) rfl rfl rfl ?_
  refine bB_lt (x := r3) (y := r7) q4 q8 (fun c9 => ?_) (fun c9 => ?_)
  · refine bGo hA 1 13 (50, .aload_n 0, 1, 30, 0, [0], []) rfl rfl rfl ?_
    refine bGo hA 1 14 (51, .getfield 15, 3, 31, 0, [7, 1, 3, 35, 1, 0], []) rfl rfl rfl ?_
    refine ⟨rfl, ?_⟩
    refine bGo hA 1 15 (54, .iload_n 3, 1, 32, 0, [3], []) rfl rfl rfl ?_
    refine bGo hA 2 0 (55, .invokestatic 55, 3, 33, 1, [2, 140, 2], []) rfl rfl rfl ?_
    refine hC _ _ _ _ _ (bRn_e (fun r12 s10 q13 k11 => ?_)) (k6.1 c9)
    show A (33, [.ref 7, .int (bn x1), .int (bn r3), .int (bn ((x1 * 12) + r3))], [.int (bn r12)], s10)
    refine bGo hA 2 1 (58, .iconst (1), 1, 34, 0, [], [(1, 0)]) rfl rfl rfl ?_
    refine bEqI bl_1 ?_
    refine bGo hA 2 2 (59, .if_icmp .ne (36), 3, 35, 50, [], []) rfl rfl rfl ?_
    refine bB_eq (x := r12) (y := 1) q13 (by decide : bRg 1) (fun c14 => ?_) (fun c14 => ?_)
    · refine bGo hA 2 3 (62, .aload_n 0, 1, 36, 0, [0], []) rfl rfl rfl ?_
      refine bGo hA 2 4 (63, .getfield 30, 3, 37, 0, [7, 6, 3, 40, 1, 0], []) rfl rfl rfl ?_
      refine ⟨rfl, ?_⟩
      refine bGo hA 2 5 (66, .aload_n 0, 1, 38, 0, [0], []) rfl rfl rfl ?_
      refine bGo hA 2 6 (67, .getfield 24, 3, 39, 0, [7, 4, 3, 38, 1, 0], []) rfl rfl rfl ?_
      refine ⟨rfl, ?_⟩
      refine bGo hA 2 7 (70, .iload_n 3, 1, 40, 0, [3], []) rfl rfl rfl ?_
      refine bGo hA 2 8 (71, .invokestatic 55, 3, 41, 1, [2, 140, 2], []) rfl rfl rfl ?_
      refine hC _ _ _ _ _ (bRn_e (fun r17 s15 q18 k16 => ?_)) (k11.1 c14)
      show A (41, [.ref 7, .int (bn x1), .int (bn r3), .int (bn ((x1 * 12) + r3))], [.int (bn r17), .ref 40], s15)
      refine bGo hA 2 9 (74, .invokestatic 55, 3, 42, 1, [2, 140, 2], []) rfl rfl rfl ?_
      refine hC _ _ _ _ _ (bRn_e (fun r21 s19 q22 k20 => ?_)) k16
      show A (42, [.ref 7, .int (bn x1), .int (bn r3), .int (bn ((x1 * 12) + r3))], [.int (bn r21)], s19)
      refine bGo hA 2 10 (77, .ifCond .ne (18), 3, 43, 50, [], []) rfl rfl rfl ?_
      refine bB_eq0 (x := r21) q22 (fun c23 => ?_) (fun c23 => ?_)
      · refine bGo hA 2 11 (80, .aload_n 0, 1, 44, 0, [0], []) rfl rfl rfl ?_
        refine bGo hA 2 12 (81, .aload_n 0, 1, 45, 0, [0], []) rfl rfl rfl ?_
        refine bGo hA 2 13 (82, .getfield 24, 3, 46, 0, [7, 4, 3, 38, 1, 0], []) rfl rfl rfl ?_
        refine ⟨rfl, ?_⟩
        refine bGo hA 2 14 (85, .iload_n 3, 1, 47, 0, [3], []) rfl rfl rfl ?_
        refine bGo hA 2 15 (86, .invokestatic 55, 3, 48, 1, [2, 140, 2], []) rfl rfl rfl ?_
        refine hC _ _ _ _ _ (bRn_e (fun r26 s24 q27 k25 => ?_)) (k20.1 c23)
        show A (48, [.ref 7, .int (bn x1), .int (bn r3), .int (bn ((x1 * 12) + r3))], [.int (bn r26), .ref 7], s24)
        refine bGo hA 3 0 (89, .invokevirtual 96, 3, 49, 0, [0, 7, 102, 1], []) rfl rfl rfl ?_
        refine ⟨rfl, ?_⟩
        refine hC _ _ _ _ _ (bRv_e (fun s28 k29 => ?_)) k25
        show A (49, [.ref 7, .int (bn x1), .int (bn r3), .int (bn ((x1 * 12) + r3))], [], s28)
        refine bGo hA 3 1 (92, .goto (38), 3, 50, 71, [], []) rfl rfl rfl ?_
        refine bGo hA 4 7 (130, .return_, 1, 0, 0, [0], []) rfl rfl rfl ?_
        exact k29
      · refine bGo hA 3 2 (95, .aload_n 0, 1, 51, 0, [0], []) rfl rfl rfl ?_
        refine bGo hA 3 3 (96, .aload_n 0, 1, 52, 0, [0], []) rfl rfl rfl ?_
        refine bGo hA 3 4 (97, .iload_n 1, 1, 53, 0, [1], []) rfl rfl rfl ?_
        refine bGo hA 3 5 (98, .iload_n 3, 1, 54, 0, [3], []) rfl rfl rfl ?_
        refine bGo hA 3 6 (99, .invokevirtual 102, 3, 55, 0, [0, 7, 104, 2], []) rfl rfl rfl ?_
        refine ⟨rfl, ?_⟩
        refine hC _ _ _ _ _ (bRn_e (fun r32 s30 q33 k31 => ?_)) (k20.2 c23)
        show A (55, [.ref 7, .int (bn x1), .int (bn r3), .int (bn ((x1 * 12) + r3))], [.int (bn r32), .ref 7], s30)
        refine bGo hA 3 7 (102, .putfield 48, 3, 56, 0, [7, 14, 0, 0, 0, 0], []) rfl rfl rfl ?_
        refine ⟨rfl, ?_⟩
        refine bGo hA 3 8 (105, .aload_n 0, 1, 57, 0, [0], []) rfl rfl rfl ?_
        refine bGo hA 3 9 (106, .getfield 48, 3, 58, 0, [7, 14, 0, 0, 0, 0], []) rfl rfl rfl ?_
        refine ⟨rfl, ?_⟩
        refine bEqI ((bn_bi (bw s30 7 14 r32) 7 14).trans (congrArg bn (bi_eq q33))) ?_
        refine bGo hA 3 10 (109, .iconst (-1), 1, 59, 0, [], [(-1, 0)]) rfl rfl rfl ?_
        refine bEqI bl_m1 ?_
        refine bGo hA 3 11 (110, .if_icmp .ne (20), 3, 60, 71, [], []) rfl rfl rfl ?_
        refine bB_eq (x := r32) (y := (-1)) q33 (by decide : bRg (-1)) (fun c34 => ?_) (fun c34 => ?_)
        · refine bGo hA 3 12 (113, .aload_n 0, 1, 61, 0, [0], []) rfl rfl rfl ?_
          refine bGo hA 3 13 (114, .getfield 33, 3, 62, 0, [7, 7, 3, 41, 1, 0], []) rfl rfl rfl ?_
          refine ⟨rfl, ?_⟩
          refine bGo hA 3 14 (117, .iload_n 1, 1, 63, 0, [1], []) rfl rfl rfl ?_
          refine bGo hA 3 15 (118, .iload_n 2, 1, 64, 0, [2], []) rfl rfl rfl ?_
          refine bGo hA 4 0 (119, .iconst (1), 1, 65, 0, [], [(1, 0)]) rfl rfl rfl ?_
          refine bEqI bl_1 ?_
          refine bGo hA 4 1 (120, .iadd, 1, 66, 0, [], []) rfl rfl rfl ?_
          refine bEqI (bn_add r3 1) ?_
          refine bGo hA 4 2 (121, .invokestatic 63, 3, 67, 1, [2, 141, 3], []) rfl rfl rfl ?_
          refine hC _ _ _ _ _ (bRv_e (fun s35 k36 => ?_)) (k31.1 c34).2
          show A (67, [.ref 7, .int (bn x1), .int (bn r3), .int (bn ((x1 * 12) + r3))], [], s35)
          refine bGo hA 4 3 (124, .aload_n 0, 1, 68, 0, [0], []) rfl rfl rfl ?_
          refine bGo hA 4 4 (125, .iload_n 1, 1, 69, 0, [1], []) rfl rfl rfl ?_
          refine bGo hA 4 5 (126, .iload_n 3, 1, 70, 0, [3], []) rfl rfl rfl ?_
          refine bGo hA 4 6 (127, .invokevirtual 105, 3, 71, 0, [0, 7, 106, 2], []) rfl rfl rfl ?_
          refine ⟨rfl, ?_⟩
          refine hC _ _ _ _ _ (bRv_e (fun s37 k38 => ?_)) k36
          show A (71, [.ref 7, .int (bn x1), .int (bn r3), .int (bn ((x1 * 12) + r3))], [], s37)
          refine bGo hA 4 7 (130, .return_, 1, 0, 0, [0], []) rfl rfl rfl ?_
          exact k38
        · refine bGo hA 4 7 (130, .return_, 1, 0, 0, [0], []) rfl rfl rfl ?_
          exact (k31.2 c34)
    · refine bGo hA 3 2 (95, .aload_n 0, 1, 51, 0, [0], []) rfl rfl rfl ?_
      refine bGo hA 3 3 (96, .aload_n 0, 1, 52, 0, [0], []) rfl rfl rfl ?_
      refine bGo hA 3 4 (97, .iload_n 1, 1, 53, 0, [1], []) rfl rfl rfl ?_
      refine bGo hA 3 5 (98, .iload_n 3, 1, 54, 0, [3], []) rfl rfl rfl ?_
      refine bGo hA 3 6 (99, .invokevirtual 102, 3, 55, 0, [0, 7, 104, 2], []) rfl rfl rfl ?_
      refine ⟨rfl, ?_⟩
      refine hC _ _ _ _ _ (bRn_e (fun r41 s39 q42 k40 => ?_)) (k11.2 c14)
      show A (55, [.ref 7, .int (bn x1), .int (bn r3), .int (bn ((x1 * 12) + r3))], [.int (bn r41), .ref 7], s39)
      refine bGo hA 3 7 (102, .putfield 48, 3, 56, 0, [7, 14, 0, 0, 0, 0], []) rfl rfl rfl ?_
      refine ⟨rfl, ?_⟩
      refine bGo hA 3 8 (105, .aload_n 0, 1, 57, 0, [0], []) rfl rfl rfl ?_
      refine bGo hA 3 9 (106, .getfield 48, 3, 58, 0, [7, 14, 0, 0, 0, 0], []) rfl rfl rfl ?_
      refine ⟨rfl, ?_⟩
      refine bEqI ((bn_bi (bw s39 7 14 r41) 7 14).trans (congrArg bn (bi_eq q42))) ?_
      refine bGo hA 3 10 (109, .iconst (-1), 1, 59, 0, [], [(-1, 0)]) rfl rfl rfl ?_
      refine bEqI bl_m1 ?_
      refine bGo hA 3 11 (110, .if_icmp .ne (20), 3, 60, 71, [], []) rfl rfl rfl ?_
      refine bB_eq (x := r41) (y := (-1)) q42 (by decide : bRg (-1)) (fun c43 => ?_) (fun c43 => ?_)
      · refine bGo hA 3 12 (113, .aload_n 0, 1, 61, 0, [0], []) rfl rfl rfl ?_
        refine bGo hA 3 13 (114, .getfield 33, 3, 62, 0, [7, 7, 3, 41, 1, 0], []) rfl rfl rfl ?_
        refine ⟨rfl, ?_⟩
        refine bGo hA 3 14 (117, .iload_n 1, 1, 63, 0, [1], []) rfl rfl rfl ?_
        refine bGo hA 3 15 (118, .iload_n 2, 1, 64, 0, [2], []) rfl rfl rfl ?_
        refine bGo hA 4 0 (119, .iconst (1), 1, 65, 0, [], [(1, 0)]) rfl rfl rfl ?_
        refine bEqI bl_1 ?_
        refine bGo hA 4 1 (120, .iadd, 1, 66, 0, [], []) rfl rfl rfl ?_
        refine bEqI (bn_add r3 1) ?_
        refine bGo hA 4 2 (121, .invokestatic 63, 3, 67, 1, [2, 141, 3], []) rfl rfl rfl ?_
        refine hC _ _ _ _ _ (bRv_e (fun s44 k45 => ?_)) (k40.1 c43).2
        show A (67, [.ref 7, .int (bn x1), .int (bn r3), .int (bn ((x1 * 12) + r3))], [], s44)
        refine bGo hA 4 3 (124, .aload_n 0, 1, 68, 0, [0], []) rfl rfl rfl ?_
        refine bGo hA 4 4 (125, .iload_n 1, 1, 69, 0, [1], []) rfl rfl rfl ?_
        refine bGo hA 4 5 (126, .iload_n 3, 1, 70, 0, [3], []) rfl rfl rfl ?_
        refine bGo hA 4 6 (127, .invokevirtual 105, 3, 71, 0, [0, 7, 106, 2], []) rfl rfl rfl ?_
        refine ⟨rfl, ?_⟩
        refine hC _ _ _ _ _ (bRv_e (fun s46 k47 => ?_)) k45
        show A (71, [.ref 7, .int (bn x1), .int (bn r3), .int (bn ((x1 * 12) + r3))], [], s46)
        refine bGo hA 4 7 (130, .return_, 1, 0, 0, [0], []) rfl rfl rfl ?_
        exact k47
      · refine bGo hA 4 7 (130, .return_, 1, 0, 0, [0], []) rfl rfl rfl ?_
        exact (k40.2 c43)
  · refine bGo hA 1 1 (28, .aload_n 0, 1, 18, 0, [0], []) rfl rfl rfl ?_
    refine bGo hA 1 2 (29, .getfield 30, 3, 19, 0, [7, 6, 3, 40, 1, 0], []) rfl rfl rfl ?_
    refine ⟨rfl, ?_⟩
    refine bGo hA 1 3 (32, .iload_n 1, 1, 20, 0, [1], []) rfl rfl rfl ?_
    refine bGo hA 1 4 (33, .iconst (2), 1, 21, 0, [], [(2, 0)]) rfl rfl rfl ?_
    refine bEqI bl_2 ?_
    refine bGo hA 1 5 (34, .invokestatic 63, 3, 22, 1, [2, 141, 3], []) rfl rfl rfl ?_
    refine hC _ _ _ _ _ (bRv_e (fun s48 k49 => ?_)) (k6.2 c9)
    show A (22, [.ref 7, .int (bn x1), .int (bn r3), .int (bn ((x1 * 12) + r3))], [], s48)
    refine bGo hA 1 6 (37, .aload_n 0, 1, 23, 0, [0], []) rfl rfl rfl ?_
    refine bGo hA 1 7 (38, .dup, 1, 24, 0, [], []) rfl rfl rfl ?_
    refine bGo hA 1 8 (39, .getfield 81, 3, 25, 0, [7, 13, 0, 0, 0, 0], []) rfl rfl rfl ?_
    refine ⟨rfl, ?_⟩
    refine bEqI (bn_bi s48 7 13) ?_
    refine bGo hA 1 9 (42, .iconst (1), 1, 26, 0, [], [(1, 0)]) rfl rfl rfl ?_
    refine bEqI bl_1 ?_
    refine bGo hA 1 10 (43, .isub, 1, 27, 0, [], []) rfl rfl rfl ?_
    refine bEqI (bn_sub (bi s48 7 13) 1) ?_
    refine bGo hA 1 11 (44, .putfield 81, 3, 28, 0, [7, 13, 0, 0, 0, 0], []) rfl rfl rfl ?_
    refine ⟨rfl, ?_⟩
    refine bGo hA 1 12 (47, .goto (83), 3, 29, 71, [], []) rfl rfl rfl ?_
    refine bGo hA 4 7 (130, .return_, 1, 0, 0, [0], []) rfl rfl rfl ?_
    exact k49.2

theorem sq104_0 {lvl : Nat} {C : bCall} {Q : bPost} {A : bPt → Prop} (hC : bMono C) (hA : bClosed lvl bm104 C Q A) {x1 : Int} {x2 : Int} {σ : bSt}  (h_x1 : bRg x1) (h_x2 : bRg x2)
  (h : (C 140 [.ref 35, .int (bn x2)] σ (bRn (fun r3 s1 => (C 140 [.ref 36, .int (bn x2)] s1 (bRn (fun r7 s5 => (C 100 [.ref 7, .int (bn x1), .int (bn r7)] s5 (bRn (fun r11 s9 => ((r3 = 0 → A (24, [.ref 7, .int (bn x1), .int (bn x2), .int (bn r3), .int (bn r11), .float 0], [.int (bn (-1))], s9)) ∧ (¬ r3 = 0 → (C 140 [.ref 37, .int (bn x2)] s9 (bRn (fun r16 s14 => (C 100 [.ref 7, .int (bn x1), .int (bn r16)] s14 (bRn (fun r20 s18 => A (24, [.ref 7, .int (bn x1), .int (bn x2), .int (bn r3), .int (bn r11), .float 0], [.int (bn r20)], s18))))))))))))))))))) : A (0, [.ref 7, .int (bn x1), .int (bn x2), .float 0, .float 0, .float 0], [], σ) := by
  refine bGo hA 0 0 (0, .aload_n 0, 1, 1, 0, [0], []) rfl rfl rfl ?_
  refine bGo hA 0 1 (1, .getfield 15, 3, 2, 0, [7, 1, 3, 35, 1, 0], []) rfl rfl rfl ?_
  refine ⟨rfl, ?_⟩
  refine bGo hA 0 2 (4, .iload_n 2, 1, 3, 0, [2], []) rfl rfl rfl ?_
  refine bGo hA 0 3 (5, .invokestatic 55, 3, 4, 1, [2, 140, 2], []) rfl rfl rfl ?_
  refine hC _ _ _ _ _ (bRn_e (fun r3 s1 q4 k2 => ?_)) h
  show A (4, [.ref 7, .int (bn x1), .int (bn x2), .float 0, .float 0, .float 0], [.int (bn r3)], s1)
  refine bGo hA 0 4 (8, .istore_n 3, 1, 5, 0, [3], []) rfl rfl rfl ?_
  refine bGo hA 0 5 (9, .aload_n 0, 1, 6, 0, [0], []) rfl rfl rfl ?_
  refine bGo hA 0 6 (10, .iload_n 1, 1, 7, 0, [1], []) rfl rfl rfl ?_
  refine bGo hA 0 7 (11, .aload_n 0, 1, 8, 0, [0], []) rfl rfl rfl ?_
  refine bGo hA 0 8 (12, .getfield 18, 3, 9, 0, [7, 2, 3, 36, 1, 0], []) rfl rfl rfl ?_
  refine ⟨rfl, ?_⟩
  refine bGo hA 0 9 (15, .iload_n 2, 1, 10, 0, [2], []) rfl rfl rfl ?_
  refine bGo hA 0 10 (16, .invokestatic 55, 3, 11, 1, [2, 140, 2], []) rfl rfl rfl ?_
  refine hC _ _ _ _ _ (bRn_e (fun r7 s5 q8 k6 => ?_)) k2
  show A (11, [.ref 7, .int (bn x1), .int (bn x2), .int (bn r3), .float 0, .float 0], [.int (bn r7), .int (bn x1), .ref 7], s5)
  refine bGo hA 0 11 (19, .invokevirtual 84, 3, 12, 0, [0, 7, 100, 2], []) rfl rfl rfl ?_
  refine ⟨rfl, ?_⟩
  refine hC _ _ _ _ _ (bRn_e (fun r11 s9 q12 k10 => ?_)) k6
  show A (12, [.ref 7, .int (bn x1), .int (bn x2), .int (bn r3), .float 0, .float 0], [.int (bn r11)], s9)
  refine bGo hA 0 12 (22, .istore 4, 2, 13, 0, [4], []) rfl rfl rfl ?_
  refine bGo hA 0 13 (24, .iload_n 3, 1, 14, 0, [3], []) rfl rfl rfl ?_
  refine bGo hA 0 14 (25, .ifCond .ne (7), 3, 15, 17, [], []) rfl rfl rfl ?_
  refine bB_eq0 (x := r3) q4 (fun c13 => ?_) (fun c13 => ?_)
  · refine bGo hA 0 15 (28, .iconst (-1), 1, 16, 0, [], [(-1, 0)]) rfl rfl rfl ?_
    refine bEqI bl_m1 ?_
    refine bGo hA 1 0 (29, .goto (16), 3, 17, 24, [], []) rfl rfl rfl ?_
    exact (k10.1 c13)
  · refine bGo hA 1 1 (32, .aload_n 0, 1, 18, 0, [0], []) rfl rfl rfl ?_
    refine bGo hA 1 2 (33, .iload_n 1, 1, 19, 0, [1], []) rfl rfl rfl ?_
    refine bGo hA 1 3 (34, .aload_n 0, 1, 20, 0, [0], []) rfl rfl rfl ?_
    refine bGo hA 1 4 (35, .getfield 21, 3, 21, 0, [7, 3, 3, 37, 1, 0], []) rfl rfl rfl ?_
    refine ⟨rfl, ?_⟩
    refine bGo hA 1 5 (38, .iload_n 2, 1, 22, 0, [2], []) rfl rfl rfl ?_
    refine bGo hA 1 6 (39, .invokestatic 55, 3, 23, 1, [2, 140, 2], []) rfl rfl rfl ?_
    refine hC _ _ _ _ _ (bRn_e (fun r16 s14 q17 k15 => ?_)) (k10.2 c13)
    show A (23, [.ref 7, .int (bn x1), .int (bn x2), .int (bn r3), .int (bn r11), .float 0], [.int (bn r16), .int (bn x1), .ref 7], s14)
    refine bGo hA 1 7 (42, .invokevirtual 84, 3, 24, 0, [0, 7, 100, 2], []) rfl rfl rfl ?_
    refine ⟨rfl, ?_⟩
    refine hC _ _ _ _ _ (bRn_e (fun r20 s18 q21 k19 => ?_)) k15
    show A (24, [.ref 7, .int (bn x1), .int (bn x2), .int (bn r3), .int (bn r11), .float 0], [.int (bn r20)], s18)
    exact k19

theorem sq104_24 {lvl : Nat} {C : bCall} {Q : bPost} {A : bPt → Prop} (hC : bMono C) (hA : bClosed lvl bm104 C Q A) {l1 : Int} {l2 : Int} {l3 : Int} {l4 : Int} {v5 : Value} {t0 : Int} {σ : bSt}  (h_l1 : bRg l1) (h_l2 : bRg l2) (h_l3 : bRg l3) (h_l4 : bRg l4) (h_t0 : bRg t0)
  (h : ((l3 = 1 → (C 140 [.ref 38, .int (bn l2)] σ (bRn (fun r4 s2 => (C 140 [.ref 40, .int (bn r4)] s2 (bRn (fun r8 s6 => ((r8 = 1 → Q (.inl (some (.int (bn 5)))) s6) ∧ (¬ r8 = 1 → (C 140 [.ref 38, .int (bn l2)] s6 (bRn (fun r13 s11 => (C 140 [.ref 37, .int (bn l2)] s11 (bRn (fun r17 s15 => (C 100 [.ref 7, .int (bn r13), .int (bn r17)] s15 (bRn (fun r21 s19 => ((r21 = (-1) → Q (.inl (some (.int (bn 1)))) s19) ∧ (¬ r21 = (-1) → Q (.inl (some (.int (bn (-1))))) s19)))))))))))))))))))) ∧ (¬ l3 = 1 → ((l3 = 2 → ((l4 = (-1) → Q (.inl (some (.int (bn 1)))) σ) ∧ (¬ l4 = (-1) → ((t0 = (-1) → Q (.inl (some (.int (bn 1)))) σ) ∧ (¬ t0 = (-1) → ((l4 < 1000 → ((t0 < 1000 → Q (.inl (some (.int (bn (-1))))) σ) ∧ (¬ t0 < 1000 → Q (.inl (some (.int (bn 2)))) σ))) ∧ (¬ l4 < 1000 → Q (.inl (some (.int (bn 2)))) σ))))))) ∧ (¬ l3 = 2 → ((l3 = 3 → Q (.inl (some (.int (bn (-1))))) σ) ∧ (¬ l3 = 3 → ((l3 = 4 → (C 105 [.ref 7, .int (bn l1), .int (bn l4), .int (bn t0)] σ (bRn (fun r33 s31 => Q (.inl (some (.int (bn r33)))) s31)))) ∧ (¬ l3 = 4 → ((l3 = 5 → ((t0 = (-1) → Q (.inl (some (.int (bn 1)))) σ) ∧ (¬ t0 = (-1) → Q (.inl (some (.int (bn (-1))))) σ))) ∧ (¬ l3 = 5 → ((l3 = 6 → ((l4 = (-1) → Q (.inl (some (.int (bn 1)))) σ) ∧ (¬ l4 = (-1) → ((l4 < 1000 → Q (.inl (some (.int (bn (-1))))) σ) ∧ (¬ l4 < 1000 → Q (.inl (some (.int (bn 2)))) σ))))) ∧ (¬ l3 = 6 → Q (.inl (some (.int (bn (-1))))) σ))))))))))))) : A (24, [.ref 7, .int (bn l1), .int (bn l2), .int (bn l3), .int (bn l4), v5], [.int (bn t0)], σ) := by
  refine bGo hA 1 8 (45, .istore 5, 2, 25, 0, [5], []) rfl rfl rfl ?_
  refine bGo hA 1 9 (47, .iload_n 3, 1, 26, 0, [3], []) rfl rfl rfl ?_
  refine bGo hA 1 10 (48, .tableswitch (171) (1) (6) #[40, 91, 171, 127, 137, 149], 40, 27, 97, [], [(1, 27), (2, 54), (3, 97), (4, 72), (5, 78), (6, 85)]) rfl rfl rfl ?_
  refine bB_sw (x := l3) (k := 1) bl_1 h_l3 (by decide) (fun c1 => ?_) (fun c1 => ?_)
  · refine bGo hA 1 11 (88, .aload_n 0, 1, 28, 0, [0], []) rfl rfl rfl ?_
    refine bGo hA 1 12 (89, .getfield 30, 3, 29, 0, [7, 6, 3, 40, 1, 0], []) rfl rfl rfl ?_
    refine ⟨rfl, ?_⟩
    refine bGo hA 1 13 (92, .aload_n 0, 1, 30, 0, [0], []) rfl rfl rfl ?_
    refine bGo hA 1 14 (93, .getfield 24, 3, 31, 0, [7, 4, 3, 38, 1, 0], []) rfl rfl rfl ?_
    refine ⟨rfl, ?_⟩
    refine bGo hA 1 15 (96, .iload_n 2, 1, 32, 0, [2], []) rfl rfl rfl ?_
    refine bGo hA 2 0 (97, .invokestatic 55, 3, 33, 1, [2, 140, 2], []) rfl rfl rfl ?_
    refine hC _ _ _ _ _ (bRn_e (fun r4 s2 q5 k3 => ?_)) (h.1 c1)
    show A (33, [.ref 7, .int (bn l1), .int (bn l2), .int (bn l3), .int (bn l4), .int (bn t0)], [.int (bn r4), .ref 40], s2)
    refine bGo hA 2 1 (100, .invokestatic 55, 3, 34, 1, [2, 140, 2], []) rfl rfl rfl ?_
    refine hC _ _ _ _ _ (bRn_e (fun r8 s6 q9 k7 => ?_)) k3
    show A (34, [.ref 7, .int (bn l1), .int (bn l2), .int (bn l3), .int (bn l4), .int (bn t0)], [.int (bn r8)], s6)
    refine bGo hA 2 2 (103, .iconst (1), 1, 35, 0, [], [(1, 0)]) rfl rfl rfl ?_
    refine bEqI bl_1 ?_
    refine bGo hA 2 3 (104, .if_icmp .ne (5), 3, 36, 38, [], []) rfl rfl rfl ?_
    refine bB_eq (x := r8) (y := 1) q9 (by decide : bRg 1) (fun c10 => ?_) (fun c10 => ?_)
    · refine bGo hA 2 4 (107, .iconst (5), 1, 37, 0, [], [(5, 0)]) rfl rfl rfl ?_
      refine bEqI bl_5 ?_
      refine bGo hA 2 5 (108, .ireturn, 1, 38, 0, [1], []) rfl rfl rfl ?_
      exact (k7.1 c10)
    · refine bGo hA 2 6 (109, .aload_n 0, 1, 39, 0, [0], []) rfl rfl rfl ?_
      refine bGo hA 2 7 (110, .aload_n 0, 1, 40, 0, [0], []) rfl rfl rfl ?_
      refine bGo hA 2 8 (111, .getfield 24, 3, 41, 0, [7, 4, 3, 38, 1, 0], []) rfl rfl rfl ?_
      refine ⟨rfl, ?_⟩
      refine bGo hA 2 9 (114, .iload_n 2, 1, 42, 0, [2], []) rfl rfl rfl ?_
      refine bGo hA 2 10 (115, .invokestatic 55, 3, 43, 1, [2, 140, 2], []) rfl rfl rfl ?_
      refine hC _ _ _ _ _ (bRn_e (fun r13 s11 q14 k12 => ?_)) (k7.2 c10)
      show A (43, [.ref 7, .int (bn l1), .int (bn l2), .int (bn l3), .int (bn l4), .int (bn t0)], [.int (bn r13), .ref 7], s11)
      refine bGo hA 2 11 (118, .aload_n 0, 1, 44, 0, [0], []) rfl rfl rfl ?_
      refine bGo hA 2 12 (119, .getfield 21, 3, 45, 0, [7, 3, 3, 37, 1, 0], []) rfl rfl rfl ?_
      refine ⟨rfl, ?_⟩
      refine bGo hA 2 13 (122, .iload_n 2, 1, 46, 0, [2], []) rfl rfl rfl ?_
      refine bGo hA 2 14 (123, .invokestatic 55, 3, 47, 1, [2, 140, 2], []) rfl rfl rfl ?_
      refine hC _ _ _ _ _ (bRn_e (fun r17 s15 q18 k16 => ?_)) k12
      show A (47, [.ref 7, .int (bn l1), .int (bn l2), .int (bn l3), .int (bn l4), .int (bn t0)], [.int (bn r17), .int (bn r13), .ref 7], s15)
      refine bGo hA 2 15 (126, .invokevirtual 84, 3, 48, 0, [0, 7, 100, 2], []) rfl rfl rfl ?_
      refine ⟨rfl, ?_⟩
      refine hC _ _ _ _ _ (bRn_e (fun r21 s19 q22 k20 => ?_)) k16
      show A (48, [.ref 7, .int (bn l1), .int (bn l2), .int (bn l3), .int (bn l4), .int (bn t0)], [.int (bn r21)], s19)
      refine bGo hA 3 0 (129, .iconst (-1), 1, 49, 0, [], [(-1, 0)]) rfl rfl rfl ?_
      refine bEqI bl_m1 ?_
      refine bGo hA 3 1 (130, .if_icmp .ne (7), 3, 50, 52, [], []) rfl rfl rfl ?_
      refine bB_eq (x := r21) (y := (-1)) q22 (by decide : bRg (-1)) (fun c23 => ?_) (fun c23 => ?_)
      · refine bGo hA 3 2 (133, .iconst (1), 1, 51, 0, [], [(1, 0)]) rfl rfl rfl ?_
        refine bEqI bl_1 ?_
        refine bGo hA 3 3 (134, .goto (4), 3, 52, 53, [], []) rfl rfl rfl ?_
        refine bGo hA 3 5 (138, .ireturn, 1, 54, 0, [1], []) rfl rfl rfl ?_
        exact (k20.1 c23)
      · refine bGo hA 3 4 (137, .iconst (-1), 1, 53, 0, [], [(-1, 0)]) rfl rfl rfl ?_
        refine bEqI bl_m1 ?_
        refine bGo hA 3 5 (138, .ireturn, 1, 54, 0, [1], []) rfl rfl rfl ?_
        exact (k20.2 c23)
  · refine bB_sw (x := l3) (k := 2) bl_2 h_l3 (by decide) (fun c24 => ?_) (fun c24 => ?_)
    · refine bGo hA 3 6 (139, .iload 4, 2, 55, 0, [4], []) rfl rfl rfl ?_
      refine bGo hA 3 7 (141, .iconst (-1), 1, 56, 0, [], [(-1, 0)]) rfl rfl rfl ?_
      refine bEqI bl_m1 ?_
      refine bGo hA 3 8 (142, .if_icmp .eq (9), 3, 57, 60, [], []) rfl rfl rfl ?_
      refine bB_eq (x := l4) (y := (-1)) h_l4 (by decide : bRg (-1)) (fun c25 => ?_) (fun c25 => ?_)
      · refine bGo hA 3 12 (151, .iconst (1), 1, 61, 0, [], [(1, 0)]) rfl rfl rfl ?_
        refine bEqI bl_1 ?_
        refine bGo hA 3 13 (152, .ireturn, 1, 62, 0, [1], []) rfl rfl rfl ?_
        exact (((h.2 c1).1 c24).1 c25)
      · refine bGo hA 3 9 (145, .iload 5, 2, 58, 0, [5], []) rfl rfl rfl ?_
        refine bGo hA 3 10 (147, .iconst (-1), 1, 59, 0, [], [(-1, 0)]) rfl rfl rfl ?_
        refine bEqI bl_m1 ?_
        refine bGo hA 3 11 (148, .if_icmp .ne (5), 3, 60, 62, [], []) rfl rfl rfl ?_
        refine bB_eq (x := t0) (y := (-1)) h_t0 (by decide : bRg (-1)) (fun c26 => ?_) (fun c26 => ?_)
        · refine bGo hA 3 12 (151, .iconst (1), 1, 61, 0, [], [(1, 0)]) rfl rfl rfl ?_
          refine bEqI bl_1 ?_
          refine bGo hA 3 13 (152, .ireturn, 1, 62, 0, [1], []) rfl rfl rfl ?_
          exact ((((h.2 c1).1 c24).2 c25).1 c26)
        · refine bGo hA 3 14 (153, .iload 4, 2, 63, 0, [4], []) rfl rfl rfl ?_
          refine bGo hA 3 15 (155, .sipush (1000), 3, 64, 0, [], [(1000, 0)]) rfl rfl rfl ?_
          refine bEqI bl_1000 ?_
          refine bGo hA 4 0 (158, .if_icmp .ge (11), 3, 65, 68, [], []) rfl rfl rfl ?_
          refine bB_lt (x := l4) (y := 1000) h_l4 (by decide : bRg 1000) (fun c27 => ?_) (fun c27 => ?_)
          · refine bGo hA 4 1 (161, .iload 5, 2, 66, 0, [5], []) rfl rfl rfl ?_
            refine bGo hA 4 2 (163, .sipush (1000), 3, 67, 0, [], [(1000, 0)]) rfl rfl rfl ?_
            refine bEqI bl_1000 ?_
            refine bGo hA 4 3 (166, .if_icmp .lt (7), 3, 68, 70, [], []) rfl rfl rfl ?_
            refine bB_lt (x := t0) (y := 1000) h_t0 (by decide : bRg 1000) (fun c28 => ?_) (fun c28 => ?_)
            · refine bGo hA 4 6 (173, .iconst (-1), 1, 71, 0, [], [(-1, 0)]) rfl rfl rfl ?_
              refine bEqI bl_m1 ?_
              refine bGo hA 4 7 (174, .ireturn, 1, 72, 0, [1], []) rfl rfl rfl ?_
              exact ((((((h.2 c1).1 c24).2 c25).2 c26).1 c27).1 c28)
            · refine bGo hA 4 4 (169, .iconst (2), 1, 69, 0, [], [(2, 0)]) rfl rfl rfl ?_
              refine bEqI bl_2 ?_
              refine bGo hA 4 5 (170, .goto (4), 3, 70, 71, [], []) rfl rfl rfl ?_
              refine bGo hA 4 7 (174, .ireturn, 1, 72, 0, [1], []) rfl rfl rfl ?_
              exact ((((((h.2 c1).1 c24).2 c25).2 c26).1 c27).2 c28)
          · refine bGo hA 4 4 (169, .iconst (2), 1, 69, 0, [], [(2, 0)]) rfl rfl rfl ?_
            refine bEqI bl_2 ?_
            refine bGo hA 4 5 (170, .goto (4), 3, 70, 71, [], []) rfl rfl rfl ?_
            refine bGo hA 4 7 (174, .ireturn, 1, 72, 0, [1], []) rfl rfl rfl ?_
            exact (((((h.2 c1).1 c24).2 c25).2 c26).2 c27)
    · refine bB_sw (x := l3) (k := 3) bl_3 h_l3 (by decide) (fun c29 => ?_) (fun c29 => ?_)
      · refine bGo hA 6 1 (219, .iconst (-1), 1, 98, 0, [], [(-1, 0)]) rfl rfl rfl ?_
        refine bEqI bl_m1 ?_
        refine bGo hA 6 2 (220, .ireturn, 1, 0, 0, [1], []) rfl rfl rfl ?_
        exact (((h.2 c1).2 c24).1 c29)
      · refine bB_sw (x := l3) (k := 4) bl_4 h_l3 (by decide) (fun c30 => ?_) (fun c30 => ?_)
        · refine bGo hA 4 8 (175, .aload_n 0, 1, 73, 0, [0], []) rfl rfl rfl ?_
          refine bGo hA 4 9 (176, .iload_n 1, 1, 74, 0, [1], []) rfl rfl rfl ?_
          refine bGo hA 4 10 (177, .iload 4, 2, 75, 0, [4], []) rfl rfl rfl ?_
          refine bGo hA 4 11 (179, .iload 5, 2, 76, 0, [5], []) rfl rfl rfl ?_
          refine bGo hA 4 12 (181, .invokevirtual 109, 3, 77, 0, [0, 7, 105, 3], []) rfl rfl rfl ?_
          refine ⟨rfl, ?_⟩
          refine hC _ _ _ _ _ (bRn_e (fun r33 s31 q34 k32 => ?_)) ((((h.2 c1).2 c24).2 c29).1 c30)
          show A (77, [.ref 7, .int (bn l1), .int (bn l2), .int (bn l3), .int (bn l4), .int (bn t0)], [.int (bn r33)], s31)
          refine bGo hA 4 13 (184, .ireturn, 1, 78, 0, [1], []) rfl rfl rfl ?_
          exact k32
        · refine bB_sw (x := l3) (k := 5) bl_5 h_l3 (by decide) (fun c35 => ?_) (fun c35 => ?_)
          · refine bGo hA 4 14 (185, .iload 5, 2, 79, 0, [5], []) rfl rfl rfl ?_
            refine bGo hA 4 15 (187, .iconst (-1), 1, 80, 0, [], [(-1, 0)]) rfl rfl rfl ?_
            refine bEqI bl_m1 ?_
            refine bGo hA 5 0 (188, .if_icmp .ne (7), 3, 81, 83, [], []) rfl rfl rfl ?_
            refine bB_eq (x := t0) (y := (-1)) h_t0 (by decide : bRg (-1)) (fun c36 => ?_) (fun c36 => ?_)
            · refine bGo hA 5 1 (191, .iconst (1), 1, 82, 0, [], [(1, 0)]) rfl rfl rfl ?_
              refine bEqI bl_1 ?_
              refine bGo hA 5 2 (192, .goto (4), 3, 83, 84, [], []) rfl rfl rfl ?_
              refine bGo hA 5 4 (196, .ireturn, 1, 85, 0, [1], []) rfl rfl rfl ?_
              exact ((((((h.2 c1).2 c24).2 c29).2 c30).1 c35).1 c36)
            · refine bGo hA 5 3 (195, .iconst (-1), 1, 84, 0, [], [(-1, 0)]) rfl rfl rfl ?_
              refine bEqI bl_m1 ?_
              refine bGo hA 5 4 (196, .ireturn, 1, 85, 0, [1], []) rfl rfl rfl ?_
              exact ((((((h.2 c1).2 c24).2 c29).2 c30).1 c35).2 c36)
          · refine bB_sw (x := l3) (k := 6) bl_6 h_l3 (by decide) (fun c37 => ?_) (fun c37 => ?_)
            · refine bGo hA 5 5 (197, .iload 4, 2, 86, 0, [4], []) rfl rfl rfl ?_
              refine bGo hA 5 6 (199, .iconst (-1), 1, 87, 0, [], [(-1, 0)]) rfl rfl rfl ?_
              refine bEqI bl_m1 ?_
              refine bGo hA 5 7 (200, .if_icmp .ne (5), 3, 88, 90, [], []) rfl rfl rfl ?_
              refine bB_eq (x := l4) (y := (-1)) h_l4 (by decide : bRg (-1)) (fun c38 => ?_) (fun c38 => ?_)
              · refine bGo hA 5 8 (203, .iconst (1), 1, 89, 0, [], [(1, 0)]) rfl rfl rfl ?_
                refine bEqI bl_1 ?_
                refine bGo hA 5 9 (204, .ireturn, 1, 90, 0, [1], []) rfl rfl rfl ?_
                exact (((((((h.2 c1).2 c24).2 c29).2 c30).2 c35).1 c37).1 c38)
              · refine bGo hA 5 10 (205, .iload 4, 2, 91, 0, [4], []) rfl rfl rfl ?_
                refine bGo hA 5 11 (207, .sipush (1000), 3, 92, 0, [], [(1000, 0)]) rfl rfl rfl ?_
                refine bEqI bl_1000 ?_
                refine bGo hA 5 12 (210, .if_icmp .lt (7), 3, 93, 95, [], []) rfl rfl rfl ?_
                refine bB_lt (x := l4) (y := 1000) h_l4 (by decide : bRg 1000) (fun c39 => ?_) (fun c39 => ?_)
                · refine bGo hA 5 15 (217, .iconst (-1), 1, 96, 0, [], [(-1, 0)]) rfl rfl rfl ?_
                  refine bEqI bl_m1 ?_
                  refine bGo hA 6 0 (218, .ireturn, 1, 97, 0, [1], []) rfl rfl rfl ?_
                  exact ((((((((h.2 c1).2 c24).2 c29).2 c30).2 c35).1 c37).2 c38).1 c39)
                · refine bGo hA 5 13 (213, .iconst (2), 1, 94, 0, [], [(2, 0)]) rfl rfl rfl ?_
                  refine bEqI bl_2 ?_
                  refine bGo hA 5 14 (214, .goto (4), 3, 95, 96, [], []) rfl rfl rfl ?_
                  refine bGo hA 6 0 (218, .ireturn, 1, 97, 0, [1], []) rfl rfl rfl ?_
                  exact ((((((((h.2 c1).2 c24).2 c29).2 c30).2 c35).1 c37).2 c38).2 c39)
            · refine bGo hA 6 1 (219, .iconst (-1), 1, 98, 0, [], [(-1, 0)]) rfl rfl rfl ?_
              refine bEqI bl_m1 ?_
              refine bGo hA 6 2 (220, .ireturn, 1, 0, 0, [1], []) rfl rfl rfl ?_
              exact ((((((h.2 c1).2 c24).2 c29).2 c30).2 c35).2 c37)

theorem sq105_0 {lvl : Nat} {C : bCall} {Q : bPost} {A : bPt → Prop} (hC : bMono C) (hA : bClosed lvl bm105 C Q A) {x1 : Int} {x2 : Int} {x3 : Int} {σ : bSt}  (h_x1 : bRg x1) (h_x2 : bRg x2) (h_x3 : bRg x3)
  (h : ((x2 = (-1) → Q (.inl (some (.int (bn 1)))) σ) ∧ (¬ x2 = (-1) → ((x3 = (-1) → Q (.inl (some (.int (bn 1)))) σ) ∧ (¬ x3 = (-1) → ((x2 < 1000 → Q (.inl (some (.int (bn 2)))) σ) ∧ (¬ x2 < 1000 → ((x3 < 1000 → (bRg (x2 - 1000) ∧ (C 140 [.ref 44, .int (bn (x2 - 1000))] σ (bRn (fun r7 s5 => ((r7 = x1 → (C 140 [.ref 43, .int (bn (x2 - 1000))] s5 (bRn (fun r12 s10 => ((r12 < 8 → Q (.inl (some (.int (bn (-1))))) s10) ∧ (¬ r12 < 8 → Q (.inl (some (.int (bn 4)))) s10)))))) ∧ (¬ r7 = x1 → Q (.inl (some (.int (bn 3)))) s5))))))) ∧ (¬ x3 < 1000 → Q (.inl (some (.int (bn 2)))) σ))))))))) : A (0, [.ref 7, .int (bn x1), .int (bn x2), .int (bn x3)], [], σ) := by
  refine bGo hA 0 0 (0, .iload_n 2, 1, 1, 0, [2], []) rfl rfl rfl ?_
  refine bGo hA 0 1 (1, .iconst (-1), 1, 2, 0, [], [(-1, 0)]) rfl rfl rfl ?_
  refine bEqI bl_m1 ?_
  refine bGo hA 0 2 (2, .if_icmp .eq (8), 3, 3, 6, [], []) rfl rfl rfl ?_
  refine bB_eq (x := x2) (y := (-1)) h_x2 (by decide : bRg (-1)) (fun c1 => ?_) (fun c1 => ?_)
  · refine bGo hA 0 6 (10, .iconst (1), 1, 7, 0, [], [(1, 0)]) rfl rfl rfl ?_
    refine bEqI bl_1 ?_
    refine bGo hA 0 7 (11, .ireturn, 1, 8, 0, [1], []) rfl rfl rfl ?_
    exact (h.1 c1)
  · refine bGo hA 0 3 (5, .iload_n 3, 1, 4, 0, [3], []) rfl rfl rfl ?_
    refine bGo hA 0 4 (6, .iconst (-1), 1, 5, 0, [], [(-1, 0)]) rfl rfl rfl ?_
    refine bEqI bl_m1 ?_
    refine bGo hA 0 5 (7, .if_icmp .ne (5), 3, 6, 8, [], []) rfl rfl rfl ?_
    refine bB_eq (x := x3) (y := (-1)) h_x3 (by decide : bRg (-1)) (fun c2 => ?_) (fun c2 => ?_)
    · refine bGo hA 0 6 (10, .iconst (1), 1, 7, 0, [], [(1, 0)]) rfl rfl rfl ?_
      refine bEqI bl_1 ?_
      refine bGo hA 0 7 (11, .ireturn, 1, 8, 0, [1], []) rfl rfl rfl ?_
      exact ((h.2 c1).1 c2)
    · refine bGo hA 0 8 (12, .iload_n 2, 1, 9, 0, [2], []) rfl rfl rfl ?_
      refine bGo hA 0 9 (13, .sipush (1000), 3, 10, 0, [], [(1000, 0)]) rfl rfl rfl ?_
      refine bEqI bl_1000 ?_
      refine bGo hA 0 10 (16, .if_icmp .lt (10), 3, 11, 14, [], []) rfl rfl rfl ?_
      refine bB_lt (x := x2) (y := 1000) h_x2 (by decide : bRg 1000) (fun c3 => ?_) (fun c3 => ?_)
      · refine bGo hA 0 14 (26, .iconst (2), 1, 15, 0, [], [(2, 0)]) rfl rfl rfl ?_
        refine bEqI bl_2 ?_
        refine bGo hA 0 15 (27, .ireturn, 1, 16, 0, [1], []) rfl rfl rfl ?_
        exact (((h.2 c1).2 c2).1 c3)
      · refine bGo hA 0 11 (19, .iload_n 3, 1, 12, 0, [3], []) rfl rfl rfl ?_
        refine bGo hA 0 12 (20, .sipush (1000), 3, 13, 0, [], [(1000, 0)]) rfl rfl rfl ?_
        refine bEqI bl_1000 ?_
        refine bGo hA 0 13 (23, .if_icmp .lt (5), 3, 14, 16, [], []) rfl rfl rfl ?_
        refine bB_lt (x := x3) (y := 1000) h_x3 (by decide : bRg 1000) (fun c4 => ?_) (fun c4 => ?_)
        · refine bGo hA 1 0 (28, .aload_n 0, 1, 17, 0, [0], []) rfl rfl rfl ?_
          refine bGo hA 1 1 (29, .getfield 42, 3, 18, 0, [7, 10, 3, 44, 1, 0], []) rfl rfl rfl ?_
          refine ⟨rfl, ?_⟩
          refine bGo hA 1 2 (32, .iload_n 2, 1, 19, 0, [2], []) rfl rfl rfl ?_
          refine bGo hA 1 3 (33, .sipush (1000), 3, 20, 0, [], [(1000, 0)]) rfl rfl rfl ?_
          refine bEqI bl_1000 ?_
          refine bGo hA 1 4 (36, .isub, 1, 21, 0, [], []) rfl rfl rfl ?_
          refine bEqI (bn_sub x2 1000) ?_
          refine bGo hA 1 5 (37, .invokestatic 55, 3, 22, 1, [2, 140, 2], []) rfl rfl rfl ?_
          refine hC _ _ _ _ _ (bRn_e (fun r7 s5 q8 k6 => ?_)) ((((h.2 c1).2 c2).2 c3).1 c4).2
          show A (22, [.ref 7, .int (bn x1), .int (bn x2), .int (bn x3)], [.int (bn r7)], s5)
          refine bGo hA 1 6 (40, .iload_n 1, 1, 23, 0, [1], []) rfl rfl rfl ?_
          refine bGo hA 1 7 (41, .if_icmp .eq (5), 3, 24, 26, [], []) rfl rfl rfl ?_
          refine bB_eq (x := r7) (y := x1) q8 h_x1 (fun c9 => ?_) (fun c9 => ?_)
          · refine bGo hA 1 10 (46, .aload_n 0, 1, 27, 0, [0], []) rfl rfl rfl ?_
            refine bGo hA 1 11 (47, .getfield 39, 3, 28, 0, [7, 9, 3, 43, 1, 0], []) rfl rfl rfl ?_
            refine ⟨rfl, ?_⟩
            refine bGo hA 1 12 (50, .iload_n 2, 1, 29, 0, [2], []) rfl rfl rfl ?_
            refine bGo hA 1 13 (51, .sipush (1000), 3, 30, 0, [], [(1000, 0)]) rfl rfl rfl ?_
            refine bEqI bl_1000 ?_
            refine bGo hA 1 14 (54, .isub, 1, 31, 0, [], []) rfl rfl rfl ?_
            refine bEqI (bn_sub x2 1000) ?_
            refine bGo hA 1 15 (55, .invokestatic 55, 3, 32, 1, [2, 140, 2], []) rfl rfl rfl ?_
            refine hC _ _ _ _ _ (bRn_e (fun r12 s10 q13 k11 => ?_)) (k6.1 c9)
            show A (32, [.ref 7, .int (bn x1), .int (bn x2), .int (bn x3)], [.int (bn r12)], s10)
            refine bGo hA 2 0 (58, .bipush (8), 2, 33, 0, [], [(8, 0)]) rfl rfl rfl ?_
            refine bEqI bl_8 ?_
            refine bGo hA 2 1 (60, .if_icmp .lt (7), 3, 34, 36, [], []) rfl rfl rfl ?_
            refine bB_lt (x := r12) (y := 8) q13 (by decide : bRg 8) (fun c14 => ?_) (fun c14 => ?_)
            · refine bGo hA 2 4 (67, .iconst (-1), 1, 37, 0, [], [(-1, 0)]) rfl rfl rfl ?_
              refine bEqI bl_m1 ?_
              refine bGo hA 2 5 (68, .ireturn, 1, 0, 0, [1], []) rfl rfl rfl ?_
              exact (k11.1 c14)
            · refine bGo hA 2 2 (63, .iconst (4), 1, 35, 0, [], [(4, 0)]) rfl rfl rfl ?_
              refine bEqI bl_4 ?_
              refine bGo hA 2 3 (64, .goto (4), 3, 36, 37, [], []) rfl rfl rfl ?_
              refine bGo hA 2 5 (68, .ireturn, 1, 0, 0, [1], []) rfl rfl rfl ?_
              exact (k11.2 c14)
          · refine bGo hA 1 8 (44, .iconst (3), 1, 25, 0, [], [(3, 0)]) rfl rfl rfl ?_
            refine bEqI bl_3 ?_
            refine bGo hA 1 9 (45, .ireturn, 1, 26, 0, [1], []) rfl rfl rfl ?_
            exact (k6.2 c9)
        · refine bGo hA 0 14 (26, .iconst (2), 1, 15, 0, [], [(2, 0)]) rfl rfl rfl ?_
          refine bEqI bl_2 ?_
          refine bGo hA 0 15 (27, .ireturn, 1, 16, 0, [1], []) rfl rfl rfl ?_
          exact ((((h.2 c1).2 c2).2 c3).2 c4)

theorem sq106_0 {lvl : Nat} {C : bCall} {Q : bPost} {A : bPt → Prop} (hC : bMono C) (hA : bClosed lvl bm106 C Q A) {x1 : Int} {x2 : Int} {σ : bSt}  (h_x1 : bRg x1) (h_x2 : bRg x2)
  (h : (bRg (x1 * 8) ∧ (C 140 [.ref 36, .int (bn x2)] σ (bRn (fun r3 s1 => (bRg ((x1 * 8) + r3) ∧ (C 140 [.ref 37, .int (bn x2)] s1 (bRn (fun r7 s5 => (C 140 [.ref 35, .int (bn x2)] s5 (bRn (fun r11 s9 => ((r11 = 0 → (C 141 [.ref 39, .int (bn ((x1 * 8) + r3)), .int (bn r7)] s9 (bRv (fun s14 => Q (.inl none) s14)))) ∧ (¬ r11 = 0 → ((r11 = 1 → (C 140 [.ref 38, .int (bn x2)] s9 (bRn (fun r19 s17 => (C 100 [.ref 7, .int (bn r19), .int (bn r7)] s17 (bRn (fun r23 s21 => (C 141 [.ref 39, .int (bn ((x1 * 8) + r3)), .int (bn r23)] s21 (bRv (fun s25 => Q (.inl none) s25)))))))))) ∧ (¬ r11 = 1 → ((r11 = 2 → (C 140 [.ref 39, .int (bn ((x1 * 8) + r3))] s9 (bRn (fun r30 s28 => (C 100 [.ref 7, .int (bn x1), .int (bn r7)] s28 (bRn (fun r34 s32 => (bRg (r30 + r34) ∧ (0 ≤ (r30 + r34) ∧ (C 141 [.ref 39, .int (bn ((x1 * 8) + r3)), .int (bn ((r30 + r34) % 1000))] s32 (bRv (fun s36 => Q (.inl none) s36)))))))))))) ∧ (¬ r11 = 2 → ((r11 = 3 → (C 107 [.ref 7, .int (bn x1)] s9 (bRn (fun r41 s39 => (bRg (1000 + r41) ∧ (C 141 [.ref 39, .int (bn ((x1 * 8) + r3)), .int (bn (1000 + r41))] s39 (bRv (fun s43 => Q (.inl none) s43)))))))) ∧ (¬ r11 = 3 → ((r11 = 4 → (C 140 [.ref 39, .int (bn ((x1 * 8) + r3))] s9 (bRn (fun r48 s46 => (bRg (r48 - 1000) ∧ (C 100 [.ref 7, .int (bn x1), .int (bn r7)] s46 (bRn (fun r52 s50 => (C 108 [.ref 7, .int (bn (r48 - 1000)), .int (bn r52)] s50 (bRv (fun s54 => Q (.inl none) s54))))))))))) ∧ (¬ r11 = 4 → ((r11 = 5 → (C 100 [.ref 7, .int (bn x1), .int (bn r7)] s9 (bRn (fun r59 s57 => (C 141 [.ref 39, .int (bn ((x1 * 8) + r3)), .int (bn r59)] s57 (bRv (fun s61 => Q (.inl none) s61))))))) ∧ (¬ r11 = 5 → (C 140 [.ref 41, .int (bn x1)] s9 (bRn (fun r65 s63 => (C 140 [.ref 39, .int (bn ((x1 * 8) + r3))] s63 (bRn (fun r69 s67 => ((r69 = 0 → (bRg (r65 + 1) ∧ (C 141 [.ref 41, .int (bn x1), .int (bn (r65 + 1))] s67 (bRv (fun s72 => Q (.inl none) s72))))) ∧ (¬ r69 = 0 → (bRg (r65 + 0) ∧ (C 141 [.ref 41, .int (bn x1), .int (bn (r65 + 0))] s67 (bRv (fun s74 => Q (.inl none) s74)))))))))))))))))))))))))))))))))))) : A (0, [.ref 7, .int (bn x1), .int (bn x2), .float 0, .float 0], [], σ) := by
  refine bGo hA 0 0 (0, .iload_n 1, 1, 1, 0, [1], []) rfl rfl rfl ?_
  refine bGo hA 0 1 (1, .bipush (8), 2, 2, 0, [], [(8, 0)]) rfl rfl rfl ?_
  refine bEqI bl_8 ?_
  refine bGo hA 0 2 (3, .imul, 1, 3, 0, [], []) rfl rfl rfl ?_
  refine bEqI (bn_mul x1 8) ?_
  refine bGo hA 0 3 (4, .aload_n 0, 1, 4, 0, [0], []) rfl rfl rfl ?_
  refine bGo hA 0 4 (5, .getfield 18, 3, 5, 0, [7, 2, 3, 36, 1, 0], []) rfl rfl rfl ?_
  refine ⟨rfl, ?_⟩
  refine bGo hA 0 5 (8, .iload_n 2, 1, 6, 0, [2], []) rfl rfl rfl ?_
  refine bGo hA 0 6 (9, .invokestatic 55, 3, 7, 1, [2, 140, 2], []) rfl rfl rfl ?_
  refine hC _ _ _ _ _ (bRn_e (fun r3 s1 q4 k2 => ?_)) h.2
  show A (7, [.ref 7, .int (bn x1), .int (bn x2), .float 0, .float 0], [.int (bn r3), .int (bn (x1 * 8))], s1)
  refine bGo hA 0 7 (12, .iadd, 1, 8, 0, [], []) rfl rfl rfl ?_
  refine bEqI (bn_add (x1 * 8) r3) ?_
  refine bGo hA 0 8 (13, .istore_n 3, 1, 9, 0, [3], []) rfl rfl rfl ?_
  refine bGo hA 0 9 (14, .aload_n 0, 1, 10, 0, [0], []) rfl rfl rfl ?_
  refine bGo hA 0 10 (15, .getfield 21, 3, 11, 0, [7, 3, 3, 37, 1, 0], []) rfl rfl rfl ?_
  refine ⟨rfl, ?_⟩
  refine bGo hA 0 11 (18, .iload_n 2, 1, 12, 0, [2], []) rfl rfl rfl ?_
  refine bGo hA 0 12 (19, .invokestatic 55, 3, 13, 1, [2, 140, 2], []) rfl rfl rfl ?_
  refine hC _ _ _ _ _ (bRn_e (fun r7 s5 q8 k6 => ?_)) k2.2
  show A (13, [.ref 7, .int (bn x1), .int (bn x2), .int (bn ((x1 * 8) + r3)), .float 0], [.int (bn r7)], s5)
  refine bGo hA 0 13 (22, .istore 4, 2, 14, 0, [4], []) rfl rfl rfl ?_
  refine bGo hA 0 14 (24, .aload_n 0, 1, 15, 0, [0], []) rfl rfl rfl ?_
  refine bGo hA 0 15 (25, .getfield 15, 3, 16, 0, [7, 1, 3, 35, 1, 0], []) rfl rfl rfl ?_
  refine ⟨rfl, ?_⟩
  refine bGo hA 1 0 (28, .iload_n 2, 1, 17, 0, [2], []) rfl rfl rfl ?_
  refine bGo hA 1 1 (29, .invokestatic 55, 3, 18, 1, [2, 140, 2], []) rfl rfl rfl ?_
  refine hC _ _ _ _ _ (bRn_e (fun r11 s9 q12 k10 => ?_)) k6
  show A (18, [.ref 7, .int (bn x1), .int (bn x2), .int (bn ((x1 * 8) + r3)), .int (bn r7)], [.int (bn r11)], s9)
  refine bGo hA 1 2 (32, .tableswitch (173) (0) (5) #[40, 53, 78, 109, 129, 155], 40, 19, 85, [], [(0, 19), (1, 25), (2, 37), (3, 53), (4, 63), (5, 76)]) rfl rfl rfl ?_
  refine bB_sw (x := r11) (k := 0) bl_0 q12 (by decide) (fun c13 => ?_) (fun c13 => ?_)
  · refine bGo hA 1 3 (72, .aload_n 0, 1, 20, 0, [0], []) rfl rfl rfl ?_
    refine bGo hA 1 4 (73, .getfield 27, 3, 21, 0, [7, 5, 3, 39, 1, 0], []) rfl rfl rfl ?_
    refine ⟨rfl, ?_⟩
    refine bGo hA 1 5 (76, .iload_n 3, 1, 22, 0, [3], []) rfl rfl rfl ?_
    refine bGo hA 1 6 (77, .iload 4, 2, 23, 0, [4], []) rfl rfl rfl ?_
    refine bGo hA 1 7 (79, .invokestatic 63, 3, 24, 1, [2, 141, 3], []) rfl rfl rfl ?_
    refine hC _ _ _ _ _ (bRv_e (fun s14 k15 => ?_)) (k10.1 c13)
    show A (24, [.ref 7, .int (bn x1), .int (bn x2), .int (bn ((x1 * 8) + r3)), .int (bn r7)], [], s14)
    refine bGo hA 1 8 (82, .goto (156), 3, 25, 102, [], []) rfl rfl rfl ?_
    refine bGo hA 6 6 (238, .return_, 1, 0, 0, [0], []) rfl rfl rfl ?_
    exact k15
  · refine bB_sw (x := r11) (k := 1) bl_1 q12 (by decide) (fun c16 => ?_) (fun c16 => ?_)
    · refine bGo hA 1 9 (85, .aload_n 0, 1, 26, 0, [0], []) rfl rfl rfl ?_
      refine bGo hA 1 10 (86, .getfield 27, 3, 27, 0, [7, 5, 3, 39, 1, 0], []) rfl rfl rfl ?_
      refine ⟨rfl, ?_⟩
      refine bGo hA 1 11 (89, .iload_n 3, 1, 28, 0, [3], []) rfl rfl rfl ?_
      refine bGo hA 1 12 (90, .aload_n 0, 1, 29, 0, [0], []) rfl rfl rfl ?_
      refine bGo hA 1 13 (91, .aload_n 0, 1, 30, 0, [0], []) rfl rfl rfl ?_
      refine bGo hA 1 14 (92, .getfield 24, 3, 31, 0, [7, 4, 3, 38, 1, 0], []) rfl rfl rfl ?_
      refine ⟨rfl, ?_⟩
      refine bGo hA 1 15 (95, .iload_n 2, 1, 32, 0, [2], []) rfl rfl rfl ?_
      refine bGo hA 2 0 (96, .invokestatic 55, 3, 33, 1, [2, 140, 2], []) rfl rfl rfl ?_
      refine hC _ _ _ _ _ (bRn_e (fun r19 s17 q20 k18 => ?_)) ((k10.2 c13).1 c16)
      show A (33, [.ref 7, .int (bn x1), .int (bn x2), .int (bn ((x1 * 8) + r3)), .int (bn r7)], [.int (bn r19), .ref 7, .int (bn ((x1 * 8) + r3)), .ref 39], s17)
      refine bGo hA 2 1 (99, .iload 4, 2, 34, 0, [4], []) rfl rfl rfl ?_
      refine bGo hA 2 2 (101, .invokevirtual 84, 3, 35, 0, [0, 7, 100, 2], []) rfl rfl rfl ?_
      refine ⟨rfl, ?_⟩
      refine hC _ _ _ _ _ (bRn_e (fun r23 s21 q24 k22 => ?_)) k18
      show A (35, [.ref 7, .int (bn x1), .int (bn x2), .int (bn ((x1 * 8) + r3)), .int (bn r7)], [.int (bn r23), .int (bn ((x1 * 8) + r3)), .ref 39], s21)
      refine bGo hA 2 3 (104, .invokestatic 63, 3, 36, 1, [2, 141, 3], []) rfl rfl rfl ?_
      refine hC _ _ _ _ _ (bRv_e (fun s25 k26 => ?_)) k22
      show A (36, [.ref 7, .int (bn x1), .int (bn x2), .int (bn ((x1 * 8) + r3)), .int (bn r7)], [], s25)
      refine bGo hA 2 4 (107, .goto (131), 3, 37, 102, [], []) rfl rfl rfl ?_
      refine bGo hA 6 6 (238, .return_, 1, 0, 0, [0], []) rfl rfl rfl ?_
      exact k26
    · refine bB_sw (x := r11) (k := 2) bl_2 q12 (by decide) (fun c27 => ?_) (fun c27 => ?_)
      · refine bGo hA 2 5 (110, .aload_n 0, 1, 38, 0, [0], []) rfl rfl rfl ?_
        refine bGo hA 2 6 (111, .getfield 27, 3, 39, 0, [7, 5, 3, 39, 1, 0], []) rfl rfl rfl ?_
        refine ⟨rfl, ?_⟩
        refine bGo hA 2 7 (114, .iload_n 3, 1, 40, 0, [3], []) rfl rfl rfl ?_
        refine bGo hA 2 8 (115, .aload_n 0, 1, 41, 0, [0], []) rfl rfl rfl ?_
        refine bGo hA 2 9 (116, .getfield 27, 3, 42, 0, [7, 5, 3, 39, 1, 0], []) rfl rfl rfl ?_
        refine ⟨rfl, ?_⟩
        refine bGo hA 2 10 (119, .iload_n 3, 1, 43, 0, [3], []) rfl rfl rfl ?_
        refine bGo hA 2 11 (120, .invokestatic 55, 3, 44, 1, [2, 140, 2], []) rfl rfl rfl ?_
        refine hC _ _ _ _ _ (bRn_e (fun r30 s28 q31 k29 => ?_)) (((k10.2 c13).2 c16).1 c27)
        show A (44, [.ref 7, .int (bn x1), .int (bn x2), .int (bn ((x1 * 8) + r3)), .int (bn r7)], [.int (bn r30), .int (bn ((x1 * 8) + r3)), .ref 39], s28)
        refine bGo hA 2 12 (123, .aload_n 0, 1, 45, 0, [0], []) rfl rfl rfl ?_
        refine bGo hA 2 13 (124, .iload_n 1, 1, 46, 0, [1], []) rfl rfl rfl ?_
        refine bGo hA 2 14 (125, .iload 4, 2, 47, 0, [4], []) rfl rfl rfl ?_
        refine bGo hA 2 15 (127, .invokevirtual 84, 3, 48, 0, [0, 7, 100, 2], []) rfl rfl rfl ?_
        refine ⟨rfl, ?_⟩
        refine hC _ _ _ _ _ (bRn_e (fun r34 s32 q35 k33 => ?_)) k29
        show A (48, [.ref 7, .int (bn x1), .int (bn x2), .int (bn ((x1 * 8) + r3)), .int (bn r7)], [.int (bn r34), .int (bn r30), .int (bn ((x1 * 8) + r3)), .ref 39], s32)
        refine bGo hA 3 0 (130, .iadd, 1, 49, 0, [], []) rfl rfl rfl ?_
        refine bEqI (bn_add r30 r34) ?_
        refine bGo hA 3 1 (131, .sipush (1000), 3, 50, 0, [], [(1000, 0)]) rfl rfl rfl ?_
        refine bEqI bl_1000 ?_
        refine bGo hA 3 2 (134, .irem, 1, 51, 0, [], []) rfl rfl rfl ?_
        refine ⟨by decide, ?_⟩
        refine bEqI (bn_rem k33.1 (by decide) k33.2.1) ?_
        refine bGo hA 3 3 (135, .invokestatic 63, 3, 52, 1, [2, 141, 3], []) rfl rfl rfl ?_
        refine hC _ _ _ _ _ (bRv_e (fun s36 k37 => ?_)) k33.2.2
        show A (52, [.ref 7, .int (bn x1), .int (bn x2), .int (bn ((x1 * 8) + r3)), .int (bn r7)], [], s36)
        refine bGo hA 3 4 (138, .goto (100), 3, 53, 102, [], []) rfl rfl rfl ?_
        refine bGo hA 6 6 (238, .return_, 1, 0, 0, [0], []) rfl rfl rfl ?_
        exact k37
      · refine bB_sw (x := r11) (k := 3) bl_3 q12 (by decide) (fun c38 => ?_) (fun c38 => ?_)
        · refine bGo hA 3 5 (141, .aload_n 0, 1, 54, 0, [0], []) rfl rfl rfl ?_
          refine bGo hA 3 6 (142, .getfield 27, 3, 55, 0, [7, 5, 3, 39, 1, 0], []) rfl rfl rfl ?_
          refine ⟨rfl, ?_⟩
          refine bGo hA 3 7 (145, .iload_n 3, 1, 56, 0, [3], []) rfl rfl rfl ?_
          refine bGo hA 3 8 (146, .sipush (1000), 3, 57, 0, [], [(1000, 0)]) rfl rfl rfl ?_
          refine bEqI bl_1000 ?_
          refine bGo hA 3 9 (149, .aload_n 0, 1, 58, 0, [0], []) rfl rfl rfl ?_
          refine bGo hA 3 10 (150, .iload_n 1, 1, 59, 0, [1], []) rfl rfl rfl ?_
          refine bGo hA 3 11 (151, .invokevirtual 113, 3, 60, 0, [0, 7, 107, 1], []) rfl rfl rfl ?_
          refine ⟨rfl, ?_⟩
          refine hC _ _ _ _ _ (bRn_e (fun r41 s39 q42 k40 => ?_)) ((((k10.2 c13).2 c16).2 c27).1 c38)
          show A (60, [.ref 7, .int (bn x1), .int (bn x2), .int (bn ((x1 * 8) + r3)), .int (bn r7)], [.int (bn r41), .int (bn 1000), .int (bn ((x1 * 8) + r3)), .ref 39], s39)
          refine bGo hA 3 12 (154, .iadd, 1, 61, 0, [], []) rfl rfl rfl ?_
          refine bEqI (bn_add 1000 r41) ?_
          refine bGo hA 3 13 (155, .invokestatic 63, 3, 62, 1, [2, 141, 3], []) rfl rfl rfl ?_
          refine hC _ _ _ _ _ (bRv_e (fun s43 k44 => ?_)) k40.2
          show A (62, [.ref 7, .int (bn x1), .int (bn x2), .int (bn ((x1 * 8) + r3)), .int (bn r7)], [], s43)
          refine bGo hA 3 14 (158, .goto (80), 3, 63, 102, [], []) rfl rfl rfl ?_
          refine bGo hA 6 6 (238, .return_, 1, 0, 0, [0], []) rfl rfl rfl ?_
          exact k44
        · refine bB_sw (x := r11) (k := 4) bl_4 q12 (by decide) (fun c45 => ?_) (fun c45 => ?_)
          · refine bGo hA 3 15 (161, .aload_n 0, 1, 64, 0, [0], []) rfl rfl rfl ?_
            refine bGo hA 4 0 (162, .aload_n 0, 1, 65, 0, [0], []) rfl rfl rfl ?_
            refine bGo hA 4 1 (163, .getfield 27, 3, 66, 0, [7, 5, 3, 39, 1, 0], []) rfl rfl rfl ?_
            refine ⟨rfl, ?_⟩
            refine bGo hA 4 2 (166, .iload_n 3, 1, 67, 0, [3], []) rfl rfl rfl ?_
            refine bGo hA 4 3 (167, .invokestatic 55, 3, 68, 1, [2, 140, 2], []) rfl rfl rfl ?_
            refine hC _ _ _ _ _ (bRn_e (fun r48 s46 q49 k47 => ?_)) (((((k10.2 c13).2 c16).2 c27).2 c38).1 c45)
            show A (68, [.ref 7, .int (bn x1), .int (bn x2), .int (bn ((x1 * 8) + r3)), .int (bn r7)], [.int (bn r48), .ref 7], s46)
            refine bGo hA 4 4 (170, .sipush (1000), 3, 69, 0, [], [(1000, 0)]) rfl rfl rfl ?_
            refine bEqI bl_1000 ?_
            refine bGo hA 4 5 (173, .isub, 1, 70, 0, [], []) rfl rfl rfl ?_
            refine bEqI (bn_sub r48 1000) ?_
            refine bGo hA 4 6 (174, .aload_n 0, 1, 71, 0, [0], []) rfl rfl rfl ?_
            refine bGo hA 4 7 (175, .iload_n 1, 1, 72, 0, [1], []) rfl rfl rfl ?_
            refine bGo hA 4 8 (176, .iload 4, 2, 73, 0, [4], []) rfl rfl rfl ?_
            refine bGo hA 4 9 (178, .invokevirtual 84, 3, 74, 0, [0, 7, 100, 2], []) rfl rfl rfl ?_
            refine ⟨rfl, ?_⟩
            refine hC _ _ _ _ _ (bRn_e (fun r52 s50 q53 k51 => ?_)) k47.2
            show A (74, [.ref 7, .int (bn x1), .int (bn x2), .int (bn ((x1 * 8) + r3)), .int (bn r7)], [.int (bn r52), .int (bn (r48 - 1000)), .ref 7], s50)
            refine bGo hA 4 10 (181, .invokevirtual 116, 3, 75, 0, [0, 7, 108, 2], []) rfl rfl rfl ?_
            refine ⟨rfl, ?_⟩
            refine hC _ _ _ _ _ (bRv_e (fun s54 k55 => ?_)) k51
            show A (75, [.ref 7, .int (bn x1), .int (bn x2), .int (bn ((x1 * 8) + r3)), .int (bn r7)], [], s54)
            refine bGo hA 4 11 (184, .goto (54), 3, 76, 102, [], []) rfl rfl rfl ?_
            refine bGo hA 6 6 (238, .return_, 1, 0, 0, [0], []) rfl rfl rfl ?_
            exact k55
          · refine bB_sw (x := r11) (k := 5) bl_5 q12 (by decide) (fun c56 => ?_) (fun c56 => ?_)
            · refine bGo hA 4 12 (187, .aload_n 0, 1, 77, 0, [0], []) rfl rfl rfl ?_
              refine bGo hA 4 13 (188, .getfield 27, 3, 78, 0, [7, 5, 3, 39, 1, 0], []) rfl rfl rfl ?_
              refine ⟨rfl, ?_⟩
              refine bGo hA 4 14 (191, .iload_n 3, 1, 79, 0, [3], []) rfl rfl rfl ?_
              refine bGo hA 4 15 (192, .aload_n 0, 1, 80, 0, [0], []) rfl rfl rfl ?_
              refine bGo hA 5 0 (193, .iload_n 1, 1, 81, 0, [1], []) rfl rfl rfl ?_
              refine bGo hA 5 1 (194, .iload 4, 2, 82, 0, [4], []) rfl rfl rfl ?_
              refine bGo hA 5 2 (196, .invokevirtual 84, 3, 83, 0, [0, 7, 100, 2], []) rfl rfl rfl ?_
              refine ⟨rfl, ?_⟩
              refine hC _ _ _ _ _ (bRn_e (fun r59 s57 q60 k58 => ?_)) ((((((k10.2 c13).2 c16).2 c27).2 c38).2 c45).1 c56)
              show A (83, [.ref 7, .int (bn x1), .int (bn x2), .int (bn ((x1 * 8) + r3)), .int (bn r7)], [.int (bn r59), .int (bn ((x1 * 8) + r3)), .ref 39], s57)
              refine bGo hA 5 3 (199, .invokestatic 63, 3, 84, 1, [2, 141, 3], []) rfl rfl rfl ?_
              refine hC _ _ _ _ _ (bRv_e (fun s61 k62 => ?_)) k58
              show A (84, [.ref 7, .int (bn x1), .int (bn x2), .int (bn ((x1 * 8) + r3)), .int (bn r7)], [], s61)
              refine bGo hA 5 4 (202, .goto (36), 3, 85, 102, [], []) rfl rfl rfl ?_
              refine bGo hA 6 6 (238, .return_, 1, 0, 0, [0], []) rfl rfl rfl ?_
              exact k62
            · refine bGo hA 5 5 (205, .aload_n 0, 1, 86, 0, [0], []) rfl rfl rfl ?_
              refine bGo hA 5 6 (206, .getfield 33, 3, 87, 0, [7, 7, 3, 41, 1, 0], []) rfl rfl rfl ?_
              refine ⟨rfl, ?_⟩
              refine bGo hA 5 7 (209, .iload_n 1, 1, 88, 0, [1], []) rfl rfl rfl ?_
              refine bGo hA 5 8 (210, .aload_n 0, 1, 89, 0, [0], []) rfl rfl rfl ?_
              refine bGo hA 5 9 (211, .getfield 33, 3, 90, 0, [7, 7, 3, 41, 1, 0], []) rfl rfl rfl ?_
              refine ⟨rfl, ?_⟩
              refine bGo hA 5 10 (214, .iload_n 1, 1, 91, 0, [1], []) rfl rfl rfl ?_
              refine bGo hA 5 11 (215, .invokestatic 55, 3, 92, 1, [2, 140, 2], []) rfl rfl rfl ?_
              refine hC _ _ _ _ _ (bRn_e (fun r65 s63 q66 k64 => ?_)) ((((((k10.2 c13).2 c16).2 c27).2 c38).2 c45).2 c56)
              show A (92, [.ref 7, .int (bn x1), .int (bn x2), .int (bn ((x1 * 8) + r3)), .int (bn r7)], [.int (bn r65), .int (bn x1), .ref 41], s63)
              refine bGo hA 5 12 (218, .aload_n 0, 1, 93, 0, [0], []) rfl rfl rfl ?_
              refine bGo hA 5 13 (219, .getfield 27, 3, 94, 0, [7, 5, 3, 39, 1, 0], []) rfl rfl rfl ?_
              refine ⟨rfl, ?_⟩
              refine bGo hA 5 14 (222, .iload_n 3, 1, 95, 0, [3], []) rfl rfl rfl ?_
              refine bGo hA 5 15 (223, .invokestatic 55, 3, 96, 1, [2, 140, 2], []) rfl rfl rfl ?_
              refine hC _ _ _ _ _ (bRn_e (fun r69 s67 q70 k68 => ?_)) k64
              show A (96, [.ref 7, .int (bn x1), .int (bn x2), .int (bn ((x1 * 8) + r3)), .int (bn r7)], [.int (bn r69), .int (bn r65), .int (bn x1), .ref 41], s67)
              refine bGo hA 6 0 (226, .ifCond .ne (7), 3, 97, 99, [], []) rfl rfl rfl ?_
              refine bB_eq0 (x := r69) q70 (fun c71 => ?_) (fun c71 => ?_)
              · refine bGo hA 6 1 (229, .iconst (1), 1, 98, 0, [], [(1, 0)]) rfl rfl rfl ?_
                refine bEqI bl_1 ?_
                refine bGo hA 6 2 (230, .goto (4), 3, 99, 100, [], []) rfl rfl rfl ?_
                refine bGo hA 6 4 (234, .iadd, 1, 101, 0, [], []) rfl rfl rfl ?_
                refine bEqI (bn_add r65 1) ?_
                refine bGo hA 6 5 (235, .invokestatic 63, 3, 102, 1, [2, 141, 3], []) rfl rfl rfl ?_
                refine hC _ _ _ _ _ (bRv_e (fun s72 k73 => ?_)) (k68.1 c71).2
                show A (102, [.ref 7, .int (bn x1), .int (bn x2), .int (bn ((x1 * 8) + r3)), .int (bn r7)], [], s72)
                refine bGo hA 6 6 (238, .return_, 1, 0, 0, [0], []) rfl rfl rfl ?_
                exact k73
              · refine bGo hA 6 3 (233, .iconst (0), 1, 100, 0, [], [(0, 0)]) rfl rfl rfl ?_
                refine bEqI bl_0 ?_
                refine bGo hA 6 4 (234, .iadd, 1, 101, 0, [], []) rfl rfl rfl ?_
                refine bEqI (bn_add r65 0) ?_
                refine bGo hA 6 5 (235, .invokestatic 63, 3, 102, 1, [2, 141, 3], []) rfl rfl rfl ?_
                refine hC _ _ _ _ _ (bRv_e (fun s74 k75 => ?_)) (k68.2 c71).2
                show A (102, [.ref 7, .int (bn x1), .int (bn x2), .int (bn ((x1 * 8) + r3)), .int (bn r7)], [], s74)
                refine bGo hA 6 6 (238, .return_, 1, 0, 0, [0], []) rfl rfl rfl ?_
                exact k75

theorem sq107_0 {lvl : Nat} {C : bCall} {Q : bPost} {A : bPt → Prop} (hC : bMono C) (hA : bClosed lvl bm107 C Q A) {x1 : Int} {σ : bSt}  (h_x1 : bRg x1)
  (h : (C 141 [.ref 44, .int (bn (bi σ 7 12)), .int (bn x1)] σ (bRv (fun s1 => (C 141 [.ref 43, .int (bn (bi σ 7 12)), .int (bn 0)] s1 (bRv (fun s3 => (bRg ((bi s3 7 12) + 1) ∧ Q (.inl (some (.int (bn (bi σ 7 12))))) (bw s3 7 12 ((bi s3 7 12) + 1)))))))))) : A (0, [.ref 7, .int (bn x1), .float 0], [], σ) := by
  refine bGo hA 0 0 (0, .aload_n 0, 1, 1, 0, [0], []) rfl rfl rfl ?_
  refine bGo hA 0 1 (1, .getfield 93, 3, 2, 0, [7, 12, 0, 0, 0, 0], []) rfl rfl rfl ?_
  refine ⟨rfl, ?_⟩
  refine bEqI (bn_bi σ 7 12) ?_
  refine bGo hA 0 2 (4, .istore_n 2, 1, 3, 0, [2], []) rfl rfl rfl ?_
  refine bGo hA 0 3 (5, .aload_n 0, 1, 4, 0, [0], []) rfl rfl rfl ?_
  refine bGo hA 0 4 (6, .getfield 42, 3, 5, 0, [7, 10, 3, 44, 1, 0], []) rfl rfl rfl ?_
  refine ⟨rfl, ?_⟩
  refine bGo hA 0 5 (9, .iload_n 2, 1, 6, 0, [2], []) rfl rfl rfl ?_
  refine bGo hA 0 6 (10, .iload_n 1, 1, 7, 0, [1], []) rfl rfl rfl ?_
  refine bGo hA 0 7 (11, .invokestatic 63, 3, 8, 1, [2, 141, 3], []) rfl rfl rfl ?_
  refine hC _ _ _ _ _ (bRv_e (fun s1 k2 => ?_)) h
  show A (8, [.ref 7, .int (bn x1), .int (bn (bi σ 7 12))], [], s1)
  refine bGo hA 0 8 (14, .aload_n 0, 1, 9, 0, [0], []) rfl rfl rfl ?_
  refine bGo hA 0 9 (15, .getfield 39, 3, 10, 0, [7, 9, 3, 43, 1, 0], []) rfl rfl rfl ?_
  refine ⟨rfl, ?_⟩
  refine bGo hA 0 10 (18, .iload_n 2, 1, 11, 0, [2], []) rfl rfl rfl ?_
  refine bGo hA 0 11 (19, .iconst (0), 1, 12, 0, [], [(0, 0)]) rfl rfl rfl ?_
  refine bEqI bl_0 ?_
  refine bGo hA 0 12 (20, .invokestatic 63, 3, 13, 1, [2, 141, 3], []) rfl rfl rfl ?_
  refine hC _ _ _ _ _ (bRv_e (fun s3 k4 => ?_)) k2
  show A (13, [.ref 7, .int (bn x1), .int (bn (bi σ 7 12))], [], s3)
  refine bGo hA 0 13 (23, .aload_n 0, 1, 14, 0, [0], []) rfl rfl rfl ?_
  refine bGo hA 0 14 (24, .dup, 1, 15, 0, [], []) rfl rfl rfl ?_
  refine bGo hA 0 15 (25, .getfield 93, 3, 16, 0, [7, 12, 0, 0, 0, 0], []) rfl rfl rfl ?_
  refine ⟨rfl, ?_⟩
  refine bEqI (bn_bi s3 7 12) ?_
  refine bGo hA 1 0 (28, .iconst (1), 1, 17, 0, [], [(1, 0)]) rfl rfl rfl ?_
  refine bEqI bl_1 ?_
  refine bGo hA 1 1 (29, .iadd, 1, 18, 0, [], []) rfl rfl rfl ?_
  refine bEqI (bn_add (bi s3 7 12) 1) ?_
  refine bGo hA 1 2 (30, .putfield 93, 3, 19, 0, [7, 12, 0, 0, 0, 0], []) rfl rfl rfl ?_
  refine ⟨rfl, ?_⟩
  refine bGo hA 1 3 (33, .iload_n 2, 1, 20, 0, [2], []) rfl rfl rfl ?_
  refine bGo hA 1 4 (34, .ireturn, 1, 0, 0, [1], []) rfl rfl rfl ?_
  exact k4.2

theorem sq108_0 {lvl : Nat} {C : bCall} {Q : bPost} {A : bPt → Prop} (hC : bMono C) (hA : bClosed lvl bm108 C Q A) {x1 : Int} {x2 : Int} {σ : bSt}  (h_x1 : bRg x1) (h_x2 : bRg x2)
  (h : (C 140 [.ref 43, .int (bn x1)] σ (bRn (fun r3 s1 => (bRg (x1 * 8) ∧ (bRg ((x1 * 8) + r3) ∧ (C 141 [.ref 45, .int (bn ((x1 * 8) + r3)), .int (bn x2)] s1 (bRv (fun s5 => (bRg (r3 + 1) ∧ (C 141 [.ref 43, .int (bn x1), .int (bn (r3 + 1))] s5 (bRv (fun s7 => Q (.inl none) s7))))))))))))) : A (0, [.ref 7, .int (bn x1), .int (bn x2), .float 0], [], σ) := by
  refine bGo hA 0 0 (0, .aload_n 0, 1, 1, 0, [0], []) rfl rfl rfl ?_
  refine bGo hA 0 1 (1, .getfield 39, 3, 2, 0, [7, 9, 3, 43, 1, 0], []) rfl rfl rfl ?_
  refine ⟨rfl, ?_⟩
  refine bGo hA 0 2 (4, .iload_n 1, 1, 3, 0, [1], []) rfl rfl rfl ?_
  refine bGo hA 0 3 (5, .invokestatic 55, 3, 4, 1, [2, 140, 2], []) rfl rfl rfl ?_
  refine hC _ _ _ _ _ (bRn_e (fun r3 s1 q4 k2 => ?_)) h
  show A (4, [.ref 7, .int (bn x1), .int (bn x2), .float 0], [.int (bn r3)], s1)
  refine bGo hA 0 4 (8, .istore_n 3, 1, 5, 0, [3], []) rfl rfl rfl ?_
  refine bGo hA 0 5 (9, .aload_n 0, 1, 6, 0, [0], []) rfl rfl rfl ?_
  refine bGo hA 0 6 (10, .getfield 45, 3, 7, 0, [7, 11, 3, 45, 1, 0], []) rfl rfl rfl ?_
  refine ⟨rfl, ?_⟩
  refine bGo hA 0 7 (13, .iload_n 1, 1, 8, 0, [1], []) rfl rfl rfl ?_
  refine bGo hA 0 8 (14, .bipush (8), 2, 9, 0, [], [(8, 0)]) rfl rfl rfl ?_
  refine bEqI bl_8 ?_
  refine bGo hA 0 9 (16, .imul, 1, 10, 0, [], []) rfl rfl rfl ?_
  refine bEqI (bn_mul x1 8) ?_
  refine bGo hA 0 10 (17, .iload_n 3, 1, 11, 0, [3], []) rfl rfl rfl ?_
  refine bGo hA 0 11 (18, .iadd, 1, 12, 0, [], []) rfl rfl rfl ?_
  refine bEqI (bn_add (x1 * 8) r3) ?_
  refine bGo hA 0 12 (19, .iload_n 2, 1, 13, 0, [2], []) rfl rfl rfl ?_
  refine bGo hA 0 13 (20, .invokestatic 63, 3, 14, 1, [2, 141, 3], []) rfl rfl rfl ?_
  refine hC _ _ _ _ _ (bRv_e (fun s5 k6 => ?_)) k2.2.2
  show A (14, [.ref 7, .int (bn x1), .int (bn x2), .int (bn r3)], [], s5)
  refine bGo hA 0 14 (23, .aload_n 0, 1, 15, 0, [0], []) rfl rfl rfl ?_
  refine bGo hA 0 15 (24, .getfield 39, 3, 16, 0, [7, 9, 3, 43, 1, 0], []) rfl rfl rfl ?_
  refine ⟨rfl, ?_⟩
  refine bGo hA 1 0 (27, .iload_n 1, 1, 17, 0, [1], []) rfl rfl rfl ?_
  refine bGo hA 1 1 (28, .iload_n 3, 1, 18, 0, [3], []) rfl rfl rfl ?_
  refine bGo hA 1 2 (29, .iconst (1), 1, 19, 0, [], [(1, 0)]) rfl rfl rfl ?_
  refine bEqI bl_1 ?_
  refine bGo hA 1 3 (30, .iadd, 1, 20, 0, [], []) rfl rfl rfl ?_
  refine bEqI (bn_add r3 1) ?_
  refine bGo hA 1 4 (31, .invokestatic 63, 3, 21, 1, [2, 141, 3], []) rfl rfl rfl ?_
  refine hC _ _ _ _ _ (bRv_e (fun s7 k8 => ?_)) k6.2
  show A (21, [.ref 7, .int (bn x1), .int (bn x2), .int (bn r3)], [], s7)
  refine bGo hA 1 5 (34, .return_, 1, 0, 0, [0], []) rfl rfl rfl ?_
  exact k8

theorem sq150_0 {lvl : Nat} {C : bCall} {Q : bPost} {A : bPt → Prop} (hC : bMono C) (hA : bClosed lvl bm150 C Q A) {x1 : Int} {x2 : Int} {σ : bSt}  (h_x1 : bRg x1) (h_x2 : bRg x2)
  (h : (C 136 [.int (bn x1), .int (bn 6)] σ (bRvx (fun s1 => (C 136 [.int (bn x2), .int (bn 8)] s1 (bRvx (fun s3 => (C 95 [.ref 7, .int (bn x1), .int (bn x2)] s3 (bRn (fun r7 s5 => Q (.inl (some (.int (bn r7)))) s5)))) (fun E s3 => Q (.inr E) s3)))) (fun E s1 => Q (.inr E) s1)))) : A (0, [.ref 11, .int (bn x1), .int (bn x2)], [], σ) := by
  refine bGo hA 0 0 (0, .iload_n 1, 1, 1, 0, [1], []) rfl rfl rfl ?_
  refine bGo hA 0 1 (1, .bipush (6), 2, 2, 0, [], [(6, 0)]) rfl rfl rfl ?_
  refine bEqI bl_6 ?_
  refine bGo hA 0 2 (3, .invokestatic 76, 3, 3, 0, [2, 136, 2], []) rfl rfl rfl ?_
  refine hC _ _ _ _ _ (bRvx_e (fun s1 k2 => ?_) (fun E s1 k2 => ?_)) h
  · show A (3, [.ref 11, .int (bn x1), .int (bn x2)], [], s1)
    refine bGo hA 0 3 (6, .iload_n 2, 1, 4, 0, [2], []) rfl rfl rfl ?_
    refine bGo hA 0 4 (7, .bipush (8), 2, 5, 0, [], [(8, 0)]) rfl rfl rfl ?_
    refine bEqI bl_8 ?_
    refine bGo hA 0 5 (9, .invokestatic 76, 3, 6, 0, [2, 136, 2], []) rfl rfl rfl ?_
    refine hC _ _ _ _ _ (bRvx_e (fun s3 k4 => ?_) (fun E s3 k4 => ?_)) k2
    · show A (6, [.ref 11, .int (bn x1), .int (bn x2)], [], s3)
      refine bGo hA 0 6 (12, .aload_n 0, 1, 7, 0, [0], []) rfl rfl rfl ?_
      refine bGo hA 0 7 (13, .getfield 19, 3, 8, 0, [11, 1, 3, 7, 0, 0], []) rfl rfl rfl ?_
      refine ⟨rfl, ?_⟩
      refine bGo hA 0 8 (16, .iload_n 1, 1, 9, 0, [1], []) rfl rfl rfl ?_
      refine bGo hA 0 9 (17, .iload_n 2, 1, 10, 0, [2], []) rfl rfl rfl ?_
      refine bGo hA 0 10 (18, .invokevirtual 118, 3, 11, 0, [0, 7, 95, 2], []) rfl rfl rfl ?_
      refine ⟨rfl, ?_⟩
      refine hC _ _ _ _ _ (bRn_e (fun r7 s5 q8 k6 => ?_)) k4
      show A (11, [.ref 11, .int (bn x1), .int (bn x2)], [.int (bn r7)], s5)
      refine bGo hA 0 11 (21, .ireturn, 1, 0, 0, [1], []) rfl rfl rfl ?_
      exact k6
    · exact k4
  · exact k2

theorem sq151_0 {lvl : Nat} {C : bCall} {Q : bPost} {A : bPt → Prop} (hC : bMono C) (hA : bClosed lvl bm151 C Q A) {x1 : Int} {x2 : Int} {x3 : Int} {σ : bSt}  (h_x1 : bRg x1) (h_x2 : bRg x2) (h_x3 : bRg x3)
  (h : (C 136 [.int (bn x1), .int (bn 6)] σ (bRvx (fun s1 => (C 136 [.int (bn x2), .int (bn 8)] s1 (bRvx (fun s3 => (C 137 [.int (bn x3)] s3 (bRvx (fun s5 => (C 97 [.ref 7, .int (bn x1), .int (bn x2), .int (bn x3)] s5 (bRn (fun r9 s7 => Q (.inl (some (.int (bn r9)))) s7)))) (fun E s5 => Q (.inr E) s5)))) (fun E s3 => Q (.inr E) s3)))) (fun E s1 => Q (.inr E) s1)))) : A (0, [.ref 11, .int (bn x1), .int (bn x2), .int (bn x3)], [], σ) := by
  refine bGo hA 0 0 (0, .iload_n 1, 1, 1, 0, [1], []) rfl rfl rfl ?_
  refine bGo hA 0 1 (1, .bipush (6), 2, 2, 0, [], [(6, 0)]) rfl rfl rfl ?_
  refine bEqI bl_6 ?_
  refine bGo hA 0 2 (3, .invokestatic 76, 3, 3, 0, [2, 136, 2], []) rfl rfl rfl ?_
  refine hC _ _ _ _ _ (bRvx_e (fun s1 k2 => ?_) (fun E s1 k2 => ?_)) h
  · show A (3, [.ref 11, .int (bn x1), .int (bn x2), .int (bn x3)], [], s1)
    refine bGo hA 0 3 (6, .iload_n 2, 1, 4, 0, [2], []) rfl rfl rfl ?_
    refine bGo hA 0 4 (7, .bipush (8), 2, 5, 0, [], [(8, 0)]) rfl rfl rfl ?_
    refine bEqI bl_8 ?_
    refine bGo hA 0 5 (9, .invokestatic 76, 3, 6, 0, [2, 136, 2], []) rfl rfl rfl ?_
    refine hC _ _ _ _ _ (bRvx_e (fun s3 k4 => ?_) (fun E s3 k4 => ?_)) k2
    · show A (6, [.ref 11, .int (bn x1), .int (bn x2), .int (bn x3)], [], s3)
      refine bGo hA 0 6 (12, .iload_n 3, 1, 7, 0, [3], []) rfl rfl rfl ?_
      refine bGo hA 0 7 (13, .invokestatic 121, 3, 8, 0, [2, 137, 1], []) rfl rfl rfl ?_
      refine hC _ _ _ _ _ (bRvx_e (fun s5 k6 => ?_) (fun E s5 k6 => ?_)) k4
      · show A (8, [.ref 11, .int (bn x1), .int (bn x2), .int (bn x3)], [], s5)
        refine bGo hA 0 8 (16, .aload_n 0, 1, 9, 0, [0], []) rfl rfl rfl ?_
        refine bGo hA 0 9 (17, .getfield 19, 3, 10, 0, [11, 1, 3, 7, 0, 0], []) rfl rfl rfl ?_
        refine ⟨rfl, ?_⟩
        refine bGo hA 0 10 (20, .iload_n 1, 1, 11, 0, [1], []) rfl rfl rfl ?_
        refine bGo hA 0 11 (21, .iload_n 2, 1, 12, 0, [2], []) rfl rfl rfl ?_
        refine bGo hA 0 12 (22, .iload_n 3, 1, 13, 0, [3], []) rfl rfl rfl ?_
        refine bGo hA 0 13 (23, .invokevirtual 125, 3, 14, 0, [0, 7, 97, 3], []) rfl rfl rfl ?_
        refine ⟨rfl, ?_⟩
        refine hC _ _ _ _ _ (bRn_e (fun r9 s7 q10 k8 => ?_)) k6
        show A (14, [.ref 11, .int (bn x1), .int (bn x2), .int (bn x3)], [.int (bn r9)], s7)
        refine bGo hA 0 14 (26, .ireturn, 1, 0, 0, [1], []) rfl rfl rfl ?_
        exact k8
      · exact k6
    · exact k4
  · exact k2

theorem sq152_0 {lvl : Nat} {C : bCall} {Q : bPost} {A : bPt → Prop} (hC : bMono C) (hA : bClosed lvl bm152 C Q A) {x1 : Int} {x2 : Int} {σ : bSt}  (h_x1 : bRg x1) (h_x2 : bRg x2)
  (h : (C 136 [.int (bn x1), .int (bn 6)] σ (bRvx (fun s1 => (C 137 [.int (bn x2)] s1 (bRvx (fun s3 => (C 98 [.ref 7, .int (bn x1), .int (bn x2)] s3 (bRn (fun r7 s5 => Q (.inl (some (.int (bn r7)))) s5)))) (fun E s3 => Q (.inr E) s3)))) (fun E s1 => Q (.inr E) s1)))) : A (0, [.ref 11, .int (bn x1), .int (bn x2)], [], σ) := by
  refine bGo hA 0 0 (0, .iload_n 1, 1, 1, 0, [1], []) rfl rfl rfl ?_
  refine bGo hA 0 1 (1, .bipush (6), 2, 2, 0, [], [(6, 0)]) rfl rfl rfl ?_
  refine bEqI bl_6 ?_
  refine bGo hA 0 2 (3, .invokestatic 76, 3, 3, 0, [2, 136, 2], []) rfl rfl rfl ?_
  refine hC _ _ _ _ _ (bRvx_e (fun s1 k2 => ?_) (fun E s1 k2 => ?_)) h
  · show A (3, [.ref 11, .int (bn x1), .int (bn x2)], [], s1)
    refine bGo hA 0 3 (6, .iload_n 2, 1, 4, 0, [2], []) rfl rfl rfl ?_
    refine bGo hA 0 4 (7, .invokestatic 121, 3, 5, 0, [2, 137, 1], []) rfl rfl rfl ?_
    refine hC _ _ _ _ _ (bRvx_e (fun s3 k4 => ?_) (fun E s3 k4 => ?_)) k2
    · show A (5, [.ref 11, .int (bn x1), .int (bn x2)], [], s3)
      refine bGo hA 0 5 (10, .aload_n 0, 1, 6, 0, [0], []) rfl rfl rfl ?_
      refine bGo hA 0 6 (11, .getfield 19, 3, 7, 0, [11, 1, 3, 7, 0, 0], []) rfl rfl rfl ?_
      refine ⟨rfl, ?_⟩
      refine bGo hA 0 7 (14, .iload_n 1, 1, 8, 0, [1], []) rfl rfl rfl ?_
      refine bGo hA 0 8 (15, .iload_n 2, 1, 9, 0, [2], []) rfl rfl rfl ?_
      refine bGo hA 0 9 (16, .invokevirtual 129, 3, 10, 0, [0, 7, 98, 2], []) rfl rfl rfl ?_
      refine ⟨rfl, ?_⟩
      refine hC _ _ _ _ _ (bRn_e (fun r7 s5 q8 k6 => ?_)) k4
      show A (10, [.ref 11, .int (bn x1), .int (bn x2)], [.int (bn r7)], s5)
      refine bGo hA 0 10 (19, .ireturn, 1, 0, 0, [1], []) rfl rfl rfl ?_
      exact k6
    · exact k4
  · exact k2


/-! segments of methods 174,7,8,9,11,12,13,261,262, by program (wip/whole/seg3.py) -/
theorem sq174_0 {lvl : Nat} {C : bCall} {Q : bPost} {A : bPt → Prop} (hC : bMono C) (hA : bClosed lvl bm174 C Q A) {x1 : Int} {x2 : Int} {x3 : Int} {σ : bSt}  (h_x1 : bRg x1) (h_x2 : bRg x2) (h_x3 : bRg x3)
  (h : (bRg ((bShl 1 (bi σ 9 0)) - 1) ∧ (C 136 [.int (bn (bW32 (x1 - 1))), .int (bn ((bShl 1 (bi σ 9 0)) - 1))] σ (bRvx (fun s1 => (C 138 [.int (bn x3), .int (bn 0), .int (bn 999)] s1 (bRvx (fun s3 => (C 68 [.ref 6] s3 (bRv (fun s5 => (C 46 [.ref 5, .int (bn x1), .int (bn x2), .int (bn x3)] s5 (bRn (fun r9 s7 => ((r9 = (-2) → (C 139 [.int (bn 0)] s7 (bRvx (fun s12 => Q (.inl (some (.int (bn r9)))) s12) (fun E s12 => Q (.inr E) s12)))) ∧ (¬ r9 = (-2) → (C 139 [.int (bn 1)] s7 (bRvx (fun s14 => Q (.inl (some (.int (bn r9)))) s14) (fun E s14 => Q (.inr E) s14)))))))))))) (fun E s3 => Q (.inr E) s3)))) (fun E s1 => Q (.inr E) s1))))) : A (0, [.ref 11, .int (bn x1), .int (bn x2), .int (bn x3), .float 0], [], σ) := by
  refine bGo hA 0 0 (0, .iload_n 1, 1, 1, 0, [1], []) rfl rfl rfl ?_
  refine bGo hA 0 1 (1, .iconst (1), 1, 2, 0, [], [(1, 0)]) rfl rfl rfl ?_
  refine bEqI bl_1 ?_
  refine bGo hA 0 2 (2, .isub, 1, 3, 0, [], []) rfl rfl rfl ?_
  refine bEqI (bn_sub x1 1) ?_
  refine bEqI (bn_w32 (x1 - 1)) ?_
  refine bGo hA 0 3 (3, .iconst (1), 1, 4, 0, [], [(1, 0)]) rfl rfl rfl ?_
  refine bEqI bl_1 ?_
  refine bGo hA 0 4 (4, .aload_n 0, 1, 5, 0, [0], []) rfl rfl rfl ?_
  refine bGo hA 0 5 (5, .getfield 33, 3, 6, 0, [11, 3, 3, 9, 0, 0], []) rfl rfl rfl ?_
  refine ⟨rfl, ?_⟩
  refine bGo hA 0 6 (8, .getfield 144, 3, 7, 0, [9, 0, 0, 0, 0, 0], []) rfl rfl rfl ?_
  refine ⟨rfl, ?_⟩
  refine bEqI (bn_bi σ 9 0) ?_
  refine bGo hA 0 7 (11, .ishl, 1, 8, 0, [], []) rfl rfl rfl ?_
  refine bEqI (bn_shl 1 (bi σ 9 0)) ?_
  refine bGo hA 0 8 (12, .iconst (1), 1, 9, 0, [], [(1, 0)]) rfl rfl rfl ?_
  refine bEqI bl_1 ?_
  refine bGo hA 0 9 (13, .isub, 1, 10, 0, [], []) rfl rfl rfl ?_
  refine bEqI (bn_sub (bShl 1 (bi σ 9 0)) 1) ?_
  refine bGo hA 0 10 (14, .invokestatic 76, 3, 11, 0, [2, 136, 2], []) rfl rfl rfl ?_
  refine hC _ _ _ _ _ (bRvx_e (fun s1 k2 => ?_) (fun E s1 k2 => ?_)) h.2
  · show A (11, [.ref 11, .int (bn x1), .int (bn x2), .int (bn x3), .float 0], [], s1)
    refine bGo hA 0 11 (17, .iload_n 3, 1, 12, 0, [3], []) rfl rfl rfl ?_
    refine bGo hA 0 12 (18, .iconst (0), 1, 13, 0, [], [(0, 0)]) rfl rfl rfl ?_
    refine bEqI bl_0 ?_
    refine bGo hA 0 13 (19, .sipush (999), 3, 14, 0, [], [(999, 0)]) rfl rfl rfl ?_
    refine bEqI bl_999 ?_
    refine bGo hA 0 14 (22, .invokestatic 80, 3, 15, 0, [2, 138, 3], []) rfl rfl rfl ?_
    refine hC _ _ _ _ _ (bRvx_e (fun s3 k4 => ?_) (fun E s3 k4 => ?_)) k2
    · show A (15, [.ref 11, .int (bn x1), .int (bn x2), .int (bn x3), .float 0], [], s3)
      refine bGo hA 0 15 (25, .aload_n 0, 1, 16, 0, [0], []) rfl rfl rfl ?_
      refine bGo hA 1 0 (26, .getfield 42, 3, 17, 0, [11, 4, 3, 6, 0, 0], []) rfl rfl rfl ?_
      refine ⟨rfl, ?_⟩
      refine bGo hA 1 1 (29, .invokevirtual 188, 3, 18, 0, [0, 6, 68, 0], []) rfl rfl rfl ?_
      refine ⟨rfl, ?_⟩
      refine hC _ _ _ _ _ (bRv_e (fun s5 k6 => ?_)) k4
      show A (18, [.ref 11, .int (bn x1), .int (bn x2), .int (bn x3), .float 0], [], s5)
      refine bGo hA 1 2 (32, .aload_n 0, 1, 19, 0, [0], []) rfl rfl rfl ?_
      refine bGo hA 1 3 (33, .getfield 51, 3, 20, 0, [11, 5, 3, 5, 0, 0], []) rfl rfl rfl ?_
      refine ⟨rfl, ?_⟩
      refine bGo hA 1 4 (36, .iload_n 1, 1, 21, 0, [1], []) rfl rfl rfl ?_
      refine bGo hA 1 5 (37, .iload_n 2, 1, 22, 0, [2], []) rfl rfl rfl ?_
      refine bGo hA 1 6 (38, .iload_n 3, 1, 23, 0, [3], []) rfl rfl rfl ?_
      refine bGo hA 1 7 (39, .invokevirtual 229, 3, 24, 0, [0, 5, 46, 3], []) rfl rfl rfl ?_
      refine ⟨rfl, ?_⟩
      refine hC _ _ _ _ _ (bRn_e (fun r9 s7 q10 k8 => ?_)) k6
      show A (24, [.ref 11, .int (bn x1), .int (bn x2), .int (bn x3), .float 0], [.int (bn r9)], s7)
      refine bGo hA 1 8 (42, .istore 4, 2, 25, 0, [4], []) rfl rfl rfl ?_
      refine bGo hA 1 9 (44, .iload 4, 2, 26, 0, [4], []) rfl rfl rfl ?_
      refine bGo hA 1 10 (46, .bipush (-2), 2, 27, 0, [], [(-2, 0)]) rfl rfl rfl ?_
      refine bEqI bl_m2 ?_
      refine bGo hA 1 11 (48, .if_icmp .eq (7), 3, 28, 30, [], []) rfl rfl rfl ?_
      refine bB_eq (x := r9) (y := (-2)) q10 (by decide : bRg (-2)) (fun c11 => ?_) (fun c11 => ?_)
      · refine bGo hA 1 14 (55, .iconst (0), 1, 31, 0, [], [(0, 0)]) rfl rfl rfl ?_
        refine bEqI bl_0 ?_
        refine bGo hA 1 15 (56, .invokestatic 88, 3, 32, 0, [2, 139, 1], []) rfl rfl rfl ?_
        refine hC _ _ _ _ _ (bRvx_e (fun s12 k13 => ?_) (fun E s12 k13 => ?_)) (k8.1 c11)
        · show A (32, [.ref 11, .int (bn x1), .int (bn x2), .int (bn x3), .int (bn r9)], [], s12)
          refine bGo hA 2 0 (59, .iload 4, 2, 33, 0, [4], []) rfl rfl rfl ?_
          refine bGo hA 2 1 (61, .ireturn, 1, 0, 0, [1], []) rfl rfl rfl ?_
          exact k13
        · exact k13
      · refine bGo hA 1 12 (51, .iconst (1), 1, 29, 0, [], [(1, 0)]) rfl rfl rfl ?_
        refine bEqI bl_1 ?_
        refine bGo hA 1 13 (52, .goto (4), 3, 30, 31, [], []) rfl rfl rfl ?_
        refine bGo hA 1 15 (56, .invokestatic 88, 3, 32, 0, [2, 139, 1], []) rfl rfl rfl ?_
        refine hC _ _ _ _ _ (bRvx_e (fun s14 k15 => ?_) (fun E s14 k15 => ?_)) (k8.2 c11)
        · show A (32, [.ref 11, .int (bn x1), .int (bn x2), .int (bn x3), .int (bn r9)], [], s14)
          refine bGo hA 2 0 (59, .iload 4, 2, 33, 0, [4], []) rfl rfl rfl ?_
          refine bGo hA 2 1 (61, .ireturn, 1, 0, 0, [1], []) rfl rfl rfl ?_
          exact k15
        · exact k15
    · exact k4
  · exact k2

theorem sq7_0 {lvl : Nat} {C : bCall} {Q : bPost} {A : bPt → Prop} (hC : bMono C) (hA : bClosed lvl bm7 C Q A) {a0 : Nat} {a1 : Nat} {σ : bSt} (h_a0 : a0 % 256 = 0) (h_a1 : a1 % 256 = 8) 
  (h : (((bi (bw (bw σ a0 6 (bi σ a1 8)) a0 7 (bi (bw σ a0 6 (bi σ a1 8)) a1 9)) a1 10) = 0 ∨ (bi (bw (bw σ a0 6 (bi σ a1 8)) a0 7 (bi (bw σ a0 6 (bi σ a1 8)) a1 9)) a1 10) = 1) ∧ Q (.inl none) (bw (bw (bw σ a0 6 (bi σ a1 8)) a0 7 (bi (bw σ a0 6 (bi σ a1 8)) a1 9)) a0 8 (bi (bw (bw σ a0 6 (bi σ a1 8)) a0 7 (bi (bw σ a0 6 (bi σ a1 8)) a1 9)) a1 10)))) : A (0, [.ref a0, .ref a1], [], σ) := by
  refine bGo hA 0 0 (0, .aload_n 0, 1, 1, 0, [0], []) rfl rfl rfl ?_
  refine bGo hA 0 1 (1, .aload_n 1, 1, 2, 0, [1], []) rfl rfl rfl ?_
  refine bGo hA 0 2 (2, .getfield 86, 3, 3, 0, [8, 8, 0, 0, 0, 0], []) rfl rfl rfl ?_
  refine ⟨h_a1, ?_⟩
  refine bEqI (bn_bi σ a1 8) ?_
  refine bGo hA 0 3 (5, .putfield 89, 3, 4, 0, [0, 6, 0, 0, 0, 0], []) rfl rfl rfl ?_
  refine ⟨h_a0, ?_⟩
  refine bGo hA 0 4 (8, .aload_n 0, 1, 5, 0, [0], []) rfl rfl rfl ?_
  refine bGo hA 0 5 (9, .aload_n 1, 1, 6, 0, [1], []) rfl rfl rfl ?_
  refine bGo hA 0 6 (10, .getfield 90, 3, 7, 0, [8, 9, 0, 0, 0, 0], []) rfl rfl rfl ?_
  refine ⟨h_a1, ?_⟩
  refine bEqI (bn_bi (bw σ a0 6 (bi σ a1 8)) a1 9) ?_
  refine bGo hA 0 7 (13, .putfield 93, 3, 8, 0, [0, 7, 0, 0, 0, 0], []) rfl rfl rfl ?_
  refine ⟨h_a0, ?_⟩
  refine bGo hA 0 8 (16, .aload_n 0, 1, 9, 0, [0], []) rfl rfl rfl ?_
  refine bGo hA 0 9 (17, .aload_n 1, 1, 10, 0, [1], []) rfl rfl rfl ?_
  refine bGo hA 0 10 (18, .getfield 94, 3, 11, 0, [8, 10, 1, 0, 0, 0], []) rfl rfl rfl ?_
  refine ⟨h_a1, ?_⟩
  refine bEqI (bn_bi (bw (bw σ a0 6 (bi σ a1 8)) a0 7 (bi (bw σ a0 6 (bi σ a1 8)) a1 9)) a1 10) ?_
  refine bGo hA 0 11 (21, .putfield 98, 3, 12, 0, [0, 8, 1, 0, 0, 0], []) rfl rfl rfl ?_
  refine ⟨h_a0, b01 h.1, ?_⟩
  refine bGo hA 0 12 (24, .return_, 1, 0, 0, [0], []) rfl rfl rfl ?_
  exact h.2

theorem sq8_0 {lvl : Nat} {C : bCall} {Q : bPost} {A : bPt → Prop} (hC : bMono C) (hA : bClosed lvl bm8 C Q A) {a0 : Nat} {σ : bSt} (h_a0 : a0 % 256 = 0) 
  (h : (C 9 [.ref a0] (bw (bw (bw (bw (bw (bw (bw σ a0 5 0) a0 9 0) a0 10 (-1)) a0 11 (-1)) a0 12 (-1)) a0 13 (-1)) a0 14 (-1)) (bRv (fun s1 => Q (.inl none) s1)))) : A (0, [.ref a0], [], σ) := by
  refine bGo hA 0 0 (0, .aload_n 0, 1, 1, 0, [0], []) rfl rfl rfl ?_
  refine bGo hA 0 1 (1, .iconst (0), 1, 2, 0, [], [(0, 0)]) rfl rfl rfl ?_
  refine bEqI bl_0 ?_
  refine bGo hA 0 2 (2, .putfield 99, 3, 3, 0, [0, 5, 1, 0, 0, 0], []) rfl rfl rfl ?_
  refine ⟨h_a0, b01 (Or.inl rfl), ?_⟩
  refine bGo hA 0 3 (5, .aload_n 0, 1, 4, 0, [0], []) rfl rfl rfl ?_
  refine bGo hA 0 4 (6, .iconst (0), 1, 5, 0, [], [(0, 0)]) rfl rfl rfl ?_
  refine bEqI bl_0 ?_
  refine bGo hA 0 5 (7, .putfield 102, 3, 6, 0, [0, 9, 0, 0, 0, 0], []) rfl rfl rfl ?_
  refine ⟨h_a0, ?_⟩
  refine bGo hA 0 6 (10, .aload_n 0, 1, 7, 0, [0], []) rfl rfl rfl ?_
  refine bGo hA 0 7 (11, .iconst (-1), 1, 8, 0, [], [(-1, 0)]) rfl rfl rfl ?_
  refine bEqI bl_m1 ?_
  refine bGo hA 0 8 (12, .putfield 25, 3, 9, 0, [0, 10, 0, 0, 0, 0], []) rfl rfl rfl ?_
  refine ⟨h_a0, ?_⟩
  refine bGo hA 0 9 (15, .aload_n 0, 1, 10, 0, [0], []) rfl rfl rfl ?_
  refine bGo hA 0 10 (16, .iconst (-1), 1, 11, 0, [], [(-1, 0)]) rfl rfl rfl ?_
  refine bEqI bl_m1 ?_
  refine bGo hA 0 11 (17, .putfield 29, 3, 12, 0, [0, 11, 0, 0, 0, 0], []) rfl rfl rfl ?_
  refine ⟨h_a0, ?_⟩
  refine bGo hA 0 12 (20, .aload_n 0, 1, 13, 0, [0], []) rfl rfl rfl ?_
  refine bGo hA 0 13 (21, .iconst (-1), 1, 14, 0, [], [(-1, 0)]) rfl rfl rfl ?_
  refine bEqI bl_m1 ?_
  refine bGo hA 0 14 (22, .putfield 32, 3, 15, 0, [0, 12, 0, 0, 0, 0], []) rfl rfl rfl ?_
  refine ⟨h_a0, ?_⟩
  refine bGo hA 0 15 (25, .aload_n 0, 1, 16, 0, [0], []) rfl rfl rfl ?_
  refine bGo hA 1 0 (26, .iconst (-1), 1, 17, 0, [], [(-1, 0)]) rfl rfl rfl ?_
  refine bEqI bl_m1 ?_
  refine bGo hA 1 1 (27, .putfield 35, 3, 18, 0, [0, 13, 0, 0, 0, 0], []) rfl rfl rfl ?_
  refine ⟨h_a0, ?_⟩
  refine bGo hA 1 2 (30, .aload_n 0, 1, 19, 0, [0], []) rfl rfl rfl ?_
  refine bGo hA 1 3 (31, .iconst (-1), 1, 20, 0, [], [(-1, 0)]) rfl rfl rfl ?_
  refine bEqI bl_m1 ?_
  refine bGo hA 1 4 (32, .putfield 38, 3, 21, 0, [0, 14, 0, 0, 0, 0], []) rfl rfl rfl ?_
  refine ⟨h_a0, ?_⟩
  refine bGo hA 1 5 (35, .aload_n 0, 1, 22, 0, [0], []) rfl rfl rfl ?_
  refine bGo hA 1 6 (36, .invokevirtual 105, 3, 23, 0, [0, 0, 9, 0], []) rfl rfl rfl ?_
  refine ⟨h_a0, ?_⟩
  refine hC _ _ _ _ _ (bRv_e (fun s1 k2 => ?_)) h
  show A (23, [.ref a0], [], s1)
  refine bGo hA 1 7 (39, .return_, 1, 0, 0, [0], []) rfl rfl rfl ?_
  exact k2

theorem sq9_0 {lvl : Nat} {C : bCall} {Q : bPost} {A : bPt → Prop} (hC : bMono C) (hA : bClosed lvl bm9 C Q A) {a0 : Nat} {σ : bSt} (h_a0 : a0 % 256 = 0) 
  (h : Q (.inl none) (bw (bw (bw σ a0 15 2147483647) a0 16 2147483647) a0 17 2147483647)) : A (0, [.ref a0], [], σ) := by
  refine bGo hA 0 0 (0, .aload_n 0, 1, 1, 0, [0], []) rfl rfl rfl ?_
  refine bGo hA 0 1 (1, .ldc 41, 2, 2, 0, [41], [(2147483647, 0)]) rfl rfl rfl ?_
  refine bEqI bl_2147483647 ?_
  refine bGo hA 0 2 (3, .putfield 42, 3, 3, 0, [0, 15, 0, 0, 0, 0], []) rfl rfl rfl ?_
  refine ⟨h_a0, ?_⟩
  refine bGo hA 0 3 (6, .aload_n 0, 1, 4, 0, [0], []) rfl rfl rfl ?_
  refine bGo hA 0 4 (7, .ldc 41, 2, 5, 0, [41], [(2147483647, 0)]) rfl rfl rfl ?_
  refine bEqI bl_2147483647 ?_
  refine bGo hA 0 5 (9, .putfield 45, 3, 6, 0, [0, 16, 0, 0, 0, 0], []) rfl rfl rfl ?_
  refine ⟨h_a0, ?_⟩
  refine bGo hA 0 6 (12, .aload_n 0, 1, 7, 0, [0], []) rfl rfl rfl ?_
  refine bGo hA 0 7 (13, .ldc 41, 2, 8, 0, [41], [(2147483647, 0)]) rfl rfl rfl ?_
  refine bEqI bl_2147483647 ?_
  refine bGo hA 0 8 (15, .putfield 48, 3, 9, 0, [0, 17, 0, 0, 0, 0], []) rfl rfl rfl ?_
  refine ⟨h_a0, ?_⟩
  refine bGo hA 0 9 (18, .return_, 1, 0, 0, [0], []) rfl rfl rfl ?_
  exact h

theorem sq11_0 {lvl : Nat} {C : bCall} {Q : bPost} {A : bPt → Prop} (hC : bMono C) (hA : bClosed lvl bm11 C Q A) {a0 : Nat} {σ : bSt} (h_a0 : a0 % 256 = 0) 
  (h : (((bi σ a0 11) = (-1) → Q (.inl (some (.int (bn 0)))) σ) ∧ (¬ (bi σ a0 11) = (-1) → (((bi σ a0 10) = (-1) → Q (.inl (some (.int (bn 1)))) σ) ∧ (¬ (bi σ a0 10) = (-1) → Q (.inl (some (.int (bn 0)))) σ))))) : A (0, [.ref a0], [], σ) := by
  refine bGo hA 0 0 (0, .aload_n 0, 1, 1, 0, [0], []) rfl rfl rfl ?_
  refine bGo hA 0 1 (1, .getfield 29, 3, 2, 0, [0, 11, 0, 0, 0, 0], []) rfl rfl rfl ?_
  refine ⟨h_a0, ?_⟩
  refine bEqI (bn_bi σ a0 11) ?_
  refine bGo hA 0 2 (4, .iconst (-1), 1, 3, 0, [], [(-1, 0)]) rfl rfl rfl ?_
  refine bEqI bl_m1 ?_
  refine bGo hA 0 3 (5, .if_icmp .eq (15), 3, 4, 10, [], []) rfl rfl rfl ?_
  refine bB_eq (x := (bi σ a0 11)) (y := (-1)) (bi_rg _ _ _) (by decide : bRg (-1)) (fun c1 => ?_) (fun c1 => ?_)
  · refine bGo hA 0 10 (20, .iconst (0), 1, 11, 0, [], [(0, 0)]) rfl rfl rfl ?_
    refine bEqI bl_0 ?_
    refine bGo hA 0 11 (21, .ireturn, 1, 0, 0, [2], []) rfl rfl rfl ?_
    exact ⟨b01 (Or.inl rfl), (h.1 c1)⟩
  · refine bGo hA 0 4 (8, .aload_n 0, 1, 5, 0, [0], []) rfl rfl rfl ?_
    refine bGo hA 0 5 (9, .getfield 25, 3, 6, 0, [0, 10, 0, 0, 0, 0], []) rfl rfl rfl ?_
    refine ⟨h_a0, ?_⟩
    refine bEqI (bn_bi σ a0 10) ?_
    refine bGo hA 0 6 (12, .iconst (-1), 1, 7, 0, [], [(-1, 0)]) rfl rfl rfl ?_
    refine bEqI bl_m1 ?_
    refine bGo hA 0 7 (13, .if_icmp .ne (7), 3, 8, 10, [], []) rfl rfl rfl ?_
    refine bB_eq (x := (bi σ a0 10)) (y := (-1)) (bi_rg _ _ _) (by decide : bRg (-1)) (fun c2 => ?_) (fun c2 => ?_)
    · refine bGo hA 0 8 (16, .iconst (1), 1, 9, 0, [], [(1, 0)]) rfl rfl rfl ?_
      refine bEqI bl_1 ?_
      refine bGo hA 0 9 (17, .goto (4), 3, 10, 11, [], []) rfl rfl rfl ?_
      refine bGo hA 0 11 (21, .ireturn, 1, 0, 0, [2], []) rfl rfl rfl ?_
      exact ⟨b01 (Or.inr rfl), ((h.2 c1).1 c2)⟩
    · refine bGo hA 0 10 (20, .iconst (0), 1, 11, 0, [], [(0, 0)]) rfl rfl rfl ?_
      refine bEqI bl_0 ?_
      refine bGo hA 0 11 (21, .ireturn, 1, 0, 0, [2], []) rfl rfl rfl ?_
      exact ⟨b01 (Or.inl rfl), ((h.2 c1).2 c2)⟩

theorem sq12_0 {lvl : Nat} {C : bCall} {Q : bPost} {A : bPt → Prop} (hC : bMono C) (hA : bClosed lvl bm12 C Q A) {a0 : Nat} {σ : bSt} (h_a0 : a0 % 256 = 0) 
  (h : (C 360 [.int (bn (bi σ a0 16)), .int (bn (bi σ a0 17))] σ (bRn (fun r3 s1 => (C 360 [.int (bn (bi σ a0 15)), .int (bn r3)] s1 (bRn (fun r7 s5 => Q (.inl (some (.int (bn r7)))) s5))))))) : A (0, [.ref a0], [], σ) := by
  refine bGo hA 0 0 (0, .aload_n 0, 1, 1, 0, [0], []) rfl rfl rfl ?_
  refine bGo hA 0 1 (1, .getfield 42, 3, 2, 0, [0, 15, 0, 0, 0, 0], []) rfl rfl rfl ?_
  refine ⟨h_a0, ?_⟩
  refine bEqI (bn_bi σ a0 15) ?_
  refine bGo hA 0 2 (4, .aload_n 0, 1, 3, 0, [0], []) rfl rfl rfl ?_
  refine bGo hA 0 3 (5, .getfield 45, 3, 4, 0, [0, 16, 0, 0, 0, 0], []) rfl rfl rfl ?_
  refine ⟨h_a0, ?_⟩
  refine bEqI (bn_bi σ a0 16) ?_
  refine bGo hA 0 4 (8, .aload_n 0, 1, 5, 0, [0], []) rfl rfl rfl ?_
  refine bGo hA 0 5 (9, .getfield 48, 3, 6, 0, [0, 17, 0, 0, 0, 0], []) rfl rfl rfl ?_
  refine ⟨h_a0, ?_⟩
  refine bEqI (bn_bi σ a0 17) ?_
  refine bGo hA 0 6 (12, .invokestatic 108, 3, 7, 0, [2, 360, 2], []) rfl rfl rfl ?_
  refine hC _ _ _ _ _ (bRn_e (fun r3 s1 q4 k2 => ?_)) h
  show A (7, [.ref a0], [.int (bn r3), .int (bn (bi σ a0 15))], s1)
  refine bGo hA 0 7 (15, .invokestatic 108, 3, 8, 0, [2, 360, 2], []) rfl rfl rfl ?_
  refine hC _ _ _ _ _ (bRn_e (fun r7 s5 q8 k6 => ?_)) k2
  show A (8, [.ref a0], [.int (bn r7)], s5)
  refine bGo hA 0 8 (18, .ireturn, 1, 0, 0, [1], []) rfl rfl rfl ?_
  exact k6

theorem sq13_0 {lvl : Nat} {C : bCall} {Q : bPost} {A : bPt → Prop} (hC : bMono C) (hA : bClosed lvl bm13 C Q A) {a0 : Nat} {x1 : Int} {x2 : Int} {σ : bSt} (h_a0 : a0 % 256 = 0) (h_x1 : bRg x1) (h_x2 : bRg x2)
  (h : (C 9 [.ref a0] (bw (bw σ a0 10 x1) a0 12 x2) (bRv (fun s1 => (C 10 [.ref a0] s1 (bRn (fun r5 s3 => ((r5 = 0 → Q (.inl none) s3) ∧ (¬ r5 = 0 → ((256 * (2 * (a0 / 256) + 1) + 4) % 256 = 4 ∧ (C 44 [.ref (256 * (2 * (a0 / 256) + 1) + 4), .ref (256 * (2 * (a0 / 256) + 0) + 4)] s3 (bRv (fun s8 => Q (.inl none) s8))))))))))))) : A (0, [.ref a0, .int (bn x1), .int (bn x2)], [], σ) := by
  refine bGo hA 0 0 (0, .aload_n 0, 1, 1, 0, [0], []) rfl rfl rfl ?_
  refine bGo hA 0 1 (1, .iload_n 1, 1, 2, 0, [1], []) rfl rfl rfl ?_
  refine bGo hA 0 2 (2, .putfield 25, 3, 3, 0, [0, 10, 0, 0, 0, 0], []) rfl rfl rfl ?_
  refine ⟨h_a0, ?_⟩
  refine bGo hA 0 3 (5, .aload_n 0, 1, 4, 0, [0], []) rfl rfl rfl ?_
  refine bGo hA 0 4 (6, .iload_n 2, 1, 5, 0, [2], []) rfl rfl rfl ?_
  refine bGo hA 0 5 (7, .putfield 32, 3, 6, 0, [0, 12, 0, 0, 0, 0], []) rfl rfl rfl ?_
  refine ⟨h_a0, ?_⟩
  refine bGo hA 0 6 (10, .aload_n 0, 1, 7, 0, [0], []) rfl rfl rfl ?_
  refine bGo hA 0 7 (11, .invokevirtual 105, 3, 8, 0, [0, 0, 9, 0], []) rfl rfl rfl ?_
  refine ⟨h_a0, ?_⟩
  refine hC _ _ _ _ _ (bRv_e (fun s1 k2 => ?_)) h
  show A (8, [.ref a0, .int (bn x1), .int (bn x2)], [], s1)
  refine bGo hA 0 8 (14, .aload_n 0, 1, 9, 0, [0], []) rfl rfl rfl ?_
  refine bGo hA 0 9 (15, .invokevirtual 114, 3, 10, 0, [0, 0, 10, 0], []) rfl rfl rfl ?_
  refine ⟨h_a0, ?_⟩
  refine hC _ _ _ _ _ (bRn_e (fun r5 s3 q6 k4 => ?_)) k2
  show A (10, [.ref a0, .int (bn x1), .int (bn x2)], [.int (bn r5)], s3)
  refine bGo hA 0 10 (18, .ifCond .eq (14), 3, 11, 16, [], []) rfl rfl rfl ?_
  refine bB_eq0 (x := r5) q6 (fun c7 => ?_) (fun c7 => ?_)
  · refine bGo hA 1 0 (32, .return_, 1, 0, 0, [0], []) rfl rfl rfl ?_
    exact (k4.1 c7)
  · refine bGo hA 0 11 (21, .aload_n 0, 1, 12, 0, [0], []) rfl rfl rfl ?_
    refine bGo hA 0 12 (22, .getfield 22, 3, 13, 0, [0, 4, 3, 4, 2, 1], []) rfl rfl rfl ?_
    refine ⟨h_a0, ?_⟩
    refine bGo hA 0 13 (25, .aload_n 0, 1, 14, 0, [0], []) rfl rfl rfl ?_
    refine bGo hA 0 14 (26, .getfield 18, 3, 15, 0, [0, 3, 3, 4, 2, 0], []) rfl rfl rfl ?_
    refine ⟨h_a0, ?_⟩
    refine bGo hA 0 15 (29, .invokevirtual 118, 3, 16, 0, [0, 4, 44, 1], []) rfl rfl rfl ?_
    refine ⟨(k4.2 c7).1, ?_⟩
    refine hC _ _ _ _ _ (bRv_e (fun s8 k9 => ?_)) (k4.2 c7).2
    show A (16, [.ref a0, .int (bn x1), .int (bn x2)], [], s8)
    refine bGo hA 1 0 (32, .return_, 1, 0, 0, [0], []) rfl rfl rfl ?_
    exact k9

theorem sq261_0 {lvl : Nat} {C : bCall} {Q : bPost} {A : bPt → Prop} (hC : bMono C) (hA : bClosed lvl bm261 C Q A) {x1 : Int} {σ : bSt}  (h_x1 : bRg x1)
  (h : (bRg (40 * x1) ∧ A (6, [.ref 12, .int (bn x1), .long (Int64.ofNat 0), .float 0, .int (bn (40 * x1))], [], σ))) : A (0, [.ref 12, .int (bn x1), .float 0, .float 0, .float 0], [], σ) := by
  refine bGo hA 0 0 (0, .lconst 0, 1, 1, 0, [0], []) rfl rfl rfl ?_
  refine bGo hA 0 1 (1, .lstore_n 2, 1, 2, 0, [2], []) rfl rfl rfl ?_
  refine bGo hA 0 2 (2, .bipush (40), 2, 3, 0, [], [(40, 0)]) rfl rfl rfl ?_
  refine bEqI bl_40 ?_
  refine bGo hA 0 3 (4, .iload_n 1, 1, 4, 0, [1], []) rfl rfl rfl ?_
  refine bGo hA 0 4 (5, .imul, 1, 5, 0, [], []) rfl rfl rfl ?_
  refine bEqI (bn_mul 40 x1) ?_
  refine bGo hA 0 5 (6, .istore 4, 2, 6, 0, [4], []) rfl rfl rfl ?_
  exact h.2

theorem sq261_6 {lvl : Nat} {C : bCall} {Q : bPost} {A : bPt → Prop} (hC : bMono C) (hA : bClosed lvl bm261 C Q A) {l1 : Int} {l2 : Int64} {l4 : Int} {σ : bSt}  (h_l1 : bRg l1) (h_l4 : bRg l4)
  (h : (bRg (40 * l1) ∧ ((0 ≤ l1 ∧ l1 < 120) ∧ (bRg ((40 * l1) + (bi σ 105 l1)) ∧ ((l4 < ((40 * l1) + (bi σ 105 l1)) → ((0 ≤ l4 ∧ l4 < 4800) ∧ (((bi σ 106 l4) < 48 → (bRg (l4 + 1) ∧ A (6, [.ref 12, .int (bn l1), .long (l2 ||| ((Int64.ofNat 1) <<< (bL (bi σ 106 l4) &&& 63))), .float 0, .int (bn (l4 + 1))], [], σ))) ∧ (¬ (bi σ 106 l4) < 48 → (bRg (l4 + 1) ∧ A (6, [.ref 12, .int (bn l1), .long (l2 ||| (Int64.ofNat 0)), .float 0, .int (bn (l4 + 1))], [], σ)))))) ∧ (¬ l4 < ((40 * l1) + (bi σ 105 l1)) → Q (.inl (some (.long l2))) σ)))))) : A (6, [.ref 12, .int (bn l1), .long l2, .float 0, .int (bn l4)], [], σ) := by
  refine bGo hA 0 6 (8, .iload 4, 2, 7, 0, [4], []) rfl rfl rfl ?_
  refine bGo hA 0 7 (10, .bipush (40), 2, 8, 0, [], [(40, 0)]) rfl rfl rfl ?_
  refine bEqI bl_40 ?_
  refine bGo hA 0 8 (12, .iload_n 1, 1, 9, 0, [1], []) rfl rfl rfl ?_
  refine bGo hA 0 9 (13, .imul, 1, 10, 0, [], []) rfl rfl rfl ?_
  refine bEqI (bn_mul 40 l1) ?_
  refine bGo hA 0 10 (14, .aload_n 0, 1, 11, 0, [0], []) rfl rfl rfl ?_
  refine bGo hA 0 11 (15, .getfield 158, 3, 12, 0, [12, 54, 3, 105, 1, 0], []) rfl rfl rfl ?_
  refine ⟨rfl, ?_⟩
  refine bGo hA 0 12 (18, .iload_n 1, 1, 13, 0, [1], []) rfl rfl rfl ?_
  refine bGo hA 0 13 (19, .iaload, 1, 14, 0, [], []) rfl rfl rfl ?_
  refine ⟨rfl, (bIxP (x := l1) (n := 120) h_l1 h.2.1), ?_⟩
  refine bEqL (x := l1) h_l1 ?_
  refine bGo hA 0 14 (20, .iadd, 1, 15, 0, [], []) rfl rfl rfl ?_
  refine bEqI (bn_add (40 * l1) (bi σ 105 l1)) ?_
  refine bGo hA 0 15 (21, .if_icmp .ge (37), 3, 16, 35, [], []) rfl rfl rfl ?_
  refine bB_lt (x := l4) (y := ((40 * l1) + (bi σ 105 l1))) h_l4 h.2.2.1 (fun c1 => ?_) (fun c1 => ?_)
  · refine bGo hA 1 0 (24, .lload_n 2, 1, 17, 0, [2], []) rfl rfl rfl ?_
    refine bGo hA 1 1 (25, .aload_n 0, 1, 18, 0, [0], []) rfl rfl rfl ?_
    refine bGo hA 1 2 (26, .getfield 161, 3, 19, 0, [12, 55, 3, 106, 1, 0], []) rfl rfl rfl ?_
    refine ⟨rfl, ?_⟩
    refine bGo hA 1 3 (29, .iload 4, 2, 20, 0, [4], []) rfl rfl rfl ?_
    refine bGo hA 1 4 (31, .iaload, 1, 21, 0, [], []) rfl rfl rfl ?_
    refine ⟨rfl, (bIxP (x := l4) (n := 4800) h_l4 (h.2.2.2.1 c1).1), ?_⟩
    refine bEqL (x := l4) h_l4 ?_
    refine bGo hA 1 5 (32, .bipush (48), 2, 22, 0, [], [(48, 0)]) rfl rfl rfl ?_
    refine bEqI bl_48 ?_
    refine bGo hA 1 6 (34, .if_icmp .ge (15), 3, 23, 30, [], []) rfl rfl rfl ?_
    refine bB_lt (x := (bi σ 106 l4)) (y := 48) (bi_rg _ _ _) (by decide : bRg 48) (fun c2 => ?_) (fun c2 => ?_)
    · refine bGo hA 1 7 (37, .lconst 1, 1, 24, 0, [1], []) rfl rfl rfl ?_
      refine bGo hA 1 8 (38, .aload_n 0, 1, 25, 0, [0], []) rfl rfl rfl ?_
      refine bGo hA 1 9 (39, .getfield 161, 3, 26, 0, [12, 55, 3, 106, 1, 0], []) rfl rfl rfl ?_
      refine ⟨rfl, ?_⟩
      refine bGo hA 1 10 (42, .iload 4, 2, 27, 0, [4], []) rfl rfl rfl ?_
      refine bGo hA 1 11 (44, .iaload, 1, 28, 0, [], []) rfl rfl rfl ?_
      refine ⟨rfl, (bIxP (x := l4) (n := 4800) h_l4 (h.2.2.2.1 c1).1), ?_⟩
      refine bEqL (x := l4) h_l4 ?_
      refine bGo hA 1 12 (45, .lshl, 1, 29, 0, [], []) rfl rfl rfl ?_
      refine bGo hA 1 13 (46, .goto (4), 3, 30, 31, [], []) rfl rfl rfl ?_
      refine bGo hA 1 15 (50, .lor, 1, 32, 0, [], []) rfl rfl rfl ?_
      refine bGo hA 2 0 (51, .lstore_n 2, 1, 33, 0, [2], []) rfl rfl rfl ?_
      refine bGo hA 2 1 (52, .iinc 4 (1), 3, 34, 0, [4], [(1, 0)]) rfl rfl rfl ?_
      refine bEqC (fun v => A (34, [.ref 12, .int (bn l1), .long (l2 ||| ((Int64.ofNat 1) <<< (bL (bi σ 106 l4) &&& 63))), .float 0, .int v], [], σ)) ((congrArg (fun w => bn l4 + w) bl_1).trans (bn_add l4 1)) ?_
      refine bGo hA 2 2 (55, .goto (-47), 3, 35, 6, [], []) rfl rfl rfl ?_
      exact ((h.2.2.2.1 c1).2.1 c2).2
    · refine bGo hA 1 14 (49, .lconst 0, 1, 31, 0, [0], []) rfl rfl rfl ?_
      refine bGo hA 1 15 (50, .lor, 1, 32, 0, [], []) rfl rfl rfl ?_
      refine bGo hA 2 0 (51, .lstore_n 2, 1, 33, 0, [2], []) rfl rfl rfl ?_
      refine bGo hA 2 1 (52, .iinc 4 (1), 3, 34, 0, [4], [(1, 0)]) rfl rfl rfl ?_
      refine bEqC (fun v => A (34, [.ref 12, .int (bn l1), .long (l2 ||| (Int64.ofNat 0)), .float 0, .int v], [], σ)) ((congrArg (fun w => bn l4 + w) bl_1).trans (bn_add l4 1)) ?_
      refine bGo hA 2 2 (55, .goto (-47), 3, 35, 6, [], []) rfl rfl rfl ?_
      exact ((h.2.2.2.1 c1).2.2 c2).2
  · refine bGo hA 2 3 (58, .lload_n 2, 1, 36, 0, [2], []) rfl rfl rfl ?_
    refine bGo hA 2 4 (59, .lreturn, 1, 0, 0, [3], []) rfl rfl rfl ?_
    exact (h.2.2.2.2 c1)

theorem sq262_0 {lvl : Nat} {C : bCall} {Q : bPost} {A : bPt → Prop} (hC : bMono C) (hA : bClosed lvl bm262 C Q A) {x1 : Int} {σ : bSt}  (h_x1 : bRg x1)
  (h : ((x1 < 48 → ((0 ≤ x1 ∧ x1 < 48) ∧ Q (.inl (some (.int (bn (bi σ 56 x1))))) σ)) ∧ (¬ x1 < 48 → (bRg (x1 - 100) ∧ ((0 ≤ (x1 - 100) ∧ (x1 - 100) < 120) ∧ Q (.inl (some (.int (bn (bi σ 112 (x1 - 100)))))) σ))))) : A (0, [.ref 12, .int (bn x1)], [], σ) := by
  refine bGo hA 0 0 (0, .iload_n 1, 1, 1, 0, [1], []) rfl rfl rfl ?_
  refine bGo hA 0 1 (1, .bipush (48), 2, 2, 0, [], [(48, 0)]) rfl rfl rfl ?_
  refine bEqI bl_48 ?_
  refine bGo hA 0 2 (3, .if_icmp .ge (12), 3, 3, 8, [], []) rfl rfl rfl ?_
  refine bB_lt (x := x1) (y := 48) h_x1 (by decide : bRg 48) (fun c1 => ?_) (fun c1 => ?_)
  · refine bGo hA 0 3 (6, .aload_n 0, 1, 4, 0, [0], []) rfl rfl rfl ?_
    refine bGo hA 0 4 (7, .getfield 7, 3, 5, 0, [12, 1, 3, 56, 1, 0], []) rfl rfl rfl ?_
    refine ⟨rfl, ?_⟩
    refine bGo hA 0 5 (10, .iload_n 1, 1, 6, 0, [1], []) rfl rfl rfl ?_
    refine bGo hA 0 6 (11, .iaload, 1, 7, 0, [], []) rfl rfl rfl ?_
    refine ⟨rfl, (bIxP (x := x1) (n := 48) h_x1 (h.1 c1).1), ?_⟩
    refine bEqL (x := x1) h_x1 ?_
    refine bGo hA 0 7 (12, .goto (12), 3, 8, 14, [], []) rfl rfl rfl ?_
    refine bGo hA 0 14 (24, .ireturn, 1, 0, 0, [1], []) rfl rfl rfl ?_
    exact (h.1 c1).2
  · refine bGo hA 0 8 (15, .aload_n 0, 1, 9, 0, [0], []) rfl rfl rfl ?_
    refine bGo hA 0 9 (16, .getfield 179, 3, 10, 0, [12, 61, 3, 112, 1, 0], []) rfl rfl rfl ?_
    refine ⟨rfl, ?_⟩
    refine bGo hA 0 10 (19, .iload_n 1, 1, 11, 0, [1], []) rfl rfl rfl ?_
    refine bGo hA 0 11 (20, .bipush (100), 2, 12, 0, [], [(100, 0)]) rfl rfl rfl ?_
    refine bEqI bl_100 ?_
    refine bGo hA 0 12 (22, .isub, 1, 13, 0, [], []) rfl rfl rfl ?_
    refine bEqI (bn_sub x1 100) ?_
    refine bGo hA 0 13 (23, .iaload, 1, 14, 0, [], []) rfl rfl rfl ?_
    refine ⟨rfl, (bIxP (x := (x1 - 100)) (n := 120) (h.2 c1).1 (h.2 c1).2.1), ?_⟩
    refine bEqL (x := (x1 - 100)) (h.2 c1).1 ?_
    refine bGo hA 0 14 (24, .ireturn, 1, 0, 0, [1], []) rfl rfl rfl ?_
    exact (h.2 c1).2.2

theorem sq18_20_b {lvl : Nat} {C : bCall} {Q : bPost} {A : bPt → Prop} (hC : bMono C) (hA : bClosed lvl bm18 C Q A) {l0 : Nat} {v1 : Value} {l2 : Nat} {l3 : Nat} {l4 : Int} {σ : bSt}  (h_l4 : bRg l4)
  (h : (bRg (l4 + 1) ∧ (l0 % 256 = 1 ∧ (((l4 + 1) < (bi σ l0 0) → (bTy (256 * (1 * (l0 / 256) + 0) + 14) = 14 ∧ ((0 ≤ (l4 + 1) ∧ (l4 + 1) < (bLen σ (256 * (1 * (l0 / 256) + 0) + 14) : Int)) ∧ ((br σ (256 * (1 * (l0 / 256) + 0) + 14) (l4 + 1) = none → ((0 ≤ l4 ∧ l4 < (bLen σ (256 * (1 * (l0 / 256) + 0) + 14) : Int)) ∧ ((256 * (1 * (l0 / 256) + 0) + 14) % 256 < 200 ∧ A (20, [.ref l0, v1, .ref l2, .ref l3, .int (bn (l4 + 1))], [], (bwr σ (256 * (1 * (l0 / 256) + 0) + 14) l4 none))))) ∧ (∀ z2 : Nat, br σ (256 * (1 * (l0 / 256) + 0) + 14) (l4 + 1) = some z2 → ((0 ≤ l4 ∧ l4 < (bLen σ (256 * (1 * (l0 / 256) + 0) + 14) : Int)) ∧ ((256 * (1 * (l0 / 256) + 0) + 14) % 256 < 200 ∧ (z2 % 256 = 4 ∧ A (20, [.ref l0, v1, .ref l2, .ref l3, .int (bn (l4 + 1))], [], (bwr σ (256 * (1 * (l0 / 256) + 0) + 14) l4 (some z2))))))))))) ∧ (¬ (l4 + 1) < (bi σ l0 0) → (l3 % 256 = 4 ∧ (C 44 [.ref l3, .ref l2] σ (bRv (fun s4 => (bRg ((bi s4 l0 0) - 1) ∧ (bTy (256 * (1 * (l0 / 256) + 0) + 14) = 14 ∧ ((0 ≤ ((bi s4 l0 0) - 1) ∧ ((bi s4 l0 0) - 1) < (bLen s4 (256 * (1 * (l0 / 256) + 0) + 14) : Int)) ∧ ((256 * (1 * (l0 / 256) + 0) + 14) % 256 < 200 ∧ Q (.inl none) (bwr s4 (256 * (1 * (l0 / 256) + 0) + 14) ((bi s4 l0 0) - 1) (some l3))))))))))))))) : A (20, [.ref l0, v1, .ref l2, .ref l3, .int (bn l4)], [], σ) := by
  refine bGo hA 1 4 (35, .iload 4, 2, 21, 0, [4], []) rfl rfl rfl ?_
  refine bGo hA 1 5 (37, .iconst (1), 1, 22, 0, [], [(1, 0)]) rfl rfl rfl ?_
  refine bEqI bl_1 ?_
  refine bGo hA 1 6 (38, .iadd, 1, 23, 0, [], []) rfl rfl rfl ?_
  refine bEqI (bn_add l4 1) ?_
  refine bGo hA 1 7 (39, .aload_n 0, 1, 24, 0, [0], []) rfl rfl rfl ?_
  refine bGo hA 1 8 (40, .getfield 21, 3, 25, 0, [1, 0, 0, 0, 0, 0], []) rfl rfl rfl ?_
  refine ⟨h.2.1, ?_⟩
  refine bEqI (bn_bi σ l0 0) ?_
  refine bGo hA 1 9 (43, .if_icmp .ge (25), 3, 26, 38, [], []) rfl rfl rfl ?_
  refine bB_lt (x := (l4 + 1)) (y := (bi σ l0 0)) h.1 (bi_rg _ _ _) (fun c1 => ?_) (fun c1 => ?_)
  · refine bGo hA 1 10 (46, .aload_n 0, 1, 27, 0, [0], []) rfl rfl rfl ?_
    refine bGo hA 1 11 (47, .getfield 17, 3, 28, 0, [1, 1, 3, 14, 1, 0], []) rfl rfl rfl ?_
    refine ⟨h.2.1, ?_⟩
    refine bGo hA 1 12 (50, .iload 4, 2, 29, 0, [4], []) rfl rfl rfl ?_
    refine bGo hA 1 13 (52, .aload_n 0, 1, 30, 0, [0], []) rfl rfl rfl ?_
    refine bGo hA 1 14 (53, .getfield 17, 3, 31, 0, [1, 1, 3, 14, 1, 0], []) rfl rfl rfl ?_
    refine ⟨h.2.1, ?_⟩
    refine bGo hA 1 15 (56, .iload 4, 2, 32, 0, [4], []) rfl rfl rfl ?_
    refine bGo hA 2 0 (58, .iconst (1), 1, 33, 0, [], [(1, 0)]) rfl rfl rfl ?_
    refine bEqI bl_1 ?_
    refine bGo hA 2 1 (59, .iadd, 1, 34, 0, [], []) rfl rfl rfl ?_
    refine bEqI (bn_add l4 1) ?_
    refine bGo hA 2 2 (60, .aaload, 1, 35, 0, [14, 4], []) rfl rfl rfl ?_
    refine ⟨(h.2.2.1 c1).1, (bIxP (x := (l4 + 1)) (n := bLen σ (256 * (1 * (l0 / 256) + 0) + 14)) h.1 (h.2.2.1 c1).2.1), ?_⟩
    refine bOptX (P := fun v => A (35, [.ref l0, v1, .ref l2, .ref l3, .int (bn l4)], v :: [.int (bn l4), .ref (256 * (1 * (l0 / 256) + 0) + 14)], σ)) (a := (256 * (1 * (l0 / 256) + 0) + 14)) (x := (l4 + 1)) h.1 (fun c3 => ?_) (fun z2 c3 => ?_)
    · refine bGo hA 2 3 (61, .aastore, 1, 36, 0, [14, 4], []) rfl rfl rfl ?_
      refine ⟨(h.2.2.1 c1).1, (bIxP (x := l4) (n := bLen σ (256 * (1 * (l0 / 256) + 0) + 14)) h_l4 ((h.2.2.1 c1).2.2.1 c3).1), ((h.2.2.1 c1).2.2.1 c3).2.1, (fun _ h => by cases h), ?_⟩
      refine bEqSR (x := l4) h_l4 ?_
      refine bGo hA 2 4 (62, .iinc 4 (1), 3, 37, 0, [4], [(1, 0)]) rfl rfl rfl ?_
      refine bEqC (fun v => A (37, [.ref l0, v1, .ref l2, .ref l3, .int v], [], (bwr σ (256 * (1 * (l0 / 256) + 0) + 14) l4 none))) ((congrArg (fun w => bn l4 + w) bl_1).trans (bn_add l4 1)) ?_
      refine bGo hA 2 5 (65, .goto (-30), 3, 38, 20, [], []) rfl rfl rfl ?_
      exact ((h.2.2.1 c1).2.2.1 c3).2.2
    · refine bGo hA 2 3 (61, .aastore, 1, 36, 0, [14, 4], []) rfl rfl rfl ?_
      refine ⟨(h.2.2.1 c1).1, (bIxP (x := l4) (n := bLen σ (256 * (1 * (l0 / 256) + 0) + 14)) h_l4 ((h.2.2.1 c1).2.2.2 z2 c3).1), ((h.2.2.1 c1).2.2.2 z2 c3).2.1, (fun _ h => by cases h; exact ((h.2.2.1 c1).2.2.2 z2 c3).2.2.1), ?_⟩
      refine bEqSR (x := l4) h_l4 ?_
      refine bGo hA 2 4 (62, .iinc 4 (1), 3, 37, 0, [4], [(1, 0)]) rfl rfl rfl ?_
      refine bEqC (fun v => A (37, [.ref l0, v1, .ref l2, .ref l3, .int v], [], (bwr σ (256 * (1 * (l0 / 256) + 0) + 14) l4 (some z2)))) ((congrArg (fun w => bn l4 + w) bl_1).trans (bn_add l4 1)) ?_
      refine bGo hA 2 5 (65, .goto (-30), 3, 38, 20, [], []) rfl rfl rfl ?_
      exact ((h.2.2.1 c1).2.2.2 z2 c3).2.2.2
  · refine bGo hA 2 6 (68, .aload_n 3, 1, 39, 0, [3], []) rfl rfl rfl ?_
    refine bGo hA 2 7 (69, .ifnonnull (13), 3, 40, 44, [], []) rfl rfl rfl ?_
    refine bGo hA 2 12 (82, .aload_n 3, 1, 45, 0, [3], []) rfl rfl rfl ?_
    refine bGo hA 2 13 (83, .astore 4, 2, 46, 0, [4], []) rfl rfl rfl ?_
    refine bGo hA 2 14 (85, .aload 4, 2, 47, 0, [4], []) rfl rfl rfl ?_
    refine bGo hA 2 15 (87, .aload_n 2, 1, 48, 0, [2], []) rfl rfl rfl ?_
    refine bGo hA 3 0 (88, .invokevirtual 38, 3, 49, 0, [0, 4, 44, 1], []) rfl rfl rfl ?_
    refine ⟨(h.2.2.2 c1).1, ?_⟩
    refine hC _ _ _ _ _ (bRv_e (fun s4 k5 => ?_)) (h.2.2.2 c1).2
    show A (49, [.ref l0, v1, .ref l2, .ref l3, .ref l3], [], s4)
    refine bGo hA 3 1 (91, .aload_n 0, 1, 50, 0, [0], []) rfl rfl rfl ?_
    refine bGo hA 3 2 (92, .getfield 17, 3, 51, 0, [1, 1, 3, 14, 1, 0], []) rfl rfl rfl ?_
    refine ⟨h.2.1, ?_⟩
    refine bGo hA 3 3 (95, .aload_n 0, 1, 52, 0, [0], []) rfl rfl rfl ?_
    refine bGo hA 3 4 (96, .getfield 21, 3, 53, 0, [1, 0, 0, 0, 0, 0], []) rfl rfl rfl ?_
    refine ⟨h.2.1, ?_⟩
    refine bEqI (bn_bi s4 l0 0) ?_
    refine bGo hA 3 5 (99, .iconst (1), 1, 54, 0, [], [(1, 0)]) rfl rfl rfl ?_
    refine bEqI bl_1 ?_
    refine bGo hA 3 6 (100, .isub, 1, 55, 0, [], []) rfl rfl rfl ?_
    refine bEqI (bn_sub (bi s4 l0 0) 1) ?_
    refine bGo hA 3 7 (101, .aload 4, 2, 56, 0, [4], []) rfl rfl rfl ?_
    refine bGo hA 3 8 (103, .aastore, 1, 57, 0, [14, 4], []) rfl rfl rfl ?_
    refine ⟨k5.2.1, (bIxP (x := ((bi s4 l0 0) - 1)) (n := bLen s4 (256 * (1 * (l0 / 256) + 0) + 14)) k5.1 k5.2.2.1), k5.2.2.2.1, (fun _ h => by cases h; exact (h.2.2.2 c1).1), ?_⟩
    refine bEqSR (x := ((bi s4 l0 0) - 1)) k5.1 ?_
    refine bGo hA 3 9 (104, .return_, 1, 0, 0, [0], []) rfl rfl rfl ?_
    exact k5.2.2.2.2


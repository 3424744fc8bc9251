/-! segments of methods 64,65,66,301,302,177,10,281,5, by program (wip/whole/gen13.py): from a cut of a method on to the next cuts -/
theorem sq64_0 {lvl : Nat} {C : bCall} {Q : bPost} {A : bPt → Prop} (hC : bMono C) (hA : bClosed lvl bm64 C Q A) {x1 : Int} {σ : bSt}  (h_x1 : bRg x1)
  (h : (C 65 [.ref 5] σ (bRn (fun r3 s1 => A (5, [.ref 5, .int (bn x1), .int (bn r3), .int (bn 0)], [], s1))))) : A (0, [.ref 5, .int (bn x1), .float 0, .float 0], [], σ) := by
  refine bGo hA 0 0 (0, .aload_n 0, 1, 1, 0, [0], []) rfl rfl rfl ?_
  refine bGo hA 0 1 (1, .invokevirtual 301, 3, 2, 0, [0, 5, 65, 0], []) rfl rfl rfl ?_
  refine ⟨rfl, ?_⟩
  refine hC _ _ _ _ _ (bRn_e (fun r3 s1 q4 k2 => ?_)) h
  show A (2, [.ref 5, .int (bn x1), .float 0, .float 0], [.int (bn r3)], s1)
  refine bGo hA 0 2 (4, .istore_n 2, 1, 3, 0, [2], []) rfl rfl rfl ?_
  refine bGo hA 0 3 (5, .iconst (0), 1, 4, 0, [], [(0, 0)]) rfl rfl rfl ?_
  refine bEqI bl_0 ?_
  refine bGo hA 0 4 (6, .istore_n 3, 1, 5, 0, [3], []) rfl rfl rfl ?_
  exact k2

theorem sq64_5 {lvl : Nat} {C : bCall} {Q : bPost} {A : bPt → Prop} (hC : bMono C) (hA : bClosed lvl bm64 C Q A) {l1 : Int} {l2 : Int} {l3 : Int} {σ : bSt}  (h_l1 : bRg l1) (h_l2 : bRg l2) (h_l3 : bRg l3)
  (h : ((l3 < l1 → ((l2 = (-1) → Q (.inl (some (.int (bn l2)))) σ) ∧ (¬ l2 = (-1) → (C 89 [.ref 6, .int (bn l2)] σ (bRa (fun r5 s3 => (C 66 [.ref 5, .ref r5] s3 (bRn (fun r8 s6 => (bRg (l3 + 1) ∧ A (5, [.ref 5, .int (bn l1), .int (bn r8), .int (bn (l3 + 1))], [], s6))))))))))) ∧ (¬ l3 < l1 → Q (.inl (some (.int (bn l2)))) σ))) : A (5, [.ref 5, .int (bn l1), .int (bn l2), .int (bn l3)], [], σ) := by
  refine bGo hA 0 5 (7, .iload_n 3, 1, 6, 0, [3], []) rfl rfl rfl ?_
  refine bGo hA 0 6 (8, .iload_n 1, 1, 7, 0, [1], []) rfl rfl rfl ?_
  refine bGo hA 0 7 (9, .if_icmp .ge (27), 3, 8, 20, [], []) rfl rfl rfl ?_
  refine bB_lt (x := l3) (y := l1) h_l3 h_l1 (fun c1 => ?_) (fun c1 => ?_)
  · refine bGo hA 0 8 (12, .iload_n 2, 1, 9, 0, [2], []) rfl rfl rfl ?_
    refine bGo hA 0 9 (13, .iconst (-1), 1, 10, 0, [], [(-1, 0)]) rfl rfl rfl ?_
    refine bEqI bl_m1 ?_
    refine bGo hA 0 10 (14, .if_icmp .eq (22), 3, 11, 20, [], []) rfl rfl rfl ?_
    refine bB_eq (x := l2) (y := (-1)) h_l2 (by decide : bRg (-1)) (fun c2 => ?_) (fun c2 => ?_)
    · refine bGo hA 1 4 (36, .iload_n 2, 1, 21, 0, [2], []) rfl rfl rfl ?_
      refine bGo hA 1 5 (37, .ireturn, 1, 0, 0, [1], []) rfl rfl rfl ?_
      exact ((h.1 c1).1 c2)
    · refine bGo hA 0 11 (17, .aload_n 0, 1, 12, 0, [0], []) rfl rfl rfl ?_
      refine bGo hA 0 12 (18, .aload_n 0, 1, 13, 0, [0], []) rfl rfl rfl ?_
      refine bGo hA 0 13 (19, .getfield 55, 3, 14, 0, [5, 1, 3, 6, 0, 0], []) rfl rfl rfl ?_
      refine ⟨rfl, ?_⟩
      refine bGo hA 0 14 (22, .iload_n 2, 1, 15, 0, [2], []) rfl rfl rfl ?_
      refine bGo hA 0 15 (23, .invokevirtual 113, 3, 16, 0, [0, 6, 89, 1], []) rfl rfl rfl ?_
      refine ⟨rfl, ?_⟩
      refine hC _ _ _ _ _ (bRa_e (fun r5 s3 k4 => ?_)) ((h.1 c1).2 c2)
      show A (16, [.ref 5, .int (bn l1), .int (bn l2), .int (bn l3)], [.ref r5, .ref 5], s3)
      refine bGo hA 1 0 (26, .invokevirtual 304, 3, 17, 0, [0, 5, 66, 1], []) rfl rfl rfl ?_
      refine ⟨rfl, ?_⟩
      refine hC _ _ _ _ _ (bRn_e (fun r8 s6 q9 k7 => ?_)) k4
      show A (17, [.ref 5, .int (bn l1), .int (bn l2), .int (bn l3)], [.int (bn r8)], s6)
      refine bGo hA 1 1 (29, .istore_n 2, 1, 18, 0, [2], []) rfl rfl rfl ?_
      refine bGo hA 1 2 (30, .iinc 3 (1), 3, 19, 0, [3], [(1, 0)]) rfl rfl rfl ?_
      refine bEqC (fun v => A (19, [.ref 5, .int (bn l1), .int (bn r8), .int v], [], s6)) ((congrArg (fun w => bn l3 + w) bl_1).trans (bn_add l3 1)) ?_
      refine bGo hA 1 3 (33, .goto (-26), 3, 20, 5, [], []) rfl rfl rfl ?_
      exact k7.2
  · refine bGo hA 1 4 (36, .iload_n 2, 1, 21, 0, [2], []) rfl rfl rfl ?_
    refine bGo hA 1 5 (37, .ireturn, 1, 0, 0, [1], []) rfl rfl rfl ?_
    exact (h.2 c1)

theorem sq65_0 {lvl : Nat} {C : bCall} {Q : bPost} {A : bPt → Prop} (hC : bMono C) (hA : bClosed lvl bm65 C Q A)  {σ : bSt}  
  (h : A (4, [.ref 5, .int (bn (-1)), .int (bn 0), .float 0, .float 0], [], σ)) : A (0, [.ref 5, .float 0, .float 0, .float 0, .float 0], [], σ) := by
  refine bGo hA 0 0 (0, .iconst (-1), 1, 1, 0, [], [(-1, 0)]) rfl rfl rfl ?_
  refine bEqI bl_m1 ?_
  refine bGo hA 0 1 (1, .istore_n 1, 1, 2, 0, [1], []) rfl rfl rfl ?_
  refine bGo hA 0 2 (2, .iconst (0), 1, 3, 0, [], [(0, 0)]) rfl rfl rfl ?_
  refine bEqI bl_0 ?_
  refine bGo hA 0 3 (3, .istore_n 2, 1, 4, 0, [2], []) rfl rfl rfl ?_
  exact h

theorem sq65_4 {lvl : Nat} {C : bCall} {Q : bPost} {A : bPt → Prop} (hC : bMono C) (hA : bClosed lvl bm65 C Q A) {l1 : Int} {l2 : Int} {v3 : Value} {v4 : Value} {σ : bSt}  (h_l1 : bRg l1) (h_l2 : bRg l2)
  (h : ((l2 < (bi σ 6 13) → (C 89 [.ref 6, .int (bn l2)] σ (bRa (fun r4 s2 => (r4 % 256 = 0 ∧ (C 10 [.ref r4] s2 (bRn (fun r7 s5 => ((r7 = 0 → (((bi s5 r4 10) = 5 → ((l1 = (-1) → (bRg (l2 + 1) ∧ A (4, [.ref 5, .int (bn l2), .int (bn (l2 + 1)), .ref r4, .int (bn 1)], [], s5))) ∧ (¬ l1 = (-1) → (C 89 [.ref 6, .int (bn l1)] s5 (bRa (fun r15 s13 => (r15 % 256 = 0 ∧ (((bi s13 r15 12) < (bi s5 r4 12) → (bRg (l2 + 1) ∧ A (4, [.ref 5, .int (bn l2), .int (bn (l2 + 1)), .ref r4, .int (bn 1)], [], s13))) ∧ (¬ (bi s13 r15 12) < (bi s5 r4 12) → (bRg (l2 + 1) ∧ A (4, [.ref 5, .int (bn l1), .int (bn (l2 + 1)), .ref r4, .int (bn 1)], [], s13))))))))))) ∧ (¬ (bi s5 r4 10) = 5 → (bRg (l2 + 1) ∧ A (4, [.ref 5, .int (bn l1), .int (bn (l2 + 1)), .ref r4, .int (bn 0)], [], s5))))) ∧ (¬ r7 = 0 → ((l1 = (-1) → (bRg (l2 + 1) ∧ A (4, [.ref 5, .int (bn l2), .int (bn (l2 + 1)), .ref r4, .int (bn 1)], [], s5))) ∧ (¬ l1 = (-1) → (C 89 [.ref 6, .int (bn l1)] s5 (bRa (fun r22 s20 => (r22 % 256 = 0 ∧ (((bi s20 r22 12) < (bi s5 r4 12) → (bRg (l2 + 1) ∧ A (4, [.ref 5, .int (bn l2), .int (bn (l2 + 1)), .ref r4, .int (bn 1)], [], s20))) ∧ (¬ (bi s20 r22 12) < (bi s5 r4 12) → (bRg (l2 + 1) ∧ A (4, [.ref 5, .int (bn l1), .int (bn (l2 + 1)), .ref r4, .int (bn 1)], [], s20)))))))))))))))))))) ∧ (¬ l2 < (bi σ 6 13) → Q (.inl (some (.int (bn l1)))) σ))) : A (4, [.ref 5, .int (bn l1), .int (bn l2), v3, v4], [], σ) := by
  refine bGo hA 0 4 (4, .iload_n 2, 1, 5, 0, [2], []) rfl rfl rfl ?_
  refine bGo hA 0 5 (5, .aload_n 0, 1, 6, 0, [0], []) rfl rfl rfl ?_
  refine bGo hA 0 6 (6, .getfield 55, 3, 7, 0, [5, 1, 3, 6, 0, 0], []) rfl rfl rfl ?_
  refine ⟨rfl, ?_⟩
  refine bGo hA 0 7 (9, .getfield 110, 3, 8, 0, [6, 13, 0, 0, 0, 0], []) rfl rfl rfl ?_
  refine ⟨rfl, ?_⟩
  refine bEqI (bn_bi σ 6 13) ?_
  refine bGo hA 0 8 (12, .if_icmp .ge (70), 3, 9, 42, [], []) rfl rfl rfl ?_
  refine bB_lt (x := l2) (y := (bi σ 6 13)) h_l2 (bi_rg _ _ _) (fun c1 => ?_) (fun c1 => ?_)
  · refine bGo hA 0 9 (15, .aload_n 0, 1, 10, 0, [0], []) rfl rfl rfl ?_
    refine bGo hA 0 10 (16, .getfield 55, 3, 11, 0, [5, 1, 3, 6, 0, 0], []) rfl rfl rfl ?_
    refine ⟨rfl, ?_⟩
    refine bGo hA 0 11 (19, .iload_n 2, 1, 12, 0, [2], []) rfl rfl rfl ?_
    refine bGo hA 0 12 (20, .invokevirtual 113, 3, 13, 0, [0, 6, 89, 1], []) rfl rfl rfl ?_
    refine ⟨rfl, ?_⟩
    refine hC _ _ _ _ _ (bRa_e (fun r4 s2 k3 => ?_)) (h.1 c1)
    show A (13, [.ref 5, .int (bn l1), .int (bn l2), v3, v4], [.ref r4], s2)
    refine bGo hA 0 13 (23, .astore_n 3, 1, 14, 0, [3], []) rfl rfl rfl ?_
    refine bGo hA 0 14 (24, .aload_n 3, 1, 15, 0, [3], []) rfl rfl rfl ?_
    refine bGo hA 0 15 (25, .invokevirtual 92, 3, 16, 0, [0, 0, 10, 0], []) rfl rfl rfl ?_
    refine ⟨k3.1, ?_⟩
    refine hC _ _ _ _ _ (bRn_e (fun r7 s5 q8 k6 => ?_)) k3.2
    show A (16, [.ref 5, .int (bn l1), .int (bn l2), .ref r4, v4], [.int (bn r7)], s5)
    refine bGo hA 1 0 (28, .ifCond .ne (11), 3, 17, 21, [], []) rfl rfl rfl ?_
    refine bB_eq0 (x := r7) q8 (fun c9 => ?_) (fun c9 => ?_)
    · refine bGo hA 1 1 (31, .aload_n 3, 1, 18, 0, [3], []) rfl rfl rfl ?_
      refine bGo hA 1 2 (32, .getfield 193, 3, 19, 0, [0, 10, 0, 0, 0, 0], []) rfl rfl rfl ?_
      refine ⟨k3.1, ?_⟩
      refine bEqI (bn_bi s5 r4 10) ?_
      refine bGo hA 1 3 (35, .iconst (5), 1, 20, 0, [], [(5, 0)]) rfl rfl rfl ?_
      refine bEqI bl_5 ?_
      refine bGo hA 1 4 (36, .if_icmp .ne (7), 3, 21, 23, [], []) rfl rfl rfl ?_
      refine bB_eq (x := (bi s5 r4 10)) (y := 5) (bi_rg _ _ _) (by decide : bRg 5) (fun c10 => ?_) (fun c10 => ?_)
      · refine bGo hA 1 5 (39, .iconst (1), 1, 22, 0, [], [(1, 0)]) rfl rfl rfl ?_
        refine bEqI bl_1 ?_
        refine bGo hA 1 6 (40, .goto (4), 3, 23, 24, [], []) rfl rfl rfl ?_
        refine bGo hA 1 8 (44, .istore 4, 2, 25, 0, [4], []) rfl rfl rfl ?_
        refine bGo hA 1 9 (46, .iload 4, 2, 26, 0, [4], []) rfl rfl rfl ?_
        refine bGo hA 1 10 (48, .ifCond .eq (28), 3, 27, 40, [], []) rfl rfl rfl ?_
        refine ⟨fun c => absurd c (by decide), fun _ => ?_⟩
        refine bGo hA 1 11 (51, .iload_n 1, 1, 28, 0, [1], []) rfl rfl rfl ?_
        refine bGo hA 1 12 (52, .iconst (-1), 1, 29, 0, [], [(-1, 0)]) rfl rfl rfl ?_
        refine bEqI bl_m1 ?_
        refine bGo hA 1 13 (53, .if_icmp .eq (21), 3, 30, 38, [], []) rfl rfl rfl ?_
        refine bB_eq (x := l1) (y := (-1)) h_l1 (by decide : bRg (-1)) (fun c12 => ?_) (fun c12 => ?_)
        · refine bGo hA 2 6 (74, .iload_n 2, 1, 39, 0, [2], []) rfl rfl rfl ?_
          refine bGo hA 2 7 (75, .istore_n 1, 1, 40, 0, [1], []) rfl rfl rfl ?_
          refine bGo hA 2 8 (76, .iinc 2 (1), 3, 41, 0, [2], [(1, 0)]) rfl rfl rfl ?_
          refine bEqC (fun v => A (41, [.ref 5, .int (bn l2), .int v, .ref r4, .int (bn 1)], [], s5)) ((congrArg (fun w => bn l2 + w) bl_1).trans (bn_add l2 1)) ?_
          refine bGo hA 2 9 (79, .goto (-75), 3, 42, 4, [], []) rfl rfl rfl ?_
          exact (((k6.1 c9).1 c10).1 c12).2
        · refine bGo hA 1 14 (56, .aload_n 3, 1, 31, 0, [3], []) rfl rfl rfl ?_
          refine bGo hA 1 15 (57, .getfield 308, 3, 32, 0, [0, 12, 0, 0, 0, 0], []) rfl rfl rfl ?_
          refine ⟨k3.1, ?_⟩
          refine bEqI (bn_bi s5 r4 12) ?_
          refine bGo hA 2 0 (60, .aload_n 0, 1, 33, 0, [0], []) rfl rfl rfl ?_
          refine bGo hA 2 1 (61, .getfield 55, 3, 34, 0, [5, 1, 3, 6, 0, 0], []) rfl rfl rfl ?_
          refine ⟨rfl, ?_⟩
          refine bGo hA 2 2 (64, .iload_n 1, 1, 35, 0, [1], []) rfl rfl rfl ?_
          refine bGo hA 2 3 (65, .invokevirtual 113, 3, 36, 0, [0, 6, 89, 1], []) rfl rfl rfl ?_
          refine ⟨rfl, ?_⟩
          refine hC _ _ _ _ _ (bRa_e (fun r15 s13 k14 => ?_)) (((k6.1 c9).1 c10).2 c12)
          show A (36, [.ref 5, .int (bn l1), .int (bn l2), .ref r4, .int (bn 1)], [.ref r15, .int (bn (bi s5 r4 12))], s13)
          refine bGo hA 2 4 (68, .getfield 308, 3, 37, 0, [0, 12, 0, 0, 0, 0], []) rfl rfl rfl ?_
          refine ⟨k14.1, ?_⟩
          refine bEqI (bn_bi s13 r15 12) ?_
          refine bGo hA 2 5 (71, .if_icmp .le (5), 3, 38, 40, [], []) rfl rfl rfl ?_
          refine bB_lt (x := (bi s13 r15 12)) (y := (bi s5 r4 12)) (bi_rg _ _ _) (bi_rg _ _ _) (fun c16 => ?_) (fun c16 => ?_)
          · refine bGo hA 2 6 (74, .iload_n 2, 1, 39, 0, [2], []) rfl rfl rfl ?_
            refine bGo hA 2 7 (75, .istore_n 1, 1, 40, 0, [1], []) rfl rfl rfl ?_
            refine bGo hA 2 8 (76, .iinc 2 (1), 3, 41, 0, [2], [(1, 0)]) rfl rfl rfl ?_
            refine bEqC (fun v => A (41, [.ref 5, .int (bn l2), .int v, .ref r4, .int (bn 1)], [], s13)) ((congrArg (fun w => bn l2 + w) bl_1).trans (bn_add l2 1)) ?_
            refine bGo hA 2 9 (79, .goto (-75), 3, 42, 4, [], []) rfl rfl rfl ?_
            exact (k14.2.1 c16).2
          · refine bGo hA 2 8 (76, .iinc 2 (1), 3, 41, 0, [2], [(1, 0)]) rfl rfl rfl ?_
            refine bEqC (fun v => A (41, [.ref 5, .int (bn l1), .int v, .ref r4, .int (bn 1)], [], s13)) ((congrArg (fun w => bn l2 + w) bl_1).trans (bn_add l2 1)) ?_
            refine bGo hA 2 9 (79, .goto (-75), 3, 42, 4, [], []) rfl rfl rfl ?_
            exact (k14.2.2 c16).2
      · refine bGo hA 1 7 (43, .iconst (0), 1, 24, 0, [], [(0, 0)]) rfl rfl rfl ?_
        refine bEqI bl_0 ?_
        refine bGo hA 1 8 (44, .istore 4, 2, 25, 0, [4], []) rfl rfl rfl ?_
        refine bGo hA 1 9 (46, .iload 4, 2, 26, 0, [4], []) rfl rfl rfl ?_
        refine bGo hA 1 10 (48, .ifCond .eq (28), 3, 27, 40, [], []) rfl rfl rfl ?_
        refine ⟨fun _ => ?_, fun c => absurd (by decide) c⟩
        refine bGo hA 2 8 (76, .iinc 2 (1), 3, 41, 0, [2], [(1, 0)]) rfl rfl rfl ?_
        refine bEqC (fun v => A (41, [.ref 5, .int (bn l1), .int v, .ref r4, .int (bn 0)], [], s5)) ((congrArg (fun w => bn l2 + w) bl_1).trans (bn_add l2 1)) ?_
        refine bGo hA 2 9 (79, .goto (-75), 3, 42, 4, [], []) rfl rfl rfl ?_
        exact ((k6.1 c9).2 c10).2
    · refine bGo hA 1 5 (39, .iconst (1), 1, 22, 0, [], [(1, 0)]) rfl rfl rfl ?_
      refine bEqI bl_1 ?_
      refine bGo hA 1 6 (40, .goto (4), 3, 23, 24, [], []) rfl rfl rfl ?_
      refine bGo hA 1 8 (44, .istore 4, 2, 25, 0, [4], []) rfl rfl rfl ?_
      refine bGo hA 1 9 (46, .iload 4, 2, 26, 0, [4], []) rfl rfl rfl ?_
      refine bGo hA 1 10 (48, .ifCond .eq (28), 3, 27, 40, [], []) rfl rfl rfl ?_
      refine ⟨fun c => absurd c (by decide), fun _ => ?_⟩
      refine bGo hA 1 11 (51, .iload_n 1, 1, 28, 0, [1], []) rfl rfl rfl ?_
      refine bGo hA 1 12 (52, .iconst (-1), 1, 29, 0, [], [(-1, 0)]) rfl rfl rfl ?_
      refine bEqI bl_m1 ?_
      refine bGo hA 1 13 (53, .if_icmp .eq (21), 3, 30, 38, [], []) rfl rfl rfl ?_
      refine bB_eq (x := l1) (y := (-1)) h_l1 (by decide : bRg (-1)) (fun c19 => ?_) (fun c19 => ?_)
      · refine bGo hA 2 6 (74, .iload_n 2, 1, 39, 0, [2], []) rfl rfl rfl ?_
        refine bGo hA 2 7 (75, .istore_n 1, 1, 40, 0, [1], []) rfl rfl rfl ?_
        refine bGo hA 2 8 (76, .iinc 2 (1), 3, 41, 0, [2], [(1, 0)]) rfl rfl rfl ?_
        refine bEqC (fun v => A (41, [.ref 5, .int (bn l2), .int v, .ref r4, .int (bn 1)], [], s5)) ((congrArg (fun w => bn l2 + w) bl_1).trans (bn_add l2 1)) ?_
        refine bGo hA 2 9 (79, .goto (-75), 3, 42, 4, [], []) rfl rfl rfl ?_
        exact ((k6.2 c9).1 c19).2
      · refine bGo hA 1 14 (56, .aload_n 3, 1, 31, 0, [3], []) rfl rfl rfl ?_
        refine bGo hA 1 15 (57, .getfield 308, 3, 32, 0, [0, 12, 0, 0, 0, 0], []) rfl rfl rfl ?_
        refine ⟨k3.1, ?_⟩
        refine bEqI (bn_bi s5 r4 12) ?_
        refine bGo hA 2 0 (60, .aload_n 0, 1, 33, 0, [0], []) rfl rfl rfl ?_
        refine bGo hA 2 1 (61, .getfield 55, 3, 34, 0, [5, 1, 3, 6, 0, 0], []) rfl rfl rfl ?_
        refine ⟨rfl, ?_⟩
        refine bGo hA 2 2 (64, .iload_n 1, 1, 35, 0, [1], []) rfl rfl rfl ?_
        refine bGo hA 2 3 (65, .invokevirtual 113, 3, 36, 0, [0, 6, 89, 1], []) rfl rfl rfl ?_
        refine ⟨rfl, ?_⟩
        refine hC _ _ _ _ _ (bRa_e (fun r22 s20 k21 => ?_)) ((k6.2 c9).2 c19)
        show A (36, [.ref 5, .int (bn l1), .int (bn l2), .ref r4, .int (bn 1)], [.ref r22, .int (bn (bi s5 r4 12))], s20)
        refine bGo hA 2 4 (68, .getfield 308, 3, 37, 0, [0, 12, 0, 0, 0, 0], []) rfl rfl rfl ?_
        refine ⟨k21.1, ?_⟩
        refine bEqI (bn_bi s20 r22 12) ?_
        refine bGo hA 2 5 (71, .if_icmp .le (5), 3, 38, 40, [], []) rfl rfl rfl ?_
        refine bB_lt (x := (bi s20 r22 12)) (y := (bi s5 r4 12)) (bi_rg _ _ _) (bi_rg _ _ _) (fun c23 => ?_) (fun c23 => ?_)
        · refine bGo hA 2 6 (74, .iload_n 2, 1, 39, 0, [2], []) rfl rfl rfl ?_
          refine bGo hA 2 7 (75, .istore_n 1, 1, 40, 0, [1], []) rfl rfl rfl ?_
          refine bGo hA 2 8 (76, .iinc 2 (1), 3, 41, 0, [2], [(1, 0)]) rfl rfl rfl ?_
          refine bEqC (fun v => A (41, [.ref 5, .int (bn l2), .int v, .ref r4, .int (bn 1)], [], s20)) ((congrArg (fun w => bn l2 + w) bl_1).trans (bn_add l2 1)) ?_
          refine bGo hA 2 9 (79, .goto (-75), 3, 42, 4, [], []) rfl rfl rfl ?_
          exact (k21.2.1 c23).2
        · refine bGo hA 2 8 (76, .iinc 2 (1), 3, 41, 0, [2], [(1, 0)]) rfl rfl rfl ?_
          refine bEqC (fun v => A (41, [.ref 5, .int (bn l1), .int v, .ref r4, .int (bn 1)], [], s20)) ((congrArg (fun w => bn l2 + w) bl_1).trans (bn_add l2 1)) ?_
          refine bGo hA 2 9 (79, .goto (-75), 3, 42, 4, [], []) rfl rfl rfl ?_
          exact (k21.2.2 c23).2
  · refine bGo hA 2 10 (82, .iload_n 1, 1, 43, 0, [1], []) rfl rfl rfl ?_
    refine bGo hA 2 11 (83, .ireturn, 1, 0, 0, [1], []) rfl rfl rfl ?_
    exact (h.2 c1)

theorem sq66_0 {lvl : Nat} {C : bCall} {Q : bPost} {A : bPt → Prop} (hC : bMono C) (hA : bClosed lvl bm66 C Q A) {a1 : Nat} {σ : bSt} (h_a1 : a1 % 256 = 0) 
  (h : A (4, [.ref 5, .ref a1, .int (bn (-1)), .int (bn 0), .float 0, .float 0, .float 0], [], σ)) : A (0, [.ref 5, .ref a1, .float 0, .float 0, .float 0, .float 0, .float 0], [], σ) := by
  refine bGo hA 0 0 (0, .iconst (-1), 1, 1, 0, [], [(-1, 0)]) rfl rfl rfl ?_
  refine bEqI bl_m1 ?_
  refine bGo hA 0 1 (1, .istore_n 2, 1, 2, 0, [2], []) rfl rfl rfl ?_
  refine bGo hA 0 2 (2, .iconst (0), 1, 3, 0, [], [(0, 0)]) rfl rfl rfl ?_
  refine bEqI bl_0 ?_
  refine bGo hA 0 3 (3, .istore_n 3, 1, 4, 0, [3], []) rfl rfl rfl ?_
  exact h

theorem sq66_4 {lvl : Nat} {C : bCall} {Q : bPost} {A : bPt → Prop} (hC : bMono C) (hA : bClosed lvl bm66 C Q A) {l1 : Nat} {l2 : Int} {l3 : Int} {v4 : Value} {v5 : Value} {v6 : Value} {σ : bSt}  (h_l2 : bRg l2) (h_l3 : bRg l3)
  (h : (l1 % 256 = 0 ∧ ((l3 < (bi σ l1 1) → (C 5 [.ref l1, .int (bn l3)] σ (bRn (fun r4 s2 => (C 89 [.ref 6, .int (bn r4)] s2 (bRa (fun r8 s6 => (r8 % 256 = 0 ∧ (C 89 [.ref 6, .int (bn l2)] s6 (bRa (fun r11 s9 => (r11 % 256 = 0 ∧ ((r4 = (-1) → (bRg (l3 + 1) ∧ A (4, [.ref 5, .ref l1, .int (bn l2), .int (bn (l3 + 1)), .int (bn r4), .int (bn (bi s6 r8 12)), .int (bn (bi s9 r11 12))], [], s9))) ∧ (¬ r4 = (-1) → ((l2 = (-1) → (bRg (l3 + 1) ∧ A (4, [.ref 5, .ref l1, .int (bn r4), .int (bn (l3 + 1)), .int (bn r4), .int (bn (bi s6 r8 12)), .int (bn (bi s9 r11 12))], [], s9))) ∧ (¬ l2 = (-1) → (((bi s9 r11 12) < (bi s6 r8 12) → (bRg (l3 + 1) ∧ A (4, [.ref 5, .ref l1, .int (bn r4), .int (bn (l3 + 1)), .int (bn r4), .int (bn (bi s6 r8 12)), .int (bn (bi s9 r11 12))], [], s9))) ∧ (¬ (bi s9 r11 12) < (bi s6 r8 12) → (((bi s6 r8 12) = (bi s9 r11 12) → ((r4 < l2 → (bRg (l3 + 1) ∧ A (4, [.ref 5, .ref l1, .int (bn r4), .int (bn (l3 + 1)), .int (bn r4), .int (bn (bi s6 r8 12)), .int (bn (bi s9 r11 12))], [], s9))) ∧ (¬ r4 < l2 → (bRg (l3 + 1) ∧ A (4, [.ref 5, .ref l1, .int (bn l2), .int (bn (l3 + 1)), .int (bn r4), .int (bn (bi s6 r8 12)), .int (bn (bi s9 r11 12))], [], s9))))) ∧ (¬ (bi s6 r8 12) = (bi s9 r11 12) → (bRg (l3 + 1) ∧ A (4, [.ref 5, .ref l1, .int (bn l2), .int (bn (l3 + 1)), .int (bn r4), .int (bn (bi s6 r8 12)), .int (bn (bi s9 r11 12))], [], s9)))))))))))))))))))))) ∧ (¬ l3 < (bi σ l1 1) → Q (.inl (some (.int (bn l2)))) σ)))) : A (4, [.ref 5, .ref l1, .int (bn l2), .int (bn l3), v4, v5, v6], [], σ) := by
  refine bGo hA 0 4 (4, .iload_n 3, 1, 5, 0, [3], []) rfl rfl rfl ?_
  refine bGo hA 0 5 (5, .aload_n 1, 1, 6, 0, [1], []) rfl rfl rfl ?_
  refine bGo hA 0 6 (6, .getfield 136, 3, 7, 0, [0, 1, 0, 0, 0, 0], []) rfl rfl rfl ?_
  refine ⟨h.1, ?_⟩
  refine bEqI (bn_bi σ l1 1) ?_
  refine bGo hA 0 7 (9, .if_icmp .ge (77), 3, 8, 43, [], []) rfl rfl rfl ?_
  refine bB_lt (x := l3) (y := (bi σ l1 1)) h_l3 (bi_rg _ _ _) (fun c1 => ?_) (fun c1 => ?_)
  · refine bGo hA 0 8 (12, .aload_n 1, 1, 9, 0, [1], []) rfl rfl rfl ?_
    refine bGo hA 0 9 (13, .iload_n 3, 1, 10, 0, [3], []) rfl rfl rfl ?_
    refine bGo hA 0 10 (14, .invokevirtual 139, 3, 11, 0, [0, 0, 5, 1], []) rfl rfl rfl ?_
    refine ⟨h.1, ?_⟩
    refine hC _ _ _ _ _ (bRn_e (fun r4 s2 q5 k3 => ?_)) (h.2.1 c1)
    show A (11, [.ref 5, .ref l1, .int (bn l2), .int (bn l3), v4, v5, v6], [.int (bn r4)], s2)
    refine bGo hA 0 11 (17, .istore 4, 2, 12, 0, [4], []) rfl rfl rfl ?_
    refine bGo hA 0 12 (19, .aload_n 0, 1, 13, 0, [0], []) rfl rfl rfl ?_
    refine bGo hA 0 13 (20, .getfield 55, 3, 14, 0, [5, 1, 3, 6, 0, 0], []) rfl rfl rfl ?_
    refine ⟨rfl, ?_⟩
    refine bGo hA 0 14 (23, .iload 4, 2, 15, 0, [4], []) rfl rfl rfl ?_
    refine bGo hA 0 15 (25, .invokevirtual 113, 3, 16, 0, [0, 6, 89, 1], []) rfl rfl rfl ?_
    refine ⟨rfl, ?_⟩
    refine hC _ _ _ _ _ (bRa_e (fun r8 s6 k7 => ?_)) k3
    show A (16, [.ref 5, .ref l1, .int (bn l2), .int (bn l3), .int (bn r4), v5, v6], [.ref r8], s6)
    refine bGo hA 1 0 (28, .getfield 308, 3, 17, 0, [0, 12, 0, 0, 0, 0], []) rfl rfl rfl ?_
    refine ⟨k7.1, ?_⟩
    refine bEqI (bn_bi s6 r8 12) ?_
    refine bGo hA 1 1 (31, .istore 5, 2, 18, 0, [5], []) rfl rfl rfl ?_
    refine bGo hA 1 2 (33, .aload_n 0, 1, 19, 0, [0], []) rfl rfl rfl ?_
    refine bGo hA 1 3 (34, .getfield 55, 3, 20, 0, [5, 1, 3, 6, 0, 0], []) rfl rfl rfl ?_
    refine ⟨rfl, ?_⟩
    refine bGo hA 1 4 (37, .iload_n 2, 1, 21, 0, [2], []) rfl rfl rfl ?_
    refine bGo hA 1 5 (38, .invokevirtual 113, 3, 22, 0, [0, 6, 89, 1], []) rfl rfl rfl ?_
    refine ⟨rfl, ?_⟩
    refine hC _ _ _ _ _ (bRa_e (fun r11 s9 k10 => ?_)) k7.2
    show A (22, [.ref 5, .ref l1, .int (bn l2), .int (bn l3), .int (bn r4), .int (bn (bi s6 r8 12)), v6], [.ref r11], s9)
    refine bGo hA 1 6 (41, .getfield 308, 3, 23, 0, [0, 12, 0, 0, 0, 0], []) rfl rfl rfl ?_
    refine ⟨k10.1, ?_⟩
    refine bEqI (bn_bi s9 r11 12) ?_
    refine bGo hA 1 7 (44, .istore 6, 2, 24, 0, [6], []) rfl rfl rfl ?_
    refine bGo hA 1 8 (46, .iload 4, 2, 25, 0, [4], []) rfl rfl rfl ?_
    refine bGo hA 1 9 (48, .iconst (-1), 1, 26, 0, [], [(-1, 0)]) rfl rfl rfl ?_
    refine bEqI bl_m1 ?_
    refine bGo hA 1 10 (49, .if_icmp .eq (31), 3, 27, 41, [], []) rfl rfl rfl ?_
    refine bB_eq (x := r4) (y := (-1)) q5 (by decide : bRg (-1)) (fun c12 => ?_) (fun c12 => ?_)
    · refine bGo hA 2 9 (80, .iinc 3 (1), 3, 42, 0, [3], [(1, 0)]) rfl rfl rfl ?_
      refine bEqC (fun v => A (42, [.ref 5, .ref l1, .int (bn l2), .int v, .int (bn r4), .int (bn (bi s6 r8 12)), .int (bn (bi s9 r11 12))], [], s9)) ((congrArg (fun w => bn l3 + w) bl_1).trans (bn_add l3 1)) ?_
      refine bGo hA 2 10 (83, .goto (-79), 3, 43, 4, [], []) rfl rfl rfl ?_
      exact (k10.2.1 c12).2
    · refine bGo hA 1 11 (52, .iload_n 2, 1, 28, 0, [2], []) rfl rfl rfl ?_
      refine bGo hA 1 12 (53, .iconst (-1), 1, 29, 0, [], [(-1, 0)]) rfl rfl rfl ?_
      refine bEqI bl_m1 ?_
      refine bGo hA 1 13 (54, .if_icmp .eq (23), 3, 30, 39, [], []) rfl rfl rfl ?_
      refine bB_eq (x := l2) (y := (-1)) h_l2 (by decide : bRg (-1)) (fun c13 => ?_) (fun c13 => ?_)
      · refine bGo hA 2 7 (77, .iload 4, 2, 40, 0, [4], []) rfl rfl rfl ?_
        refine bGo hA 2 8 (79, .istore_n 2, 1, 41, 0, [2], []) rfl rfl rfl ?_
        refine bGo hA 2 9 (80, .iinc 3 (1), 3, 42, 0, [3], [(1, 0)]) rfl rfl rfl ?_
        refine bEqC (fun v => A (42, [.ref 5, .ref l1, .int (bn r4), .int v, .int (bn r4), .int (bn (bi s6 r8 12)), .int (bn (bi s9 r11 12))], [], s9)) ((congrArg (fun w => bn l3 + w) bl_1).trans (bn_add l3 1)) ?_
        refine bGo hA 2 10 (83, .goto (-79), 3, 43, 4, [], []) rfl rfl rfl ?_
        exact ((k10.2.2 c12).1 c13).2
      · refine bGo hA 1 14 (57, .iload 5, 2, 31, 0, [5], []) rfl rfl rfl ?_
        refine bGo hA 1 15 (59, .iload 6, 2, 32, 0, [6], []) rfl rfl rfl ?_
        refine bGo hA 2 0 (61, .if_icmp .gt (16), 3, 33, 39, [], []) rfl rfl rfl ?_
        refine bB_lt (x := (bi s9 r11 12)) (y := (bi s6 r8 12)) (bi_rg _ _ _) (bi_rg _ _ _) (fun c14 => ?_) (fun c14 => ?_)
        · refine bGo hA 2 7 (77, .iload 4, 2, 40, 0, [4], []) rfl rfl rfl ?_
          refine bGo hA 2 8 (79, .istore_n 2, 1, 41, 0, [2], []) rfl rfl rfl ?_
          refine bGo hA 2 9 (80, .iinc 3 (1), 3, 42, 0, [3], [(1, 0)]) rfl rfl rfl ?_
          refine bEqC (fun v => A (42, [.ref 5, .ref l1, .int (bn r4), .int v, .int (bn r4), .int (bn (bi s6 r8 12)), .int (bn (bi s9 r11 12))], [], s9)) ((congrArg (fun w => bn l3 + w) bl_1).trans (bn_add l3 1)) ?_
          refine bGo hA 2 10 (83, .goto (-79), 3, 43, 4, [], []) rfl rfl rfl ?_
          exact (((k10.2.2 c12).2 c13).1 c14).2
        · refine bGo hA 2 1 (64, .iload 5, 2, 34, 0, [5], []) rfl rfl rfl ?_
          refine bGo hA 2 2 (66, .iload 6, 2, 35, 0, [6], []) rfl rfl rfl ?_
          refine bGo hA 2 3 (68, .if_icmp .ne (12), 3, 36, 41, [], []) rfl rfl rfl ?_
          refine bB_eq (x := (bi s6 r8 12)) (y := (bi s9 r11 12)) (bi_rg _ _ _) (bi_rg _ _ _) (fun c15 => ?_) (fun c15 => ?_)
          · refine bGo hA 2 4 (71, .iload 4, 2, 37, 0, [4], []) rfl rfl rfl ?_
            refine bGo hA 2 5 (73, .iload_n 2, 1, 38, 0, [2], []) rfl rfl rfl ?_
            refine bGo hA 2 6 (74, .if_icmp .ge (6), 3, 39, 41, [], []) rfl rfl rfl ?_
            refine bB_lt (x := r4) (y := l2) q5 h_l2 (fun c16 => ?_) (fun c16 => ?_)
            · refine bGo hA 2 7 (77, .iload 4, 2, 40, 0, [4], []) rfl rfl rfl ?_
              refine bGo hA 2 8 (79, .istore_n 2, 1, 41, 0, [2], []) rfl rfl rfl ?_
              refine bGo hA 2 9 (80, .iinc 3 (1), 3, 42, 0, [3], [(1, 0)]) rfl rfl rfl ?_
              refine bEqC (fun v => A (42, [.ref 5, .ref l1, .int (bn r4), .int v, .int (bn r4), .int (bn (bi s6 r8 12)), .int (bn (bi s9 r11 12))], [], s9)) ((congrArg (fun w => bn l3 + w) bl_1).trans (bn_add l3 1)) ?_
              refine bGo hA 2 10 (83, .goto (-79), 3, 43, 4, [], []) rfl rfl rfl ?_
              exact (((((k10.2.2 c12).2 c13).2 c14).1 c15).1 c16).2
            · refine bGo hA 2 9 (80, .iinc 3 (1), 3, 42, 0, [3], [(1, 0)]) rfl rfl rfl ?_
              refine bEqC (fun v => A (42, [.ref 5, .ref l1, .int (bn l2), .int v, .int (bn r4), .int (bn (bi s6 r8 12)), .int (bn (bi s9 r11 12))], [], s9)) ((congrArg (fun w => bn l3 + w) bl_1).trans (bn_add l3 1)) ?_
              refine bGo hA 2 10 (83, .goto (-79), 3, 43, 4, [], []) rfl rfl rfl ?_
              exact (((((k10.2.2 c12).2 c13).2 c14).1 c15).2 c16).2
          · refine bGo hA 2 9 (80, .iinc 3 (1), 3, 42, 0, [3], [(1, 0)]) rfl rfl rfl ?_
            refine bEqC (fun v => A (42, [.ref 5, .ref l1, .int (bn l2), .int v, .int (bn r4), .int (bn (bi s6 r8 12)), .int (bn (bi s9 r11 12))], [], s9)) ((congrArg (fun w => bn l3 + w) bl_1).trans (bn_add l3 1)) ?_
            refine bGo hA 2 10 (83, .goto (-79), 3, 43, 4, [], []) rfl rfl rfl ?_
            exact ((((k10.2.2 c12).2 c13).2 c14).2 c15).2
  · refine bGo hA 2 11 (86, .iload_n 2, 1, 44, 0, [2], []) rfl rfl rfl ?_
    refine bGo hA 2 12 (87, .ireturn, 1, 0, 0, [1], []) rfl rfl rfl ?_
    exact (h.2.2 c1)

theorem sq301_0 {lvl : Nat} {C : bCall} {Q : bPost} {A : bPt → Prop} (hC : bMono C) (hA : bClosed lvl bm301 C Q A) {x1 : Int} {σ : bSt}  (h_x1 : bRg x1)
  (h : (C 281 [.ref 12, .int (bn x1)] σ (bRn (fun r3 s1 => ((r3 = 0 → ((0 ≤ x1 ∧ x1 < 120) ∧ (((bi s1 142 x1) = 5 → Q (.inl (some (.int (bn 1)))) s1) ∧ (¬ (bi s1 142 x1) = 5 → Q (.inl (some (.int (bn 0)))) s1)))) ∧ (¬ r3 = 0 → Q (.inl (some (.int (bn 1)))) s1)))))) : A (0, [.ref 12, .int (bn x1)], [], σ) := by
  refine bGo hA 0 0 (0, .aload_n 0, 1, 1, 0, [0], []) rfl rfl rfl ?_
  refine bGo hA 0 1 (1, .iload_n 1, 1, 2, 0, [1], []) rfl rfl rfl ?_
  refine bGo hA 0 2 (2, .invokevirtual 509, 3, 3, 0, [0, 12, 281, 1], []) rfl rfl rfl ?_
  refine ⟨rfl, ?_⟩
  refine hC _ _ _ _ _ (bRn_e (fun r3 s1 q4 k2 => ?_)) h
  show A (3, [.ref 12, .int (bn x1)], [.int (bn r3)], s1)
  refine bGo hA 0 3 (5, .ifCond .ne (13), 3, 4, 10, [], []) rfl rfl rfl ?_
  refine bB_eq0 (x := r3) q4 (fun c5 => ?_) (fun c5 => ?_)
  · refine bGo hA 0 4 (8, .aload_n 0, 1, 5, 0, [0], []) rfl rfl rfl ?_
    refine bGo hA 0 5 (9, .getfield 269, 3, 6, 0, [12, 98, 3, 142, 1, 0], []) rfl rfl rfl ?_
    refine ⟨rfl, ?_⟩
    refine bGo hA 0 6 (12, .iload_n 1, 1, 7, 0, [1], []) rfl rfl rfl ?_
    refine bGo hA 0 7 (13, .iaload, 1, 8, 0, [], []) rfl rfl rfl ?_
    refine ⟨rfl, (bIxP (x := x1) (n := 120) h_x1 (k2.1 c5).1), ?_⟩
    refine bEqL (x := x1) h_x1 ?_
    refine bGo hA 0 8 (14, .iconst (5), 1, 9, 0, [], [(5, 0)]) rfl rfl rfl ?_
    refine bEqI bl_5 ?_
    refine bGo hA 0 9 (15, .if_icmp .ne (7), 3, 10, 12, [], []) rfl rfl rfl ?_
    refine bB_eq (x := (bi s1 142 x1)) (y := 5) (bi_rg _ _ _) (by decide : bRg 5) (fun c6 => ?_) (fun c6 => ?_)
    · refine bGo hA 0 10 (18, .iconst (1), 1, 11, 0, [], [(1, 0)]) rfl rfl rfl ?_
      refine bEqI bl_1 ?_
      refine bGo hA 0 11 (19, .goto (4), 3, 12, 13, [], []) rfl rfl rfl ?_
      refine bGo hA 0 13 (23, .ireturn, 1, 0, 0, [2], []) rfl rfl rfl ?_
      exact ⟨b01 (Or.inr rfl), ((k2.1 c5).2.1 c6)⟩
    · refine bGo hA 0 12 (22, .iconst (0), 1, 13, 0, [], [(0, 0)]) rfl rfl rfl ?_
      refine bEqI bl_0 ?_
      refine bGo hA 0 13 (23, .ireturn, 1, 0, 0, [2], []) rfl rfl rfl ?_
      exact ⟨b01 (Or.inl rfl), ((k2.1 c5).2.2 c6)⟩
  · refine bGo hA 0 10 (18, .iconst (1), 1, 11, 0, [], [(1, 0)]) rfl rfl rfl ?_
    refine bEqI bl_1 ?_
    refine bGo hA 0 11 (19, .goto (4), 3, 12, 13, [], []) rfl rfl rfl ?_
    refine bGo hA 0 13 (23, .ireturn, 1, 0, 0, [2], []) rfl rfl rfl ?_
    exact ⟨b01 (Or.inr rfl), (k2.2 c5)⟩

theorem sq302_0 {lvl : Nat} {C : bCall} {Q : bPost} {A : bPt → Prop} (hC : bMono C) (hA : bClosed lvl bm302 C Q A) {x1 : Int} {σ : bSt}  (h_x1 : bRg x1)
  (h : ((x1 < 0 → (C 197 [.ref 12, .int (bn 1)] σ (bRn (fun r4 s2 => ((r4 = 0 → (bRg ((bi s2 12 49) - 1) ∧ A (17, [.ref 12, .int (bn x1), .int (bn (-1)), .int (bn ((bi s2 12 49) - 1)), .float 0, .float 0, .float 0, .float 0], [], s2))) ∧ (¬ r4 = 0 → Q (.inl (some (.int (bn 0)))) s2)))))) ∧ (¬ x1 < 0 → (C 197 [.ref 12, .int (bn 0)] σ (bRn (fun r9 s7 => ((r9 = 0 → (bRg ((bi s7 12 49) - 1) ∧ A (17, [.ref 12, .int (bn x1), .int (bn (-1)), .int (bn ((bi s7 12 49) - 1)), .float 0, .float 0, .float 0, .float 0], [], s7))) ∧ (¬ r9 = 0 → Q (.inl (some (.int (bn 0)))) s7)))))))) : A (0, [.ref 12, .int (bn x1), .float 0, .float 0, .float 0, .float 0, .float 0, .float 0], [], σ) := by
  refine bGo hA 0 0 (0, .aload_n 0, 1, 1, 0, [0], []) rfl rfl rfl ?_
  refine bGo hA 0 1 (1, .iload_n 1, 1, 2, 0, [1], []) rfl rfl rfl ?_
  refine bGo hA 0 2 (2, .ifCond .lt (7), 3, 3, 5, [], []) rfl rfl rfl ?_
  refine bB_lt0 (x := x1) h_x1 (fun c1 => ?_) (fun c1 => ?_)
  · refine bGo hA 0 5 (9, .iconst (1), 1, 6, 0, [], [(1, 0)]) rfl rfl rfl ?_
    refine bEqI bl_1 ?_
    refine bGo hA 0 6 (10, .invokevirtual 333, 3, 7, 0, [0, 12, 197, 1], []) rfl rfl rfl ?_
    refine ⟨rfl, ?_⟩
    refine hC _ _ _ _ _ (bRn_e (fun r4 s2 q5 k3 => ?_)) (h.1 c1)
    show A (7, [.ref 12, .int (bn x1), .float 0, .float 0, .float 0, .float 0, .float 0, .float 0], [.int (bn r4)], s2)
    refine bGo hA 0 7 (13, .ifCond .eq (5), 3, 8, 10, [], []) rfl rfl rfl ?_
    refine bB_eq0 (x := r4) q5 (fun c6 => ?_) (fun c6 => ?_)
    · refine bGo hA 0 10 (18, .iconst (-1), 1, 11, 0, [], [(-1, 0)]) rfl rfl rfl ?_
      refine bEqI bl_m1 ?_
      refine bGo hA 0 11 (19, .istore_n 2, 1, 12, 0, [2], []) rfl rfl rfl ?_
      refine bGo hA 0 12 (20, .aload_n 0, 1, 13, 0, [0], []) rfl rfl rfl ?_
      refine bGo hA 0 13 (21, .getfield 410, 3, 14, 0, [12, 49, 0, 0, 0, 0], []) rfl rfl rfl ?_
      refine ⟨rfl, ?_⟩
      refine bEqI (bn_bi s2 12 49) ?_
      refine bGo hA 0 14 (24, .iconst (1), 1, 15, 0, [], [(1, 0)]) rfl rfl rfl ?_
      refine bEqI bl_1 ?_
      refine bGo hA 0 15 (25, .isub, 1, 16, 0, [], []) rfl rfl rfl ?_
      refine bEqI (bn_sub (bi s2 12 49) 1) ?_
      refine bGo hA 1 0 (26, .istore_n 3, 1, 17, 0, [3], []) rfl rfl rfl ?_
      exact (k3.1 c6).2
    · refine bGo hA 0 8 (16, .iconst (0), 1, 9, 0, [], [(0, 0)]) rfl rfl rfl ?_
      refine bEqI bl_0 ?_
      refine bGo hA 0 9 (17, .ireturn, 1, 10, 0, [1], []) rfl rfl rfl ?_
      exact (k3.2 c6)
  · refine bGo hA 0 3 (5, .iconst (0), 1, 4, 0, [], [(0, 0)]) rfl rfl rfl ?_
    refine bEqI bl_0 ?_
    refine bGo hA 0 4 (6, .goto (4), 3, 5, 6, [], []) rfl rfl rfl ?_
    refine bGo hA 0 6 (10, .invokevirtual 333, 3, 7, 0, [0, 12, 197, 1], []) rfl rfl rfl ?_
    refine ⟨rfl, ?_⟩
    refine hC _ _ _ _ _ (bRn_e (fun r9 s7 q10 k8 => ?_)) (h.2 c1)
    show A (7, [.ref 12, .int (bn x1), .float 0, .float 0, .float 0, .float 0, .float 0, .float 0], [.int (bn r9)], s7)
    refine bGo hA 0 7 (13, .ifCond .eq (5), 3, 8, 10, [], []) rfl rfl rfl ?_
    refine bB_eq0 (x := r9) q10 (fun c11 => ?_) (fun c11 => ?_)
    · refine bGo hA 0 10 (18, .iconst (-1), 1, 11, 0, [], [(-1, 0)]) rfl rfl rfl ?_
      refine bEqI bl_m1 ?_
      refine bGo hA 0 11 (19, .istore_n 2, 1, 12, 0, [2], []) rfl rfl rfl ?_
      refine bGo hA 0 12 (20, .aload_n 0, 1, 13, 0, [0], []) rfl rfl rfl ?_
      refine bGo hA 0 13 (21, .getfield 410, 3, 14, 0, [12, 49, 0, 0, 0, 0], []) rfl rfl rfl ?_
      refine ⟨rfl, ?_⟩
      refine bEqI (bn_bi s7 12 49) ?_
      refine bGo hA 0 14 (24, .iconst (1), 1, 15, 0, [], [(1, 0)]) rfl rfl rfl ?_
      refine bEqI bl_1 ?_
      refine bGo hA 0 15 (25, .isub, 1, 16, 0, [], []) rfl rfl rfl ?_
      refine bEqI (bn_sub (bi s7 12 49) 1) ?_
      refine bGo hA 1 0 (26, .istore_n 3, 1, 17, 0, [3], []) rfl rfl rfl ?_
      exact (k8.1 c11).2
    · refine bGo hA 0 8 (16, .iconst (0), 1, 9, 0, [], [(0, 0)]) rfl rfl rfl ?_
      refine bEqI bl_0 ?_
      refine bGo hA 0 9 (17, .ireturn, 1, 10, 0, [1], []) rfl rfl rfl ?_
      exact (k8.2 c11)

theorem sq302_17 {lvl : Nat} {C : bCall} {Q : bPost} {A : bPt → Prop} (hC : bMono C) (hA : bClosed lvl bm302 C Q A) {l1 : Int} {l2 : Int} {l3 : Int} {v4 : Value} {v5 : Value} {v6 : Value} {v7 : Value} {σ : bSt}  (h_l1 : bRg l1) (h_l2 : bRg l2) (h_l3 : bRg l3)
  (h : ((l3 < 0 → A (48, [.ref 12, .int (bn l1), .int (bn l2), .int (bn 0), v4, v5, v6, v7], [], σ)) ∧ (¬ l3 < 0 → ((0 ≤ l3 ∧ l3 < 120) ∧ (((bi σ 140 l3) = 0 → (bRg (l3 + (-1)) ∧ A (17, [.ref 12, .int (bn l1), .int (bn l2), .int (bn (l3 + (-1))), v4, v5, v6, v7], [], σ))) ∧ (¬ (bi σ 140 l3) = 0 → (C 301 [.ref 12, .int (bn l3)] σ (bRn (fun r5 s3 => ((r5 = 0 → (bRg (l3 + (-1)) ∧ A (17, [.ref 12, .int (bn l1), .int (bn l2), .int (bn (l3 + (-1))), v4, v5, v6, v7], [], s3))) ∧ (¬ r5 = 0 → ((l2 = (-1) → (bRg (l3 + (-1)) ∧ A (17, [.ref 12, .int (bn l1), .int (bn l3), .int (bn (l3 + (-1))), v4, v5, v6, v7], [], s3))) ∧ (¬ l2 = (-1) → ((0 ≤ l2 ∧ l2 < 120) ∧ (((bi s3 144 l3) < (bi s3 144 l2) → (bRg (l3 + (-1)) ∧ A (17, [.ref 12, .int (bn l1), .int (bn l2), .int (bn (l3 + (-1))), v4, v5, v6, v7], [], s3))) ∧ (¬ (bi s3 144 l3) < (bi s3 144 l2) → (bRg (l3 + (-1)) ∧ A (17, [.ref 12, .int (bn l1), .int (bn l3), .int (bn (l3 + (-1))), v4, v5, v6, v7], [], s3)))))))))))))))))) : A (17, [.ref 12, .int (bn l1), .int (bn l2), .int (bn l3), v4, v5, v6, v7], [], σ) := by
  refine bGo hA 1 1 (27, .iload_n 3, 1, 18, 0, [3], []) rfl rfl rfl ?_
  refine bGo hA 1 2 (28, .ifCond .lt (52), 3, 19, 46, [], []) rfl rfl rfl ?_
  refine bB_lt0 (x := l3) h_l3 (fun c1 => ?_) (fun c1 => ?_)
  · refine bGo hA 2 14 (80, .iconst (0), 1, 47, 0, [], [(0, 0)]) rfl rfl rfl ?_
    refine bEqI bl_0 ?_
    refine bGo hA 2 15 (81, .istore_n 3, 1, 48, 0, [3], []) rfl rfl rfl ?_
    exact (h.1 c1)
  · refine bGo hA 1 3 (31, .aload_n 0, 1, 20, 0, [0], []) rfl rfl rfl ?_
    refine bGo hA 1 4 (32, .getfield 263, 3, 21, 0, [12, 96, 3, 140, 1, 0], []) rfl rfl rfl ?_
    refine ⟨rfl, ?_⟩
    refine bGo hA 1 5 (35, .iload_n 3, 1, 22, 0, [3], []) rfl rfl rfl ?_
    refine bGo hA 1 6 (36, .baload, 1, 23, 0, [], []) rfl rfl rfl ?_
    refine ⟨rfl, (bIxP (x := l3) (n := 120) h_l3 (h.2 c1).1), ?_⟩
    refine bEqL (x := l3) h_l3 ?_
    refine bGo hA 1 7 (37, .ifCond .eq (35), 3, 24, 42, [], []) rfl rfl rfl ?_
    refine bB_eq0 (x := (bi σ 140 l3)) (bi_rg _ _ _) (fun c2 => ?_) (fun c2 => ?_)
    · refine bGo hA 2 10 (72, .iload_n 2, 1, 43, 0, [2], []) rfl rfl rfl ?_
      refine bGo hA 2 11 (73, .istore_n 2, 1, 44, 0, [2], []) rfl rfl rfl ?_
      refine bGo hA 2 12 (74, .iinc 3 (-1), 3, 45, 0, [3], [(-1, 0)]) rfl rfl rfl ?_
      refine bEqC (fun v => A (45, [.ref 12, .int (bn l1), .int (bn l2), .int v, v4, v5, v6, v7], [], σ)) ((congrArg (fun w => bn l3 + w) bl_m1).trans (bn_add l3 (-1))) ?_
      refine bGo hA 2 13 (77, .goto (-50), 3, 46, 17, [], []) rfl rfl rfl ?_
      exact ((h.2 c1).2.1 c2).2
    · refine bGo hA 1 8 (40, .aload_n 0, 1, 25, 0, [0], []) rfl rfl rfl ?_
      refine bGo hA 1 9 (41, .iload_n 3, 1, 26, 0, [3], []) rfl rfl rfl ?_
      refine bGo hA 1 10 (42, .invokevirtual 566, 3, 27, 0, [0, 12, 301, 1], []) rfl rfl rfl ?_
      refine ⟨rfl, ?_⟩
      refine hC _ _ _ _ _ (bRn_e (fun r5 s3 q6 k4 => ?_)) ((h.2 c1).2.2 c2)
      show A (27, [.ref 12, .int (bn l1), .int (bn l2), .int (bn l3), v4, v5, v6, v7], [.int (bn r5)], s3)
      refine bGo hA 1 11 (45, .ifCond .eq (27), 3, 28, 42, [], []) rfl rfl rfl ?_
      refine bB_eq0 (x := r5) q6 (fun c7 => ?_) (fun c7 => ?_)
      · refine bGo hA 2 10 (72, .iload_n 2, 1, 43, 0, [2], []) rfl rfl rfl ?_
        refine bGo hA 2 11 (73, .istore_n 2, 1, 44, 0, [2], []) rfl rfl rfl ?_
        refine bGo hA 2 12 (74, .iinc 3 (-1), 3, 45, 0, [3], [(-1, 0)]) rfl rfl rfl ?_
        refine bEqC (fun v => A (45, [.ref 12, .int (bn l1), .int (bn l2), .int v, v4, v5, v6, v7], [], s3)) ((congrArg (fun w => bn l3 + w) bl_m1).trans (bn_add l3 (-1))) ?_
        refine bGo hA 2 13 (77, .goto (-50), 3, 46, 17, [], []) rfl rfl rfl ?_
        exact (k4.1 c7).2
      · refine bGo hA 1 12 (48, .iload_n 2, 1, 29, 0, [2], []) rfl rfl rfl ?_
        refine bGo hA 1 13 (49, .iconst (-1), 1, 30, 0, [], [(-1, 0)]) rfl rfl rfl ?_
        refine bEqI bl_m1 ?_
        refine bGo hA 1 14 (50, .if_icmp .eq (18), 3, 31, 40, [], []) rfl rfl rfl ?_
        refine bB_eq (x := l2) (y := (-1)) h_l2 (by decide : bRg (-1)) (fun c8 => ?_) (fun c8 => ?_)
        · refine bGo hA 2 8 (68, .iload_n 3, 1, 41, 0, [3], []) rfl rfl rfl ?_
          refine bGo hA 2 9 (69, .goto (4), 3, 42, 43, [], []) rfl rfl rfl ?_
          refine bGo hA 2 11 (73, .istore_n 2, 1, 44, 0, [2], []) rfl rfl rfl ?_
          refine bGo hA 2 12 (74, .iinc 3 (-1), 3, 45, 0, [3], [(-1, 0)]) rfl rfl rfl ?_
          refine bEqC (fun v => A (45, [.ref 12, .int (bn l1), .int (bn l3), .int v, v4, v5, v6, v7], [], s3)) ((congrArg (fun w => bn l3 + w) bl_m1).trans (bn_add l3 (-1))) ?_
          refine bGo hA 2 13 (77, .goto (-50), 3, 46, 17, [], []) rfl rfl rfl ?_
          exact ((k4.2 c7).1 c8).2
        · refine bGo hA 1 15 (53, .aload_n 0, 1, 32, 0, [0], []) rfl rfl rfl ?_
          refine bGo hA 2 0 (54, .getfield 275, 3, 33, 0, [12, 100, 3, 144, 1, 0], []) rfl rfl rfl ?_
          refine ⟨rfl, ?_⟩
          refine bGo hA 2 1 (57, .iload_n 3, 1, 34, 0, [3], []) rfl rfl rfl ?_
          refine bGo hA 2 2 (58, .iaload, 1, 35, 0, [], []) rfl rfl rfl ?_
          refine ⟨rfl, (bIxP (x := l3) (n := 120) h_l3 (h.2 c1).1), ?_⟩
          refine bEqL (x := l3) h_l3 ?_
          refine bGo hA 2 3 (59, .aload_n 0, 1, 36, 0, [0], []) rfl rfl rfl ?_
          refine bGo hA 2 4 (60, .getfield 275, 3, 37, 0, [12, 100, 3, 144, 1, 0], []) rfl rfl rfl ?_
          refine ⟨rfl, ?_⟩
          refine bGo hA 2 5 (63, .iload_n 2, 1, 38, 0, [2], []) rfl rfl rfl ?_
          refine bGo hA 2 6 (64, .iaload, 1, 39, 0, [], []) rfl rfl rfl ?_
          refine ⟨rfl, (bIxP (x := l2) (n := 120) h_l2 ((k4.2 c7).2 c8).1), ?_⟩
          refine bEqL (x := l2) h_l2 ?_
          refine bGo hA 2 7 (65, .if_icmp .lt (7), 3, 40, 42, [], []) rfl rfl rfl ?_
          refine bB_lt (x := (bi s3 144 l3)) (y := (bi s3 144 l2)) (bi_rg _ _ _) (bi_rg _ _ _) (fun c9 => ?_) (fun c9 => ?_)
          · refine bGo hA 2 10 (72, .iload_n 2, 1, 43, 0, [2], []) rfl rfl rfl ?_
            refine bGo hA 2 11 (73, .istore_n 2, 1, 44, 0, [2], []) rfl rfl rfl ?_
            refine bGo hA 2 12 (74, .iinc 3 (-1), 3, 45, 0, [3], [(-1, 0)]) rfl rfl rfl ?_
            refine bEqC (fun v => A (45, [.ref 12, .int (bn l1), .int (bn l2), .int v, v4, v5, v6, v7], [], s3)) ((congrArg (fun w => bn l3 + w) bl_m1).trans (bn_add l3 (-1))) ?_
            refine bGo hA 2 13 (77, .goto (-50), 3, 46, 17, [], []) rfl rfl rfl ?_
            exact (((k4.2 c7).2 c8).2.1 c9).2
          · refine bGo hA 2 8 (68, .iload_n 3, 1, 41, 0, [3], []) rfl rfl rfl ?_
            refine bGo hA 2 9 (69, .goto (4), 3, 42, 43, [], []) rfl rfl rfl ?_
            refine bGo hA 2 11 (73, .istore_n 2, 1, 44, 0, [2], []) rfl rfl rfl ?_
            refine bGo hA 2 12 (74, .iinc 3 (-1), 3, 45, 0, [3], [(-1, 0)]) rfl rfl rfl ?_
            refine bEqC (fun v => A (45, [.ref 12, .int (bn l1), .int (bn l3), .int v, v4, v5, v6, v7], [], s3)) ((congrArg (fun w => bn l3 + w) bl_m1).trans (bn_add l3 (-1))) ?_
            refine bGo hA 2 13 (77, .goto (-50), 3, 46, 17, [], []) rfl rfl rfl ?_
            exact (((k4.2 c7).2 c8).2.2 c9).2

theorem sq302_48 {lvl : Nat} {C : bCall} {Q : bPost} {A : bPt → Prop} (hC : bMono C) (hA : bClosed lvl bm302 C Q A) {l1 : Int} {l2 : Int} {l3 : Int} {v4 : Value} {v5 : Value} {v6 : Value} {v7 : Value} {σ : bSt}  (h_l1 : bRg l1) (h_l2 : bRg l2) (h_l3 : bRg l3)
  (h : ((l3 < l1 → ((l2 = (-1) → ((l1 < 120 → Q (.inl (some (.int (bn l2)))) σ) ∧ (¬ l1 < 120 → Q (.inl (some (.int (bn (-1))))) σ))) ∧ (¬ l2 = (-1) → ((l3 < 120 → (bRg (40 * l2) ∧ A (63, [.ref 12, .int (bn l1), .int (bn l2), .int (bn l3), .int (bn (-1)), .int (bn (40 * l2)), v6, v7], [], σ))) ∧ (¬ l3 < 120 → ((l1 < 120 → Q (.inl (some (.int (bn l2)))) σ) ∧ (¬ l1 < 120 → Q (.inl (some (.int (bn (-1))))) σ))))))) ∧ (¬ l3 < l1 → ((l1 < 120 → Q (.inl (some (.int (bn l2)))) σ) ∧ (¬ l1 < 120 → Q (.inl (some (.int (bn (-1))))) σ))))) : A (48, [.ref 12, .int (bn l1), .int (bn l2), .int (bn l3), v4, v5, v6, v7], [], σ) := by
  refine bGo hA 3 0 (82, .iload_n 3, 1, 49, 0, [3], []) rfl rfl rfl ?_
  refine bGo hA 3 1 (83, .iload_n 1, 1, 50, 0, [1], []) rfl rfl rfl ?_
  refine bGo hA 3 2 (84, .if_icmp .ge (139), 3, 51, 122, [], []) rfl rfl rfl ?_
  refine bB_lt (x := l3) (y := l1) h_l3 h_l1 (fun c1 => ?_) (fun c1 => ?_)
  · refine bGo hA 3 3 (87, .iload_n 2, 1, 52, 0, [2], []) rfl rfl rfl ?_
    refine bGo hA 3 4 (88, .iconst (-1), 1, 53, 0, [], [(-1, 0)]) rfl rfl rfl ?_
    refine bEqI bl_m1 ?_
    refine bGo hA 3 5 (89, .if_icmp .eq (134), 3, 54, 122, [], []) rfl rfl rfl ?_
    refine bB_eq (x := l2) (y := (-1)) h_l2 (by decide : bRg (-1)) (fun c2 => ?_) (fun c2 => ?_)
    · refine bGo hA 7 10 (223, .iload_n 1, 1, 123, 0, [1], []) rfl rfl rfl ?_
      refine bGo hA 7 11 (224, .bipush (120), 2, 124, 0, [], [(120, 0)]) rfl rfl rfl ?_
      refine bEqI bl_120 ?_
      refine bGo hA 7 12 (226, .if_icmp .lt (7), 3, 125, 127, [], []) rfl rfl rfl ?_
      refine bB_lt (x := l1) (y := 120) h_l1 (by decide : bRg 120) (fun c3 => ?_) (fun c3 => ?_)
      · refine bGo hA 7 15 (233, .iload_n 2, 1, 128, 0, [2], []) rfl rfl rfl ?_
        refine bGo hA 8 0 (234, .ireturn, 1, 0, 0, [1], []) rfl rfl rfl ?_
        exact (((h.1 c1).1 c2).1 c3)
      · refine bGo hA 7 13 (229, .iconst (-1), 1, 126, 0, [], [(-1, 0)]) rfl rfl rfl ?_
        refine bEqI bl_m1 ?_
        refine bGo hA 7 14 (230, .goto (4), 3, 127, 128, [], []) rfl rfl rfl ?_
        refine bGo hA 8 0 (234, .ireturn, 1, 0, 0, [1], []) rfl rfl rfl ?_
        exact (((h.1 c1).1 c2).2 c3)
    · refine bGo hA 3 6 (92, .iload_n 3, 1, 55, 0, [3], []) rfl rfl rfl ?_
      refine bGo hA 3 7 (93, .bipush (120), 2, 56, 0, [], [(120, 0)]) rfl rfl rfl ?_
      refine bEqI bl_120 ?_
      refine bGo hA 3 8 (95, .if_icmp .ge (128), 3, 57, 122, [], []) rfl rfl rfl ?_
      refine bB_lt (x := l3) (y := 120) h_l3 (by decide : bRg 120) (fun c4 => ?_) (fun c4 => ?_)
      · refine bGo hA 3 9 (98, .iconst (-1), 1, 58, 0, [], [(-1, 0)]) rfl rfl rfl ?_
        refine bEqI bl_m1 ?_
        refine bGo hA 3 10 (99, .istore 4, 2, 59, 0, [4], []) rfl rfl rfl ?_
        refine bGo hA 3 11 (101, .bipush (40), 2, 60, 0, [], [(40, 0)]) rfl rfl rfl ?_
        refine bEqI bl_40 ?_
        refine bGo hA 3 12 (103, .iload_n 2, 1, 61, 0, [2], []) rfl rfl rfl ?_
        refine bGo hA 3 13 (104, .imul, 1, 62, 0, [], []) rfl rfl rfl ?_
        refine bEqI (bn_mul 40 l2) ?_
        refine bGo hA 3 14 (105, .istore 5, 2, 63, 0, [5], []) rfl rfl rfl ?_
        exact (((h.1 c1).2 c2).1 c4).2
      · refine bGo hA 7 10 (223, .iload_n 1, 1, 123, 0, [1], []) rfl rfl rfl ?_
        refine bGo hA 7 11 (224, .bipush (120), 2, 124, 0, [], [(120, 0)]) rfl rfl rfl ?_
        refine bEqI bl_120 ?_
        refine bGo hA 7 12 (226, .if_icmp .lt (7), 3, 125, 127, [], []) rfl rfl rfl ?_
        refine bB_lt (x := l1) (y := 120) h_l1 (by decide : bRg 120) (fun c5 => ?_) (fun c5 => ?_)
        · refine bGo hA 7 15 (233, .iload_n 2, 1, 128, 0, [2], []) rfl rfl rfl ?_
          refine bGo hA 8 0 (234, .ireturn, 1, 0, 0, [1], []) rfl rfl rfl ?_
          exact ((((h.1 c1).2 c2).2 c4).1 c5)
        · refine bGo hA 7 13 (229, .iconst (-1), 1, 126, 0, [], [(-1, 0)]) rfl rfl rfl ?_
          refine bEqI bl_m1 ?_
          refine bGo hA 7 14 (230, .goto (4), 3, 127, 128, [], []) rfl rfl rfl ?_
          refine bGo hA 8 0 (234, .ireturn, 1, 0, 0, [1], []) rfl rfl rfl ?_
          exact ((((h.1 c1).2 c2).2 c4).2 c5)
  · refine bGo hA 7 10 (223, .iload_n 1, 1, 123, 0, [1], []) rfl rfl rfl ?_
    refine bGo hA 7 11 (224, .bipush (120), 2, 124, 0, [], [(120, 0)]) rfl rfl rfl ?_
    refine bEqI bl_120 ?_
    refine bGo hA 7 12 (226, .if_icmp .lt (7), 3, 125, 127, [], []) rfl rfl rfl ?_
    refine bB_lt (x := l1) (y := 120) h_l1 (by decide : bRg 120) (fun c6 => ?_) (fun c6 => ?_)
    · refine bGo hA 7 15 (233, .iload_n 2, 1, 128, 0, [2], []) rfl rfl rfl ?_
      refine bGo hA 8 0 (234, .ireturn, 1, 0, 0, [1], []) rfl rfl rfl ?_
      exact ((h.2 c1).1 c6)
    · refine bGo hA 7 13 (229, .iconst (-1), 1, 126, 0, [], [(-1, 0)]) rfl rfl rfl ?_
      refine bEqI bl_m1 ?_
      refine bGo hA 7 14 (230, .goto (4), 3, 127, 128, [], []) rfl rfl rfl ?_
      refine bGo hA 8 0 (234, .ireturn, 1, 0, 0, [1], []) rfl rfl rfl ?_
      exact ((h.2 c1).2 c6)

theorem sq302_63 {lvl : Nat} {C : bCall} {Q : bPost} {A : bPt → Prop} (hC : bMono C) (hA : bClosed lvl bm302 C Q A) {l1 : Int} {l2 : Int} {l3 : Int} {l4 : Int} {l5 : Int} {v6 : Value} {v7 : Value} {σ : bSt}  (h_l1 : bRg l1) (h_l2 : bRg l2) (h_l3 : bRg l3) (h_l4 : bRg l4) (h_l5 : bRg l5)
  (h : (bRg (40 * l2) ∧ ((0 ≤ l2 ∧ l2 < 120) ∧ (bRg ((40 * l2) + (bi σ 105 l2)) ∧ ((l5 < ((40 * l2) + (bi σ 105 l2)) → ((0 ≤ l5 ∧ l5 < 4800) ∧ (bRg ((bi σ 106 l5) - 100) ∧ ((((bi σ 106 l5) - 100) < 0 → (bRg (l5 + 1) ∧ A (63, [.ref 12, .int (bn l1), .int (bn l2), .int (bn l3), .int (bn l4), .int (bn (l5 + 1)), .int (bn ((bi σ 106 l5) - 100)), .int (bn 0)], [], σ))) ∧ (¬ ((bi σ 106 l5) - 100) < 0 → ((l4 = (-1) → (bRg (l5 + 1) ∧ A (63, [.ref 12, .int (bn l1), .int (bn l2), .int (bn l3), .int (bn ((bi σ 106 l5) - 100)), .int (bn (l5 + 1)), .int (bn ((bi σ 106 l5) - 100)), .int (bn 1)], [], σ))) ∧ (¬ l4 = (-1) → ((0 ≤ ((bi σ 106 l5) - 100) ∧ ((bi σ 106 l5) - 100) < 120) ∧ ((0 ≤ l4 ∧ l4 < 120) ∧ (((bi σ 144 l4) < (bi σ 144 ((bi σ 106 l5) - 100)) → (bRg (l5 + 1) ∧ A (63, [.ref 12, .int (bn l1), .int (bn l2), .int (bn l3), .int (bn ((bi σ 106 l5) - 100)), .int (bn (l5 + 1)), .int (bn ((bi σ 106 l5) - 100)), .int (bn 1)], [], σ))) ∧ (¬ (bi σ 144 l4) < (bi σ 144 ((bi σ 106 l5) - 100)) → (((bi σ 144 ((bi σ 106 l5) - 100)) = (bi σ 144 l4) → ((((bi σ 106 l5) - 100) < l4 → (bRg (l5 + 1) ∧ A (63, [.ref 12, .int (bn l1), .int (bn l2), .int (bn l3), .int (bn ((bi σ 106 l5) - 100)), .int (bn (l5 + 1)), .int (bn ((bi σ 106 l5) - 100)), .int (bn 1)], [], σ))) ∧ (¬ ((bi σ 106 l5) - 100) < l4 → (bRg (l5 + 1) ∧ A (63, [.ref 12, .int (bn l1), .int (bn l2), .int (bn l3), .int (bn l4), .int (bn (l5 + 1)), .int (bn ((bi σ 106 l5) - 100)), .int (bn 0)], [], σ))))) ∧ (¬ (bi σ 144 ((bi σ 106 l5) - 100)) = (bi σ 144 l4) → (bRg (l5 + 1) ∧ A (63, [.ref 12, .int (bn l1), .int (bn l2), .int (bn l3), .int (bn l4), .int (bn (l5 + 1)), .int (bn ((bi σ 106 l5) - 100)), .int (bn 0)], [], σ))))))))))))))) ∧ (¬ l5 < ((40 * l2) + (bi σ 105 l2)) → (bRg (l3 + 1) ∧ A (48, [.ref 12, .int (bn l1), .int (bn l4), .int (bn (l3 + 1)), .int (bn l4), .int (bn l5), v6, v7], [], σ)))))))) : A (63, [.ref 12, .int (bn l1), .int (bn l2), .int (bn l3), .int (bn l4), .int (bn l5), v6, v7], [], σ) := by
  refine bGo hA 3 15 (107, .iload 5, 2, 64, 0, [5], []) rfl rfl rfl ?_
  refine bGo hA 4 0 (109, .bipush (40), 2, 65, 0, [], [(40, 0)]) rfl rfl rfl ?_
  refine bEqI bl_40 ?_
  refine bGo hA 4 1 (111, .iload_n 2, 1, 66, 0, [2], []) rfl rfl rfl ?_
  refine bGo hA 4 2 (112, .imul, 1, 67, 0, [], []) rfl rfl rfl ?_
  refine bEqI (bn_mul 40 l2) ?_
  refine bGo hA 4 3 (113, .aload_n 0, 1, 68, 0, [0], []) rfl rfl rfl ?_
  refine bGo hA 4 4 (114, .getfield 158, 3, 69, 0, [12, 54, 3, 105, 1, 0], []) rfl rfl rfl ?_
  refine ⟨rfl, ?_⟩
  refine bGo hA 4 5 (117, .iload_n 2, 1, 70, 0, [2], []) rfl rfl rfl ?_
  refine bGo hA 4 6 (118, .iaload, 1, 71, 0, [], []) rfl rfl rfl ?_
  refine ⟨rfl, (bIxP (x := l2) (n := 120) h_l2 h.2.1), ?_⟩
  refine bEqL (x := l2) h_l2 ?_
  refine bGo hA 4 7 (119, .iadd, 1, 72, 0, [], []) rfl rfl rfl ?_
  refine bEqI (bn_add (40 * l2) (bi σ 105 l2)) ?_
  refine bGo hA 4 8 (120, .if_icmp .ge (94), 3, 73, 118, [], []) rfl rfl rfl ?_
  refine bB_lt (x := l5) (y := ((40 * l2) + (bi σ 105 l2))) h_l5 h.2.2.1 (fun c1 => ?_) (fun c1 => ?_)
  · refine bGo hA 4 9 (123, .aload_n 0, 1, 74, 0, [0], []) rfl rfl rfl ?_
    refine bGo hA 4 10 (124, .getfield 161, 3, 75, 0, [12, 55, 3, 106, 1, 0], []) rfl rfl rfl ?_
    refine ⟨rfl, ?_⟩
    refine bGo hA 4 11 (127, .iload 5, 2, 76, 0, [5], []) rfl rfl rfl ?_
    refine bGo hA 4 12 (129, .iaload, 1, 77, 0, [], []) rfl rfl rfl ?_
    refine ⟨rfl, (bIxP (x := l5) (n := 4800) h_l5 (h.2.2.2.1 c1).1), ?_⟩
    refine bEqL (x := l5) h_l5 ?_
    refine bGo hA 4 13 (130, .bipush (100), 2, 78, 0, [], [(100, 0)]) rfl rfl rfl ?_
    refine bEqI bl_100 ?_
    refine bGo hA 4 14 (132, .isub, 1, 79, 0, [], []) rfl rfl rfl ?_
    refine bEqI (bn_sub (bi σ 106 l5) 100) ?_
    refine bGo hA 4 15 (133, .istore 6, 2, 80, 0, [6], []) rfl rfl rfl ?_
    refine bGo hA 5 0 (135, .iload 6, 2, 81, 0, [6], []) rfl rfl rfl ?_
    refine bGo hA 5 1 (137, .ifCond .lt (54), 3, 82, 108, [], []) rfl rfl rfl ?_
    refine bB_lt0 (x := ((bi σ 106 l5) - 100)) (h.2.2.2.1 c1).2.1 (fun c2 => ?_) (fun c2 => ?_)
    · refine bGo hA 6 12 (191, .iconst (0), 1, 109, 0, [], [(0, 0)]) rfl rfl rfl ?_
      refine bEqI bl_0 ?_
      refine bGo hA 6 13 (192, .istore 7, 2, 110, 0, [7], []) rfl rfl rfl ?_
      refine bGo hA 6 14 (194, .iload 7, 2, 111, 0, [7], []) rfl rfl rfl ?_
      refine bGo hA 6 15 (196, .ifCond .eq (8), 3, 112, 114, [], []) rfl rfl rfl ?_
      refine ⟨fun _ => ?_, fun c => absurd (by decide) c⟩
      refine bGo hA 7 2 (204, .iload 4, 2, 115, 0, [4], []) rfl rfl rfl ?_
      refine bGo hA 7 3 (206, .istore 4, 2, 116, 0, [4], []) rfl rfl rfl ?_
      refine bGo hA 7 4 (208, .iinc 5 (1), 3, 117, 0, [5], [(1, 0)]) rfl rfl rfl ?_
      refine bEqC (fun v => A (117, [.ref 12, .int (bn l1), .int (bn l2), .int (bn l3), .int (bn l4), .int v, .int (bn ((bi σ 106 l5) - 100)), .int (bn 0)], [], σ)) ((congrArg (fun w => bn l5 + w) bl_1).trans (bn_add l5 1)) ?_
      refine bGo hA 7 5 (211, .goto (-104), 3, 118, 63, [], []) rfl rfl rfl ?_
      exact ((h.2.2.2.1 c1).2.2.1 c2).2
    · refine bGo hA 5 2 (140, .iload 4, 2, 83, 0, [4], []) rfl rfl rfl ?_
      refine bGo hA 5 3 (142, .iconst (-1), 1, 84, 0, [], [(-1, 0)]) rfl rfl rfl ?_
      refine bEqI bl_m1 ?_
      refine bGo hA 5 4 (143, .if_icmp .eq (44), 3, 85, 106, [], []) rfl rfl rfl ?_
      refine bB_eq (x := l4) (y := (-1)) h_l4 (by decide : bRg (-1)) (fun c4 => ?_) (fun c4 => ?_)
      · refine bGo hA 6 10 (187, .iconst (1), 1, 107, 0, [], [(1, 0)]) rfl rfl rfl ?_
        refine bEqI bl_1 ?_
        refine bGo hA 6 11 (188, .goto (4), 3, 108, 109, [], []) rfl rfl rfl ?_
        refine bGo hA 6 13 (192, .istore 7, 2, 110, 0, [7], []) rfl rfl rfl ?_
        refine bGo hA 6 14 (194, .iload 7, 2, 111, 0, [7], []) rfl rfl rfl ?_
        refine bGo hA 6 15 (196, .ifCond .eq (8), 3, 112, 114, [], []) rfl rfl rfl ?_
        refine ⟨fun c => absurd c (by decide), fun _ => ?_⟩
        refine bGo hA 7 0 (199, .iload 6, 2, 113, 0, [6], []) rfl rfl rfl ?_
        refine bGo hA 7 1 (201, .goto (5), 3, 114, 115, [], []) rfl rfl rfl ?_
        refine bGo hA 7 3 (206, .istore 4, 2, 116, 0, [4], []) rfl rfl rfl ?_
        refine bGo hA 7 4 (208, .iinc 5 (1), 3, 117, 0, [5], [(1, 0)]) rfl rfl rfl ?_
        refine bEqC (fun v => A (117, [.ref 12, .int (bn l1), .int (bn l2), .int (bn l3), .int (bn ((bi σ 106 l5) - 100)), .int v, .int (bn ((bi σ 106 l5) - 100)), .int (bn 1)], [], σ)) ((congrArg (fun w => bn l5 + w) bl_1).trans (bn_add l5 1)) ?_
        refine bGo hA 7 5 (211, .goto (-104), 3, 118, 63, [], []) rfl rfl rfl ?_
        exact (((h.2.2.2.1 c1).2.2.2 c2).1 c4).2
      · refine bGo hA 5 5 (146, .aload_n 0, 1, 86, 0, [0], []) rfl rfl rfl ?_
        refine bGo hA 5 6 (147, .getfield 275, 3, 87, 0, [12, 100, 3, 144, 1, 0], []) rfl rfl rfl ?_
        refine ⟨rfl, ?_⟩
        refine bGo hA 5 7 (150, .iload 6, 2, 88, 0, [6], []) rfl rfl rfl ?_
        refine bGo hA 5 8 (152, .iaload, 1, 89, 0, [], []) rfl rfl rfl ?_
        refine ⟨rfl, (bIxP (x := ((bi σ 106 l5) - 100)) (n := 120) (h.2.2.2.1 c1).2.1 (((h.2.2.2.1 c1).2.2.2 c2).2 c4).1), ?_⟩
        refine bEqL (x := ((bi σ 106 l5) - 100)) (h.2.2.2.1 c1).2.1 ?_
        refine bGo hA 5 9 (153, .aload_n 0, 1, 90, 0, [0], []) rfl rfl rfl ?_
        refine bGo hA 5 10 (154, .getfield 275, 3, 91, 0, [12, 100, 3, 144, 1, 0], []) rfl rfl rfl ?_
        refine ⟨rfl, ?_⟩
        refine bGo hA 5 11 (157, .iload 4, 2, 92, 0, [4], []) rfl rfl rfl ?_
        refine bGo hA 5 12 (159, .iaload, 1, 93, 0, [], []) rfl rfl rfl ?_
        refine ⟨rfl, (bIxP (x := l4) (n := 120) h_l4 (((h.2.2.2.1 c1).2.2.2 c2).2 c4).2.1), ?_⟩
        refine bEqL (x := l4) h_l4 ?_
        refine bGo hA 5 13 (160, .if_icmp .gt (27), 3, 94, 106, [], []) rfl rfl rfl ?_
        refine bB_lt (x := (bi σ 144 l4)) (y := (bi σ 144 ((bi σ 106 l5) - 100))) (bi_rg _ _ _) (bi_rg _ _ _) (fun c6 => ?_) (fun c6 => ?_)
        · refine bGo hA 6 10 (187, .iconst (1), 1, 107, 0, [], [(1, 0)]) rfl rfl rfl ?_
          refine bEqI bl_1 ?_
          refine bGo hA 6 11 (188, .goto (4), 3, 108, 109, [], []) rfl rfl rfl ?_
          refine bGo hA 6 13 (192, .istore 7, 2, 110, 0, [7], []) rfl rfl rfl ?_
          refine bGo hA 6 14 (194, .iload 7, 2, 111, 0, [7], []) rfl rfl rfl ?_
          refine bGo hA 6 15 (196, .ifCond .eq (8), 3, 112, 114, [], []) rfl rfl rfl ?_
          refine ⟨fun c => absurd c (by decide), fun _ => ?_⟩
          refine bGo hA 7 0 (199, .iload 6, 2, 113, 0, [6], []) rfl rfl rfl ?_
          refine bGo hA 7 1 (201, .goto (5), 3, 114, 115, [], []) rfl rfl rfl ?_
          refine bGo hA 7 3 (206, .istore 4, 2, 116, 0, [4], []) rfl rfl rfl ?_
          refine bGo hA 7 4 (208, .iinc 5 (1), 3, 117, 0, [5], [(1, 0)]) rfl rfl rfl ?_
          refine bEqC (fun v => A (117, [.ref 12, .int (bn l1), .int (bn l2), .int (bn l3), .int (bn ((bi σ 106 l5) - 100)), .int v, .int (bn ((bi σ 106 l5) - 100)), .int (bn 1)], [], σ)) ((congrArg (fun w => bn l5 + w) bl_1).trans (bn_add l5 1)) ?_
          refine bGo hA 7 5 (211, .goto (-104), 3, 118, 63, [], []) rfl rfl rfl ?_
          exact ((((h.2.2.2.1 c1).2.2.2 c2).2 c4).2.2.1 c6).2
        · refine bGo hA 5 14 (163, .aload_n 0, 1, 95, 0, [0], []) rfl rfl rfl ?_
          refine bGo hA 5 15 (164, .getfield 275, 3, 96, 0, [12, 100, 3, 144, 1, 0], []) rfl rfl rfl ?_
          refine ⟨rfl, ?_⟩
          refine bGo hA 6 0 (167, .iload 6, 2, 97, 0, [6], []) rfl rfl rfl ?_
          refine bGo hA 6 1 (169, .iaload, 1, 98, 0, [], []) rfl rfl rfl ?_
          refine ⟨rfl, (bIxP (x := ((bi σ 106 l5) - 100)) (n := 120) (h.2.2.2.1 c1).2.1 (((h.2.2.2.1 c1).2.2.2 c2).2 c4).1), ?_⟩
          refine bEqL (x := ((bi σ 106 l5) - 100)) (h.2.2.2.1 c1).2.1 ?_
          refine bGo hA 6 2 (170, .aload_n 0, 1, 99, 0, [0], []) rfl rfl rfl ?_
          refine bGo hA 6 3 (171, .getfield 275, 3, 100, 0, [12, 100, 3, 144, 1, 0], []) rfl rfl rfl ?_
          refine ⟨rfl, ?_⟩
          refine bGo hA 6 4 (174, .iload 4, 2, 101, 0, [4], []) rfl rfl rfl ?_
          refine bGo hA 6 5 (176, .iaload, 1, 102, 0, [], []) rfl rfl rfl ?_
          refine ⟨rfl, (bIxP (x := l4) (n := 120) h_l4 (((h.2.2.2.1 c1).2.2.2 c2).2 c4).2.1), ?_⟩
          refine bEqL (x := l4) h_l4 ?_
          refine bGo hA 6 6 (177, .if_icmp .ne (14), 3, 103, 108, [], []) rfl rfl rfl ?_
          refine bB_eq (x := (bi σ 144 ((bi σ 106 l5) - 100))) (y := (bi σ 144 l4)) (bi_rg _ _ _) (bi_rg _ _ _) (fun c8 => ?_) (fun c8 => ?_)
          · refine bGo hA 6 7 (180, .iload 6, 2, 104, 0, [6], []) rfl rfl rfl ?_
            refine bGo hA 6 8 (182, .iload 4, 2, 105, 0, [4], []) rfl rfl rfl ?_
            refine bGo hA 6 9 (184, .if_icmp .ge (7), 3, 106, 108, [], []) rfl rfl rfl ?_
            refine bB_lt (x := ((bi σ 106 l5) - 100)) (y := l4) (h.2.2.2.1 c1).2.1 h_l4 (fun c9 => ?_) (fun c9 => ?_)
            · refine bGo hA 6 10 (187, .iconst (1), 1, 107, 0, [], [(1, 0)]) rfl rfl rfl ?_
              refine bEqI bl_1 ?_
              refine bGo hA 6 11 (188, .goto (4), 3, 108, 109, [], []) rfl rfl rfl ?_
              refine bGo hA 6 13 (192, .istore 7, 2, 110, 0, [7], []) rfl rfl rfl ?_
              refine bGo hA 6 14 (194, .iload 7, 2, 111, 0, [7], []) rfl rfl rfl ?_
              refine bGo hA 6 15 (196, .ifCond .eq (8), 3, 112, 114, [], []) rfl rfl rfl ?_
              refine ⟨fun c => absurd c (by decide), fun _ => ?_⟩
              refine bGo hA 7 0 (199, .iload 6, 2, 113, 0, [6], []) rfl rfl rfl ?_
              refine bGo hA 7 1 (201, .goto (5), 3, 114, 115, [], []) rfl rfl rfl ?_
              refine bGo hA 7 3 (206, .istore 4, 2, 116, 0, [4], []) rfl rfl rfl ?_
              refine bGo hA 7 4 (208, .iinc 5 (1), 3, 117, 0, [5], [(1, 0)]) rfl rfl rfl ?_
              refine bEqC (fun v => A (117, [.ref 12, .int (bn l1), .int (bn l2), .int (bn l3), .int (bn ((bi σ 106 l5) - 100)), .int v, .int (bn ((bi σ 106 l5) - 100)), .int (bn 1)], [], σ)) ((congrArg (fun w => bn l5 + w) bl_1).trans (bn_add l5 1)) ?_
              refine bGo hA 7 5 (211, .goto (-104), 3, 118, 63, [], []) rfl rfl rfl ?_
              exact ((((((h.2.2.2.1 c1).2.2.2 c2).2 c4).2.2.2 c6).1 c8).1 c9).2
            · refine bGo hA 6 12 (191, .iconst (0), 1, 109, 0, [], [(0, 0)]) rfl rfl rfl ?_
              refine bEqI bl_0 ?_
              refine bGo hA 6 13 (192, .istore 7, 2, 110, 0, [7], []) rfl rfl rfl ?_
              refine bGo hA 6 14 (194, .iload 7, 2, 111, 0, [7], []) rfl rfl rfl ?_
              refine bGo hA 6 15 (196, .ifCond .eq (8), 3, 112, 114, [], []) rfl rfl rfl ?_
              refine ⟨fun _ => ?_, fun c => absurd (by decide) c⟩
              refine bGo hA 7 2 (204, .iload 4, 2, 115, 0, [4], []) rfl rfl rfl ?_
              refine bGo hA 7 3 (206, .istore 4, 2, 116, 0, [4], []) rfl rfl rfl ?_
              refine bGo hA 7 4 (208, .iinc 5 (1), 3, 117, 0, [5], [(1, 0)]) rfl rfl rfl ?_
              refine bEqC (fun v => A (117, [.ref 12, .int (bn l1), .int (bn l2), .int (bn l3), .int (bn l4), .int v, .int (bn ((bi σ 106 l5) - 100)), .int (bn 0)], [], σ)) ((congrArg (fun w => bn l5 + w) bl_1).trans (bn_add l5 1)) ?_
              refine bGo hA 7 5 (211, .goto (-104), 3, 118, 63, [], []) rfl rfl rfl ?_
              exact ((((((h.2.2.2.1 c1).2.2.2 c2).2 c4).2.2.2 c6).1 c8).2 c9).2
          · refine bGo hA 6 12 (191, .iconst (0), 1, 109, 0, [], [(0, 0)]) rfl rfl rfl ?_
            refine bEqI bl_0 ?_
            refine bGo hA 6 13 (192, .istore 7, 2, 110, 0, [7], []) rfl rfl rfl ?_
            refine bGo hA 6 14 (194, .iload 7, 2, 111, 0, [7], []) rfl rfl rfl ?_
            refine bGo hA 6 15 (196, .ifCond .eq (8), 3, 112, 114, [], []) rfl rfl rfl ?_
            refine ⟨fun _ => ?_, fun c => absurd (by decide) c⟩
            refine bGo hA 7 2 (204, .iload 4, 2, 115, 0, [4], []) rfl rfl rfl ?_
            refine bGo hA 7 3 (206, .istore 4, 2, 116, 0, [4], []) rfl rfl rfl ?_
            refine bGo hA 7 4 (208, .iinc 5 (1), 3, 117, 0, [5], [(1, 0)]) rfl rfl rfl ?_
            refine bEqC (fun v => A (117, [.ref 12, .int (bn l1), .int (bn l2), .int (bn l3), .int (bn l4), .int v, .int (bn ((bi σ 106 l5) - 100)), .int (bn 0)], [], σ)) ((congrArg (fun w => bn l5 + w) bl_1).trans (bn_add l5 1)) ?_
            refine bGo hA 7 5 (211, .goto (-104), 3, 118, 63, [], []) rfl rfl rfl ?_
            exact (((((h.2.2.2.1 c1).2.2.2 c2).2 c4).2.2.2 c6).2 c8).2
  · refine bGo hA 7 6 (214, .iload 4, 2, 119, 0, [4], []) rfl rfl rfl ?_
    refine bGo hA 7 7 (216, .istore_n 2, 1, 120, 0, [2], []) rfl rfl rfl ?_
    refine bGo hA 7 8 (217, .iinc 3 (1), 3, 121, 0, [3], [(1, 0)]) rfl rfl rfl ?_
    refine bEqC (fun v => A (121, [.ref 12, .int (bn l1), .int (bn l4), .int v, .int (bn l4), .int (bn l5), v6, v7], [], σ)) ((congrArg (fun w => bn l3 + w) bl_1).trans (bn_add l3 1)) ?_
    refine bGo hA 7 9 (220, .goto (-138), 3, 122, 48, [], []) rfl rfl rfl ?_
    exact (h.2.2.2.2 c1).2

theorem sq177_0 {lvl : Nat} {C : bCall} {Q : bPost} {A : bPt → Prop} (hC : bMono C) (hA : bClosed lvl bm177 C Q A) {x1 : Int} {σ : bSt}  (h_x1 : bRg x1)
  (h : (C 137 [.int (bn x1)] σ (bRvx (fun s1 => (C 64 [.ref 5, .int (bn x1)] s1 (bRn (fun r5 s3 => Q (.inl (some (.int (bn r5)))) s3)))) (fun E s1 => Q (.inr E) s1)))) : A (0, [.ref 11, .int (bn x1)], [], σ) := by
  refine bGo hA 0 0 (0, .iload_n 1, 1, 1, 0, [1], []) rfl rfl rfl ?_
  refine bGo hA 0 1 (1, .invokestatic 121, 3, 2, 0, [2, 137, 1], []) rfl rfl rfl ?_
  refine hC _ _ _ _ _ (bRvx_e (fun s1 k2 => ?_) (fun E s1 k2 => ?_)) h
  · show A (2, [.ref 11, .int (bn x1)], [], s1)
    refine bGo hA 0 2 (4, .aload_n 0, 1, 3, 0, [0], []) rfl rfl rfl ?_
    refine bGo hA 0 3 (5, .getfield 51, 3, 4, 0, [11, 5, 3, 5, 0, 0], []) rfl rfl rfl ?_
    refine ⟨rfl, ?_⟩
    refine bGo hA 0 4 (8, .iload_n 1, 1, 5, 0, [1], []) rfl rfl rfl ?_
    refine bGo hA 0 5 (9, .invokevirtual 240, 3, 6, 0, [0, 5, 64, 1], []) rfl rfl rfl ?_
    refine ⟨rfl, ?_⟩
    refine hC _ _ _ _ _ (bRn_e (fun r5 s3 q6 k4 => ?_)) k2
    show A (6, [.ref 11, .int (bn x1)], [.int (bn r5)], s3)
    refine bGo hA 0 6 (12, .ireturn, 1, 0, 0, [1], []) rfl rfl rfl ?_
    exact k4
  · exact k2

theorem sq10_0 {lvl : Nat} {C : bCall} {Q : bPost} {A : bPt → Prop} (hC : bMono C) (hA : bClosed lvl bm10 C Q A) {a0 : Nat} {σ : bSt} (h_a0 : a0 % 256 = 0) 
  (h : (((bi σ a0 10) = (-1) → Q (.inl (some (.int (bn 0)))) σ) ∧ (¬ (bi σ a0 10) = (-1) → (((4 : Int) < (bi σ a0 10) → Q (.inl (some (.int (bn 0)))) σ) ∧ (¬ (4 : Int) < (bi σ a0 10) → Q (.inl (some (.int (bn 1)))) σ))))) : A (0, [.ref a0], [], σ) := by
  refine bGo hA 0 0 (0, .aload_n 0, 1, 1, 0, [0], []) rfl rfl rfl ?_
  refine bGo hA 0 1 (1, .getfield 25, 3, 2, 0, [0, 10, 0, 0, 0, 0], []) rfl rfl rfl ?_
  refine ⟨h_a0, ?_⟩
  refine bEqI (bn_bi σ a0 10) ?_
  refine bGo hA 0 2 (4, .iconst (-1), 1, 3, 0, [], [(-1, 0)]) rfl rfl rfl ?_
  refine bEqI bl_m1 ?_
  refine bGo hA 0 3 (5, .if_icmp .eq (15), 3, 4, 10, [], []) rfl rfl rfl ?_
  refine bB_eq (x := (bi σ a0 10)) (y := (-1)) (bi_rg _ _ _) (by decide : bRg (-1)) (fun c1 => ?_) (fun c1 => ?_)
  · refine bGo hA 0 10 (20, .iconst (0), 1, 11, 0, [], [(0, 0)]) rfl rfl rfl ?_
    refine bEqI bl_0 ?_
    refine bGo hA 0 11 (21, .ireturn, 1, 0, 0, [2], []) rfl rfl rfl ?_
    exact ⟨b01 (Or.inl rfl), (h.1 c1)⟩
  · refine bGo hA 0 4 (8, .aload_n 0, 1, 5, 0, [0], []) rfl rfl rfl ?_
    refine bGo hA 0 5 (9, .getfield 25, 3, 6, 0, [0, 10, 0, 0, 0, 0], []) rfl rfl rfl ?_
    refine ⟨h_a0, ?_⟩
    refine bEqI (bn_bi σ a0 10) ?_
    refine bGo hA 0 6 (12, .iconst (4), 1, 7, 0, [], [(4, 0)]) rfl rfl rfl ?_
    refine bEqI bl_4 ?_
    refine bGo hA 0 7 (13, .if_icmp .gt (7), 3, 8, 10, [], []) rfl rfl rfl ?_
    refine bB_lt (x := 4) (y := (bi σ a0 10)) (by decide : bRg 4) (bi_rg _ _ _) (fun c2 => ?_) (fun c2 => ?_)
    · refine bGo hA 0 10 (20, .iconst (0), 1, 11, 0, [], [(0, 0)]) rfl rfl rfl ?_
      refine bEqI bl_0 ?_
      refine bGo hA 0 11 (21, .ireturn, 1, 0, 0, [2], []) rfl rfl rfl ?_
      exact ⟨b01 (Or.inl rfl), ((h.2 c1).1 c2)⟩
    · refine bGo hA 0 8 (16, .iconst (1), 1, 9, 0, [], [(1, 0)]) rfl rfl rfl ?_
      refine bEqI bl_1 ?_
      refine bGo hA 0 9 (17, .goto (4), 3, 10, 11, [], []) rfl rfl rfl ?_
      refine bGo hA 0 11 (21, .ireturn, 1, 0, 0, [2], []) rfl rfl rfl ?_
      exact ⟨b01 (Or.inr rfl), ((h.2 c1).2 c2)⟩

theorem sq281_0 {lvl : Nat} {C : bCall} {Q : bPost} {A : bPt → Prop} (hC : bMono C) (hA : bClosed lvl bm281 C Q A) {x1 : Int} {σ : bSt}  (h_x1 : bRg x1)
  (h : ((0 ≤ x1 ∧ x1 < 120) ∧ (C 199 [.int (bn (bi σ 142 x1)), .int (bn 0), .int (bn 4)] σ (bRn (fun r3 s1 => ((r3 = 0 ∨ r3 = 1) ∧ Q (.inl (some (.int (bn r3)))) s1)))))) : A (0, [.ref 12, .int (bn x1)], [], σ) := by
  refine bGo hA 0 0 (0, .aload_n 0, 1, 1, 0, [0], []) rfl rfl rfl ?_
  refine bGo hA 0 1 (1, .getfield 269, 3, 2, 0, [12, 98, 3, 142, 1, 0], []) rfl rfl rfl ?_
  refine ⟨rfl, ?_⟩
  refine bGo hA 0 2 (4, .iload_n 1, 1, 3, 0, [1], []) rfl rfl rfl ?_
  refine bGo hA 0 3 (5, .iaload, 1, 4, 0, [], []) rfl rfl rfl ?_
  refine ⟨rfl, (bIxP (x := x1) (n := 120) h_x1 h.1), ?_⟩
  refine bEqL (x := x1) h_x1 ?_
  refine bGo hA 0 4 (6, .iconst (0), 1, 5, 0, [], [(0, 0)]) rfl rfl rfl ?_
  refine bEqI bl_0 ?_
  refine bGo hA 0 5 (7, .iconst (4), 1, 6, 0, [], [(4, 0)]) rfl rfl rfl ?_
  refine bEqI bl_4 ?_
  refine bGo hA 0 6 (8, .invokestatic 325, 3, 7, 0, [2, 199, 3], []) rfl rfl rfl ?_
  refine hC _ _ _ _ _ (bRn_e (fun r3 s1 q4 k2 => ?_)) h.2
  show A (7, [.ref 12, .int (bn x1)], [.int (bn r3)], s1)
  refine bGo hA 0 7 (11, .ireturn, 1, 0, 0, [2], []) rfl rfl rfl ?_
  exact ⟨b01 k2.1, k2.2⟩

theorem sq5_0 {lvl : Nat} {C : bCall} {Q : bPost} {A : bPt → Prop} (hC : bMono C) (hA : bClosed lvl bm5 C Q A) {a0 : Nat} {x1 : Int} {σ : bSt} (h_a0 : a0 % 256 = 0) (h_x1 : bRg x1)
  (h : ((x1 < 0 → Q (.inl (some (.int (bn (-1))))) σ) ∧ (¬ x1 < 0 → ((x1 < (bi σ a0 1) → (¬ bTy (256 * (1 * (a0 / 256) + 0) + 13) = 9 ∧ (bRg (bLen σ (256 * (1 * (a0 / 256) + 0) + 13) : Int) ∧ ((x1 < (bLen σ (256 * (1 * (a0 / 256) + 0) + 13) : Int) → (bTy (256 * (1 * (a0 / 256) + 0) + 13) = 0 ∧ ((0 ≤ x1 ∧ x1 < (bLen σ (256 * (1 * (a0 / 256) + 0) + 13) : Int)) ∧ (((bi σ (256 * (1 * (a0 / 256) + 0) + 13) x1) < 100 → Q (.inl (some (.int (bn (-1))))) σ) ∧ (¬ (bi σ (256 * (1 * (a0 / 256) + 0) + 13) x1) < 100 → ((0 ≤ x1 ∧ x1 < (bLen σ (256 * (1 * (a0 / 256) + 0) + 13) : Int)) ∧ (bRg ((bi σ (256 * (1 * (a0 / 256) + 0) + 13) x1) - 100) ∧ Q (.inl (some (.int (bn ((bi σ (256 * (1 * (a0 / 256) + 0) + 13) x1) - 100))))) σ))))))) ∧ (¬ x1 < (bLen σ (256 * (1 * (a0 / 256) + 0) + 13) : Int) → Q (.inl (some (.int (bn (-1))))) σ))))) ∧ (¬ x1 < (bi σ a0 1) → Q (.inl (some (.int (bn (-1))))) σ))))) : A (0, [.ref a0, .int (bn x1), .float 0], [], σ) := by
  refine bGo hA 0 0 (0, .iload_n 1, 1, 1, 0, [1], []) rfl rfl rfl ?_
  refine bGo hA 0 1 (1, .ifCond .lt (24), 3, 2, 13, [], []) rfl rfl rfl ?_
  refine bB_lt0 (x := x1) h_x1 (fun c1 => ?_) (fun c1 => ?_)
  · refine bGo hA 0 13 (25, .iconst (0), 1, 14, 0, [], [(0, 0)]) rfl rfl rfl ?_
    refine bEqI bl_0 ?_
    refine bGo hA 0 14 (26, .istore_n 2, 1, 15, 0, [2], []) rfl rfl rfl ?_
    refine bGo hA 0 15 (27, .iload_n 2, 1, 16, 0, [2], []) rfl rfl rfl ?_
    refine bGo hA 1 0 (28, .ifCond .eq (26), 3, 17, 30, [], []) rfl rfl rfl ?_
    refine ⟨fun _ => ?_, fun c => absurd (by decide) c⟩
    refine bGo hA 1 14 (54, .iconst (-1), 1, 31, 0, [], [(-1, 0)]) rfl rfl rfl ?_
    refine bEqI bl_m1 ?_
    refine bGo hA 1 15 (55, .ireturn, 1, 0, 0, [1], []) rfl rfl rfl ?_
    exact (h.1 c1)
  · refine bGo hA 0 2 (4, .iload_n 1, 1, 3, 0, [1], []) rfl rfl rfl ?_
    refine bGo hA 0 3 (5, .aload_n 0, 1, 4, 0, [0], []) rfl rfl rfl ?_
    refine bGo hA 0 4 (6, .getfield 57, 3, 5, 0, [0, 1, 0, 0, 0, 0], []) rfl rfl rfl ?_
    refine ⟨h_a0, ?_⟩
    refine bEqI (bn_bi σ a0 1) ?_
    refine bGo hA 0 5 (9, .if_icmp .ge (16), 3, 6, 13, [], []) rfl rfl rfl ?_
    refine bB_lt (x := x1) (y := (bi σ a0 1)) h_x1 (bi_rg _ _ _) (fun c3 => ?_) (fun c3 => ?_)
    · refine bGo hA 0 6 (12, .iload_n 1, 1, 7, 0, [1], []) rfl rfl rfl ?_
      refine bGo hA 0 7 (13, .aload_n 0, 1, 8, 0, [0], []) rfl rfl rfl ?_
      refine bGo hA 0 8 (14, .getfield 9, 3, 9, 0, [0, 2, 3, 13, 1, 0], []) rfl rfl rfl ?_
      refine ⟨h_a0, ?_⟩
      refine bGo hA 0 9 (17, .arraylength, 1, 10, 0, [], []) rfl rfl rfl ?_
      refine ⟨((h.2 c1).1 c3).1, ?_⟩
      refine bEqI (bn_nat _).symm ?_
      refine bGo hA 0 10 (18, .if_icmp .ge (7), 3, 11, 13, [], []) rfl rfl rfl ?_
      refine bB_lt (x := x1) (y := (bLen σ (256 * (1 * (a0 / 256) + 0) + 13) : Int)) h_x1 ((h.2 c1).1 c3).2.1 (fun c4 => ?_) (fun c4 => ?_)
      · refine bGo hA 0 11 (21, .iconst (1), 1, 12, 0, [], [(1, 0)]) rfl rfl rfl ?_
        refine bEqI bl_1 ?_
        refine bGo hA 0 12 (22, .goto (4), 3, 13, 14, [], []) rfl rfl rfl ?_
        refine bGo hA 0 14 (26, .istore_n 2, 1, 15, 0, [2], []) rfl rfl rfl ?_
        refine bGo hA 0 15 (27, .iload_n 2, 1, 16, 0, [2], []) rfl rfl rfl ?_
        refine bGo hA 1 0 (28, .ifCond .eq (26), 3, 17, 30, [], []) rfl rfl rfl ?_
        refine ⟨fun c => absurd c (by decide), fun _ => ?_⟩
        refine bGo hA 1 1 (31, .aload_n 0, 1, 18, 0, [0], []) rfl rfl rfl ?_
        refine bGo hA 1 2 (32, .getfield 9, 3, 19, 0, [0, 2, 3, 13, 1, 0], []) rfl rfl rfl ?_
        refine ⟨h_a0, ?_⟩
        refine bGo hA 1 3 (35, .iload_n 1, 1, 20, 0, [1], []) rfl rfl rfl ?_
        refine bGo hA 1 4 (36, .iaload, 1, 21, 0, [], []) rfl rfl rfl ?_
        refine ⟨(((h.2 c1).1 c3).2.2.1 c4).1, (bIxP (x := x1) (n := bLen σ (256 * (1 * (a0 / 256) + 0) + 13)) h_x1 (((h.2 c1).1 c3).2.2.1 c4).2.1), ?_⟩
        refine bEqL (x := x1) h_x1 ?_
        refine bGo hA 1 5 (37, .bipush (100), 2, 22, 0, [], [(100, 0)]) rfl rfl rfl ?_
        refine bEqI bl_100 ?_
        refine bGo hA 1 6 (39, .if_icmp .lt (15), 3, 23, 30, [], []) rfl rfl rfl ?_
        refine bB_lt (x := (bi σ (256 * (1 * (a0 / 256) + 0) + 13) x1)) (y := 100) (bi_rg _ _ _) (by decide : bRg 100) (fun c6 => ?_) (fun c6 => ?_)
        · refine bGo hA 1 14 (54, .iconst (-1), 1, 31, 0, [], [(-1, 0)]) rfl rfl rfl ?_
          refine bEqI bl_m1 ?_
          refine bGo hA 1 15 (55, .ireturn, 1, 0, 0, [1], []) rfl rfl rfl ?_
          exact ((((h.2 c1).1 c3).2.2.1 c4).2.2.1 c6)
        · refine bGo hA 1 7 (42, .aload_n 0, 1, 24, 0, [0], []) rfl rfl rfl ?_
          refine bGo hA 1 8 (43, .getfield 9, 3, 25, 0, [0, 2, 3, 13, 1, 0], []) rfl rfl rfl ?_
          refine ⟨h_a0, ?_⟩
          refine bGo hA 1 9 (46, .iload_n 1, 1, 26, 0, [1], []) rfl rfl rfl ?_
          refine bGo hA 1 10 (47, .iaload, 1, 27, 0, [], []) rfl rfl rfl ?_
          refine ⟨(((h.2 c1).1 c3).2.2.1 c4).1, (bIxP (x := x1) (n := bLen σ (256 * (1 * (a0 / 256) + 0) + 13)) h_x1 ((((h.2 c1).1 c3).2.2.1 c4).2.2.2 c6).1), ?_⟩
          refine bEqL (x := x1) h_x1 ?_
          refine bGo hA 1 11 (48, .bipush (100), 2, 28, 0, [], [(100, 0)]) rfl rfl rfl ?_
          refine bEqI bl_100 ?_
          refine bGo hA 1 12 (50, .isub, 1, 29, 0, [], []) rfl rfl rfl ?_
          refine bEqI (bn_sub (bi σ (256 * (1 * (a0 / 256) + 0) + 13) x1) 100) ?_
          refine bGo hA 1 13 (51, .goto (4), 3, 30, 31, [], []) rfl rfl rfl ?_
          refine bGo hA 1 15 (55, .ireturn, 1, 0, 0, [1], []) rfl rfl rfl ?_
          exact ((((h.2 c1).1 c3).2.2.1 c4).2.2.2 c6).2.2
      · refine bGo hA 0 13 (25, .iconst (0), 1, 14, 0, [], [(0, 0)]) rfl rfl rfl ?_
        refine bEqI bl_0 ?_
        refine bGo hA 0 14 (26, .istore_n 2, 1, 15, 0, [2], []) rfl rfl rfl ?_
        refine bGo hA 0 15 (27, .iload_n 2, 1, 16, 0, [2], []) rfl rfl rfl ?_
        refine bGo hA 1 0 (28, .ifCond .eq (26), 3, 17, 30, [], []) rfl rfl rfl ?_
        refine ⟨fun _ => ?_, fun c => absurd (by decide) c⟩
        refine bGo hA 1 14 (54, .iconst (-1), 1, 31, 0, [], [(-1, 0)]) rfl rfl rfl ?_
        refine bEqI bl_m1 ?_
        refine bGo hA 1 15 (55, .ireturn, 1, 0, 0, [1], []) rfl rfl rfl ?_
        exact (((h.2 c1).1 c3).2.2.2 c4)
    · refine bGo hA 0 13 (25, .iconst (0), 1, 14, 0, [], [(0, 0)]) rfl rfl rfl ?_
      refine bEqI bl_0 ?_
      refine bGo hA 0 14 (26, .istore_n 2, 1, 15, 0, [2], []) rfl rfl rfl ?_
      refine bGo hA 0 15 (27, .iload_n 2, 1, 16, 0, [2], []) rfl rfl rfl ?_
      refine bGo hA 1 0 (28, .ifCond .eq (26), 3, 17, 30, [], []) rfl rfl rfl ?_
      refine ⟨fun _ => ?_, fun c => absurd (by decide) c⟩
      refine bGo hA 1 14 (54, .iconst (-1), 1, 31, 0, [], [(-1, 0)]) rfl rfl rfl ?_
      refine bEqI bl_m1 ?_
      refine bGo hA 1 15 (55, .ireturn, 1, 0, 0, [1], []) rfl rfl rfl ?_
      exact ((h.2 c1).2 c3)


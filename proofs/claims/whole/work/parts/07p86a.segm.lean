/-! segments of methods 189,306,190,307,191,308,169,273,170,274,171,275,20,22,168,24,278,175,299,176,300,178,252, by program (wip/whole/gen13.py): from a cut of a method on to the next cuts -/
theorem sq189_0 {lvl : Nat} {C : bCall} {Q : bPost} {A : bPt → Prop} (hC : bMono C) (hA : bClosed lvl bm189 C Q A) {x1 : Int} {x2 : Int} {σ : bSt}  (h_x1 : bRg x1) (h_x2 : bRg x2)
  (h : (C 136 [.int (bn x1), .int (bn (bi σ 9 0))] σ (bRvx (fun s1 => (C 136 [.int (bn x2), .int (bn 4)] s1 (bRvx (fun s3 => (C 120 [.ref 9, .int (bn x1)] s3 (bRa (fun r7 s5 => (r7 % 256 = 8 ∧ (C 140 [.ref (256 * (1 * (r7 / 256) + 0) + 48), .int (bn x2)] s5 (bRn (fun r10 s8 => Q (.inl (some (.int (bn r10)))) s8)))))))) (fun E s3 => Q (.inr E) s3)))) (fun E s1 => Q (.inr E) s1)))) : A (0, [.ref 11, .int (bn x1), .int (bn x2)], [], σ) := by
  refine bGo hA 0 0 (0, .iload_n 1, 1, 1, 0, [1], []) rfl rfl rfl ?_
  refine bGo hA 0 1 (1, .aload_n 0, 1, 2, 0, [0], []) rfl rfl rfl ?_
  refine bGo hA 0 2 (2, .getfield 33, 3, 3, 0, [11, 3, 3, 9, 0, 0], []) rfl rfl rfl ?_
  refine ⟨rfl, ?_⟩
  refine bGo hA 0 3 (5, .getfield 144, 3, 4, 0, [9, 0, 0, 0, 0, 0], []) rfl rfl rfl ?_
  refine ⟨rfl, ?_⟩
  refine bEqI (bn_bi σ 9 0) ?_
  refine bGo hA 0 4 (8, .invokestatic 76, 3, 5, 0, [2, 136, 2], []) rfl rfl rfl ?_
  refine hC _ _ _ _ _ (bRvx_e (fun s1 k2 => ?_) (fun E s1 k2 => ?_)) h
  · show A (5, [.ref 11, .int (bn x1), .int (bn x2)], [], s1)
    refine bGo hA 0 5 (11, .iload_n 2, 1, 6, 0, [2], []) rfl rfl rfl ?_
    refine bGo hA 0 6 (12, .iconst (4), 1, 7, 0, [], [(4, 0)]) rfl rfl rfl ?_
    refine bEqI bl_4 ?_
    refine bGo hA 0 7 (13, .invokestatic 76, 3, 8, 0, [2, 136, 2], []) rfl rfl rfl ?_
    refine hC _ _ _ _ _ (bRvx_e (fun s3 k4 => ?_) (fun E s3 k4 => ?_)) k2
    · show A (8, [.ref 11, .int (bn x1), .int (bn x2)], [], s3)
      refine bGo hA 0 8 (16, .aload_n 0, 1, 9, 0, [0], []) rfl rfl rfl ?_
      refine bGo hA 0 9 (17, .getfield 33, 3, 10, 0, [11, 3, 3, 9, 0, 0], []) rfl rfl rfl ?_
      refine ⟨rfl, ?_⟩
      refine bGo hA 0 10 (20, .iload_n 1, 1, 11, 0, [1], []) rfl rfl rfl ?_
      refine bGo hA 0 11 (21, .invokevirtual 147, 3, 12, 0, [0, 9, 120, 1], []) rfl rfl rfl ?_
      refine ⟨rfl, ?_⟩
      refine hC _ _ _ _ _ (bRa_e (fun r7 s5 k6 => ?_)) k4
      show A (12, [.ref 11, .int (bn x1), .int (bn x2)], [.ref r7], s5)
      refine bGo hA 0 12 (24, .getfield 295, 3, 13, 0, [8, 17, 3, 48, 1, 0], []) rfl rfl rfl ?_
      refine ⟨k6.1, ?_⟩
      refine bGo hA 0 13 (27, .iload_n 2, 1, 14, 0, [2], []) rfl rfl rfl ?_
      refine bGo hA 0 14 (28, .invokestatic 68, 3, 15, 0, [2, 140, 2], []) rfl rfl rfl ?_
      refine hC _ _ _ _ _ (bRn_e (fun r10 s8 q11 k9 => ?_)) k6.2
      show A (15, [.ref 11, .int (bn x1), .int (bn x2)], [.int (bn r10)], s8)
      refine bGo hA 0 15 (31, .ireturn, 1, 0, 0, [1], []) rfl rfl rfl ?_
      exact k9
    · exact k4
  · exact k2

theorem sq306_0 {lvl : Nat} {C : bCall} {Q : bPost} {A : bPt → Prop} (hC : bMono C) (hA : bClosed lvl bm306 C Q A) {x1 : Int} {x2 : Int} {σ : bSt}  (h_x1 : bRg x1) (h_x2 : bRg x2)
  (h : (C 225 [.ref 12, .int (bn x1)] σ (bRn (fun r3 s1 => ((r3 = 0 → (C 197 [.ref 12, .int (bn 1)] s1 (bRn (fun r8 s6 => ((r8 = 0 → (bRg (4 * x1) ∧ (bRg ((4 * x1) + x2) ∧ ((0 ≤ ((4 * x1) + x2) ∧ ((4 * x1) + x2) < 64) ∧ Q (.inl (some (.int (bn (bi s6 151 ((4 * x1) + x2)))))) s6)))) ∧ (¬ r8 = 0 → Q (.inl (some (.int (bn 0)))) s6)))))) ∧ (¬ r3 = 0 → (C 199 [.int (bn x2), .int (bn 0), .int (bn 3)] s1 (bRn (fun r13 s11 => ((r13 = 0 → (C 197 [.ref 12, .int (bn 1)] s11 (bRn (fun r18 s16 => ((r18 = 0 → (bRg (4 * x1) ∧ (bRg ((4 * x1) + x2) ∧ ((0 ≤ ((4 * x1) + x2) ∧ ((4 * x1) + x2) < 64) ∧ Q (.inl (some (.int (bn (bi s16 151 ((4 * x1) + x2)))))) s16)))) ∧ (¬ r18 = 0 → Q (.inl (some (.int (bn 0)))) s16)))))) ∧ (¬ r13 = 0 → (C 197 [.ref 12, .int (bn 0)] s11 (bRn (fun r23 s21 => ((r23 = 0 → (bRg (4 * x1) ∧ (bRg ((4 * x1) + x2) ∧ ((0 ≤ ((4 * x1) + x2) ∧ ((4 * x1) + x2) < 64) ∧ Q (.inl (some (.int (bn (bi s21 151 ((4 * x1) + x2)))))) s21)))) ∧ (¬ r23 = 0 → Q (.inl (some (.int (bn 0)))) s21)))))))))))))))) : A (0, [.ref 12, .int (bn x1), .int (bn x2)], [], σ) := by
  refine bGo hA 0 0 (0, .aload_n 0, 1, 1, 0, [0], []) rfl rfl rfl ?_
  refine bGo hA 0 1 (1, .aload_n 0, 1, 2, 0, [0], []) rfl rfl rfl ?_
  refine bGo hA 0 2 (2, .iload_n 1, 1, 3, 0, [1], []) rfl rfl rfl ?_
  refine bGo hA 0 3 (3, .invokevirtual 383, 3, 4, 0, [0, 12, 225, 1], []) rfl rfl rfl ?_
  refine ⟨rfl, ?_⟩
  refine hC _ _ _ _ _ (bRn_e (fun r3 s1 q4 k2 => ?_)) h
  show A (4, [.ref 12, .int (bn x1), .int (bn x2)], [.int (bn r3), .ref 12], s1)
  refine bGo hA 0 4 (6, .ifCond .eq (16), 3, 5, 12, [], []) rfl rfl rfl ?_
  refine bB_eq0 (x := r3) q4 (fun c5 => ?_) (fun c5 => ?_)
  · refine bGo hA 0 12 (22, .iconst (1), 1, 13, 0, [], [(1, 0)]) rfl rfl rfl ?_
    refine bEqI bl_1 ?_
    refine bGo hA 0 13 (23, .invokevirtual 333, 3, 14, 0, [0, 12, 197, 1], []) rfl rfl rfl ?_
    refine ⟨rfl, ?_⟩
    refine hC _ _ _ _ _ (bRn_e (fun r8 s6 q9 k7 => ?_)) (k2.1 c5)
    show A (14, [.ref 12, .int (bn x1), .int (bn x2)], [.int (bn r8)], s6)
    refine bGo hA 0 14 (26, .ifCond .eq (7), 3, 15, 17, [], []) rfl rfl rfl ?_
    refine bB_eq0 (x := r8) q9 (fun c10 => ?_) (fun c10 => ?_)
    · refine bGo hA 1 1 (33, .aload_n 0, 1, 18, 0, [0], []) rfl rfl rfl ?_
      refine bGo hA 1 2 (34, .getfield 296, 3, 19, 0, [12, 109, 3, 151, 1, 0], []) rfl rfl rfl ?_
      refine ⟨rfl, ?_⟩
      refine bGo hA 1 3 (37, .iconst (4), 1, 20, 0, [], [(4, 0)]) rfl rfl rfl ?_
      refine bEqI bl_4 ?_
      refine bGo hA 1 4 (38, .iload_n 1, 1, 21, 0, [1], []) rfl rfl rfl ?_
      refine bGo hA 1 5 (39, .imul, 1, 22, 0, [], []) rfl rfl rfl ?_
      refine bEqI (bn_mul 4 x1) ?_
      refine bGo hA 1 6 (40, .iload_n 2, 1, 23, 0, [2], []) rfl rfl rfl ?_
      refine bGo hA 1 7 (41, .iadd, 1, 24, 0, [], []) rfl rfl rfl ?_
      refine bEqI (bn_add (4 * x1) x2) ?_
      refine bGo hA 1 8 (42, .iaload, 1, 25, 0, [], []) rfl rfl rfl ?_
      refine ⟨rfl, (bIxP (x := ((4 * x1) + x2)) (n := 64) (k7.1 c10).2.1 (k7.1 c10).2.2.1), ?_⟩
      refine bEqL (x := ((4 * x1) + x2)) (k7.1 c10).2.1 ?_
      refine bGo hA 1 9 (43, .ireturn, 1, 0, 0, [1], []) rfl rfl rfl ?_
      exact (k7.1 c10).2.2.2
    · refine bGo hA 0 15 (29, .iconst (0), 1, 16, 0, [], [(0, 0)]) rfl rfl rfl ?_
      refine bEqI bl_0 ?_
      refine bGo hA 1 0 (30, .goto (13), 3, 17, 25, [], []) rfl rfl rfl ?_
      refine bGo hA 1 9 (43, .ireturn, 1, 0, 0, [1], []) rfl rfl rfl ?_
      exact (k7.2 c10)
  · refine bGo hA 0 5 (9, .iload_n 2, 1, 6, 0, [2], []) rfl rfl rfl ?_
    refine bGo hA 0 6 (10, .iconst (0), 1, 7, 0, [], [(0, 0)]) rfl rfl rfl ?_
    refine bEqI bl_0 ?_
    refine bGo hA 0 7 (11, .iconst (3), 1, 8, 0, [], [(3, 0)]) rfl rfl rfl ?_
    refine bEqI bl_3 ?_
    refine bGo hA 0 8 (12, .invokestatic 325, 3, 9, 0, [2, 199, 3], []) rfl rfl rfl ?_
    refine hC _ _ _ _ _ (bRn_e (fun r13 s11 q14 k12 => ?_)) (k2.2 c5)
    show A (9, [.ref 12, .int (bn x1), .int (bn x2)], [.int (bn r13), .ref 12], s11)
    refine bGo hA 0 9 (15, .ifCond .eq (7), 3, 10, 12, [], []) rfl rfl rfl ?_
    refine bB_eq0 (x := r13) q14 (fun c15 => ?_) (fun c15 => ?_)
    · refine bGo hA 0 12 (22, .iconst (1), 1, 13, 0, [], [(1, 0)]) rfl rfl rfl ?_
      refine bEqI bl_1 ?_
      refine bGo hA 0 13 (23, .invokevirtual 333, 3, 14, 0, [0, 12, 197, 1], []) rfl rfl rfl ?_
      refine ⟨rfl, ?_⟩
      refine hC _ _ _ _ _ (bRn_e (fun r18 s16 q19 k17 => ?_)) (k12.1 c15)
      show A (14, [.ref 12, .int (bn x1), .int (bn x2)], [.int (bn r18)], s16)
      refine bGo hA 0 14 (26, .ifCond .eq (7), 3, 15, 17, [], []) rfl rfl rfl ?_
      refine bB_eq0 (x := r18) q19 (fun c20 => ?_) (fun c20 => ?_)
      · refine bGo hA 1 1 (33, .aload_n 0, 1, 18, 0, [0], []) rfl rfl rfl ?_
        refine bGo hA 1 2 (34, .getfield 296, 3, 19, 0, [12, 109, 3, 151, 1, 0], []) rfl rfl rfl ?_
        refine ⟨rfl, ?_⟩
        refine bGo hA 1 3 (37, .iconst (4), 1, 20, 0, [], [(4, 0)]) rfl rfl rfl ?_
        refine bEqI bl_4 ?_
        refine bGo hA 1 4 (38, .iload_n 1, 1, 21, 0, [1], []) rfl rfl rfl ?_
        refine bGo hA 1 5 (39, .imul, 1, 22, 0, [], []) rfl rfl rfl ?_
        refine bEqI (bn_mul 4 x1) ?_
        refine bGo hA 1 6 (40, .iload_n 2, 1, 23, 0, [2], []) rfl rfl rfl ?_
        refine bGo hA 1 7 (41, .iadd, 1, 24, 0, [], []) rfl rfl rfl ?_
        refine bEqI (bn_add (4 * x1) x2) ?_
        refine bGo hA 1 8 (42, .iaload, 1, 25, 0, [], []) rfl rfl rfl ?_
        refine ⟨rfl, (bIxP (x := ((4 * x1) + x2)) (n := 64) (k17.1 c20).2.1 (k17.1 c20).2.2.1), ?_⟩
        refine bEqL (x := ((4 * x1) + x2)) (k17.1 c20).2.1 ?_
        refine bGo hA 1 9 (43, .ireturn, 1, 0, 0, [1], []) rfl rfl rfl ?_
        exact (k17.1 c20).2.2.2
      · refine bGo hA 0 15 (29, .iconst (0), 1, 16, 0, [], [(0, 0)]) rfl rfl rfl ?_
        refine bEqI bl_0 ?_
        refine bGo hA 1 0 (30, .goto (13), 3, 17, 25, [], []) rfl rfl rfl ?_
        refine bGo hA 1 9 (43, .ireturn, 1, 0, 0, [1], []) rfl rfl rfl ?_
        exact (k17.2 c20)
    · refine bGo hA 0 10 (18, .iconst (0), 1, 11, 0, [], [(0, 0)]) rfl rfl rfl ?_
      refine bEqI bl_0 ?_
      refine bGo hA 0 11 (19, .goto (4), 3, 12, 13, [], []) rfl rfl rfl ?_
      refine bGo hA 0 13 (23, .invokevirtual 333, 3, 14, 0, [0, 12, 197, 1], []) rfl rfl rfl ?_
      refine ⟨rfl, ?_⟩
      refine hC _ _ _ _ _ (bRn_e (fun r23 s21 q24 k22 => ?_)) (k12.2 c15)
      show A (14, [.ref 12, .int (bn x1), .int (bn x2)], [.int (bn r23)], s21)
      refine bGo hA 0 14 (26, .ifCond .eq (7), 3, 15, 17, [], []) rfl rfl rfl ?_
      refine bB_eq0 (x := r23) q24 (fun c25 => ?_) (fun c25 => ?_)
      · refine bGo hA 1 1 (33, .aload_n 0, 1, 18, 0, [0], []) rfl rfl rfl ?_
        refine bGo hA 1 2 (34, .getfield 296, 3, 19, 0, [12, 109, 3, 151, 1, 0], []) rfl rfl rfl ?_
        refine ⟨rfl, ?_⟩
        refine bGo hA 1 3 (37, .iconst (4), 1, 20, 0, [], [(4, 0)]) rfl rfl rfl ?_
        refine bEqI bl_4 ?_
        refine bGo hA 1 4 (38, .iload_n 1, 1, 21, 0, [1], []) rfl rfl rfl ?_
        refine bGo hA 1 5 (39, .imul, 1, 22, 0, [], []) rfl rfl rfl ?_
        refine bEqI (bn_mul 4 x1) ?_
        refine bGo hA 1 6 (40, .iload_n 2, 1, 23, 0, [2], []) rfl rfl rfl ?_
        refine bGo hA 1 7 (41, .iadd, 1, 24, 0, [], []) rfl rfl rfl ?_
        refine bEqI (bn_add (4 * x1) x2) ?_
        refine bGo hA 1 8 (42, .iaload, 1, 25, 0, [], []) rfl rfl rfl ?_
        refine ⟨rfl, (bIxP (x := ((4 * x1) + x2)) (n := 64) (k22.1 c25).2.1 (k22.1 c25).2.2.1), ?_⟩
        refine bEqL (x := ((4 * x1) + x2)) (k22.1 c25).2.1 ?_
        refine bGo hA 1 9 (43, .ireturn, 1, 0, 0, [1], []) rfl rfl rfl ?_
        exact (k22.1 c25).2.2.2
      · refine bGo hA 0 15 (29, .iconst (0), 1, 16, 0, [], [(0, 0)]) rfl rfl rfl ?_
        refine bEqI bl_0 ?_
        refine bGo hA 1 0 (30, .goto (13), 3, 17, 25, [], []) rfl rfl rfl ?_
        refine bGo hA 1 9 (43, .ireturn, 1, 0, 0, [1], []) rfl rfl rfl ?_
        exact (k22.2 c25)

theorem sq190_0 {lvl : Nat} {C : bCall} {Q : bPost} {A : bPt → Prop} (hC : bMono C) (hA : bClosed lvl bm190 C Q A)  {σ : bSt}  
  (h : Q (.inl (some (.int (bn (bi σ 11 6))))) σ) : A (0, [.ref 11], [], σ) := by
  refine bGo hA 0 0 (0, .aload_n 0, 1, 1, 0, [0], []) rfl rfl rfl ?_
  refine bGo hA 0 1 (1, .getfield 274, 3, 2, 0, [11, 6, 0, 0, 0, 0], []) rfl rfl rfl ?_
  refine ⟨rfl, ?_⟩
  refine bEqI (bn_bi σ 11 6) ?_
  refine bGo hA 0 2 (4, .ireturn, 1, 0, 0, [1], []) rfl rfl rfl ?_
  exact h

theorem sq307_0 {lvl : Nat} {C : bCall} {Q : bPost} {A : bPt → Prop} (hC : bMono C) (hA : bClosed lvl bm307 C Q A)  {σ : bSt}  
  (h : (C 198 [.ref 12, .int (bn (bi σ 12 111))] σ (bRn (fun r3 s1 => Q (.inl (some (.int (bn r3)))) s1)))) : A (0, [.ref 12], [], σ) := by
  refine bGo hA 0 0 (0, .aload_n 0, 1, 1, 0, [0], []) rfl rfl rfl ?_
  refine bGo hA 0 1 (1, .aload_n 0, 1, 2, 0, [0], []) rfl rfl rfl ?_
  refine bGo hA 0 2 (2, .getfield 569, 3, 3, 0, [12, 111, 0, 0, 0, 0], []) rfl rfl rfl ?_
  refine ⟨rfl, ?_⟩
  refine bEqI (bn_bi σ 12 111) ?_
  refine bGo hA 0 3 (5, .invokevirtual 428, 3, 4, 0, [0, 12, 198, 1], []) rfl rfl rfl ?_
  refine ⟨rfl, ?_⟩
  refine hC _ _ _ _ _ (bRn_e (fun r3 s1 q4 k2 => ?_)) h
  show A (4, [.ref 12], [.int (bn r3)], s1)
  refine bGo hA 0 4 (8, .ireturn, 1, 0, 0, [1], []) rfl rfl rfl ?_
  exact k2

theorem sq191_0 {lvl : Nat} {C : bCall} {Q : bPost} {A : bPt → Prop} (hC : bMono C) (hA : bClosed lvl bm191 C Q A) {x1 : Int} {σ : bSt}  (h_x1 : bRg x1)
  (h : (C 138 [.int (bn x1), .int (bn 0), .int (bn 2147483647)] σ (bRvx (fun s1 => Q (.inl none) (bwj s1 11 7 (bL x1))) (fun E s1 => Q (.inr E) s1)))) : A (0, [.ref 11, .int (bn x1)], [], σ) := by
  refine bGo hA 0 0 (0, .iload_n 1, 1, 1, 0, [1], []) rfl rfl rfl ?_
  refine bGo hA 0 1 (1, .iconst (0), 1, 2, 0, [], [(0, 0)]) rfl rfl rfl ?_
  refine bEqI bl_0 ?_
  refine bGo hA 0 2 (2, .ldc_w 311, 3, 3, 0, [311], [(2147483647, 0)]) rfl rfl rfl ?_
  refine bEqI bl_2147483647 ?_
  refine bGo hA 0 3 (5, .invokestatic 80, 3, 4, 0, [2, 138, 3], []) rfl rfl rfl ?_
  refine hC _ _ _ _ _ (bRvx_e (fun s1 k2 => ?_) (fun E s1 k2 => ?_)) h
  · show A (4, [.ref 11, .int (bn x1)], [], s1)
    refine bGo hA 0 4 (8, .aload_n 0, 1, 5, 0, [0], []) rfl rfl rfl ?_
    refine bGo hA 0 5 (9, .iload_n 1, 1, 6, 0, [1], []) rfl rfl rfl ?_
    refine bGo hA 0 6 (10, .i2l, 1, 7, 0, [], []) rfl rfl rfl ?_
    refine bGo hA 0 7 (11, .putfield 55, 3, 8, 0, [11, 7, 2, 0, 0, 0], []) rfl rfl rfl ?_
    refine ⟨rfl, ?_⟩
    refine bGo hA 0 8 (14, .return_, 1, 0, 0, [0], []) rfl rfl rfl ?_
    exact k2
  · exact k2

theorem sq308_0 {lvl : Nat} {C : bCall} {Q : bPost} {A : bPt → Prop} (hC : bMono C) (hA : bClosed lvl bm308 C Q A) {x1 : Int} {σ : bSt}  (h_x1 : bRg x1)
  (h : ((x1 < 0 → (C 197 [.ref 12, .int (bn 1)] σ (bRn (fun r4 s2 => ((r4 = 0 → Q (.inl none) (bw s2 12 112 x1)) ∧ (¬ r4 = 0 → Q (.inl none) s2)))))) ∧ (¬ x1 < 0 → (C 197 [.ref 12, .int (bn 0)] σ (bRn (fun r9 s7 => ((r9 = 0 → Q (.inl none) (bw s7 12 112 x1)) ∧ (¬ r9 = 0 → Q (.inl none) s7)))))))) : A (0, [.ref 12, .int (bn x1)], [], σ) := by
  refine bGo hA 0 0 (0, .aload_n 0, 1, 1, 0, [0], []) rfl rfl rfl ?_
  refine bGo hA 0 1 (1, .iload_n 1, 1, 2, 0, [1], []) rfl rfl rfl ?_
  refine bGo hA 0 2 (2, .ifCond .lt (7), 3, 3, 5, [], []) rfl rfl rfl ?_
  refine bB_lt0 (x := x1) h_x1 (fun c1 => ?_) (fun c1 => ?_)
  · refine bGo hA 0 5 (9, .iconst (1), 1, 6, 0, [], [(1, 0)]) rfl rfl rfl ?_
    refine bEqI bl_1 ?_
    refine bGo hA 0 6 (10, .invokevirtual 333, 3, 7, 0, [0, 12, 197, 1], []) rfl rfl rfl ?_
    refine ⟨rfl, ?_⟩
    refine hC _ _ _ _ _ (bRn_e (fun r4 s2 q5 k3 => ?_)) (h.1 c1)
    show A (7, [.ref 12, .int (bn x1)], [.int (bn r4)], s2)
    refine bGo hA 0 7 (13, .ifCond .ne (8), 3, 8, 11, [], []) rfl rfl rfl ?_
    refine bB_eq0 (x := r4) q5 (fun c6 => ?_) (fun c6 => ?_)
    · refine bGo hA 0 8 (16, .aload_n 0, 1, 9, 0, [0], []) rfl rfl rfl ?_
      refine bGo hA 0 9 (17, .iload_n 1, 1, 10, 0, [1], []) rfl rfl rfl ?_
      refine bGo hA 0 10 (18, .putfield 319, 3, 11, 0, [12, 112, 0, 0, 0, 0], []) rfl rfl rfl ?_
      refine ⟨rfl, ?_⟩
      refine bGo hA 0 11 (21, .return_, 1, 0, 0, [0], []) rfl rfl rfl ?_
      exact (k3.1 c6)
    · refine bGo hA 0 11 (21, .return_, 1, 0, 0, [0], []) rfl rfl rfl ?_
      exact (k3.2 c6)
  · refine bGo hA 0 3 (5, .iconst (0), 1, 4, 0, [], [(0, 0)]) rfl rfl rfl ?_
    refine bEqI bl_0 ?_
    refine bGo hA 0 4 (6, .goto (4), 3, 5, 6, [], []) rfl rfl rfl ?_
    refine bGo hA 0 6 (10, .invokevirtual 333, 3, 7, 0, [0, 12, 197, 1], []) rfl rfl rfl ?_
    refine ⟨rfl, ?_⟩
    refine hC _ _ _ _ _ (bRn_e (fun r9 s7 q10 k8 => ?_)) (h.2 c1)
    show A (7, [.ref 12, .int (bn x1)], [.int (bn r9)], s7)
    refine bGo hA 0 7 (13, .ifCond .ne (8), 3, 8, 11, [], []) rfl rfl rfl ?_
    refine bB_eq0 (x := r9) q10 (fun c11 => ?_) (fun c11 => ?_)
    · refine bGo hA 0 8 (16, .aload_n 0, 1, 9, 0, [0], []) rfl rfl rfl ?_
      refine bGo hA 0 9 (17, .iload_n 1, 1, 10, 0, [1], []) rfl rfl rfl ?_
      refine bGo hA 0 10 (18, .putfield 319, 3, 11, 0, [12, 112, 0, 0, 0, 0], []) rfl rfl rfl ?_
      refine ⟨rfl, ?_⟩
      refine bGo hA 0 11 (21, .return_, 1, 0, 0, [0], []) rfl rfl rfl ?_
      exact (k8.1 c11)
    · refine bGo hA 0 11 (21, .return_, 1, 0, 0, [0], []) rfl rfl rfl ?_
      exact (k8.2 c11)

theorem sq169_0 {lvl : Nat} {C : bCall} {Q : bPost} {A : bPt → Prop} (hC : bMono C) (hA : bClosed lvl bm169 C Q A) {x1 : Int} {σ : bSt}  (h_x1 : bRg x1)
  (h : ((x1 = 0 ∨ x1 = 1) ∧ (((bi σ 3 3) = 0 ∨ (bi σ 3 3) = 1) ∧ Q (.inl (some (.int (bn (bi σ 3 3))))) (bw σ 3 3 x1)))) : A (0, [.ref 11, .int (bn x1), .float 0], [], σ) := by
  refine bGo hA 0 0 (0, .aload_n 0, 1, 1, 0, [0], []) rfl rfl rfl ?_
  refine bGo hA 0 1 (1, .getfield 12, 3, 2, 0, [11, 0, 3, 3, 0, 0], []) rfl rfl rfl ?_
  refine ⟨rfl, ?_⟩
  refine bGo hA 0 2 (4, .getfield 203, 3, 3, 0, [3, 3, 1, 0, 0, 0], []) rfl rfl rfl ?_
  refine ⟨rfl, ?_⟩
  refine bEqI (bn_bi σ 3 3) ?_
  refine bGo hA 0 3 (7, .istore_n 2, 1, 4, 0, [2], []) rfl rfl rfl ?_
  refine bGo hA 0 4 (8, .aload_n 0, 1, 5, 0, [0], []) rfl rfl rfl ?_
  refine bGo hA 0 5 (9, .getfield 12, 3, 6, 0, [11, 0, 3, 3, 0, 0], []) rfl rfl rfl ?_
  refine ⟨rfl, ?_⟩
  refine bGo hA 0 6 (12, .iload_n 1, 1, 7, 0, [1], []) rfl rfl rfl ?_
  refine bGo hA 0 7 (13, .putfield 203, 3, 8, 0, [3, 3, 1, 0, 0, 0], []) rfl rfl rfl ?_
  refine ⟨rfl, b01 h.1, ?_⟩
  refine bGo hA 0 8 (16, .iload_n 2, 1, 9, 0, [2], []) rfl rfl rfl ?_
  refine bGo hA 0 9 (17, .ireturn, 1, 0, 0, [2], []) rfl rfl rfl ?_
  exact ⟨b01 h.2.1, h.2.2⟩

theorem sq273_0 {lvl : Nat} {C : bCall} {Q : bPost} {A : bPt → Prop} (hC : bMono C) (hA : bClosed lvl bm273 C Q A) {x1 : Int} {σ : bSt}  (h_x1 : bRg x1)
  (h : ((x1 = 0 ∨ x1 = 1) ∧ (((bi σ 12 68) = 0 ∨ (bi σ 12 68) = 1) ∧ Q (.inl (some (.int (bn (bi σ 12 68))))) (bw (bw σ 12 0 0) 12 68 x1)))) : A (0, [.ref 12, .int (bn x1), .float 0], [], σ) := by
  refine bGo hA 0 0 (0, .aload_n 0, 1, 1, 0, [0], []) rfl rfl rfl ?_
  refine bGo hA 0 1 (1, .iconst (0), 1, 2, 0, [], [(0, 0)]) rfl rfl rfl ?_
  refine bEqI bl_0 ?_
  refine bGo hA 0 2 (2, .putfield 322, 3, 3, 0, [12, 0, 0, 0, 0, 0], []) rfl rfl rfl ?_
  refine ⟨rfl, ?_⟩
  refine bGo hA 0 3 (5, .aload_n 0, 1, 4, 0, [0], []) rfl rfl rfl ?_
  refine bGo hA 0 4 (6, .getfield 305, 3, 5, 0, [12, 68, 1, 0, 0, 0], []) rfl rfl rfl ?_
  refine ⟨rfl, ?_⟩
  refine bEqI ((bn_bi (bw σ 12 0 0) 12 68).trans (congrArg bn (bi_nj (by decide) (by decide) (by decide)))) ?_
  refine bGo hA 0 5 (9, .istore_n 2, 1, 6, 0, [2], []) rfl rfl rfl ?_
  refine bGo hA 0 6 (10, .aload_n 0, 1, 7, 0, [0], []) rfl rfl rfl ?_
  refine bGo hA 0 7 (11, .iload_n 1, 1, 8, 0, [1], []) rfl rfl rfl ?_
  refine bGo hA 0 8 (12, .putfield 305, 3, 9, 0, [12, 68, 1, 0, 0, 0], []) rfl rfl rfl ?_
  refine ⟨rfl, b01 h.1, ?_⟩
  refine bGo hA 0 9 (15, .iload_n 2, 1, 10, 0, [2], []) rfl rfl rfl ?_
  refine bGo hA 0 10 (16, .ireturn, 1, 0, 0, [2], []) rfl rfl rfl ?_
  exact ⟨b01 h.2.1, h.2.2⟩

theorem sq170_0 {lvl : Nat} {C : bCall} {Q : bPost} {A : bPt → Prop} (hC : bMono C) (hA : bClosed lvl bm170 C Q A) {x1 : Int} {x2 : Int} {σ : bSt}  (h_x1 : bRg x1) (h_x2 : bRg x2)
  (h : (C 138 [.int (bn x2), .int (bn 1), .int (bn 9)] σ (bRvx (fun s1 => ((x1 = 0 ∨ x1 = 1) ∧ (((bi s1 5 5) = 0 ∨ (bi s1 5 5) = 1) ∧ Q (.inl (some (.int (bn (bi s1 5 5))))) (bw (bw s1 5 5 x1) 5 6 x2)))) (fun E s1 => Q (.inr E) s1)))) : A (0, [.ref 11, .int (bn x1), .int (bn x2), .float 0], [], σ) := by
  refine bGo hA 0 0 (0, .iload_n 2, 1, 1, 0, [2], []) rfl rfl rfl ?_
  refine bGo hA 0 1 (1, .iconst (1), 1, 2, 0, [], [(1, 0)]) rfl rfl rfl ?_
  refine bEqI bl_1 ?_
  refine bGo hA 0 2 (2, .bipush (9), 2, 3, 0, [], [(9, 0)]) rfl rfl rfl ?_
  refine bEqI bl_9 ?_
  refine bGo hA 0 3 (4, .invokestatic 80, 3, 4, 0, [2, 138, 3], []) rfl rfl rfl ?_
  refine hC _ _ _ _ _ (bRvx_e (fun s1 k2 => ?_) (fun E s1 k2 => ?_)) h
  · show A (4, [.ref 11, .int (bn x1), .int (bn x2), .float 0], [], s1)
    refine bGo hA 0 4 (7, .aload_n 0, 1, 5, 0, [0], []) rfl rfl rfl ?_
    refine bGo hA 0 5 (8, .getfield 51, 3, 6, 0, [11, 5, 3, 5, 0, 0], []) rfl rfl rfl ?_
    refine ⟨rfl, ?_⟩
    refine bGo hA 0 6 (11, .getfield 207, 3, 7, 0, [5, 5, 1, 0, 0, 0], []) rfl rfl rfl ?_
    refine ⟨rfl, ?_⟩
    refine bEqI (bn_bi s1 5 5) ?_
    refine bGo hA 0 7 (14, .istore_n 3, 1, 8, 0, [3], []) rfl rfl rfl ?_
    refine bGo hA 0 8 (15, .aload_n 0, 1, 9, 0, [0], []) rfl rfl rfl ?_
    refine bGo hA 0 9 (16, .getfield 51, 3, 10, 0, [11, 5, 3, 5, 0, 0], []) rfl rfl rfl ?_
    refine ⟨rfl, ?_⟩
    refine bGo hA 0 10 (19, .iload_n 1, 1, 11, 0, [1], []) rfl rfl rfl ?_
    refine bGo hA 0 11 (20, .putfield 207, 3, 12, 0, [5, 5, 1, 0, 0, 0], []) rfl rfl rfl ?_
    refine ⟨rfl, b01 k2.1, ?_⟩
    refine bGo hA 0 12 (23, .aload_n 0, 1, 13, 0, [0], []) rfl rfl rfl ?_
    refine bGo hA 0 13 (24, .getfield 51, 3, 14, 0, [11, 5, 3, 5, 0, 0], []) rfl rfl rfl ?_
    refine ⟨rfl, ?_⟩
    refine bGo hA 0 14 (27, .iload_n 2, 1, 15, 0, [2], []) rfl rfl rfl ?_
    refine bGo hA 0 15 (28, .putfield 210, 3, 16, 0, [5, 6, 0, 0, 0, 0], []) rfl rfl rfl ?_
    refine ⟨rfl, ?_⟩
    refine bGo hA 1 0 (31, .iload_n 3, 1, 17, 0, [3], []) rfl rfl rfl ?_
    refine bGo hA 1 1 (32, .ireturn, 1, 0, 0, [2], []) rfl rfl rfl ?_
    exact ⟨b01 k2.2.1, k2.2.2⟩
  · exact k2

theorem sq274_0 {lvl : Nat} {C : bCall} {Q : bPost} {A : bPt → Prop} (hC : bMono C) (hA : bClosed lvl bm274 C Q A) {x1 : Int} {x2 : Int} {σ : bSt}  (h_x1 : bRg x1) (h_x2 : bRg x2)
  (h : (C 199 [.int (bn x2), .int (bn 1), .int (bn 9)] σ (bRn (fun r3 s1 => ((r3 = 0 → (C 197 [.ref 12, .int (bn 1)] s1 (bRn (fun r8 s6 => ((r8 = 0 → ((x1 = 0 ∨ x1 = 1) ∧ (((bi s6 12 87) = 0 ∨ (bi s6 12 87) = 1) ∧ Q (.inl (some (.int (bn (bi s6 12 87))))) (bw (bw s6 12 87 x1) 12 88 x2)))) ∧ (¬ r8 = 0 → Q (.inl (some (.int (bn 0)))) s6)))))) ∧ (¬ r3 = 0 → (C 197 [.ref 12, .int (bn 0)] s1 (bRn (fun r13 s11 => ((r13 = 0 → ((x1 = 0 ∨ x1 = 1) ∧ (((bi s11 12 87) = 0 ∨ (bi s11 12 87) = 1) ∧ Q (.inl (some (.int (bn (bi s11 12 87))))) (bw (bw s11 12 87 x1) 12 88 x2)))) ∧ (¬ r13 = 0 → Q (.inl (some (.int (bn 0)))) s11))))))))))) : A (0, [.ref 12, .int (bn x1), .int (bn x2), .float 0], [], σ) := by
  refine bGo hA 0 0 (0, .aload_n 0, 1, 1, 0, [0], []) rfl rfl rfl ?_
  refine bGo hA 0 1 (1, .iload_n 2, 1, 2, 0, [2], []) rfl rfl rfl ?_
  refine bGo hA 0 2 (2, .iconst (1), 1, 3, 0, [], [(1, 0)]) rfl rfl rfl ?_
  refine bEqI bl_1 ?_
  refine bGo hA 0 3 (3, .bipush (9), 2, 4, 0, [], [(9, 0)]) rfl rfl rfl ?_
  refine bEqI bl_9 ?_
  refine bGo hA 0 4 (5, .invokestatic 325, 3, 5, 0, [2, 199, 3], []) rfl rfl rfl ?_
  refine hC _ _ _ _ _ (bRn_e (fun r3 s1 q4 k2 => ?_)) h
  show A (5, [.ref 12, .int (bn x1), .int (bn x2), .float 0], [.int (bn r3), .ref 12], s1)
  refine bGo hA 0 5 (8, .ifCond .eq (7), 3, 6, 8, [], []) rfl rfl rfl ?_
  refine bB_eq0 (x := r3) q4 (fun c5 => ?_) (fun c5 => ?_)
  · refine bGo hA 0 8 (15, .iconst (1), 1, 9, 0, [], [(1, 0)]) rfl rfl rfl ?_
    refine bEqI bl_1 ?_
    refine bGo hA 0 9 (16, .invokevirtual 333, 3, 10, 0, [0, 12, 197, 1], []) rfl rfl rfl ?_
    refine ⟨rfl, ?_⟩
    refine hC _ _ _ _ _ (bRn_e (fun r8 s6 q9 k7 => ?_)) (k2.1 c5)
    show A (10, [.ref 12, .int (bn x1), .int (bn x2), .float 0], [.int (bn r8)], s6)
    refine bGo hA 0 10 (19, .ifCond .eq (5), 3, 11, 13, [], []) rfl rfl rfl ?_
    refine bB_eq0 (x := r8) q9 (fun c10 => ?_) (fun c10 => ?_)
    · refine bGo hA 0 13 (24, .aload_n 0, 1, 14, 0, [0], []) rfl rfl rfl ?_
      refine bGo hA 0 14 (25, .getfield 309, 3, 15, 0, [12, 87, 1, 0, 0, 0], []) rfl rfl rfl ?_
      refine ⟨rfl, ?_⟩
      refine bEqI (bn_bi s6 12 87) ?_
      refine bGo hA 0 15 (28, .istore_n 3, 1, 16, 0, [3], []) rfl rfl rfl ?_
      refine bGo hA 1 0 (29, .aload_n 0, 1, 17, 0, [0], []) rfl rfl rfl ?_
      refine bGo hA 1 1 (30, .iload_n 1, 1, 18, 0, [1], []) rfl rfl rfl ?_
      refine bGo hA 1 2 (31, .putfield 309, 3, 19, 0, [12, 87, 1, 0, 0, 0], []) rfl rfl rfl ?_
      refine ⟨rfl, b01 (k7.1 c10).1, ?_⟩
      refine bGo hA 1 3 (34, .aload_n 0, 1, 20, 0, [0], []) rfl rfl rfl ?_
      refine bGo hA 1 4 (35, .iload_n 2, 1, 21, 0, [2], []) rfl rfl rfl ?_
      refine bGo hA 1 5 (36, .putfield 312, 3, 22, 0, [12, 88, 0, 0, 0, 0], []) rfl rfl rfl ?_
      refine ⟨rfl, ?_⟩
      refine bGo hA 1 6 (39, .iload_n 3, 1, 23, 0, [3], []) rfl rfl rfl ?_
      refine bGo hA 1 7 (40, .ireturn, 1, 0, 0, [2], []) rfl rfl rfl ?_
      exact ⟨b01 (k7.1 c10).2.1, (k7.1 c10).2.2⟩
    · refine bGo hA 0 11 (22, .iconst (0), 1, 12, 0, [], [(0, 0)]) rfl rfl rfl ?_
      refine bEqI bl_0 ?_
      refine bGo hA 0 12 (23, .ireturn, 1, 13, 0, [2], []) rfl rfl rfl ?_
      exact ⟨b01 (Or.inl rfl), (k7.2 c10)⟩
  · refine bGo hA 0 6 (11, .iconst (0), 1, 7, 0, [], [(0, 0)]) rfl rfl rfl ?_
    refine bEqI bl_0 ?_
    refine bGo hA 0 7 (12, .goto (4), 3, 8, 9, [], []) rfl rfl rfl ?_
    refine bGo hA 0 9 (16, .invokevirtual 333, 3, 10, 0, [0, 12, 197, 1], []) rfl rfl rfl ?_
    refine ⟨rfl, ?_⟩
    refine hC _ _ _ _ _ (bRn_e (fun r13 s11 q14 k12 => ?_)) (k2.2 c5)
    show A (10, [.ref 12, .int (bn x1), .int (bn x2), .float 0], [.int (bn r13)], s11)
    refine bGo hA 0 10 (19, .ifCond .eq (5), 3, 11, 13, [], []) rfl rfl rfl ?_
    refine bB_eq0 (x := r13) q14 (fun c15 => ?_) (fun c15 => ?_)
    · refine bGo hA 0 13 (24, .aload_n 0, 1, 14, 0, [0], []) rfl rfl rfl ?_
      refine bGo hA 0 14 (25, .getfield 309, 3, 15, 0, [12, 87, 1, 0, 0, 0], []) rfl rfl rfl ?_
      refine ⟨rfl, ?_⟩
      refine bEqI (bn_bi s11 12 87) ?_
      refine bGo hA 0 15 (28, .istore_n 3, 1, 16, 0, [3], []) rfl rfl rfl ?_
      refine bGo hA 1 0 (29, .aload_n 0, 1, 17, 0, [0], []) rfl rfl rfl ?_
      refine bGo hA 1 1 (30, .iload_n 1, 1, 18, 0, [1], []) rfl rfl rfl ?_
      refine bGo hA 1 2 (31, .putfield 309, 3, 19, 0, [12, 87, 1, 0, 0, 0], []) rfl rfl rfl ?_
      refine ⟨rfl, b01 (k12.1 c15).1, ?_⟩
      refine bGo hA 1 3 (34, .aload_n 0, 1, 20, 0, [0], []) rfl rfl rfl ?_
      refine bGo hA 1 4 (35, .iload_n 2, 1, 21, 0, [2], []) rfl rfl rfl ?_
      refine bGo hA 1 5 (36, .putfield 312, 3, 22, 0, [12, 88, 0, 0, 0, 0], []) rfl rfl rfl ?_
      refine ⟨rfl, ?_⟩
      refine bGo hA 1 6 (39, .iload_n 3, 1, 23, 0, [3], []) rfl rfl rfl ?_
      refine bGo hA 1 7 (40, .ireturn, 1, 0, 0, [2], []) rfl rfl rfl ?_
      exact ⟨b01 (k12.1 c15).2.1, (k12.1 c15).2.2⟩
    · refine bGo hA 0 11 (22, .iconst (0), 1, 12, 0, [], [(0, 0)]) rfl rfl rfl ?_
      refine bEqI bl_0 ?_
      refine bGo hA 0 12 (23, .ireturn, 1, 13, 0, [2], []) rfl rfl rfl ?_
      exact ⟨b01 (Or.inl rfl), (k12.2 c15)⟩

theorem sq171_0 {lvl : Nat} {C : bCall} {Q : bPost} {A : bPt → Prop} (hC : bMono C) (hA : bClosed lvl bm171 C Q A) {x1 : Int} {σ : bSt}  (h_x1 : bRg x1)
  (h : (C 138 [.int (bn x1), .int (bn 0), .int (bn 999)] σ (bRvx (fun s1 => (C 22 [.ref 257, .int (bn x1)] s1 (bRn (fun r5 s3 => ((r5 = 0 ∨ r5 = 1) ∧ Q (.inl (some (.int (bn r5)))) s3))))) (fun E s1 => Q (.inr E) s1)))) : A (0, [.ref 11, .int (bn x1)], [], σ) := by
  refine bGo hA 0 0 (0, .iload_n 1, 1, 1, 0, [1], []) rfl rfl rfl ?_
  refine bGo hA 0 1 (1, .iconst (0), 1, 2, 0, [], [(0, 0)]) rfl rfl rfl ?_
  refine bEqI bl_0 ?_
  refine bGo hA 0 2 (2, .sipush (999), 3, 3, 0, [], [(999, 0)]) rfl rfl rfl ?_
  refine bEqI bl_999 ?_
  refine bGo hA 0 3 (5, .invokestatic 80, 3, 4, 0, [2, 138, 3], []) rfl rfl rfl ?_
  refine hC _ _ _ _ _ (bRvx_e (fun s1 k2 => ?_) (fun E s1 k2 => ?_)) h
  · show A (4, [.ref 11, .int (bn x1)], [], s1)
    refine bGo hA 0 4 (8, .aload_n 0, 1, 5, 0, [0], []) rfl rfl rfl ?_
    refine bGo hA 0 5 (9, .getfield 51, 3, 6, 0, [11, 5, 3, 5, 0, 0], []) rfl rfl rfl ?_
    refine ⟨rfl, ?_⟩
    refine bGo hA 0 6 (12, .getfield 213, 3, 7, 0, [5, 3, 3, 1, 0, 1], []) rfl rfl rfl ?_
    refine ⟨rfl, ?_⟩
    refine bGo hA 0 7 (15, .iload_n 1, 1, 8, 0, [1], []) rfl rfl rfl ?_
    refine bGo hA 0 8 (16, .invokevirtual 217, 3, 9, 0, [0, 1, 22, 1], []) rfl rfl rfl ?_
    refine ⟨rfl, ?_⟩
    refine hC _ _ _ _ _ (bRn_e (fun r5 s3 q6 k4 => ?_)) k2
    show A (9, [.ref 11, .int (bn x1)], [.int (bn r5)], s3)
    refine bGo hA 0 9 (19, .ireturn, 1, 0, 0, [2], []) rfl rfl rfl ?_
    exact ⟨b01 k4.1, k4.2⟩
  · exact k2

theorem sq275_0 {lvl : Nat} {C : bCall} {Q : bPost} {A : bPt → Prop} (hC : bMono C) (hA : bClosed lvl bm275 C Q A) {x1 : Int} {σ : bSt}  (h_x1 : bRg x1)
  (h : (C 199 [.int (bn x1), .int (bn 0), .int (bn 999)] σ (bRn (fun r3 s1 => ((r3 = 0 → (C 197 [.ref 12, .int (bn 1)] s1 (bRn (fun r8 s6 => ((r8 = 0 → ((0 ≤ x1 ∧ x1 < 1000) ∧ (((bi s6 135 x1) = 0 ∨ (bi s6 135 x1) = 1) ∧ Q (.inl (some (.int (bn (bi s6 135 x1))))) (bw s6 135 x1 0)))) ∧ (¬ r8 = 0 → Q (.inl (some (.int (bn 0)))) s6)))))) ∧ (¬ r3 = 0 → (C 197 [.ref 12, .int (bn 0)] s1 (bRn (fun r13 s11 => ((r13 = 0 → ((0 ≤ x1 ∧ x1 < 1000) ∧ (((bi s11 135 x1) = 0 ∨ (bi s11 135 x1) = 1) ∧ Q (.inl (some (.int (bn (bi s11 135 x1))))) (bw s11 135 x1 0)))) ∧ (¬ r13 = 0 → Q (.inl (some (.int (bn 0)))) s11))))))))))) : A (0, [.ref 12, .int (bn x1), .float 0], [], σ) := by
  refine bGo hA 0 0 (0, .aload_n 0, 1, 1, 0, [0], []) rfl rfl rfl ?_
  refine bGo hA 0 1 (1, .iload_n 1, 1, 2, 0, [1], []) rfl rfl rfl ?_
  refine bGo hA 0 2 (2, .iconst (0), 1, 3, 0, [], [(0, 0)]) rfl rfl rfl ?_
  refine bEqI bl_0 ?_
  refine bGo hA 0 3 (3, .sipush (999), 3, 4, 0, [], [(999, 0)]) rfl rfl rfl ?_
  refine bEqI bl_999 ?_
  refine bGo hA 0 4 (6, .invokestatic 325, 3, 5, 0, [2, 199, 3], []) rfl rfl rfl ?_
  refine hC _ _ _ _ _ (bRn_e (fun r3 s1 q4 k2 => ?_)) h
  show A (5, [.ref 12, .int (bn x1), .float 0], [.int (bn r3), .ref 12], s1)
  refine bGo hA 0 5 (9, .ifCond .eq (7), 3, 6, 8, [], []) rfl rfl rfl ?_
  refine bB_eq0 (x := r3) q4 (fun c5 => ?_) (fun c5 => ?_)
  · refine bGo hA 0 8 (16, .iconst (1), 1, 9, 0, [], [(1, 0)]) rfl rfl rfl ?_
    refine bEqI bl_1 ?_
    refine bGo hA 0 9 (17, .invokevirtual 333, 3, 10, 0, [0, 12, 197, 1], []) rfl rfl rfl ?_
    refine ⟨rfl, ?_⟩
    refine hC _ _ _ _ _ (bRn_e (fun r8 s6 q9 k7 => ?_)) (k2.1 c5)
    show A (10, [.ref 12, .int (bn x1), .float 0], [.int (bn r8)], s6)
    refine bGo hA 0 10 (20, .ifCond .eq (5), 3, 11, 13, [], []) rfl rfl rfl ?_
    refine bB_eq0 (x := r8) q9 (fun c10 => ?_) (fun c10 => ?_)
    · refine bGo hA 0 13 (25, .aload_n 0, 1, 14, 0, [0], []) rfl rfl rfl ?_
      refine bGo hA 0 14 (26, .getfield 248, 3, 15, 0, [12, 90, 3, 135, 1, 0], []) rfl rfl rfl ?_
      refine ⟨rfl, ?_⟩
      refine bGo hA 0 15 (29, .iload_n 1, 1, 16, 0, [1], []) rfl rfl rfl ?_
      refine bGo hA 1 0 (30, .baload, 1, 17, 0, [], []) rfl rfl rfl ?_
      refine ⟨rfl, (bIxP (x := x1) (n := 1000) h_x1 (k7.1 c10).1), ?_⟩
      refine bEqL (x := x1) h_x1 ?_
      refine bGo hA 1 1 (31, .istore_n 2, 1, 18, 0, [2], []) rfl rfl rfl ?_
      refine bGo hA 1 2 (32, .aload_n 0, 1, 19, 0, [0], []) rfl rfl rfl ?_
      refine bGo hA 1 3 (33, .getfield 248, 3, 20, 0, [12, 90, 3, 135, 1, 0], []) rfl rfl rfl ?_
      refine ⟨rfl, ?_⟩
      refine bGo hA 1 4 (36, .iload_n 1, 1, 21, 0, [1], []) rfl rfl rfl ?_
      refine bGo hA 1 5 (37, .iconst (0), 1, 22, 0, [], [(0, 0)]) rfl rfl rfl ?_
      refine bEqI bl_0 ?_
      refine bGo hA 1 6 (38, .bastore, 1, 23, 0, [], []) rfl rfl rfl ?_
      refine ⟨rfl, (bIxP (x := x1) (n := 1000) h_x1 (k7.1 c10).1), by decide, b01 (Or.inl rfl), ?_⟩
      refine bEqS (x := x1) h_x1 ?_
      refine bGo hA 1 7 (39, .iload_n 2, 1, 24, 0, [2], []) rfl rfl rfl ?_
      refine bGo hA 1 8 (40, .ireturn, 1, 0, 0, [2], []) rfl rfl rfl ?_
      exact ⟨b01 (k7.1 c10).2.1, (k7.1 c10).2.2⟩
    · refine bGo hA 0 11 (23, .iconst (0), 1, 12, 0, [], [(0, 0)]) rfl rfl rfl ?_
      refine bEqI bl_0 ?_
      refine bGo hA 0 12 (24, .ireturn, 1, 13, 0, [2], []) rfl rfl rfl ?_
      exact ⟨b01 (Or.inl rfl), (k7.2 c10)⟩
  · refine bGo hA 0 6 (12, .iconst (0), 1, 7, 0, [], [(0, 0)]) rfl rfl rfl ?_
    refine bEqI bl_0 ?_
    refine bGo hA 0 7 (13, .goto (4), 3, 8, 9, [], []) rfl rfl rfl ?_
    refine bGo hA 0 9 (17, .invokevirtual 333, 3, 10, 0, [0, 12, 197, 1], []) rfl rfl rfl ?_
    refine ⟨rfl, ?_⟩
    refine hC _ _ _ _ _ (bRn_e (fun r13 s11 q14 k12 => ?_)) (k2.2 c5)
    show A (10, [.ref 12, .int (bn x1), .float 0], [.int (bn r13)], s11)
    refine bGo hA 0 10 (20, .ifCond .eq (5), 3, 11, 13, [], []) rfl rfl rfl ?_
    refine bB_eq0 (x := r13) q14 (fun c15 => ?_) (fun c15 => ?_)
    · refine bGo hA 0 13 (25, .aload_n 0, 1, 14, 0, [0], []) rfl rfl rfl ?_
      refine bGo hA 0 14 (26, .getfield 248, 3, 15, 0, [12, 90, 3, 135, 1, 0], []) rfl rfl rfl ?_
      refine ⟨rfl, ?_⟩
      refine bGo hA 0 15 (29, .iload_n 1, 1, 16, 0, [1], []) rfl rfl rfl ?_
      refine bGo hA 1 0 (30, .baload, 1, 17, 0, [], []) rfl rfl rfl ?_
      refine ⟨rfl, (bIxP (x := x1) (n := 1000) h_x1 (k12.1 c15).1), ?_⟩
      refine bEqL (x := x1) h_x1 ?_
      refine bGo hA 1 1 (31, .istore_n 2, 1, 18, 0, [2], []) rfl rfl rfl ?_
      refine bGo hA 1 2 (32, .aload_n 0, 1, 19, 0, [0], []) rfl rfl rfl ?_
      refine bGo hA 1 3 (33, .getfield 248, 3, 20, 0, [12, 90, 3, 135, 1, 0], []) rfl rfl rfl ?_
      refine ⟨rfl, ?_⟩
      refine bGo hA 1 4 (36, .iload_n 1, 1, 21, 0, [1], []) rfl rfl rfl ?_
      refine bGo hA 1 5 (37, .iconst (0), 1, 22, 0, [], [(0, 0)]) rfl rfl rfl ?_
      refine bEqI bl_0 ?_
      refine bGo hA 1 6 (38, .bastore, 1, 23, 0, [], []) rfl rfl rfl ?_
      refine ⟨rfl, (bIxP (x := x1) (n := 1000) h_x1 (k12.1 c15).1), by decide, b01 (Or.inl rfl), ?_⟩
      refine bEqS (x := x1) h_x1 ?_
      refine bGo hA 1 7 (39, .iload_n 2, 1, 24, 0, [2], []) rfl rfl rfl ?_
      refine bGo hA 1 8 (40, .ireturn, 1, 0, 0, [2], []) rfl rfl rfl ?_
      exact ⟨b01 (k12.1 c15).2.1, (k12.1 c15).2.2⟩
    · refine bGo hA 0 11 (23, .iconst (0), 1, 12, 0, [], [(0, 0)]) rfl rfl rfl ?_
      refine bEqI bl_0 ?_
      refine bGo hA 0 12 (24, .ireturn, 1, 13, 0, [2], []) rfl rfl rfl ?_
      exact ⟨b01 (Or.inl rfl), (k12.2 c15)⟩

theorem sq20_0 {lvl : Nat} {C : bCall} {Q : bPost} {A : bPt → Prop} (hC : bMono C) (hA : bClosed lvl bm20 C Q A) {a0 : Nat} {x1 : Int} {σ : bSt} (h_a0 : a0 % 256 = 1) (h_x1 : bRg x1)
  (h : ((x1 < 0 → Q (.inl (some (.int (bn 0)))) σ) ∧ (¬ x1 < 0 → (¬ bTy (256 * (1 * (a0 / 256) + 0) + 15) = 9 ∧ (bRg (bLen σ (256 * (1 * (a0 / 256) + 0) + 15) : Int) ∧ ((x1 < (bLen σ (256 * (1 * (a0 / 256) + 0) + 15) : Int) → (bTy (256 * (1 * (a0 / 256) + 0) + 15) = 1 ∧ ((0 ≤ x1 ∧ x1 < (bLen σ (256 * (1 * (a0 / 256) + 0) + 15) : Int)) ∧ (((bi σ (256 * (1 * (a0 / 256) + 0) + 15) x1) = 0 → Q (.inl (some (.int (bn 0)))) σ) ∧ (¬ (bi σ (256 * (1 * (a0 / 256) + 0) + 15) x1) = 0 → Q (.inl (some (.int (bn 1)))) σ))))) ∧ (¬ x1 < (bLen σ (256 * (1 * (a0 / 256) + 0) + 15) : Int) → Q (.inl (some (.int (bn 0)))) σ))))))) : A (0, [.ref a0, .int (bn x1)], [], σ) := by
  refine bGo hA 0 0 (0, .iload_n 1, 1, 1, 0, [1], []) rfl rfl rfl ?_
  refine bGo hA 0 1 (1, .ifCond .lt (25), 3, 2, 14, [], []) rfl rfl rfl ?_
  refine bB_lt0 (x := x1) h_x1 (fun c1 => ?_) (fun c1 => ?_)
  · refine bGo hA 0 14 (26, .iconst (0), 1, 15, 0, [], [(0, 0)]) rfl rfl rfl ?_
    refine bEqI bl_0 ?_
    refine bGo hA 0 15 (27, .ireturn, 1, 0, 0, [2], []) rfl rfl rfl ?_
    exact ⟨b01 (Or.inl rfl), (h.1 c1)⟩
  · refine bGo hA 0 2 (4, .iload_n 1, 1, 3, 0, [1], []) rfl rfl rfl ?_
    refine bGo hA 0 3 (5, .aload_n 0, 1, 4, 0, [0], []) rfl rfl rfl ?_
    refine bGo hA 0 4 (6, .getfield 9, 3, 5, 0, [1, 2, 3, 15, 1, 0], []) rfl rfl rfl ?_
    refine ⟨h_a0, ?_⟩
    refine bGo hA 0 5 (9, .arraylength, 1, 6, 0, [], []) rfl rfl rfl ?_
    refine ⟨(h.2 c1).1, ?_⟩
    refine bEqI (bn_nat _).symm ?_
    refine bGo hA 0 6 (10, .if_icmp .ge (16), 3, 7, 14, [], []) rfl rfl rfl ?_
    refine bB_lt (x := x1) (y := (bLen σ (256 * (1 * (a0 / 256) + 0) + 15) : Int)) h_x1 (h.2 c1).2.1 (fun c2 => ?_) (fun c2 => ?_)
    · refine bGo hA 0 7 (13, .aload_n 0, 1, 8, 0, [0], []) rfl rfl rfl ?_
      refine bGo hA 0 8 (14, .getfield 9, 3, 9, 0, [1, 2, 3, 15, 1, 0], []) rfl rfl rfl ?_
      refine ⟨h_a0, ?_⟩
      refine bGo hA 0 9 (17, .iload_n 1, 1, 10, 0, [1], []) rfl rfl rfl ?_
      refine bGo hA 0 10 (18, .baload, 1, 11, 0, [], []) rfl rfl rfl ?_
      refine ⟨((h.2 c1).2.2.1 c2).1, (bIxP (x := x1) (n := bLen σ (256 * (1 * (a0 / 256) + 0) + 15)) h_x1 ((h.2 c1).2.2.1 c2).2.1), ?_⟩
      refine bEqL (x := x1) h_x1 ?_
      refine bGo hA 0 11 (19, .ifCond .eq (7), 3, 12, 14, [], []) rfl rfl rfl ?_
      refine bB_eq0 (x := (bi σ (256 * (1 * (a0 / 256) + 0) + 15) x1)) (bi_rg _ _ _) (fun c3 => ?_) (fun c3 => ?_)
      · refine bGo hA 0 14 (26, .iconst (0), 1, 15, 0, [], [(0, 0)]) rfl rfl rfl ?_
        refine bEqI bl_0 ?_
        refine bGo hA 0 15 (27, .ireturn, 1, 0, 0, [2], []) rfl rfl rfl ?_
        exact ⟨b01 (Or.inl rfl), (((h.2 c1).2.2.1 c2).2.2.1 c3)⟩
      · refine bGo hA 0 12 (22, .iconst (1), 1, 13, 0, [], [(1, 0)]) rfl rfl rfl ?_
        refine bEqI bl_1 ?_
        refine bGo hA 0 13 (23, .goto (4), 3, 14, 15, [], []) rfl rfl rfl ?_
        refine bGo hA 0 15 (27, .ireturn, 1, 0, 0, [2], []) rfl rfl rfl ?_
        exact ⟨b01 (Or.inr rfl), (((h.2 c1).2.2.1 c2).2.2.2 c3)⟩
    · refine bGo hA 0 14 (26, .iconst (0), 1, 15, 0, [], [(0, 0)]) rfl rfl rfl ?_
      refine bEqI bl_0 ?_
      refine bGo hA 0 15 (27, .ireturn, 1, 0, 0, [2], []) rfl rfl rfl ?_
      exact ⟨b01 (Or.inl rfl), ((h.2 c1).2.2.2 c2)⟩

theorem sq22_0 {lvl : Nat} {C : bCall} {Q : bPost} {A : bPt → Prop} (hC : bMono C) (hA : bClosed lvl bm22 C Q A) {a0 : Nat} {x1 : Int} {σ : bSt} (h_a0 : a0 % 256 = 1) (h_x1 : bRg x1)
  (h : (C 20 [.ref a0, .int (bn x1)] σ (bRn (fun r3 s1 => ((r3 = 0 → ((r3 = 0 ∨ r3 = 1) ∧ Q (.inl (some (.int (bn r3)))) s1)) ∧ (¬ r3 = 0 → (bTy (256 * (1 * (a0 / 256) + 0) + 15) = 1 ∧ ((0 ≤ x1 ∧ x1 < (bLen s1 (256 * (1 * (a0 / 256) + 0) + 15) : Int)) ∧ ((256 * (1 * (a0 / 256) + 0) + 15) % 256 < 200 ∧ ((r3 = 0 ∨ r3 = 1) ∧ Q (.inl (some (.int (bn r3)))) (bw s1 (256 * (1 * (a0 / 256) + 0) + 15) x1 0))))))))))) : A (0, [.ref a0, .int (bn x1), .float 0], [], σ) := by
  refine bGo hA 0 0 (0, .aload_n 0, 1, 1, 0, [0], []) rfl rfl rfl ?_
  refine bGo hA 0 1 (1, .iload_n 1, 1, 2, 0, [1], []) rfl rfl rfl ?_
  refine bGo hA 0 2 (2, .invokevirtual 42, 3, 3, 0, [0, 1, 20, 1], []) rfl rfl rfl ?_
  refine ⟨h_a0, ?_⟩
  refine hC _ _ _ _ _ (bRn_e (fun r3 s1 q4 k2 => ?_)) h
  show A (3, [.ref a0, .int (bn x1), .float 0], [.int (bn r3)], s1)
  refine bGo hA 0 3 (5, .istore_n 2, 1, 4, 0, [2], []) rfl rfl rfl ?_
  refine bGo hA 0 4 (6, .iload_n 2, 1, 5, 0, [2], []) rfl rfl rfl ?_
  refine bGo hA 0 5 (7, .ifCond .eq (10), 3, 6, 11, [], []) rfl rfl rfl ?_
  refine bB_eq0 (x := r3) q4 (fun c5 => ?_) (fun c5 => ?_)
  · refine bGo hA 0 11 (17, .iload_n 2, 1, 12, 0, [2], []) rfl rfl rfl ?_
    refine bGo hA 0 12 (18, .ireturn, 1, 0, 0, [2], []) rfl rfl rfl ?_
    exact ⟨b01 (k2.1 c5).1, (k2.1 c5).2⟩
  · refine bGo hA 0 6 (10, .aload_n 0, 1, 7, 0, [0], []) rfl rfl rfl ?_
    refine bGo hA 0 7 (11, .getfield 9, 3, 8, 0, [1, 2, 3, 15, 1, 0], []) rfl rfl rfl ?_
    refine ⟨h_a0, ?_⟩
    refine bGo hA 0 8 (14, .iload_n 1, 1, 9, 0, [1], []) rfl rfl rfl ?_
    refine bGo hA 0 9 (15, .iconst (0), 1, 10, 0, [], [(0, 0)]) rfl rfl rfl ?_
    refine bEqI bl_0 ?_
    refine bGo hA 0 10 (16, .bastore, 1, 11, 0, [], []) rfl rfl rfl ?_
    refine ⟨(k2.2 c5).1, (bIxP (x := x1) (n := bLen s1 (256 * (1 * (a0 / 256) + 0) + 15)) h_x1 (k2.2 c5).2.1), (k2.2 c5).2.2.1, b01 (Or.inl rfl), ?_⟩
    refine bEqS (x := x1) h_x1 ?_
    refine bGo hA 0 11 (17, .iload_n 2, 1, 12, 0, [2], []) rfl rfl rfl ?_
    refine bGo hA 0 12 (18, .ireturn, 1, 0, 0, [2], []) rfl rfl rfl ?_
    exact ⟨b01 (k2.2 c5).2.2.2.1, (k2.2 c5).2.2.2.2⟩

theorem sq168_0 {lvl : Nat} {C : bCall} {Q : bPost} {A : bPt → Prop} (hC : bMono C) (hA : bClosed lvl bm168 C Q A) {x1 : Int} {x2 : Int} {σ : bSt}  (h_x1 : bRg x1) (h_x2 : bRg x2)
  (h : (C 136 [.int (bn x1), .int (bn 3)] σ (bRvx (fun s1 => (C 138 [.int (bn x2), .int (bn 1), .int (bn 4)] s1 (bRvx (fun s3 => (C 24 [.ref 2, .int (bn x1), .int (bn x2)] s3 (bRn (fun r7 s5 => Q (.inl (some (.int (bn r7)))) s5)))) (fun E s3 => Q (.inr E) s3)))) (fun E s1 => Q (.inr E) s1)))) : A (0, [.ref 11, .int (bn x1), .int (bn x2)], [], σ) := by
  refine bGo hA 0 0 (0, .iload_n 1, 1, 1, 0, [1], []) rfl rfl rfl ?_
  refine bGo hA 0 1 (1, .iconst (3), 1, 2, 0, [], [(3, 0)]) rfl rfl rfl ?_
  refine bEqI bl_3 ?_
  refine bGo hA 0 2 (2, .invokestatic 76, 3, 3, 0, [2, 136, 2], []) rfl rfl rfl ?_
  refine hC _ _ _ _ _ (bRvx_e (fun s1 k2 => ?_) (fun E s1 k2 => ?_)) h
  · show A (3, [.ref 11, .int (bn x1), .int (bn x2)], [], s1)
    refine bGo hA 0 3 (5, .iload_n 2, 1, 4, 0, [2], []) rfl rfl rfl ?_
    refine bGo hA 0 4 (6, .iconst (1), 1, 5, 0, [], [(1, 0)]) rfl rfl rfl ?_
    refine bEqI bl_1 ?_
    refine bGo hA 0 5 (7, .iconst (4), 1, 6, 0, [], [(4, 0)]) rfl rfl rfl ?_
    refine bEqI bl_4 ?_
    refine bGo hA 0 6 (8, .invokestatic 80, 3, 7, 0, [2, 138, 3], []) rfl rfl rfl ?_
    refine hC _ _ _ _ _ (bRvx_e (fun s3 k4 => ?_) (fun E s3 k4 => ?_)) k2
    · show A (7, [.ref 11, .int (bn x1), .int (bn x2)], [], s3)
      refine bGo hA 0 7 (11, .aload_n 0, 1, 8, 0, [0], []) rfl rfl rfl ?_
      refine bGo hA 0 8 (12, .getfield 51, 3, 9, 0, [11, 5, 3, 5, 0, 0], []) rfl rfl rfl ?_
      refine ⟨rfl, ?_⟩
      refine bGo hA 0 9 (15, .getfield 194, 3, 10, 0, [5, 4, 3, 2, 0, 0], []) rfl rfl rfl ?_
      refine ⟨rfl, ?_⟩
      refine bGo hA 0 10 (18, .iload_n 1, 1, 11, 0, [1], []) rfl rfl rfl ?_
      refine bGo hA 0 11 (19, .iload_n 2, 1, 12, 0, [2], []) rfl rfl rfl ?_
      refine bGo hA 0 12 (20, .invokevirtual 198, 3, 13, 0, [0, 2, 24, 2], []) rfl rfl rfl ?_
      refine ⟨rfl, ?_⟩
      refine hC _ _ _ _ _ (bRn_e (fun r7 s5 q8 k6 => ?_)) k4
      show A (13, [.ref 11, .int (bn x1), .int (bn x2)], [.int (bn r7)], s5)
      refine bGo hA 0 13 (23, .ireturn, 1, 0, 0, [1], []) rfl rfl rfl ?_
      exact k6
    · exact k4
  · exact k2

theorem sq24_0 {lvl : Nat} {C : bCall} {Q : bPost} {A : bPt → Prop} (hC : bMono C) (hA : bClosed lvl bm24 C Q A) {x1 : Int} {x2 : Int} {σ : bSt}  (h_x1 : bRg x1) (h_x2 : bRg x2)
  (h : (C 140 [.ref 16, .int (bn x1)] σ (bRn (fun r3 s1 => A (7, [.ref 2, .int (bn x1), .int (bn x2), .int (bn r3), .int (bn x2)], [], s1))))) : A (0, [.ref 2, .int (bn x1), .int (bn x2), .float 0, .float 0], [], σ) := by
  refine bGo hA 0 0 (0, .aload_n 0, 1, 1, 0, [0], []) rfl rfl rfl ?_
  refine bGo hA 0 1 (1, .getfield 9, 3, 2, 0, [2, 0, 3, 16, 1, 0], []) rfl rfl rfl ?_
  refine ⟨rfl, ?_⟩
  refine bGo hA 0 2 (4, .iload_n 1, 1, 3, 0, [1], []) rfl rfl rfl ?_
  refine bGo hA 0 3 (5, .invokestatic 28, 3, 4, 1, [2, 140, 2], []) rfl rfl rfl ?_
  refine hC _ _ _ _ _ (bRn_e (fun r3 s1 q4 k2 => ?_)) h
  show A (4, [.ref 2, .int (bn x1), .int (bn x2), .float 0, .float 0], [.int (bn r3)], s1)
  refine bGo hA 0 4 (8, .istore_n 3, 1, 5, 0, [3], []) rfl rfl rfl ?_
  refine bGo hA 0 5 (9, .iload_n 2, 1, 6, 0, [2], []) rfl rfl rfl ?_
  refine bGo hA 0 6 (10, .istore 4, 2, 7, 0, [4], []) rfl rfl rfl ?_
  exact k2

theorem sq24_7 {lvl : Nat} {C : bCall} {Q : bPost} {A : bPt → Prop} (hC : bMono C) (hA : bClosed lvl bm24 C Q A) {l1 : Int} {l2 : Int} {l3 : Int} {l4 : Int} {σ : bSt}  (h_l1 : bRg l1) (h_l2 : bRg l2) (h_l3 : bRg l3) (h_l4 : bRg l4)
  (h : ((l4 < 4 → (bRg (l1 * 4) ∧ (bRg ((l1 * 4) + l4) ∧ (C 141 [.ref 17, .int (bn ((l1 * 4) + l4)), .int (bn (-1))] σ (bRv (fun s2 => (bRg (l4 + 1) ∧ A (7, [.ref 2, .int (bn l1), .int (bn l2), .int (bn l3), .int (bn (l4 + 1))], [], s2)))))))) ∧ (¬ l4 < 4 → (C 141 [.ref 16, .int (bn l1), .int (bn l2)] σ (bRv (fun s4 => Q (.inl (some (.int (bn l3)))) s4)))))) : A (7, [.ref 2, .int (bn l1), .int (bn l2), .int (bn l3), .int (bn l4)], [], σ) := by
  refine bGo hA 0 7 (12, .iload 4, 2, 8, 0, [4], []) rfl rfl rfl ?_
  refine bGo hA 0 8 (14, .iconst (4), 1, 9, 0, [], [(4, 0)]) rfl rfl rfl ?_
  refine bEqI bl_4 ?_
  refine bGo hA 0 9 (15, .if_icmp .ge (23), 3, 10, 21, [], []) rfl rfl rfl ?_
  refine bB_lt (x := l4) (y := 4) h_l4 (by decide : bRg 4) (fun c1 => ?_) (fun c1 => ?_)
  · refine bGo hA 0 10 (18, .aload_n 0, 1, 11, 0, [0], []) rfl rfl rfl ?_
    refine bGo hA 0 11 (19, .getfield 15, 3, 12, 0, [2, 1, 3, 17, 1, 0], []) rfl rfl rfl ?_
    refine ⟨rfl, ?_⟩
    refine bGo hA 0 12 (22, .iload_n 1, 1, 13, 0, [1], []) rfl rfl rfl ?_
    refine bGo hA 0 13 (23, .iconst (4), 1, 14, 0, [], [(4, 0)]) rfl rfl rfl ?_
    refine bEqI bl_4 ?_
    refine bGo hA 0 14 (24, .imul, 1, 15, 0, [], []) rfl rfl rfl ?_
    refine bEqI (bn_mul l1 4) ?_
    refine bGo hA 0 15 (25, .iload 4, 2, 16, 0, [4], []) rfl rfl rfl ?_
    refine bGo hA 1 0 (27, .iadd, 1, 17, 0, [], []) rfl rfl rfl ?_
    refine bEqI (bn_add (l1 * 4) l4) ?_
    refine bGo hA 1 1 (28, .iconst (-1), 1, 18, 0, [], [(-1, 0)]) rfl rfl rfl ?_
    refine bEqI bl_m1 ?_
    refine bGo hA 1 2 (29, .invokestatic 32, 3, 19, 1, [2, 141, 3], []) rfl rfl rfl ?_
    refine hC _ _ _ _ _ (bRv_e (fun s2 k3 => ?_)) (h.1 c1).2.2
    show A (19, [.ref 2, .int (bn l1), .int (bn l2), .int (bn l3), .int (bn l4)], [], s2)
    refine bGo hA 1 3 (32, .iinc 4 (1), 3, 20, 0, [4], [(1, 0)]) rfl rfl rfl ?_
    refine bEqC (fun v => A (20, [.ref 2, .int (bn l1), .int (bn l2), .int (bn l3), .int v], [], s2)) ((congrArg (fun w => bn l4 + w) bl_1).trans (bn_add l4 1)) ?_
    refine bGo hA 1 4 (35, .goto (-23), 3, 21, 7, [], []) rfl rfl rfl ?_
    exact k3.2
  · refine bGo hA 1 5 (38, .aload_n 0, 1, 22, 0, [0], []) rfl rfl rfl ?_
    refine bGo hA 1 6 (39, .getfield 9, 3, 23, 0, [2, 0, 3, 16, 1, 0], []) rfl rfl rfl ?_
    refine ⟨rfl, ?_⟩
    refine bGo hA 1 7 (42, .iload_n 1, 1, 24, 0, [1], []) rfl rfl rfl ?_
    refine bGo hA 1 8 (43, .iload_n 2, 1, 25, 0, [2], []) rfl rfl rfl ?_
    refine bGo hA 1 9 (44, .invokestatic 32, 3, 26, 1, [2, 141, 3], []) rfl rfl rfl ?_
    refine hC _ _ _ _ _ (bRv_e (fun s4 k5 => ?_)) (h.2 c1)
    show A (26, [.ref 2, .int (bn l1), .int (bn l2), .int (bn l3), .int (bn l4)], [], s4)
    refine bGo hA 1 10 (47, .iload_n 3, 1, 27, 0, [3], []) rfl rfl rfl ?_
    refine bGo hA 1 11 (48, .ireturn, 1, 0, 0, [1], []) rfl rfl rfl ?_
    exact k5

theorem sq278_0 {lvl : Nat} {C : bCall} {Q : bPost} {A : bPt → Prop} (hC : bMono C) (hA : bClosed lvl bm278 C Q A) {x1 : Int} {x2 : Int} {σ : bSt}  (h_x1 : bRg x1) (h_x2 : bRg x2)
  (h : (C 199 [.int (bn x1), .int (bn 0), .int (bn 2)] σ (bRn (fun r3 s1 => ((r3 = 0 → (C 197 [.ref 12, .int (bn 1)] s1 (bRn (fun r8 s6 => ((r8 = 0 → ((0 ≤ x1 ∧ x1 < 3) ∧ A (32, [.ref 12, .int (bn x1), .int (bn x2), .int (bn (bi s6 136 x1)), .int (bn x2)], [], (bw s6 136 x1 x2)))) ∧ (¬ r8 = 0 → Q (.inl (some (.int (bn 0)))) s6)))))) ∧ (¬ r3 = 0 → (C 199 [.int (bn x2), .int (bn 1), .int (bn 4)] s1 (bRn (fun r13 s11 => ((r13 = 0 → (C 197 [.ref 12, .int (bn 2)] s11 (bRn (fun r18 s16 => ((r18 = 0 → ((0 ≤ x1 ∧ x1 < 3) ∧ A (32, [.ref 12, .int (bn x1), .int (bn x2), .int (bn (bi s16 136 x1)), .int (bn x2)], [], (bw s16 136 x1 x2)))) ∧ (¬ r18 = 0 → Q (.inl (some (.int (bn 0)))) s16)))))) ∧ (¬ r13 = 0 → (C 197 [.ref 12, .int (bn 0)] s11 (bRn (fun r23 s21 => ((r23 = 0 → ((0 ≤ x1 ∧ x1 < 3) ∧ A (32, [.ref 12, .int (bn x1), .int (bn x2), .int (bn (bi s21 136 x1)), .int (bn x2)], [], (bw s21 136 x1 x2)))) ∧ (¬ r23 = 0 → Q (.inl (some (.int (bn 0)))) s21)))))))))))))))) : A (0, [.ref 12, .int (bn x1), .int (bn x2), .float 0, .float 0], [], σ) := by
  refine bGo hA 0 0 (0, .aload_n 0, 1, 1, 0, [0], []) rfl rfl rfl ?_
  refine bGo hA 0 1 (1, .iload_n 1, 1, 2, 0, [1], []) rfl rfl rfl ?_
  refine bGo hA 0 2 (2, .iconst (0), 1, 3, 0, [], [(0, 0)]) rfl rfl rfl ?_
  refine bEqI bl_0 ?_
  refine bGo hA 0 3 (3, .iconst (2), 1, 4, 0, [], [(2, 0)]) rfl rfl rfl ?_
  refine bEqI bl_2 ?_
  refine bGo hA 0 4 (4, .invokestatic 325, 3, 5, 0, [2, 199, 3], []) rfl rfl rfl ?_
  refine hC _ _ _ _ _ (bRn_e (fun r3 s1 q4 k2 => ?_)) h
  show A (5, [.ref 12, .int (bn x1), .int (bn x2), .float 0, .float 0], [.int (bn r3), .ref 12], s1)
  refine bGo hA 0 5 (7, .ifCond .ne (7), 3, 6, 8, [], []) rfl rfl rfl ?_
  refine bB_eq0 (x := r3) q4 (fun c5 => ?_) (fun c5 => ?_)
  · refine bGo hA 0 6 (10, .iconst (1), 1, 7, 0, [], [(1, 0)]) rfl rfl rfl ?_
    refine bEqI bl_1 ?_
    refine bGo hA 0 7 (11, .goto (17), 3, 8, 16, [], []) rfl rfl rfl ?_
    refine bGo hA 1 0 (28, .invokevirtual 333, 3, 17, 0, [0, 12, 197, 1], []) rfl rfl rfl ?_
    refine ⟨rfl, ?_⟩
    refine hC _ _ _ _ _ (bRn_e (fun r8 s6 q9 k7 => ?_)) (k2.1 c5)
    show A (17, [.ref 12, .int (bn x1), .int (bn x2), .float 0, .float 0], [.int (bn r8)], s6)
    refine bGo hA 1 1 (31, .ifCond .eq (5), 3, 18, 20, [], []) rfl rfl rfl ?_
    refine bB_eq0 (x := r8) q9 (fun c10 => ?_) (fun c10 => ?_)
    · refine bGo hA 1 4 (36, .aload_n 0, 1, 21, 0, [0], []) rfl rfl rfl ?_
      refine bGo hA 1 5 (37, .getfield 251, 3, 22, 0, [12, 91, 3, 136, 1, 0], []) rfl rfl rfl ?_
      refine ⟨rfl, ?_⟩
      refine bGo hA 1 6 (40, .iload_n 1, 1, 23, 0, [1], []) rfl rfl rfl ?_
      refine bGo hA 1 7 (41, .iaload, 1, 24, 0, [], []) rfl rfl rfl ?_
      refine ⟨rfl, (bIxP (x := x1) (n := 3) h_x1 (k7.1 c10).1), ?_⟩
      refine bEqL (x := x1) h_x1 ?_
      refine bGo hA 1 8 (42, .istore_n 3, 1, 25, 0, [3], []) rfl rfl rfl ?_
      refine bGo hA 1 9 (43, .aload_n 0, 1, 26, 0, [0], []) rfl rfl rfl ?_
      refine bGo hA 1 10 (44, .getfield 251, 3, 27, 0, [12, 91, 3, 136, 1, 0], []) rfl rfl rfl ?_
      refine ⟨rfl, ?_⟩
      refine bGo hA 1 11 (47, .iload_n 1, 1, 28, 0, [1], []) rfl rfl rfl ?_
      refine bGo hA 1 12 (48, .iload_n 2, 1, 29, 0, [2], []) rfl rfl rfl ?_
      refine bGo hA 1 13 (49, .iastore, 1, 30, 0, [], []) rfl rfl rfl ?_
      refine ⟨rfl, (bIxP (x := x1) (n := 3) h_x1 (k7.1 c10).1), by decide, ?_⟩
      refine bEqS (x := x1) h_x1 ?_
      refine bGo hA 1 14 (50, .iload_n 2, 1, 31, 0, [2], []) rfl rfl rfl ?_
      refine bGo hA 1 15 (51, .istore 4, 2, 32, 0, [4], []) rfl rfl rfl ?_
      exact (k7.1 c10).2
    · refine bGo hA 1 2 (34, .iconst (0), 1, 19, 0, [], [(0, 0)]) rfl rfl rfl ?_
      refine bEqI bl_0 ?_
      refine bGo hA 1 3 (35, .ireturn, 1, 20, 0, [1], []) rfl rfl rfl ?_
      exact (k7.2 c10)
  · refine bGo hA 0 8 (14, .iload_n 2, 1, 9, 0, [2], []) rfl rfl rfl ?_
    refine bGo hA 0 9 (15, .iconst (1), 1, 10, 0, [], [(1, 0)]) rfl rfl rfl ?_
    refine bEqI bl_1 ?_
    refine bGo hA 0 10 (16, .iconst (4), 1, 11, 0, [], [(4, 0)]) rfl rfl rfl ?_
    refine bEqI bl_4 ?_
    refine bGo hA 0 11 (17, .invokestatic 325, 3, 12, 0, [2, 199, 3], []) rfl rfl rfl ?_
    refine hC _ _ _ _ _ (bRn_e (fun r13 s11 q14 k12 => ?_)) (k2.2 c5)
    show A (12, [.ref 12, .int (bn x1), .int (bn x2), .float 0, .float 0], [.int (bn r13), .ref 12], s11)
    refine bGo hA 0 12 (20, .ifCond .eq (7), 3, 13, 15, [], []) rfl rfl rfl ?_
    refine bB_eq0 (x := r13) q14 (fun c15 => ?_) (fun c15 => ?_)
    · refine bGo hA 0 15 (27, .iconst (2), 1, 16, 0, [], [(2, 0)]) rfl rfl rfl ?_
      refine bEqI bl_2 ?_
      refine bGo hA 1 0 (28, .invokevirtual 333, 3, 17, 0, [0, 12, 197, 1], []) rfl rfl rfl ?_
      refine ⟨rfl, ?_⟩
      refine hC _ _ _ _ _ (bRn_e (fun r18 s16 q19 k17 => ?_)) (k12.1 c15)
      show A (17, [.ref 12, .int (bn x1), .int (bn x2), .float 0, .float 0], [.int (bn r18)], s16)
      refine bGo hA 1 1 (31, .ifCond .eq (5), 3, 18, 20, [], []) rfl rfl rfl ?_
      refine bB_eq0 (x := r18) q19 (fun c20 => ?_) (fun c20 => ?_)
      · refine bGo hA 1 4 (36, .aload_n 0, 1, 21, 0, [0], []) rfl rfl rfl ?_
        refine bGo hA 1 5 (37, .getfield 251, 3, 22, 0, [12, 91, 3, 136, 1, 0], []) rfl rfl rfl ?_
        refine ⟨rfl, ?_⟩
        refine bGo hA 1 6 (40, .iload_n 1, 1, 23, 0, [1], []) rfl rfl rfl ?_
        refine bGo hA 1 7 (41, .iaload, 1, 24, 0, [], []) rfl rfl rfl ?_
        refine ⟨rfl, (bIxP (x := x1) (n := 3) h_x1 (k17.1 c20).1), ?_⟩
        refine bEqL (x := x1) h_x1 ?_
        refine bGo hA 1 8 (42, .istore_n 3, 1, 25, 0, [3], []) rfl rfl rfl ?_
        refine bGo hA 1 9 (43, .aload_n 0, 1, 26, 0, [0], []) rfl rfl rfl ?_
        refine bGo hA 1 10 (44, .getfield 251, 3, 27, 0, [12, 91, 3, 136, 1, 0], []) rfl rfl rfl ?_
        refine ⟨rfl, ?_⟩
        refine bGo hA 1 11 (47, .iload_n 1, 1, 28, 0, [1], []) rfl rfl rfl ?_
        refine bGo hA 1 12 (48, .iload_n 2, 1, 29, 0, [2], []) rfl rfl rfl ?_
        refine bGo hA 1 13 (49, .iastore, 1, 30, 0, [], []) rfl rfl rfl ?_
        refine ⟨rfl, (bIxP (x := x1) (n := 3) h_x1 (k17.1 c20).1), by decide, ?_⟩
        refine bEqS (x := x1) h_x1 ?_
        refine bGo hA 1 14 (50, .iload_n 2, 1, 31, 0, [2], []) rfl rfl rfl ?_
        refine bGo hA 1 15 (51, .istore 4, 2, 32, 0, [4], []) rfl rfl rfl ?_
        exact (k17.1 c20).2
      · refine bGo hA 1 2 (34, .iconst (0), 1, 19, 0, [], [(0, 0)]) rfl rfl rfl ?_
        refine bEqI bl_0 ?_
        refine bGo hA 1 3 (35, .ireturn, 1, 20, 0, [1], []) rfl rfl rfl ?_
        exact (k17.2 c20)
    · refine bGo hA 0 13 (23, .iconst (0), 1, 14, 0, [], [(0, 0)]) rfl rfl rfl ?_
      refine bEqI bl_0 ?_
      refine bGo hA 0 14 (24, .goto (4), 3, 15, 16, [], []) rfl rfl rfl ?_
      refine bGo hA 1 0 (28, .invokevirtual 333, 3, 17, 0, [0, 12, 197, 1], []) rfl rfl rfl ?_
      refine ⟨rfl, ?_⟩
      refine hC _ _ _ _ _ (bRn_e (fun r23 s21 q24 k22 => ?_)) (k12.2 c15)
      show A (17, [.ref 12, .int (bn x1), .int (bn x2), .float 0, .float 0], [.int (bn r23)], s21)
      refine bGo hA 1 1 (31, .ifCond .eq (5), 3, 18, 20, [], []) rfl rfl rfl ?_
      refine bB_eq0 (x := r23) q24 (fun c25 => ?_) (fun c25 => ?_)
      · refine bGo hA 1 4 (36, .aload_n 0, 1, 21, 0, [0], []) rfl rfl rfl ?_
        refine bGo hA 1 5 (37, .getfield 251, 3, 22, 0, [12, 91, 3, 136, 1, 0], []) rfl rfl rfl ?_
        refine ⟨rfl, ?_⟩
        refine bGo hA 1 6 (40, .iload_n 1, 1, 23, 0, [1], []) rfl rfl rfl ?_
        refine bGo hA 1 7 (41, .iaload, 1, 24, 0, [], []) rfl rfl rfl ?_
        refine ⟨rfl, (bIxP (x := x1) (n := 3) h_x1 (k22.1 c25).1), ?_⟩
        refine bEqL (x := x1) h_x1 ?_
        refine bGo hA 1 8 (42, .istore_n 3, 1, 25, 0, [3], []) rfl rfl rfl ?_
        refine bGo hA 1 9 (43, .aload_n 0, 1, 26, 0, [0], []) rfl rfl rfl ?_
        refine bGo hA 1 10 (44, .getfield 251, 3, 27, 0, [12, 91, 3, 136, 1, 0], []) rfl rfl rfl ?_
        refine ⟨rfl, ?_⟩
        refine bGo hA 1 11 (47, .iload_n 1, 1, 28, 0, [1], []) rfl rfl rfl ?_
        refine bGo hA 1 12 (48, .iload_n 2, 1, 29, 0, [2], []) rfl rfl rfl ?_
        refine bGo hA 1 13 (49, .iastore, 1, 30, 0, [], []) rfl rfl rfl ?_
        refine ⟨rfl, (bIxP (x := x1) (n := 3) h_x1 (k22.1 c25).1), by decide, ?_⟩
        refine bEqS (x := x1) h_x1 ?_
        refine bGo hA 1 14 (50, .iload_n 2, 1, 31, 0, [2], []) rfl rfl rfl ?_
        refine bGo hA 1 15 (51, .istore 4, 2, 32, 0, [4], []) rfl rfl rfl ?_
        exact (k22.1 c25).2
      · refine bGo hA 1 2 (34, .iconst (0), 1, 19, 0, [], [(0, 0)]) rfl rfl rfl ?_
        refine bEqI bl_0 ?_
        refine bGo hA 1 3 (35, .ireturn, 1, 20, 0, [1], []) rfl rfl rfl ?_
        exact (k22.2 c25)

theorem sq278_32 {lvl : Nat} {C : bCall} {Q : bPost} {A : bPt → Prop} (hC : bMono C) (hA : bClosed lvl bm278 C Q A) {l1 : Int} {v2 : Value} {l3 : Int} {l4 : Int} {σ : bSt}  (h_l1 : bRg l1) (h_l3 : bRg l3) (h_l4 : bRg l4)
  (h : ((l4 < 4 → (bRg (4 * l1) ∧ (bRg ((4 * l1) + l4) ∧ ((0 ≤ ((4 * l1) + l4) ∧ ((4 * l1) + l4) < 12) ∧ (bRg (l4 + 1) ∧ A (32, [.ref 12, .int (bn l1), v2, .int (bn l3), .int (bn (l4 + 1))], [], (bw σ 137 ((4 * l1) + l4) (-1)))))))) ∧ (¬ l4 < 4 → Q (.inl (some (.int (bn l3)))) σ))) : A (32, [.ref 12, .int (bn l1), v2, .int (bn l3), .int (bn l4)], [], σ) := by
  refine bGo hA 2 0 (53, .iload 4, 2, 33, 0, [4], []) rfl rfl rfl ?_
  refine bGo hA 2 1 (55, .iconst (4), 1, 34, 0, [], [(4, 0)]) rfl rfl rfl ?_
  refine bEqI bl_4 ?_
  refine bGo hA 2 2 (56, .if_icmp .ge (21), 3, 35, 46, [], []) rfl rfl rfl ?_
  refine bB_lt (x := l4) (y := 4) h_l4 (by decide : bRg 4) (fun c1 => ?_) (fun c1 => ?_)
  · refine bGo hA 2 3 (59, .aload_n 0, 1, 36, 0, [0], []) rfl rfl rfl ?_
    refine bGo hA 2 4 (60, .getfield 254, 3, 37, 0, [12, 92, 3, 137, 1, 0], []) rfl rfl rfl ?_
    refine ⟨rfl, ?_⟩
    refine bGo hA 2 5 (63, .iconst (4), 1, 38, 0, [], [(4, 0)]) rfl rfl rfl ?_
    refine bEqI bl_4 ?_
    refine bGo hA 2 6 (64, .iload_n 1, 1, 39, 0, [1], []) rfl rfl rfl ?_
    refine bGo hA 2 7 (65, .imul, 1, 40, 0, [], []) rfl rfl rfl ?_
    refine bEqI (bn_mul 4 l1) ?_
    refine bGo hA 2 8 (66, .iload 4, 2, 41, 0, [4], []) rfl rfl rfl ?_
    refine bGo hA 2 9 (68, .iadd, 1, 42, 0, [], []) rfl rfl rfl ?_
    refine bEqI (bn_add (4 * l1) l4) ?_
    refine bGo hA 2 10 (69, .iconst (-1), 1, 43, 0, [], [(-1, 0)]) rfl rfl rfl ?_
    refine bEqI bl_m1 ?_
    refine bGo hA 2 11 (70, .iastore, 1, 44, 0, [], []) rfl rfl rfl ?_
    refine ⟨rfl, (bIxP (x := ((4 * l1) + l4)) (n := 12) (h.1 c1).2.1 (h.1 c1).2.2.1), by decide, ?_⟩
    refine bEqS (x := ((4 * l1) + l4)) (h.1 c1).2.1 ?_
    refine bGo hA 2 12 (71, .iinc 4 (1), 3, 45, 0, [4], [(1, 0)]) rfl rfl rfl ?_
    refine bEqC (fun v => A (45, [.ref 12, .int (bn l1), v2, .int (bn l3), .int v], [], (bw σ 137 ((4 * l1) + l4) (-1)))) ((congrArg (fun w => bn l4 + w) bl_1).trans (bn_add l4 1)) ?_
    refine bGo hA 2 13 (74, .goto (-21), 3, 46, 32, [], []) rfl rfl rfl ?_
    exact (h.1 c1).2.2.2.2
  · refine bGo hA 2 14 (77, .iload_n 3, 1, 47, 0, [3], []) rfl rfl rfl ?_
    refine bGo hA 2 15 (78, .ireturn, 1, 0, 0, [1], []) rfl rfl rfl ?_
    exact (h.2 c1)

theorem sq175_0 {lvl : Nat} {C : bCall} {Q : bPost} {A : bPt → Prop} (hC : bMono C) (hA : bClosed lvl bm175 C Q A) {x1 : Int} {σ : bSt}  (h_x1 : bRg x1)
  (h : (C 138 [.int (bn x1), .int (bn 0), .int (bn 11)] σ (bRvx (fun s1 => (C 140 [.ref 24, .int (bn x1)] s1 (bRn (fun r5 s3 => Q (.inl (some (.int (bn r5)))) s3)))) (fun E s1 => Q (.inr E) s1)))) : A (0, [.ref 11, .int (bn x1)], [], σ) := by
  refine bGo hA 0 0 (0, .iload_n 1, 1, 1, 0, [1], []) rfl rfl rfl ?_
  refine bGo hA 0 1 (1, .iconst (0), 1, 2, 0, [], [(0, 0)]) rfl rfl rfl ?_
  refine bEqI bl_0 ?_
  refine bGo hA 0 2 (2, .bipush (11), 2, 3, 0, [], [(11, 0)]) rfl rfl rfl ?_
  refine bEqI bl_11 ?_
  refine bGo hA 0 3 (4, .invokestatic 80, 3, 4, 0, [2, 138, 3], []) rfl rfl rfl ?_
  refine hC _ _ _ _ _ (bRvx_e (fun s1 k2 => ?_) (fun E s1 k2 => ?_)) h
  · show A (4, [.ref 11, .int (bn x1)], [], s1)
    refine bGo hA 0 4 (7, .aload_n 0, 1, 5, 0, [0], []) rfl rfl rfl ?_
    refine bGo hA 0 5 (8, .getfield 51, 3, 6, 0, [11, 5, 3, 5, 0, 0], []) rfl rfl rfl ?_
    refine ⟨rfl, ?_⟩
    refine bGo hA 0 6 (11, .getfield 233, 3, 7, 0, [5, 7, 3, 24, 1, 0], []) rfl rfl rfl ?_
    refine ⟨rfl, ?_⟩
    refine bGo hA 0 7 (14, .iload_n 1, 1, 8, 0, [1], []) rfl rfl rfl ?_
    refine bGo hA 0 8 (15, .invokestatic 68, 3, 9, 0, [2, 140, 2], []) rfl rfl rfl ?_
    refine hC _ _ _ _ _ (bRn_e (fun r5 s3 q6 k4 => ?_)) k2
    show A (9, [.ref 11, .int (bn x1)], [.int (bn r5)], s3)
    refine bGo hA 0 9 (18, .ireturn, 1, 0, 0, [1], []) rfl rfl rfl ?_
    exact k4
  · exact k2

theorem sq299_0 {lvl : Nat} {C : bCall} {Q : bPost} {A : bPt → Prop} (hC : bMono C) (hA : bClosed lvl bm299 C Q A) {x1 : Int} {σ : bSt}  (h_x1 : bRg x1)
  (h : (C 199 [.int (bn x1), .int (bn 0), .int (bn 11)] σ (bRn (fun r3 s1 => ((r3 = 0 → (C 197 [.ref 12, .int (bn 1)] s1 (bRn (fun r8 s6 => ((r8 = 0 → ((0 ≤ x1 ∧ x1 < 12) ∧ Q (.inl (some (.int (bn (bi s6 139 x1))))) s6)) ∧ (¬ r8 = 0 → Q (.inl (some (.int (bn 0)))) s6)))))) ∧ (¬ r3 = 0 → (C 197 [.ref 12, .int (bn 0)] s1 (bRn (fun r13 s11 => ((r13 = 0 → ((0 ≤ x1 ∧ x1 < 12) ∧ Q (.inl (some (.int (bn (bi s11 139 x1))))) s11)) ∧ (¬ r13 = 0 → Q (.inl (some (.int (bn 0)))) s11))))))))))) : A (0, [.ref 12, .int (bn x1)], [], σ) := by
  refine bGo hA 0 0 (0, .aload_n 0, 1, 1, 0, [0], []) rfl rfl rfl ?_
  refine bGo hA 0 1 (1, .iload_n 1, 1, 2, 0, [1], []) rfl rfl rfl ?_
  refine bGo hA 0 2 (2, .iconst (0), 1, 3, 0, [], [(0, 0)]) rfl rfl rfl ?_
  refine bEqI bl_0 ?_
  refine bGo hA 0 3 (3, .bipush (11), 2, 4, 0, [], [(11, 0)]) rfl rfl rfl ?_
  refine bEqI bl_11 ?_
  refine bGo hA 0 4 (5, .invokestatic 325, 3, 5, 0, [2, 199, 3], []) rfl rfl rfl ?_
  refine hC _ _ _ _ _ (bRn_e (fun r3 s1 q4 k2 => ?_)) h
  show A (5, [.ref 12, .int (bn x1)], [.int (bn r3), .ref 12], s1)
  refine bGo hA 0 5 (8, .ifCond .eq (7), 3, 6, 8, [], []) rfl rfl rfl ?_
  refine bB_eq0 (x := r3) q4 (fun c5 => ?_) (fun c5 => ?_)
  · refine bGo hA 0 8 (15, .iconst (1), 1, 9, 0, [], [(1, 0)]) rfl rfl rfl ?_
    refine bEqI bl_1 ?_
    refine bGo hA 0 9 (16, .invokevirtual 333, 3, 10, 0, [0, 12, 197, 1], []) rfl rfl rfl ?_
    refine ⟨rfl, ?_⟩
    refine hC _ _ _ _ _ (bRn_e (fun r8 s6 q9 k7 => ?_)) (k2.1 c5)
    show A (10, [.ref 12, .int (bn x1)], [.int (bn r8)], s6)
    refine bGo hA 0 10 (19, .ifCond .eq (7), 3, 11, 13, [], []) rfl rfl rfl ?_
    refine bB_eq0 (x := r8) q9 (fun c10 => ?_) (fun c10 => ?_)
    · refine bGo hA 0 13 (26, .aload_n 0, 1, 14, 0, [0], []) rfl rfl rfl ?_
      refine bGo hA 0 14 (27, .getfield 260, 3, 15, 0, [12, 94, 3, 139, 1, 0], []) rfl rfl rfl ?_
      refine ⟨rfl, ?_⟩
      refine bGo hA 0 15 (30, .iload_n 1, 1, 16, 0, [1], []) rfl rfl rfl ?_
      refine bGo hA 1 0 (31, .iaload, 1, 17, 0, [], []) rfl rfl rfl ?_
      refine ⟨rfl, (bIxP (x := x1) (n := 12) h_x1 (k7.1 c10).1), ?_⟩
      refine bEqL (x := x1) h_x1 ?_
      refine bGo hA 1 1 (32, .ireturn, 1, 0, 0, [1], []) rfl rfl rfl ?_
      exact (k7.1 c10).2
    · refine bGo hA 0 11 (22, .iconst (0), 1, 12, 0, [], [(0, 0)]) rfl rfl rfl ?_
      refine bEqI bl_0 ?_
      refine bGo hA 0 12 (23, .goto (9), 3, 13, 17, [], []) rfl rfl rfl ?_
      refine bGo hA 1 1 (32, .ireturn, 1, 0, 0, [1], []) rfl rfl rfl ?_
      exact (k7.2 c10)
  · refine bGo hA 0 6 (11, .iconst (0), 1, 7, 0, [], [(0, 0)]) rfl rfl rfl ?_
    refine bEqI bl_0 ?_
    refine bGo hA 0 7 (12, .goto (4), 3, 8, 9, [], []) rfl rfl rfl ?_
    refine bGo hA 0 9 (16, .invokevirtual 333, 3, 10, 0, [0, 12, 197, 1], []) rfl rfl rfl ?_
    refine ⟨rfl, ?_⟩
    refine hC _ _ _ _ _ (bRn_e (fun r13 s11 q14 k12 => ?_)) (k2.2 c5)
    show A (10, [.ref 12, .int (bn x1)], [.int (bn r13)], s11)
    refine bGo hA 0 10 (19, .ifCond .eq (7), 3, 11, 13, [], []) rfl rfl rfl ?_
    refine bB_eq0 (x := r13) q14 (fun c15 => ?_) (fun c15 => ?_)
    · refine bGo hA 0 13 (26, .aload_n 0, 1, 14, 0, [0], []) rfl rfl rfl ?_
      refine bGo hA 0 14 (27, .getfield 260, 3, 15, 0, [12, 94, 3, 139, 1, 0], []) rfl rfl rfl ?_
      refine ⟨rfl, ?_⟩
      refine bGo hA 0 15 (30, .iload_n 1, 1, 16, 0, [1], []) rfl rfl rfl ?_
      refine bGo hA 1 0 (31, .iaload, 1, 17, 0, [], []) rfl rfl rfl ?_
      refine ⟨rfl, (bIxP (x := x1) (n := 12) h_x1 (k12.1 c15).1), ?_⟩
      refine bEqL (x := x1) h_x1 ?_
      refine bGo hA 1 1 (32, .ireturn, 1, 0, 0, [1], []) rfl rfl rfl ?_
      exact (k12.1 c15).2
    · refine bGo hA 0 11 (22, .iconst (0), 1, 12, 0, [], [(0, 0)]) rfl rfl rfl ?_
      refine bEqI bl_0 ?_
      refine bGo hA 0 12 (23, .goto (9), 3, 13, 17, [], []) rfl rfl rfl ?_
      refine bGo hA 1 1 (32, .ireturn, 1, 0, 0, [1], []) rfl rfl rfl ?_
      exact (k12.2 c15)

theorem sq176_0 {lvl : Nat} {C : bCall} {Q : bPost} {A : bPt → Prop} (hC : bMono C) (hA : bClosed lvl bm176 C Q A)  {σ : bSt}  
  (h : Q (.inl (some (.int (bn (bi σ 5 8))))) σ) : A (0, [.ref 11], [], σ) := by
  refine bGo hA 0 0 (0, .aload_n 0, 1, 1, 0, [0], []) rfl rfl rfl ?_
  refine bGo hA 0 1 (1, .getfield 51, 3, 2, 0, [11, 5, 3, 5, 0, 0], []) rfl rfl rfl ?_
  refine ⟨rfl, ?_⟩
  refine bGo hA 0 2 (4, .getfield 237, 3, 3, 0, [5, 8, 0, 0, 0, 0], []) rfl rfl rfl ?_
  refine ⟨rfl, ?_⟩
  refine bEqI (bn_bi σ 5 8) ?_
  refine bGo hA 0 3 (7, .ireturn, 1, 0, 0, [1], []) rfl rfl rfl ?_
  exact h

theorem sq300_0 {lvl : Nat} {C : bCall} {Q : bPost} {A : bPt → Prop} (hC : bMono C) (hA : bClosed lvl bm300 C Q A)  {σ : bSt}  
  (h : (C 198 [.ref 12, .int (bn (bi σ 12 95))] σ (bRn (fun r3 s1 => Q (.inl (some (.int (bn r3)))) s1)))) : A (0, [.ref 12], [], σ) := by
  refine bGo hA 0 0 (0, .aload_n 0, 1, 1, 0, [0], []) rfl rfl rfl ?_
  refine bGo hA 0 1 (1, .aload_n 0, 1, 2, 0, [0], []) rfl rfl rfl ?_
  refine bGo hA 0 2 (2, .getfield 316, 3, 3, 0, [12, 95, 0, 0, 0, 0], []) rfl rfl rfl ?_
  refine ⟨rfl, ?_⟩
  refine bEqI (bn_bi σ 12 95) ?_
  refine bGo hA 0 3 (5, .invokevirtual 428, 3, 4, 0, [0, 12, 198, 1], []) rfl rfl rfl ?_
  refine ⟨rfl, ?_⟩
  refine hC _ _ _ _ _ (bRn_e (fun r3 s1 q4 k2 => ?_)) h
  show A (4, [.ref 12], [.int (bn r3)], s1)
  refine bGo hA 0 4 (8, .ireturn, 1, 0, 0, [1], []) rfl rfl rfl ?_
  exact k2

theorem sq178_0 {lvl : Nat} {C : bCall} {Q : bPost} {A : bPt → Prop} (hC : bMono C) (hA : bClosed lvl bm178 C Q A)  {σ : bSt}  
  (h : Q (.inl (some (.int (bn (bi σ 6 13))))) σ) : A (0, [.ref 11], [], σ) := by
  refine bGo hA 0 0 (0, .aload_n 0, 1, 1, 0, [0], []) rfl rfl rfl ?_
  refine bGo hA 0 1 (1, .getfield 42, 3, 2, 0, [11, 4, 3, 6, 0, 0], []) rfl rfl rfl ?_
  refine ⟨rfl, ?_⟩
  refine bGo hA 0 2 (4, .getfield 243, 3, 3, 0, [6, 13, 0, 0, 0, 0], []) rfl rfl rfl ?_
  refine ⟨rfl, ?_⟩
  refine bEqI (bn_bi σ 6 13) ?_
  refine bGo hA 0 3 (7, .ireturn, 1, 0, 0, [1], []) rfl rfl rfl ?_
  exact h

theorem sq252_0 {lvl : Nat} {C : bCall} {Q : bPost} {A : bPt → Prop} (hC : bMono C) (hA : bClosed lvl bm252 C Q A)  {σ : bSt}  
  (h : (C 198 [.ref 12, .int (bn (bi σ 12 49))] σ (bRn (fun r3 s1 => Q (.inl (some (.int (bn r3)))) s1)))) : A (0, [.ref 12], [], σ) := by
  refine bGo hA 0 0 (0, .aload_n 0, 1, 1, 0, [0], []) rfl rfl rfl ?_
  refine bGo hA 0 1 (1, .aload_n 0, 1, 2, 0, [0], []) rfl rfl rfl ?_
  refine bGo hA 0 2 (2, .getfield 410, 3, 3, 0, [12, 49, 0, 0, 0, 0], []) rfl rfl rfl ?_
  refine ⟨rfl, ?_⟩
  refine bEqI (bn_bi σ 12 49) ?_
  refine bGo hA 0 3 (5, .invokevirtual 428, 3, 4, 0, [0, 12, 198, 1], []) rfl rfl rfl ?_
  refine ⟨rfl, ?_⟩
  refine hC _ _ _ _ _ (bRn_e (fun r3 s1 q4 k2 => ?_)) h
  show A (4, [.ref 12], [.int (bn r3)], s1)
  refine bGo hA 0 4 (8, .ireturn, 1, 0, 0, [1], []) rfl rfl rfl ?_
  exact k2


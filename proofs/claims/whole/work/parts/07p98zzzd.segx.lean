/-! segments of methods 16,17,18,21,25,26,27,28,29,43,46,47,48,49,50,51,52,53,54,55,56,57,58,59,60,61,62,63,250,251,265,266,267,268,270,271,272,279,280,282,283,284,285,286,287,288,289,290,291,292,293,294,295,296,297,298,185, by program (wip/whole/gen13.py): from a cut of a method on to the next cuts -/
theorem sq16_0 {lvl : Nat} {C : bCall} {Q : bPost} {A : bPt → Prop} (hC : bMono C) (hA : bClosed lvl bm16 C Q A) {a0 : Nat} {a1 : Nat} {σ : bSt} (h_a0 : a0 % 256 = 1) (h_a1 : a1 % 256 = 4) 
  (h : (bRg ((bi σ a0 0) - 1) ∧ A (5, [.ref a0, .ref a1, .int (bn ((bi σ a0 0) - 1)), .float 0], [], σ))) : A (0, [.ref a0, .ref a1, .float 0, .float 0], [], σ) := by
  refine bGo hA 0 0 (0, .aload_n 0, 1, 1, 0, [0], []) rfl rfl rfl ?_
  refine bGo hA 0 1 (1, .getfield 21, 3, 2, 0, [1, 0, 0, 0, 0, 0], []) rfl rfl rfl ?_
  refine ⟨h_a0, ?_⟩
  refine bEqI (bn_bi σ a0 0) ?_
  refine bGo hA 0 2 (4, .iconst (1), 1, 3, 0, [], [(1, 0)]) rfl rfl rfl ?_
  refine bEqI bl_1 ?_
  refine bGo hA 0 3 (5, .isub, 1, 4, 0, [], []) rfl rfl rfl ?_
  refine bEqI (bn_sub (bi σ a0 0) 1) ?_
  refine bGo hA 0 4 (6, .istore_n 2, 1, 5, 0, [2], []) rfl rfl rfl ?_
  exact h.2

theorem sq16_5 {lvl : Nat} {C : bCall} {Q : bPost} {A : bPt → Prop} (hC : bMono C) (hA : bClosed lvl bm16 C Q A) {l0 : Nat} {l1 : Nat} {l2 : Int} {v3 : Value} {σ : bSt}  (h_l2 : bRg l2)
  (h : ((l2 < 0 → Q (.inl (some (.int (bn (-1))))) σ) ∧ (¬ l2 < 0 → (l0 % 256 = 1 ∧ (¬ bTy (256 * (1 * (l0 / 256) + 0) + 14) = 9 ∧ (bRg (bLen σ (256 * (1 * (l0 / 256) + 0) + 14) : Int) ∧ ((l2 < (bLen σ (256 * (1 * (l0 / 256) + 0) + 14) : Int) → (bTy (256 * (1 * (l0 / 256) + 0) + 14) = 14 ∧ ((0 ≤ l2 ∧ l2 < (bLen σ (256 * (1 * (l0 / 256) + 0) + 14) : Int)) ∧ ((br σ (256 * (1 * (l0 / 256) + 0) + 14) l2 = none → (bRg (l2 + (-1)) ∧ A (5, [.ref l0, .ref l1, .int (bn (l2 + (-1))), .null], [], σ))) ∧ (∀ z3 : Nat, br σ (256 * (1 * (l0 / 256) + 0) + 14) l2 = some z3 → (z3 % 256 = 4 ∧ (C 43 [.ref z3, .ref l1] σ (bRn (fun r7 s5 => ((r7 = 0 → (bRg (l2 + (-1)) ∧ A (5, [.ref l0, .ref l1, .int (bn (l2 + (-1))), .ref z3], [], s5))) ∧ (¬ r7 = 0 → Q (.inl (some (.int (bn l2)))) s5))))))))))) ∧ (¬ l2 < (bLen σ (256 * (1 * (l0 / 256) + 0) + 14) : Int) → (bRg (l2 + (-1)) ∧ A (5, [.ref l0, .ref l1, .int (bn (l2 + (-1))), .null], [], σ)))))))))) : A (5, [.ref l0, .ref l1, .int (bn l2), v3], [], σ) := by
  refine bGo hA 0 5 (7, .iload_n 2, 1, 6, 0, [2], []) rfl rfl rfl ?_
  refine bGo hA 0 6 (8, .ifCond .lt (43), 3, 7, 29, [], []) rfl rfl rfl ?_
  refine bB_lt0 (x := l2) h_l2 (fun c1 => ?_) (fun c1 => ?_)
  · refine bGo hA 1 13 (51, .iconst (-1), 1, 30, 0, [], [(-1, 0)]) rfl rfl rfl ?_
    refine bEqI bl_m1 ?_
    refine bGo hA 1 14 (52, .ireturn, 1, 0, 0, [1], []) rfl rfl rfl ?_
    exact (h.1 c1)
  · refine bGo hA 0 7 (11, .iload_n 2, 1, 8, 0, [2], []) rfl rfl rfl ?_
    refine bGo hA 0 8 (12, .aload_n 0, 1, 9, 0, [0], []) rfl rfl rfl ?_
    refine bGo hA 0 9 (13, .getfield 17, 3, 10, 0, [1, 1, 3, 14, 1, 0], []) rfl rfl rfl ?_
    refine ⟨(h.2 c1).1, ?_⟩
    refine bGo hA 0 10 (16, .arraylength, 1, 11, 0, [], []) rfl rfl rfl ?_
    refine ⟨(h.2 c1).2.1, ?_⟩
    refine bEqI (bn_nat _).symm ?_
    refine bGo hA 0 11 (17, .if_icmp .ge (12), 3, 12, 17, [], []) rfl rfl rfl ?_
    refine bB_lt (x := l2) (y := (bLen σ (256 * (1 * (l0 / 256) + 0) + 14) : Int)) h_l2 (h.2 c1).2.2.1 (fun c2 => ?_) (fun c2 => ?_)
    · refine bGo hA 0 12 (20, .aload_n 0, 1, 13, 0, [0], []) rfl rfl rfl ?_
      refine bGo hA 0 13 (21, .getfield 17, 3, 14, 0, [1, 1, 3, 14, 1, 0], []) rfl rfl rfl ?_
      refine ⟨(h.2 c1).1, ?_⟩
      refine bGo hA 0 14 (24, .iload_n 2, 1, 15, 0, [2], []) rfl rfl rfl ?_
      refine bGo hA 0 15 (25, .aaload, 1, 16, 0, [14, 4], []) rfl rfl rfl ?_
      refine ⟨((h.2 c1).2.2.2.1 c2).1, (bIxP (x := l2) (n := bLen σ (256 * (1 * (l0 / 256) + 0) + 14)) h_l2 ((h.2 c1).2.2.2.1 c2).2.1), ?_⟩
      refine bOptX (P := fun v => A (16, [.ref l0, .ref l1, .int (bn l2), v3], v :: [], σ)) (a := (256 * (1 * (l0 / 256) + 0) + 14)) (x := l2) h_l2 (fun c4 => ?_) (fun z3 c4 => ?_)
      · refine bGo hA 1 0 (26, .goto (4), 3, 17, 18, [], []) rfl rfl rfl ?_
        refine bGo hA 1 2 (30, .astore_n 3, 1, 19, 0, [3], []) rfl rfl rfl ?_
        refine bGo hA 1 3 (31, .aload_n 3, 1, 20, 0, [3], []) rfl rfl rfl ?_
        refine bGo hA 1 4 (32, .ifnull (13), 3, 21, 27, [], []) rfl rfl rfl ?_
        refine bGo hA 1 11 (45, .iinc 2 (-1), 3, 28, 0, [2], [(-1, 0)]) rfl rfl rfl ?_
        refine bEqC (fun v => A (28, [.ref l0, .ref l1, .int v, .null], [], σ)) ((congrArg (fun w => bn l2 + w) bl_m1).trans (bn_add l2 (-1))) ?_
        refine bGo hA 1 12 (48, .goto (-41), 3, 29, 5, [], []) rfl rfl rfl ?_
        exact (((h.2 c1).2.2.2.1 c2).2.2.1 c4).2
      · refine bGo hA 1 0 (26, .goto (4), 3, 17, 18, [], []) rfl rfl rfl ?_
        refine bGo hA 1 2 (30, .astore_n 3, 1, 19, 0, [3], []) rfl rfl rfl ?_
        refine bGo hA 1 3 (31, .aload_n 3, 1, 20, 0, [3], []) rfl rfl rfl ?_
        refine bGo hA 1 4 (32, .ifnull (13), 3, 21, 27, [], []) rfl rfl rfl ?_
        refine bGo hA 1 5 (35, .aload_n 3, 1, 22, 0, [3], []) rfl rfl rfl ?_
        refine bGo hA 1 6 (36, .aload_n 1, 1, 23, 0, [1], []) rfl rfl rfl ?_
        refine bGo hA 1 7 (37, .invokevirtual 25, 3, 24, 0, [0, 4, 43, 1], []) rfl rfl rfl ?_
        refine ⟨(((h.2 c1).2.2.2.1 c2).2.2.2 z3 c4).1, ?_⟩
        refine hC _ _ _ _ _ (bRn_e (fun r7 s5 q8 k6 => ?_)) (((h.2 c1).2.2.2.1 c2).2.2.2 z3 c4).2
        show A (24, [.ref l0, .ref l1, .int (bn l2), .ref z3], [.int (bn r7)], s5)
        refine bGo hA 1 8 (40, .ifCond .eq (5), 3, 25, 27, [], []) rfl rfl rfl ?_
        refine bB_eq0 (x := r7) q8 (fun c9 => ?_) (fun c9 => ?_)
        · refine bGo hA 1 11 (45, .iinc 2 (-1), 3, 28, 0, [2], [(-1, 0)]) rfl rfl rfl ?_
          refine bEqC (fun v => A (28, [.ref l0, .ref l1, .int v, .ref z3], [], s5)) ((congrArg (fun w => bn l2 + w) bl_m1).trans (bn_add l2 (-1))) ?_
          refine bGo hA 1 12 (48, .goto (-41), 3, 29, 5, [], []) rfl rfl rfl ?_
          exact (k6.1 c9).2
        · refine bGo hA 1 9 (43, .iload_n 2, 1, 26, 0, [2], []) rfl rfl rfl ?_
          refine bGo hA 1 10 (44, .ireturn, 1, 27, 0, [1], []) rfl rfl rfl ?_
          exact (k6.2 c9)
    · refine bGo hA 1 1 (29, .aconst_null, 1, 18, 0, [], []) rfl rfl rfl ?_
      refine bGo hA 1 2 (30, .astore_n 3, 1, 19, 0, [3], []) rfl rfl rfl ?_
      refine bGo hA 1 3 (31, .aload_n 3, 1, 20, 0, [3], []) rfl rfl rfl ?_
      refine bGo hA 1 4 (32, .ifnull (13), 3, 21, 27, [], []) rfl rfl rfl ?_
      refine bGo hA 1 11 (45, .iinc 2 (-1), 3, 28, 0, [2], [(-1, 0)]) rfl rfl rfl ?_
      refine bEqC (fun v => A (28, [.ref l0, .ref l1, .int v, .null], [], σ)) ((congrArg (fun w => bn l2 + w) bl_m1).trans (bn_add l2 (-1))) ?_
      refine bGo hA 1 12 (48, .goto (-41), 3, 29, 5, [], []) rfl rfl rfl ?_
      exact ((h.2 c1).2.2.2.2 c2).2

theorem sq17_0 {lvl : Nat} {C : bCall} {Q : bPost} {A : bPt → Prop} (hC : bMono C) (hA : bClosed lvl bm17 C Q A) {a0 : Nat} {a1 : Nat} {σ : bSt} (h_a0 : a0 % 256 = 1) (h_a1 : a1 % 256 = 4) 
  (h : (C 16 [.ref a0, .ref a1] σ (bRn (fun r3 s1 => ((r3 = (-1) → (¬ bTy (256 * (1 * (a0 / 256) + 0) + 14) = 9 ∧ (bRg (bLen s1 (256 * (1 * (a0 / 256) + 0) + 14) : Int) ∧ (((bi s1 a0 0) < (bLen s1 (256 * (1 * (a0 / 256) + 0) + 14) : Int) → (bRg ((bi s1 a0 0) + 1) ∧ (((bi s1 a0 0) = (-1) → (C 18 [.ref a0, .int (bn 0), .ref a1] (bw s1 a0 0 ((bi s1 a0 0) + 1)) (bRv (fun s8 => Q (.inl none) s8)))) ∧ (¬ (bi s1 a0 0) = (-1) → (C 18 [.ref a0, .int (bn (bi s1 a0 0)), .ref a1] (bw s1 a0 0 ((bi s1 a0 0) + 1)) (bRv (fun s10 => Q (.inl none) s10))))))) ∧ (¬ (bi s1 a0 0) < (bLen s1 (256 * (1 * (a0 / 256) + 0) + 14) : Int) → ((r3 = (-1) → (C 18 [.ref a0, .int (bn 0), .ref a1] s1 (bRv (fun s13 => Q (.inl none) s13)))) ∧ (¬ r3 = (-1) → (C 18 [.ref a0, .int (bn r3), .ref a1] s1 (bRv (fun s15 => Q (.inl none) s15)))))))))) ∧ (¬ r3 = (-1) → ((r3 = (-1) → (C 18 [.ref a0, .int (bn 0), .ref a1] s1 (bRv (fun s18 => Q (.inl none) s18)))) ∧ (¬ r3 = (-1) → (C 18 [.ref a0, .int (bn r3), .ref a1] s1 (bRv (fun s20 => Q (.inl none) s20))))))))))) : A (0, [.ref a0, .ref a1, .float 0], [], σ) := by
  refine bGo hA 0 0 (0, .aload_n 0, 1, 1, 0, [0], []) rfl rfl rfl ?_
  refine bGo hA 0 1 (1, .aload_n 1, 1, 2, 0, [1], []) rfl rfl rfl ?_
  refine bGo hA 0 2 (2, .invokevirtual 29, 3, 3, 0, [0, 1, 16, 1], []) rfl rfl rfl ?_
  refine ⟨h_a0, ?_⟩
  refine hC _ _ _ _ _ (bRn_e (fun r3 s1 q4 k2 => ?_)) h
  show A (3, [.ref a0, .ref a1, .float 0], [.int (bn r3)], s1)
  refine bGo hA 0 3 (5, .istore_n 2, 1, 4, 0, [2], []) rfl rfl rfl ?_
  refine bGo hA 0 4 (6, .iload_n 2, 1, 5, 0, [2], []) rfl rfl rfl ?_
  refine bGo hA 0 5 (7, .iconst (-1), 1, 6, 0, [], [(-1, 0)]) rfl rfl rfl ?_
  refine bEqI bl_m1 ?_
  refine bGo hA 0 6 (8, .if_icmp .ne (30), 3, 7, 22, [], []) rfl rfl rfl ?_
  refine bB_eq (x := r3) (y := (-1)) q4 (by decide : bRg (-1)) (fun c5 => ?_) (fun c5 => ?_)
  · refine bGo hA 0 7 (11, .aload_n 0, 1, 8, 0, [0], []) rfl rfl rfl ?_
    refine bGo hA 0 8 (12, .getfield 21, 3, 9, 0, [1, 0, 0, 0, 0, 0], []) rfl rfl rfl ?_
    refine ⟨h_a0, ?_⟩
    refine bEqI (bn_bi s1 a0 0) ?_
    refine bGo hA 0 9 (15, .aload_n 0, 1, 10, 0, [0], []) rfl rfl rfl ?_
    refine bGo hA 0 10 (16, .getfield 17, 3, 11, 0, [1, 1, 3, 14, 1, 0], []) rfl rfl rfl ?_
    refine ⟨h_a0, ?_⟩
    refine bGo hA 0 11 (19, .arraylength, 1, 12, 0, [], []) rfl rfl rfl ?_
    refine ⟨(k2.1 c5).1, ?_⟩
    refine bEqI (bn_nat _).symm ?_
    refine bGo hA 0 12 (20, .if_icmp .ge (18), 3, 13, 22, [], []) rfl rfl rfl ?_
    refine bB_lt (x := (bi s1 a0 0)) (y := (bLen s1 (256 * (1 * (a0 / 256) + 0) + 14) : Int)) (bi_rg _ _ _) (k2.1 c5).2.1 (fun c6 => ?_) (fun c6 => ?_)
    · refine bGo hA 0 13 (23, .aload_n 0, 1, 14, 0, [0], []) rfl rfl rfl ?_
      refine bGo hA 0 14 (24, .getfield 21, 3, 15, 0, [1, 0, 0, 0, 0, 0], []) rfl rfl rfl ?_
      refine ⟨h_a0, ?_⟩
      refine bEqI (bn_bi s1 a0 0) ?_
      refine bGo hA 0 15 (27, .istore_n 2, 1, 16, 0, [2], []) rfl rfl rfl ?_
      refine bGo hA 1 0 (28, .aload_n 0, 1, 17, 0, [0], []) rfl rfl rfl ?_
      refine bGo hA 1 1 (29, .dup, 1, 18, 0, [], []) rfl rfl rfl ?_
      refine bGo hA 1 2 (30, .getfield 21, 3, 19, 0, [1, 0, 0, 0, 0, 0], []) rfl rfl rfl ?_
      refine ⟨h_a0, ?_⟩
      refine bEqI (bn_bi s1 a0 0) ?_
      refine bGo hA 1 3 (33, .iconst (1), 1, 20, 0, [], [(1, 0)]) rfl rfl rfl ?_
      refine bEqI bl_1 ?_
      refine bGo hA 1 4 (34, .iadd, 1, 21, 0, [], []) rfl rfl rfl ?_
      refine bEqI (bn_add (bi s1 a0 0) 1) ?_
      refine bGo hA 1 5 (35, .putfield 21, 3, 22, 0, [1, 0, 0, 0, 0, 0], []) rfl rfl rfl ?_
      refine ⟨h_a0, ?_⟩
      refine bGo hA 1 6 (38, .aload_n 0, 1, 23, 0, [0], []) rfl rfl rfl ?_
      refine bGo hA 1 7 (39, .iload_n 2, 1, 24, 0, [2], []) rfl rfl rfl ?_
      refine bGo hA 1 8 (40, .iconst (-1), 1, 25, 0, [], [(-1, 0)]) rfl rfl rfl ?_
      refine bEqI bl_m1 ?_
      refine bGo hA 1 9 (41, .if_icmp .ne (7), 3, 26, 28, [], []) rfl rfl rfl ?_
      refine bB_eq (x := (bi s1 a0 0)) (y := (-1)) (bi_rg _ _ _) (by decide : bRg (-1)) (fun c7 => ?_) (fun c7 => ?_)
      · refine bGo hA 1 10 (44, .iconst (0), 1, 27, 0, [], [(0, 0)]) rfl rfl rfl ?_
        refine bEqI bl_0 ?_
        refine bGo hA 1 11 (45, .goto (4), 3, 28, 29, [], []) rfl rfl rfl ?_
        refine bGo hA 1 13 (49, .aload_n 1, 1, 30, 0, [1], []) rfl rfl rfl ?_
        refine bGo hA 1 14 (50, .invokevirtual 33, 3, 31, 0, [0, 1, 18, 2], []) rfl rfl rfl ?_
        refine ⟨h_a0, ?_⟩
        refine hC _ _ _ _ _ (bRv_e (fun s8 k9 => ?_)) (((k2.1 c5).2.2.1 c6).2.1 c7)
        show A (31, [.ref a0, .ref a1, .int (bn (bi s1 a0 0))], [], s8)
        refine bGo hA 1 15 (53, .return_, 1, 0, 0, [0], []) rfl rfl rfl ?_
        exact k9
      · refine bGo hA 1 12 (48, .iload_n 2, 1, 29, 0, [2], []) rfl rfl rfl ?_
        refine bGo hA 1 13 (49, .aload_n 1, 1, 30, 0, [1], []) rfl rfl rfl ?_
        refine bGo hA 1 14 (50, .invokevirtual 33, 3, 31, 0, [0, 1, 18, 2], []) rfl rfl rfl ?_
        refine ⟨h_a0, ?_⟩
        refine hC _ _ _ _ _ (bRv_e (fun s10 k11 => ?_)) (((k2.1 c5).2.2.1 c6).2.2 c7)
        show A (31, [.ref a0, .ref a1, .int (bn (bi s1 a0 0))], [], s10)
        refine bGo hA 1 15 (53, .return_, 1, 0, 0, [0], []) rfl rfl rfl ?_
        exact k11
    · refine bGo hA 1 6 (38, .aload_n 0, 1, 23, 0, [0], []) rfl rfl rfl ?_
      refine bGo hA 1 7 (39, .iload_n 2, 1, 24, 0, [2], []) rfl rfl rfl ?_
      refine bGo hA 1 8 (40, .iconst (-1), 1, 25, 0, [], [(-1, 0)]) rfl rfl rfl ?_
      refine bEqI bl_m1 ?_
      refine bGo hA 1 9 (41, .if_icmp .ne (7), 3, 26, 28, [], []) rfl rfl rfl ?_
      refine bB_eq (x := r3) (y := (-1)) q4 (by decide : bRg (-1)) (fun c12 => ?_) (fun c12 => ?_)
      · refine bGo hA 1 10 (44, .iconst (0), 1, 27, 0, [], [(0, 0)]) rfl rfl rfl ?_
        refine bEqI bl_0 ?_
        refine bGo hA 1 11 (45, .goto (4), 3, 28, 29, [], []) rfl rfl rfl ?_
        refine bGo hA 1 13 (49, .aload_n 1, 1, 30, 0, [1], []) rfl rfl rfl ?_
        refine bGo hA 1 14 (50, .invokevirtual 33, 3, 31, 0, [0, 1, 18, 2], []) rfl rfl rfl ?_
        refine ⟨h_a0, ?_⟩
        refine hC _ _ _ _ _ (bRv_e (fun s13 k14 => ?_)) (((k2.1 c5).2.2.2 c6).1 c12)
        show A (31, [.ref a0, .ref a1, .int (bn r3)], [], s13)
        refine bGo hA 1 15 (53, .return_, 1, 0, 0, [0], []) rfl rfl rfl ?_
        exact k14
      · refine bGo hA 1 12 (48, .iload_n 2, 1, 29, 0, [2], []) rfl rfl rfl ?_
        refine bGo hA 1 13 (49, .aload_n 1, 1, 30, 0, [1], []) rfl rfl rfl ?_
        refine bGo hA 1 14 (50, .invokevirtual 33, 3, 31, 0, [0, 1, 18, 2], []) rfl rfl rfl ?_
        refine ⟨h_a0, ?_⟩
        refine hC _ _ _ _ _ (bRv_e (fun s15 k16 => ?_)) (((k2.1 c5).2.2.2 c6).2 c12)
        show A (31, [.ref a0, .ref a1, .int (bn r3)], [], s15)
        refine bGo hA 1 15 (53, .return_, 1, 0, 0, [0], []) rfl rfl rfl ?_
        exact k16
  · refine bGo hA 1 6 (38, .aload_n 0, 1, 23, 0, [0], []) rfl rfl rfl ?_
    refine bGo hA 1 7 (39, .iload_n 2, 1, 24, 0, [2], []) rfl rfl rfl ?_
    refine bGo hA 1 8 (40, .iconst (-1), 1, 25, 0, [], [(-1, 0)]) rfl rfl rfl ?_
    refine bEqI bl_m1 ?_
    refine bGo hA 1 9 (41, .if_icmp .ne (7), 3, 26, 28, [], []) rfl rfl rfl ?_
    refine bB_eq (x := r3) (y := (-1)) q4 (by decide : bRg (-1)) (fun c17 => ?_) (fun c17 => ?_)
    · refine bGo hA 1 10 (44, .iconst (0), 1, 27, 0, [], [(0, 0)]) rfl rfl rfl ?_
      refine bEqI bl_0 ?_
      refine bGo hA 1 11 (45, .goto (4), 3, 28, 29, [], []) rfl rfl rfl ?_
      refine bGo hA 1 13 (49, .aload_n 1, 1, 30, 0, [1], []) rfl rfl rfl ?_
      refine bGo hA 1 14 (50, .invokevirtual 33, 3, 31, 0, [0, 1, 18, 2], []) rfl rfl rfl ?_
      refine ⟨h_a0, ?_⟩
      refine hC _ _ _ _ _ (bRv_e (fun s18 k19 => ?_)) ((k2.2 c5).1 c17)
      show A (31, [.ref a0, .ref a1, .int (bn r3)], [], s18)
      refine bGo hA 1 15 (53, .return_, 1, 0, 0, [0], []) rfl rfl rfl ?_
      exact k19
    · refine bGo hA 1 12 (48, .iload_n 2, 1, 29, 0, [2], []) rfl rfl rfl ?_
      refine bGo hA 1 13 (49, .aload_n 1, 1, 30, 0, [1], []) rfl rfl rfl ?_
      refine bGo hA 1 14 (50, .invokevirtual 33, 3, 31, 0, [0, 1, 18, 2], []) rfl rfl rfl ?_
      refine ⟨h_a0, ?_⟩
      refine hC _ _ _ _ _ (bRv_e (fun s20 k21 => ?_)) ((k2.2 c5).2 c17)
      show A (31, [.ref a0, .ref a1, .int (bn r3)], [], s20)
      refine bGo hA 1 15 (53, .return_, 1, 0, 0, [0], []) rfl rfl rfl ?_
      exact k21

theorem sq18_0 {lvl : Nat} {C : bCall} {Q : bPost} {A : bPt → Prop} (hC : bMono C) (hA : bClosed lvl bm18 C Q A) {a0 : Nat} {x1 : Int} {a2 : Nat} {σ : bSt} (h_a0 : a0 % 256 = 1) (h_a2 : a2 % 256 = 4) (h_x1 : bRg x1)
  (h : ((x1 < 0 → Q (.inl none) σ) ∧ (¬ x1 < 0 → ((x1 < (bi σ a0 0) → (¬ bTy (256 * (1 * (a0 / 256) + 0) + 14) = 9 ∧ (bRg (bLen σ (256 * (1 * (a0 / 256) + 0) + 14) : Int) ∧ (((bLen σ (256 * (1 * (a0 / 256) + 0) + 14) : Int) < (bi σ a0 0) → Q (.inl none) σ) ∧ (¬ (bLen σ (256 * (1 * (a0 / 256) + 0) + 14) : Int) < (bi σ a0 0) → (bTy (256 * (1 * (a0 / 256) + 0) + 14) = 14 ∧ ((0 ≤ x1 ∧ x1 < (bLen σ (256 * (1 * (a0 / 256) + 0) + 14) : Int)) ∧ ((br σ (256 * (1 * (a0 / 256) + 0) + 14) x1 = none → A (20, [.ref a0, .int (bn x1), .ref a2, .null, .int (bn x1)], [], σ)) ∧ (∀ z4 : Nat, br σ (256 * (1 * (a0 / 256) + 0) + 14) x1 = some z4 → A (20, [.ref a0, .int (bn x1), .ref a2, .ref z4, .int (bn x1)], [], σ)))))))))) ∧ (¬ x1 < (bi σ a0 0) → Q (.inl none) σ))))) : A (0, [.ref a0, .int (bn x1), .ref a2, .float 0, .float 0], [], σ) := by
  refine bGo hA 0 0 (0, .iload_n 1, 1, 1, 0, [1], []) rfl rfl rfl ?_
  refine bGo hA 0 1 (1, .ifCond .lt (23), 3, 2, 12, [], []) rfl rfl rfl ?_
  refine bB_lt0 (x := x1) h_x1 (fun c1 => ?_) (fun c1 => ?_)
  · refine bGo hA 0 12 (24, .return_, 1, 13, 0, [0], []) rfl rfl rfl ?_
    exact (h.1 c1)
  · refine bGo hA 0 2 (4, .iload_n 1, 1, 3, 0, [1], []) rfl rfl rfl ?_
    refine bGo hA 0 3 (5, .aload_n 0, 1, 4, 0, [0], []) rfl rfl rfl ?_
    refine bGo hA 0 4 (6, .getfield 21, 3, 5, 0, [1, 0, 0, 0, 0, 0], []) rfl rfl rfl ?_
    refine ⟨h_a0, ?_⟩
    refine bEqI (bn_bi σ a0 0) ?_
    refine bGo hA 0 5 (9, .if_icmp .ge (15), 3, 6, 12, [], []) rfl rfl rfl ?_
    refine bB_lt (x := x1) (y := (bi σ a0 0)) h_x1 (bi_rg _ _ _) (fun c2 => ?_) (fun c2 => ?_)
    · refine bGo hA 0 6 (12, .aload_n 0, 1, 7, 0, [0], []) rfl rfl rfl ?_
      refine bGo hA 0 7 (13, .getfield 21, 3, 8, 0, [1, 0, 0, 0, 0, 0], []) rfl rfl rfl ?_
      refine ⟨h_a0, ?_⟩
      refine bEqI (bn_bi σ a0 0) ?_
      refine bGo hA 0 8 (16, .aload_n 0, 1, 9, 0, [0], []) rfl rfl rfl ?_
      refine bGo hA 0 9 (17, .getfield 17, 3, 10, 0, [1, 1, 3, 14, 1, 0], []) rfl rfl rfl ?_
      refine ⟨h_a0, ?_⟩
      refine bGo hA 0 10 (20, .arraylength, 1, 11, 0, [], []) rfl rfl rfl ?_
      refine ⟨((h.2 c1).1 c2).1, ?_⟩
      refine bEqI (bn_nat _).symm ?_
      refine bGo hA 0 11 (21, .if_icmp .le (4), 3, 12, 13, [], []) rfl rfl rfl ?_
      refine bB_lt (x := (bLen σ (256 * (1 * (a0 / 256) + 0) + 14) : Int)) (y := (bi σ a0 0)) ((h.2 c1).1 c2).2.1 (bi_rg _ _ _) (fun c3 => ?_) (fun c3 => ?_)
      · refine bGo hA 0 12 (24, .return_, 1, 13, 0, [0], []) rfl rfl rfl ?_
        exact (((h.2 c1).1 c2).2.2.1 c3)
      · refine bGo hA 0 13 (25, .aload_n 0, 1, 14, 0, [0], []) rfl rfl rfl ?_
        refine bGo hA 0 14 (26, .getfield 17, 3, 15, 0, [1, 1, 3, 14, 1, 0], []) rfl rfl rfl ?_
        refine ⟨h_a0, ?_⟩
        refine bGo hA 0 15 (29, .iload_n 1, 1, 16, 0, [1], []) rfl rfl rfl ?_
        refine bGo hA 1 0 (30, .aaload, 1, 17, 0, [14, 4], []) rfl rfl rfl ?_
        refine ⟨(((h.2 c1).1 c2).2.2.2 c3).1, (bIxP (x := x1) (n := bLen σ (256 * (1 * (a0 / 256) + 0) + 14)) h_x1 (((h.2 c1).1 c2).2.2.2 c3).2.1), ?_⟩
        refine bOptX (P := fun v => A (17, [.ref a0, .int (bn x1), .ref a2, .float 0, .float 0], v :: [], σ)) (a := (256 * (1 * (a0 / 256) + 0) + 14)) (x := x1) h_x1 (fun c5 => ?_) (fun z4 c5 => ?_)
        · refine bGo hA 1 1 (31, .astore_n 3, 1, 18, 0, [3], []) rfl rfl rfl ?_
          refine bGo hA 1 2 (32, .iload_n 1, 1, 19, 0, [1], []) rfl rfl rfl ?_
          refine bGo hA 1 3 (33, .istore 4, 2, 20, 0, [4], []) rfl rfl rfl ?_
          exact ((((h.2 c1).1 c2).2.2.2 c3).2.2.1 c5)
        · refine bGo hA 1 1 (31, .astore_n 3, 1, 18, 0, [3], []) rfl rfl rfl ?_
          refine bGo hA 1 2 (32, .iload_n 1, 1, 19, 0, [1], []) rfl rfl rfl ?_
          refine bGo hA 1 3 (33, .istore 4, 2, 20, 0, [4], []) rfl rfl rfl ?_
          exact ((((h.2 c1).1 c2).2.2.2 c3).2.2.2 z4 c5)
    · refine bGo hA 0 12 (24, .return_, 1, 13, 0, [0], []) rfl rfl rfl ?_
      exact ((h.2 c1).2 c2)

theorem sq18_20 {lvl : Nat} {C : bCall} {Q : bPost} {A : bPt → Prop} (hC : bMono C) (hA : bClosed lvl bm18 C Q A) {l0 : Nat} {v1 : Value} {l2 : Nat} {l4 : Int} {σ : bSt}  (h_l4 : bRg l4)
  (h : (bRg (l4 + 1) ∧ (l0 % 256 = 1 ∧ (((l4 + 1) < (bi σ l0 0) → (bTy (256 * (1 * (l0 / 256) + 0) + 14) = 14 ∧ ((0 ≤ (l4 + 1) ∧ (l4 + 1) < (bLen σ (256 * (1 * (l0 / 256) + 0) + 14) : Int)) ∧ ((br σ (256 * (1 * (l0 / 256) + 0) + 14) (l4 + 1) = none → ((0 ≤ l4 ∧ l4 < (bLen σ (256 * (1 * (l0 / 256) + 0) + 14) : Int)) ∧ ((256 * (1 * (l0 / 256) + 0) + 14) % 256 < 200 ∧ A (20, [.ref l0, v1, .ref l2, .null, .int (bn (l4 + 1))], [], (bwr σ (256 * (1 * (l0 / 256) + 0) + 14) l4 none))))) ∧ (∀ z2 : Nat, br σ (256 * (1 * (l0 / 256) + 0) + 14) (l4 + 1) = some z2 → ((0 ≤ l4 ∧ l4 < (bLen σ (256 * (1 * (l0 / 256) + 0) + 14) : Int)) ∧ ((256 * (1 * (l0 / 256) + 0) + 14) % 256 < 200 ∧ (z2 % 256 = 4 ∧ A (20, [.ref l0, v1, .ref l2, .null, .int (bn (l4 + 1))], [], (bwr σ (256 * (1 * (l0 / 256) + 0) + 14) l4 (some z2))))))))))) ∧ (¬ (l4 + 1) < (bi σ l0 0) → (σ.2.2.2.1 (256 * (1000 + σ.2.2.2.2.1) + 4) = 0 ∧ ((256 * (1000 + σ.2.2.2.2.1) + 4) % 256 = 4 ∧ (C 37 [.retAddr (256 * (1000 + σ.2.2.2.2.1) + 4)] (bNew σ (256 * (1000 + σ.2.2.2.2.1) + 4) 1 9) (bRv (fun s4 => (s4.2.2.2.1 (256 * (1000 + σ.2.2.2.2.1) + 4) = 2 ∧ (C 44 [.ref (256 * (1000 + σ.2.2.2.2.1) + 4), .ref l2] s4 (bRv (fun s6 => (bRg ((bi s6 l0 0) - 1) ∧ (bTy (256 * (1 * (l0 / 256) + 0) + 14) = 14 ∧ ((0 ≤ ((bi s6 l0 0) - 1) ∧ ((bi s6 l0 0) - 1) < (bLen s6 (256 * (1 * (l0 / 256) + 0) + 14) : Int)) ∧ ((256 * (1 * (l0 / 256) + 0) + 14) % 256 < 200 ∧ Q (.inl none) (bwr s6 (256 * (1 * (l0 / 256) + 0) + 14) ((bi s6 l0 0) - 1) (some (256 * (1000 + σ.2.2.2.2.1) + 4))))))))))))))))))))) : A (20, [.ref l0, v1, .ref l2, .null, .int (bn l4)], [], σ) := by
  refine bGo hA 1 4 (35, .iload 4, 2, 21, 0, [4], []) rfl rfl rfl ?_
  refine bGo hA 1 5 (37, .iconst (1), 1, 22, 0, [], [(1, 0)]) rfl rfl rfl ?_
  refine bEqI bl_1 ?_
  refine bGo hA 1 6 (38, .iadd, 1, 23, 0, [], []) rfl rfl rfl ?_
  refine bEqI (bn_add l4 1) ?_
  refine bGo hA 1 7 (39, .aload_n 0, 1, 24, 0, [0], []) rfl rfl rfl ?_
  refine bGo hA 1 8 (40, .getfield 21, 3, 25, 0, [1, 0, 0, 0, 0, 0], []) rfl rfl rfl ?_
  refine ⟨h.2.1, ?_⟩
  refine bEqI (bn_bi σ l0 0) ?_
  refine bGo hA 1 9 (43, .if_icmp .ge (25), 3, 26, 38, [], []) rfl rfl rfl ?_
  refine bB_lt (x := (l4 + 1)) (y := (bi σ l0 0)) h.1 (bi_rg _ _ _) (fun c1 => ?_) (fun c1 => ?_)
  · refine bGo hA 1 10 (46, .aload_n 0, 1, 27, 0, [0], []) rfl rfl rfl ?_
    refine bGo hA 1 11 (47, .getfield 17, 3, 28, 0, [1, 1, 3, 14, 1, 0], []) rfl rfl rfl ?_
    refine ⟨h.2.1, ?_⟩
    refine bGo hA 1 12 (50, .iload 4, 2, 29, 0, [4], []) rfl rfl rfl ?_
    refine bGo hA 1 13 (52, .aload_n 0, 1, 30, 0, [0], []) rfl rfl rfl ?_
    refine bGo hA 1 14 (53, .getfield 17, 3, 31, 0, [1, 1, 3, 14, 1, 0], []) rfl rfl rfl ?_
    refine ⟨h.2.1, ?_⟩
    refine bGo hA 1 15 (56, .iload 4, 2, 32, 0, [4], []) rfl rfl rfl ?_
    refine bGo hA 2 0 (58, .iconst (1), 1, 33, 0, [], [(1, 0)]) rfl rfl rfl ?_
    refine bEqI bl_1 ?_
    refine bGo hA 2 1 (59, .iadd, 1, 34, 0, [], []) rfl rfl rfl ?_
    refine bEqI (bn_add l4 1) ?_
    refine bGo hA 2 2 (60, .aaload, 1, 35, 0, [14, 4], []) rfl rfl rfl ?_
    refine ⟨(h.2.2.1 c1).1, (bIxP (x := (l4 + 1)) (n := bLen σ (256 * (1 * (l0 / 256) + 0) + 14)) h.1 (h.2.2.1 c1).2.1), ?_⟩
    refine bOptX (P := fun v => A (35, [.ref l0, v1, .ref l2, .null, .int (bn l4)], v :: [.int (bn l4), .ref (256 * (1 * (l0 / 256) + 0) + 14)], σ)) (a := (256 * (1 * (l0 / 256) + 0) + 14)) (x := (l4 + 1)) h.1 (fun c3 => ?_) (fun z2 c3 => ?_)
    · refine bGo hA 2 3 (61, .aastore, 1, 36, 0, [14, 4], []) rfl rfl rfl ?_
      refine ⟨(h.2.2.1 c1).1, (bIxP (x := l4) (n := bLen σ (256 * (1 * (l0 / 256) + 0) + 14)) h_l4 ((h.2.2.1 c1).2.2.1 c3).1), ((h.2.2.1 c1).2.2.1 c3).2.1, (fun _ h => by cases h), ?_⟩
      refine bEqSR (x := l4) h_l4 ?_
      refine bGo hA 2 4 (62, .iinc 4 (1), 3, 37, 0, [4], [(1, 0)]) rfl rfl rfl ?_
      refine bEqC (fun v => A (37, [.ref l0, v1, .ref l2, .null, .int v], [], (bwr σ (256 * (1 * (l0 / 256) + 0) + 14) l4 none))) ((congrArg (fun w => bn l4 + w) bl_1).trans (bn_add l4 1)) ?_
      refine bGo hA 2 5 (65, .goto (-30), 3, 38, 20, [], []) rfl rfl rfl ?_
      exact ((h.2.2.1 c1).2.2.1 c3).2.2
    · refine bGo hA 2 3 (61, .aastore, 1, 36, 0, [14, 4], []) rfl rfl rfl ?_
      refine ⟨(h.2.2.1 c1).1, (bIxP (x := l4) (n := bLen σ (256 * (1 * (l0 / 256) + 0) + 14)) h_l4 ((h.2.2.1 c1).2.2.2 z2 c3).1), ((h.2.2.1 c1).2.2.2 z2 c3).2.1, (fun _ h => by cases h; exact ((h.2.2.1 c1).2.2.2 z2 c3).2.2.1), ?_⟩
      refine bEqSR (x := l4) h_l4 ?_
      refine bGo hA 2 4 (62, .iinc 4 (1), 3, 37, 0, [4], [(1, 0)]) rfl rfl rfl ?_
      refine bEqC (fun v => A (37, [.ref l0, v1, .ref l2, .null, .int v], [], (bwr σ (256 * (1 * (l0 / 256) + 0) + 14) l4 (some z2)))) ((congrArg (fun w => bn l4 + w) bl_1).trans (bn_add l4 1)) ?_
      refine bGo hA 2 5 (65, .goto (-30), 3, 38, 20, [], []) rfl rfl rfl ?_
      exact ((h.2.2.1 c1).2.2.2 z2 c3).2.2.2
  · refine bGo hA 2 6 (68, .aload_n 3, 1, 39, 0, [3], []) rfl rfl rfl ?_
    refine bGo hA 2 7 (69, .ifnonnull (13), 3, 40, 44, [], []) rfl rfl rfl ?_
    refine bGo hA 2 8 (72, .new 15, 3, 41, 0, [3, 4, 9, 0, 0], []) rfl rfl rfl ?_
    refine ⟨(h.2.2.2 c1).1, ?_⟩
    refine bGo hA 2 9 (75, .dup, 1, 42, 0, [], []) rfl rfl rfl ?_
    refine bGo hA 2 10 (76, .invokespecial 37, 3, 43, 1, [4, 4, 37, 0], []) rfl rfl rfl ?_
    refine ⟨(h.2.2.2 c1).2.1, rfl, ?_⟩
    refine hC _ _ _ _ _ (bRv_e (fun s4 k5 => ?_)) (h.2.2.2 c1).2.2
    refine ⟨⟨rfl, k5.1⟩, ?_⟩
    show A (43, [.ref l0, v1, .ref l2, .null, .int (bn l4)], [.ref (256 * (1000 + σ.2.2.2.2.1) + 4)], s4)
    refine bGo hA 2 11 (79, .goto (4), 3, 44, 45, [], []) rfl rfl rfl ?_
    refine bGo hA 2 13 (83, .astore 4, 2, 46, 0, [4], []) rfl rfl rfl ?_
    refine bGo hA 2 14 (85, .aload 4, 2, 47, 0, [4], []) rfl rfl rfl ?_
    refine bGo hA 2 15 (87, .aload_n 2, 1, 48, 0, [2], []) rfl rfl rfl ?_
    refine bGo hA 3 0 (88, .invokevirtual 38, 3, 49, 0, [0, 4, 44, 1], []) rfl rfl rfl ?_
    refine ⟨(h.2.2.2 c1).2.1, ?_⟩
    refine hC _ _ _ _ _ (bRv_e (fun s6 k7 => ?_)) k5.2
    show A (49, [.ref l0, v1, .ref l2, .null, .ref (256 * (1000 + σ.2.2.2.2.1) + 4)], [], s6)
    refine bGo hA 3 1 (91, .aload_n 0, 1, 50, 0, [0], []) rfl rfl rfl ?_
    refine bGo hA 3 2 (92, .getfield 17, 3, 51, 0, [1, 1, 3, 14, 1, 0], []) rfl rfl rfl ?_
    refine ⟨h.2.1, ?_⟩
    refine bGo hA 3 3 (95, .aload_n 0, 1, 52, 0, [0], []) rfl rfl rfl ?_
    refine bGo hA 3 4 (96, .getfield 21, 3, 53, 0, [1, 0, 0, 0, 0, 0], []) rfl rfl rfl ?_
    refine ⟨h.2.1, ?_⟩
    refine bEqI (bn_bi s6 l0 0) ?_
    refine bGo hA 3 5 (99, .iconst (1), 1, 54, 0, [], [(1, 0)]) rfl rfl rfl ?_
    refine bEqI bl_1 ?_
    refine bGo hA 3 6 (100, .isub, 1, 55, 0, [], []) rfl rfl rfl ?_
    refine bEqI (bn_sub (bi s6 l0 0) 1) ?_
    refine bGo hA 3 7 (101, .aload 4, 2, 56, 0, [4], []) rfl rfl rfl ?_
    refine bGo hA 3 8 (103, .aastore, 1, 57, 0, [14, 4], []) rfl rfl rfl ?_
    refine ⟨k7.2.1, (bIxP (x := ((bi s6 l0 0) - 1)) (n := bLen s6 (256 * (1 * (l0 / 256) + 0) + 14)) k7.1 k7.2.2.1), k7.2.2.2.1, (fun _ h => by cases h; exact (h.2.2.2 c1).2.1), ?_⟩
    refine bEqSR (x := ((bi s6 l0 0) - 1)) k7.1 ?_
    refine bGo hA 3 9 (104, .return_, 1, 0, 0, [0], []) rfl rfl rfl ?_
    exact k7.2.2.2.2

theorem sq21_0 {lvl : Nat} {C : bCall} {Q : bPost} {A : bPt → Prop} (hC : bMono C) (hA : bClosed lvl bm21 C Q A) {a0 : Nat} {x1 : Int} {σ : bSt} (h_a0 : a0 % 256 = 1) (h_x1 : bRg x1)
  (h : ((x1 < 0 → Q (.inl none) σ) ∧ (¬ x1 < 0 → (¬ bTy (256 * (1 * (a0 / 256) + 0) + 15) = 9 ∧ (bRg (bLen σ (256 * (1 * (a0 / 256) + 0) + 15) : Int) ∧ ((x1 < (bLen σ (256 * (1 * (a0 / 256) + 0) + 15) : Int) → (bTy (256 * (1 * (a0 / 256) + 0) + 15) = 1 ∧ ((0 ≤ x1 ∧ x1 < (bLen σ (256 * (1 * (a0 / 256) + 0) + 15) : Int)) ∧ ((256 * (1 * (a0 / 256) + 0) + 15) % 256 < 200 ∧ Q (.inl none) (bw σ (256 * (1 * (a0 / 256) + 0) + 15) x1 1))))) ∧ (¬ x1 < (bLen σ (256 * (1 * (a0 / 256) + 0) + 15) : Int) → Q (.inl none) σ))))))) : A (0, [.ref a0, .int (bn x1)], [], σ) := by
  refine bGo hA 0 0 (0, .iload_n 1, 1, 1, 0, [1], []) rfl rfl rfl ?_
  refine bGo hA 0 1 (1, .ifCond .lt (19), 3, 2, 12, [], []) rfl rfl rfl ?_
  refine bB_lt0 (x := x1) h_x1 (fun c1 => ?_) (fun c1 => ?_)
  · refine bGo hA 0 12 (20, .return_, 1, 0, 0, [0], []) rfl rfl rfl ?_
    exact (h.1 c1)
  · refine bGo hA 0 2 (4, .iload_n 1, 1, 3, 0, [1], []) rfl rfl rfl ?_
    refine bGo hA 0 3 (5, .aload_n 0, 1, 4, 0, [0], []) rfl rfl rfl ?_
    refine bGo hA 0 4 (6, .getfield 9, 3, 5, 0, [1, 2, 3, 15, 1, 0], []) rfl rfl rfl ?_
    refine ⟨h_a0, ?_⟩
    refine bGo hA 0 5 (9, .arraylength, 1, 6, 0, [], []) rfl rfl rfl ?_
    refine ⟨(h.2 c1).1, ?_⟩
    refine bEqI (bn_nat _).symm ?_
    refine bGo hA 0 6 (10, .if_icmp .ge (10), 3, 7, 12, [], []) rfl rfl rfl ?_
    refine bB_lt (x := x1) (y := (bLen σ (256 * (1 * (a0 / 256) + 0) + 15) : Int)) h_x1 (h.2 c1).2.1 (fun c2 => ?_) (fun c2 => ?_)
    · refine bGo hA 0 7 (13, .aload_n 0, 1, 8, 0, [0], []) rfl rfl rfl ?_
      refine bGo hA 0 8 (14, .getfield 9, 3, 9, 0, [1, 2, 3, 15, 1, 0], []) rfl rfl rfl ?_
      refine ⟨h_a0, ?_⟩
      refine bGo hA 0 9 (17, .iload_n 1, 1, 10, 0, [1], []) rfl rfl rfl ?_
      refine bGo hA 0 10 (18, .iconst (1), 1, 11, 0, [], [(1, 0)]) rfl rfl rfl ?_
      refine bEqI bl_1 ?_
      refine bGo hA 0 11 (19, .bastore, 1, 12, 0, [], []) rfl rfl rfl ?_
      refine ⟨((h.2 c1).2.2.1 c2).1, (bIxP (x := x1) (n := bLen σ (256 * (1 * (a0 / 256) + 0) + 15)) h_x1 ((h.2 c1).2.2.1 c2).2.1), ((h.2 c1).2.2.1 c2).2.2.1, b01 (Or.inr rfl), ?_⟩
      refine bEqS (x := x1) h_x1 ?_
      refine bGo hA 0 12 (20, .return_, 1, 0, 0, [0], []) rfl rfl rfl ?_
      exact ((h.2 c1).2.2.1 c2).2.2.2
    · refine bGo hA 0 12 (20, .return_, 1, 0, 0, [0], []) rfl rfl rfl ?_
      exact ((h.2 c1).2.2.2 c2)

theorem sq25_0 {lvl : Nat} {C : bCall} {Q : bPost} {A : bPt → Prop} (hC : bMono C) (hA : bClosed lvl bm25 C Q A) {x1 : Int} {x2 : Int} {σ : bSt}  (h_x1 : bRg x1) (h_x2 : bRg x2)
  (h : (C 140 [.ref 16, .int (bn x1)] σ (bRn (fun r3 s1 => (bRg (r3 - 1) ∧ A (9, [.ref 2, .int (bn x1), .int (bn x2), .int (bn (-1)), .int (bn (r3 - 1)), .float 0, .float 0], [], s1)))))) : A (0, [.ref 2, .int (bn x1), .int (bn x2), .float 0, .float 0, .float 0, .float 0], [], σ) := by
  refine bGo hA 0 0 (0, .iconst (-1), 1, 1, 0, [], [(-1, 0)]) rfl rfl rfl ?_
  refine bEqI bl_m1 ?_
  refine bGo hA 0 1 (1, .istore_n 3, 1, 2, 0, [3], []) rfl rfl rfl ?_
  refine bGo hA 0 2 (2, .aload_n 0, 1, 3, 0, [0], []) rfl rfl rfl ?_
  refine bGo hA 0 3 (3, .getfield 9, 3, 4, 0, [2, 0, 3, 16, 1, 0], []) rfl rfl rfl ?_
  refine ⟨rfl, ?_⟩
  refine bGo hA 0 4 (6, .iload_n 1, 1, 5, 0, [1], []) rfl rfl rfl ?_
  refine bGo hA 0 5 (7, .invokestatic 28, 3, 6, 1, [2, 140, 2], []) rfl rfl rfl ?_
  refine hC _ _ _ _ _ (bRn_e (fun r3 s1 q4 k2 => ?_)) h
  show A (6, [.ref 2, .int (bn x1), .int (bn x2), .int (bn (-1)), .float 0, .float 0, .float 0], [.int (bn r3)], s1)
  refine bGo hA 0 6 (10, .iconst (1), 1, 7, 0, [], [(1, 0)]) rfl rfl rfl ?_
  refine bEqI bl_1 ?_
  refine bGo hA 0 7 (11, .isub, 1, 8, 0, [], []) rfl rfl rfl ?_
  refine bEqI (bn_sub r3 1) ?_
  refine bGo hA 0 8 (12, .istore 4, 2, 9, 0, [4], []) rfl rfl rfl ?_
  exact k2.2

theorem sq25_9 {lvl : Nat} {C : bCall} {Q : bPost} {A : bPt → Prop} (hC : bMono C) (hA : bClosed lvl bm25 C Q A) {l1 : Int} {l2 : Int} {l3 : Int} {l4 : Int} {v5 : Value} {v6 : Value} {σ : bSt}  (h_l1 : bRg l1) (h_l2 : bRg l2) (h_l3 : bRg l3) (h_l4 : bRg l4)
  (h : ((l4 < 0 → Q (.inl (some (.int (bn l3)))) σ) ∧ (¬ l4 < 0 → (bRg (l1 * 4) ∧ (bRg ((l1 * 4) + l4) ∧ ((l3 = (-1) → (C 27 [.ref 2, .int (bn ((l1 * 4) + l4))] σ (bRn (fun r6 s4 => ((r6 = 0 → (bRg (l4 + (-1)) ∧ A (9, [.ref 2, .int (bn l1), .int (bn l2), .int (bn ((l1 * 4) + l4)), .int (bn (l4 + (-1))), .int (bn ((l1 * 4) + l4)), .int (bn 1)], [], s4))) ∧ (¬ r6 = 0 → (bRg (l4 + (-1)) ∧ A (9, [.ref 2, .int (bn l1), .int (bn l2), .int (bn l3), .int (bn (l4 + (-1))), .int (bn ((l1 * 4) + l4)), .int (bn 1)], [], s4)))))))) ∧ (¬ l3 = (-1) → (C 26 [.ref 2, .int (bn ((l1 * 4) + l4)), .int (bn l2)] σ (bRn (fun r11 s9 => ((r11 = 0 → (C 26 [.ref 2, .int (bn l3), .int (bn l2)] s9 (bRn (fun r16 s14 => ((r16 = 0 → (C 27 [.ref 2, .int (bn ((l1 * 4) + l4))] s14 (bRn (fun r22 s20 => ((r22 = 0 → (bRg (l4 + (-1)) ∧ A (9, [.ref 2, .int (bn l1), .int (bn l2), .int (bn ((l1 * 4) + l4)), .int (bn (l4 + (-1))), .int (bn ((l1 * 4) + l4)), .int (bn 1)], [], s20))) ∧ (¬ r22 = 0 → (bRg (l4 + (-1)) ∧ A (9, [.ref 2, .int (bn l1), .int (bn l2), .int (bn l3), .int (bn (l4 + (-1))), .int (bn ((l1 * 4) + l4)), .int (bn 1)], [], s20)))))))) ∧ (¬ r16 = 0 → (bRg (l4 + (-1)) ∧ A (9, [.ref 2, .int (bn l1), .int (bn l2), .int (bn l3), .int (bn (l4 + (-1))), .int (bn ((l1 * 4) + l4)), .int (bn 0)], [], s14)))))))) ∧ (¬ r11 = 0 → (C 27 [.ref 2, .int (bn ((l1 * 4) + l4))] s9 (bRn (fun r29 s27 => ((r29 = 0 → (bRg (l4 + (-1)) ∧ A (9, [.ref 2, .int (bn l1), .int (bn l2), .int (bn ((l1 * 4) + l4)), .int (bn (l4 + (-1))), .int (bn ((l1 * 4) + l4)), .int (bn 1)], [], s27))) ∧ (¬ r29 = 0 → (bRg (l4 + (-1)) ∧ A (9, [.ref 2, .int (bn l1), .int (bn l2), .int (bn l3), .int (bn (l4 + (-1))), .int (bn ((l1 * 4) + l4)), .int (bn 1)], [], s27))))))))))))))))))) : A (9, [.ref 2, .int (bn l1), .int (bn l2), .int (bn l3), .int (bn l4), v5, v6], [], σ) := by
  refine bGo hA 0 9 (14, .iload 4, 2, 10, 0, [4], []) rfl rfl rfl ?_
  refine bGo hA 0 10 (16, .ifCond .lt (65), 3, 11, 44, [], []) rfl rfl rfl ?_
  refine bB_lt0 (x := l4) h_l4 (fun c1 => ?_) (fun c1 => ?_)
  · refine bGo hA 2 12 (81, .iload_n 3, 1, 45, 0, [3], []) rfl rfl rfl ?_
    refine bGo hA 2 13 (82, .ireturn, 1, 0, 0, [1], []) rfl rfl rfl ?_
    exact (h.1 c1)
  · refine bGo hA 0 11 (19, .iload_n 1, 1, 12, 0, [1], []) rfl rfl rfl ?_
    refine bGo hA 0 12 (20, .iconst (4), 1, 13, 0, [], [(4, 0)]) rfl rfl rfl ?_
    refine bEqI bl_4 ?_
    refine bGo hA 0 13 (21, .imul, 1, 14, 0, [], []) rfl rfl rfl ?_
    refine bEqI (bn_mul l1 4) ?_
    refine bGo hA 0 14 (22, .iload 4, 2, 15, 0, [4], []) rfl rfl rfl ?_
    refine bGo hA 0 15 (24, .iadd, 1, 16, 0, [], []) rfl rfl rfl ?_
    refine bEqI (bn_add (l1 * 4) l4) ?_
    refine bGo hA 1 0 (25, .istore 5, 2, 17, 0, [5], []) rfl rfl rfl ?_
    refine bGo hA 1 1 (27, .iload_n 3, 1, 18, 0, [3], []) rfl rfl rfl ?_
    refine bGo hA 1 2 (28, .iconst (-1), 1, 19, 0, [], [(-1, 0)]) rfl rfl rfl ?_
    refine bEqI bl_m1 ?_
    refine bGo hA 1 3 (29, .if_icmp .eq (22), 3, 20, 30, [], []) rfl rfl rfl ?_
    refine bB_eq (x := l3) (y := (-1)) h_l3 (by decide : bRg (-1)) (fun c2 => ?_) (fun c2 => ?_)
    · refine bGo hA 1 14 (51, .iconst (1), 1, 31, 0, [], [(1, 0)]) rfl rfl rfl ?_
      refine bEqI bl_1 ?_
      refine bGo hA 1 15 (52, .goto (4), 3, 32, 33, [], []) rfl rfl rfl ?_
      refine bGo hA 2 1 (56, .istore 6, 2, 34, 0, [6], []) rfl rfl rfl ?_
      refine bGo hA 2 2 (58, .iload 6, 2, 35, 0, [6], []) rfl rfl rfl ?_
      refine bGo hA 2 3 (60, .ifCond .eq (15), 3, 36, 42, [], []) rfl rfl rfl ?_
      refine ⟨fun c => absurd c (by decide), fun _ => ?_⟩
      refine bGo hA 2 4 (63, .aload_n 0, 1, 37, 0, [0], []) rfl rfl rfl ?_
      refine bGo hA 2 5 (64, .iload 5, 2, 38, 0, [5], []) rfl rfl rfl ?_
      refine bGo hA 2 6 (66, .invokevirtual 40, 3, 39, 0, [0, 2, 27, 1], []) rfl rfl rfl ?_
      refine ⟨rfl, ?_⟩
      refine hC _ _ _ _ _ (bRn_e (fun r6 s4 q7 k5 => ?_)) ((h.2 c1).2.2.1 c2)
      show A (39, [.ref 2, .int (bn l1), .int (bn l2), .int (bn l3), .int (bn l4), .int (bn ((l1 * 4) + l4)), .int (bn 1)], [.int (bn r6)], s4)
      refine bGo hA 2 7 (69, .ifCond .ne (6), 3, 40, 42, [], []) rfl rfl rfl ?_
      refine bB_eq0 (x := r6) q7 (fun c8 => ?_) (fun c8 => ?_)
      · refine bGo hA 2 8 (72, .iload 5, 2, 41, 0, [5], []) rfl rfl rfl ?_
        refine bGo hA 2 9 (74, .istore_n 3, 1, 42, 0, [3], []) rfl rfl rfl ?_
        refine bGo hA 2 10 (75, .iinc 4 (-1), 3, 43, 0, [4], [(-1, 0)]) rfl rfl rfl ?_
        refine bEqC (fun v => A (43, [.ref 2, .int (bn l1), .int (bn l2), .int (bn ((l1 * 4) + l4)), .int v, .int (bn ((l1 * 4) + l4)), .int (bn 1)], [], s4)) ((congrArg (fun w => bn l4 + w) bl_m1).trans (bn_add l4 (-1))) ?_
        refine bGo hA 2 11 (78, .goto (-64), 3, 44, 9, [], []) rfl rfl rfl ?_
        exact (k5.1 c8).2
      · refine bGo hA 2 10 (75, .iinc 4 (-1), 3, 43, 0, [4], [(-1, 0)]) rfl rfl rfl ?_
        refine bEqC (fun v => A (43, [.ref 2, .int (bn l1), .int (bn l2), .int (bn l3), .int v, .int (bn ((l1 * 4) + l4)), .int (bn 1)], [], s4)) ((congrArg (fun w => bn l4 + w) bl_m1).trans (bn_add l4 (-1))) ?_
        refine bGo hA 2 11 (78, .goto (-64), 3, 44, 9, [], []) rfl rfl rfl ?_
        exact (k5.2 c8).2
    · refine bGo hA 1 4 (32, .aload_n 0, 1, 21, 0, [0], []) rfl rfl rfl ?_
      refine bGo hA 1 5 (33, .iload 5, 2, 22, 0, [5], []) rfl rfl rfl ?_
      refine bGo hA 1 6 (35, .iload_n 2, 1, 23, 0, [2], []) rfl rfl rfl ?_
      refine bGo hA 1 7 (36, .invokevirtual 36, 3, 24, 0, [0, 2, 26, 2], []) rfl rfl rfl ?_
      refine ⟨rfl, ?_⟩
      refine hC _ _ _ _ _ (bRn_e (fun r11 s9 q12 k10 => ?_)) ((h.2 c1).2.2.2 c2)
      show A (24, [.ref 2, .int (bn l1), .int (bn l2), .int (bn l3), .int (bn l4), .int (bn ((l1 * 4) + l4)), v6], [.int (bn r11)], s9)
      refine bGo hA 1 8 (39, .ifCond .ne (12), 3, 25, 30, [], []) rfl rfl rfl ?_
      refine bB_eq0 (x := r11) q12 (fun c13 => ?_) (fun c13 => ?_)
      · refine bGo hA 1 9 (42, .aload_n 0, 1, 26, 0, [0], []) rfl rfl rfl ?_
        refine bGo hA 1 10 (43, .iload_n 3, 1, 27, 0, [3], []) rfl rfl rfl ?_
        refine bGo hA 1 11 (44, .iload_n 2, 1, 28, 0, [2], []) rfl rfl rfl ?_
        refine bGo hA 1 12 (45, .invokevirtual 36, 3, 29, 0, [0, 2, 26, 2], []) rfl rfl rfl ?_
        refine ⟨rfl, ?_⟩
        refine hC _ _ _ _ _ (bRn_e (fun r16 s14 q17 k15 => ?_)) (k10.1 c13)
        show A (29, [.ref 2, .int (bn l1), .int (bn l2), .int (bn l3), .int (bn l4), .int (bn ((l1 * 4) + l4)), v6], [.int (bn r16)], s14)
        refine bGo hA 1 13 (48, .ifCond .ne (7), 3, 30, 32, [], []) rfl rfl rfl ?_
        refine bB_eq0 (x := r16) q17 (fun c18 => ?_) (fun c18 => ?_)
        · refine bGo hA 1 14 (51, .iconst (1), 1, 31, 0, [], [(1, 0)]) rfl rfl rfl ?_
          refine bEqI bl_1 ?_
          refine bGo hA 1 15 (52, .goto (4), 3, 32, 33, [], []) rfl rfl rfl ?_
          refine bGo hA 2 1 (56, .istore 6, 2, 34, 0, [6], []) rfl rfl rfl ?_
          refine bGo hA 2 2 (58, .iload 6, 2, 35, 0, [6], []) rfl rfl rfl ?_
          refine bGo hA 2 3 (60, .ifCond .eq (15), 3, 36, 42, [], []) rfl rfl rfl ?_
          refine ⟨fun c => absurd c (by decide), fun _ => ?_⟩
          refine bGo hA 2 4 (63, .aload_n 0, 1, 37, 0, [0], []) rfl rfl rfl ?_
          refine bGo hA 2 5 (64, .iload 5, 2, 38, 0, [5], []) rfl rfl rfl ?_
          refine bGo hA 2 6 (66, .invokevirtual 40, 3, 39, 0, [0, 2, 27, 1], []) rfl rfl rfl ?_
          refine ⟨rfl, ?_⟩
          refine hC _ _ _ _ _ (bRn_e (fun r22 s20 q23 k21 => ?_)) (k15.1 c18)
          show A (39, [.ref 2, .int (bn l1), .int (bn l2), .int (bn l3), .int (bn l4), .int (bn ((l1 * 4) + l4)), .int (bn 1)], [.int (bn r22)], s20)
          refine bGo hA 2 7 (69, .ifCond .ne (6), 3, 40, 42, [], []) rfl rfl rfl ?_
          refine bB_eq0 (x := r22) q23 (fun c24 => ?_) (fun c24 => ?_)
          · refine bGo hA 2 8 (72, .iload 5, 2, 41, 0, [5], []) rfl rfl rfl ?_
            refine bGo hA 2 9 (74, .istore_n 3, 1, 42, 0, [3], []) rfl rfl rfl ?_
            refine bGo hA 2 10 (75, .iinc 4 (-1), 3, 43, 0, [4], [(-1, 0)]) rfl rfl rfl ?_
            refine bEqC (fun v => A (43, [.ref 2, .int (bn l1), .int (bn l2), .int (bn ((l1 * 4) + l4)), .int v, .int (bn ((l1 * 4) + l4)), .int (bn 1)], [], s20)) ((congrArg (fun w => bn l4 + w) bl_m1).trans (bn_add l4 (-1))) ?_
            refine bGo hA 2 11 (78, .goto (-64), 3, 44, 9, [], []) rfl rfl rfl ?_
            exact (k21.1 c24).2
          · refine bGo hA 2 10 (75, .iinc 4 (-1), 3, 43, 0, [4], [(-1, 0)]) rfl rfl rfl ?_
            refine bEqC (fun v => A (43, [.ref 2, .int (bn l1), .int (bn l2), .int (bn l3), .int v, .int (bn ((l1 * 4) + l4)), .int (bn 1)], [], s20)) ((congrArg (fun w => bn l4 + w) bl_m1).trans (bn_add l4 (-1))) ?_
            refine bGo hA 2 11 (78, .goto (-64), 3, 44, 9, [], []) rfl rfl rfl ?_
            exact (k21.2 c24).2
        · refine bGo hA 2 0 (55, .iconst (0), 1, 33, 0, [], [(0, 0)]) rfl rfl rfl ?_
          refine bEqI bl_0 ?_
          refine bGo hA 2 1 (56, .istore 6, 2, 34, 0, [6], []) rfl rfl rfl ?_
          refine bGo hA 2 2 (58, .iload 6, 2, 35, 0, [6], []) rfl rfl rfl ?_
          refine bGo hA 2 3 (60, .ifCond .eq (15), 3, 36, 42, [], []) rfl rfl rfl ?_
          refine ⟨fun _ => ?_, fun c => absurd (by decide) c⟩
          refine bGo hA 2 10 (75, .iinc 4 (-1), 3, 43, 0, [4], [(-1, 0)]) rfl rfl rfl ?_
          refine bEqC (fun v => A (43, [.ref 2, .int (bn l1), .int (bn l2), .int (bn l3), .int v, .int (bn ((l1 * 4) + l4)), .int (bn 0)], [], s14)) ((congrArg (fun w => bn l4 + w) bl_m1).trans (bn_add l4 (-1))) ?_
          refine bGo hA 2 11 (78, .goto (-64), 3, 44, 9, [], []) rfl rfl rfl ?_
          exact (k15.2 c18).2
      · refine bGo hA 1 14 (51, .iconst (1), 1, 31, 0, [], [(1, 0)]) rfl rfl rfl ?_
        refine bEqI bl_1 ?_
        refine bGo hA 1 15 (52, .goto (4), 3, 32, 33, [], []) rfl rfl rfl ?_
        refine bGo hA 2 1 (56, .istore 6, 2, 34, 0, [6], []) rfl rfl rfl ?_
        refine bGo hA 2 2 (58, .iload 6, 2, 35, 0, [6], []) rfl rfl rfl ?_
        refine bGo hA 2 3 (60, .ifCond .eq (15), 3, 36, 42, [], []) rfl rfl rfl ?_
        refine ⟨fun c => absurd c (by decide), fun _ => ?_⟩
        refine bGo hA 2 4 (63, .aload_n 0, 1, 37, 0, [0], []) rfl rfl rfl ?_
        refine bGo hA 2 5 (64, .iload 5, 2, 38, 0, [5], []) rfl rfl rfl ?_
        refine bGo hA 2 6 (66, .invokevirtual 40, 3, 39, 0, [0, 2, 27, 1], []) rfl rfl rfl ?_
        refine ⟨rfl, ?_⟩
        refine hC _ _ _ _ _ (bRn_e (fun r29 s27 q30 k28 => ?_)) (k10.2 c13)
        show A (39, [.ref 2, .int (bn l1), .int (bn l2), .int (bn l3), .int (bn l4), .int (bn ((l1 * 4) + l4)), .int (bn 1)], [.int (bn r29)], s27)
        refine bGo hA 2 7 (69, .ifCond .ne (6), 3, 40, 42, [], []) rfl rfl rfl ?_
        refine bB_eq0 (x := r29) q30 (fun c31 => ?_) (fun c31 => ?_)
        · refine bGo hA 2 8 (72, .iload 5, 2, 41, 0, [5], []) rfl rfl rfl ?_
          refine bGo hA 2 9 (74, .istore_n 3, 1, 42, 0, [3], []) rfl rfl rfl ?_
          refine bGo hA 2 10 (75, .iinc 4 (-1), 3, 43, 0, [4], [(-1, 0)]) rfl rfl rfl ?_
          refine bEqC (fun v => A (43, [.ref 2, .int (bn l1), .int (bn l2), .int (bn ((l1 * 4) + l4)), .int v, .int (bn ((l1 * 4) + l4)), .int (bn 1)], [], s27)) ((congrArg (fun w => bn l4 + w) bl_m1).trans (bn_add l4 (-1))) ?_
          refine bGo hA 2 11 (78, .goto (-64), 3, 44, 9, [], []) rfl rfl rfl ?_
          exact (k28.1 c31).2
        · refine bGo hA 2 10 (75, .iinc 4 (-1), 3, 43, 0, [4], [(-1, 0)]) rfl rfl rfl ?_
          refine bEqC (fun v => A (43, [.ref 2, .int (bn l1), .int (bn l2), .int (bn l3), .int v, .int (bn ((l1 * 4) + l4)), .int (bn 1)], [], s27)) ((congrArg (fun w => bn l4 + w) bl_m1).trans (bn_add l4 (-1))) ?_
          refine bGo hA 2 11 (78, .goto (-64), 3, 44, 9, [], []) rfl rfl rfl ?_
          exact (k28.2 c31).2

theorem sq26_0 {lvl : Nat} {C : bCall} {Q : bPost} {A : bPt → Prop} (hC : bMono C) (hA : bClosed lvl bm26 C Q A) {x1 : Int} {x2 : Int} {σ : bSt}  (h_x1 : bRg x1) (h_x2 : bRg x2)
  (h : ((x1 < 0 → Q (.inl (some (.int (bn 0)))) σ) ∧ (¬ x1 < 0 → ((x1 < 12 → ((0 ≤ x1 ∧ x1 < 12) ∧ (((bi σ 17 x1) = x2 → Q (.inl (some (.int (bn 1)))) σ) ∧ (¬ (bi σ 17 x1) = x2 → Q (.inl (some (.int (bn 0)))) σ)))) ∧ (¬ x1 < 12 → Q (.inl (some (.int (bn 0)))) σ))))) : A (0, [.ref 2, .int (bn x1), .int (bn x2)], [], σ) := by
  refine bGo hA 0 0 (0, .iload_n 1, 1, 1, 0, [1], []) rfl rfl rfl ?_
  refine bGo hA 0 1 (1, .ifCond .lt (26), 3, 2, 15, [], []) rfl rfl rfl ?_
  refine bB_lt0 (x := x1) h_x1 (fun c1 => ?_) (fun c1 => ?_)
  · refine bGo hA 0 15 (27, .iconst (0), 1, 16, 0, [], [(0, 0)]) rfl rfl rfl ?_
    refine bEqI bl_0 ?_
    refine bGo hA 1 0 (28, .ireturn, 1, 0, 0, [2], []) rfl rfl rfl ?_
    exact ⟨b01 (Or.inl rfl), (h.1 c1)⟩
  · refine bGo hA 0 2 (4, .iload_n 1, 1, 3, 0, [1], []) rfl rfl rfl ?_
    refine bGo hA 0 3 (5, .aload_n 0, 1, 4, 0, [0], []) rfl rfl rfl ?_
    refine bGo hA 0 4 (6, .getfield 15, 3, 5, 0, [2, 1, 3, 17, 1, 0], []) rfl rfl rfl ?_
    refine ⟨rfl, ?_⟩
    refine bGo hA 0 5 (9, .arraylength, 1, 6, 0, [], []) rfl rfl rfl ?_
    refine ⟨by decide, ?_⟩
    refine bEqI (bn_nat 12).symm ?_
    refine bGo hA 0 6 (10, .if_icmp .ge (17), 3, 7, 15, [], []) rfl rfl rfl ?_
    refine bB_lt (x := x1) (y := 12) h_x1 (by decide : bRg 12) (fun c2 => ?_) (fun c2 => ?_)
    · refine bGo hA 0 7 (13, .aload_n 0, 1, 8, 0, [0], []) rfl rfl rfl ?_
      refine bGo hA 0 8 (14, .getfield 15, 3, 9, 0, [2, 1, 3, 17, 1, 0], []) rfl rfl rfl ?_
      refine ⟨rfl, ?_⟩
      refine bGo hA 0 9 (17, .iload_n 1, 1, 10, 0, [1], []) rfl rfl rfl ?_
      refine bGo hA 0 10 (18, .iaload, 1, 11, 0, [], []) rfl rfl rfl ?_
      refine ⟨rfl, (bIxP (x := x1) (n := 12) h_x1 ((h.2 c1).1 c2).1), ?_⟩
      refine bEqL (x := x1) h_x1 ?_
      refine bGo hA 0 11 (19, .iload_n 2, 1, 12, 0, [2], []) rfl rfl rfl ?_
      refine bGo hA 0 12 (20, .if_icmp .ne (7), 3, 13, 15, [], []) rfl rfl rfl ?_
      refine bB_eq (x := (bi σ 17 x1)) (y := x2) (bi_rg _ _ _) h_x2 (fun c3 => ?_) (fun c3 => ?_)
      · refine bGo hA 0 13 (23, .iconst (1), 1, 14, 0, [], [(1, 0)]) rfl rfl rfl ?_
        refine bEqI bl_1 ?_
        refine bGo hA 0 14 (24, .goto (4), 3, 15, 16, [], []) rfl rfl rfl ?_
        refine bGo hA 1 0 (28, .ireturn, 1, 0, 0, [2], []) rfl rfl rfl ?_
        exact ⟨b01 (Or.inr rfl), (((h.2 c1).1 c2).2.1 c3)⟩
      · refine bGo hA 0 15 (27, .iconst (0), 1, 16, 0, [], [(0, 0)]) rfl rfl rfl ?_
        refine bEqI bl_0 ?_
        refine bGo hA 1 0 (28, .ireturn, 1, 0, 0, [2], []) rfl rfl rfl ?_
        exact ⟨b01 (Or.inl rfl), (((h.2 c1).1 c2).2.2 c3)⟩
    · refine bGo hA 0 15 (27, .iconst (0), 1, 16, 0, [], [(0, 0)]) rfl rfl rfl ?_
      refine bEqI bl_0 ?_
      refine bGo hA 1 0 (28, .ireturn, 1, 0, 0, [2], []) rfl rfl rfl ?_
      exact ⟨b01 (Or.inl rfl), ((h.2 c1).2 c2)⟩

theorem sq27_0 {lvl : Nat} {C : bCall} {Q : bPost} {A : bPt → Prop} (hC : bMono C) (hA : bClosed lvl bm27 C Q A) {x1 : Int} {σ : bSt}  (h_x1 : bRg x1)
  (h : ((x1 < 0 → Q (.inl (some (.int (bn 0)))) σ) ∧ (¬ x1 < 0 → ((x1 < 12 → ((0 ≤ x1 ∧ x1 < 12) ∧ (((bi σ 18 x1) = 0 → Q (.inl (some (.int (bn 0)))) σ) ∧ (¬ (bi σ 18 x1) = 0 → Q (.inl (some (.int (bn 1)))) σ)))) ∧ (¬ x1 < 12 → Q (.inl (some (.int (bn 0)))) σ))))) : A (0, [.ref 2, .int (bn x1)], [], σ) := by
  refine bGo hA 0 0 (0, .iload_n 1, 1, 1, 0, [1], []) rfl rfl rfl ?_
  refine bGo hA 0 1 (1, .ifCond .lt (25), 3, 2, 14, [], []) rfl rfl rfl ?_
  refine bB_lt0 (x := x1) h_x1 (fun c1 => ?_) (fun c1 => ?_)
  · refine bGo hA 0 14 (26, .iconst (0), 1, 15, 0, [], [(0, 0)]) rfl rfl rfl ?_
    refine bEqI bl_0 ?_
    refine bGo hA 0 15 (27, .ireturn, 1, 0, 0, [2], []) rfl rfl rfl ?_
    exact ⟨b01 (Or.inl rfl), (h.1 c1)⟩
  · refine bGo hA 0 2 (4, .iload_n 1, 1, 3, 0, [1], []) rfl rfl rfl ?_
    refine bGo hA 0 3 (5, .aload_n 0, 1, 4, 0, [0], []) rfl rfl rfl ?_
    refine bGo hA 0 4 (6, .getfield 18, 3, 5, 0, [2, 2, 3, 18, 1, 0], []) rfl rfl rfl ?_
    refine ⟨rfl, ?_⟩
    refine bGo hA 0 5 (9, .arraylength, 1, 6, 0, [], []) rfl rfl rfl ?_
    refine ⟨by decide, ?_⟩
    refine bEqI (bn_nat 12).symm ?_
    refine bGo hA 0 6 (10, .if_icmp .ge (16), 3, 7, 14, [], []) rfl rfl rfl ?_
    refine bB_lt (x := x1) (y := 12) h_x1 (by decide : bRg 12) (fun c2 => ?_) (fun c2 => ?_)
    · refine bGo hA 0 7 (13, .aload_n 0, 1, 8, 0, [0], []) rfl rfl rfl ?_
      refine bGo hA 0 8 (14, .getfield 18, 3, 9, 0, [2, 2, 3, 18, 1, 0], []) rfl rfl rfl ?_
      refine ⟨rfl, ?_⟩
      refine bGo hA 0 9 (17, .iload_n 1, 1, 10, 0, [1], []) rfl rfl rfl ?_
      refine bGo hA 0 10 (18, .baload, 1, 11, 0, [], []) rfl rfl rfl ?_
      refine ⟨rfl, (bIxP (x := x1) (n := 12) h_x1 ((h.2 c1).1 c2).1), ?_⟩
      refine bEqL (x := x1) h_x1 ?_
      refine bGo hA 0 11 (19, .ifCond .eq (7), 3, 12, 14, [], []) rfl rfl rfl ?_
      refine bB_eq0 (x := (bi σ 18 x1)) (bi_rg _ _ _) (fun c3 => ?_) (fun c3 => ?_)
      · refine bGo hA 0 14 (26, .iconst (0), 1, 15, 0, [], [(0, 0)]) rfl rfl rfl ?_
        refine bEqI bl_0 ?_
        refine bGo hA 0 15 (27, .ireturn, 1, 0, 0, [2], []) rfl rfl rfl ?_
        exact ⟨b01 (Or.inl rfl), (((h.2 c1).1 c2).2.1 c3)⟩
      · refine bGo hA 0 12 (22, .iconst (1), 1, 13, 0, [], [(1, 0)]) rfl rfl rfl ?_
        refine bEqI bl_1 ?_
        refine bGo hA 0 13 (23, .goto (4), 3, 14, 15, [], []) rfl rfl rfl ?_
        refine bGo hA 0 15 (27, .ireturn, 1, 0, 0, [2], []) rfl rfl rfl ?_
        exact ⟨b01 (Or.inr rfl), (((h.2 c1).1 c2).2.2 c3)⟩
    · refine bGo hA 0 14 (26, .iconst (0), 1, 15, 0, [], [(0, 0)]) rfl rfl rfl ?_
      refine bEqI bl_0 ?_
      refine bGo hA 0 15 (27, .ireturn, 1, 0, 0, [2], []) rfl rfl rfl ?_
      exact ⟨b01 (Or.inl rfl), ((h.2 c1).2 c2)⟩

theorem sq28_0 {lvl : Nat} {C : bCall} {Q : bPost} {A : bPt → Prop} (hC : bMono C) (hA : bClosed lvl bm28 C Q A) {x1 : Int} {σ : bSt}  (h_x1 : bRg x1)
  (h : ((x1 < 0 → Q (.inl none) σ) ∧ (¬ x1 < 0 → ((x1 < 12 → ((0 ≤ x1 ∧ x1 < 12) ∧ Q (.inl none) (bw σ 18 x1 1))) ∧ (¬ x1 < 12 → Q (.inl none) σ))))) : A (0, [.ref 2, .int (bn x1)], [], σ) := by
  refine bGo hA 0 0 (0, .iload_n 1, 1, 1, 0, [1], []) rfl rfl rfl ?_
  refine bGo hA 0 1 (1, .ifCond .lt (19), 3, 2, 12, [], []) rfl rfl rfl ?_
  refine bB_lt0 (x := x1) h_x1 (fun c1 => ?_) (fun c1 => ?_)
  · refine bGo hA 0 12 (20, .return_, 1, 0, 0, [0], []) rfl rfl rfl ?_
    exact (h.1 c1)
  · refine bGo hA 0 2 (4, .iload_n 1, 1, 3, 0, [1], []) rfl rfl rfl ?_
    refine bGo hA 0 3 (5, .aload_n 0, 1, 4, 0, [0], []) rfl rfl rfl ?_
    refine bGo hA 0 4 (6, .getfield 18, 3, 5, 0, [2, 2, 3, 18, 1, 0], []) rfl rfl rfl ?_
    refine ⟨rfl, ?_⟩
    refine bGo hA 0 5 (9, .arraylength, 1, 6, 0, [], []) rfl rfl rfl ?_
    refine ⟨by decide, ?_⟩
    refine bEqI (bn_nat 12).symm ?_
    refine bGo hA 0 6 (10, .if_icmp .ge (10), 3, 7, 12, [], []) rfl rfl rfl ?_
    refine bB_lt (x := x1) (y := 12) h_x1 (by decide : bRg 12) (fun c2 => ?_) (fun c2 => ?_)
    · refine bGo hA 0 7 (13, .aload_n 0, 1, 8, 0, [0], []) rfl rfl rfl ?_
      refine bGo hA 0 8 (14, .getfield 18, 3, 9, 0, [2, 2, 3, 18, 1, 0], []) rfl rfl rfl ?_
      refine ⟨rfl, ?_⟩
      refine bGo hA 0 9 (17, .iload_n 1, 1, 10, 0, [1], []) rfl rfl rfl ?_
      refine bGo hA 0 10 (18, .iconst (1), 1, 11, 0, [], [(1, 0)]) rfl rfl rfl ?_
      refine bEqI bl_1 ?_
      refine bGo hA 0 11 (19, .bastore, 1, 12, 0, [], []) rfl rfl rfl ?_
      refine ⟨rfl, (bIxP (x := x1) (n := 12) h_x1 ((h.2 c1).1 c2).1), by decide, b01 (Or.inr rfl), ?_⟩
      refine bEqS (x := x1) h_x1 ?_
      refine bGo hA 0 12 (20, .return_, 1, 0, 0, [0], []) rfl rfl rfl ?_
      exact ((h.2 c1).1 c2).2
    · refine bGo hA 0 12 (20, .return_, 1, 0, 0, [0], []) rfl rfl rfl ?_
      exact ((h.2 c1).2 c2)

theorem sq29_0 {lvl : Nat} {C : bCall} {Q : bPost} {A : bPt → Prop} (hC : bMono C) (hA : bClosed lvl bm29 C Q A) {x1 : Int} {x2 : Int} {σ : bSt}  (h_x1 : bRg x1) (h_x2 : bRg x2)
  (h : ((x1 < 0 → Q (.inl none) σ) ∧ (¬ x1 < 0 → ((x1 < 12 → ((0 ≤ x1 ∧ x1 < 12) ∧ (C 141 [.ref 17, .int (bn x1), .int (bn x2)] (bw σ 18 x1 0) (bRv (fun s3 => Q (.inl none) s3))))) ∧ (¬ x1 < 12 → Q (.inl none) σ))))) : A (0, [.ref 2, .int (bn x1), .int (bn x2)], [], σ) := by
  refine bGo hA 0 0 (0, .iload_n 1, 1, 1, 0, [1], []) rfl rfl rfl ?_
  refine bGo hA 0 1 (1, .ifCond .lt (28), 3, 2, 17, [], []) rfl rfl rfl ?_
  refine bB_lt0 (x := x1) h_x1 (fun c1 => ?_) (fun c1 => ?_)
  · refine bGo hA 1 1 (29, .return_, 1, 0, 0, [0], []) rfl rfl rfl ?_
    exact (h.1 c1)
  · refine bGo hA 0 2 (4, .iload_n 1, 1, 3, 0, [1], []) rfl rfl rfl ?_
    refine bGo hA 0 3 (5, .aload_n 0, 1, 4, 0, [0], []) rfl rfl rfl ?_
    refine bGo hA 0 4 (6, .getfield 18, 3, 5, 0, [2, 2, 3, 18, 1, 0], []) rfl rfl rfl ?_
    refine ⟨rfl, ?_⟩
    refine bGo hA 0 5 (9, .arraylength, 1, 6, 0, [], []) rfl rfl rfl ?_
    refine ⟨by decide, ?_⟩
    refine bEqI (bn_nat 12).symm ?_
    refine bGo hA 0 6 (10, .if_icmp .ge (19), 3, 7, 17, [], []) rfl rfl rfl ?_
    refine bB_lt (x := x1) (y := 12) h_x1 (by decide : bRg 12) (fun c2 => ?_) (fun c2 => ?_)
    · refine bGo hA 0 7 (13, .aload_n 0, 1, 8, 0, [0], []) rfl rfl rfl ?_
      refine bGo hA 0 8 (14, .getfield 18, 3, 9, 0, [2, 2, 3, 18, 1, 0], []) rfl rfl rfl ?_
      refine ⟨rfl, ?_⟩
      refine bGo hA 0 9 (17, .iload_n 1, 1, 10, 0, [1], []) rfl rfl rfl ?_
      refine bGo hA 0 10 (18, .iconst (0), 1, 11, 0, [], [(0, 0)]) rfl rfl rfl ?_
      refine bEqI bl_0 ?_
      refine bGo hA 0 11 (19, .bastore, 1, 12, 0, [], []) rfl rfl rfl ?_
      refine ⟨rfl, (bIxP (x := x1) (n := 12) h_x1 ((h.2 c1).1 c2).1), by decide, b01 (Or.inl rfl), ?_⟩
      refine bEqS (x := x1) h_x1 ?_
      refine bGo hA 0 12 (20, .aload_n 0, 1, 13, 0, [0], []) rfl rfl rfl ?_
      refine bGo hA 0 13 (21, .getfield 15, 3, 14, 0, [2, 1, 3, 17, 1, 0], []) rfl rfl rfl ?_
      refine ⟨rfl, ?_⟩
      refine bGo hA 0 14 (24, .iload_n 1, 1, 15, 0, [1], []) rfl rfl rfl ?_
      refine bGo hA 0 15 (25, .iload_n 2, 1, 16, 0, [2], []) rfl rfl rfl ?_
      refine bGo hA 1 0 (26, .invokestatic 32, 3, 17, 1, [2, 141, 3], []) rfl rfl rfl ?_
      refine hC _ _ _ _ _ (bRv_e (fun s3 k4 => ?_)) ((h.2 c1).1 c2).2
      show A (17, [.ref 2, .int (bn x1), .int (bn x2)], [], s3)
      refine bGo hA 1 1 (29, .return_, 1, 0, 0, [0], []) rfl rfl rfl ?_
      exact k4
    · refine bGo hA 1 1 (29, .return_, 1, 0, 0, [0], []) rfl rfl rfl ?_
      exact ((h.2 c1).2 c2)

theorem sq43_0 {lvl : Nat} {C : bCall} {Q : bPost} {A : bPt → Prop} (hC : bMono C) (hA : bClosed lvl bm43 C Q A) {a0 : Nat} {a1 : Nat} {σ : bSt} (h_a0 : a0 % 256 = 4) (h_a1 : a1 % 256 = 4) 
  (h : (((bi σ a0 0) = (bi σ a1 0) → (((bi σ a0 1) = (bi σ a1 1) → (((bi σ a0 2) = (bi σ a1 2) → (((bi σ a0 3) = (bi σ a1 3) → (((bi σ a0 5) = (bi σ a1 5) → (¬ bTy (256 * (1 * (a0 / 256) + 0) + 22) = 9 ∧ (bRg (bLen σ (256 * (1 * (a0 / 256) + 0) + 22) : Int) ∧ (¬ bTy (256 * (1 * (a1 / 256) + 0) + 22) = 9 ∧ (bRg (bLen σ (256 * (1 * (a1 / 256) + 0) + 22) : Int) ∧ (C 360 [.int (bn (bLen σ (256 * (1 * (a0 / 256) + 0) + 22) : Int)), .int (bn (bLen σ (256 * (1 * (a1 / 256) + 0) + 22) : Int))] σ (bRn (fun r8 s6 => (C 360 [.int (bn (bi σ a0 3)), .int (bn r8)] s6 (bRn (fun r12 s10 => A (42, [.ref a0, .ref a1, .int (bn 1), .int (bn r12), .int (bn 0), .float 0], [], s10)))))))))))) ∧ (¬ (bi σ a0 5) = (bi σ a1 5) → (¬ bTy (256 * (1 * (a0 / 256) + 0) + 22) = 9 ∧ (bRg (bLen σ (256 * (1 * (a0 / 256) + 0) + 22) : Int) ∧ (¬ bTy (256 * (1 * (a1 / 256) + 0) + 22) = 9 ∧ (bRg (bLen σ (256 * (1 * (a1 / 256) + 0) + 22) : Int) ∧ (C 360 [.int (bn (bLen σ (256 * (1 * (a0 / 256) + 0) + 22) : Int)), .int (bn (bLen σ (256 * (1 * (a1 / 256) + 0) + 22) : Int))] σ (bRn (fun r16 s14 => (C 360 [.int (bn (bi σ a0 3)), .int (bn r16)] s14 (bRn (fun r20 s18 => A (42, [.ref a0, .ref a1, .int (bn 0), .int (bn r20), .int (bn 0), .float 0], [], s18)))))))))))))) ∧ (¬ (bi σ a0 3) = (bi σ a1 3) → (¬ bTy (256 * (1 * (a0 / 256) + 0) + 22) = 9 ∧ (bRg (bLen σ (256 * (1 * (a0 / 256) + 0) + 22) : Int) ∧ (¬ bTy (256 * (1 * (a1 / 256) + 0) + 22) = 9 ∧ (bRg (bLen σ (256 * (1 * (a1 / 256) + 0) + 22) : Int) ∧ (C 360 [.int (bn (bLen σ (256 * (1 * (a0 / 256) + 0) + 22) : Int)), .int (bn (bLen σ (256 * (1 * (a1 / 256) + 0) + 22) : Int))] σ (bRn (fun r24 s22 => (C 360 [.int (bn (bi σ a0 3)), .int (bn r24)] s22 (bRn (fun r28 s26 => A (42, [.ref a0, .ref a1, .int (bn 0), .int (bn r28), .int (bn 0), .float 0], [], s26)))))))))))))) ∧ (¬ (bi σ a0 2) = (bi σ a1 2) → (¬ bTy (256 * (1 * (a0 / 256) + 0) + 22) = 9 ∧ (bRg (bLen σ (256 * (1 * (a0 / 256) + 0) + 22) : Int) ∧ (¬ bTy (256 * (1 * (a1 / 256) + 0) + 22) = 9 ∧ (bRg (bLen σ (256 * (1 * (a1 / 256) + 0) + 22) : Int) ∧ (C 360 [.int (bn (bLen σ (256 * (1 * (a0 / 256) + 0) + 22) : Int)), .int (bn (bLen σ (256 * (1 * (a1 / 256) + 0) + 22) : Int))] σ (bRn (fun r32 s30 => (C 360 [.int (bn (bi σ a0 3)), .int (bn r32)] s30 (bRn (fun r36 s34 => A (42, [.ref a0, .ref a1, .int (bn 0), .int (bn r36), .int (bn 0), .float 0], [], s34)))))))))))))) ∧ (¬ (bi σ a0 1) = (bi σ a1 1) → (¬ bTy (256 * (1 * (a0 / 256) + 0) + 22) = 9 ∧ (bRg (bLen σ (256 * (1 * (a0 / 256) + 0) + 22) : Int) ∧ (¬ bTy (256 * (1 * (a1 / 256) + 0) + 22) = 9 ∧ (bRg (bLen σ (256 * (1 * (a1 / 256) + 0) + 22) : Int) ∧ (C 360 [.int (bn (bLen σ (256 * (1 * (a0 / 256) + 0) + 22) : Int)), .int (bn (bLen σ (256 * (1 * (a1 / 256) + 0) + 22) : Int))] σ (bRn (fun r40 s38 => (C 360 [.int (bn (bi σ a0 3)), .int (bn r40)] s38 (bRn (fun r44 s42 => A (42, [.ref a0, .ref a1, .int (bn 0), .int (bn r44), .int (bn 0), .float 0], [], s42)))))))))))))) ∧ (¬ (bi σ a0 0) = (bi σ a1 0) → (¬ bTy (256 * (1 * (a0 / 256) + 0) + 22) = 9 ∧ (bRg (bLen σ (256 * (1 * (a0 / 256) + 0) + 22) : Int) ∧ (¬ bTy (256 * (1 * (a1 / 256) + 0) + 22) = 9 ∧ (bRg (bLen σ (256 * (1 * (a1 / 256) + 0) + 22) : Int) ∧ (C 360 [.int (bn (bLen σ (256 * (1 * (a0 / 256) + 0) + 22) : Int)), .int (bn (bLen σ (256 * (1 * (a1 / 256) + 0) + 22) : Int))] σ (bRn (fun r48 s46 => (C 360 [.int (bn (bi σ a0 3)), .int (bn r48)] s46 (bRn (fun r52 s50 => A (42, [.ref a0, .ref a1, .int (bn 0), .int (bn r52), .int (bn 0), .float 0], [], s50)))))))))))))) : A (0, [.ref a0, .ref a1, .float 0, .float 0, .float 0, .float 0], [], σ) := by
  refine bGo hA 0 0 (0, .aload_n 0, 1, 1, 0, [0], []) rfl rfl rfl ?_
  refine bGo hA 0 1 (1, .getfield 9, 3, 2, 0, [4, 0, 0, 0, 0, 0], []) rfl rfl rfl ?_
  refine ⟨h_a0, ?_⟩
  refine bEqI (bn_bi σ a0 0) ?_
  refine bGo hA 0 2 (4, .aload_n 1, 1, 3, 0, [1], []) rfl rfl rfl ?_
  refine bGo hA 0 3 (5, .getfield 9, 3, 4, 0, [4, 0, 0, 0, 0, 0], []) rfl rfl rfl ?_
  refine ⟨h_a1, ?_⟩
  refine bEqI (bn_bi σ a1 0) ?_
  refine bGo hA 0 4 (8, .if_icmp .ne (51), 3, 5, 27, [], []) rfl rfl rfl ?_
  refine bB_eq (x := (bi σ a0 0)) (y := (bi σ a1 0)) (bi_rg _ _ _) (bi_rg _ _ _) (fun c1 => ?_) (fun c1 => ?_)
  · refine bGo hA 0 5 (11, .aload_n 0, 1, 6, 0, [0], []) rfl rfl rfl ?_
    refine bGo hA 0 6 (12, .getfield 25, 3, 7, 0, [4, 1, 0, 0, 0, 0], []) rfl rfl rfl ?_
    refine ⟨h_a0, ?_⟩
    refine bEqI (bn_bi σ a0 1) ?_
    refine bGo hA 0 7 (15, .aload_n 1, 1, 8, 0, [1], []) rfl rfl rfl ?_
    refine bGo hA 0 8 (16, .getfield 25, 3, 9, 0, [4, 1, 0, 0, 0, 0], []) rfl rfl rfl ?_
    refine ⟨h_a1, ?_⟩
    refine bEqI (bn_bi σ a1 1) ?_
    refine bGo hA 0 9 (19, .if_icmp .ne (40), 3, 10, 27, [], []) rfl rfl rfl ?_
    refine bB_eq (x := (bi σ a0 1)) (y := (bi σ a1 1)) (bi_rg _ _ _) (bi_rg _ _ _) (fun c2 => ?_) (fun c2 => ?_)
    · refine bGo hA 0 10 (22, .aload_n 0, 1, 11, 0, [0], []) rfl rfl rfl ?_
      refine bGo hA 0 11 (23, .getfield 28, 3, 12, 0, [4, 2, 0, 0, 0, 0], []) rfl rfl rfl ?_
      refine ⟨h_a0, ?_⟩
      refine bEqI (bn_bi σ a0 2) ?_
      refine bGo hA 0 12 (26, .aload_n 1, 1, 13, 0, [1], []) rfl rfl rfl ?_
      refine bGo hA 0 13 (27, .getfield 28, 3, 14, 0, [4, 2, 0, 0, 0, 0], []) rfl rfl rfl ?_
      refine ⟨h_a1, ?_⟩
      refine bEqI (bn_bi σ a1 2) ?_
      refine bGo hA 0 14 (30, .if_icmp .ne (29), 3, 15, 27, [], []) rfl rfl rfl ?_
      refine bB_eq (x := (bi σ a0 2)) (y := (bi σ a1 2)) (bi_rg _ _ _) (bi_rg _ _ _) (fun c3 => ?_) (fun c3 => ?_)
      · refine bGo hA 0 15 (33, .aload_n 0, 1, 16, 0, [0], []) rfl rfl rfl ?_
        refine bGo hA 1 0 (34, .getfield 42, 3, 17, 0, [4, 3, 0, 0, 0, 0], []) rfl rfl rfl ?_
        refine ⟨h_a0, ?_⟩
        refine bEqI (bn_bi σ a0 3) ?_
        refine bGo hA 1 1 (37, .aload_n 1, 1, 18, 0, [1], []) rfl rfl rfl ?_
        refine bGo hA 1 2 (38, .getfield 42, 3, 19, 0, [4, 3, 0, 0, 0, 0], []) rfl rfl rfl ?_
        refine ⟨h_a1, ?_⟩
        refine bEqI (bn_bi σ a1 3) ?_
        refine bGo hA 1 3 (41, .if_icmp .ne (18), 3, 20, 27, [], []) rfl rfl rfl ?_
        refine bB_eq (x := (bi σ a0 3)) (y := (bi σ a1 3)) (bi_rg _ _ _) (bi_rg _ _ _) (fun c4 => ?_) (fun c4 => ?_)
        · refine bGo hA 1 4 (44, .aload_n 0, 1, 21, 0, [0], []) rfl rfl rfl ?_
          refine bGo hA 1 5 (45, .getfield 31, 3, 22, 0, [4, 5, 0, 0, 0, 0], []) rfl rfl rfl ?_
          refine ⟨h_a0, ?_⟩
          refine bEqI (bn_bi σ a0 5) ?_
          refine bGo hA 1 6 (48, .aload_n 1, 1, 23, 0, [1], []) rfl rfl rfl ?_
          refine bGo hA 1 7 (49, .getfield 31, 3, 24, 0, [4, 5, 0, 0, 0, 0], []) rfl rfl rfl ?_
          refine ⟨h_a1, ?_⟩
          refine bEqI (bn_bi σ a1 5) ?_
          refine bGo hA 1 8 (52, .if_icmp .ne (7), 3, 25, 27, [], []) rfl rfl rfl ?_
          refine bB_eq (x := (bi σ a0 5)) (y := (bi σ a1 5)) (bi_rg _ _ _) (bi_rg _ _ _) (fun c5 => ?_) (fun c5 => ?_)
          · refine bGo hA 1 9 (55, .iconst (1), 1, 26, 0, [], [(1, 0)]) rfl rfl rfl ?_
            refine bEqI bl_1 ?_
            refine bGo hA 1 10 (56, .goto (4), 3, 27, 28, [], []) rfl rfl rfl ?_
            refine bGo hA 1 12 (60, .istore_n 2, 1, 29, 0, [2], []) rfl rfl rfl ?_
            refine bGo hA 1 13 (61, .aload_n 0, 1, 30, 0, [0], []) rfl rfl rfl ?_
            refine bGo hA 1 14 (62, .getfield 42, 3, 31, 0, [4, 3, 0, 0, 0, 0], []) rfl rfl rfl ?_
            refine ⟨h_a0, ?_⟩
            refine bEqI (bn_bi σ a0 3) ?_
            refine bGo hA 1 15 (65, .aload_n 0, 1, 32, 0, [0], []) rfl rfl rfl ?_
            refine bGo hA 2 0 (66, .getfield 15, 3, 33, 0, [4, 4, 3, 22, 1, 0], []) rfl rfl rfl ?_
            refine ⟨h_a0, ?_⟩
            refine bGo hA 2 1 (69, .arraylength, 1, 34, 0, [], []) rfl rfl rfl ?_
            refine ⟨(((((h.1 c1).1 c2).1 c3).1 c4).1 c5).1, ?_⟩
            refine bEqI (bn_nat _).symm ?_
            refine bGo hA 2 2 (70, .aload_n 1, 1, 35, 0, [1], []) rfl rfl rfl ?_
            refine bGo hA 2 3 (71, .getfield 15, 3, 36, 0, [4, 4, 3, 22, 1, 0], []) rfl rfl rfl ?_
            refine ⟨h_a1, ?_⟩
            refine bGo hA 2 4 (74, .arraylength, 1, 37, 0, [], []) rfl rfl rfl ?_
            refine ⟨(((((h.1 c1).1 c2).1 c3).1 c4).1 c5).2.2.1, ?_⟩
            refine bEqI (bn_nat _).symm ?_
            refine bGo hA 2 5 (75, .invokestatic 71, 3, 38, 0, [2, 360, 2], []) rfl rfl rfl ?_
            refine hC _ _ _ _ _ (bRn_e (fun r8 s6 q9 k7 => ?_)) (((((h.1 c1).1 c2).1 c3).1 c4).1 c5).2.2.2.2
            show A (38, [.ref a0, .ref a1, .int (bn 1), .float 0, .float 0, .float 0], [.int (bn r8), .int (bn (bi σ a0 3))], s6)
            refine bGo hA 2 6 (78, .invokestatic 71, 3, 39, 0, [2, 360, 2], []) rfl rfl rfl ?_
            refine hC _ _ _ _ _ (bRn_e (fun r12 s10 q13 k11 => ?_)) k7
            show A (39, [.ref a0, .ref a1, .int (bn 1), .float 0, .float 0, .float 0], [.int (bn r12)], s10)
            refine bGo hA 2 7 (81, .istore_n 3, 1, 40, 0, [3], []) rfl rfl rfl ?_
            refine bGo hA 2 8 (82, .iconst (0), 1, 41, 0, [], [(0, 0)]) rfl rfl rfl ?_
            refine bEqI bl_0 ?_
            refine bGo hA 2 9 (83, .istore 4, 2, 42, 0, [4], []) rfl rfl rfl ?_
            exact k11
          · refine bGo hA 1 11 (59, .iconst (0), 1, 28, 0, [], [(0, 0)]) rfl rfl rfl ?_
            refine bEqI bl_0 ?_
            refine bGo hA 1 12 (60, .istore_n 2, 1, 29, 0, [2], []) rfl rfl rfl ?_
            refine bGo hA 1 13 (61, .aload_n 0, 1, 30, 0, [0], []) rfl rfl rfl ?_
            refine bGo hA 1 14 (62, .getfield 42, 3, 31, 0, [4, 3, 0, 0, 0, 0], []) rfl rfl rfl ?_
            refine ⟨h_a0, ?_⟩
            refine bEqI (bn_bi σ a0 3) ?_
            refine bGo hA 1 15 (65, .aload_n 0, 1, 32, 0, [0], []) rfl rfl rfl ?_
            refine bGo hA 2 0 (66, .getfield 15, 3, 33, 0, [4, 4, 3, 22, 1, 0], []) rfl rfl rfl ?_
            refine ⟨h_a0, ?_⟩
            refine bGo hA 2 1 (69, .arraylength, 1, 34, 0, [], []) rfl rfl rfl ?_
            refine ⟨(((((h.1 c1).1 c2).1 c3).1 c4).2 c5).1, ?_⟩
            refine bEqI (bn_nat _).symm ?_
            refine bGo hA 2 2 (70, .aload_n 1, 1, 35, 0, [1], []) rfl rfl rfl ?_
            refine bGo hA 2 3 (71, .getfield 15, 3, 36, 0, [4, 4, 3, 22, 1, 0], []) rfl rfl rfl ?_
            refine ⟨h_a1, ?_⟩
            refine bGo hA 2 4 (74, .arraylength, 1, 37, 0, [], []) rfl rfl rfl ?_
            refine ⟨(((((h.1 c1).1 c2).1 c3).1 c4).2 c5).2.2.1, ?_⟩
            refine bEqI (bn_nat _).symm ?_
            refine bGo hA 2 5 (75, .invokestatic 71, 3, 38, 0, [2, 360, 2], []) rfl rfl rfl ?_
            refine hC _ _ _ _ _ (bRn_e (fun r16 s14 q17 k15 => ?_)) (((((h.1 c1).1 c2).1 c3).1 c4).2 c5).2.2.2.2
            show A (38, [.ref a0, .ref a1, .int (bn 0), .float 0, .float 0, .float 0], [.int (bn r16), .int (bn (bi σ a0 3))], s14)
            refine bGo hA 2 6 (78, .invokestatic 71, 3, 39, 0, [2, 360, 2], []) rfl rfl rfl ?_
            refine hC _ _ _ _ _ (bRn_e (fun r20 s18 q21 k19 => ?_)) k15
            show A (39, [.ref a0, .ref a1, .int (bn 0), .float 0, .float 0, .float 0], [.int (bn r20)], s18)
            refine bGo hA 2 7 (81, .istore_n 3, 1, 40, 0, [3], []) rfl rfl rfl ?_
            refine bGo hA 2 8 (82, .iconst (0), 1, 41, 0, [], [(0, 0)]) rfl rfl rfl ?_
            refine bEqI bl_0 ?_
            refine bGo hA 2 9 (83, .istore 4, 2, 42, 0, [4], []) rfl rfl rfl ?_
            exact k19
        · refine bGo hA 1 11 (59, .iconst (0), 1, 28, 0, [], [(0, 0)]) rfl rfl rfl ?_
          refine bEqI bl_0 ?_
          refine bGo hA 1 12 (60, .istore_n 2, 1, 29, 0, [2], []) rfl rfl rfl ?_
          refine bGo hA 1 13 (61, .aload_n 0, 1, 30, 0, [0], []) rfl rfl rfl ?_
          refine bGo hA 1 14 (62, .getfield 42, 3, 31, 0, [4, 3, 0, 0, 0, 0], []) rfl rfl rfl ?_
          refine ⟨h_a0, ?_⟩
          refine bEqI (bn_bi σ a0 3) ?_
          refine bGo hA 1 15 (65, .aload_n 0, 1, 32, 0, [0], []) rfl rfl rfl ?_
          refine bGo hA 2 0 (66, .getfield 15, 3, 33, 0, [4, 4, 3, 22, 1, 0], []) rfl rfl rfl ?_
          refine ⟨h_a0, ?_⟩
          refine bGo hA 2 1 (69, .arraylength, 1, 34, 0, [], []) rfl rfl rfl ?_
          refine ⟨((((h.1 c1).1 c2).1 c3).2 c4).1, ?_⟩
          refine bEqI (bn_nat _).symm ?_
          refine bGo hA 2 2 (70, .aload_n 1, 1, 35, 0, [1], []) rfl rfl rfl ?_
          refine bGo hA 2 3 (71, .getfield 15, 3, 36, 0, [4, 4, 3, 22, 1, 0], []) rfl rfl rfl ?_
          refine ⟨h_a1, ?_⟩
          refine bGo hA 2 4 (74, .arraylength, 1, 37, 0, [], []) rfl rfl rfl ?_
          refine ⟨((((h.1 c1).1 c2).1 c3).2 c4).2.2.1, ?_⟩
          refine bEqI (bn_nat _).symm ?_
          refine bGo hA 2 5 (75, .invokestatic 71, 3, 38, 0, [2, 360, 2], []) rfl rfl rfl ?_
          refine hC _ _ _ _ _ (bRn_e (fun r24 s22 q25 k23 => ?_)) ((((h.1 c1).1 c2).1 c3).2 c4).2.2.2.2
          show A (38, [.ref a0, .ref a1, .int (bn 0), .float 0, .float 0, .float 0], [.int (bn r24), .int (bn (bi σ a0 3))], s22)
          refine bGo hA 2 6 (78, .invokestatic 71, 3, 39, 0, [2, 360, 2], []) rfl rfl rfl ?_
          refine hC _ _ _ _ _ (bRn_e (fun r28 s26 q29 k27 => ?_)) k23
          show A (39, [.ref a0, .ref a1, .int (bn 0), .float 0, .float 0, .float 0], [.int (bn r28)], s26)
          refine bGo hA 2 7 (81, .istore_n 3, 1, 40, 0, [3], []) rfl rfl rfl ?_
          refine bGo hA 2 8 (82, .iconst (0), 1, 41, 0, [], [(0, 0)]) rfl rfl rfl ?_
          refine bEqI bl_0 ?_
          refine bGo hA 2 9 (83, .istore 4, 2, 42, 0, [4], []) rfl rfl rfl ?_
          exact k27
      · refine bGo hA 1 11 (59, .iconst (0), 1, 28, 0, [], [(0, 0)]) rfl rfl rfl ?_
        refine bEqI bl_0 ?_
        refine bGo hA 1 12 (60, .istore_n 2, 1, 29, 0, [2], []) rfl rfl rfl ?_
        refine bGo hA 1 13 (61, .aload_n 0, 1, 30, 0, [0], []) rfl rfl rfl ?_
        refine bGo hA 1 14 (62, .getfield 42, 3, 31, 0, [4, 3, 0, 0, 0, 0], []) rfl rfl rfl ?_
        refine ⟨h_a0, ?_⟩
        refine bEqI (bn_bi σ a0 3) ?_
        refine bGo hA 1 15 (65, .aload_n 0, 1, 32, 0, [0], []) rfl rfl rfl ?_
        refine bGo hA 2 0 (66, .getfield 15, 3, 33, 0, [4, 4, 3, 22, 1, 0], []) rfl rfl rfl ?_
        refine ⟨h_a0, ?_⟩
        refine bGo hA 2 1 (69, .arraylength, 1, 34, 0, [], []) rfl rfl rfl ?_
        refine ⟨(((h.1 c1).1 c2).2 c3).1, ?_⟩
        refine bEqI (bn_nat _).symm ?_
        refine bGo hA 2 2 (70, .aload_n 1, 1, 35, 0, [1], []) rfl rfl rfl ?_
        refine bGo hA 2 3 (71, .getfield 15, 3, 36, 0, [4, 4, 3, 22, 1, 0], []) rfl rfl rfl ?_
        refine ⟨h_a1, ?_⟩
        refine bGo hA 2 4 (74, .arraylength, 1, 37, 0, [], []) rfl rfl rfl ?_
        refine ⟨(((h.1 c1).1 c2).2 c3).2.2.1, ?_⟩
        refine bEqI (bn_nat _).symm ?_
        refine bGo hA 2 5 (75, .invokestatic 71, 3, 38, 0, [2, 360, 2], []) rfl rfl rfl ?_
        refine hC _ _ _ _ _ (bRn_e (fun r32 s30 q33 k31 => ?_)) (((h.1 c1).1 c2).2 c3).2.2.2.2
        show A (38, [.ref a0, .ref a1, .int (bn 0), .float 0, .float 0, .float 0], [.int (bn r32), .int (bn (bi σ a0 3))], s30)
        refine bGo hA 2 6 (78, .invokestatic 71, 3, 39, 0, [2, 360, 2], []) rfl rfl rfl ?_
        refine hC _ _ _ _ _ (bRn_e (fun r36 s34 q37 k35 => ?_)) k31
        show A (39, [.ref a0, .ref a1, .int (bn 0), .float 0, .float 0, .float 0], [.int (bn r36)], s34)
        refine bGo hA 2 7 (81, .istore_n 3, 1, 40, 0, [3], []) rfl rfl rfl ?_
        refine bGo hA 2 8 (82, .iconst (0), 1, 41, 0, [], [(0, 0)]) rfl rfl rfl ?_
        refine bEqI bl_0 ?_
        refine bGo hA 2 9 (83, .istore 4, 2, 42, 0, [4], []) rfl rfl rfl ?_
        exact k35
    · refine bGo hA 1 11 (59, .iconst (0), 1, 28, 0, [], [(0, 0)]) rfl rfl rfl ?_
      refine bEqI bl_0 ?_
      refine bGo hA 1 12 (60, .istore_n 2, 1, 29, 0, [2], []) rfl rfl rfl ?_
      refine bGo hA 1 13 (61, .aload_n 0, 1, 30, 0, [0], []) rfl rfl rfl ?_
      refine bGo hA 1 14 (62, .getfield 42, 3, 31, 0, [4, 3, 0, 0, 0, 0], []) rfl rfl rfl ?_
      refine ⟨h_a0, ?_⟩
      refine bEqI (bn_bi σ a0 3) ?_
      refine bGo hA 1 15 (65, .aload_n 0, 1, 32, 0, [0], []) rfl rfl rfl ?_
      refine bGo hA 2 0 (66, .getfield 15, 3, 33, 0, [4, 4, 3, 22, 1, 0], []) rfl rfl rfl ?_
      refine ⟨h_a0, ?_⟩
      refine bGo hA 2 1 (69, .arraylength, 1, 34, 0, [], []) rfl rfl rfl ?_
      refine ⟨((h.1 c1).2 c2).1, ?_⟩
      refine bEqI (bn_nat _).symm ?_
      refine bGo hA 2 2 (70, .aload_n 1, 1, 35, 0, [1], []) rfl rfl rfl ?_
      refine bGo hA 2 3 (71, .getfield 15, 3, 36, 0, [4, 4, 3, 22, 1, 0], []) rfl rfl rfl ?_
      refine ⟨h_a1, ?_⟩
      refine bGo hA 2 4 (74, .arraylength, 1, 37, 0, [], []) rfl rfl rfl ?_
      refine ⟨((h.1 c1).2 c2).2.2.1, ?_⟩
      refine bEqI (bn_nat _).symm ?_
      refine bGo hA 2 5 (75, .invokestatic 71, 3, 38, 0, [2, 360, 2], []) rfl rfl rfl ?_
      refine hC _ _ _ _ _ (bRn_e (fun r40 s38 q41 k39 => ?_)) ((h.1 c1).2 c2).2.2.2.2
      show A (38, [.ref a0, .ref a1, .int (bn 0), .float 0, .float 0, .float 0], [.int (bn r40), .int (bn (bi σ a0 3))], s38)
      refine bGo hA 2 6 (78, .invokestatic 71, 3, 39, 0, [2, 360, 2], []) rfl rfl rfl ?_
      refine hC _ _ _ _ _ (bRn_e (fun r44 s42 q45 k43 => ?_)) k39
      show A (39, [.ref a0, .ref a1, .int (bn 0), .float 0, .float 0, .float 0], [.int (bn r44)], s42)
      refine bGo hA 2 7 (81, .istore_n 3, 1, 40, 0, [3], []) rfl rfl rfl ?_
      refine bGo hA 2 8 (82, .iconst (0), 1, 41, 0, [], [(0, 0)]) rfl rfl rfl ?_
      refine bEqI bl_0 ?_
      refine bGo hA 2 9 (83, .istore 4, 2, 42, 0, [4], []) rfl rfl rfl ?_
      exact k43
  · refine bGo hA 1 11 (59, .iconst (0), 1, 28, 0, [], [(0, 0)]) rfl rfl rfl ?_
    refine bEqI bl_0 ?_
    refine bGo hA 1 12 (60, .istore_n 2, 1, 29, 0, [2], []) rfl rfl rfl ?_
    refine bGo hA 1 13 (61, .aload_n 0, 1, 30, 0, [0], []) rfl rfl rfl ?_
    refine bGo hA 1 14 (62, .getfield 42, 3, 31, 0, [4, 3, 0, 0, 0, 0], []) rfl rfl rfl ?_
    refine ⟨h_a0, ?_⟩
    refine bEqI (bn_bi σ a0 3) ?_
    refine bGo hA 1 15 (65, .aload_n 0, 1, 32, 0, [0], []) rfl rfl rfl ?_
    refine bGo hA 2 0 (66, .getfield 15, 3, 33, 0, [4, 4, 3, 22, 1, 0], []) rfl rfl rfl ?_
    refine ⟨h_a0, ?_⟩
    refine bGo hA 2 1 (69, .arraylength, 1, 34, 0, [], []) rfl rfl rfl ?_
    refine ⟨(h.2 c1).1, ?_⟩
    refine bEqI (bn_nat _).symm ?_
    refine bGo hA 2 2 (70, .aload_n 1, 1, 35, 0, [1], []) rfl rfl rfl ?_
    refine bGo hA 2 3 (71, .getfield 15, 3, 36, 0, [4, 4, 3, 22, 1, 0], []) rfl rfl rfl ?_
    refine ⟨h_a1, ?_⟩
    refine bGo hA 2 4 (74, .arraylength, 1, 37, 0, [], []) rfl rfl rfl ?_
    refine ⟨(h.2 c1).2.2.1, ?_⟩
    refine bEqI (bn_nat _).symm ?_
    refine bGo hA 2 5 (75, .invokestatic 71, 3, 38, 0, [2, 360, 2], []) rfl rfl rfl ?_
    refine hC _ _ _ _ _ (bRn_e (fun r48 s46 q49 k47 => ?_)) (h.2 c1).2.2.2.2
    show A (38, [.ref a0, .ref a1, .int (bn 0), .float 0, .float 0, .float 0], [.int (bn r48), .int (bn (bi σ a0 3))], s46)
    refine bGo hA 2 6 (78, .invokestatic 71, 3, 39, 0, [2, 360, 2], []) rfl rfl rfl ?_
    refine hC _ _ _ _ _ (bRn_e (fun r52 s50 q53 k51 => ?_)) k47
    show A (39, [.ref a0, .ref a1, .int (bn 0), .float 0, .float 0, .float 0], [.int (bn r52)], s50)
    refine bGo hA 2 7 (81, .istore_n 3, 1, 40, 0, [3], []) rfl rfl rfl ?_
    refine bGo hA 2 8 (82, .iconst (0), 1, 41, 0, [], [(0, 0)]) rfl rfl rfl ?_
    refine bEqI bl_0 ?_
    refine bGo hA 2 9 (83, .istore 4, 2, 42, 0, [4], []) rfl rfl rfl ?_
    exact k51

theorem sq43_42 {lvl : Nat} {C : bCall} {Q : bPost} {A : bPt → Prop} (hC : bMono C) (hA : bClosed lvl bm43 C Q A) {l0 : Nat} {l1 : Nat} {l2 : Int} {l3 : Int} {l4 : Int} {v5 : Value} {σ : bSt}  (h_l2 : bRg l2) (h_l3 : bRg l3) (h_l4 : bRg l4)
  (h : ((l2 = 0 → (l0 % 256 = 4 ∧ (¬ bTy (256 * (1 * (l0 / 256) + 0) + 23) = 9 ∧ (bRg (bLen σ (256 * (1 * (l0 / 256) + 0) + 23) : Int) ∧ (l1 % 256 = 4 ∧ (¬ bTy (256 * (1 * (l1 / 256) + 0) + 23) = 9 ∧ (bRg (bLen σ (256 * (1 * (l1 / 256) + 0) + 23) : Int) ∧ (C 360 [.int (bn (bLen σ (256 * (1 * (l0 / 256) + 0) + 23) : Int)), .int (bn (bLen σ (256 * (1 * (l1 / 256) + 0) + 23) : Int))] σ (bRn (fun r4 s2 => (C 360 [.int (bn (bi σ l0 5)), .int (bn r4)] s2 (bRn (fun r8 s6 => A (75, [.ref l0, .ref l1, .int (bn l2), .int (bn l3), .int (bn r8), .int (bn 0)], [], s6)))))))))))))) ∧ (¬ l2 = 0 → ((l4 < l3 → (l0 % 256 = 4 ∧ (bTy (256 * (1 * (l0 / 256) + 0) + 22) = 0 ∧ ((0 ≤ l4 ∧ l4 < (bLen σ (256 * (1 * (l0 / 256) + 0) + 22) : Int)) ∧ (l1 % 256 = 4 ∧ (bTy (256 * (1 * (l1 / 256) + 0) + 22) = 0 ∧ ((0 ≤ l4 ∧ l4 < (bLen σ (256 * (1 * (l1 / 256) + 0) + 22) : Int)) ∧ (((bi σ (256 * (1 * (l0 / 256) + 0) + 22) l4) = (bi σ (256 * (1 * (l1 / 256) + 0) + 22) l4) → (bRg (l4 + 1) ∧ A (42, [.ref l0, .ref l1, .int (bn 1), .int (bn l3), .int (bn (l4 + 1)), v5], [], σ))) ∧ (¬ (bi σ (256 * (1 * (l0 / 256) + 0) + 22) l4) = (bi σ (256 * (1 * (l1 / 256) + 0) + 22) l4) → (bRg (l4 + 1) ∧ A (42, [.ref l0, .ref l1, .int (bn 0), .int (bn l3), .int (bn (l4 + 1)), v5], [], σ))))))))))) ∧ (¬ l4 < l3 → (l0 % 256 = 4 ∧ (¬ bTy (256 * (1 * (l0 / 256) + 0) + 23) = 9 ∧ (bRg (bLen σ (256 * (1 * (l0 / 256) + 0) + 23) : Int) ∧ (l1 % 256 = 4 ∧ (¬ bTy (256 * (1 * (l1 / 256) + 0) + 23) = 9 ∧ (bRg (bLen σ (256 * (1 * (l1 / 256) + 0) + 23) : Int) ∧ (C 360 [.int (bn (bLen σ (256 * (1 * (l0 / 256) + 0) + 23) : Int)), .int (bn (bLen σ (256 * (1 * (l1 / 256) + 0) + 23) : Int))] σ (bRn (fun r14 s12 => (C 360 [.int (bn (bi σ l0 5)), .int (bn r14)] s12 (bRn (fun r18 s16 => A (75, [.ref l0, .ref l1, .int (bn l2), .int (bn l3), .int (bn r18), .int (bn 0)], [], s16)))))))))))))))))) : A (42, [.ref l0, .ref l1, .int (bn l2), .int (bn l3), .int (bn l4), v5], [], σ) := by
  refine bGo hA 2 10 (85, .iload_n 2, 1, 43, 0, [2], []) rfl rfl rfl ?_
  refine bGo hA 2 11 (86, .ifCond .eq (38), 3, 44, 62, [], []) rfl rfl rfl ?_
  refine bB_eq0 (x := l2) h_l2 (fun c1 => ?_) (fun c1 => ?_)
  · refine bGo hA 3 14 (124, .aload_n 0, 1, 63, 0, [0], []) rfl rfl rfl ?_
    refine bGo hA 3 15 (125, .getfield 31, 3, 64, 0, [4, 5, 0, 0, 0, 0], []) rfl rfl rfl ?_
    refine ⟨(h.1 c1).1, ?_⟩
    refine bEqI (bn_bi σ l0 5) ?_
    refine bGo hA 4 0 (128, .aload_n 0, 1, 65, 0, [0], []) rfl rfl rfl ?_
    refine bGo hA 4 1 (129, .getfield 19, 3, 66, 0, [4, 6, 3, 23, 1, 0], []) rfl rfl rfl ?_
    refine ⟨(h.1 c1).1, ?_⟩
    refine bGo hA 4 2 (132, .arraylength, 1, 67, 0, [], []) rfl rfl rfl ?_
    refine ⟨(h.1 c1).2.1, ?_⟩
    refine bEqI (bn_nat _).symm ?_
    refine bGo hA 4 3 (133, .aload_n 1, 1, 68, 0, [1], []) rfl rfl rfl ?_
    refine bGo hA 4 4 (134, .getfield 19, 3, 69, 0, [4, 6, 3, 23, 1, 0], []) rfl rfl rfl ?_
    refine ⟨(h.1 c1).2.2.2.1, ?_⟩
    refine bGo hA 4 5 (137, .arraylength, 1, 70, 0, [], []) rfl rfl rfl ?_
    refine ⟨(h.1 c1).2.2.2.2.1, ?_⟩
    refine bEqI (bn_nat _).symm ?_
    refine bGo hA 4 6 (138, .invokestatic 71, 3, 71, 0, [2, 360, 2], []) rfl rfl rfl ?_
    refine hC _ _ _ _ _ (bRn_e (fun r4 s2 q5 k3 => ?_)) (h.1 c1).2.2.2.2.2.2
    show A (71, [.ref l0, .ref l1, .int (bn l2), .int (bn l3), .int (bn l4), v5], [.int (bn r4), .int (bn (bi σ l0 5))], s2)
    refine bGo hA 4 7 (141, .invokestatic 71, 3, 72, 0, [2, 360, 2], []) rfl rfl rfl ?_
    refine hC _ _ _ _ _ (bRn_e (fun r8 s6 q9 k7 => ?_)) k3
    show A (72, [.ref l0, .ref l1, .int (bn l2), .int (bn l3), .int (bn l4), v5], [.int (bn r8)], s6)
    refine bGo hA 4 8 (144, .istore 4, 2, 73, 0, [4], []) rfl rfl rfl ?_
    refine bGo hA 4 9 (146, .iconst (0), 1, 74, 0, [], [(0, 0)]) rfl rfl rfl ?_
    refine bEqI bl_0 ?_
    refine bGo hA 4 10 (147, .istore 5, 2, 75, 0, [5], []) rfl rfl rfl ?_
    exact k7
  · refine bGo hA 2 12 (89, .iload 4, 2, 45, 0, [4], []) rfl rfl rfl ?_
    refine bGo hA 2 13 (91, .iload_n 3, 1, 46, 0, [3], []) rfl rfl rfl ?_
    refine bGo hA 2 14 (92, .if_icmp .ge (32), 3, 47, 62, [], []) rfl rfl rfl ?_
    refine bB_lt (x := l4) (y := l3) h_l4 h_l3 (fun c10 => ?_) (fun c10 => ?_)
    · refine bGo hA 2 15 (95, .aload_n 0, 1, 48, 0, [0], []) rfl rfl rfl ?_
      refine bGo hA 3 0 (96, .getfield 15, 3, 49, 0, [4, 4, 3, 22, 1, 0], []) rfl rfl rfl ?_
      refine ⟨((h.2 c1).1 c10).1, ?_⟩
      refine bGo hA 3 1 (99, .iload 4, 2, 50, 0, [4], []) rfl rfl rfl ?_
      refine bGo hA 3 2 (101, .iaload, 1, 51, 0, [], []) rfl rfl rfl ?_
      refine ⟨((h.2 c1).1 c10).2.1, (bIxP (x := l4) (n := bLen σ (256 * (1 * (l0 / 256) + 0) + 22)) h_l4 ((h.2 c1).1 c10).2.2.1), ?_⟩
      refine bEqL (x := l4) h_l4 ?_
      refine bGo hA 3 3 (102, .aload_n 1, 1, 52, 0, [1], []) rfl rfl rfl ?_
      refine bGo hA 3 4 (103, .getfield 15, 3, 53, 0, [4, 4, 3, 22, 1, 0], []) rfl rfl rfl ?_
      refine ⟨((h.2 c1).1 c10).2.2.2.1, ?_⟩
      refine bGo hA 3 5 (106, .iload 4, 2, 54, 0, [4], []) rfl rfl rfl ?_
      refine bGo hA 3 6 (108, .iaload, 1, 55, 0, [], []) rfl rfl rfl ?_
      refine ⟨((h.2 c1).1 c10).2.2.2.2.1, (bIxP (x := l4) (n := bLen σ (256 * (1 * (l1 / 256) + 0) + 22)) h_l4 ((h.2 c1).1 c10).2.2.2.2.2.1), ?_⟩
      refine bEqL (x := l4) h_l4 ?_
      refine bGo hA 3 7 (109, .if_icmp .ne (7), 3, 56, 58, [], []) rfl rfl rfl ?_
      refine bB_eq (x := (bi σ (256 * (1 * (l0 / 256) + 0) + 22) l4)) (y := (bi σ (256 * (1 * (l1 / 256) + 0) + 22) l4)) (bi_rg _ _ _) (bi_rg _ _ _) (fun c11 => ?_) (fun c11 => ?_)
      · refine bGo hA 3 8 (112, .iconst (1), 1, 57, 0, [], [(1, 0)]) rfl rfl rfl ?_
        refine bEqI bl_1 ?_
        refine bGo hA 3 9 (113, .goto (4), 3, 58, 59, [], []) rfl rfl rfl ?_
        refine bGo hA 3 11 (117, .istore_n 2, 1, 60, 0, [2], []) rfl rfl rfl ?_
        refine bGo hA 3 12 (118, .iinc 4 (1), 3, 61, 0, [4], [(1, 0)]) rfl rfl rfl ?_
        refine bEqC (fun v => A (61, [.ref l0, .ref l1, .int (bn 1), .int (bn l3), .int v, v5], [], σ)) ((congrArg (fun w => bn l4 + w) bl_1).trans (bn_add l4 1)) ?_
        refine bGo hA 3 13 (121, .goto (-36), 3, 62, 42, [], []) rfl rfl rfl ?_
        exact (((h.2 c1).1 c10).2.2.2.2.2.2.1 c11).2
      · refine bGo hA 3 10 (116, .iconst (0), 1, 59, 0, [], [(0, 0)]) rfl rfl rfl ?_
        refine bEqI bl_0 ?_
        refine bGo hA 3 11 (117, .istore_n 2, 1, 60, 0, [2], []) rfl rfl rfl ?_
        refine bGo hA 3 12 (118, .iinc 4 (1), 3, 61, 0, [4], [(1, 0)]) rfl rfl rfl ?_
        refine bEqC (fun v => A (61, [.ref l0, .ref l1, .int (bn 0), .int (bn l3), .int v, v5], [], σ)) ((congrArg (fun w => bn l4 + w) bl_1).trans (bn_add l4 1)) ?_
        refine bGo hA 3 13 (121, .goto (-36), 3, 62, 42, [], []) rfl rfl rfl ?_
        exact (((h.2 c1).1 c10).2.2.2.2.2.2.2 c11).2
    · refine bGo hA 3 14 (124, .aload_n 0, 1, 63, 0, [0], []) rfl rfl rfl ?_
      refine bGo hA 3 15 (125, .getfield 31, 3, 64, 0, [4, 5, 0, 0, 0, 0], []) rfl rfl rfl ?_
      refine ⟨((h.2 c1).2 c10).1, ?_⟩
      refine bEqI (bn_bi σ l0 5) ?_
      refine bGo hA 4 0 (128, .aload_n 0, 1, 65, 0, [0], []) rfl rfl rfl ?_
      refine bGo hA 4 1 (129, .getfield 19, 3, 66, 0, [4, 6, 3, 23, 1, 0], []) rfl rfl rfl ?_
      refine ⟨((h.2 c1).2 c10).1, ?_⟩
      refine bGo hA 4 2 (132, .arraylength, 1, 67, 0, [], []) rfl rfl rfl ?_
      refine ⟨((h.2 c1).2 c10).2.1, ?_⟩
      refine bEqI (bn_nat _).symm ?_
      refine bGo hA 4 3 (133, .aload_n 1, 1, 68, 0, [1], []) rfl rfl rfl ?_
      refine bGo hA 4 4 (134, .getfield 19, 3, 69, 0, [4, 6, 3, 23, 1, 0], []) rfl rfl rfl ?_
      refine ⟨((h.2 c1).2 c10).2.2.2.1, ?_⟩
      refine bGo hA 4 5 (137, .arraylength, 1, 70, 0, [], []) rfl rfl rfl ?_
      refine ⟨((h.2 c1).2 c10).2.2.2.2.1, ?_⟩
      refine bEqI (bn_nat _).symm ?_
      refine bGo hA 4 6 (138, .invokestatic 71, 3, 71, 0, [2, 360, 2], []) rfl rfl rfl ?_
      refine hC _ _ _ _ _ (bRn_e (fun r14 s12 q15 k13 => ?_)) ((h.2 c1).2 c10).2.2.2.2.2.2
      show A (71, [.ref l0, .ref l1, .int (bn l2), .int (bn l3), .int (bn l4), v5], [.int (bn r14), .int (bn (bi σ l0 5))], s12)
      refine bGo hA 4 7 (141, .invokestatic 71, 3, 72, 0, [2, 360, 2], []) rfl rfl rfl ?_
      refine hC _ _ _ _ _ (bRn_e (fun r18 s16 q19 k17 => ?_)) k13
      show A (72, [.ref l0, .ref l1, .int (bn l2), .int (bn l3), .int (bn l4), v5], [.int (bn r18)], s16)
      refine bGo hA 4 8 (144, .istore 4, 2, 73, 0, [4], []) rfl rfl rfl ?_
      refine bGo hA 4 9 (146, .iconst (0), 1, 74, 0, [], [(0, 0)]) rfl rfl rfl ?_
      refine bEqI bl_0 ?_
      refine bGo hA 4 10 (147, .istore 5, 2, 75, 0, [5], []) rfl rfl rfl ?_
      exact k17

theorem sq43_75 {lvl : Nat} {C : bCall} {Q : bPost} {A : bPt → Prop} (hC : bMono C) (hA : bClosed lvl bm43 C Q A) {l0 : Nat} {l1 : Nat} {l2 : Int} {v3 : Value} {l4 : Int} {l5 : Int} {σ : bSt}  (h_l2 : bRg l2) (h_l4 : bRg l4) (h_l5 : bRg l5)
  (h : ((l2 = 0 → ((l2 = 0 ∨ l2 = 1) ∧ Q (.inl (some (.int (bn l2)))) σ)) ∧ (¬ l2 = 0 → ((l5 < l4 → (l0 % 256 = 4 ∧ (bTy (256 * (1 * (l0 / 256) + 0) + 23) = 0 ∧ ((0 ≤ l5 ∧ l5 < (bLen σ (256 * (1 * (l0 / 256) + 0) + 23) : Int)) ∧ (l1 % 256 = 4 ∧ (bTy (256 * (1 * (l1 / 256) + 0) + 23) = 0 ∧ ((0 ≤ l5 ∧ l5 < (bLen σ (256 * (1 * (l1 / 256) + 0) + 23) : Int)) ∧ (((bi σ (256 * (1 * (l0 / 256) + 0) + 23) l5) = (bi σ (256 * (1 * (l1 / 256) + 0) + 23) l5) → (bRg (l5 + 1) ∧ A (75, [.ref l0, .ref l1, .int (bn 1), v3, .int (bn l4), .int (bn (l5 + 1))], [], σ))) ∧ (¬ (bi σ (256 * (1 * (l0 / 256) + 0) + 23) l5) = (bi σ (256 * (1 * (l1 / 256) + 0) + 23) l5) → (bRg (l5 + 1) ∧ A (75, [.ref l0, .ref l1, .int (bn 0), v3, .int (bn l4), .int (bn (l5 + 1))], [], σ))))))))))) ∧ (¬ l5 < l4 → ((l2 = 0 ∨ l2 = 1) ∧ Q (.inl (some (.int (bn l2)))) σ)))))) : A (75, [.ref l0, .ref l1, .int (bn l2), v3, .int (bn l4), .int (bn l5)], [], σ) := by
  refine bGo hA 4 11 (149, .iload_n 2, 1, 76, 0, [2], []) rfl rfl rfl ?_
  refine bGo hA 4 12 (150, .ifCond .eq (39), 3, 77, 95, [], []) rfl rfl rfl ?_
  refine bB_eq0 (x := l2) h_l2 (fun c1 => ?_) (fun c1 => ?_)
  · refine bGo hA 5 15 (189, .iload_n 2, 1, 96, 0, [2], []) rfl rfl rfl ?_
    refine bGo hA 6 0 (190, .ireturn, 1, 0, 0, [2], []) rfl rfl rfl ?_
    exact ⟨b01 (h.1 c1).1, (h.1 c1).2⟩
  · refine bGo hA 4 13 (153, .iload 5, 2, 78, 0, [5], []) rfl rfl rfl ?_
    refine bGo hA 4 14 (155, .iload 4, 2, 79, 0, [4], []) rfl rfl rfl ?_
    refine bGo hA 4 15 (157, .if_icmp .ge (32), 3, 80, 95, [], []) rfl rfl rfl ?_
    refine bB_lt (x := l5) (y := l4) h_l5 h_l4 (fun c2 => ?_) (fun c2 => ?_)
    · refine bGo hA 5 0 (160, .aload_n 0, 1, 81, 0, [0], []) rfl rfl rfl ?_
      refine bGo hA 5 1 (161, .getfield 19, 3, 82, 0, [4, 6, 3, 23, 1, 0], []) rfl rfl rfl ?_
      refine ⟨((h.2 c1).1 c2).1, ?_⟩
      refine bGo hA 5 2 (164, .iload 5, 2, 83, 0, [5], []) rfl rfl rfl ?_
      refine bGo hA 5 3 (166, .iaload, 1, 84, 0, [], []) rfl rfl rfl ?_
      refine ⟨((h.2 c1).1 c2).2.1, (bIxP (x := l5) (n := bLen σ (256 * (1 * (l0 / 256) + 0) + 23)) h_l5 ((h.2 c1).1 c2).2.2.1), ?_⟩
      refine bEqL (x := l5) h_l5 ?_
      refine bGo hA 5 4 (167, .aload_n 1, 1, 85, 0, [1], []) rfl rfl rfl ?_
      refine bGo hA 5 5 (168, .getfield 19, 3, 86, 0, [4, 6, 3, 23, 1, 0], []) rfl rfl rfl ?_
      refine ⟨((h.2 c1).1 c2).2.2.2.1, ?_⟩
      refine bGo hA 5 6 (171, .iload 5, 2, 87, 0, [5], []) rfl rfl rfl ?_
      refine bGo hA 5 7 (173, .iaload, 1, 88, 0, [], []) rfl rfl rfl ?_
      refine ⟨((h.2 c1).1 c2).2.2.2.2.1, (bIxP (x := l5) (n := bLen σ (256 * (1 * (l1 / 256) + 0) + 23)) h_l5 ((h.2 c1).1 c2).2.2.2.2.2.1), ?_⟩
      refine bEqL (x := l5) h_l5 ?_
      refine bGo hA 5 8 (174, .if_icmp .ne (7), 3, 89, 91, [], []) rfl rfl rfl ?_
      refine bB_eq (x := (bi σ (256 * (1 * (l0 / 256) + 0) + 23) l5)) (y := (bi σ (256 * (1 * (l1 / 256) + 0) + 23) l5)) (bi_rg _ _ _) (bi_rg _ _ _) (fun c3 => ?_) (fun c3 => ?_)
      · refine bGo hA 5 9 (177, .iconst (1), 1, 90, 0, [], [(1, 0)]) rfl rfl rfl ?_
        refine bEqI bl_1 ?_
        refine bGo hA 5 10 (178, .goto (4), 3, 91, 92, [], []) rfl rfl rfl ?_
        refine bGo hA 5 12 (182, .istore_n 2, 1, 93, 0, [2], []) rfl rfl rfl ?_
        refine bGo hA 5 13 (183, .iinc 5 (1), 3, 94, 0, [5], [(1, 0)]) rfl rfl rfl ?_
        refine bEqC (fun v => A (94, [.ref l0, .ref l1, .int (bn 1), v3, .int (bn l4), .int v], [], σ)) ((congrArg (fun w => bn l5 + w) bl_1).trans (bn_add l5 1)) ?_
        refine bGo hA 5 14 (186, .goto (-37), 3, 95, 75, [], []) rfl rfl rfl ?_
        exact (((h.2 c1).1 c2).2.2.2.2.2.2.1 c3).2
      · refine bGo hA 5 11 (181, .iconst (0), 1, 92, 0, [], [(0, 0)]) rfl rfl rfl ?_
        refine bEqI bl_0 ?_
        refine bGo hA 5 12 (182, .istore_n 2, 1, 93, 0, [2], []) rfl rfl rfl ?_
        refine bGo hA 5 13 (183, .iinc 5 (1), 3, 94, 0, [5], [(1, 0)]) rfl rfl rfl ?_
        refine bEqC (fun v => A (94, [.ref l0, .ref l1, .int (bn 0), v3, .int (bn l4), .int v], [], σ)) ((congrArg (fun w => bn l5 + w) bl_1).trans (bn_add l5 1)) ?_
        refine bGo hA 5 14 (186, .goto (-37), 3, 95, 75, [], []) rfl rfl rfl ?_
        exact (((h.2 c1).1 c2).2.2.2.2.2.2.2 c3).2
    · refine bGo hA 5 15 (189, .iload_n 2, 1, 96, 0, [2], []) rfl rfl rfl ?_
      refine bGo hA 6 0 (190, .ireturn, 1, 0, 0, [2], []) rfl rfl rfl ?_
      exact ⟨b01 ((h.2 c1).2 c2).1, ((h.2 c1).2 c2).2⟩

theorem sq46_0 {lvl : Nat} {C : bCall} {Q : bPost} {A : bPt → Prop} (hC : bMono C) (hA : bClosed lvl bm46 C Q A) {x1 : Int} {x2 : Int} {x3 : Int} {σ : bSt}  (h_x1 : bRg x1) (h_x2 : bRg x2) (h_x3 : bRg x3)
  (h : (C 79 [.ref 6, .int (bn x1)] σ (bRn (fun r3 s1 => ((r3 = x1 → (C 80 [.ref 6, .int (bn r3)] s1 (bRn (fun r8 s6 => ((r8 = 0 → Q (.inl (some (.int (bn (-2))))) s6) ∧ (¬ r8 = 0 → (C 47 [.ref 5] s6 (bRv (fun s11 => (C 48 [.ref 5] s11 (bRv (fun s13 => (C 81 [.ref 6] s13 (bRv (fun s15 => (C 49 [.ref 5] s15 (bRv (fun s17 => (C 50 [.ref 5, .int (bn x2), .int (bn x3)] s17 (bRv (fun s19 => (C 63 [.ref 5] s19 (bRv (fun s21 => A (40, [.ref 5, .int (bn x1), .int (bn x2), .int (bn x3), .int (bn r3), .int (bn 0), .int (bn 0), .float 0], [], s21))))))))))))))))))))))))) ∧ (¬ r3 = x1 → ((x2 = 0 → (C 47 [.ref 5] s1 (bRv (fun s24 => Q (.inl (some (.int (bn (-1))))) s24)))) ∧ (¬ x2 = 0 → (C 80 [.ref 6, .int (bn r3)] s1 (bRn (fun r28 s26 => ((r28 = 0 → Q (.inl (some (.int (bn (-2))))) s26) ∧ (¬ r28 = 0 → (C 47 [.ref 5] s26 (bRv (fun s31 => (C 48 [.ref 5] s31 (bRv (fun s33 => (C 81 [.ref 6] s33 (bRv (fun s35 => (C 49 [.ref 5] s35 (bRv (fun s37 => (C 50 [.ref 5, .int (bn x2), .int (bn x3)] s37 (bRv (fun s39 => (C 63 [.ref 5] s39 (bRv (fun s41 => A (40, [.ref 5, .int (bn x1), .int (bn x2), .int (bn x3), .int (bn r3), .int (bn 0), .int (bn 0), .float 0], [], s41)))))))))))))))))))))))))))))))) : A (0, [.ref 5, .int (bn x1), .int (bn x2), .int (bn x3), .float 0, .float 0, .float 0, .float 0], [], σ) := by
  refine bGo hA 0 0 (0, .aload_n 0, 1, 1, 0, [0], []) rfl rfl rfl ?_
  refine bGo hA 0 1 (1, .getfield 55, 3, 2, 0, [5, 1, 3, 6, 0, 0], []) rfl rfl rfl ?_
  refine ⟨rfl, ?_⟩
  refine bGo hA 0 2 (4, .iload_n 1, 1, 3, 0, [1], []) rfl rfl rfl ?_
  refine bGo hA 0 3 (5, .invokevirtual 59, 3, 4, 0, [0, 6, 79, 1], []) rfl rfl rfl ?_
  refine ⟨rfl, ?_⟩
  refine hC _ _ _ _ _ (bRn_e (fun r3 s1 q4 k2 => ?_)) h
  show A (4, [.ref 5, .int (bn x1), .int (bn x2), .int (bn x3), .float 0, .float 0, .float 0, .float 0], [.int (bn r3)], s1)
  refine bGo hA 0 4 (8, .istore 4, 2, 5, 0, [4], []) rfl rfl rfl ?_
  refine bGo hA 0 5 (10, .iload 4, 2, 6, 0, [4], []) rfl rfl rfl ?_
  refine bGo hA 0 6 (12, .iload_n 1, 1, 7, 0, [1], []) rfl rfl rfl ?_
  refine bGo hA 0 7 (13, .if_icmp .eq (13), 3, 8, 14, [], []) rfl rfl rfl ?_
  refine bB_eq (x := r3) (y := x1) q4 h_x1 (fun c5 => ?_) (fun c5 => ?_)
  · refine bGo hA 0 14 (26, .aload_n 0, 1, 15, 0, [0], []) rfl rfl rfl ?_
    refine bGo hA 0 15 (27, .getfield 55, 3, 16, 0, [5, 1, 3, 6, 0, 0], []) rfl rfl rfl ?_
    refine ⟨rfl, ?_⟩
    refine bGo hA 1 0 (30, .iload 4, 2, 17, 0, [4], []) rfl rfl rfl ?_
    refine bGo hA 1 1 (32, .invokevirtual 68, 3, 18, 0, [0, 6, 80, 1], []) rfl rfl rfl ?_
    refine ⟨rfl, ?_⟩
    refine hC _ _ _ _ _ (bRn_e (fun r8 s6 q9 k7 => ?_)) (k2.1 c5)
    show A (18, [.ref 5, .int (bn x1), .int (bn x2), .int (bn x3), .int (bn r3), .float 0, .float 0, .float 0], [.int (bn r8)], s6)
    refine bGo hA 1 2 (35, .ifCond .ne (6), 3, 19, 21, [], []) rfl rfl rfl ?_
    refine bB_eq0 (x := r8) q9 (fun c10 => ?_) (fun c10 => ?_)
    · refine bGo hA 1 3 (38, .bipush (-2), 2, 20, 0, [], [(-2, 0)]) rfl rfl rfl ?_
      refine bEqI bl_m2 ?_
      refine bGo hA 1 4 (40, .ireturn, 1, 21, 0, [1], []) rfl rfl rfl ?_
      exact (k7.1 c10)
    · refine bGo hA 1 5 (41, .aload_n 0, 1, 22, 0, [0], []) rfl rfl rfl ?_
      refine bGo hA 1 6 (42, .invokevirtual 65, 3, 23, 0, [0, 5, 47, 0], []) rfl rfl rfl ?_
      refine ⟨rfl, ?_⟩
      refine hC _ _ _ _ _ (bRv_e (fun s11 k12 => ?_)) (k7.2 c10)
      show A (23, [.ref 5, .int (bn x1), .int (bn x2), .int (bn x3), .int (bn r3), .float 0, .float 0, .float 0], [], s11)
      refine bGo hA 1 7 (45, .aload_n 0, 1, 24, 0, [0], []) rfl rfl rfl ?_
      refine bGo hA 1 8 (46, .invokevirtual 72, 3, 25, 0, [0, 5, 48, 0], []) rfl rfl rfl ?_
      refine ⟨rfl, ?_⟩
      refine hC _ _ _ _ _ (bRv_e (fun s13 k14 => ?_)) k12
      show A (25, [.ref 5, .int (bn x1), .int (bn x2), .int (bn x3), .int (bn r3), .float 0, .float 0, .float 0], [], s13)
      refine bGo hA 1 9 (49, .aload_n 0, 1, 26, 0, [0], []) rfl rfl rfl ?_
      refine bGo hA 1 10 (50, .getfield 55, 3, 27, 0, [5, 1, 3, 6, 0, 0], []) rfl rfl rfl ?_
      refine ⟨rfl, ?_⟩
      refine bGo hA 1 11 (53, .invokevirtual 75, 3, 28, 0, [0, 6, 81, 0], []) rfl rfl rfl ?_
      refine ⟨rfl, ?_⟩
      refine hC _ _ _ _ _ (bRv_e (fun s15 k16 => ?_)) k14
      show A (28, [.ref 5, .int (bn x1), .int (bn x2), .int (bn x3), .int (bn r3), .float 0, .float 0, .float 0], [], s15)
      refine bGo hA 1 12 (56, .aload_n 0, 1, 29, 0, [0], []) rfl rfl rfl ?_
      refine bGo hA 1 13 (57, .invokevirtual 78, 3, 30, 0, [0, 5, 49, 0], []) rfl rfl rfl ?_
      refine ⟨rfl, ?_⟩
      refine hC _ _ _ _ _ (bRv_e (fun s17 k18 => ?_)) k16
      show A (30, [.ref 5, .int (bn x1), .int (bn x2), .int (bn x3), .int (bn r3), .float 0, .float 0, .float 0], [], s17)
      refine bGo hA 1 14 (60, .aload_n 0, 1, 31, 0, [0], []) rfl rfl rfl ?_
      refine bGo hA 1 15 (61, .iload_n 2, 1, 32, 0, [2], []) rfl rfl rfl ?_
      refine bGo hA 2 0 (62, .iload_n 3, 1, 33, 0, [3], []) rfl rfl rfl ?_
      refine bGo hA 2 1 (63, .invokevirtual 81, 3, 34, 0, [0, 5, 50, 2], []) rfl rfl rfl ?_
      refine ⟨rfl, ?_⟩
      refine hC _ _ _ _ _ (bRv_e (fun s19 k20 => ?_)) k18
      show A (34, [.ref 5, .int (bn x1), .int (bn x2), .int (bn x3), .int (bn r3), .float 0, .float 0, .float 0], [], s19)
      refine bGo hA 2 2 (66, .aload_n 0, 1, 35, 0, [0], []) rfl rfl rfl ?_
      refine bGo hA 2 3 (67, .invokevirtual 85, 3, 36, 0, [0, 5, 63, 0], []) rfl rfl rfl ?_
      refine ⟨rfl, ?_⟩
      refine hC _ _ _ _ _ (bRv_e (fun s21 k22 => ?_)) k20
      show A (36, [.ref 5, .int (bn x1), .int (bn x2), .int (bn x3), .int (bn r3), .float 0, .float 0, .float 0], [], s21)
      refine bGo hA 2 4 (70, .iconst (0), 1, 37, 0, [], [(0, 0)]) rfl rfl rfl ?_
      refine bEqI bl_0 ?_
      refine bGo hA 2 5 (71, .istore 5, 2, 38, 0, [5], []) rfl rfl rfl ?_
      refine bGo hA 2 6 (73, .iconst (0), 1, 39, 0, [], [(0, 0)]) rfl rfl rfl ?_
      refine bEqI bl_0 ?_
      refine bGo hA 2 7 (74, .istore 6, 2, 40, 0, [6], []) rfl rfl rfl ?_
      exact k22
  · refine bGo hA 0 8 (16, .iload_n 2, 1, 9, 0, [2], []) rfl rfl rfl ?_
    refine bGo hA 0 9 (17, .ifCond .ne (9), 3, 10, 14, [], []) rfl rfl rfl ?_
    refine bB_eq0 (x := x2) h_x2 (fun c23 => ?_) (fun c23 => ?_)
    · refine bGo hA 0 10 (20, .aload_n 0, 1, 11, 0, [0], []) rfl rfl rfl ?_
      refine bGo hA 0 11 (21, .invokevirtual 65, 3, 12, 0, [0, 5, 47, 0], []) rfl rfl rfl ?_
      refine ⟨rfl, ?_⟩
      refine hC _ _ _ _ _ (bRv_e (fun s24 k25 => ?_)) ((k2.2 c5).1 c23)
      show A (12, [.ref 5, .int (bn x1), .int (bn x2), .int (bn x3), .int (bn r3), .float 0, .float 0, .float 0], [], s24)
      refine bGo hA 0 12 (24, .iconst (-1), 1, 13, 0, [], [(-1, 0)]) rfl rfl rfl ?_
      refine bEqI bl_m1 ?_
      refine bGo hA 0 13 (25, .ireturn, 1, 14, 0, [1], []) rfl rfl rfl ?_
      exact k25
    · refine bGo hA 0 14 (26, .aload_n 0, 1, 15, 0, [0], []) rfl rfl rfl ?_
      refine bGo hA 0 15 (27, .getfield 55, 3, 16, 0, [5, 1, 3, 6, 0, 0], []) rfl rfl rfl ?_
      refine ⟨rfl, ?_⟩
      refine bGo hA 1 0 (30, .iload 4, 2, 17, 0, [4], []) rfl rfl rfl ?_
      refine bGo hA 1 1 (32, .invokevirtual 68, 3, 18, 0, [0, 6, 80, 1], []) rfl rfl rfl ?_
      refine ⟨rfl, ?_⟩
      refine hC _ _ _ _ _ (bRn_e (fun r28 s26 q29 k27 => ?_)) ((k2.2 c5).2 c23)
      show A (18, [.ref 5, .int (bn x1), .int (bn x2), .int (bn x3), .int (bn r3), .float 0, .float 0, .float 0], [.int (bn r28)], s26)
      refine bGo hA 1 2 (35, .ifCond .ne (6), 3, 19, 21, [], []) rfl rfl rfl ?_
      refine bB_eq0 (x := r28) q29 (fun c30 => ?_) (fun c30 => ?_)
      · refine bGo hA 1 3 (38, .bipush (-2), 2, 20, 0, [], [(-2, 0)]) rfl rfl rfl ?_
        refine bEqI bl_m2 ?_
        refine bGo hA 1 4 (40, .ireturn, 1, 21, 0, [1], []) rfl rfl rfl ?_
        exact (k27.1 c30)
      · refine bGo hA 1 5 (41, .aload_n 0, 1, 22, 0, [0], []) rfl rfl rfl ?_
        refine bGo hA 1 6 (42, .invokevirtual 65, 3, 23, 0, [0, 5, 47, 0], []) rfl rfl rfl ?_
        refine ⟨rfl, ?_⟩
        refine hC _ _ _ _ _ (bRv_e (fun s31 k32 => ?_)) (k27.2 c30)
        show A (23, [.ref 5, .int (bn x1), .int (bn x2), .int (bn x3), .int (bn r3), .float 0, .float 0, .float 0], [], s31)
        refine bGo hA 1 7 (45, .aload_n 0, 1, 24, 0, [0], []) rfl rfl rfl ?_
        refine bGo hA 1 8 (46, .invokevirtual 72, 3, 25, 0, [0, 5, 48, 0], []) rfl rfl rfl ?_
        refine ⟨rfl, ?_⟩
        refine hC _ _ _ _ _ (bRv_e (fun s33 k34 => ?_)) k32
        show A (25, [.ref 5, .int (bn x1), .int (bn x2), .int (bn x3), .int (bn r3), .float 0, .float 0, .float 0], [], s33)
        refine bGo hA 1 9 (49, .aload_n 0, 1, 26, 0, [0], []) rfl rfl rfl ?_
        refine bGo hA 1 10 (50, .getfield 55, 3, 27, 0, [5, 1, 3, 6, 0, 0], []) rfl rfl rfl ?_
        refine ⟨rfl, ?_⟩
        refine bGo hA 1 11 (53, .invokevirtual 75, 3, 28, 0, [0, 6, 81, 0], []) rfl rfl rfl ?_
        refine ⟨rfl, ?_⟩
        refine hC _ _ _ _ _ (bRv_e (fun s35 k36 => ?_)) k34
        show A (28, [.ref 5, .int (bn x1), .int (bn x2), .int (bn x3), .int (bn r3), .float 0, .float 0, .float 0], [], s35)
        refine bGo hA 1 12 (56, .aload_n 0, 1, 29, 0, [0], []) rfl rfl rfl ?_
        refine bGo hA 1 13 (57, .invokevirtual 78, 3, 30, 0, [0, 5, 49, 0], []) rfl rfl rfl ?_
        refine ⟨rfl, ?_⟩
        refine hC _ _ _ _ _ (bRv_e (fun s37 k38 => ?_)) k36
        show A (30, [.ref 5, .int (bn x1), .int (bn x2), .int (bn x3), .int (bn r3), .float 0, .float 0, .float 0], [], s37)
        refine bGo hA 1 14 (60, .aload_n 0, 1, 31, 0, [0], []) rfl rfl rfl ?_
        refine bGo hA 1 15 (61, .iload_n 2, 1, 32, 0, [2], []) rfl rfl rfl ?_
        refine bGo hA 2 0 (62, .iload_n 3, 1, 33, 0, [3], []) rfl rfl rfl ?_
        refine bGo hA 2 1 (63, .invokevirtual 81, 3, 34, 0, [0, 5, 50, 2], []) rfl rfl rfl ?_
        refine ⟨rfl, ?_⟩
        refine hC _ _ _ _ _ (bRv_e (fun s39 k40 => ?_)) k38
        show A (34, [.ref 5, .int (bn x1), .int (bn x2), .int (bn x3), .int (bn r3), .float 0, .float 0, .float 0], [], s39)
        refine bGo hA 2 2 (66, .aload_n 0, 1, 35, 0, [0], []) rfl rfl rfl ?_
        refine bGo hA 2 3 (67, .invokevirtual 85, 3, 36, 0, [0, 5, 63, 0], []) rfl rfl rfl ?_
        refine ⟨rfl, ?_⟩
        refine hC _ _ _ _ _ (bRv_e (fun s41 k42 => ?_)) k40
        show A (36, [.ref 5, .int (bn x1), .int (bn x2), .int (bn x3), .int (bn r3), .float 0, .float 0, .float 0], [], s41)
        refine bGo hA 2 4 (70, .iconst (0), 1, 37, 0, [], [(0, 0)]) rfl rfl rfl ?_
        refine bEqI bl_0 ?_
        refine bGo hA 2 5 (71, .istore 5, 2, 38, 0, [5], []) rfl rfl rfl ?_
        refine bGo hA 2 6 (73, .iconst (0), 1, 39, 0, [], [(0, 0)]) rfl rfl rfl ?_
        refine bEqI bl_0 ?_
        refine bGo hA 2 7 (74, .istore 6, 2, 40, 0, [6], []) rfl rfl rfl ?_
        exact k42

theorem sq46_40 {lvl : Nat} {C : bCall} {Q : bPost} {A : bPt → Prop} (hC : bMono C) (hA : bClosed lvl bm46 C Q A) {v1 : Value} {v2 : Value} {v3 : Value} {l4 : Int} {l5 : Int} {l6 : Int} {v7 : Value} {σ : bSt}  (h_l4 : bRg l4) (h_l5 : bRg l5) (h_l6 : bRg l6)
  (h : ((l6 < 16 → (((bAnd (bShr l4 l6) 1) = 1 → (C 82 [.ref 6, .int (bn l6)] σ (bRa (fun r6 s4 => (r6 % 256 = 0 ∧ (C 10 [.ref r6] s4 (bRn (fun r9 s7 => ((r9 = 0 → (bRg (l5 + 0) ∧ (bRg (l6 + 1) ∧ A (40, [.ref 5, v1, v2, v3, .int (bn l4), .int (bn (l5 + 0)), .int (bn (l6 + 1)), .int (bn 1)], [], s7)))) ∧ (¬ r9 = 0 → (bRg (l5 + 1) ∧ (bRg (l6 + 1) ∧ A (40, [.ref 5, v1, v2, v3, .int (bn l4), .int (bn (l5 + 1)), .int (bn (l6 + 1)), .int (bn 1)], [], s7))))))))))))) ∧ (¬ (bAnd (bShr l4 l6) 1) = 1 → (bRg (l5 + 0) ∧ (bRg (l6 + 1) ∧ A (40, [.ref 5, v1, v2, v3, .int (bn l4), .int (bn (l5 + 0)), .int (bn (l6 + 1)), .int (bn 0)], [], σ)))))) ∧ (¬ l6 < 16 → Q (.inl (some (.int (bn l5)))) σ))) : A (40, [.ref 5, v1, v2, v3, .int (bn l4), .int (bn l5), .int (bn l6), v7], [], σ) := by
  refine bGo hA 2 8 (76, .iload 6, 2, 41, 0, [6], []) rfl rfl rfl ?_
  refine bGo hA 2 9 (78, .bipush (16), 2, 42, 0, [], [(16, 0)]) rfl rfl rfl ?_
  refine bEqI bl_16 ?_
  refine bGo hA 2 10 (80, .if_icmp .ge (57), 3, 43, 70, [], []) rfl rfl rfl ?_
  refine bB_lt (x := l6) (y := 16) h_l6 (by decide : bRg 16) (fun c1 => ?_) (fun c1 => ?_)
  · refine bGo hA 2 11 (83, .iload 4, 2, 44, 0, [4], []) rfl rfl rfl ?_
    refine bGo hA 2 12 (85, .iload 6, 2, 45, 0, [6], []) rfl rfl rfl ?_
    refine bGo hA 2 13 (87, .ishr, 1, 46, 0, [], []) rfl rfl rfl ?_
    refine bEqI (bn_shr l4 l6) ?_
    refine bGo hA 2 14 (88, .iconst (1), 1, 47, 0, [], [(1, 0)]) rfl rfl rfl ?_
    refine bEqI bl_1 ?_
    refine bGo hA 2 15 (89, .iand, 1, 48, 0, [], []) rfl rfl rfl ?_
    refine bEqI (bn_and (bShr l4 l6) 1) ?_
    refine bGo hA 3 0 (90, .iconst (1), 1, 49, 0, [], [(1, 0)]) rfl rfl rfl ?_
    refine bEqI bl_1 ?_
    refine bGo hA 3 1 (91, .if_icmp .ne (7), 3, 50, 52, [], []) rfl rfl rfl ?_
    refine bB_eq (x := (bAnd (bShr l4 l6) 1)) (y := 1) (bRgI _) (by decide : bRg 1) (fun c2 => ?_) (fun c2 => ?_)
    · refine bGo hA 3 2 (94, .iconst (1), 1, 51, 0, [], [(1, 0)]) rfl rfl rfl ?_
      refine bEqI bl_1 ?_
      refine bGo hA 3 3 (95, .goto (4), 3, 52, 53, [], []) rfl rfl rfl ?_
      refine bGo hA 3 5 (99, .istore 7, 2, 54, 0, [7], []) rfl rfl rfl ?_
      refine bGo hA 3 6 (101, .iload 5, 2, 55, 0, [5], []) rfl rfl rfl ?_
      refine bGo hA 3 7 (103, .iload 7, 2, 56, 0, [7], []) rfl rfl rfl ?_
      refine bGo hA 3 8 (105, .ifCond .eq (22), 3, 57, 65, [], []) rfl rfl rfl ?_
      refine ⟨fun c => absurd c (by decide), fun _ => ?_⟩
      refine bGo hA 3 9 (108, .aload_n 0, 1, 58, 0, [0], []) rfl rfl rfl ?_
      refine bGo hA 3 10 (109, .getfield 55, 3, 59, 0, [5, 1, 3, 6, 0, 0], []) rfl rfl rfl ?_
      refine ⟨rfl, ?_⟩
      refine bGo hA 3 11 (112, .iload 6, 2, 60, 0, [6], []) rfl rfl rfl ?_
      refine bGo hA 3 12 (114, .invokevirtual 88, 3, 61, 0, [0, 6, 82, 1], []) rfl rfl rfl ?_
      refine ⟨rfl, ?_⟩
      refine hC _ _ _ _ _ (bRa_e (fun r6 s4 k5 => ?_)) ((h.1 c1).1 c2)
      show A (61, [.ref 5, v1, v2, v3, .int (bn l4), .int (bn l5), .int (bn l6), .int (bn 1)], [.ref r6, .int (bn l5)], s4)
      refine bGo hA 3 13 (117, .invokevirtual 92, 3, 62, 0, [0, 0, 10, 0], []) rfl rfl rfl ?_
      refine ⟨k5.1, ?_⟩
      refine hC _ _ _ _ _ (bRn_e (fun r9 s7 q10 k8 => ?_)) k5.2
      show A (62, [.ref 5, v1, v2, v3, .int (bn l4), .int (bn l5), .int (bn l6), .int (bn 1)], [.int (bn r9), .int (bn l5)], s7)
      refine bGo hA 3 14 (120, .ifCond .eq (7), 3, 63, 65, [], []) rfl rfl rfl ?_
      refine bB_eq0 (x := r9) q10 (fun c11 => ?_) (fun c11 => ?_)
      · refine bGo hA 4 1 (127, .iconst (0), 1, 66, 0, [], [(0, 0)]) rfl rfl rfl ?_
        refine bEqI bl_0 ?_
        refine bGo hA 4 2 (128, .iadd, 1, 67, 0, [], []) rfl rfl rfl ?_
        refine bEqI (bn_add l5 0) ?_
        refine bGo hA 4 3 (129, .istore 5, 2, 68, 0, [5], []) rfl rfl rfl ?_
        refine bGo hA 4 4 (131, .iinc 6 (1), 3, 69, 0, [6], [(1, 0)]) rfl rfl rfl ?_
        refine bEqC (fun v => A (69, [.ref 5, v1, v2, v3, .int (bn l4), .int (bn (l5 + 0)), .int v, .int (bn 1)], [], s7)) ((congrArg (fun w => bn l6 + w) bl_1).trans (bn_add l6 1)) ?_
        refine bGo hA 4 5 (134, .goto (-58), 3, 70, 40, [], []) rfl rfl rfl ?_
        exact (k8.1 c11).2.2
      · refine bGo hA 3 15 (123, .iconst (1), 1, 64, 0, [], [(1, 0)]) rfl rfl rfl ?_
        refine bEqI bl_1 ?_
        refine bGo hA 4 0 (124, .goto (4), 3, 65, 66, [], []) rfl rfl rfl ?_
        refine bGo hA 4 2 (128, .iadd, 1, 67, 0, [], []) rfl rfl rfl ?_
        refine bEqI (bn_add l5 1) ?_
        refine bGo hA 4 3 (129, .istore 5, 2, 68, 0, [5], []) rfl rfl rfl ?_
        refine bGo hA 4 4 (131, .iinc 6 (1), 3, 69, 0, [6], [(1, 0)]) rfl rfl rfl ?_
        refine bEqC (fun v => A (69, [.ref 5, v1, v2, v3, .int (bn l4), .int (bn (l5 + 1)), .int v, .int (bn 1)], [], s7)) ((congrArg (fun w => bn l6 + w) bl_1).trans (bn_add l6 1)) ?_
        refine bGo hA 4 5 (134, .goto (-58), 3, 70, 40, [], []) rfl rfl rfl ?_
        exact (k8.2 c11).2.2
    · refine bGo hA 3 4 (98, .iconst (0), 1, 53, 0, [], [(0, 0)]) rfl rfl rfl ?_
      refine bEqI bl_0 ?_
      refine bGo hA 3 5 (99, .istore 7, 2, 54, 0, [7], []) rfl rfl rfl ?_
      refine bGo hA 3 6 (101, .iload 5, 2, 55, 0, [5], []) rfl rfl rfl ?_
      refine bGo hA 3 7 (103, .iload 7, 2, 56, 0, [7], []) rfl rfl rfl ?_
      refine bGo hA 3 8 (105, .ifCond .eq (22), 3, 57, 65, [], []) rfl rfl rfl ?_
      refine ⟨fun _ => ?_, fun c => absurd (by decide) c⟩
      refine bGo hA 4 1 (127, .iconst (0), 1, 66, 0, [], [(0, 0)]) rfl rfl rfl ?_
      refine bEqI bl_0 ?_
      refine bGo hA 4 2 (128, .iadd, 1, 67, 0, [], []) rfl rfl rfl ?_
      refine bEqI (bn_add l5 0) ?_
      refine bGo hA 4 3 (129, .istore 5, 2, 68, 0, [5], []) rfl rfl rfl ?_
      refine bGo hA 4 4 (131, .iinc 6 (1), 3, 69, 0, [6], [(1, 0)]) rfl rfl rfl ?_
      refine bEqC (fun v => A (69, [.ref 5, v1, v2, v3, .int (bn l4), .int (bn (l5 + 0)), .int v, .int (bn 0)], [], σ)) ((congrArg (fun w => bn l6 + w) bl_1).trans (bn_add l6 1)) ?_
      refine bGo hA 4 5 (134, .goto (-58), 3, 70, 40, [], []) rfl rfl rfl ?_
      exact ((h.1 c1).2 c2).2.2
  · refine bGo hA 4 6 (137, .iload 5, 2, 71, 0, [5], []) rfl rfl rfl ?_
    refine bGo hA 4 7 (139, .ireturn, 1, 0, 0, [1], []) rfl rfl rfl ?_
    exact (h.2 c1)

theorem sq47_0 {lvl : Nat} {C : bCall} {Q : bPost} {A : bPt → Prop} (hC : bMono C) (hA : bClosed lvl bm47 C Q A)  {σ : bSt}  
  (h : (C 361 [.ref 24, .int (bn 0)] σ (bRv (fun s1 => A (15, [.ref 5, .int (bn 0)], [], (bw (bw (bw s1 5 8 (-1)) 5 9 0) 5 10 0)))))) : A (0, [.ref 5, .float 0], [], σ) := by
  refine bGo hA 0 0 (0, .aload_n 0, 1, 1, 0, [0], []) rfl rfl rfl ?_
  refine bGo hA 0 1 (1, .getfield 38, 3, 2, 0, [5, 7, 3, 24, 1, 0], []) rfl rfl rfl ?_
  refine ⟨rfl, ?_⟩
  refine bGo hA 0 2 (4, .iconst (0), 1, 3, 0, [], [(0, 0)]) rfl rfl rfl ?_
  refine bEqI bl_0 ?_
  refine bGo hA 0 3 (5, .invokestatic 98, 3, 4, 0, [2, 361, 2], []) rfl rfl rfl ?_
  refine hC _ _ _ _ _ (bRv_e (fun s1 k2 => ?_)) h
  show A (4, [.ref 5, .float 0], [], s1)
  refine bGo hA 0 4 (8, .aload_n 0, 1, 5, 0, [0], []) rfl rfl rfl ?_
  refine bGo hA 0 5 (9, .iconst (-1), 1, 6, 0, [], [(-1, 0)]) rfl rfl rfl ?_
  refine bEqI bl_m1 ?_
  refine bGo hA 0 6 (10, .putfield 42, 3, 7, 0, [5, 8, 0, 0, 0, 0], []) rfl rfl rfl ?_
  refine ⟨rfl, ?_⟩
  refine bGo hA 0 7 (13, .aload_n 0, 1, 8, 0, [0], []) rfl rfl rfl ?_
  refine bGo hA 0 8 (14, .iconst (0), 1, 9, 0, [], [(0, 0)]) rfl rfl rfl ?_
  refine bEqI bl_0 ?_
  refine bGo hA 0 9 (15, .putfield 104, 3, 10, 0, [5, 9, 0, 0, 0, 0], []) rfl rfl rfl ?_
  refine ⟨rfl, ?_⟩
  refine bGo hA 0 10 (18, .aload_n 0, 1, 11, 0, [0], []) rfl rfl rfl ?_
  refine bGo hA 0 11 (19, .iconst (0), 1, 12, 0, [], [(0, 0)]) rfl rfl rfl ?_
  refine bEqI bl_0 ?_
  refine bGo hA 0 12 (20, .putfield 107, 3, 13, 0, [5, 10, 1, 0, 0, 0], []) rfl rfl rfl ?_
  refine ⟨rfl, b01 (Or.inl rfl), ?_⟩
  refine bGo hA 0 13 (23, .iconst (0), 1, 14, 0, [], [(0, 0)]) rfl rfl rfl ?_
  refine bEqI bl_0 ?_
  refine bGo hA 0 14 (24, .istore_n 1, 1, 15, 0, [1], []) rfl rfl rfl ?_
  exact k2

theorem sq47_15 {lvl : Nat} {C : bCall} {Q : bPost} {A : bPt → Prop} (hC : bMono C) (hA : bClosed lvl bm47 C Q A) {l1 : Int} {σ : bSt}  (h_l1 : bRg l1)
  (h : ((l1 < (bi σ 6 13) → (C 89 [.ref 6, .int (bn l1)] σ (bRa (fun r4 s2 => (r4 % 256 = 0 ∧ (C 8 [.ref r4] s2 (bRv (fun s5 => (bRg (l1 + 1) ∧ A (15, [.ref 5, .int (bn (l1 + 1))], [], s5)))))))))) ∧ (¬ l1 < (bi σ 6 13) → Q (.inl none) σ))) : A (15, [.ref 5, .int (bn l1)], [], σ) := by
  refine bGo hA 0 15 (25, .iload_n 1, 1, 16, 0, [1], []) rfl rfl rfl ?_
  refine bGo hA 1 0 (26, .aload_n 0, 1, 17, 0, [0], []) rfl rfl rfl ?_
  refine bGo hA 1 1 (27, .getfield 55, 3, 18, 0, [5, 1, 3, 6, 0, 0], []) rfl rfl rfl ?_
  refine ⟨rfl, ?_⟩
  refine bGo hA 1 2 (30, .getfield 110, 3, 19, 0, [6, 13, 0, 0, 0, 0], []) rfl rfl rfl ?_
  refine ⟨rfl, ?_⟩
  refine bEqI (bn_bi σ 6 13) ?_
  refine bGo hA 1 3 (33, .if_icmp .ge (20), 3, 20, 27, [], []) rfl rfl rfl ?_
  refine bB_lt (x := l1) (y := (bi σ 6 13)) h_l1 (bi_rg _ _ _) (fun c1 => ?_) (fun c1 => ?_)
  · refine bGo hA 1 4 (36, .aload_n 0, 1, 21, 0, [0], []) rfl rfl rfl ?_
    refine bGo hA 1 5 (37, .getfield 55, 3, 22, 0, [5, 1, 3, 6, 0, 0], []) rfl rfl rfl ?_
    refine ⟨rfl, ?_⟩
    refine bGo hA 1 6 (40, .iload_n 1, 1, 23, 0, [1], []) rfl rfl rfl ?_
    refine bGo hA 1 7 (41, .invokevirtual 113, 3, 24, 0, [0, 6, 89, 1], []) rfl rfl rfl ?_
    refine ⟨rfl, ?_⟩
    refine hC _ _ _ _ _ (bRa_e (fun r4 s2 k3 => ?_)) (h.1 c1)
    show A (24, [.ref 5, .int (bn l1)], [.ref r4], s2)
    refine bGo hA 1 8 (44, .invokevirtual 116, 3, 25, 0, [0, 0, 8, 0], []) rfl rfl rfl ?_
    refine ⟨k3.1, ?_⟩
    refine hC _ _ _ _ _ (bRv_e (fun s5 k6 => ?_)) k3.2
    show A (25, [.ref 5, .int (bn l1)], [], s5)
    refine bGo hA 1 9 (47, .iinc 1 (1), 3, 26, 0, [1], [(1, 0)]) rfl rfl rfl ?_
    refine bEqC (fun v => A (26, [.ref 5, .int v], [], s5)) ((congrArg (fun w => bn l1 + w) bl_1).trans (bn_add l1 1)) ?_
    refine bGo hA 1 10 (50, .goto (-25), 3, 27, 15, [], []) rfl rfl rfl ?_
    exact k6.2
  · refine bGo hA 1 11 (53, .return_, 1, 0, 0, [0], []) rfl rfl rfl ?_
    exact (h.2 c1)

theorem sq48_0 {lvl : Nat} {C : bCall} {Q : bPost} {A : bPt → Prop} (hC : bMono C) (hA : bClosed lvl bm48 C Q A)  {σ : bSt}  
  (h : A (2, [.ref 5, .int (bn 0)], [], σ)) : A (0, [.ref 5, .float 0], [], σ) := by
  refine bGo hA 0 0 (0, .iconst (0), 1, 1, 0, [], [(0, 0)]) rfl rfl rfl ?_
  refine bEqI bl_0 ?_
  refine bGo hA 0 1 (1, .istore_n 1, 1, 2, 0, [1], []) rfl rfl rfl ?_
  exact h

theorem sq48_2 {lvl : Nat} {C : bCall} {Q : bPost} {A : bPt → Prop} (hC : bMono C) (hA : bClosed lvl bm48 C Q A) {l1 : Int} {σ : bSt}  (h_l1 : bRg l1)
  (h : ((l1 < 48 → (C 31 [.ref 3, .int (bn l1)] σ (bRn (fun r4 s2 => (C 21 [.ref 1, .int (bn r4)] s2 (bRv (fun s6 => (bRg (l1 + 1) ∧ A (2, [.ref 5, .int (bn (l1 + 1))], [], s6))))))))) ∧ (¬ l1 < 48 → Q (.inl none) σ))) : A (2, [.ref 5, .int (bn l1)], [], σ) := by
  refine bGo hA 0 2 (2, .iload_n 1, 1, 3, 0, [1], []) rfl rfl rfl ?_
  refine bGo hA 0 3 (3, .bipush (48), 2, 4, 0, [], [(48, 0)]) rfl rfl rfl ?_
  refine bEqI bl_48 ?_
  refine bGo hA 0 4 (5, .if_icmp .ge (24), 3, 5, 14, [], []) rfl rfl rfl ?_
  refine bB_lt (x := l1) (y := 48) h_l1 (by decide : bRg 48) (fun c1 => ?_) (fun c1 => ?_)
  · refine bGo hA 0 5 (8, .aload_n 0, 1, 6, 0, [0], []) rfl rfl rfl ?_
    refine bGo hA 0 6 (9, .getfield 14, 3, 7, 0, [5, 2, 3, 1, 0, 0], []) rfl rfl rfl ?_
    refine ⟨rfl, ?_⟩
    refine bGo hA 0 7 (12, .aload_n 0, 1, 8, 0, [0], []) rfl rfl rfl ?_
    refine bGo hA 0 8 (13, .getfield 51, 3, 9, 0, [5, 0, 3, 3, 0, 0], []) rfl rfl rfl ?_
    refine ⟨rfl, ?_⟩
    refine bGo hA 0 9 (16, .iload_n 1, 1, 10, 0, [1], []) rfl rfl rfl ?_
    refine bGo hA 0 10 (17, .invokevirtual 119, 3, 11, 0, [0, 3, 31, 1], []) rfl rfl rfl ?_
    refine ⟨rfl, ?_⟩
    refine hC _ _ _ _ _ (bRn_e (fun r4 s2 q5 k3 => ?_)) (h.1 c1)
    show A (11, [.ref 5, .int (bn l1)], [.int (bn r4), .ref 1], s2)
    refine bGo hA 0 11 (20, .invokevirtual 124, 3, 12, 0, [0, 1, 21, 1], []) rfl rfl rfl ?_
    refine ⟨rfl, ?_⟩
    refine hC _ _ _ _ _ (bRv_e (fun s6 k7 => ?_)) k3
    show A (12, [.ref 5, .int (bn l1)], [], s6)
    refine bGo hA 0 12 (23, .iinc 1 (1), 3, 13, 0, [1], [(1, 0)]) rfl rfl rfl ?_
    refine bEqC (fun v => A (13, [.ref 5, .int v], [], s6)) ((congrArg (fun w => bn l1 + w) bl_1).trans (bn_add l1 1)) ?_
    refine bGo hA 0 13 (26, .goto (-24), 3, 14, 2, [], []) rfl rfl rfl ?_
    exact k7.2
  · refine bGo hA 0 14 (29, .return_, 1, 0, 0, [0], []) rfl rfl rfl ?_
    exact (h.2 c1)

theorem sq49_0 {lvl : Nat} {C : bCall} {Q : bPost} {A : bPt → Prop} (hC : bMono C) (hA : bClosed lvl bm49 C Q A)  {σ : bSt}  
  (h : (bRg ((bi σ 6 13) - 1) ∧ A (6, [.ref 5, .int (bn ((bi σ 6 13) - 1)), .float 0, .float 0, .float 0, .float 0], [], σ))) : A (0, [.ref 5, .float 0, .float 0, .float 0, .float 0, .float 0], [], σ) := by
  refine bGo hA 0 0 (0, .aload_n 0, 1, 1, 0, [0], []) rfl rfl rfl ?_
  refine bGo hA 0 1 (1, .getfield 55, 3, 2, 0, [5, 1, 3, 6, 0, 0], []) rfl rfl rfl ?_
  refine ⟨rfl, ?_⟩
  refine bGo hA 0 2 (4, .getfield 110, 3, 3, 0, [6, 13, 0, 0, 0, 0], []) rfl rfl rfl ?_
  refine ⟨rfl, ?_⟩
  refine bEqI (bn_bi σ 6 13) ?_
  refine bGo hA 0 3 (7, .iconst (1), 1, 4, 0, [], [(1, 0)]) rfl rfl rfl ?_
  refine bEqI bl_1 ?_
  refine bGo hA 0 4 (8, .isub, 1, 5, 0, [], []) rfl rfl rfl ?_
  refine bEqI (bn_sub (bi σ 6 13) 1) ?_
  refine bGo hA 0 5 (9, .istore_n 1, 1, 6, 0, [1], []) rfl rfl rfl ?_
  exact h.2

theorem sq49_6 {lvl : Nat} {C : bCall} {Q : bPost} {A : bPt → Prop} (hC : bMono C) (hA : bClosed lvl bm49 C Q A) {l1 : Int} {v2 : Value} {v3 : Value} {v4 : Value} {v5 : Value} {σ : bSt}  (h_l1 : bRg l1)
  (h : ((l1 < 0 → Q (.inl none) σ) ∧ (¬ l1 < 0 → (C 89 [.ref 6, .int (bn l1)] σ (bRa (fun r4 s2 => (r4 % 256 = 0 ∧ (bRg ((bi s2 r4 9) + (bi s2 r4 7)) ∧ A (22, [.ref 5, .int (bn l1), .ref r4, .int (bn 0), v4, v5], [], (bw s2 r4 9 ((bi s2 r4 9) + (bi s2 r4 7)))))))))))) : A (6, [.ref 5, .int (bn l1), v2, v3, v4, v5], [], σ) := by
  refine bGo hA 0 6 (10, .iload_n 1, 1, 7, 0, [1], []) rfl rfl rfl ?_
  refine bGo hA 0 7 (11, .ifCond .lt (95), 3, 8, 52, [], []) rfl rfl rfl ?_
  refine bB_lt0 (x := l1) h_l1 (fun c1 => ?_) (fun c1 => ?_)
  · refine bGo hA 3 4 (106, .return_, 1, 0, 0, [0], []) rfl rfl rfl ?_
    exact (h.1 c1)
  · refine bGo hA 0 8 (14, .aload_n 0, 1, 9, 0, [0], []) rfl rfl rfl ?_
    refine bGo hA 0 9 (15, .getfield 55, 3, 10, 0, [5, 1, 3, 6, 0, 0], []) rfl rfl rfl ?_
    refine ⟨rfl, ?_⟩
    refine bGo hA 0 10 (18, .iload_n 1, 1, 11, 0, [1], []) rfl rfl rfl ?_
    refine bGo hA 0 11 (19, .invokevirtual 113, 3, 12, 0, [0, 6, 89, 1], []) rfl rfl rfl ?_
    refine ⟨rfl, ?_⟩
    refine hC _ _ _ _ _ (bRa_e (fun r4 s2 k3 => ?_)) (h.2 c1)
    show A (12, [.ref 5, .int (bn l1), v2, v3, v4, v5], [.ref r4], s2)
    refine bGo hA 0 12 (22, .astore_n 2, 1, 13, 0, [2], []) rfl rfl rfl ?_
    refine bGo hA 0 13 (23, .aload_n 2, 1, 14, 0, [2], []) rfl rfl rfl ?_
    refine bGo hA 0 14 (24, .dup, 1, 15, 0, [], []) rfl rfl rfl ?_
    refine bGo hA 0 15 (25, .getfield 127, 3, 16, 0, [0, 9, 0, 0, 0, 0], []) rfl rfl rfl ?_
    refine ⟨k3.1, ?_⟩
    refine bEqI (bn_bi s2 r4 9) ?_
    refine bGo hA 1 0 (28, .aload_n 2, 1, 17, 0, [2], []) rfl rfl rfl ?_
    refine bGo hA 1 1 (29, .getfield 130, 3, 18, 0, [0, 7, 0, 0, 0, 0], []) rfl rfl rfl ?_
    refine ⟨k3.1, ?_⟩
    refine bEqI (bn_bi s2 r4 7) ?_
    refine bGo hA 1 2 (32, .iadd, 1, 19, 0, [], []) rfl rfl rfl ?_
    refine bEqI (bn_add (bi s2 r4 9) (bi s2 r4 7)) ?_
    refine bGo hA 1 3 (33, .putfield 127, 3, 20, 0, [0, 9, 0, 0, 0, 0], []) rfl rfl rfl ?_
    refine ⟨k3.1, ?_⟩
    refine bGo hA 1 4 (36, .iconst (0), 1, 21, 0, [], [(0, 0)]) rfl rfl rfl ?_
    refine bEqI bl_0 ?_
    refine bGo hA 1 5 (37, .istore_n 3, 1, 22, 0, [3], []) rfl rfl rfl ?_
    exact k3.2.2

theorem sq49_22 {lvl : Nat} {C : bCall} {Q : bPost} {A : bPt → Prop} (hC : bMono C) (hA : bClosed lvl bm49 C Q A) {l1 : Int} {l2 : Nat} {l3 : Int} {v4 : Value} {v5 : Value} {σ : bSt}  (h_l1 : bRg l1) (h_l3 : bRg l3)
  (h : (l2 % 256 = 0 ∧ (((bi σ l2 5) = 0 → (bRg (l1 + (-1)) ∧ A (6, [.ref 5, .int (bn (l1 + (-1))), .ref l2, .int (bn l3), v4, v5], [], σ))) ∧ (¬ (bi σ l2 5) = 0 → ((l3 < (bi σ l2 1) → (C 5 [.ref l2, .int (bn l3)] σ (bRn (fun r5 s3 => ((r5 = (-1) → (bRg (l3 + 1) ∧ A (22, [.ref 5, .int (bn l1), .ref l2, .int (bn (l3 + 1)), .int (bn r5), v5], [], s3))) ∧ (¬ r5 = (-1) → (C 89 [.ref 6, .int (bn r5)] s3 (bRa (fun r10 s8 => (r10 % 256 = 0 ∧ (C 359 [.int (bn (bi s8 r10 9)), .int (bn (bi s8 l2 9))] s8 (bRn (fun r13 s11 => (bRg (l3 + 1) ∧ A (22, [.ref 5, .int (bn l1), .ref l2, .int (bn (l3 + 1)), .int (bn r5), .ref r10], [], (bw s11 r10 9 r13)))))))))))))))) ∧ (¬ l3 < (bi σ l2 1) → (bRg (l1 + (-1)) ∧ A (6, [.ref 5, .int (bn (l1 + (-1))), .ref l2, .int (bn l3), v4, v5], [], σ)))))))) : A (22, [.ref 5, .int (bn l1), .ref l2, .int (bn l3), v4, v5], [], σ) := by
  refine bGo hA 1 6 (38, .aload_n 2, 1, 23, 0, [2], []) rfl rfl rfl ?_
  refine bGo hA 1 7 (39, .getfield 133, 3, 24, 0, [0, 5, 1, 0, 0, 0], []) rfl rfl rfl ?_
  refine ⟨h.1, ?_⟩
  refine bEqI (bn_bi σ l2 5) ?_
  refine bGo hA 1 8 (42, .ifCond .eq (58), 3, 25, 50, [], []) rfl rfl rfl ?_
  refine bB_eq0 (x := (bi σ l2 5)) (bi_rg _ _ _) (fun c1 => ?_) (fun c1 => ?_)
  · refine bGo hA 3 2 (100, .iinc 1 (-1), 3, 51, 0, [1], [(-1, 0)]) rfl rfl rfl ?_
    refine bEqC (fun v => A (51, [.ref 5, .int v, .ref l2, .int (bn l3), v4, v5], [], σ)) ((congrArg (fun w => bn l1 + w) bl_m1).trans (bn_add l1 (-1))) ?_
    refine bGo hA 3 3 (103, .goto (-93), 3, 52, 6, [], []) rfl rfl rfl ?_
    exact (h.2.1 c1).2
  · refine bGo hA 1 9 (45, .iload_n 3, 1, 26, 0, [3], []) rfl rfl rfl ?_
    refine bGo hA 1 10 (46, .aload_n 2, 1, 27, 0, [2], []) rfl rfl rfl ?_
    refine bGo hA 1 11 (47, .getfield 136, 3, 28, 0, [0, 1, 0, 0, 0, 0], []) rfl rfl rfl ?_
    refine ⟨h.1, ?_⟩
    refine bEqI (bn_bi σ l2 1) ?_
    refine bGo hA 1 12 (50, .if_icmp .ge (50), 3, 29, 50, [], []) rfl rfl rfl ?_
    refine bB_lt (x := l3) (y := (bi σ l2 1)) h_l3 (bi_rg _ _ _) (fun c2 => ?_) (fun c2 => ?_)
    · refine bGo hA 1 13 (53, .aload_n 2, 1, 30, 0, [2], []) rfl rfl rfl ?_
      refine bGo hA 1 14 (54, .iload_n 3, 1, 31, 0, [3], []) rfl rfl rfl ?_
      refine bGo hA 1 15 (55, .invokevirtual 139, 3, 32, 0, [0, 0, 5, 1], []) rfl rfl rfl ?_
      refine ⟨h.1, ?_⟩
      refine hC _ _ _ _ _ (bRn_e (fun r5 s3 q6 k4 => ?_)) ((h.2.2 c1).1 c2)
      show A (32, [.ref 5, .int (bn l1), .ref l2, .int (bn l3), v4, v5], [.int (bn r5)], s3)
      refine bGo hA 2 0 (58, .istore 4, 2, 33, 0, [4], []) rfl rfl rfl ?_
      refine bGo hA 2 1 (60, .iload 4, 2, 34, 0, [4], []) rfl rfl rfl ?_
      refine bGo hA 2 2 (62, .iconst (-1), 1, 35, 0, [], [(-1, 0)]) rfl rfl rfl ?_
      refine bEqI bl_m1 ?_
      refine bGo hA 2 3 (63, .if_icmp .eq (31), 3, 36, 48, [], []) rfl rfl rfl ?_
      refine bB_eq (x := r5) (y := (-1)) q6 (by decide : bRg (-1)) (fun c7 => ?_) (fun c7 => ?_)
      · refine bGo hA 3 0 (94, .iinc 3 (1), 3, 49, 0, [3], [(1, 0)]) rfl rfl rfl ?_
        refine bEqC (fun v => A (49, [.ref 5, .int (bn l1), .ref l2, .int v, .int (bn r5), v5], [], s3)) ((congrArg (fun w => bn l3 + w) bl_1).trans (bn_add l3 1)) ?_
        refine bGo hA 3 1 (97, .goto (-59), 3, 50, 22, [], []) rfl rfl rfl ?_
        exact (k4.1 c7).2
      · refine bGo hA 2 4 (66, .aload_n 0, 1, 37, 0, [0], []) rfl rfl rfl ?_
        refine bGo hA 2 5 (67, .getfield 55, 3, 38, 0, [5, 1, 3, 6, 0, 0], []) rfl rfl rfl ?_
        refine ⟨rfl, ?_⟩
        refine bGo hA 2 6 (70, .iload 4, 2, 39, 0, [4], []) rfl rfl rfl ?_
        refine bGo hA 2 7 (72, .invokevirtual 113, 3, 40, 0, [0, 6, 89, 1], []) rfl rfl rfl ?_
        refine ⟨rfl, ?_⟩
        refine hC _ _ _ _ _ (bRa_e (fun r10 s8 k9 => ?_)) (k4.2 c7)
        show A (40, [.ref 5, .int (bn l1), .ref l2, .int (bn l3), .int (bn r5), v5], [.ref r10], s8)
        refine bGo hA 2 8 (75, .astore 5, 2, 41, 0, [5], []) rfl rfl rfl ?_
        refine bGo hA 2 9 (77, .aload 5, 2, 42, 0, [5], []) rfl rfl rfl ?_
        refine bGo hA 2 10 (79, .aload 5, 2, 43, 0, [5], []) rfl rfl rfl ?_
        refine bGo hA 2 11 (81, .getfield 127, 3, 44, 0, [0, 9, 0, 0, 0, 0], []) rfl rfl rfl ?_
        refine ⟨k9.1, ?_⟩
        refine bEqI (bn_bi s8 r10 9) ?_
        refine bGo hA 2 12 (84, .aload_n 2, 1, 45, 0, [2], []) rfl rfl rfl ?_
        refine bGo hA 2 13 (85, .getfield 127, 3, 46, 0, [0, 9, 0, 0, 0, 0], []) rfl rfl rfl ?_
        refine ⟨h.1, ?_⟩
        refine bEqI (bn_bi s8 l2 9) ?_
        refine bGo hA 2 14 (88, .invokestatic 142, 3, 47, 0, [2, 359, 2], []) rfl rfl rfl ?_
        refine hC _ _ _ _ _ (bRn_e (fun r13 s11 q14 k12 => ?_)) k9.2
        show A (47, [.ref 5, .int (bn l1), .ref l2, .int (bn l3), .int (bn r5), .ref r10], [.int (bn r13), .ref r10], s11)
        refine bGo hA 2 15 (91, .putfield 127, 3, 48, 0, [0, 9, 0, 0, 0, 0], []) rfl rfl rfl ?_
        refine ⟨k9.1, ?_⟩
        refine bGo hA 3 0 (94, .iinc 3 (1), 3, 49, 0, [3], [(1, 0)]) rfl rfl rfl ?_
        refine bEqC (fun v => A (49, [.ref 5, .int (bn l1), .ref l2, .int v, .int (bn r5), .ref r10], [], (bw s11 r10 9 r13))) ((congrArg (fun w => bn l3 + w) bl_1).trans (bn_add l3 1)) ?_
        refine bGo hA 3 1 (97, .goto (-59), 3, 50, 22, [], []) rfl rfl rfl ?_
        exact k12.2
    · refine bGo hA 3 2 (100, .iinc 1 (-1), 3, 51, 0, [1], [(-1, 0)]) rfl rfl rfl ?_
      refine bEqC (fun v => A (51, [.ref 5, .int v, .ref l2, .int (bn l3), v4, v5], [], σ)) ((congrArg (fun w => bn l1 + w) bl_m1).trans (bn_add l1 (-1))) ?_
      refine bGo hA 3 3 (103, .goto (-93), 3, 52, 6, [], []) rfl rfl rfl ?_
      exact ((h.2.2 c1).2 c2).2

theorem sq50_0 {lvl : Nat} {C : bCall} {Q : bPost} {A : bPt → Prop} (hC : bMono C) (hA : bClosed lvl bm50 C Q A) {x1 : Int} {x2 : Int} {σ : bSt}  (h_x1 : bRg x1) (h_x2 : bRg x2)
  (h : A (2, [.ref 5, .int (bn x1), .int (bn x2), .int (bn 0), .float 0], [], σ)) : A (0, [.ref 5, .int (bn x1), .int (bn x2), .float 0, .float 0], [], σ) := by
  refine bGo hA 0 0 (0, .iconst (0), 1, 1, 0, [], [(0, 0)]) rfl rfl rfl ?_
  refine bEqI bl_0 ?_
  refine bGo hA 0 1 (1, .istore_n 3, 1, 2, 0, [3], []) rfl rfl rfl ?_
  exact h

theorem sq50_2 {lvl : Nat} {C : bCall} {Q : bPost} {A : bPt → Prop} (hC : bMono C) (hA : bClosed lvl bm50 C Q A) {l1 : Int} {l2 : Int} {l3 : Int} {v4 : Value} {σ : bSt}  (h_l1 : bRg l1) (h_l2 : bRg l2) (h_l3 : bRg l3)
  (h : ((l3 < 100000 → (C 52 [.ref 5, .int (bn l1)] σ (bRv (fun s2 => ((l2 = 0 → A (17, [.ref 5, .int (bn l1), .int (bn l2), .int (bn l3), v4], [], s2)) ∧ (¬ l2 = 0 → (((bi s2 5 9) < l2 → A (17, [.ref 5, .int (bn l1), .int (bn l2), .int (bn l3), v4], [], s2)) ∧ (¬ (bi s2 5 9) < l2 → (C 55 [.ref 5] s2 (bRv (fun s6 => Q (.inl none) s6))))))))))) ∧ (¬ l3 < 100000 → Q (.inl none) σ))) : A (2, [.ref 5, .int (bn l1), .int (bn l2), .int (bn l3), v4], [], σ) := by
  refine bGo hA 0 2 (2, .iload_n 3, 1, 3, 0, [3], []) rfl rfl rfl ?_
  refine bGo hA 0 3 (3, .ldc 148, 2, 4, 0, [148], [(100000, 0)]) rfl rfl rfl ?_
  refine bEqI bl_100000 ?_
  refine bGo hA 0 4 (5, .if_icmp .ge (76), 3, 5, 41, [], []) rfl rfl rfl ?_
  refine bB_lt (x := l3) (y := 100000) h_l3 (by decide : bRg 100000) (fun c1 => ?_) (fun c1 => ?_)
  · refine bGo hA 0 5 (8, .aload_n 0, 1, 6, 0, [0], []) rfl rfl rfl ?_
    refine bGo hA 0 6 (9, .iload_n 1, 1, 7, 0, [1], []) rfl rfl rfl ?_
    refine bGo hA 0 7 (10, .invokevirtual 149, 3, 8, 0, [0, 5, 52, 1], []) rfl rfl rfl ?_
    refine ⟨rfl, ?_⟩
    refine hC _ _ _ _ _ (bRv_e (fun s2 k3 => ?_)) (h.1 c1)
    show A (8, [.ref 5, .int (bn l1), .int (bn l2), .int (bn l3), v4], [], s2)
    refine bGo hA 0 8 (13, .iload_n 2, 1, 9, 0, [2], []) rfl rfl rfl ?_
    refine bGo hA 0 9 (14, .ifCond .eq (16), 3, 10, 17, [], []) rfl rfl rfl ?_
    refine bB_eq0 (x := l2) h_l2 (fun c4 => ?_) (fun c4 => ?_)
    · exact (k3.1 c4)
    · refine bGo hA 0 10 (17, .aload_n 0, 1, 11, 0, [0], []) rfl rfl rfl ?_
      refine bGo hA 0 11 (18, .getfield 104, 3, 12, 0, [5, 9, 0, 0, 0, 0], []) rfl rfl rfl ?_
      refine ⟨rfl, ?_⟩
      refine bEqI (bn_bi s2 5 9) ?_
      refine bGo hA 0 12 (21, .iload_n 2, 1, 13, 0, [2], []) rfl rfl rfl ?_
      refine bGo hA 0 13 (22, .if_icmp .lt (8), 3, 14, 17, [], []) rfl rfl rfl ?_
      refine bB_lt (x := (bi s2 5 9)) (y := l2) (bi_rg _ _ _) h_l2 (fun c5 => ?_) (fun c5 => ?_)
      · exact ((k3.2 c4).1 c5)
      · refine bGo hA 0 14 (25, .aload_n 0, 1, 15, 0, [0], []) rfl rfl rfl ?_
        refine bGo hA 0 15 (26, .invokevirtual 153, 3, 16, 0, [0, 5, 55, 0], []) rfl rfl rfl ?_
        refine ⟨rfl, ?_⟩
        refine hC _ _ _ _ _ (bRv_e (fun s6 k7 => ?_)) ((k3.2 c4).2 c5)
        show A (16, [.ref 5, .int (bn l1), .int (bn l2), .int (bn l3), v4], [], s6)
        refine bGo hA 1 0 (29, .return_, 1, 17, 0, [0], []) rfl rfl rfl ?_
        exact k7
  · refine bGo hA 2 9 (81, .return_, 1, 0, 0, [0], []) rfl rfl rfl ?_
    exact (h.2 c1)

theorem sq50_17 {lvl : Nat} {C : bCall} {Q : bPost} {A : bPt → Prop} (hC : bMono C) (hA : bClosed lvl bm50 C Q A) {l1 : Int} {l2 : Int} {l3 : Int} {v4 : Value} {σ : bSt}  (h_l1 : bRg l1) (h_l2 : bRg l2) (h_l3 : bRg l3)
  (h : (((bi σ 5 10) = 0 → (C 56 [.ref 5] σ (bRv (fun s2 => (C 51 [.ref 5] s2 (bRn (fun r6 s4 => ((r6 = 2147483647 → Q (.inl none) s4) ∧ (¬ r6 = 2147483647 → ((l2 = 0 → (bRg (l3 + 1) ∧ A (2, [.ref 5, .int (bn l1), .int (bn l2), .int (bn (l3 + 1)), .int (bn r6)], [], (bw s4 5 9 r6)))) ∧ (¬ l2 = 0 → ((l2 < r6 → (bRg (l3 + 1) ∧ A (2, [.ref 5, .int (bn l1), .int (bn l2), .int (bn (l3 + 1)), .int (bn r6)], [], (bw s4 5 9 l2)))) ∧ (¬ l2 < r6 → (bRg (l3 + 1) ∧ A (2, [.ref 5, .int (bn l1), .int (bn l2), .int (bn (l3 + 1)), .int (bn r6)], [], (bw s4 5 9 r6)))))))))))))))) ∧ (¬ (bi σ 5 10) = 0 → (C 51 [.ref 5] σ (bRn (fun r13 s11 => ((r13 = 2147483647 → Q (.inl none) s11) ∧ (¬ r13 = 2147483647 → ((l2 = 0 → (bRg (l3 + 1) ∧ A (2, [.ref 5, .int (bn l1), .int (bn l2), .int (bn (l3 + 1)), .int (bn r13)], [], (bw s11 5 9 r13)))) ∧ (¬ l2 = 0 → ((l2 < r13 → (bRg (l3 + 1) ∧ A (2, [.ref 5, .int (bn l1), .int (bn l2), .int (bn (l3 + 1)), .int (bn r13)], [], (bw s11 5 9 l2)))) ∧ (¬ l2 < r13 → (bRg (l3 + 1) ∧ A (2, [.ref 5, .int (bn l1), .int (bn l2), .int (bn (l3 + 1)), .int (bn r13)], [], (bw s11 5 9 r13))))))))))))))) : A (17, [.ref 5, .int (bn l1), .int (bn l2), .int (bn l3), v4], [], σ) := by
  refine bGo hA 1 1 (30, .aload_n 0, 1, 18, 0, [0], []) rfl rfl rfl ?_
  refine bGo hA 1 2 (31, .getfield 107, 3, 19, 0, [5, 10, 1, 0, 0, 0], []) rfl rfl rfl ?_
  refine ⟨rfl, ?_⟩
  refine bEqI (bn_bi σ 5 10) ?_
  refine bGo hA 1 3 (34, .ifCond .ne (7), 3, 20, 22, [], []) rfl rfl rfl ?_
  refine bB_eq0 (x := (bi σ 5 10)) (bi_rg _ _ _) (fun c1 => ?_) (fun c1 => ?_)
  · refine bGo hA 1 4 (37, .aload_n 0, 1, 21, 0, [0], []) rfl rfl rfl ?_
    refine bGo hA 1 5 (38, .invokevirtual 156, 3, 22, 0, [0, 5, 56, 0], []) rfl rfl rfl ?_
    refine ⟨rfl, ?_⟩
    refine hC _ _ _ _ _ (bRv_e (fun s2 k3 => ?_)) (h.1 c1)
    show A (22, [.ref 5, .int (bn l1), .int (bn l2), .int (bn l3), v4], [], s2)
    refine bGo hA 1 6 (41, .aload_n 0, 1, 23, 0, [0], []) rfl rfl rfl ?_
    refine bGo hA 1 7 (42, .invokevirtual 159, 3, 24, 0, [0, 5, 51, 0], []) rfl rfl rfl ?_
    refine ⟨rfl, ?_⟩
    refine hC _ _ _ _ _ (bRn_e (fun r6 s4 q7 k5 => ?_)) k3
    show A (24, [.ref 5, .int (bn l1), .int (bn l2), .int (bn l3), v4], [.int (bn r6)], s4)
    refine bGo hA 1 8 (45, .istore 4, 2, 25, 0, [4], []) rfl rfl rfl ?_
    refine bGo hA 1 9 (47, .iload 4, 2, 26, 0, [4], []) rfl rfl rfl ?_
    refine bGo hA 1 10 (49, .ldc 163, 2, 27, 0, [163], [(2147483647, 0)]) rfl rfl rfl ?_
    refine bEqI bl_2147483647 ?_
    refine bGo hA 1 11 (51, .if_icmp .ne (4), 3, 28, 29, [], []) rfl rfl rfl ?_
    refine bB_eq (x := r6) (y := 2147483647) q7 (by decide : bRg 2147483647) (fun c8 => ?_) (fun c8 => ?_)
    · refine bGo hA 1 12 (54, .return_, 1, 29, 0, [0], []) rfl rfl rfl ?_
      exact (k5.1 c8)
    · refine bGo hA 1 13 (55, .aload_n 0, 1, 30, 0, [0], []) rfl rfl rfl ?_
      refine bGo hA 1 14 (56, .iload_n 2, 1, 31, 0, [2], []) rfl rfl rfl ?_
      refine bGo hA 1 15 (57, .ifCond .eq (13), 3, 32, 37, [], []) rfl rfl rfl ?_
      refine bB_eq0 (x := l2) h_l2 (fun c9 => ?_) (fun c9 => ?_)
      · refine bGo hA 2 5 (70, .iload 4, 2, 38, 0, [4], []) rfl rfl rfl ?_
        refine bGo hA 2 6 (72, .putfield 104, 3, 39, 0, [5, 9, 0, 0, 0, 0], []) rfl rfl rfl ?_
        refine ⟨rfl, ?_⟩
        refine bGo hA 2 7 (75, .iinc 3 (1), 3, 40, 0, [3], [(1, 0)]) rfl rfl rfl ?_
        refine bEqC (fun v => A (40, [.ref 5, .int (bn l1), .int (bn l2), .int v, .int (bn r6)], [], (bw s4 5 9 r6))) ((congrArg (fun w => bn l3 + w) bl_1).trans (bn_add l3 1)) ?_
        refine bGo hA 2 8 (78, .goto (-76), 3, 41, 2, [], []) rfl rfl rfl ?_
        exact ((k5.2 c8).1 c9).2
      · refine bGo hA 2 0 (60, .iload 4, 2, 33, 0, [4], []) rfl rfl rfl ?_
        refine bGo hA 2 1 (62, .iload_n 2, 1, 34, 0, [2], []) rfl rfl rfl ?_
        refine bGo hA 2 2 (63, .if_icmp .le (7), 3, 35, 37, [], []) rfl rfl rfl ?_
        refine bB_lt (x := l2) (y := r6) h_l2 q7 (fun c10 => ?_) (fun c10 => ?_)
        · refine bGo hA 2 3 (66, .iload_n 2, 1, 36, 0, [2], []) rfl rfl rfl ?_
          refine bGo hA 2 4 (67, .goto (5), 3, 37, 38, [], []) rfl rfl rfl ?_
          refine bGo hA 2 6 (72, .putfield 104, 3, 39, 0, [5, 9, 0, 0, 0, 0], []) rfl rfl rfl ?_
          refine ⟨rfl, ?_⟩
          refine bGo hA 2 7 (75, .iinc 3 (1), 3, 40, 0, [3], [(1, 0)]) rfl rfl rfl ?_
          refine bEqC (fun v => A (40, [.ref 5, .int (bn l1), .int (bn l2), .int v, .int (bn r6)], [], (bw s4 5 9 l2))) ((congrArg (fun w => bn l3 + w) bl_1).trans (bn_add l3 1)) ?_
          refine bGo hA 2 8 (78, .goto (-76), 3, 41, 2, [], []) rfl rfl rfl ?_
          exact (((k5.2 c8).2 c9).1 c10).2
        · refine bGo hA 2 5 (70, .iload 4, 2, 38, 0, [4], []) rfl rfl rfl ?_
          refine bGo hA 2 6 (72, .putfield 104, 3, 39, 0, [5, 9, 0, 0, 0, 0], []) rfl rfl rfl ?_
          refine ⟨rfl, ?_⟩
          refine bGo hA 2 7 (75, .iinc 3 (1), 3, 40, 0, [3], [(1, 0)]) rfl rfl rfl ?_
          refine bEqC (fun v => A (40, [.ref 5, .int (bn l1), .int (bn l2), .int v, .int (bn r6)], [], (bw s4 5 9 r6))) ((congrArg (fun w => bn l3 + w) bl_1).trans (bn_add l3 1)) ?_
          refine bGo hA 2 8 (78, .goto (-76), 3, 41, 2, [], []) rfl rfl rfl ?_
          exact (((k5.2 c8).2 c9).2 c10).2
  · refine bGo hA 1 6 (41, .aload_n 0, 1, 23, 0, [0], []) rfl rfl rfl ?_
    refine bGo hA 1 7 (42, .invokevirtual 159, 3, 24, 0, [0, 5, 51, 0], []) rfl rfl rfl ?_
    refine ⟨rfl, ?_⟩
    refine hC _ _ _ _ _ (bRn_e (fun r13 s11 q14 k12 => ?_)) (h.2 c1)
    show A (24, [.ref 5, .int (bn l1), .int (bn l2), .int (bn l3), v4], [.int (bn r13)], s11)
    refine bGo hA 1 8 (45, .istore 4, 2, 25, 0, [4], []) rfl rfl rfl ?_
    refine bGo hA 1 9 (47, .iload 4, 2, 26, 0, [4], []) rfl rfl rfl ?_
    refine bGo hA 1 10 (49, .ldc 163, 2, 27, 0, [163], [(2147483647, 0)]) rfl rfl rfl ?_
    refine bEqI bl_2147483647 ?_
    refine bGo hA 1 11 (51, .if_icmp .ne (4), 3, 28, 29, [], []) rfl rfl rfl ?_
    refine bB_eq (x := r13) (y := 2147483647) q14 (by decide : bRg 2147483647) (fun c15 => ?_) (fun c15 => ?_)
    · refine bGo hA 1 12 (54, .return_, 1, 29, 0, [0], []) rfl rfl rfl ?_
      exact (k12.1 c15)
    · refine bGo hA 1 13 (55, .aload_n 0, 1, 30, 0, [0], []) rfl rfl rfl ?_
      refine bGo hA 1 14 (56, .iload_n 2, 1, 31, 0, [2], []) rfl rfl rfl ?_
      refine bGo hA 1 15 (57, .ifCond .eq (13), 3, 32, 37, [], []) rfl rfl rfl ?_
      refine bB_eq0 (x := l2) h_l2 (fun c16 => ?_) (fun c16 => ?_)
      · refine bGo hA 2 5 (70, .iload 4, 2, 38, 0, [4], []) rfl rfl rfl ?_
        refine bGo hA 2 6 (72, .putfield 104, 3, 39, 0, [5, 9, 0, 0, 0, 0], []) rfl rfl rfl ?_
        refine ⟨rfl, ?_⟩
        refine bGo hA 2 7 (75, .iinc 3 (1), 3, 40, 0, [3], [(1, 0)]) rfl rfl rfl ?_
        refine bEqC (fun v => A (40, [.ref 5, .int (bn l1), .int (bn l2), .int v, .int (bn r13)], [], (bw s11 5 9 r13))) ((congrArg (fun w => bn l3 + w) bl_1).trans (bn_add l3 1)) ?_
        refine bGo hA 2 8 (78, .goto (-76), 3, 41, 2, [], []) rfl rfl rfl ?_
        exact ((k12.2 c15).1 c16).2
      · refine bGo hA 2 0 (60, .iload 4, 2, 33, 0, [4], []) rfl rfl rfl ?_
        refine bGo hA 2 1 (62, .iload_n 2, 1, 34, 0, [2], []) rfl rfl rfl ?_
        refine bGo hA 2 2 (63, .if_icmp .le (7), 3, 35, 37, [], []) rfl rfl rfl ?_
        refine bB_lt (x := l2) (y := r13) h_l2 q14 (fun c17 => ?_) (fun c17 => ?_)
        · refine bGo hA 2 3 (66, .iload_n 2, 1, 36, 0, [2], []) rfl rfl rfl ?_
          refine bGo hA 2 4 (67, .goto (5), 3, 37, 38, [], []) rfl rfl rfl ?_
          refine bGo hA 2 6 (72, .putfield 104, 3, 39, 0, [5, 9, 0, 0, 0, 0], []) rfl rfl rfl ?_
          refine ⟨rfl, ?_⟩
          refine bGo hA 2 7 (75, .iinc 3 (1), 3, 40, 0, [3], [(1, 0)]) rfl rfl rfl ?_
          refine bEqC (fun v => A (40, [.ref 5, .int (bn l1), .int (bn l2), .int v, .int (bn r13)], [], (bw s11 5 9 l2))) ((congrArg (fun w => bn l3 + w) bl_1).trans (bn_add l3 1)) ?_
          refine bGo hA 2 8 (78, .goto (-76), 3, 41, 2, [], []) rfl rfl rfl ?_
          exact (((k12.2 c15).2 c16).1 c17).2
        · refine bGo hA 2 5 (70, .iload 4, 2, 38, 0, [4], []) rfl rfl rfl ?_
          refine bGo hA 2 6 (72, .putfield 104, 3, 39, 0, [5, 9, 0, 0, 0, 0], []) rfl rfl rfl ?_
          refine ⟨rfl, ?_⟩
          refine bGo hA 2 7 (75, .iinc 3 (1), 3, 40, 0, [3], [(1, 0)]) rfl rfl rfl ?_
          refine bEqC (fun v => A (40, [.ref 5, .int (bn l1), .int (bn l2), .int v, .int (bn r13)], [], (bw s11 5 9 r13))) ((congrArg (fun w => bn l3 + w) bl_1).trans (bn_add l3 1)) ?_
          refine bGo hA 2 8 (78, .goto (-76), 3, 41, 2, [], []) rfl rfl rfl ?_
          exact (((k12.2 c15).2 c16).2 c17).2

theorem sq51_0 {lvl : Nat} {C : bCall} {Q : bPost} {A : bPt → Prop} (hC : bMono C) (hA : bClosed lvl bm51 C Q A)  {σ : bSt}  
  (h : A (4, [.ref 5, .int (bn 2147483647), .int (bn 0)], [], σ)) : A (0, [.ref 5, .float 0, .float 0], [], σ) := by
  refine bGo hA 0 0 (0, .ldc 163, 2, 1, 0, [163], [(2147483647, 0)]) rfl rfl rfl ?_
  refine bEqI bl_2147483647 ?_
  refine bGo hA 0 1 (2, .istore_n 1, 1, 2, 0, [1], []) rfl rfl rfl ?_
  refine bGo hA 0 2 (3, .iconst (0), 1, 3, 0, [], [(0, 0)]) rfl rfl rfl ?_
  refine bEqI bl_0 ?_
  refine bGo hA 0 3 (4, .istore_n 2, 1, 4, 0, [2], []) rfl rfl rfl ?_
  exact h

theorem sq51_4 {lvl : Nat} {C : bCall} {Q : bPost} {A : bPt → Prop} (hC : bMono C) (hA : bClosed lvl bm51 C Q A) {l1 : Int} {l2 : Int} {σ : bSt}  (h_l1 : bRg l1) (h_l2 : bRg l2)
  (h : ((l2 < (bi σ 6 13) → (C 89 [.ref 6, .int (bn l2)] σ (bRa (fun r4 s2 => (r4 % 256 = 0 ∧ (C 12 [.ref r4] s2 (bRn (fun r7 s5 => (C 360 [.int (bn l1), .int (bn r7)] s5 (bRn (fun r11 s9 => (bRg (l2 + 1) ∧ A (4, [.ref 5, .int (bn r11), .int (bn (l2 + 1))], [], s9))))))))))))) ∧ (¬ l2 < (bi σ 6 13) → Q (.inl (some (.int (bn l1)))) σ))) : A (4, [.ref 5, .int (bn l1), .int (bn l2)], [], σ) := by
  refine bGo hA 0 4 (5, .iload_n 2, 1, 5, 0, [2], []) rfl rfl rfl ?_
  refine bGo hA 0 5 (6, .aload_n 0, 1, 6, 0, [0], []) rfl rfl rfl ?_
  refine bGo hA 0 6 (7, .getfield 55, 3, 7, 0, [5, 1, 3, 6, 0, 0], []) rfl rfl rfl ?_
  refine ⟨rfl, ?_⟩
  refine bGo hA 0 7 (10, .getfield 110, 3, 8, 0, [6, 13, 0, 0, 0, 0], []) rfl rfl rfl ?_
  refine ⟨rfl, ?_⟩
  refine bEqI (bn_bi σ 6 13) ?_
  refine bGo hA 0 8 (13, .if_icmp .ge (25), 3, 9, 19, [], []) rfl rfl rfl ?_
  refine bB_lt (x := l2) (y := (bi σ 6 13)) h_l2 (bi_rg _ _ _) (fun c1 => ?_) (fun c1 => ?_)
  · refine bGo hA 0 9 (16, .iload_n 1, 1, 10, 0, [1], []) rfl rfl rfl ?_
    refine bGo hA 0 10 (17, .aload_n 0, 1, 11, 0, [0], []) rfl rfl rfl ?_
    refine bGo hA 0 11 (18, .getfield 55, 3, 12, 0, [5, 1, 3, 6, 0, 0], []) rfl rfl rfl ?_
    refine ⟨rfl, ?_⟩
    refine bGo hA 0 12 (21, .iload_n 2, 1, 13, 0, [2], []) rfl rfl rfl ?_
    refine bGo hA 0 13 (22, .invokevirtual 113, 3, 14, 0, [0, 6, 89, 1], []) rfl rfl rfl ?_
    refine ⟨rfl, ?_⟩
    refine hC _ _ _ _ _ (bRa_e (fun r4 s2 k3 => ?_)) (h.1 c1)
    show A (14, [.ref 5, .int (bn l1), .int (bn l2)], [.ref r4, .int (bn l1)], s2)
    refine bGo hA 0 14 (25, .invokevirtual 164, 3, 15, 0, [0, 0, 12, 0], []) rfl rfl rfl ?_
    refine ⟨k3.1, ?_⟩
    refine hC _ _ _ _ _ (bRn_e (fun r7 s5 q8 k6 => ?_)) k3.2
    show A (15, [.ref 5, .int (bn l1), .int (bn l2)], [.int (bn r7), .int (bn l1)], s5)
    refine bGo hA 0 15 (28, .invokestatic 165, 3, 16, 0, [2, 360, 2], []) rfl rfl rfl ?_
    refine hC _ _ _ _ _ (bRn_e (fun r11 s9 q12 k10 => ?_)) k6
    show A (16, [.ref 5, .int (bn l1), .int (bn l2)], [.int (bn r11)], s9)
    refine bGo hA 1 0 (31, .istore_n 1, 1, 17, 0, [1], []) rfl rfl rfl ?_
    refine bGo hA 1 1 (32, .iinc 2 (1), 3, 18, 0, [2], [(1, 0)]) rfl rfl rfl ?_
    refine bEqC (fun v => A (18, [.ref 5, .int (bn r11), .int v], [], s9)) ((congrArg (fun w => bn l2 + w) bl_1).trans (bn_add l2 1)) ?_
    refine bGo hA 1 2 (35, .goto (-30), 3, 19, 4, [], []) rfl rfl rfl ?_
    exact k10.2
  · refine bGo hA 1 3 (38, .iload_n 1, 1, 20, 0, [1], []) rfl rfl rfl ?_
    refine bGo hA 1 4 (39, .ireturn, 1, 0, 0, [1], []) rfl rfl rfl ?_
    exact (h.2 c1)

theorem sq52_0 {lvl : Nat} {C : bCall} {Q : bPost} {A : bPt → Prop} (hC : bMono C) (hA : bClosed lvl bm52 C Q A) {x1 : Int} {σ : bSt}  (h_x1 : bRg x1)
  (h : A (2, [.ref 5, .int (bn x1), .int (bn 0), .float 0], [], σ)) : A (0, [.ref 5, .int (bn x1), .float 0, .float 0], [], σ) := by
  refine bGo hA 0 0 (0, .iconst (0), 1, 1, 0, [], [(0, 0)]) rfl rfl rfl ?_
  refine bEqI bl_0 ?_
  refine bGo hA 0 1 (1, .istore_n 2, 1, 2, 0, [2], []) rfl rfl rfl ?_
  exact h

theorem sq52_2 {lvl : Nat} {C : bCall} {Q : bPost} {A : bPt → Prop} (hC : bMono C) (hA : bClosed lvl bm52 C Q A) {l1 : Int} {l2 : Int} {v3 : Value} {σ : bSt}  (h_l1 : bRg l1) (h_l2 : bRg l2)
  (h : ((l2 < (bi σ 6 13) → (C 89 [.ref 6, .int (bn l2)] σ (bRa (fun r4 s2 => (r4 % 256 = 0 ∧ (((bi s2 r4 15) = (bi s2 5 9) → (C 13 [.ref r4, .int (bn 2), .int (bn (bi s2 5 9))] s2 (bRv (fun s6 => (C 17 [.ref 1, .ref (256 * (2 * (r4 / 256) + 0) + 4)] s6 (bRv (fun s8 => (bRg (l2 + 1) ∧ A (2, [.ref 5, .int (bn l1), .int (bn (l2 + 1)), .ref r4], [], s8))))))))) ∧ (¬ (bi s2 r4 15) = (bi s2 5 9) → (((bi s2 r4 16) = (bi s2 5 9) → (((bi s2 r4 16) = (bi s2 5 9) → A (48, [.ref 5, .int (bn l1), .int (bn l2), .ref r4], [.int (bn 1), .ref r4, .ref 5], s2)) ∧ (¬ (bi s2 r4 16) = (bi s2 5 9) → A (48, [.ref 5, .int (bn l1), .int (bn l2), .ref r4], [.int (bn 0), .ref r4, .ref 5], s2)))) ∧ (¬ (bi s2 r4 16) = (bi s2 5 9) → (((bi s2 r4 17) = (bi s2 5 9) → (((bi s2 r4 16) = (bi s2 5 9) → A (48, [.ref 5, .int (bn l1), .int (bn l2), .ref r4], [.int (bn 1), .ref r4, .ref 5], s2)) ∧ (¬ (bi s2 r4 16) = (bi s2 5 9) → A (48, [.ref 5, .int (bn l1), .int (bn l2), .ref r4], [.int (bn 0), .ref r4, .ref 5], s2)))) ∧ (¬ (bi s2 r4 17) = (bi s2 5 9) → (bRg (l2 + 1) ∧ A (2, [.ref 5, .int (bn l1), .int (bn (l2 + 1)), .ref r4], [], s2))))))))))))) ∧ (¬ l2 < (bi σ 6 13) → Q (.inl none) σ))) : A (2, [.ref 5, .int (bn l1), .int (bn l2), v3], [], σ) := by
  refine bGo hA 0 2 (2, .iload_n 2, 1, 3, 0, [2], []) rfl rfl rfl ?_
  refine bGo hA 0 3 (3, .aload_n 0, 1, 4, 0, [0], []) rfl rfl rfl ?_
  refine bGo hA 0 4 (4, .getfield 55, 3, 5, 0, [5, 1, 3, 6, 0, 0], []) rfl rfl rfl ?_
  refine ⟨rfl, ?_⟩
  refine bGo hA 0 5 (7, .getfield 110, 3, 6, 0, [6, 13, 0, 0, 0, 0], []) rfl rfl rfl ?_
  refine ⟨rfl, ?_⟩
  refine bEqI (bn_bi σ 6 13) ?_
  refine bGo hA 0 6 (10, .if_icmp .ge (141), 3, 7, 75, [], []) rfl rfl rfl ?_
  refine bB_lt (x := l2) (y := (bi σ 6 13)) h_l2 (bi_rg _ _ _) (fun c1 => ?_) (fun c1 => ?_)
  · refine bGo hA 0 7 (13, .aload_n 0, 1, 8, 0, [0], []) rfl rfl rfl ?_
    refine bGo hA 0 8 (14, .getfield 55, 3, 9, 0, [5, 1, 3, 6, 0, 0], []) rfl rfl rfl ?_
    refine ⟨rfl, ?_⟩
    refine bGo hA 0 9 (17, .iload_n 2, 1, 10, 0, [2], []) rfl rfl rfl ?_
    refine bGo hA 0 10 (18, .invokevirtual 113, 3, 11, 0, [0, 6, 89, 1], []) rfl rfl rfl ?_
    refine ⟨rfl, ?_⟩
    refine hC _ _ _ _ _ (bRa_e (fun r4 s2 k3 => ?_)) (h.1 c1)
    show A (11, [.ref 5, .int (bn l1), .int (bn l2), v3], [.ref r4], s2)
    refine bGo hA 0 11 (21, .astore_n 3, 1, 12, 0, [3], []) rfl rfl rfl ?_
    refine bGo hA 0 12 (22, .aload_n 3, 1, 13, 0, [3], []) rfl rfl rfl ?_
    refine bGo hA 0 13 (23, .getfield 168, 3, 14, 0, [0, 15, 0, 0, 0, 0], []) rfl rfl rfl ?_
    refine ⟨k3.1, ?_⟩
    refine bEqI (bn_bi s2 r4 15) ?_
    refine bGo hA 0 14 (26, .aload_n 0, 1, 15, 0, [0], []) rfl rfl rfl ?_
    refine bGo hA 0 15 (27, .getfield 104, 3, 16, 0, [5, 9, 0, 0, 0, 0], []) rfl rfl rfl ?_
    refine ⟨rfl, ?_⟩
    refine bEqI (bn_bi s2 5 9) ?_
    refine bGo hA 1 0 (30, .if_icmp .ne (26), 3, 17, 28, [], []) rfl rfl rfl ?_
    refine bB_eq (x := (bi s2 r4 15)) (y := (bi s2 5 9)) (bi_rg _ _ _) (bi_rg _ _ _) (fun c5 => ?_) (fun c5 => ?_)
    · refine bGo hA 1 1 (33, .aload_n 3, 1, 18, 0, [3], []) rfl rfl rfl ?_
      refine bGo hA 1 2 (34, .iconst (2), 1, 19, 0, [], [(2, 0)]) rfl rfl rfl ?_
      refine bEqI bl_2 ?_
      refine bGo hA 1 3 (35, .aload_n 0, 1, 20, 0, [0], []) rfl rfl rfl ?_
      refine bGo hA 1 4 (36, .getfield 104, 3, 21, 0, [5, 9, 0, 0, 0, 0], []) rfl rfl rfl ?_
      refine ⟨rfl, ?_⟩
      refine bEqI (bn_bi s2 5 9) ?_
      refine bGo hA 1 5 (39, .invokevirtual 171, 3, 22, 0, [0, 0, 13, 2], []) rfl rfl rfl ?_
      refine ⟨k3.1, ?_⟩
      refine hC _ _ _ _ _ (bRv_e (fun s6 k7 => ?_)) (k3.2.1 c5)
      show A (22, [.ref 5, .int (bn l1), .int (bn l2), .ref r4], [], s6)
      refine bGo hA 1 6 (42, .aload_n 0, 1, 23, 0, [0], []) rfl rfl rfl ?_
      refine bGo hA 1 7 (43, .getfield 14, 3, 24, 0, [5, 2, 3, 1, 0, 0], []) rfl rfl rfl ?_
      refine ⟨rfl, ?_⟩
      refine bGo hA 1 8 (46, .aload_n 3, 1, 25, 0, [3], []) rfl rfl rfl ?_
      refine bGo hA 1 9 (47, .getfield 175, 3, 26, 0, [0, 3, 3, 4, 2, 0], []) rfl rfl rfl ?_
      refine ⟨k3.1, ?_⟩
      refine bGo hA 1 10 (50, .invokevirtual 179, 3, 27, 0, [0, 1, 17, 1], []) rfl rfl rfl ?_
      refine ⟨rfl, ?_⟩
      refine hC _ _ _ _ _ (bRv_e (fun s8 k9 => ?_)) k7
      show A (27, [.ref 5, .int (bn l1), .int (bn l2), .ref r4], [], s8)
      refine bGo hA 1 11 (53, .goto (92), 3, 28, 73, [], []) rfl rfl rfl ?_
      refine bGo hA 4 9 (145, .iinc 2 (1), 3, 74, 0, [2], [(1, 0)]) rfl rfl rfl ?_
      refine bEqC (fun v => A (74, [.ref 5, .int (bn l1), .int v, .ref r4], [], s8)) ((congrArg (fun w => bn l2 + w) bl_1).trans (bn_add l2 1)) ?_
      refine bGo hA 4 10 (148, .goto (-146), 3, 75, 2, [], []) rfl rfl rfl ?_
      exact k9.2
    · refine bGo hA 1 12 (56, .aload_n 3, 1, 29, 0, [3], []) rfl rfl rfl ?_
      refine bGo hA 1 13 (57, .getfield 183, 3, 30, 0, [0, 16, 0, 0, 0, 0], []) rfl rfl rfl ?_
      refine ⟨k3.1, ?_⟩
      refine bEqI (bn_bi s2 r4 16) ?_
      refine bGo hA 1 14 (60, .aload_n 0, 1, 31, 0, [0], []) rfl rfl rfl ?_
      refine bGo hA 1 15 (61, .getfield 104, 3, 32, 0, [5, 9, 0, 0, 0, 0], []) rfl rfl rfl ?_
      refine ⟨rfl, ?_⟩
      refine bEqI (bn_bi s2 5 9) ?_
      refine bGo hA 2 0 (64, .if_icmp .eq (14), 3, 33, 38, [], []) rfl rfl rfl ?_
      refine bB_eq (x := (bi s2 r4 16)) (y := (bi s2 5 9)) (bi_rg _ _ _) (bi_rg _ _ _) (fun c10 => ?_) (fun c10 => ?_)
      · refine bGo hA 2 6 (78, .aload_n 0, 1, 39, 0, [0], []) rfl rfl rfl ?_
        refine bGo hA 2 7 (79, .aload_n 3, 1, 40, 0, [3], []) rfl rfl rfl ?_
        refine bGo hA 2 8 (80, .aload_n 3, 1, 41, 0, [3], []) rfl rfl rfl ?_
        refine bGo hA 2 9 (81, .getfield 183, 3, 42, 0, [0, 16, 0, 0, 0, 0], []) rfl rfl rfl ?_
        refine ⟨k3.1, ?_⟩
        refine bEqI (bn_bi s2 r4 16) ?_
        refine bGo hA 2 10 (84, .aload_n 0, 1, 43, 0, [0], []) rfl rfl rfl ?_
        refine bGo hA 2 11 (85, .getfield 104, 3, 44, 0, [5, 9, 0, 0, 0, 0], []) rfl rfl rfl ?_
        refine ⟨rfl, ?_⟩
        refine bEqI (bn_bi s2 5 9) ?_
        refine bGo hA 2 12 (88, .if_icmp .ne (7), 3, 45, 47, [], []) rfl rfl rfl ?_
        refine bB_eq (x := (bi s2 r4 16)) (y := (bi s2 5 9)) (bi_rg _ _ _) (bi_rg _ _ _) (fun c11 => ?_) (fun c11 => ?_)
        · refine bGo hA 2 13 (91, .iconst (1), 1, 46, 0, [], [(1, 0)]) rfl rfl rfl ?_
          refine bEqI bl_1 ?_
          refine bGo hA 2 14 (92, .goto (4), 3, 47, 48, [], []) rfl rfl rfl ?_
          exact (((k3.2.2 c5).1 c10).1 c11)
        · refine bGo hA 2 15 (95, .iconst (0), 1, 48, 0, [], [(0, 0)]) rfl rfl rfl ?_
          refine bEqI bl_0 ?_
          exact (((k3.2.2 c5).1 c10).2 c11)
      · refine bGo hA 2 1 (67, .aload_n 3, 1, 34, 0, [3], []) rfl rfl rfl ?_
        refine bGo hA 2 2 (68, .getfield 186, 3, 35, 0, [0, 17, 0, 0, 0, 0], []) rfl rfl rfl ?_
        refine ⟨k3.1, ?_⟩
        refine bEqI (bn_bi s2 r4 17) ?_
        refine bGo hA 2 3 (71, .aload_n 0, 1, 36, 0, [0], []) rfl rfl rfl ?_
        refine bGo hA 2 4 (72, .getfield 104, 3, 37, 0, [5, 9, 0, 0, 0, 0], []) rfl rfl rfl ?_
        refine ⟨rfl, ?_⟩
        refine bEqI (bn_bi s2 5 9) ?_
        refine bGo hA 2 5 (75, .if_icmp .ne (70), 3, 38, 73, [], []) rfl rfl rfl ?_
        refine bB_eq (x := (bi s2 r4 17)) (y := (bi s2 5 9)) (bi_rg _ _ _) (bi_rg _ _ _) (fun c12 => ?_) (fun c12 => ?_)
        · refine bGo hA 2 6 (78, .aload_n 0, 1, 39, 0, [0], []) rfl rfl rfl ?_
          refine bGo hA 2 7 (79, .aload_n 3, 1, 40, 0, [3], []) rfl rfl rfl ?_
          refine bGo hA 2 8 (80, .aload_n 3, 1, 41, 0, [3], []) rfl rfl rfl ?_
          refine bGo hA 2 9 (81, .getfield 183, 3, 42, 0, [0, 16, 0, 0, 0, 0], []) rfl rfl rfl ?_
          refine ⟨k3.1, ?_⟩
          refine bEqI (bn_bi s2 r4 16) ?_
          refine bGo hA 2 10 (84, .aload_n 0, 1, 43, 0, [0], []) rfl rfl rfl ?_
          refine bGo hA 2 11 (85, .getfield 104, 3, 44, 0, [5, 9, 0, 0, 0, 0], []) rfl rfl rfl ?_
          refine ⟨rfl, ?_⟩
          refine bEqI (bn_bi s2 5 9) ?_
          refine bGo hA 2 12 (88, .if_icmp .ne (7), 3, 45, 47, [], []) rfl rfl rfl ?_
          refine bB_eq (x := (bi s2 r4 16)) (y := (bi s2 5 9)) (bi_rg _ _ _) (bi_rg _ _ _) (fun c13 => ?_) (fun c13 => ?_)
          · refine bGo hA 2 13 (91, .iconst (1), 1, 46, 0, [], [(1, 0)]) rfl rfl rfl ?_
            refine bEqI bl_1 ?_
            refine bGo hA 2 14 (92, .goto (4), 3, 47, 48, [], []) rfl rfl rfl ?_
            exact ((((k3.2.2 c5).2 c10).1 c12).1 c13)
          · refine bGo hA 2 15 (95, .iconst (0), 1, 48, 0, [], [(0, 0)]) rfl rfl rfl ?_
            refine bEqI bl_0 ?_
            exact ((((k3.2.2 c5).2 c10).1 c12).2 c13)
        · refine bGo hA 4 9 (145, .iinc 2 (1), 3, 74, 0, [2], [(1, 0)]) rfl rfl rfl ?_
          refine bEqC (fun v => A (74, [.ref 5, .int (bn l1), .int v, .ref r4], [], s2)) ((congrArg (fun w => bn l2 + w) bl_1).trans (bn_add l2 1)) ?_
          refine bGo hA 4 10 (148, .goto (-146), 3, 75, 2, [], []) rfl rfl rfl ?_
          exact (((k3.2.2 c5).2 c10).2 c12).2
  · refine bGo hA 4 11 (151, .return_, 1, 0, 0, [0], []) rfl rfl rfl ?_
    exact (h.2 c1)

theorem sq52_48 {lvl : Nat} {C : bCall} {Q : bPost} {A : bPt → Prop} (hC : bMono C) (hA : bClosed lvl bm52 C Q A) {l1 : Int} {l2 : Int} {l3 : Nat} {t0 : Int} {t1 : Nat} {σ : bSt}  (h_l1 : bRg l1) (h_l2 : bRg l2) (h_t0 : bRg t0)
  (h : (C 53 [.ref 5, .ref t1, .int (bn t0)] σ (bRv (fun s1 => (l3 % 256 = 0 ∧ (((bi s1 l3 10) = 5 → (((bi s1 5 8) = (-1) → ((l1 = 0 → (((bOr (bi s1 5 10) 1) = 0 ∨ (bOr (bi s1 5 10) 1) = 1) ∧ (bRg (l2 + 1) ∧ A (2, [.ref 5, .int (bn l1), .int (bn (l2 + 1)), .ref l3], [], (bw (bw s1 5 8 l2) 5 10 (bOr (bi s1 5 10) 1)))))) ∧ (¬ l1 = 0 → (((bOr (bi s1 5 10) 0) = 0 ∨ (bOr (bi s1 5 10) 0) = 1) ∧ (bRg (l2 + 1) ∧ A (2, [.ref 5, .int (bn l1), .int (bn (l2 + 1)), .ref l3], [], (bw (bw s1 5 8 l2) 5 10 (bOr (bi s1 5 10) 0)))))))) ∧ (¬ (bi s1 5 8) = (-1) → ((l1 = 0 → (((bOr (bi s1 5 10) 1) = 0 ∨ (bOr (bi s1 5 10) 1) = 1) ∧ (bRg (l2 + 1) ∧ A (2, [.ref 5, .int (bn l1), .int (bn (l2 + 1)), .ref l3], [], (bw (bw s1 5 8 (bi s1 5 8)) 5 10 (bOr (bi s1 5 10) 1)))))) ∧ (¬ l1 = 0 → (((bOr (bi s1 5 10) 0) = 0 ∨ (bOr (bi s1 5 10) 0) = 1) ∧ (bRg (l2 + 1) ∧ A (2, [.ref 5, .int (bn l1), .int (bn (l2 + 1)), .ref l3], [], (bw (bw s1 5 8 (bi s1 5 8)) 5 10 (bOr (bi s1 5 10) 0)))))))))) ∧ (¬ (bi s1 l3 10) = 5 → (bRg (l2 + 1) ∧ A (2, [.ref 5, .int (bn l1), .int (bn (l2 + 1)), .ref l3], [], s1))))))))) : A (48, [.ref 5, .int (bn l1), .int (bn l2), .ref l3], [.int (bn t0), .ref t1, .ref 5], σ) := by
  refine bGo hA 3 0 (96, .invokevirtual 189, 3, 49, 0, [0, 5, 53, 2], []) rfl rfl rfl ?_
  refine ⟨rfl, ?_⟩
  refine hC _ _ _ _ _ (bRv_e (fun s1 k2 => ?_)) h
  show A (49, [.ref 5, .int (bn l1), .int (bn l2), .ref l3], [], s1)
  refine bGo hA 3 1 (99, .aload_n 3, 1, 50, 0, [3], []) rfl rfl rfl ?_
  refine bGo hA 3 2 (100, .getfield 193, 3, 51, 0, [0, 10, 0, 0, 0, 0], []) rfl rfl rfl ?_
  refine ⟨k2.1, ?_⟩
  refine bEqI (bn_bi s1 l3 10) ?_
  refine bGo hA 3 3 (103, .iconst (5), 1, 52, 0, [], [(5, 0)]) rfl rfl rfl ?_
  refine bEqI bl_5 ?_
  refine bGo hA 3 4 (104, .if_icmp .ne (41), 3, 53, 73, [], []) rfl rfl rfl ?_
  refine bB_eq (x := (bi s1 l3 10)) (y := 5) (bi_rg _ _ _) (by decide : bRg 5) (fun c3 => ?_) (fun c3 => ?_)
  · refine bGo hA 3 5 (107, .aload_n 0, 1, 54, 0, [0], []) rfl rfl rfl ?_
    refine bGo hA 3 6 (108, .aload_n 0, 1, 55, 0, [0], []) rfl rfl rfl ?_
    refine bGo hA 3 7 (109, .getfield 42, 3, 56, 0, [5, 8, 0, 0, 0, 0], []) rfl rfl rfl ?_
    refine ⟨rfl, ?_⟩
    refine bEqI (bn_bi s1 5 8) ?_
    refine bGo hA 3 8 (112, .iconst (-1), 1, 57, 0, [], [(-1, 0)]) rfl rfl rfl ?_
    refine bEqI bl_m1 ?_
    refine bGo hA 3 9 (113, .if_icmp .ne (7), 3, 58, 60, [], []) rfl rfl rfl ?_
    refine bB_eq (x := (bi s1 5 8)) (y := (-1)) (bi_rg _ _ _) (by decide : bRg (-1)) (fun c4 => ?_) (fun c4 => ?_)
    · refine bGo hA 3 10 (116, .iload_n 2, 1, 59, 0, [2], []) rfl rfl rfl ?_
      refine bGo hA 3 11 (117, .goto (7), 3, 60, 62, [], []) rfl rfl rfl ?_
      refine bGo hA 3 14 (124, .putfield 42, 3, 63, 0, [5, 8, 0, 0, 0, 0], []) rfl rfl rfl ?_
      refine ⟨rfl, ?_⟩
      refine bGo hA 3 15 (127, .aload_n 0, 1, 64, 0, [0], []) rfl rfl rfl ?_
      refine bGo hA 4 0 (128, .dup, 1, 65, 0, [], []) rfl rfl rfl ?_
      refine bGo hA 4 1 (129, .getfield 107, 3, 66, 0, [5, 10, 1, 0, 0, 0], []) rfl rfl rfl ?_
      refine ⟨rfl, ?_⟩
      refine bEqI ((bn_bi (bw s1 5 8 l2) 5 10).trans (congrArg bn (bi_nj (by decide) (by decide) (by decide)))) ?_
      refine bGo hA 4 2 (132, .iload_n 1, 1, 67, 0, [1], []) rfl rfl rfl ?_
      refine bGo hA 4 3 (133, .ifCond .ne (7), 3, 68, 70, [], []) rfl rfl rfl ?_
      refine bB_eq0 (x := l1) h_l1 (fun c5 => ?_) (fun c5 => ?_)
      · refine bGo hA 4 4 (136, .iconst (1), 1, 69, 0, [], [(1, 0)]) rfl rfl rfl ?_
        refine bEqI bl_1 ?_
        refine bGo hA 4 5 (137, .goto (4), 3, 70, 71, [], []) rfl rfl rfl ?_
        refine bGo hA 4 7 (141, .ior, 1, 72, 0, [], []) rfl rfl rfl ?_
        refine bEqI (bn_or (bi s1 5 10) 1) ?_
        refine bGo hA 4 8 (142, .putfield 107, 3, 73, 0, [5, 10, 1, 0, 0, 0], []) rfl rfl rfl ?_
        refine ⟨rfl, b01 (((k2.2.1 c3).1 c4).1 c5).1, ?_⟩
        refine bGo hA 4 9 (145, .iinc 2 (1), 3, 74, 0, [2], [(1, 0)]) rfl rfl rfl ?_
        refine bEqC (fun v => A (74, [.ref 5, .int (bn l1), .int v, .ref l3], [], (bw (bw s1 5 8 l2) 5 10 (bOr (bi s1 5 10) 1)))) ((congrArg (fun w => bn l2 + w) bl_1).trans (bn_add l2 1)) ?_
        refine bGo hA 4 10 (148, .goto (-146), 3, 75, 2, [], []) rfl rfl rfl ?_
        exact (((k2.2.1 c3).1 c4).1 c5).2.2
      · refine bGo hA 4 6 (140, .iconst (0), 1, 71, 0, [], [(0, 0)]) rfl rfl rfl ?_
        refine bEqI bl_0 ?_
        refine bGo hA 4 7 (141, .ior, 1, 72, 0, [], []) rfl rfl rfl ?_
        refine bEqI (bn_or (bi s1 5 10) 0) ?_
        refine bGo hA 4 8 (142, .putfield 107, 3, 73, 0, [5, 10, 1, 0, 0, 0], []) rfl rfl rfl ?_
        refine ⟨rfl, b01 (((k2.2.1 c3).1 c4).2 c5).1, ?_⟩
        refine bGo hA 4 9 (145, .iinc 2 (1), 3, 74, 0, [2], [(1, 0)]) rfl rfl rfl ?_
        refine bEqC (fun v => A (74, [.ref 5, .int (bn l1), .int v, .ref l3], [], (bw (bw s1 5 8 l2) 5 10 (bOr (bi s1 5 10) 0)))) ((congrArg (fun w => bn l2 + w) bl_1).trans (bn_add l2 1)) ?_
        refine bGo hA 4 10 (148, .goto (-146), 3, 75, 2, [], []) rfl rfl rfl ?_
        exact (((k2.2.1 c3).1 c4).2 c5).2.2
    · refine bGo hA 3 12 (120, .aload_n 0, 1, 61, 0, [0], []) rfl rfl rfl ?_
      refine bGo hA 3 13 (121, .getfield 42, 3, 62, 0, [5, 8, 0, 0, 0, 0], []) rfl rfl rfl ?_
      refine ⟨rfl, ?_⟩
      refine bEqI (bn_bi s1 5 8) ?_
      refine bGo hA 3 14 (124, .putfield 42, 3, 63, 0, [5, 8, 0, 0, 0, 0], []) rfl rfl rfl ?_
      refine ⟨rfl, ?_⟩
      refine bGo hA 3 15 (127, .aload_n 0, 1, 64, 0, [0], []) rfl rfl rfl ?_
      refine bGo hA 4 0 (128, .dup, 1, 65, 0, [], []) rfl rfl rfl ?_
      refine bGo hA 4 1 (129, .getfield 107, 3, 66, 0, [5, 10, 1, 0, 0, 0], []) rfl rfl rfl ?_
      refine ⟨rfl, ?_⟩
      refine bEqI ((bn_bi (bw s1 5 8 (bi s1 5 8)) 5 10).trans (congrArg bn (bi_nj (by decide) (by decide) (by decide)))) ?_
      refine bGo hA 4 2 (132, .iload_n 1, 1, 67, 0, [1], []) rfl rfl rfl ?_
      refine bGo hA 4 3 (133, .ifCond .ne (7), 3, 68, 70, [], []) rfl rfl rfl ?_
      refine bB_eq0 (x := l1) h_l1 (fun c6 => ?_) (fun c6 => ?_)
      · refine bGo hA 4 4 (136, .iconst (1), 1, 69, 0, [], [(1, 0)]) rfl rfl rfl ?_
        refine bEqI bl_1 ?_
        refine bGo hA 4 5 (137, .goto (4), 3, 70, 71, [], []) rfl rfl rfl ?_
        refine bGo hA 4 7 (141, .ior, 1, 72, 0, [], []) rfl rfl rfl ?_
        refine bEqI (bn_or (bi s1 5 10) 1) ?_
        refine bGo hA 4 8 (142, .putfield 107, 3, 73, 0, [5, 10, 1, 0, 0, 0], []) rfl rfl rfl ?_
        refine ⟨rfl, b01 (((k2.2.1 c3).2 c4).1 c6).1, ?_⟩
        refine bGo hA 4 9 (145, .iinc 2 (1), 3, 74, 0, [2], [(1, 0)]) rfl rfl rfl ?_
        refine bEqC (fun v => A (74, [.ref 5, .int (bn l1), .int v, .ref l3], [], (bw (bw s1 5 8 (bi s1 5 8)) 5 10 (bOr (bi s1 5 10) 1)))) ((congrArg (fun w => bn l2 + w) bl_1).trans (bn_add l2 1)) ?_
        refine bGo hA 4 10 (148, .goto (-146), 3, 75, 2, [], []) rfl rfl rfl ?_
        exact (((k2.2.1 c3).2 c4).1 c6).2.2
      · refine bGo hA 4 6 (140, .iconst (0), 1, 71, 0, [], [(0, 0)]) rfl rfl rfl ?_
        refine bEqI bl_0 ?_
        refine bGo hA 4 7 (141, .ior, 1, 72, 0, [], []) rfl rfl rfl ?_
        refine bEqI (bn_or (bi s1 5 10) 0) ?_
        refine bGo hA 4 8 (142, .putfield 107, 3, 73, 0, [5, 10, 1, 0, 0, 0], []) rfl rfl rfl ?_
        refine ⟨rfl, b01 (((k2.2.1 c3).2 c4).2 c6).1, ?_⟩
        refine bGo hA 4 9 (145, .iinc 2 (1), 3, 74, 0, [2], [(1, 0)]) rfl rfl rfl ?_
        refine bEqC (fun v => A (74, [.ref 5, .int (bn l1), .int v, .ref l3], [], (bw (bw s1 5 8 (bi s1 5 8)) 5 10 (bOr (bi s1 5 10) 0)))) ((congrArg (fun w => bn l2 + w) bl_1).trans (bn_add l2 1)) ?_
        refine bGo hA 4 10 (148, .goto (-146), 3, 75, 2, [], []) rfl rfl rfl ?_
        exact (((k2.2.1 c3).2 c4).2 c6).2.2
  · refine bGo hA 4 9 (145, .iinc 2 (1), 3, 74, 0, [2], [(1, 0)]) rfl rfl rfl ?_
    refine bEqC (fun v => A (74, [.ref 5, .int (bn l1), .int v, .ref l3], [], s1)) ((congrArg (fun w => bn l2 + w) bl_1).trans (bn_add l2 1)) ?_
    refine bGo hA 4 10 (148, .goto (-146), 3, 75, 2, [], []) rfl rfl rfl ?_
    exact (k2.2.2 c3).2

theorem sq53_0 {lvl : Nat} {C : bCall} {Q : bPost} {A : bPt → Prop} (hC : bMono C) (hA : bClosed lvl bm53 C Q A) {a1 : Nat} {x2 : Int} {σ : bSt} (h_a1 : a1 % 256 = 0) (h_x2 : bRg x2)
  (h : ((x2 = 0 → A (13, [.ref 5, .ref a1, .int (bn x2), .ref (256 * (2 * (a1 / 256) + 0) + 4)], [.int (bn (-1)), .int (bn (bi σ a1 14)), .ref 2], σ)) ∧ (¬ x2 = 0 → ((256 * (2 * (a1 / 256) + 0) + 4) % 256 = 4 ∧ A (13, [.ref 5, .ref a1, .int (bn x2), .ref (256 * (2 * (a1 / 256) + 0) + 4)], [.int (bn (bi σ (256 * (2 * (a1 / 256) + 0) + 4) 2)), .int (bn (bi σ a1 14)), .ref 2], σ))))) : A (0, [.ref 5, .ref a1, .int (bn x2), .float 0], [], σ) := by
  refine bGo hA 0 0 (0, .aload_n 1, 1, 1, 0, [1], []) rfl rfl rfl ?_
  refine bGo hA 0 1 (1, .getfield 175, 3, 2, 0, [0, 3, 3, 4, 2, 0], []) rfl rfl rfl ?_
  refine ⟨h_a1, ?_⟩
  refine bGo hA 0 2 (4, .astore_n 3, 1, 3, 0, [3], []) rfl rfl rfl ?_
  refine bGo hA 0 3 (5, .aload_n 0, 1, 4, 0, [0], []) rfl rfl rfl ?_
  refine bGo hA 0 4 (6, .getfield 26, 3, 5, 0, [5, 4, 3, 2, 0, 0], []) rfl rfl rfl ?_
  refine ⟨rfl, ?_⟩
  refine bGo hA 0 5 (9, .aload_n 1, 1, 6, 0, [1], []) rfl rfl rfl ?_
  refine bGo hA 0 6 (10, .getfield 196, 3, 7, 0, [0, 14, 0, 0, 0, 0], []) rfl rfl rfl ?_
  refine ⟨h_a1, ?_⟩
  refine bEqI (bn_bi σ a1 14) ?_
  refine bGo hA 0 7 (13, .iload_n 2, 1, 8, 0, [2], []) rfl rfl rfl ?_
  refine bGo hA 0 8 (14, .ifCond .eq (10), 3, 9, 12, [], []) rfl rfl rfl ?_
  refine bB_eq0 (x := x2) h_x2 (fun c1 => ?_) (fun c1 => ?_)
  · refine bGo hA 0 12 (24, .iconst (-1), 1, 13, 0, [], [(-1, 0)]) rfl rfl rfl ?_
    refine bEqI bl_m1 ?_
    exact (h.1 c1)
  · refine bGo hA 0 9 (17, .aload_n 3, 1, 10, 0, [3], []) rfl rfl rfl ?_
    refine bGo hA 0 10 (18, .getfield 199, 3, 11, 0, [4, 2, 0, 0, 0, 0], []) rfl rfl rfl ?_
    refine ⟨(h.2 c1).1, ?_⟩
    refine bEqI (bn_bi σ (256 * (2 * (a1 / 256) + 0) + 4) 2) ?_
    refine bGo hA 0 11 (21, .goto (4), 3, 12, 13, [], []) rfl rfl rfl ?_
    exact (h.2 c1).2

theorem sq53_13 {lvl : Nat} {C : bCall} {Q : bPost} {A : bPt → Prop} (hC : bMono C) (hA : bClosed lvl bm53 C Q A) {l1 : Nat} {l2 : Int} {l3 : Nat} {t0 : Int} {t1 : Int} {σ : bSt}  (h_l2 : bRg l2) (h_t0 : bRg t0) (h_t1 : bRg t1)
  (h : (C 29 [.ref 2, .int (bn t1), .int (bn t0)] σ (bRv (fun s1 => (l3 % 256 = 4 ∧ (((bi s1 l3 7) = 0 → (C 54 [.ref 5, .int (bn 11), .int (bn 0)] s1 (bRv (fun s4 => (((bi s4 l3 8) = (-1) → (l1 % 256 = 0 ∧ (C 13 [.ref l1, .int (bn 5), .int (bn (bi s4 5 9))] s4 (bRv (fun s7 => Q (.inl none) s7))))) ∧ (¬ (bi s4 l3 8) = (-1) → ((l2 = 0 → A (39, [.ref 5, .ref l1, .int (bn l2), .ref l3], [.int (bn 4), .ref l1], s4)) ∧ (¬ l2 = 0 → A (39, [.ref 5, .ref l1, .int (bn l2), .ref l3], [.int (bn 3), .ref l1], s4))))))))) ∧ (¬ (bi s1 l3 7) = 0 → (C 54 [.ref 5, .int (bn 11), .int (bn 1)] s1 (bRv (fun s10 => (((bi s10 l3 8) = (-1) → (l1 % 256 = 0 ∧ (C 13 [.ref l1, .int (bn 5), .int (bn (bi s10 5 9))] s10 (bRv (fun s13 => Q (.inl none) s13))))) ∧ (¬ (bi s10 l3 8) = (-1) → ((l2 = 0 → A (39, [.ref 5, .ref l1, .int (bn l2), .ref l3], [.int (bn 4), .ref l1], s10)) ∧ (¬ l2 = 0 → A (39, [.ref 5, .ref l1, .int (bn l2), .ref l3], [.int (bn 3), .ref l1], s10))))))))))))))) : A (13, [.ref 5, .ref l1, .int (bn l2), .ref l3], [.int (bn t0), .int (bn t1), .ref 2], σ) := by
  refine bGo hA 0 13 (25, .invokevirtual 204, 3, 14, 0, [0, 2, 29, 2], []) rfl rfl rfl ?_
  refine ⟨rfl, ?_⟩
  refine hC _ _ _ _ _ (bRv_e (fun s1 k2 => ?_)) h
  show A (14, [.ref 5, .ref l1, .int (bn l2), .ref l3], [], s1)
  refine bGo hA 0 14 (28, .aload_n 0, 1, 15, 0, [0], []) rfl rfl rfl ?_
  refine bGo hA 0 15 (29, .bipush (11), 2, 16, 0, [], [(11, 0)]) rfl rfl rfl ?_
  refine bEqI bl_11 ?_
  refine bGo hA 1 0 (31, .aload_n 3, 1, 17, 0, [3], []) rfl rfl rfl ?_
  refine bGo hA 1 1 (32, .getfield 207, 3, 18, 0, [4, 7, 1, 0, 0, 0], []) rfl rfl rfl ?_
  refine ⟨k2.1, ?_⟩
  refine bEqI (bn_bi s1 l3 7) ?_
  refine bGo hA 1 2 (35, .ifCond .eq (7), 3, 19, 21, [], []) rfl rfl rfl ?_
  refine bB_eq0 (x := (bi s1 l3 7)) (bi_rg _ _ _) (fun c3 => ?_) (fun c3 => ?_)
  · refine bGo hA 1 5 (42, .iconst (0), 1, 22, 0, [], [(0, 0)]) rfl rfl rfl ?_
    refine bEqI bl_0 ?_
    refine bGo hA 1 6 (43, .invokevirtual 210, 3, 23, 0, [0, 5, 54, 2], []) rfl rfl rfl ?_
    refine ⟨rfl, ?_⟩
    refine hC _ _ _ _ _ (bRv_e (fun s4 k5 => ?_)) (k2.2.1 c3)
    show A (23, [.ref 5, .ref l1, .int (bn l2), .ref l3], [], s4)
    refine bGo hA 1 7 (46, .aload_n 3, 1, 24, 0, [3], []) rfl rfl rfl ?_
    refine bGo hA 1 8 (47, .getfield 212, 3, 25, 0, [4, 8, 0, 0, 0, 0], []) rfl rfl rfl ?_
    refine ⟨k2.1, ?_⟩
    refine bEqI (bn_bi s4 l3 8) ?_
    refine bGo hA 1 9 (50, .iconst (-1), 1, 26, 0, [], [(-1, 0)]) rfl rfl rfl ?_
    refine bEqI bl_m1 ?_
    refine bGo hA 1 10 (51, .if_icmp .ne (13), 3, 27, 33, [], []) rfl rfl rfl ?_
    refine bB_eq (x := (bi s4 l3 8)) (y := (-1)) (bi_rg _ _ _) (by decide : bRg (-1)) (fun c6 => ?_) (fun c6 => ?_)
    · refine bGo hA 1 11 (54, .aload_n 1, 1, 28, 0, [1], []) rfl rfl rfl ?_
      refine bGo hA 1 12 (55, .iconst (5), 1, 29, 0, [], [(5, 0)]) rfl rfl rfl ?_
      refine bEqI bl_5 ?_
      refine bGo hA 1 13 (56, .aload_n 0, 1, 30, 0, [0], []) rfl rfl rfl ?_
      refine bGo hA 1 14 (57, .getfield 104, 3, 31, 0, [5, 9, 0, 0, 0, 0], []) rfl rfl rfl ?_
      refine ⟨rfl, ?_⟩
      refine bEqI (bn_bi s4 5 9) ?_
      refine bGo hA 1 15 (60, .invokevirtual 171, 3, 32, 0, [0, 0, 13, 2], []) rfl rfl rfl ?_
      refine ⟨(k5.1 c6).1, ?_⟩
      refine hC _ _ _ _ _ (bRv_e (fun s7 k8 => ?_)) (k5.1 c6).2
      show A (32, [.ref 5, .ref l1, .int (bn l2), .ref l3], [], s7)
      refine bGo hA 2 0 (63, .return_, 1, 33, 0, [0], []) rfl rfl rfl ?_
      exact k8
    · refine bGo hA 2 1 (64, .aload_n 1, 1, 34, 0, [1], []) rfl rfl rfl ?_
      refine bGo hA 2 2 (65, .iload_n 2, 1, 35, 0, [2], []) rfl rfl rfl ?_
      refine bGo hA 2 3 (66, .ifCond .eq (7), 3, 36, 38, [], []) rfl rfl rfl ?_
      refine bB_eq0 (x := l2) h_l2 (fun c9 => ?_) (fun c9 => ?_)
      · refine bGo hA 2 6 (73, .iconst (4), 1, 39, 0, [], [(4, 0)]) rfl rfl rfl ?_
        refine bEqI bl_4 ?_
        exact ((k5.2 c6).1 c9)
      · refine bGo hA 2 4 (69, .iconst (3), 1, 37, 0, [], [(3, 0)]) rfl rfl rfl ?_
        refine bEqI bl_3 ?_
        refine bGo hA 2 5 (70, .goto (4), 3, 38, 39, [], []) rfl rfl rfl ?_
        exact ((k5.2 c6).2 c9)
  · refine bGo hA 1 3 (38, .iconst (1), 1, 20, 0, [], [(1, 0)]) rfl rfl rfl ?_
    refine bEqI bl_1 ?_
    refine bGo hA 1 4 (39, .goto (4), 3, 21, 22, [], []) rfl rfl rfl ?_
    refine bGo hA 1 6 (43, .invokevirtual 210, 3, 23, 0, [0, 5, 54, 2], []) rfl rfl rfl ?_
    refine ⟨rfl, ?_⟩
    refine hC _ _ _ _ _ (bRv_e (fun s10 k11 => ?_)) (k2.2.2 c3)
    show A (23, [.ref 5, .ref l1, .int (bn l2), .ref l3], [], s10)
    refine bGo hA 1 7 (46, .aload_n 3, 1, 24, 0, [3], []) rfl rfl rfl ?_
    refine bGo hA 1 8 (47, .getfield 212, 3, 25, 0, [4, 8, 0, 0, 0, 0], []) rfl rfl rfl ?_
    refine ⟨k2.1, ?_⟩
    refine bEqI (bn_bi s10 l3 8) ?_
    refine bGo hA 1 9 (50, .iconst (-1), 1, 26, 0, [], [(-1, 0)]) rfl rfl rfl ?_
    refine bEqI bl_m1 ?_
    refine bGo hA 1 10 (51, .if_icmp .ne (13), 3, 27, 33, [], []) rfl rfl rfl ?_
    refine bB_eq (x := (bi s10 l3 8)) (y := (-1)) (bi_rg _ _ _) (by decide : bRg (-1)) (fun c12 => ?_) (fun c12 => ?_)
    · refine bGo hA 1 11 (54, .aload_n 1, 1, 28, 0, [1], []) rfl rfl rfl ?_
      refine bGo hA 1 12 (55, .iconst (5), 1, 29, 0, [], [(5, 0)]) rfl rfl rfl ?_
      refine bEqI bl_5 ?_
      refine bGo hA 1 13 (56, .aload_n 0, 1, 30, 0, [0], []) rfl rfl rfl ?_
      refine bGo hA 1 14 (57, .getfield 104, 3, 31, 0, [5, 9, 0, 0, 0, 0], []) rfl rfl rfl ?_
      refine ⟨rfl, ?_⟩
      refine bEqI (bn_bi s10 5 9) ?_
      refine bGo hA 1 15 (60, .invokevirtual 171, 3, 32, 0, [0, 0, 13, 2], []) rfl rfl rfl ?_
      refine ⟨(k11.1 c12).1, ?_⟩
      refine hC _ _ _ _ _ (bRv_e (fun s13 k14 => ?_)) (k11.1 c12).2
      show A (32, [.ref 5, .ref l1, .int (bn l2), .ref l3], [], s13)
      refine bGo hA 2 0 (63, .return_, 1, 33, 0, [0], []) rfl rfl rfl ?_
      exact k14
    · refine bGo hA 2 1 (64, .aload_n 1, 1, 34, 0, [1], []) rfl rfl rfl ?_
      refine bGo hA 2 2 (65, .iload_n 2, 1, 35, 0, [2], []) rfl rfl rfl ?_
      refine bGo hA 2 3 (66, .ifCond .eq (7), 3, 36, 38, [], []) rfl rfl rfl ?_
      refine bB_eq0 (x := l2) h_l2 (fun c15 => ?_) (fun c15 => ?_)
      · refine bGo hA 2 6 (73, .iconst (4), 1, 39, 0, [], [(4, 0)]) rfl rfl rfl ?_
        refine bEqI bl_4 ?_
        exact ((k11.2 c12).1 c15)
      · refine bGo hA 2 4 (69, .iconst (3), 1, 37, 0, [], [(3, 0)]) rfl rfl rfl ?_
        refine bEqI bl_3 ?_
        refine bGo hA 2 5 (70, .goto (4), 3, 38, 39, [], []) rfl rfl rfl ?_
        exact ((k11.2 c12).2 c15)

theorem sq53_39 {lvl : Nat} {C : bCall} {Q : bPost} {A : bPt → Prop} (hC : bMono C) (hA : bClosed lvl bm53 C Q A) {v1 : Value} {l2 : Int} {l3 : Nat} {t0 : Int} {t1 : Nat} {σ : bSt}  (h_l2 : bRg l2) (h_t0 : bRg t0)
  (h : (t1 % 256 = 0 ∧ (C 13 [.ref t1, .int (bn t0), .int (bn (bi σ 5 9))] σ (bRv (fun s1 => ((l2 = 0 → (C 17 [.ref 1, .ref l3] s1 (bRv (fun s4 => (((bi s4 5 5) = 0 → Q (.inl none) s4) ∧ (¬ (bi s4 5 5) = 0 → (l3 % 256 = 4 ∧ (((bi s4 l3 7) = 0 → (C 17 [.ref 257, .ref l3] s4 (bRv (fun s8 => (C 21 [.ref 257, .int (bn (bi s8 l3 8))] s8 (bRv (fun s10 => Q (.inl none) s10))))))) ∧ (¬ (bi s4 l3 7) = 0 → Q (.inl none) s4))))))))) ∧ (¬ l2 = 0 → (l3 % 256 = 4 ∧ (C 21 [.ref 1, .int (bn (bi s1 l3 8))] s1 (bRv (fun s12 => (C 17 [.ref 1, .ref l3] s12 (bRv (fun s14 => (((bi s14 5 5) = 0 → Q (.inl none) s14) ∧ (¬ (bi s14 5 5) = 0 → (((bi s14 l3 7) = 0 → (C 17 [.ref 257, .ref l3] s14 (bRv (fun s18 => (C 21 [.ref 257, .int (bn (bi s18 l3 8))] s18 (bRv (fun s20 => Q (.inl none) s20))))))) ∧ (¬ (bi s14 l3 7) = 0 → Q (.inl none) s14)))))))))))))))))) : A (39, [.ref 5, v1, .int (bn l2), .ref l3], [.int (bn t0), .ref t1], σ) := by
  refine bGo hA 2 7 (74, .aload_n 0, 1, 40, 0, [0], []) rfl rfl rfl ?_
  refine bGo hA 2 8 (75, .getfield 104, 3, 41, 0, [5, 9, 0, 0, 0, 0], []) rfl rfl rfl ?_
  refine ⟨rfl, ?_⟩
  refine bEqI (bn_bi σ 5 9) ?_
  refine bGo hA 2 9 (78, .invokevirtual 171, 3, 42, 0, [0, 0, 13, 2], []) rfl rfl rfl ?_
  refine ⟨h.1, ?_⟩
  refine hC _ _ _ _ _ (bRv_e (fun s1 k2 => ?_)) h.2
  show A (42, [.ref 5, v1, .int (bn l2), .ref l3], [], s1)
  refine bGo hA 2 10 (81, .iload_n 2, 1, 43, 0, [2], []) rfl rfl rfl ?_
  refine bGo hA 2 11 (82, .ifCond .eq (14), 3, 44, 49, [], []) rfl rfl rfl ?_
  refine bB_eq0 (x := l2) h_l2 (fun c3 => ?_) (fun c3 => ?_)
  · refine bGo hA 3 1 (96, .aload_n 0, 1, 50, 0, [0], []) rfl rfl rfl ?_
    refine bGo hA 3 2 (97, .getfield 14, 3, 51, 0, [5, 2, 3, 1, 0, 0], []) rfl rfl rfl ?_
    refine ⟨rfl, ?_⟩
    refine bGo hA 3 3 (100, .aload_n 3, 1, 52, 0, [3], []) rfl rfl rfl ?_
    refine bGo hA 3 4 (101, .invokevirtual 179, 3, 53, 0, [0, 1, 17, 1], []) rfl rfl rfl ?_
    refine ⟨rfl, ?_⟩
    refine hC _ _ _ _ _ (bRv_e (fun s4 k5 => ?_)) (k2.1 c3)
    show A (53, [.ref 5, v1, .int (bn l2), .ref l3], [], s4)
    refine bGo hA 3 5 (104, .aload_n 0, 1, 54, 0, [0], []) rfl rfl rfl ?_
    refine bGo hA 3 6 (105, .getfield 30, 3, 55, 0, [5, 5, 1, 0, 0, 0], []) rfl rfl rfl ?_
    refine ⟨rfl, ?_⟩
    refine bEqI (bn_bi s4 5 5) ?_
    refine bGo hA 3 7 (108, .ifCond .eq (29), 3, 56, 68, [], []) rfl rfl rfl ?_
    refine bB_eq0 (x := (bi s4 5 5)) (bi_rg _ _ _) (fun c6 => ?_) (fun c6 => ?_)
    · refine bGo hA 4 4 (137, .return_, 1, 0, 0, [0], []) rfl rfl rfl ?_
      exact (k5.1 c6)
    · refine bGo hA 3 8 (111, .aload_n 3, 1, 57, 0, [3], []) rfl rfl rfl ?_
      refine bGo hA 3 9 (112, .getfield 207, 3, 58, 0, [4, 7, 1, 0, 0, 0], []) rfl rfl rfl ?_
      refine ⟨(k5.2 c6).1, ?_⟩
      refine bEqI (bn_bi s4 l3 7) ?_
      refine bGo hA 3 10 (115, .ifCond .ne (22), 3, 59, 68, [], []) rfl rfl rfl ?_
      refine bB_eq0 (x := (bi s4 l3 7)) (bi_rg _ _ _) (fun c7 => ?_) (fun c7 => ?_)
      · refine bGo hA 3 11 (118, .aload_n 0, 1, 60, 0, [0], []) rfl rfl rfl ?_
        refine bGo hA 3 12 (119, .getfield 20, 3, 61, 0, [5, 3, 3, 1, 0, 1], []) rfl rfl rfl ?_
        refine ⟨rfl, ?_⟩
        refine bGo hA 3 13 (122, .aload_n 3, 1, 62, 0, [3], []) rfl rfl rfl ?_
        refine bGo hA 3 14 (123, .invokevirtual 179, 3, 63, 0, [0, 1, 17, 1], []) rfl rfl rfl ?_
        refine ⟨rfl, ?_⟩
        refine hC _ _ _ _ _ (bRv_e (fun s8 k9 => ?_)) ((k5.2 c6).2.1 c7)
        show A (63, [.ref 5, v1, .int (bn l2), .ref l3], [], s8)
        refine bGo hA 3 15 (126, .aload_n 0, 1, 64, 0, [0], []) rfl rfl rfl ?_
        refine bGo hA 4 0 (127, .getfield 20, 3, 65, 0, [5, 3, 3, 1, 0, 1], []) rfl rfl rfl ?_
        refine ⟨rfl, ?_⟩
        refine bGo hA 4 1 (130, .aload_n 3, 1, 66, 0, [3], []) rfl rfl rfl ?_
        refine bGo hA 4 2 (131, .getfield 212, 3, 67, 0, [4, 8, 0, 0, 0, 0], []) rfl rfl rfl ?_
        refine ⟨(k5.2 c6).1, ?_⟩
        refine bEqI (bn_bi s8 l3 8) ?_
        refine bGo hA 4 3 (134, .invokevirtual 124, 3, 68, 0, [0, 1, 21, 1], []) rfl rfl rfl ?_
        refine ⟨rfl, ?_⟩
        refine hC _ _ _ _ _ (bRv_e (fun s10 k11 => ?_)) k9
        show A (68, [.ref 5, v1, .int (bn l2), .ref l3], [], s10)
        refine bGo hA 4 4 (137, .return_, 1, 0, 0, [0], []) rfl rfl rfl ?_
        exact k11
      · refine bGo hA 4 4 (137, .return_, 1, 0, 0, [0], []) rfl rfl rfl ?_
        exact ((k5.2 c6).2.2 c7)
  · refine bGo hA 2 12 (85, .aload_n 0, 1, 45, 0, [0], []) rfl rfl rfl ?_
    refine bGo hA 2 13 (86, .getfield 14, 3, 46, 0, [5, 2, 3, 1, 0, 0], []) rfl rfl rfl ?_
    refine ⟨rfl, ?_⟩
    refine bGo hA 2 14 (89, .aload_n 3, 1, 47, 0, [3], []) rfl rfl rfl ?_
    refine bGo hA 2 15 (90, .getfield 212, 3, 48, 0, [4, 8, 0, 0, 0, 0], []) rfl rfl rfl ?_
    refine ⟨(k2.2 c3).1, ?_⟩
    refine bEqI (bn_bi s1 l3 8) ?_
    refine bGo hA 3 0 (93, .invokevirtual 124, 3, 49, 0, [0, 1, 21, 1], []) rfl rfl rfl ?_
    refine ⟨rfl, ?_⟩
    refine hC _ _ _ _ _ (bRv_e (fun s12 k13 => ?_)) (k2.2 c3).2
    show A (49, [.ref 5, v1, .int (bn l2), .ref l3], [], s12)
    refine bGo hA 3 1 (96, .aload_n 0, 1, 50, 0, [0], []) rfl rfl rfl ?_
    refine bGo hA 3 2 (97, .getfield 14, 3, 51, 0, [5, 2, 3, 1, 0, 0], []) rfl rfl rfl ?_
    refine ⟨rfl, ?_⟩
    refine bGo hA 3 3 (100, .aload_n 3, 1, 52, 0, [3], []) rfl rfl rfl ?_
    refine bGo hA 3 4 (101, .invokevirtual 179, 3, 53, 0, [0, 1, 17, 1], []) rfl rfl rfl ?_
    refine ⟨rfl, ?_⟩
    refine hC _ _ _ _ _ (bRv_e (fun s14 k15 => ?_)) k13
    show A (53, [.ref 5, v1, .int (bn l2), .ref l3], [], s14)
    refine bGo hA 3 5 (104, .aload_n 0, 1, 54, 0, [0], []) rfl rfl rfl ?_
    refine bGo hA 3 6 (105, .getfield 30, 3, 55, 0, [5, 5, 1, 0, 0, 0], []) rfl rfl rfl ?_
    refine ⟨rfl, ?_⟩
    refine bEqI (bn_bi s14 5 5) ?_
    refine bGo hA 3 7 (108, .ifCond .eq (29), 3, 56, 68, [], []) rfl rfl rfl ?_
    refine bB_eq0 (x := (bi s14 5 5)) (bi_rg _ _ _) (fun c16 => ?_) (fun c16 => ?_)
    · refine bGo hA 4 4 (137, .return_, 1, 0, 0, [0], []) rfl rfl rfl ?_
      exact (k15.1 c16)
    · refine bGo hA 3 8 (111, .aload_n 3, 1, 57, 0, [3], []) rfl rfl rfl ?_
      refine bGo hA 3 9 (112, .getfield 207, 3, 58, 0, [4, 7, 1, 0, 0, 0], []) rfl rfl rfl ?_
      refine ⟨(k2.2 c3).1, ?_⟩
      refine bEqI (bn_bi s14 l3 7) ?_
      refine bGo hA 3 10 (115, .ifCond .ne (22), 3, 59, 68, [], []) rfl rfl rfl ?_
      refine bB_eq0 (x := (bi s14 l3 7)) (bi_rg _ _ _) (fun c17 => ?_) (fun c17 => ?_)
      · refine bGo hA 3 11 (118, .aload_n 0, 1, 60, 0, [0], []) rfl rfl rfl ?_
        refine bGo hA 3 12 (119, .getfield 20, 3, 61, 0, [5, 3, 3, 1, 0, 1], []) rfl rfl rfl ?_
        refine ⟨rfl, ?_⟩
        refine bGo hA 3 13 (122, .aload_n 3, 1, 62, 0, [3], []) rfl rfl rfl ?_
        refine bGo hA 3 14 (123, .invokevirtual 179, 3, 63, 0, [0, 1, 17, 1], []) rfl rfl rfl ?_
        refine ⟨rfl, ?_⟩
        refine hC _ _ _ _ _ (bRv_e (fun s18 k19 => ?_)) ((k15.2 c16).1 c17)
        show A (63, [.ref 5, v1, .int (bn l2), .ref l3], [], s18)
        refine bGo hA 3 15 (126, .aload_n 0, 1, 64, 0, [0], []) rfl rfl rfl ?_
        refine bGo hA 4 0 (127, .getfield 20, 3, 65, 0, [5, 3, 3, 1, 0, 1], []) rfl rfl rfl ?_
        refine ⟨rfl, ?_⟩
        refine bGo hA 4 1 (130, .aload_n 3, 1, 66, 0, [3], []) rfl rfl rfl ?_
        refine bGo hA 4 2 (131, .getfield 212, 3, 67, 0, [4, 8, 0, 0, 0, 0], []) rfl rfl rfl ?_
        refine ⟨(k2.2 c3).1, ?_⟩
        refine bEqI (bn_bi s18 l3 8) ?_
        refine bGo hA 4 3 (134, .invokevirtual 124, 3, 68, 0, [0, 1, 21, 1], []) rfl rfl rfl ?_
        refine ⟨rfl, ?_⟩
        refine hC _ _ _ _ _ (bRv_e (fun s20 k21 => ?_)) k19
        show A (68, [.ref 5, v1, .int (bn l2), .ref l3], [], s20)
        refine bGo hA 4 4 (137, .return_, 1, 0, 0, [0], []) rfl rfl rfl ?_
        exact k21
      · refine bGo hA 4 4 (137, .return_, 1, 0, 0, [0], []) rfl rfl rfl ?_
        exact ((k15.2 c16).2 c17)

theorem sq54_0 {lvl : Nat} {C : bCall} {Q : bPost} {A : bPt → Prop} (hC : bMono C) (hA : bClosed lvl bm54 C Q A) {x1 : Int} {x2 : Int} {σ : bSt}  (h_x1 : bRg x1) (h_x2 : bRg x2)
  (h : ((x1 < 0 → Q (.inl none) σ) ∧ (¬ x1 < 0 → ((x1 < 12 → ((0 ≤ x1 ∧ x1 < 12) ∧ (bRg ((bi σ 24 x1) + x2) ∧ Q (.inl none) (bw σ 24 x1 ((bi σ 24 x1) + x2))))) ∧ (¬ x1 < 12 → Q (.inl none) σ))))) : A (0, [.ref 5, .int (bn x1), .int (bn x2)], [], σ) := by
  refine bGo hA 0 0 (0, .iload_n 1, 1, 1, 0, [1], []) rfl rfl rfl ?_
  refine bGo hA 0 1 (1, .ifCond .lt (22), 3, 2, 15, [], []) rfl rfl rfl ?_
  refine bB_lt0 (x := x1) h_x1 (fun c1 => ?_) (fun c1 => ?_)
  · refine bGo hA 0 15 (23, .return_, 1, 0, 0, [0], []) rfl rfl rfl ?_
    exact (h.1 c1)
  · refine bGo hA 0 2 (4, .iload_n 1, 1, 3, 0, [1], []) rfl rfl rfl ?_
    refine bGo hA 0 3 (5, .aload_n 0, 1, 4, 0, [0], []) rfl rfl rfl ?_
    refine bGo hA 0 4 (6, .getfield 38, 3, 5, 0, [5, 7, 3, 24, 1, 0], []) rfl rfl rfl ?_
    refine ⟨rfl, ?_⟩
    refine bGo hA 0 5 (9, .arraylength, 1, 6, 0, [], []) rfl rfl rfl ?_
    refine ⟨by decide, ?_⟩
    refine bEqI (bn_nat 12).symm ?_
    refine bGo hA 0 6 (10, .if_icmp .ge (13), 3, 7, 15, [], []) rfl rfl rfl ?_
    refine bB_lt (x := x1) (y := 12) h_x1 (by decide : bRg 12) (fun c2 => ?_) (fun c2 => ?_)
    · refine bGo hA 0 7 (13, .aload_n 0, 1, 8, 0, [0], []) rfl rfl rfl ?_
      refine bGo hA 0 8 (14, .getfield 38, 3, 9, 0, [5, 7, 3, 24, 1, 0], []) rfl rfl rfl ?_
      refine ⟨rfl, ?_⟩
      refine bGo hA 0 9 (17, .iload_n 1, 1, 10, 0, [1], []) rfl rfl rfl ?_
      refine bGo hA 0 10 (18, .dup2, 1, 11, 0, [], []) rfl rfl rfl ?_
      refine bGo hA 0 11 (19, .iaload, 1, 12, 0, [], []) rfl rfl rfl ?_
      refine ⟨rfl, (bIxP (x := x1) (n := 12) h_x1 ((h.2 c1).1 c2).1), ?_⟩
      refine bEqL (x := x1) h_x1 ?_
      refine bGo hA 0 12 (20, .iload_n 2, 1, 13, 0, [2], []) rfl rfl rfl ?_
      refine bGo hA 0 13 (21, .iadd, 1, 14, 0, [], []) rfl rfl rfl ?_
      refine bEqI (bn_add (bi σ 24 x1) x2) ?_
      refine bGo hA 0 14 (22, .iastore, 1, 15, 0, [], []) rfl rfl rfl ?_
      refine ⟨rfl, (bIxP (x := x1) (n := 12) h_x1 ((h.2 c1).1 c2).1), by decide, ?_⟩
      refine bEqS (x := x1) h_x1 ?_
      refine bGo hA 0 15 (23, .return_, 1, 0, 0, [0], []) rfl rfl rfl ?_
      exact ((h.2 c1).1 c2).2.2
    · refine bGo hA 0 15 (23, .return_, 1, 0, 0, [0], []) rfl rfl rfl ?_
      exact ((h.2 c1).2 c2)

theorem sq55_0 {lvl : Nat} {C : bCall} {Q : bPost} {A : bPt → Prop} (hC : bMono C) (hA : bClosed lvl bm55 C Q A)  {σ : bSt}  
  (h : A (2, [.ref 5, .int (bn 0), .float 0], [], σ)) : A (0, [.ref 5, .float 0, .float 0], [], σ) := by
  refine bGo hA 0 0 (0, .iconst (0), 1, 1, 0, [], [(0, 0)]) rfl rfl rfl ?_
  refine bEqI bl_0 ?_
  refine bGo hA 0 1 (1, .istore_n 1, 1, 2, 0, [1], []) rfl rfl rfl ?_
  exact h

theorem sq55_2 {lvl : Nat} {C : bCall} {Q : bPost} {A : bPt → Prop} (hC : bMono C) (hA : bClosed lvl bm55 C Q A) {l1 : Int} {v2 : Value} {σ : bSt}  (h_l1 : bRg l1)
  (h : ((l1 < (bi σ 6 13) → (C 89 [.ref 6, .int (bn l1)] σ (bRa (fun r4 s2 => (r4 % 256 = 0 ∧ (C 11 [.ref r4] s2 (bRn (fun r7 s5 => ((r7 = 0 → (bRg (l1 + 1) ∧ A (2, [.ref 5, .int (bn (l1 + 1)), .ref r4], [], s5))) ∧ (¬ r7 = 0 → (C 29 [.ref 2, .int (bn (bi s5 r4 14)), .int (bn (-1))] s5 (bRv (fun s10 => (C 13 [.ref r4, .int (bn 7), .int (bn (bi s10 5 9))] s10 (bRv (fun s12 => (bRg (l1 + 1) ∧ A (2, [.ref 5, .int (bn (l1 + 1)), .ref r4], [], s12)))))))))))))))))) ∧ (¬ l1 < (bi σ 6 13) → Q (.inl none) σ))) : A (2, [.ref 5, .int (bn l1), v2], [], σ) := by
  refine bGo hA 0 2 (2, .iload_n 1, 1, 3, 0, [1], []) rfl rfl rfl ?_
  refine bGo hA 0 3 (3, .aload_n 0, 1, 4, 0, [0], []) rfl rfl rfl ?_
  refine bGo hA 0 4 (4, .getfield 55, 3, 5, 0, [5, 1, 3, 6, 0, 0], []) rfl rfl rfl ?_
  refine ⟨rfl, ?_⟩
  refine bGo hA 0 5 (7, .getfield 110, 3, 6, 0, [6, 13, 0, 0, 0, 0], []) rfl rfl rfl ?_
  refine ⟨rfl, ?_⟩
  refine bEqI (bn_bi σ 6 13) ?_
  refine bGo hA 0 6 (10, .if_icmp .ge (47), 3, 7, 28, [], []) rfl rfl rfl ?_
  refine bB_lt (x := l1) (y := (bi σ 6 13)) h_l1 (bi_rg _ _ _) (fun c1 => ?_) (fun c1 => ?_)
  · refine bGo hA 0 7 (13, .aload_n 0, 1, 8, 0, [0], []) rfl rfl rfl ?_
    refine bGo hA 0 8 (14, .getfield 55, 3, 9, 0, [5, 1, 3, 6, 0, 0], []) rfl rfl rfl ?_
    refine ⟨rfl, ?_⟩
    refine bGo hA 0 9 (17, .iload_n 1, 1, 10, 0, [1], []) rfl rfl rfl ?_
    refine bGo hA 0 10 (18, .invokevirtual 113, 3, 11, 0, [0, 6, 89, 1], []) rfl rfl rfl ?_
    refine ⟨rfl, ?_⟩
    refine hC _ _ _ _ _ (bRa_e (fun r4 s2 k3 => ?_)) (h.1 c1)
    show A (11, [.ref 5, .int (bn l1), v2], [.ref r4], s2)
    refine bGo hA 0 11 (21, .astore_n 2, 1, 12, 0, [2], []) rfl rfl rfl ?_
    refine bGo hA 0 12 (22, .aload_n 2, 1, 13, 0, [2], []) rfl rfl rfl ?_
    refine bGo hA 0 13 (23, .invokevirtual 215, 3, 14, 0, [0, 0, 11, 0], []) rfl rfl rfl ?_
    refine ⟨k3.1, ?_⟩
    refine hC _ _ _ _ _ (bRn_e (fun r7 s5 q8 k6 => ?_)) k3.2
    show A (14, [.ref 5, .int (bn l1), .ref r4], [.int (bn r7)], s5)
    refine bGo hA 0 14 (26, .ifCond .eq (25), 3, 15, 26, [], []) rfl rfl rfl ?_
    refine bB_eq0 (x := r7) q8 (fun c9 => ?_) (fun c9 => ?_)
    · refine bGo hA 1 10 (51, .iinc 1 (1), 3, 27, 0, [1], [(1, 0)]) rfl rfl rfl ?_
      refine bEqC (fun v => A (27, [.ref 5, .int v, .ref r4], [], s5)) ((congrArg (fun w => bn l1 + w) bl_1).trans (bn_add l1 1)) ?_
      refine bGo hA 1 11 (54, .goto (-52), 3, 28, 2, [], []) rfl rfl rfl ?_
      exact (k6.1 c9).2
    · refine bGo hA 0 15 (29, .aload_n 0, 1, 16, 0, [0], []) rfl rfl rfl ?_
      refine bGo hA 1 0 (30, .getfield 26, 3, 17, 0, [5, 4, 3, 2, 0, 0], []) rfl rfl rfl ?_
      refine ⟨rfl, ?_⟩
      refine bGo hA 1 1 (33, .aload_n 2, 1, 18, 0, [2], []) rfl rfl rfl ?_
      refine bGo hA 1 2 (34, .getfield 196, 3, 19, 0, [0, 14, 0, 0, 0, 0], []) rfl rfl rfl ?_
      refine ⟨k3.1, ?_⟩
      refine bEqI (bn_bi s5 r4 14) ?_
      refine bGo hA 1 3 (37, .iconst (-1), 1, 20, 0, [], [(-1, 0)]) rfl rfl rfl ?_
      refine bEqI bl_m1 ?_
      refine bGo hA 1 4 (38, .invokevirtual 204, 3, 21, 0, [0, 2, 29, 2], []) rfl rfl rfl ?_
      refine ⟨rfl, ?_⟩
      refine hC _ _ _ _ _ (bRv_e (fun s10 k11 => ?_)) (k6.2 c9)
      show A (21, [.ref 5, .int (bn l1), .ref r4], [], s10)
      refine bGo hA 1 5 (41, .aload_n 2, 1, 22, 0, [2], []) rfl rfl rfl ?_
      refine bGo hA 1 6 (42, .bipush (7), 2, 23, 0, [], [(7, 0)]) rfl rfl rfl ?_
      refine bEqI bl_7 ?_
      refine bGo hA 1 7 (44, .aload_n 0, 1, 24, 0, [0], []) rfl rfl rfl ?_
      refine bGo hA 1 8 (45, .getfield 104, 3, 25, 0, [5, 9, 0, 0, 0, 0], []) rfl rfl rfl ?_
      refine ⟨rfl, ?_⟩
      refine bEqI (bn_bi s10 5 9) ?_
      refine bGo hA 1 9 (48, .invokevirtual 171, 3, 26, 0, [0, 0, 13, 2], []) rfl rfl rfl ?_
      refine ⟨k3.1, ?_⟩
      refine hC _ _ _ _ _ (bRv_e (fun s12 k13 => ?_)) k11
      show A (26, [.ref 5, .int (bn l1), .ref r4], [], s12)
      refine bGo hA 1 10 (51, .iinc 1 (1), 3, 27, 0, [1], [(1, 0)]) rfl rfl rfl ?_
      refine bEqC (fun v => A (27, [.ref 5, .int v, .ref r4], [], s12)) ((congrArg (fun w => bn l1 + w) bl_1).trans (bn_add l1 1)) ?_
      refine bGo hA 1 11 (54, .goto (-52), 3, 28, 2, [], []) rfl rfl rfl ?_
      exact k13.2
  · refine bGo hA 1 12 (57, .return_, 1, 0, 0, [0], []) rfl rfl rfl ?_
    exact (h.2 c1)

theorem sq56_0 {lvl : Nat} {C : bCall} {Q : bPost} {A : bPt → Prop} (hC : bMono C) (hA : bClosed lvl bm56 C Q A)  {σ : bSt}  
  (h : A (2, [.ref 5, .int (bn 0), .float 0, .float 0], [], σ)) : A (0, [.ref 5, .float 0, .float 0, .float 0], [], σ) := by
  refine bGo hA 0 0 (0, .iconst (0), 1, 1, 0, [], [(0, 0)]) rfl rfl rfl ?_
  refine bEqI bl_0 ?_
  refine bGo hA 0 1 (1, .istore_n 1, 1, 2, 0, [1], []) rfl rfl rfl ?_
  exact h

theorem sq56_2 {lvl : Nat} {C : bCall} {Q : bPost} {A : bPt → Prop} (hC : bMono C) (hA : bClosed lvl bm56 C Q A) {l1 : Int} {v2 : Value} {v3 : Value} {σ : bSt}  (h_l1 : bRg l1)
  (h : (((120 : Int) < l1 → Q (.inl none) σ) ∧ (¬ (120 : Int) < l1 → (C 57 [.ref 5] σ (bRn (fun r4 s2 => ((r4 = (-1) → Q (.inl none) s2) ∧ (¬ r4 = (-1) → (C 89 [.ref 6, .int (bn r4)] s2 (bRa (fun r9 s7 => (r9 % 256 = 0 ∧ (((bi s7 r9 13) = (-1) → (C 59 [.ref 5, .ref r9] s7 (bRv (fun s11 => (C 60 [.ref 5, .ref r9, .int (bn r4)] (bw s11 r9 13 (bi s11 5 9)) (bRv (fun s13 => (bRg (l1 + 1) ∧ A (2, [.ref 5, .int (bn (l1 + 1)), .int (bn r4), .ref r9], [], s13))))))))) ∧ (¬ (bi s7 r9 13) = (-1) → (C 60 [.ref 5, .ref r9, .int (bn r4)] (bw s7 r9 13 (bi s7 5 9)) (bRv (fun s15 => (bRg (l1 + 1) ∧ A (2, [.ref 5, .int (bn (l1 + 1)), .int (bn r4), .ref r9], [], s15))))))))))))))))))) : A (2, [.ref 5, .int (bn l1), v2, v3], [], σ) := by
  refine bGo hA 0 2 (2, .iload_n 1, 1, 3, 0, [1], []) rfl rfl rfl ?_
  refine bGo hA 0 3 (3, .bipush (120), 2, 4, 0, [], [(120, 0)]) rfl rfl rfl ?_
  refine bEqI bl_120 ?_
  refine bGo hA 0 4 (5, .if_icmp .gt (56), 3, 5, 34, [], []) rfl rfl rfl ?_
  refine bB_lt (x := 120) (y := l1) (by decide : bRg 120) h_l1 (fun c1 => ?_) (fun c1 => ?_)
  · refine bGo hA 2 2 (61, .return_, 1, 0, 0, [0], []) rfl rfl rfl ?_
    exact (h.1 c1)
  · refine bGo hA 0 5 (8, .aload_n 0, 1, 6, 0, [0], []) rfl rfl rfl ?_
    refine bGo hA 0 6 (9, .invokevirtual 218, 3, 7, 0, [0, 5, 57, 0], []) rfl rfl rfl ?_
    refine ⟨rfl, ?_⟩
    refine hC _ _ _ _ _ (bRn_e (fun r4 s2 q5 k3 => ?_)) (h.2 c1)
    show A (7, [.ref 5, .int (bn l1), v2, v3], [.int (bn r4)], s2)
    refine bGo hA 0 7 (12, .istore_n 2, 1, 8, 0, [2], []) rfl rfl rfl ?_
    refine bGo hA 0 8 (13, .iload_n 2, 1, 9, 0, [2], []) rfl rfl rfl ?_
    refine bGo hA 0 9 (14, .iconst (-1), 1, 10, 0, [], [(-1, 0)]) rfl rfl rfl ?_
    refine bEqI bl_m1 ?_
    refine bGo hA 0 10 (15, .if_icmp .ne (4), 3, 11, 12, [], []) rfl rfl rfl ?_
    refine bB_eq (x := r4) (y := (-1)) q5 (by decide : bRg (-1)) (fun c6 => ?_) (fun c6 => ?_)
    · refine bGo hA 0 11 (18, .return_, 1, 12, 0, [0], []) rfl rfl rfl ?_
      exact (k3.1 c6)
    · refine bGo hA 0 12 (19, .aload_n 0, 1, 13, 0, [0], []) rfl rfl rfl ?_
      refine bGo hA 0 13 (20, .getfield 55, 3, 14, 0, [5, 1, 3, 6, 0, 0], []) rfl rfl rfl ?_
      refine ⟨rfl, ?_⟩
      refine bGo hA 0 14 (23, .iload_n 2, 1, 15, 0, [2], []) rfl rfl rfl ?_
      refine bGo hA 0 15 (24, .invokevirtual 113, 3, 16, 0, [0, 6, 89, 1], []) rfl rfl rfl ?_
      refine ⟨rfl, ?_⟩
      refine hC _ _ _ _ _ (bRa_e (fun r9 s7 k8 => ?_)) (k3.2 c6)
      show A (16, [.ref 5, .int (bn l1), .int (bn r4), v3], [.ref r9], s7)
      refine bGo hA 1 0 (27, .astore_n 3, 1, 17, 0, [3], []) rfl rfl rfl ?_
      refine bGo hA 1 1 (28, .aload_n 3, 1, 18, 0, [3], []) rfl rfl rfl ?_
      refine bGo hA 1 2 (29, .getfield 221, 3, 19, 0, [0, 13, 0, 0, 0, 0], []) rfl rfl rfl ?_
      refine ⟨k8.1, ?_⟩
      refine bEqI (bn_bi s7 r9 13) ?_
      refine bGo hA 1 3 (32, .iconst (-1), 1, 20, 0, [], [(-1, 0)]) rfl rfl rfl ?_
      refine bEqI bl_m1 ?_
      refine bGo hA 1 4 (33, .if_icmp .ne (8), 3, 21, 24, [], []) rfl rfl rfl ?_
      refine bB_eq (x := (bi s7 r9 13)) (y := (-1)) (bi_rg _ _ _) (by decide : bRg (-1)) (fun c10 => ?_) (fun c10 => ?_)
      · refine bGo hA 1 5 (36, .aload_n 0, 1, 22, 0, [0], []) rfl rfl rfl ?_
        refine bGo hA 1 6 (37, .aload_n 3, 1, 23, 0, [3], []) rfl rfl rfl ?_
        refine bGo hA 1 7 (38, .invokevirtual 224, 3, 24, 0, [0, 5, 59, 1], []) rfl rfl rfl ?_
        refine ⟨rfl, ?_⟩
        refine hC _ _ _ _ _ (bRv_e (fun s11 k12 => ?_)) (k8.2.1 c10)
        show A (24, [.ref 5, .int (bn l1), .int (bn r4), .ref r9], [], s11)
        refine bGo hA 1 8 (41, .aload_n 3, 1, 25, 0, [3], []) rfl rfl rfl ?_
        refine bGo hA 1 9 (42, .aload_n 0, 1, 26, 0, [0], []) rfl rfl rfl ?_
        refine bGo hA 1 10 (43, .getfield 104, 3, 27, 0, [5, 9, 0, 0, 0, 0], []) rfl rfl rfl ?_
        refine ⟨rfl, ?_⟩
        refine bEqI (bn_bi s11 5 9) ?_
        refine bGo hA 1 11 (46, .putfield 221, 3, 28, 0, [0, 13, 0, 0, 0, 0], []) rfl rfl rfl ?_
        refine ⟨k8.1, ?_⟩
        refine bGo hA 1 12 (49, .aload_n 0, 1, 29, 0, [0], []) rfl rfl rfl ?_
        refine bGo hA 1 13 (50, .aload_n 3, 1, 30, 0, [3], []) rfl rfl rfl ?_
        refine bGo hA 1 14 (51, .iload_n 2, 1, 31, 0, [2], []) rfl rfl rfl ?_
        refine bGo hA 1 15 (52, .invokevirtual 228, 3, 32, 0, [0, 5, 60, 2], []) rfl rfl rfl ?_
        refine ⟨rfl, ?_⟩
        refine hC _ _ _ _ _ (bRv_e (fun s13 k14 => ?_)) k12
        show A (32, [.ref 5, .int (bn l1), .int (bn r4), .ref r9], [], s13)
        refine bGo hA 2 0 (55, .iinc 1 (1), 3, 33, 0, [1], [(1, 0)]) rfl rfl rfl ?_
        refine bEqC (fun v => A (33, [.ref 5, .int v, .int (bn r4), .ref r9], [], s13)) ((congrArg (fun w => bn l1 + w) bl_1).trans (bn_add l1 1)) ?_
        refine bGo hA 2 1 (58, .goto (-56), 3, 34, 2, [], []) rfl rfl rfl ?_
        exact k14.2
      · refine bGo hA 1 8 (41, .aload_n 3, 1, 25, 0, [3], []) rfl rfl rfl ?_
        refine bGo hA 1 9 (42, .aload_n 0, 1, 26, 0, [0], []) rfl rfl rfl ?_
        refine bGo hA 1 10 (43, .getfield 104, 3, 27, 0, [5, 9, 0, 0, 0, 0], []) rfl rfl rfl ?_
        refine ⟨rfl, ?_⟩
        refine bEqI (bn_bi s7 5 9) ?_
        refine bGo hA 1 11 (46, .putfield 221, 3, 28, 0, [0, 13, 0, 0, 0, 0], []) rfl rfl rfl ?_
        refine ⟨k8.1, ?_⟩
        refine bGo hA 1 12 (49, .aload_n 0, 1, 29, 0, [0], []) rfl rfl rfl ?_
        refine bGo hA 1 13 (50, .aload_n 3, 1, 30, 0, [3], []) rfl rfl rfl ?_
        refine bGo hA 1 14 (51, .iload_n 2, 1, 31, 0, [2], []) rfl rfl rfl ?_
        refine bGo hA 1 15 (52, .invokevirtual 228, 3, 32, 0, [0, 5, 60, 2], []) rfl rfl rfl ?_
        refine ⟨rfl, ?_⟩
        refine hC _ _ _ _ _ (bRv_e (fun s15 k16 => ?_)) (k8.2.2 c10)
        show A (32, [.ref 5, .int (bn l1), .int (bn r4), .ref r9], [], s15)
        refine bGo hA 2 0 (55, .iinc 1 (1), 3, 33, 0, [1], [(1, 0)]) rfl rfl rfl ?_
        refine bEqC (fun v => A (33, [.ref 5, .int v, .int (bn r4), .ref r9], [], s15)) ((congrArg (fun w => bn l1 + w) bl_1).trans (bn_add l1 1)) ?_
        refine bGo hA 2 1 (58, .goto (-56), 3, 34, 2, [], []) rfl rfl rfl ?_
        exact k16.2

theorem sq57_0 {lvl : Nat} {C : bCall} {Q : bPost} {A : bPt → Prop} (hC : bMono C) (hA : bClosed lvl bm57 C Q A)  {σ : bSt}  
  (h : A (6, [.ref 5, .int (bn (-1)), .int (bn 0), .int (bn 0), .float 0, .float 0], [], σ)) : A (0, [.ref 5, .float 0, .float 0, .float 0, .float 0, .float 0], [], σ) := by
  refine bGo hA 0 0 (0, .iconst (-1), 1, 1, 0, [], [(-1, 0)]) rfl rfl rfl ?_
  refine bEqI bl_m1 ?_
  refine bGo hA 0 1 (1, .istore_n 1, 1, 2, 0, [1], []) rfl rfl rfl ?_
  refine bGo hA 0 2 (2, .iconst (0), 1, 3, 0, [], [(0, 0)]) rfl rfl rfl ?_
  refine bEqI bl_0 ?_
  refine bGo hA 0 3 (3, .istore_n 2, 1, 4, 0, [2], []) rfl rfl rfl ?_
  refine bGo hA 0 4 (4, .iconst (0), 1, 5, 0, [], [(0, 0)]) rfl rfl rfl ?_
  refine bEqI bl_0 ?_
  refine bGo hA 0 5 (5, .istore_n 3, 1, 6, 0, [3], []) rfl rfl rfl ?_
  exact h

theorem sq57_6 {lvl : Nat} {C : bCall} {Q : bPost} {A : bPt → Prop} (hC : bMono C) (hA : bClosed lvl bm57 C Q A) {l1 : Int} {l2 : Int} {l3 : Int} {v4 : Value} {v5 : Value} {σ : bSt}  (h_l1 : bRg l1) (h_l2 : bRg l2) (h_l3 : bRg l3)
  (h : ((l3 < (bi σ 6 13) → (C 89 [.ref 6, .int (bn l3)] σ (bRa (fun r4 s2 => (r4 % 256 = 0 ∧ (((bi s2 r4 5) = 0 → (bRg (l3 + 1) ∧ A (6, [.ref 5, .int (bn l1), .int (bn l2), .int (bn (l3 + 1)), .ref r4, .int (bn 0)], [], s2))) ∧ (¬ (bi s2 r4 5) = 0 → (((bi s2 r4 11) = (-1) → (((bi s2 r4 13) = (bi s2 5 9) → (bRg (l3 + 1) ∧ A (6, [.ref 5, .int (bn l1), .int (bn l2), .int (bn (l3 + 1)), .ref r4, .int (bn 0)], [], s2))) ∧ (¬ (bi s2 r4 13) = (bi s2 5 9) → ((l2 < (bi s2 r4 9) → (C 58 [.ref 5, .ref r4] s2 (bRn (fun r14 s12 => ((r14 = 0 → (bRg (l3 + 1) ∧ A (6, [.ref 5, .int (bn l1), .int (bn l2), .int (bn (l3 + 1)), .ref r4, .int (bn 1)], [], s12))) ∧ (¬ r14 = 0 → (bRg (l3 + 1) ∧ A (6, [.ref 5, .int (bn l3), .int (bn (bi s12 r4 9)), .int (bn (l3 + 1)), .ref r4, .int (bn 1)], [], s12)))))))) ∧ (¬ l2 < (bi s2 r4 9) → (bRg (l3 + 1) ∧ A (6, [.ref 5, .int (bn l1), .int (bn l2), .int (bn (l3 + 1)), .ref r4, .int (bn 1)], [], s2))))))) ∧ (¬ (bi s2 r4 11) = (-1) → (bRg (l3 + 1) ∧ A (6, [.ref 5, .int (bn l1), .int (bn l2), .int (bn (l3 + 1)), .ref r4, .int (bn 0)], [], s2))))))))))) ∧ (¬ l3 < (bi σ 6 13) → Q (.inl (some (.int (bn l1)))) σ))) : A (6, [.ref 5, .int (bn l1), .int (bn l2), .int (bn l3), v4, v5], [], σ) := by
  refine bGo hA 0 6 (6, .iload_n 3, 1, 7, 0, [3], []) rfl rfl rfl ?_
  refine bGo hA 0 7 (7, .aload_n 0, 1, 8, 0, [0], []) rfl rfl rfl ?_
  refine bGo hA 0 8 (8, .getfield 55, 3, 9, 0, [5, 1, 3, 6, 0, 0], []) rfl rfl rfl ?_
  refine ⟨rfl, ?_⟩
  refine bGo hA 0 9 (11, .getfield 110, 3, 10, 0, [6, 13, 0, 0, 0, 0], []) rfl rfl rfl ?_
  refine ⟨rfl, ?_⟩
  refine bEqI (bn_bi σ 6 13) ?_
  refine bGo hA 0 10 (14, .if_icmp .ge (86), 3, 11, 49, [], []) rfl rfl rfl ?_
  refine bB_lt (x := l3) (y := (bi σ 6 13)) h_l3 (bi_rg _ _ _) (fun c1 => ?_) (fun c1 => ?_)
  · refine bGo hA 0 11 (17, .aload_n 0, 1, 12, 0, [0], []) rfl rfl rfl ?_
    refine bGo hA 0 12 (18, .getfield 55, 3, 13, 0, [5, 1, 3, 6, 0, 0], []) rfl rfl rfl ?_
    refine ⟨rfl, ?_⟩
    refine bGo hA 0 13 (21, .iload_n 3, 1, 14, 0, [3], []) rfl rfl rfl ?_
    refine bGo hA 0 14 (22, .invokevirtual 113, 3, 15, 0, [0, 6, 89, 1], []) rfl rfl rfl ?_
    refine ⟨rfl, ?_⟩
    refine hC _ _ _ _ _ (bRa_e (fun r4 s2 k3 => ?_)) (h.1 c1)
    show A (15, [.ref 5, .int (bn l1), .int (bn l2), .int (bn l3), v4, v5], [.ref r4], s2)
    refine bGo hA 0 15 (25, .astore 4, 2, 16, 0, [4], []) rfl rfl rfl ?_
    refine bGo hA 1 0 (27, .aload 4, 2, 17, 0, [4], []) rfl rfl rfl ?_
    refine bGo hA 1 1 (29, .getfield 133, 3, 18, 0, [0, 5, 1, 0, 0, 0], []) rfl rfl rfl ?_
    refine ⟨k3.1, ?_⟩
    refine bEqI (bn_bi s2 r4 5) ?_
    refine bGo hA 1 2 (32, .ifCond .eq (28), 3, 19, 30, [], []) rfl rfl rfl ?_
    refine bB_eq0 (x := (bi s2 r4 5)) (bi_rg _ _ _) (fun c5 => ?_) (fun c5 => ?_)
    · refine bGo hA 1 14 (60, .iconst (0), 1, 31, 0, [], [(0, 0)]) rfl rfl rfl ?_
      refine bEqI bl_0 ?_
      refine bGo hA 1 15 (61, .istore 5, 2, 32, 0, [5], []) rfl rfl rfl ?_
      refine bGo hA 2 0 (63, .iload 5, 2, 33, 0, [5], []) rfl rfl rfl ?_
      refine bGo hA 2 1 (65, .ifCond .eq (29), 3, 34, 47, [], []) rfl rfl rfl ?_
      refine ⟨fun _ => ?_, fun c => absurd (by decide) c⟩
      refine bGo hA 2 15 (94, .iinc 3 (1), 3, 48, 0, [3], [(1, 0)]) rfl rfl rfl ?_
      refine bEqC (fun v => A (48, [.ref 5, .int (bn l1), .int (bn l2), .int v, .ref r4, .int (bn 0)], [], s2)) ((congrArg (fun w => bn l3 + w) bl_1).trans (bn_add l3 1)) ?_
      refine bGo hA 3 0 (97, .goto (-91), 3, 49, 6, [], []) rfl rfl rfl ?_
      exact (k3.2.1 c5).2
    · refine bGo hA 1 3 (35, .aload 4, 2, 20, 0, [4], []) rfl rfl rfl ?_
      refine bGo hA 1 4 (37, .getfield 232, 3, 21, 0, [0, 11, 0, 0, 0, 0], []) rfl rfl rfl ?_
      refine ⟨k3.1, ?_⟩
      refine bEqI (bn_bi s2 r4 11) ?_
      refine bGo hA 1 5 (40, .iconst (-1), 1, 22, 0, [], [(-1, 0)]) rfl rfl rfl ?_
      refine bEqI bl_m1 ?_
      refine bGo hA 1 6 (41, .if_icmp .ne (19), 3, 23, 30, [], []) rfl rfl rfl ?_
      refine bB_eq (x := (bi s2 r4 11)) (y := (-1)) (bi_rg _ _ _) (by decide : bRg (-1)) (fun c7 => ?_) (fun c7 => ?_)
      · refine bGo hA 1 7 (44, .aload 4, 2, 24, 0, [4], []) rfl rfl rfl ?_
        refine bGo hA 1 8 (46, .getfield 221, 3, 25, 0, [0, 13, 0, 0, 0, 0], []) rfl rfl rfl ?_
        refine ⟨k3.1, ?_⟩
        refine bEqI (bn_bi s2 r4 13) ?_
        refine bGo hA 1 9 (49, .aload_n 0, 1, 26, 0, [0], []) rfl rfl rfl ?_
        refine bGo hA 1 10 (50, .getfield 104, 3, 27, 0, [5, 9, 0, 0, 0, 0], []) rfl rfl rfl ?_
        refine ⟨rfl, ?_⟩
        refine bEqI (bn_bi s2 5 9) ?_
        refine bGo hA 1 11 (53, .if_icmp .eq (7), 3, 28, 30, [], []) rfl rfl rfl ?_
        refine bB_eq (x := (bi s2 r4 13)) (y := (bi s2 5 9)) (bi_rg _ _ _) (bi_rg _ _ _) (fun c8 => ?_) (fun c8 => ?_)
        · refine bGo hA 1 14 (60, .iconst (0), 1, 31, 0, [], [(0, 0)]) rfl rfl rfl ?_
          refine bEqI bl_0 ?_
          refine bGo hA 1 15 (61, .istore 5, 2, 32, 0, [5], []) rfl rfl rfl ?_
          refine bGo hA 2 0 (63, .iload 5, 2, 33, 0, [5], []) rfl rfl rfl ?_
          refine bGo hA 2 1 (65, .ifCond .eq (29), 3, 34, 47, [], []) rfl rfl rfl ?_
          refine ⟨fun _ => ?_, fun c => absurd (by decide) c⟩
          refine bGo hA 2 15 (94, .iinc 3 (1), 3, 48, 0, [3], [(1, 0)]) rfl rfl rfl ?_
          refine bEqC (fun v => A (48, [.ref 5, .int (bn l1), .int (bn l2), .int v, .ref r4, .int (bn 0)], [], s2)) ((congrArg (fun w => bn l3 + w) bl_1).trans (bn_add l3 1)) ?_
          refine bGo hA 3 0 (97, .goto (-91), 3, 49, 6, [], []) rfl rfl rfl ?_
          exact (((k3.2.2 c5).1 c7).1 c8).2
        · refine bGo hA 1 12 (56, .iconst (1), 1, 29, 0, [], [(1, 0)]) rfl rfl rfl ?_
          refine bEqI bl_1 ?_
          refine bGo hA 1 13 (57, .goto (4), 3, 30, 31, [], []) rfl rfl rfl ?_
          refine bGo hA 1 15 (61, .istore 5, 2, 32, 0, [5], []) rfl rfl rfl ?_
          refine bGo hA 2 0 (63, .iload 5, 2, 33, 0, [5], []) rfl rfl rfl ?_
          refine bGo hA 2 1 (65, .ifCond .eq (29), 3, 34, 47, [], []) rfl rfl rfl ?_
          refine ⟨fun c => absurd c (by decide), fun _ => ?_⟩
          refine bGo hA 2 2 (68, .aload 4, 2, 35, 0, [4], []) rfl rfl rfl ?_
          refine bGo hA 2 3 (70, .getfield 127, 3, 36, 0, [0, 9, 0, 0, 0, 0], []) rfl rfl rfl ?_
          refine ⟨k3.1, ?_⟩
          refine bEqI (bn_bi s2 r4 9) ?_
          refine bGo hA 2 4 (73, .iload_n 2, 1, 37, 0, [2], []) rfl rfl rfl ?_
          refine bGo hA 2 5 (74, .if_icmp .le (20), 3, 38, 47, [], []) rfl rfl rfl ?_
          refine bB_lt (x := l2) (y := (bi s2 r4 9)) h_l2 (bi_rg _ _ _) (fun c11 => ?_) (fun c11 => ?_)
          · refine bGo hA 2 6 (77, .aload_n 0, 1, 39, 0, [0], []) rfl rfl rfl ?_
            refine bGo hA 2 7 (78, .aload 4, 2, 40, 0, [4], []) rfl rfl rfl ?_
            refine bGo hA 2 8 (80, .invokevirtual 235, 3, 41, 0, [0, 5, 58, 1], []) rfl rfl rfl ?_
            refine ⟨rfl, ?_⟩
            refine hC _ _ _ _ _ (bRn_e (fun r14 s12 q15 k13 => ?_)) ((((k3.2.2 c5).1 c7).2 c8).1 c11)
            show A (41, [.ref 5, .int (bn l1), .int (bn l2), .int (bn l3), .ref r4, .int (bn 1)], [.int (bn r14)], s12)
            refine bGo hA 2 9 (83, .ifCond .eq (11), 3, 42, 47, [], []) rfl rfl rfl ?_
            refine bB_eq0 (x := r14) q15 (fun c16 => ?_) (fun c16 => ?_)
            · refine bGo hA 2 15 (94, .iinc 3 (1), 3, 48, 0, [3], [(1, 0)]) rfl rfl rfl ?_
              refine bEqC (fun v => A (48, [.ref 5, .int (bn l1), .int (bn l2), .int v, .ref r4, .int (bn 1)], [], s12)) ((congrArg (fun w => bn l3 + w) bl_1).trans (bn_add l3 1)) ?_
              refine bGo hA 3 0 (97, .goto (-91), 3, 49, 6, [], []) rfl rfl rfl ?_
              exact (k13.1 c16).2
            · refine bGo hA 2 10 (86, .iload_n 3, 1, 43, 0, [3], []) rfl rfl rfl ?_
              refine bGo hA 2 11 (87, .istore_n 1, 1, 44, 0, [1], []) rfl rfl rfl ?_
              refine bGo hA 2 12 (88, .aload 4, 2, 45, 0, [4], []) rfl rfl rfl ?_
              refine bGo hA 2 13 (90, .getfield 127, 3, 46, 0, [0, 9, 0, 0, 0, 0], []) rfl rfl rfl ?_
              refine ⟨k3.1, ?_⟩
              refine bEqI (bn_bi s12 r4 9) ?_
              refine bGo hA 2 14 (93, .istore_n 2, 1, 47, 0, [2], []) rfl rfl rfl ?_
              refine bGo hA 2 15 (94, .iinc 3 (1), 3, 48, 0, [3], [(1, 0)]) rfl rfl rfl ?_
              refine bEqC (fun v => A (48, [.ref 5, .int (bn l3), .int (bn (bi s12 r4 9)), .int v, .ref r4, .int (bn 1)], [], s12)) ((congrArg (fun w => bn l3 + w) bl_1).trans (bn_add l3 1)) ?_
              refine bGo hA 3 0 (97, .goto (-91), 3, 49, 6, [], []) rfl rfl rfl ?_
              exact (k13.2 c16).2
          · refine bGo hA 2 15 (94, .iinc 3 (1), 3, 48, 0, [3], [(1, 0)]) rfl rfl rfl ?_
            refine bEqC (fun v => A (48, [.ref 5, .int (bn l1), .int (bn l2), .int v, .ref r4, .int (bn 1)], [], s2)) ((congrArg (fun w => bn l3 + w) bl_1).trans (bn_add l3 1)) ?_
            refine bGo hA 3 0 (97, .goto (-91), 3, 49, 6, [], []) rfl rfl rfl ?_
            exact ((((k3.2.2 c5).1 c7).2 c8).2 c11).2
      · refine bGo hA 1 14 (60, .iconst (0), 1, 31, 0, [], [(0, 0)]) rfl rfl rfl ?_
        refine bEqI bl_0 ?_
        refine bGo hA 1 15 (61, .istore 5, 2, 32, 0, [5], []) rfl rfl rfl ?_
        refine bGo hA 2 0 (63, .iload 5, 2, 33, 0, [5], []) rfl rfl rfl ?_
        refine bGo hA 2 1 (65, .ifCond .eq (29), 3, 34, 47, [], []) rfl rfl rfl ?_
        refine ⟨fun _ => ?_, fun c => absurd (by decide) c⟩
        refine bGo hA 2 15 (94, .iinc 3 (1), 3, 48, 0, [3], [(1, 0)]) rfl rfl rfl ?_
        refine bEqC (fun v => A (48, [.ref 5, .int (bn l1), .int (bn l2), .int v, .ref r4, .int (bn 0)], [], s2)) ((congrArg (fun w => bn l3 + w) bl_1).trans (bn_add l3 1)) ?_
        refine bGo hA 3 0 (97, .goto (-91), 3, 49, 6, [], []) rfl rfl rfl ?_
        exact ((k3.2.2 c5).2 c7).2
  · refine bGo hA 3 1 (100, .iload_n 1, 1, 50, 0, [1], []) rfl rfl rfl ?_
    refine bGo hA 3 2 (101, .ireturn, 1, 0, 0, [1], []) rfl rfl rfl ?_
    exact (h.2 c1)

theorem sq58_0 {lvl : Nat} {C : bCall} {Q : bPost} {A : bPt → Prop} (hC : bMono C) (hA : bClosed lvl bm58 C Q A) {a1 : Nat} {σ : bSt} (h_a1 : a1 % 256 = 0) 
  (h : A (2, [.ref 5, .ref a1, .int (bn 0), .float 0], [], σ)) : A (0, [.ref 5, .ref a1, .float 0, .float 0], [], σ) := by
  refine bGo hA 0 0 (0, .iconst (0), 1, 1, 0, [], [(0, 0)]) rfl rfl rfl ?_
  refine bEqI bl_0 ?_
  refine bGo hA 0 1 (1, .istore_n 2, 1, 2, 0, [2], []) rfl rfl rfl ?_
  exact h

theorem sq58_2 {lvl : Nat} {C : bCall} {Q : bPost} {A : bPt → Prop} (hC : bMono C) (hA : bClosed lvl bm58 C Q A) {l1 : Nat} {l2 : Int} {v3 : Value} {σ : bSt}  (h_l2 : bRg l2)
  (h : (l1 % 256 = 0 ∧ ((l2 < (bi σ l1 1) → (C 5 [.ref l1, .int (bn l2)] σ (bRn (fun r4 s2 => ((r4 = (-1) → (bRg (l2 + 1) ∧ A (2, [.ref 5, .ref l1, .int (bn (l2 + 1)), .int (bn r4)], [], s2))) ∧ (¬ r4 = (-1) → (C 89 [.ref 6, .int (bn r4)] s2 (bRa (fun r9 s7 => (r9 % 256 = 0 ∧ (C 10 [.ref r9] s7 (bRn (fun r12 s10 => ((r12 = 0 → Q (.inl (some (.int (bn 0)))) s10) ∧ (¬ r12 = 0 → (bRg (l2 + 1) ∧ A (2, [.ref 5, .ref l1, .int (bn (l2 + 1)), .int (bn r4)], [], s10))))))))))))))))) ∧ (¬ l2 < (bi σ l1 1) → Q (.inl (some (.int (bn 1)))) σ)))) : A (2, [.ref 5, .ref l1, .int (bn l2), v3], [], σ) := by
  refine bGo hA 0 2 (2, .iload_n 2, 1, 3, 0, [2], []) rfl rfl rfl ?_
  refine bGo hA 0 3 (3, .aload_n 1, 1, 4, 0, [1], []) rfl rfl rfl ?_
  refine bGo hA 0 4 (4, .getfield 136, 3, 5, 0, [0, 1, 0, 0, 0, 0], []) rfl rfl rfl ?_
  refine ⟨h.1, ?_⟩
  refine bEqI (bn_bi σ l1 1) ?_
  refine bGo hA 0 5 (7, .if_icmp .ge (36), 3, 6, 23, [], []) rfl rfl rfl ?_
  refine bB_lt (x := l2) (y := (bi σ l1 1)) h_l2 (bi_rg _ _ _) (fun c1 => ?_) (fun c1 => ?_)
  · refine bGo hA 0 6 (10, .aload_n 1, 1, 7, 0, [1], []) rfl rfl rfl ?_
    refine bGo hA 0 7 (11, .iload_n 2, 1, 8, 0, [2], []) rfl rfl rfl ?_
    refine bGo hA 0 8 (12, .invokevirtual 139, 3, 9, 0, [0, 0, 5, 1], []) rfl rfl rfl ?_
    refine ⟨h.1, ?_⟩
    refine hC _ _ _ _ _ (bRn_e (fun r4 s2 q5 k3 => ?_)) (h.2.1 c1)
    show A (9, [.ref 5, .ref l1, .int (bn l2), v3], [.int (bn r4)], s2)
    refine bGo hA 0 9 (15, .istore_n 3, 1, 10, 0, [3], []) rfl rfl rfl ?_
    refine bGo hA 0 10 (16, .iload_n 3, 1, 11, 0, [3], []) rfl rfl rfl ?_
    refine bGo hA 0 11 (17, .iconst (-1), 1, 12, 0, [], [(-1, 0)]) rfl rfl rfl ?_
    refine bEqI bl_m1 ?_
    refine bGo hA 0 12 (18, .if_icmp .eq (19), 3, 13, 21, [], []) rfl rfl rfl ?_
    refine bB_eq (x := r4) (y := (-1)) q5 (by decide : bRg (-1)) (fun c6 => ?_) (fun c6 => ?_)
    · refine bGo hA 1 5 (37, .iinc 2 (1), 3, 22, 0, [2], [(1, 0)]) rfl rfl rfl ?_
      refine bEqC (fun v => A (22, [.ref 5, .ref l1, .int v, .int (bn r4)], [], s2)) ((congrArg (fun w => bn l2 + w) bl_1).trans (bn_add l2 1)) ?_
      refine bGo hA 1 6 (40, .goto (-38), 3, 23, 2, [], []) rfl rfl rfl ?_
      exact (k3.1 c6).2
    · refine bGo hA 0 13 (21, .aload_n 0, 1, 14, 0, [0], []) rfl rfl rfl ?_
      refine bGo hA 0 14 (22, .getfield 55, 3, 15, 0, [5, 1, 3, 6, 0, 0], []) rfl rfl rfl ?_
      refine ⟨rfl, ?_⟩
      refine bGo hA 0 15 (25, .iload_n 3, 1, 16, 0, [3], []) rfl rfl rfl ?_
      refine bGo hA 1 0 (26, .invokevirtual 113, 3, 17, 0, [0, 6, 89, 1], []) rfl rfl rfl ?_
      refine ⟨rfl, ?_⟩
      refine hC _ _ _ _ _ (bRa_e (fun r9 s7 k8 => ?_)) (k3.2 c6)
      show A (17, [.ref 5, .ref l1, .int (bn l2), .int (bn r4)], [.ref r9], s7)
      refine bGo hA 1 1 (29, .invokevirtual 92, 3, 18, 0, [0, 0, 10, 0], []) rfl rfl rfl ?_
      refine ⟨k8.1, ?_⟩
      refine hC _ _ _ _ _ (bRn_e (fun r12 s10 q13 k11 => ?_)) k8.2
      show A (18, [.ref 5, .ref l1, .int (bn l2), .int (bn r4)], [.int (bn r12)], s10)
      refine bGo hA 1 2 (32, .ifCond .ne (5), 3, 19, 21, [], []) rfl rfl rfl ?_
      refine bB_eq0 (x := r12) q13 (fun c14 => ?_) (fun c14 => ?_)
      · refine bGo hA 1 3 (35, .iconst (0), 1, 20, 0, [], [(0, 0)]) rfl rfl rfl ?_
        refine bEqI bl_0 ?_
        refine bGo hA 1 4 (36, .ireturn, 1, 21, 0, [2], []) rfl rfl rfl ?_
        exact ⟨b01 (Or.inl rfl), (k11.1 c14)⟩
      · refine bGo hA 1 5 (37, .iinc 2 (1), 3, 22, 0, [2], [(1, 0)]) rfl rfl rfl ?_
        refine bEqC (fun v => A (22, [.ref 5, .ref l1, .int v, .int (bn r4)], [], s10)) ((congrArg (fun w => bn l2 + w) bl_1).trans (bn_add l2 1)) ?_
        refine bGo hA 1 6 (40, .goto (-38), 3, 23, 2, [], []) rfl rfl rfl ?_
        exact (k11.2 c14).2
  · refine bGo hA 1 7 (43, .iconst (1), 1, 24, 0, [], [(1, 0)]) rfl rfl rfl ?_
    refine bEqI bl_1 ?_
    refine bGo hA 1 8 (44, .ireturn, 1, 0, 0, [2], []) rfl rfl rfl ?_
    exact ⟨b01 (Or.inr rfl), (h.2.2 c1)⟩

theorem sq59_0 {lvl : Nat} {C : bCall} {Q : bPost} {A : bPt → Prop} (hC : bMono C) (hA : bClosed lvl bm59 C Q A) {a1 : Nat} {σ : bSt} (h_a1 : a1 % 256 = 0) 
  (h : ((256 * (2 * (a1 / 256) + 0) + 4) % 256 = 4 ∧ A (7, [.ref 5, .ref a1, .int (bn 0), .float 0, .float 0], [], (bw σ (256 * (2 * (a1 / 256) + 0) + 4) 3 (bi σ a1 1))))) : A (0, [.ref 5, .ref a1, .float 0, .float 0, .float 0], [], σ) := by
  refine bGo hA 0 0 (0, .aload_n 1, 1, 1, 0, [1], []) rfl rfl rfl ?_
  refine bGo hA 0 1 (1, .getfield 175, 3, 2, 0, [0, 3, 3, 4, 2, 0], []) rfl rfl rfl ?_
  refine ⟨h_a1, ?_⟩
  refine bGo hA 0 2 (4, .aload_n 1, 1, 3, 0, [1], []) rfl rfl rfl ?_
  refine bGo hA 0 3 (5, .getfield 136, 3, 4, 0, [0, 1, 0, 0, 0, 0], []) rfl rfl rfl ?_
  refine ⟨h_a1, ?_⟩
  refine bEqI (bn_bi σ a1 1) ?_
  refine bGo hA 0 4 (8, .putfield 239, 3, 5, 0, [4, 3, 0, 0, 0, 0], []) rfl rfl rfl ?_
  refine ⟨h.1, ?_⟩
  refine bGo hA 0 5 (11, .iconst (0), 1, 6, 0, [], [(0, 0)]) rfl rfl rfl ?_
  refine bEqI bl_0 ?_
  refine bGo hA 0 6 (12, .istore_n 2, 1, 7, 0, [2], []) rfl rfl rfl ?_
  exact h.2

theorem sq59_7 {lvl : Nat} {C : bCall} {Q : bPost} {A : bPt → Prop} (hC : bMono C) (hA : bClosed lvl bm59 C Q A) {l1 : Nat} {l2 : Int} {v3 : Value} {v4 : Value} {σ : bSt}  (h_l2 : bRg l2)
  (h : (l1 % 256 = 0 ∧ ((l2 < (bi σ l1 1) → (C 5 [.ref l1, .int (bn l2)] σ (bRn (fun r4 s2 => ((r4 = (-1) → (C 4 [.ref l1, .int (bn l2)] s2 (bRn (fun r9 s7 => (C 31 [.ref 3, .int (bn r9)] s7 (bRn (fun r13 s11 => ((256 * (2 * (l1 / 256) + 0) + 4) % 256 = 4 ∧ (C 141 [.ref (256 * (1 * ((256 * (2 * (l1 / 256) + 0) + 4) / 256) + 0) + 22), .int (bn l2), .int (bn r13)] s11 (bRv (fun s15 => (bRg (l2 + 1) ∧ A (7, [.ref 5, .ref l1, .int (bn (l2 + 1)), .int (bn r4), .int (bn r13)], [], s15))))))))))))) ∧ (¬ r4 = (-1) → (C 89 [.ref 6, .int (bn r4)] s2 (bRa (fun r19 s17 => (r19 % 256 = 0 ∧ ((256 * (2 * (r19 / 256) + 0) + 4) % 256 = 4 ∧ ((256 * (2 * (l1 / 256) + 0) + 4) % 256 = 4 ∧ (C 141 [.ref (256 * (1 * ((256 * (2 * (l1 / 256) + 0) + 4) / 256) + 0) + 22), .int (bn l2), .int (bn (bi s17 (256 * (2 * (r19 / 256) + 0) + 4) 8))] s17 (bRv (fun s20 => (bRg (l2 + 1) ∧ A (7, [.ref 5, .ref l1, .int (bn (l2 + 1)), .int (bn r4), .int (bn (bi s17 (256 * (2 * (r19 / 256) + 0) + 4) 8))], [], s20))))))))))))))))) ∧ (¬ l2 < (bi σ l1 1) → ((256 * (2 * (l1 / 256) + 0) + 4) % 256 = 4 ∧ (C 40 [.ref (256 * (2 * (l1 / 256) + 0) + 4), .ref 3, .int (bn (bi σ l1 0))] σ (bRv (fun s22 => Q (.inl none) s22)))))))) : A (7, [.ref 5, .ref l1, .int (bn l2), v3, v4], [], σ) := by
  refine bGo hA 0 7 (13, .iload_n 2, 1, 8, 0, [2], []) rfl rfl rfl ?_
  refine bGo hA 0 8 (14, .aload_n 1, 1, 9, 0, [1], []) rfl rfl rfl ?_
  refine bGo hA 0 9 (15, .getfield 136, 3, 10, 0, [0, 1, 0, 0, 0, 0], []) rfl rfl rfl ?_
  refine ⟨h.1, ?_⟩
  refine bEqI (bn_bi σ l1 1) ?_
  refine bGo hA 0 10 (18, .if_icmp .ge (64), 3, 11, 40, [], []) rfl rfl rfl ?_
  refine bB_lt (x := l2) (y := (bi σ l1 1)) h_l2 (bi_rg _ _ _) (fun c1 => ?_) (fun c1 => ?_)
  · refine bGo hA 0 11 (21, .aload_n 1, 1, 12, 0, [1], []) rfl rfl rfl ?_
    refine bGo hA 0 12 (22, .iload_n 2, 1, 13, 0, [2], []) rfl rfl rfl ?_
    refine bGo hA 0 13 (23, .invokevirtual 139, 3, 14, 0, [0, 0, 5, 1], []) rfl rfl rfl ?_
    refine ⟨h.1, ?_⟩
    refine hC _ _ _ _ _ (bRn_e (fun r4 s2 q5 k3 => ?_)) (h.2.1 c1)
    show A (14, [.ref 5, .ref l1, .int (bn l2), v3, v4], [.int (bn r4)], s2)
    refine bGo hA 0 14 (26, .istore_n 3, 1, 15, 0, [3], []) rfl rfl rfl ?_
    refine bGo hA 0 15 (27, .iload_n 3, 1, 16, 0, [3], []) rfl rfl rfl ?_
    refine bGo hA 1 0 (28, .iconst (-1), 1, 17, 0, [], [(-1, 0)]) rfl rfl rfl ?_
    refine bEqI bl_m1 ?_
    refine bGo hA 1 1 (29, .if_icmp .ne (18), 3, 18, 25, [], []) rfl rfl rfl ?_
    refine bB_eq (x := r4) (y := (-1)) q5 (by decide : bRg (-1)) (fun c6 => ?_) (fun c6 => ?_)
    · refine bGo hA 1 2 (32, .aload_n 0, 1, 19, 0, [0], []) rfl rfl rfl ?_
      refine bGo hA 1 3 (33, .getfield 51, 3, 20, 0, [5, 0, 3, 3, 0, 0], []) rfl rfl rfl ?_
      refine ⟨rfl, ?_⟩
      refine bGo hA 1 4 (36, .aload_n 1, 1, 21, 0, [1], []) rfl rfl rfl ?_
      refine bGo hA 1 5 (37, .iload_n 2, 1, 22, 0, [2], []) rfl rfl rfl ?_
      refine bGo hA 1 6 (38, .invokevirtual 240, 3, 23, 0, [0, 0, 4, 1], []) rfl rfl rfl ?_
      refine ⟨h.1, ?_⟩
      refine hC _ _ _ _ _ (bRn_e (fun r9 s7 q10 k8 => ?_)) (k3.1 c6)
      show A (23, [.ref 5, .ref l1, .int (bn l2), .int (bn r4), v4], [.int (bn r9), .ref 3], s7)
      refine bGo hA 1 7 (41, .invokevirtual 119, 3, 24, 0, [0, 3, 31, 1], []) rfl rfl rfl ?_
      refine ⟨rfl, ?_⟩
      refine hC _ _ _ _ _ (bRn_e (fun r13 s11 q14 k12 => ?_)) k8
      show A (24, [.ref 5, .ref l1, .int (bn l2), .int (bn r4), v4], [.int (bn r13)], s11)
      refine bGo hA 1 8 (44, .goto (17), 3, 25, 31, [], []) rfl rfl rfl ?_
      refine bGo hA 1 15 (61, .istore 4, 2, 32, 0, [4], []) rfl rfl rfl ?_
      refine bGo hA 2 0 (63, .aload_n 1, 1, 33, 0, [1], []) rfl rfl rfl ?_
      refine bGo hA 2 1 (64, .getfield 175, 3, 34, 0, [0, 3, 3, 4, 2, 0], []) rfl rfl rfl ?_
      refine ⟨h.1, ?_⟩
      refine bGo hA 2 2 (67, .getfield 243, 3, 35, 0, [4, 4, 3, 22, 1, 0], []) rfl rfl rfl ?_
      refine ⟨k12.1, ?_⟩
      refine bGo hA 2 3 (70, .iload_n 2, 1, 36, 0, [2], []) rfl rfl rfl ?_
      refine bGo hA 2 4 (71, .iload 4, 2, 37, 0, [4], []) rfl rfl rfl ?_
      refine bGo hA 2 5 (73, .invokestatic 246, 3, 38, 1, [2, 141, 3], []) rfl rfl rfl ?_
      refine hC _ _ _ _ _ (bRv_e (fun s15 k16 => ?_)) k12.2
      show A (38, [.ref 5, .ref l1, .int (bn l2), .int (bn r4), .int (bn r13)], [], s15)
      refine bGo hA 2 6 (76, .iinc 2 (1), 3, 39, 0, [2], [(1, 0)]) rfl rfl rfl ?_
      refine bEqC (fun v => A (39, [.ref 5, .ref l1, .int v, .int (bn r4), .int (bn r13)], [], s15)) ((congrArg (fun w => bn l2 + w) bl_1).trans (bn_add l2 1)) ?_
      refine bGo hA 2 7 (79, .goto (-66), 3, 40, 7, [], []) rfl rfl rfl ?_
      exact k16.2
    · refine bGo hA 1 9 (47, .aload_n 0, 1, 26, 0, [0], []) rfl rfl rfl ?_
      refine bGo hA 1 10 (48, .getfield 55, 3, 27, 0, [5, 1, 3, 6, 0, 0], []) rfl rfl rfl ?_
      refine ⟨rfl, ?_⟩
      refine bGo hA 1 11 (51, .iload_n 3, 1, 28, 0, [3], []) rfl rfl rfl ?_
      refine bGo hA 1 12 (52, .invokevirtual 113, 3, 29, 0, [0, 6, 89, 1], []) rfl rfl rfl ?_
      refine ⟨rfl, ?_⟩
      refine hC _ _ _ _ _ (bRa_e (fun r19 s17 k18 => ?_)) (k3.2 c6)
      show A (29, [.ref 5, .ref l1, .int (bn l2), .int (bn r4), v4], [.ref r19], s17)
      refine bGo hA 1 13 (55, .getfield 175, 3, 30, 0, [0, 3, 3, 4, 2, 0], []) rfl rfl rfl ?_
      refine ⟨k18.1, ?_⟩
      refine bGo hA 1 14 (58, .getfield 212, 3, 31, 0, [4, 8, 0, 0, 0, 0], []) rfl rfl rfl ?_
      refine ⟨k18.2.1, ?_⟩
      refine bEqI (bn_bi s17 (256 * (2 * (r19 / 256) + 0) + 4) 8) ?_
      refine bGo hA 1 15 (61, .istore 4, 2, 32, 0, [4], []) rfl rfl rfl ?_
      refine bGo hA 2 0 (63, .aload_n 1, 1, 33, 0, [1], []) rfl rfl rfl ?_
      refine bGo hA 2 1 (64, .getfield 175, 3, 34, 0, [0, 3, 3, 4, 2, 0], []) rfl rfl rfl ?_
      refine ⟨h.1, ?_⟩
      refine bGo hA 2 2 (67, .getfield 243, 3, 35, 0, [4, 4, 3, 22, 1, 0], []) rfl rfl rfl ?_
      refine ⟨k18.2.2.1, ?_⟩
      refine bGo hA 2 3 (70, .iload_n 2, 1, 36, 0, [2], []) rfl rfl rfl ?_
      refine bGo hA 2 4 (71, .iload 4, 2, 37, 0, [4], []) rfl rfl rfl ?_
      refine bGo hA 2 5 (73, .invokestatic 246, 3, 38, 1, [2, 141, 3], []) rfl rfl rfl ?_
      refine hC _ _ _ _ _ (bRv_e (fun s20 k21 => ?_)) k18.2.2.2
      show A (38, [.ref 5, .ref l1, .int (bn l2), .int (bn r4), .int (bn (bi s17 (256 * (2 * (r19 / 256) + 0) + 4) 8))], [], s20)
      refine bGo hA 2 6 (76, .iinc 2 (1), 3, 39, 0, [2], [(1, 0)]) rfl rfl rfl ?_
      refine bEqC (fun v => A (39, [.ref 5, .ref l1, .int v, .int (bn r4), .int (bn (bi s17 (256 * (2 * (r19 / 256) + 0) + 4) 8))], [], s20)) ((congrArg (fun w => bn l2 + w) bl_1).trans (bn_add l2 1)) ?_
      refine bGo hA 2 7 (79, .goto (-66), 3, 40, 7, [], []) rfl rfl rfl ?_
      exact k21.2
  · refine bGo hA 2 8 (82, .aload_n 1, 1, 41, 0, [1], []) rfl rfl rfl ?_
    refine bGo hA 2 9 (83, .getfield 175, 3, 42, 0, [0, 3, 3, 4, 2, 0], []) rfl rfl rfl ?_
    refine ⟨h.1, ?_⟩
    refine bGo hA 2 10 (86, .aload_n 0, 1, 43, 0, [0], []) rfl rfl rfl ?_
    refine bGo hA 2 11 (87, .getfield 51, 3, 44, 0, [5, 0, 3, 3, 0, 0], []) rfl rfl rfl ?_
    refine ⟨rfl, ?_⟩
    refine bGo hA 2 12 (90, .aload_n 1, 1, 45, 0, [1], []) rfl rfl rfl ?_
    refine bGo hA 2 13 (91, .getfield 250, 3, 46, 0, [0, 0, 0, 0, 0, 0], []) rfl rfl rfl ?_
    refine ⟨h.1, ?_⟩
    refine bEqI (bn_bi σ l1 0) ?_
    refine bGo hA 2 14 (94, .invokevirtual 253, 3, 47, 0, [0, 4, 40, 2], []) rfl rfl rfl ?_
    refine ⟨(h.2.2 c1).1, ?_⟩
    refine hC _ _ _ _ _ (bRv_e (fun s22 k23 => ?_)) (h.2.2 c1).2
    show A (47, [.ref 5, .ref l1, .int (bn l2), v3, v4], [], s22)
    refine bGo hA 2 15 (97, .return_, 1, 0, 0, [0], []) rfl rfl rfl ?_
    exact k23

theorem sq60_0 {lvl : Nat} {C : bCall} {Q : bPost} {A : bPt → Prop} (hC : bMono C) (hA : bClosed lvl bm60 C Q A) {a1 : Nat} {x2 : Int} {σ : bSt} (h_a1 : a1 % 256 = 0) (h_x2 : bRg x2)
  (h : ((256 * (2 * (a1 / 256) + 1) + 4) % 256 = 4 ∧ (C 43 [.ref (256 * (2 * (a1 / 256) + 1) + 4), .ref (256 * (2 * (a1 / 256) + 0) + 4)] σ (bRn (fun r3 s1 => ((r3 = 0 → (C 16 [.ref 1, .ref (256 * (2 * (a1 / 256) + 0) + 4)] s1 (bRn (fun r8 s6 => ((r8 = (-1) → (((bi s6 5 5) = 0 → (C 61 [.ref 5, .ref a1, .int (bn x2)] s6 (bRv (fun s12 => Q (.inl none) s12)))) ∧ (¬ (bi s6 5 5) = 0 → (C 16 [.ref 257, .ref (256 * (2 * (a1 / 256) + 0) + 4)] s6 (bRn (fun r16 s14 => ((r16 = (-1) → (C 61 [.ref 5, .ref a1, .int (bn x2)] s14 (bRv (fun s19 => Q (.inl none) s19)))) ∧ (¬ r16 = (-1) → (bRg ((bi (bw s14 a1 11 (bi s14 5 9)) 5 9) + (bi (bw s14 a1 11 (bi s14 5 9)) 5 6)) ∧ Q (.inl none) (bw (bw s14 a1 11 (bi s14 5 9)) a1 15 ((bi (bw s14 a1 11 (bi s14 5 9)) 5 9) + (bi (bw s14 a1 11 (bi s14 5 9)) 5 6)))))))))))) ∧ (¬ r8 = (-1) → (C 18 [.ref 1, .int (bn r8), .ref (256 * (2 * (a1 / 256) + 0) + 4)] s6 (bRv (fun s21 => (C 13 [.ref a1, .int (bn 1), .int (bn (bi (bw s21 a1 11 (bi s21 5 9)) 5 9))] (bw s21 a1 11 (bi s21 5 9)) (bRv (fun s23 => Q (.inl none) s23)))))))))))) ∧ (¬ r3 = 0 → (C 13 [.ref a1, .int (bn 0), .int (bn (bi (bw s1 a1 11 (bi s1 5 9)) 5 9))] (bw s1 a1 11 (bi s1 5 9)) (bRv (fun s25 => Q (.inl none) s25)))))))))) : A (0, [.ref 5, .ref a1, .int (bn x2), .float 0], [], σ) := by
  refine bGo hA 0 0 (0, .aload_n 1, 1, 1, 0, [1], []) rfl rfl rfl ?_
  refine bGo hA 0 1 (1, .getfield 257, 3, 2, 0, [0, 4, 3, 4, 2, 1], []) rfl rfl rfl ?_
  refine ⟨h_a1, ?_⟩
  refine bGo hA 0 2 (4, .aload_n 1, 1, 3, 0, [1], []) rfl rfl rfl ?_
  refine bGo hA 0 3 (5, .getfield 175, 3, 4, 0, [0, 3, 3, 4, 2, 0], []) rfl rfl rfl ?_
  refine ⟨h_a1, ?_⟩
  refine bGo hA 0 4 (8, .invokevirtual 260, 3, 5, 0, [0, 4, 43, 1], []) rfl rfl rfl ?_
  refine ⟨h.1, ?_⟩
  refine hC _ _ _ _ _ (bRn_e (fun r3 s1 q4 k2 => ?_)) h.2
  show A (5, [.ref 5, .ref a1, .int (bn x2), .float 0], [.int (bn r3)], s1)
  refine bGo hA 0 5 (11, .ifCond .eq (21), 3, 6, 16, [], []) rfl rfl rfl ?_
  refine bB_eq0 (x := r3) q4 (fun c5 => ?_) (fun c5 => ?_)
  · refine bGo hA 1 0 (32, .aload_n 0, 1, 17, 0, [0], []) rfl rfl rfl ?_
    refine bGo hA 1 1 (33, .getfield 14, 3, 18, 0, [5, 2, 3, 1, 0, 0], []) rfl rfl rfl ?_
    refine ⟨rfl, ?_⟩
    refine bGo hA 1 2 (36, .aload_n 1, 1, 19, 0, [1], []) rfl rfl rfl ?_
    refine bGo hA 1 3 (37, .getfield 175, 3, 20, 0, [0, 3, 3, 4, 2, 0], []) rfl rfl rfl ?_
    refine ⟨h_a1, ?_⟩
    refine bGo hA 1 4 (40, .invokevirtual 264, 3, 21, 0, [0, 1, 16, 1], []) rfl rfl rfl ?_
    refine ⟨rfl, ?_⟩
    refine hC _ _ _ _ _ (bRn_e (fun r8 s6 q9 k7 => ?_)) (k2.1 c5)
    show A (21, [.ref 5, .ref a1, .int (bn x2), .float 0], [.int (bn r8)], s6)
    refine bGo hA 1 5 (43, .istore_n 3, 1, 22, 0, [3], []) rfl rfl rfl ?_
    refine bGo hA 1 6 (44, .iload_n 3, 1, 23, 0, [3], []) rfl rfl rfl ?_
    refine bGo hA 1 7 (45, .iconst (-1), 1, 24, 0, [], [(-1, 0)]) rfl rfl rfl ?_
    refine bEqI bl_m1 ?_
    refine bGo hA 1 8 (46, .if_icmp .eq (35), 3, 25, 41, [], []) rfl rfl rfl ?_
    refine bB_eq (x := r8) (y := (-1)) q9 (by decide : bRg (-1)) (fun c10 => ?_) (fun c10 => ?_)
    · refine bGo hA 2 9 (81, .aload_n 0, 1, 42, 0, [0], []) rfl rfl rfl ?_
      refine bGo hA 2 10 (82, .getfield 30, 3, 43, 0, [5, 5, 1, 0, 0, 0], []) rfl rfl rfl ?_
      refine ⟨rfl, ?_⟩
      refine bEqI (bn_bi s6 5 5) ?_
      refine bGo hA 2 11 (85, .ifCond .eq (42), 3, 44, 63, [], []) rfl rfl rfl ?_
      refine bB_eq0 (x := (bi s6 5 5)) (bi_rg _ _ _) (fun c11 => ?_) (fun c11 => ?_)
      · refine bGo hA 3 15 (127, .aload_n 0, 1, 64, 0, [0], []) rfl rfl rfl ?_
        refine bGo hA 4 0 (128, .aload_n 1, 1, 65, 0, [1], []) rfl rfl rfl ?_
        refine bGo hA 4 1 (129, .iload_n 2, 1, 66, 0, [2], []) rfl rfl rfl ?_
        refine bGo hA 4 2 (130, .invokevirtual 272, 3, 67, 0, [0, 5, 61, 2], []) rfl rfl rfl ?_
        refine ⟨rfl, ?_⟩
        refine hC _ _ _ _ _ (bRv_e (fun s12 k13 => ?_)) ((k7.1 c10).1 c11)
        show A (67, [.ref 5, .ref a1, .int (bn x2), .int (bn r8)], [], s12)
        refine bGo hA 4 3 (133, .return_, 1, 0, 0, [0], []) rfl rfl rfl ?_
        exact k13
      · refine bGo hA 2 12 (88, .aload_n 0, 1, 45, 0, [0], []) rfl rfl rfl ?_
        refine bGo hA 2 13 (89, .getfield 20, 3, 46, 0, [5, 3, 3, 1, 0, 1], []) rfl rfl rfl ?_
        refine ⟨rfl, ?_⟩
        refine bGo hA 2 14 (92, .aload_n 1, 1, 47, 0, [1], []) rfl rfl rfl ?_
        refine bGo hA 2 15 (93, .getfield 175, 3, 48, 0, [0, 3, 3, 4, 2, 0], []) rfl rfl rfl ?_
        refine ⟨h_a1, ?_⟩
        refine bGo hA 3 0 (96, .invokevirtual 264, 3, 49, 0, [0, 1, 16, 1], []) rfl rfl rfl ?_
        refine ⟨rfl, ?_⟩
        refine hC _ _ _ _ _ (bRn_e (fun r16 s14 q17 k15 => ?_)) ((k7.1 c10).2 c11)
        show A (49, [.ref 5, .ref a1, .int (bn x2), .int (bn r8)], [.int (bn r16)], s14)
        refine bGo hA 3 1 (99, .iconst (-1), 1, 50, 0, [], [(-1, 0)]) rfl rfl rfl ?_
        refine bEqI bl_m1 ?_
        refine bGo hA 3 2 (100, .if_icmp .eq (27), 3, 51, 63, [], []) rfl rfl rfl ?_
        refine bB_eq (x := r16) (y := (-1)) q17 (by decide : bRg (-1)) (fun c18 => ?_) (fun c18 => ?_)
        · refine bGo hA 3 15 (127, .aload_n 0, 1, 64, 0, [0], []) rfl rfl rfl ?_
          refine bGo hA 4 0 (128, .aload_n 1, 1, 65, 0, [1], []) rfl rfl rfl ?_
          refine bGo hA 4 1 (129, .iload_n 2, 1, 66, 0, [2], []) rfl rfl rfl ?_
          refine bGo hA 4 2 (130, .invokevirtual 272, 3, 67, 0, [0, 5, 61, 2], []) rfl rfl rfl ?_
          refine ⟨rfl, ?_⟩
          refine hC _ _ _ _ _ (bRv_e (fun s19 k20 => ?_)) (k15.1 c18)
          show A (67, [.ref 5, .ref a1, .int (bn x2), .int (bn r8)], [], s19)
          refine bGo hA 4 3 (133, .return_, 1, 0, 0, [0], []) rfl rfl rfl ?_
          exact k20
        · refine bGo hA 3 3 (103, .aload_n 1, 1, 52, 0, [1], []) rfl rfl rfl ?_
          refine bGo hA 3 4 (104, .aload_n 0, 1, 53, 0, [0], []) rfl rfl rfl ?_
          refine bGo hA 3 5 (105, .getfield 104, 3, 54, 0, [5, 9, 0, 0, 0, 0], []) rfl rfl rfl ?_
          refine ⟨rfl, ?_⟩
          refine bEqI (bn_bi s14 5 9) ?_
          refine bGo hA 3 6 (108, .putfield 232, 3, 55, 0, [0, 11, 0, 0, 0, 0], []) rfl rfl rfl ?_
          refine ⟨h_a1, ?_⟩
          refine bGo hA 3 7 (111, .aload_n 1, 1, 56, 0, [1], []) rfl rfl rfl ?_
          refine bGo hA 3 8 (112, .aload_n 0, 1, 57, 0, [0], []) rfl rfl rfl ?_
          refine bGo hA 3 9 (113, .getfield 104, 3, 58, 0, [5, 9, 0, 0, 0, 0], []) rfl rfl rfl ?_
          refine ⟨rfl, ?_⟩
          refine bEqI (bn_bi (bw s14 a1 11 (bi s14 5 9)) 5 9) ?_
          refine bGo hA 3 10 (116, .aload_n 0, 1, 59, 0, [0], []) rfl rfl rfl ?_
          refine bGo hA 3 11 (117, .getfield 34, 3, 60, 0, [5, 6, 0, 0, 0, 0], []) rfl rfl rfl ?_
          refine ⟨rfl, ?_⟩
          refine bEqI (bn_bi (bw s14 a1 11 (bi s14 5 9)) 5 6) ?_
          refine bGo hA 3 12 (120, .iadd, 1, 61, 0, [], []) rfl rfl rfl ?_
          refine bEqI (bn_add (bi (bw s14 a1 11 (bi s14 5 9)) 5 9) (bi (bw s14 a1 11 (bi s14 5 9)) 5 6)) ?_
          refine bGo hA 3 13 (121, .putfield 168, 3, 62, 0, [0, 15, 0, 0, 0, 0], []) rfl rfl rfl ?_
          refine ⟨h_a1, ?_⟩
          refine bGo hA 3 14 (124, .goto (9), 3, 63, 67, [], []) rfl rfl rfl ?_
          refine bGo hA 4 3 (133, .return_, 1, 0, 0, [0], []) rfl rfl rfl ?_
          exact (k15.2 c18).2
    · refine bGo hA 1 9 (49, .aload_n 0, 1, 26, 0, [0], []) rfl rfl rfl ?_
      refine bGo hA 1 10 (50, .getfield 14, 3, 27, 0, [5, 2, 3, 1, 0, 0], []) rfl rfl rfl ?_
      refine ⟨rfl, ?_⟩
      refine bGo hA 1 11 (53, .iload_n 3, 1, 28, 0, [3], []) rfl rfl rfl ?_
      refine bGo hA 1 12 (54, .aload_n 1, 1, 29, 0, [1], []) rfl rfl rfl ?_
      refine bGo hA 1 13 (55, .getfield 175, 3, 30, 0, [0, 3, 3, 4, 2, 0], []) rfl rfl rfl ?_
      refine ⟨h_a1, ?_⟩
      refine bGo hA 1 14 (58, .invokevirtual 268, 3, 31, 0, [0, 1, 18, 2], []) rfl rfl rfl ?_
      refine ⟨rfl, ?_⟩
      refine hC _ _ _ _ _ (bRv_e (fun s21 k22 => ?_)) (k7.2 c10)
      show A (31, [.ref 5, .ref a1, .int (bn x2), .int (bn r8)], [], s21)
      refine bGo hA 1 15 (61, .aload_n 1, 1, 32, 0, [1], []) rfl rfl rfl ?_
      refine bGo hA 2 0 (62, .aload_n 0, 1, 33, 0, [0], []) rfl rfl rfl ?_
      refine bGo hA 2 1 (63, .getfield 104, 3, 34, 0, [5, 9, 0, 0, 0, 0], []) rfl rfl rfl ?_
      refine ⟨rfl, ?_⟩
      refine bEqI (bn_bi s21 5 9) ?_
      refine bGo hA 2 2 (66, .putfield 232, 3, 35, 0, [0, 11, 0, 0, 0, 0], []) rfl rfl rfl ?_
      refine ⟨h_a1, ?_⟩
      refine bGo hA 2 3 (69, .aload_n 1, 1, 36, 0, [1], []) rfl rfl rfl ?_
      refine bGo hA 2 4 (70, .iconst (1), 1, 37, 0, [], [(1, 0)]) rfl rfl rfl ?_
      refine bEqI bl_1 ?_
      refine bGo hA 2 5 (71, .aload_n 0, 1, 38, 0, [0], []) rfl rfl rfl ?_
      refine bGo hA 2 6 (72, .getfield 104, 3, 39, 0, [5, 9, 0, 0, 0, 0], []) rfl rfl rfl ?_
      refine ⟨rfl, ?_⟩
      refine bEqI (bn_bi (bw s21 a1 11 (bi s21 5 9)) 5 9) ?_
      refine bGo hA 2 7 (75, .invokevirtual 171, 3, 40, 0, [0, 0, 13, 2], []) rfl rfl rfl ?_
      refine ⟨h_a1, ?_⟩
      refine hC _ _ _ _ _ (bRv_e (fun s23 k24 => ?_)) k22
      show A (40, [.ref 5, .ref a1, .int (bn x2), .int (bn r8)], [], s23)
      refine bGo hA 2 8 (78, .goto (55), 3, 41, 67, [], []) rfl rfl rfl ?_
      refine bGo hA 4 3 (133, .return_, 1, 0, 0, [0], []) rfl rfl rfl ?_
      exact k24
  · refine bGo hA 0 6 (14, .aload_n 1, 1, 7, 0, [1], []) rfl rfl rfl ?_
    refine bGo hA 0 7 (15, .aload_n 0, 1, 8, 0, [0], []) rfl rfl rfl ?_
    refine bGo hA 0 8 (16, .getfield 104, 3, 9, 0, [5, 9, 0, 0, 0, 0], []) rfl rfl rfl ?_
    refine ⟨rfl, ?_⟩
    refine bEqI (bn_bi s1 5 9) ?_
    refine bGo hA 0 9 (19, .putfield 232, 3, 10, 0, [0, 11, 0, 0, 0, 0], []) rfl rfl rfl ?_
    refine ⟨h_a1, ?_⟩
    refine bGo hA 0 10 (22, .aload_n 1, 1, 11, 0, [1], []) rfl rfl rfl ?_
    refine bGo hA 0 11 (23, .iconst (0), 1, 12, 0, [], [(0, 0)]) rfl rfl rfl ?_
    refine bEqI bl_0 ?_
    refine bGo hA 0 12 (24, .aload_n 0, 1, 13, 0, [0], []) rfl rfl rfl ?_
    refine bGo hA 0 13 (25, .getfield 104, 3, 14, 0, [5, 9, 0, 0, 0, 0], []) rfl rfl rfl ?_
    refine ⟨rfl, ?_⟩
    refine bEqI (bn_bi (bw s1 a1 11 (bi s1 5 9)) 5 9) ?_
    refine bGo hA 0 14 (28, .invokevirtual 171, 3, 15, 0, [0, 0, 13, 2], []) rfl rfl rfl ?_
    refine ⟨h_a1, ?_⟩
    refine hC _ _ _ _ _ (bRv_e (fun s25 k26 => ?_)) (k2.2 c5)
    show A (15, [.ref 5, .ref a1, .int (bn x2), .float 0], [], s25)
    refine bGo hA 0 15 (31, .return_, 1, 16, 0, [0], []) rfl rfl rfl ?_
    exact k26

theorem sq61_0 {lvl : Nat} {C : bCall} {Q : bPost} {A : bPt → Prop} (hC : bMono C) (hA : bClosed lvl bm61 C Q A) {a1 : Nat} {x2 : Int} {σ : bSt} (h_a1 : a1 % 256 = 0) (h_x2 : bRg x2)
  (h : (((bi σ a1 8) = 0 → ((256 * (2 * (a1 / 256) + 0) + 4) % 256 = 4 ∧ (C 25 [.ref 2, .int (bn (bi σ a1 6)), .int (bn (bi σ (256 * (2 * (a1 / 256) + 0) + 4) 2))] σ (bRn (fun r4 s2 => ((r4 = (-1) → Q (.inl none) s2) ∧ (¬ r4 = (-1) → A (25, [.ref 5, .ref a1, .int (bn x2), .int (bn 0), .int (bn r4), .float 0], [], s2)))))))) ∧ (¬ (bi σ a1 8) = 0 → (((bi σ 5 5) = 0 → ((256 * (2 * (a1 / 256) + 0) + 4) % 256 = 4 ∧ (C 25 [.ref 2, .int (bn (bi σ a1 6)), .int (bn (bi σ (256 * (2 * (a1 / 256) + 0) + 4) 2))] σ (bRn (fun r11 s9 => ((r11 = (-1) → Q (.inl none) s9) ∧ (¬ r11 = (-1) → A (25, [.ref 5, .ref a1, .int (bn x2), .int (bn 0), .int (bn r11), .float 0], [], s9)))))))) ∧ (¬ (bi σ 5 5) = 0 → ((256 * (2 * (a1 / 256) + 0) + 4) % 256 = 4 ∧ (C 25 [.ref 2, .int (bn (bi σ a1 6)), .int (bn (bi σ (256 * (2 * (a1 / 256) + 0) + 4) 2))] σ (bRn (fun r17 s15 => ((r17 = (-1) → A (25, [.ref 5, .ref a1, .int (bn x2), .int (bn 1), .int (bn r17), .float 0], [], s15)) ∧ (¬ r17 = (-1) → A (25, [.ref 5, .ref a1, .int (bn x2), .int (bn 1), .int (bn r17), .float 0], [], s15)))))))))))) : A (0, [.ref 5, .ref a1, .int (bn x2), .float 0, .float 0, .float 0], [], σ) := by
  refine bGo hA 0 0 (0, .aload_n 1, 1, 1, 0, [1], []) rfl rfl rfl ?_
  refine bGo hA 0 1 (1, .getfield 275, 3, 2, 0, [0, 8, 1, 0, 0, 0], []) rfl rfl rfl ?_
  refine ⟨h_a1, ?_⟩
  refine bEqI (bn_bi σ a1 8) ?_
  refine bGo hA 0 2 (4, .ifCond .eq (14), 3, 3, 8, [], []) rfl rfl rfl ?_
  refine bB_eq0 (x := (bi σ a1 8)) (bi_rg _ _ _) (fun c1 => ?_) (fun c1 => ?_)
  · refine bGo hA 0 8 (18, .iconst (0), 1, 9, 0, [], [(0, 0)]) rfl rfl rfl ?_
    refine bEqI bl_0 ?_
    refine bGo hA 0 9 (19, .istore_n 3, 1, 10, 0, [3], []) rfl rfl rfl ?_
    refine bGo hA 0 10 (20, .aload_n 0, 1, 11, 0, [0], []) rfl rfl rfl ?_
    refine bGo hA 0 11 (21, .getfield 26, 3, 12, 0, [5, 4, 3, 2, 0, 0], []) rfl rfl rfl ?_
    refine ⟨rfl, ?_⟩
    refine bGo hA 0 12 (24, .aload_n 1, 1, 13, 0, [1], []) rfl rfl rfl ?_
    refine bGo hA 0 13 (25, .getfield 278, 3, 14, 0, [0, 6, 0, 0, 0, 0], []) rfl rfl rfl ?_
    refine ⟨h_a1, ?_⟩
    refine bEqI (bn_bi σ a1 6) ?_
    refine bGo hA 0 14 (28, .aload_n 1, 1, 15, 0, [1], []) rfl rfl rfl ?_
    refine bGo hA 0 15 (29, .getfield 175, 3, 16, 0, [0, 3, 3, 4, 2, 0], []) rfl rfl rfl ?_
    refine ⟨h_a1, ?_⟩
    refine bGo hA 1 0 (32, .getfield 199, 3, 17, 0, [4, 2, 0, 0, 0, 0], []) rfl rfl rfl ?_
    refine ⟨(h.1 c1).1, ?_⟩
    refine bEqI (bn_bi σ (256 * (2 * (a1 / 256) + 0) + 4) 2) ?_
    refine bGo hA 1 1 (35, .invokevirtual 281, 3, 18, 0, [0, 2, 25, 2], []) rfl rfl rfl ?_
    refine ⟨rfl, ?_⟩
    refine hC _ _ _ _ _ (bRn_e (fun r4 s2 q5 k3 => ?_)) (h.1 c1).2
    show A (18, [.ref 5, .ref a1, .int (bn x2), .int (bn 0), .float 0, .float 0], [.int (bn r4)], s2)
    refine bGo hA 1 2 (38, .istore 4, 2, 19, 0, [4], []) rfl rfl rfl ?_
    refine bGo hA 1 3 (40, .iload 4, 2, 20, 0, [4], []) rfl rfl rfl ?_
    refine bGo hA 1 4 (42, .iconst (-1), 1, 21, 0, [], [(-1, 0)]) rfl rfl rfl ?_
    refine bEqI bl_m1 ?_
    refine bGo hA 1 5 (43, .if_icmp .ne (8), 3, 22, 25, [], []) rfl rfl rfl ?_
    refine bB_eq (x := r4) (y := (-1)) q5 (by decide : bRg (-1)) (fun c6 => ?_) (fun c6 => ?_)
    · refine bGo hA 1 6 (46, .iload_n 3, 1, 23, 0, [3], []) rfl rfl rfl ?_
      refine bGo hA 1 7 (47, .ifCond .ne (4), 3, 24, 25, [], []) rfl rfl rfl ?_
      refine ⟨fun _ => ?_, fun c => absurd (by decide) c⟩
      refine bGo hA 1 8 (50, .return_, 1, 25, 0, [0], []) rfl rfl rfl ?_
      exact (k3.1 c6)
    · exact (k3.2 c6)
  · refine bGo hA 0 3 (7, .aload_n 0, 1, 4, 0, [0], []) rfl rfl rfl ?_
    refine bGo hA 0 4 (8, .getfield 30, 3, 5, 0, [5, 5, 1, 0, 0, 0], []) rfl rfl rfl ?_
    refine ⟨rfl, ?_⟩
    refine bEqI (bn_bi σ 5 5) ?_
    refine bGo hA 0 5 (11, .ifCond .eq (7), 3, 6, 8, [], []) rfl rfl rfl ?_
    refine bB_eq0 (x := (bi σ 5 5)) (bi_rg _ _ _) (fun c8 => ?_) (fun c8 => ?_)
    · refine bGo hA 0 8 (18, .iconst (0), 1, 9, 0, [], [(0, 0)]) rfl rfl rfl ?_
      refine bEqI bl_0 ?_
      refine bGo hA 0 9 (19, .istore_n 3, 1, 10, 0, [3], []) rfl rfl rfl ?_
      refine bGo hA 0 10 (20, .aload_n 0, 1, 11, 0, [0], []) rfl rfl rfl ?_
      refine bGo hA 0 11 (21, .getfield 26, 3, 12, 0, [5, 4, 3, 2, 0, 0], []) rfl rfl rfl ?_
      refine ⟨rfl, ?_⟩
      refine bGo hA 0 12 (24, .aload_n 1, 1, 13, 0, [1], []) rfl rfl rfl ?_
      refine bGo hA 0 13 (25, .getfield 278, 3, 14, 0, [0, 6, 0, 0, 0, 0], []) rfl rfl rfl ?_
      refine ⟨h_a1, ?_⟩
      refine bEqI (bn_bi σ a1 6) ?_
      refine bGo hA 0 14 (28, .aload_n 1, 1, 15, 0, [1], []) rfl rfl rfl ?_
      refine bGo hA 0 15 (29, .getfield 175, 3, 16, 0, [0, 3, 3, 4, 2, 0], []) rfl rfl rfl ?_
      refine ⟨h_a1, ?_⟩
      refine bGo hA 1 0 (32, .getfield 199, 3, 17, 0, [4, 2, 0, 0, 0, 0], []) rfl rfl rfl ?_
      refine ⟨((h.2 c1).1 c8).1, ?_⟩
      refine bEqI (bn_bi σ (256 * (2 * (a1 / 256) + 0) + 4) 2) ?_
      refine bGo hA 1 1 (35, .invokevirtual 281, 3, 18, 0, [0, 2, 25, 2], []) rfl rfl rfl ?_
      refine ⟨rfl, ?_⟩
      refine hC _ _ _ _ _ (bRn_e (fun r11 s9 q12 k10 => ?_)) ((h.2 c1).1 c8).2
      show A (18, [.ref 5, .ref a1, .int (bn x2), .int (bn 0), .float 0, .float 0], [.int (bn r11)], s9)
      refine bGo hA 1 2 (38, .istore 4, 2, 19, 0, [4], []) rfl rfl rfl ?_
      refine bGo hA 1 3 (40, .iload 4, 2, 20, 0, [4], []) rfl rfl rfl ?_
      refine bGo hA 1 4 (42, .iconst (-1), 1, 21, 0, [], [(-1, 0)]) rfl rfl rfl ?_
      refine bEqI bl_m1 ?_
      refine bGo hA 1 5 (43, .if_icmp .ne (8), 3, 22, 25, [], []) rfl rfl rfl ?_
      refine bB_eq (x := r11) (y := (-1)) q12 (by decide : bRg (-1)) (fun c13 => ?_) (fun c13 => ?_)
      · refine bGo hA 1 6 (46, .iload_n 3, 1, 23, 0, [3], []) rfl rfl rfl ?_
        refine bGo hA 1 7 (47, .ifCond .ne (4), 3, 24, 25, [], []) rfl rfl rfl ?_
        refine ⟨fun _ => ?_, fun c => absurd (by decide) c⟩
        refine bGo hA 1 8 (50, .return_, 1, 25, 0, [0], []) rfl rfl rfl ?_
        exact (k10.1 c13)
      · exact (k10.2 c13)
    · refine bGo hA 0 6 (14, .iconst (1), 1, 7, 0, [], [(1, 0)]) rfl rfl rfl ?_
      refine bEqI bl_1 ?_
      refine bGo hA 0 7 (15, .goto (4), 3, 8, 9, [], []) rfl rfl rfl ?_
      refine bGo hA 0 9 (19, .istore_n 3, 1, 10, 0, [3], []) rfl rfl rfl ?_
      refine bGo hA 0 10 (20, .aload_n 0, 1, 11, 0, [0], []) rfl rfl rfl ?_
      refine bGo hA 0 11 (21, .getfield 26, 3, 12, 0, [5, 4, 3, 2, 0, 0], []) rfl rfl rfl ?_
      refine ⟨rfl, ?_⟩
      refine bGo hA 0 12 (24, .aload_n 1, 1, 13, 0, [1], []) rfl rfl rfl ?_
      refine bGo hA 0 13 (25, .getfield 278, 3, 14, 0, [0, 6, 0, 0, 0, 0], []) rfl rfl rfl ?_
      refine ⟨h_a1, ?_⟩
      refine bEqI (bn_bi σ a1 6) ?_
      refine bGo hA 0 14 (28, .aload_n 1, 1, 15, 0, [1], []) rfl rfl rfl ?_
      refine bGo hA 0 15 (29, .getfield 175, 3, 16, 0, [0, 3, 3, 4, 2, 0], []) rfl rfl rfl ?_
      refine ⟨h_a1, ?_⟩
      refine bGo hA 1 0 (32, .getfield 199, 3, 17, 0, [4, 2, 0, 0, 0, 0], []) rfl rfl rfl ?_
      refine ⟨((h.2 c1).2 c8).1, ?_⟩
      refine bEqI (bn_bi σ (256 * (2 * (a1 / 256) + 0) + 4) 2) ?_
      refine bGo hA 1 1 (35, .invokevirtual 281, 3, 18, 0, [0, 2, 25, 2], []) rfl rfl rfl ?_
      refine ⟨rfl, ?_⟩
      refine hC _ _ _ _ _ (bRn_e (fun r17 s15 q18 k16 => ?_)) ((h.2 c1).2 c8).2
      show A (18, [.ref 5, .ref a1, .int (bn x2), .int (bn 1), .float 0, .float 0], [.int (bn r17)], s15)
      refine bGo hA 1 2 (38, .istore 4, 2, 19, 0, [4], []) rfl rfl rfl ?_
      refine bGo hA 1 3 (40, .iload 4, 2, 20, 0, [4], []) rfl rfl rfl ?_
      refine bGo hA 1 4 (42, .iconst (-1), 1, 21, 0, [], [(-1, 0)]) rfl rfl rfl ?_
      refine bEqI bl_m1 ?_
      refine bGo hA 1 5 (43, .if_icmp .ne (8), 3, 22, 25, [], []) rfl rfl rfl ?_
      refine bB_eq (x := r17) (y := (-1)) q18 (by decide : bRg (-1)) (fun c19 => ?_) (fun c19 => ?_)
      · refine bGo hA 1 6 (46, .iload_n 3, 1, 23, 0, [3], []) rfl rfl rfl ?_
        refine bGo hA 1 7 (47, .ifCond .ne (4), 3, 24, 25, [], []) rfl rfl rfl ?_
        refine ⟨fun c => absurd c (by decide), fun _ => ?_⟩
        exact (k16.1 c19)
      · exact (k16.2 c19)

theorem sq61_25 {lvl : Nat} {C : bCall} {Q : bPost} {A : bPt → Prop} (hC : bMono C) (hA : bClosed lvl bm61 C Q A) {l1 : Nat} {l2 : Int} {l3 : Int} {l4 : Int} {v5 : Value} {σ : bSt}  (h_l2 : bRg l2) (h_l3 : bRg l3) (h_l4 : bRg l4)
  (h : (l1 % 256 = 0 ∧ ((l4 = (-1) → ((l3 = 0 → Q (.inl none) (bw σ l1 11 (bi σ 5 9))) ∧ (¬ l3 = 0 → (bRg ((bi (bw σ l1 11 (bi σ 5 9)) 5 9) + (bi (bw σ l1 11 (bi σ 5 9)) l1 7)) ∧ (bRg (((bi (bw σ l1 11 (bi σ 5 9)) 5 9) + (bi (bw σ l1 11 (bi σ 5 9)) l1 7)) + (bi (bw σ l1 11 (bi σ 5 9)) 5 6)) ∧ Q (.inl none) (bw (bw σ l1 11 (bi σ 5 9)) l1 17 (((bi (bw σ l1 11 (bi σ 5 9)) 5 9) + (bi (bw σ l1 11 (bi σ 5 9)) l1 7)) + (bi (bw σ l1 11 (bi σ 5 9)) 5 6)))))))) ∧ (¬ l4 = (-1) → ((256 * (2 * (l1 / 256) + 0) + 4) % 256 = 4 ∧ (C 26 [.ref 2, .int (bn l4), .int (bn (bi (bw σ l1 11 (bi σ 5 9)) (256 * (2 * (l1 / 256) + 0) + 4) 2))] (bw σ l1 11 (bi σ 5 9)) (bRn (fun r5 s3 => ((r5 = 0 → (bRg ((bi s3 5 9) + (bi s3 l1 7)) ∧ (C 62 [.ref 5, .int (bn l2)] s3 (bRn (fun r10 s8 => (bRg (((bi s3 5 9) + (bi s3 l1 7)) + r10) ∧ (C 28 [.ref 2, .int (bn l4)] (bw (bw s8 l1 16 (((bi s3 5 9) + (bi s3 l1 7)) + r10)) l1 14 l4) (bRv (fun s12 => ((l3 = 0 → Q (.inl none) s12) ∧ (¬ l3 = 0 → (bRg ((bi s12 5 9) + (bi s12 l1 7)) ∧ (bRg (((bi s12 5 9) + (bi s12 l1 7)) + (bi s12 5 6)) ∧ Q (.inl none) (bw s12 l1 17 (((bi s12 5 9) + (bi s12 l1 7)) + (bi s12 5 6)))))))))))))))) ∧ (¬ r5 = 0 → (bRg ((bi s3 l1 7) + 1) ∧ (0 ≤ ((bi s3 l1 7) + 1) ∧ (bRg ((bi s3 5 9) + (((bi s3 l1 7) + 1) / 2)) ∧ (C 62 [.ref 5, .int (bn l2)] s3 (bRn (fun r17 s15 => (bRg (((bi s3 5 9) + (((bi s3 l1 7) + 1) / 2)) + r17) ∧ (C 28 [.ref 2, .int (bn l4)] (bw (bw s15 l1 16 (((bi s3 5 9) + (((bi s3 l1 7) + 1) / 2)) + r17)) l1 14 l4) (bRv (fun s19 => ((l3 = 0 → Q (.inl none) s19) ∧ (¬ l3 = 0 → (bRg ((bi s19 5 9) + (bi s19 l1 7)) ∧ (bRg (((bi s19 5 9) + (bi s19 l1 7)) + (bi s19 5 6)) ∧ Q (.inl none) (bw s19 l1 17 (((bi s19 5 9) + (bi s19 l1 7)) + (bi s19 5 6))))))))))))))))))))))))))) : A (25, [.ref 5, .ref l1, .int (bn l2), .int (bn l3), .int (bn l4), v5], [], σ) := by
  refine bGo hA 1 9 (51, .aload_n 1, 1, 26, 0, [1], []) rfl rfl rfl ?_
  refine bGo hA 1 10 (52, .aload_n 0, 1, 27, 0, [0], []) rfl rfl rfl ?_
  refine bGo hA 1 11 (53, .getfield 104, 3, 28, 0, [5, 9, 0, 0, 0, 0], []) rfl rfl rfl ?_
  refine ⟨rfl, ?_⟩
  refine bEqI (bn_bi σ 5 9) ?_
  refine bGo hA 1 12 (56, .putfield 232, 3, 29, 0, [0, 11, 0, 0, 0, 0], []) rfl rfl rfl ?_
  refine ⟨h.1, ?_⟩
  refine bGo hA 1 13 (59, .iload 4, 2, 30, 0, [4], []) rfl rfl rfl ?_
  refine bGo hA 1 14 (61, .iconst (-1), 1, 31, 0, [], [(-1, 0)]) rfl rfl rfl ?_
  refine bEqI bl_m1 ?_
  refine bGo hA 1 15 (62, .if_icmp .eq (71), 3, 32, 67, [], []) rfl rfl rfl ?_
  refine bB_eq (x := l4) (y := (-1)) h_l4 (by decide : bRg (-1)) (fun c1 => ?_) (fun c1 => ?_)
  · refine bGo hA 4 3 (133, .iload_n 3, 1, 68, 0, [3], []) rfl rfl rfl ?_
    refine bGo hA 4 4 (134, .ifCond .eq (21), 3, 69, 79, [], []) rfl rfl rfl ?_
    refine bB_eq0 (x := l3) h_l3 (fun c2 => ?_) (fun c2 => ?_)
    · refine bGo hA 4 15 (155, .return_, 1, 0, 0, [0], []) rfl rfl rfl ?_
      exact ((h.2.1 c1).1 c2)
    · refine bGo hA 4 5 (137, .aload_n 1, 1, 70, 0, [1], []) rfl rfl rfl ?_
      refine bGo hA 4 6 (138, .aload_n 0, 1, 71, 0, [0], []) rfl rfl rfl ?_
      refine bGo hA 4 7 (139, .getfield 104, 3, 72, 0, [5, 9, 0, 0, 0, 0], []) rfl rfl rfl ?_
      refine ⟨rfl, ?_⟩
      refine bEqI (bn_bi (bw σ l1 11 (bi σ 5 9)) 5 9) ?_
      refine bGo hA 4 8 (142, .aload_n 1, 1, 73, 0, [1], []) rfl rfl rfl ?_
      refine bGo hA 4 9 (143, .getfield 130, 3, 74, 0, [0, 7, 0, 0, 0, 0], []) rfl rfl rfl ?_
      refine ⟨h.1, ?_⟩
      refine bEqI (bn_bi (bw σ l1 11 (bi σ 5 9)) l1 7) ?_
      refine bGo hA 4 10 (146, .iadd, 1, 75, 0, [], []) rfl rfl rfl ?_
      refine bEqI (bn_add (bi (bw σ l1 11 (bi σ 5 9)) 5 9) (bi (bw σ l1 11 (bi σ 5 9)) l1 7)) ?_
      refine bGo hA 4 11 (147, .aload_n 0, 1, 76, 0, [0], []) rfl rfl rfl ?_
      refine bGo hA 4 12 (148, .getfield 34, 3, 77, 0, [5, 6, 0, 0, 0, 0], []) rfl rfl rfl ?_
      refine ⟨rfl, ?_⟩
      refine bEqI (bn_bi (bw σ l1 11 (bi σ 5 9)) 5 6) ?_
      refine bGo hA 4 13 (151, .iadd, 1, 78, 0, [], []) rfl rfl rfl ?_
      refine bEqI (bn_add ((bi (bw σ l1 11 (bi σ 5 9)) 5 9) + (bi (bw σ l1 11 (bi σ 5 9)) l1 7)) (bi (bw σ l1 11 (bi σ 5 9)) 5 6)) ?_
      refine bGo hA 4 14 (152, .putfield 186, 3, 79, 0, [0, 17, 0, 0, 0, 0], []) rfl rfl rfl ?_
      refine ⟨h.1, ?_⟩
      refine bGo hA 4 15 (155, .return_, 1, 0, 0, [0], []) rfl rfl rfl ?_
      exact ((h.2.1 c1).2 c2).2.2
  · refine bGo hA 2 0 (65, .aload_n 0, 1, 33, 0, [0], []) rfl rfl rfl ?_
    refine bGo hA 2 1 (66, .getfield 26, 3, 34, 0, [5, 4, 3, 2, 0, 0], []) rfl rfl rfl ?_
    refine ⟨rfl, ?_⟩
    refine bGo hA 2 2 (69, .iload 4, 2, 35, 0, [4], []) rfl rfl rfl ?_
    refine bGo hA 2 3 (71, .aload_n 1, 1, 36, 0, [1], []) rfl rfl rfl ?_
    refine bGo hA 2 4 (72, .getfield 175, 3, 37, 0, [0, 3, 3, 4, 2, 0], []) rfl rfl rfl ?_
    refine ⟨h.1, ?_⟩
    refine bGo hA 2 5 (75, .getfield 199, 3, 38, 0, [4, 2, 0, 0, 0, 0], []) rfl rfl rfl ?_
    refine ⟨(h.2.2 c1).1, ?_⟩
    refine bEqI (bn_bi (bw σ l1 11 (bi σ 5 9)) (256 * (2 * (l1 / 256) + 0) + 4) 2) ?_
    refine bGo hA 2 6 (78, .invokevirtual 284, 3, 39, 0, [0, 2, 26, 2], []) rfl rfl rfl ?_
    refine ⟨rfl, ?_⟩
    refine hC _ _ _ _ _ (bRn_e (fun r5 s3 q6 k4 => ?_)) (h.2.2 c1).2
    show A (39, [.ref 5, .ref l1, .int (bn l2), .int (bn l3), .int (bn l4), v5], [.int (bn r5)], s3)
    refine bGo hA 2 7 (81, .istore 5, 2, 40, 0, [5], []) rfl rfl rfl ?_
    refine bGo hA 2 8 (83, .aload_n 1, 1, 41, 0, [1], []) rfl rfl rfl ?_
    refine bGo hA 2 9 (84, .aload_n 0, 1, 42, 0, [0], []) rfl rfl rfl ?_
    refine bGo hA 2 10 (85, .getfield 104, 3, 43, 0, [5, 9, 0, 0, 0, 0], []) rfl rfl rfl ?_
    refine ⟨rfl, ?_⟩
    refine bEqI (bn_bi s3 5 9) ?_
    refine bGo hA 2 11 (88, .iload 5, 2, 44, 0, [5], []) rfl rfl rfl ?_
    refine bGo hA 2 12 (90, .ifCond .eq (14), 3, 45, 52, [], []) rfl rfl rfl ?_
    refine bB_eq0 (x := r5) q6 (fun c7 => ?_) (fun c7 => ?_)
    · refine bGo hA 3 4 (104, .aload_n 1, 1, 53, 0, [1], []) rfl rfl rfl ?_
      refine bGo hA 3 5 (105, .getfield 130, 3, 54, 0, [0, 7, 0, 0, 0, 0], []) rfl rfl rfl ?_
      refine ⟨h.1, ?_⟩
      refine bEqI (bn_bi s3 l1 7) ?_
      refine bGo hA 3 6 (108, .iadd, 1, 55, 0, [], []) rfl rfl rfl ?_
      refine bEqI (bn_add (bi s3 5 9) (bi s3 l1 7)) ?_
      refine bGo hA 3 7 (109, .aload_n 0, 1, 56, 0, [0], []) rfl rfl rfl ?_
      refine bGo hA 3 8 (110, .iload_n 2, 1, 57, 0, [2], []) rfl rfl rfl ?_
      refine bGo hA 3 9 (111, .invokevirtual 288, 3, 58, 0, [0, 5, 62, 1], []) rfl rfl rfl ?_
      refine ⟨rfl, ?_⟩
      refine hC _ _ _ _ _ (bRn_e (fun r10 s8 q11 k9 => ?_)) (k4.1 c7).2
      show A (58, [.ref 5, .ref l1, .int (bn l2), .int (bn l3), .int (bn l4), .int (bn r5)], [.int (bn r10), .int (bn ((bi s3 5 9) + (bi s3 l1 7))), .ref l1], s8)
      refine bGo hA 3 10 (114, .iadd, 1, 59, 0, [], []) rfl rfl rfl ?_
      refine bEqI (bn_add ((bi s3 5 9) + (bi s3 l1 7)) r10) ?_
      refine bGo hA 3 11 (115, .putfield 183, 3, 60, 0, [0, 16, 0, 0, 0, 0], []) rfl rfl rfl ?_
      refine ⟨h.1, ?_⟩
      refine bGo hA 3 12 (118, .aload_n 1, 1, 61, 0, [1], []) rfl rfl rfl ?_
      refine bGo hA 3 13 (119, .iload 4, 2, 62, 0, [4], []) rfl rfl rfl ?_
      refine bGo hA 3 14 (121, .putfield 196, 3, 63, 0, [0, 14, 0, 0, 0, 0], []) rfl rfl rfl ?_
      refine ⟨h.1, ?_⟩
      refine bGo hA 3 15 (124, .aload_n 0, 1, 64, 0, [0], []) rfl rfl rfl ?_
      refine bGo hA 4 0 (125, .getfield 26, 3, 65, 0, [5, 4, 3, 2, 0, 0], []) rfl rfl rfl ?_
      refine ⟨rfl, ?_⟩
      refine bGo hA 4 1 (128, .iload 4, 2, 66, 0, [4], []) rfl rfl rfl ?_
      refine bGo hA 4 2 (130, .invokevirtual 291, 3, 67, 0, [0, 2, 28, 1], []) rfl rfl rfl ?_
      refine ⟨rfl, ?_⟩
      refine hC _ _ _ _ _ (bRv_e (fun s12 k13 => ?_)) k9.2
      show A (67, [.ref 5, .ref l1, .int (bn l2), .int (bn l3), .int (bn l4), .int (bn r5)], [], s12)
      refine bGo hA 4 3 (133, .iload_n 3, 1, 68, 0, [3], []) rfl rfl rfl ?_
      refine bGo hA 4 4 (134, .ifCond .eq (21), 3, 69, 79, [], []) rfl rfl rfl ?_
      refine bB_eq0 (x := l3) h_l3 (fun c14 => ?_) (fun c14 => ?_)
      · refine bGo hA 4 15 (155, .return_, 1, 0, 0, [0], []) rfl rfl rfl ?_
        exact (k13.1 c14)
      · refine bGo hA 4 5 (137, .aload_n 1, 1, 70, 0, [1], []) rfl rfl rfl ?_
        refine bGo hA 4 6 (138, .aload_n 0, 1, 71, 0, [0], []) rfl rfl rfl ?_
        refine bGo hA 4 7 (139, .getfield 104, 3, 72, 0, [5, 9, 0, 0, 0, 0], []) rfl rfl rfl ?_
        refine ⟨rfl, ?_⟩
        refine bEqI (bn_bi s12 5 9) ?_
        refine bGo hA 4 8 (142, .aload_n 1, 1, 73, 0, [1], []) rfl rfl rfl ?_
        refine bGo hA 4 9 (143, .getfield 130, 3, 74, 0, [0, 7, 0, 0, 0, 0], []) rfl rfl rfl ?_
        refine ⟨h.1, ?_⟩
        refine bEqI (bn_bi s12 l1 7) ?_
        refine bGo hA 4 10 (146, .iadd, 1, 75, 0, [], []) rfl rfl rfl ?_
        refine bEqI (bn_add (bi s12 5 9) (bi s12 l1 7)) ?_
        refine bGo hA 4 11 (147, .aload_n 0, 1, 76, 0, [0], []) rfl rfl rfl ?_
        refine bGo hA 4 12 (148, .getfield 34, 3, 77, 0, [5, 6, 0, 0, 0, 0], []) rfl rfl rfl ?_
        refine ⟨rfl, ?_⟩
        refine bEqI (bn_bi s12 5 6) ?_
        refine bGo hA 4 13 (151, .iadd, 1, 78, 0, [], []) rfl rfl rfl ?_
        refine bEqI (bn_add ((bi s12 5 9) + (bi s12 l1 7)) (bi s12 5 6)) ?_
        refine bGo hA 4 14 (152, .putfield 186, 3, 79, 0, [0, 17, 0, 0, 0, 0], []) rfl rfl rfl ?_
        refine ⟨h.1, ?_⟩
        refine bGo hA 4 15 (155, .return_, 1, 0, 0, [0], []) rfl rfl rfl ?_
        exact (k13.2 c14).2.2
    · refine bGo hA 2 13 (93, .aload_n 1, 1, 46, 0, [1], []) rfl rfl rfl ?_
      refine bGo hA 2 14 (94, .getfield 130, 3, 47, 0, [0, 7, 0, 0, 0, 0], []) rfl rfl rfl ?_
      refine ⟨h.1, ?_⟩
      refine bEqI (bn_bi s3 l1 7) ?_
      refine bGo hA 2 15 (97, .iconst (1), 1, 48, 0, [], [(1, 0)]) rfl rfl rfl ?_
      refine bEqI bl_1 ?_
      refine bGo hA 3 0 (98, .iadd, 1, 49, 0, [], []) rfl rfl rfl ?_
      refine bEqI (bn_add (bi s3 l1 7) 1) ?_
      refine bGo hA 3 1 (99, .iconst (2), 1, 50, 0, [], [(2, 0)]) rfl rfl rfl ?_
      refine bEqI bl_2 ?_
      refine bGo hA 3 2 (100, .idiv, 1, 51, 0, [], []) rfl rfl rfl ?_
      refine ⟨by decide, ?_⟩
      refine bEqI (bn_div (k4.2 c7).1 (by decide) (k4.2 c7).2.1) ?_
      refine bGo hA 3 3 (101, .goto (7), 3, 52, 54, [], []) rfl rfl rfl ?_
      refine bGo hA 3 6 (108, .iadd, 1, 55, 0, [], []) rfl rfl rfl ?_
      refine bEqI (bn_add (bi s3 5 9) (((bi s3 l1 7) + 1) / 2)) ?_
      refine bGo hA 3 7 (109, .aload_n 0, 1, 56, 0, [0], []) rfl rfl rfl ?_
      refine bGo hA 3 8 (110, .iload_n 2, 1, 57, 0, [2], []) rfl rfl rfl ?_
      refine bGo hA 3 9 (111, .invokevirtual 288, 3, 58, 0, [0, 5, 62, 1], []) rfl rfl rfl ?_
      refine ⟨rfl, ?_⟩
      refine hC _ _ _ _ _ (bRn_e (fun r17 s15 q18 k16 => ?_)) (k4.2 c7).2.2.2
      show A (58, [.ref 5, .ref l1, .int (bn l2), .int (bn l3), .int (bn l4), .int (bn r5)], [.int (bn r17), .int (bn ((bi s3 5 9) + (((bi s3 l1 7) + 1) / 2))), .ref l1], s15)
      refine bGo hA 3 10 (114, .iadd, 1, 59, 0, [], []) rfl rfl rfl ?_
      refine bEqI (bn_add ((bi s3 5 9) + (((bi s3 l1 7) + 1) / 2)) r17) ?_
      refine bGo hA 3 11 (115, .putfield 183, 3, 60, 0, [0, 16, 0, 0, 0, 0], []) rfl rfl rfl ?_
      refine ⟨h.1, ?_⟩
      refine bGo hA 3 12 (118, .aload_n 1, 1, 61, 0, [1], []) rfl rfl rfl ?_
      refine bGo hA 3 13 (119, .iload 4, 2, 62, 0, [4], []) rfl rfl rfl ?_
      refine bGo hA 3 14 (121, .putfield 196, 3, 63, 0, [0, 14, 0, 0, 0, 0], []) rfl rfl rfl ?_
      refine ⟨h.1, ?_⟩
      refine bGo hA 3 15 (124, .aload_n 0, 1, 64, 0, [0], []) rfl rfl rfl ?_
      refine bGo hA 4 0 (125, .getfield 26, 3, 65, 0, [5, 4, 3, 2, 0, 0], []) rfl rfl rfl ?_
      refine ⟨rfl, ?_⟩
      refine bGo hA 4 1 (128, .iload 4, 2, 66, 0, [4], []) rfl rfl rfl ?_
      refine bGo hA 4 2 (130, .invokevirtual 291, 3, 67, 0, [0, 2, 28, 1], []) rfl rfl rfl ?_
      refine ⟨rfl, ?_⟩
      refine hC _ _ _ _ _ (bRv_e (fun s19 k20 => ?_)) k16.2
      show A (67, [.ref 5, .ref l1, .int (bn l2), .int (bn l3), .int (bn l4), .int (bn r5)], [], s19)
      refine bGo hA 4 3 (133, .iload_n 3, 1, 68, 0, [3], []) rfl rfl rfl ?_
      refine bGo hA 4 4 (134, .ifCond .eq (21), 3, 69, 79, [], []) rfl rfl rfl ?_
      refine bB_eq0 (x := l3) h_l3 (fun c21 => ?_) (fun c21 => ?_)
      · refine bGo hA 4 15 (155, .return_, 1, 0, 0, [0], []) rfl rfl rfl ?_
        exact (k20.1 c21)
      · refine bGo hA 4 5 (137, .aload_n 1, 1, 70, 0, [1], []) rfl rfl rfl ?_
        refine bGo hA 4 6 (138, .aload_n 0, 1, 71, 0, [0], []) rfl rfl rfl ?_
        refine bGo hA 4 7 (139, .getfield 104, 3, 72, 0, [5, 9, 0, 0, 0, 0], []) rfl rfl rfl ?_
        refine ⟨rfl, ?_⟩
        refine bEqI (bn_bi s19 5 9) ?_
        refine bGo hA 4 8 (142, .aload_n 1, 1, 73, 0, [1], []) rfl rfl rfl ?_
        refine bGo hA 4 9 (143, .getfield 130, 3, 74, 0, [0, 7, 0, 0, 0, 0], []) rfl rfl rfl ?_
        refine ⟨h.1, ?_⟩
        refine bEqI (bn_bi s19 l1 7) ?_
        refine bGo hA 4 10 (146, .iadd, 1, 75, 0, [], []) rfl rfl rfl ?_
        refine bEqI (bn_add (bi s19 5 9) (bi s19 l1 7)) ?_
        refine bGo hA 4 11 (147, .aload_n 0, 1, 76, 0, [0], []) rfl rfl rfl ?_
        refine bGo hA 4 12 (148, .getfield 34, 3, 77, 0, [5, 6, 0, 0, 0, 0], []) rfl rfl rfl ?_
        refine ⟨rfl, ?_⟩
        refine bEqI (bn_bi s19 5 6) ?_
        refine bGo hA 4 13 (151, .iadd, 1, 78, 0, [], []) rfl rfl rfl ?_
        refine bEqI (bn_add ((bi s19 5 9) + (bi s19 l1 7)) (bi s19 5 6)) ?_
        refine bGo hA 4 14 (152, .putfield 186, 3, 79, 0, [0, 17, 0, 0, 0, 0], []) rfl rfl rfl ?_
        refine ⟨h.1, ?_⟩
        refine bGo hA 4 15 (155, .return_, 1, 0, 0, [0], []) rfl rfl rfl ?_
        exact (k20.2 c21).2.2

theorem sq62_0 {lvl : Nat} {C : bCall} {Q : bPost} {A : bPt → Prop} (hC : bMono C) (hA : bClosed lvl bm62 C Q A) {x1 : Int} {σ : bSt}  (h_x1 : bRg x1)
  (h : (C 141 [.ref 25, .int (bn 0), .int (bn x1)] σ (bRv (fun s1 => (C 141 [.ref 26, .int (bn 0), .int (bn 0)] s1 (bRv (fun s3 => A (16, [.ref 5, .int (bn x1), .int (bn 0), .int (bn 1), .int (bn 0), .float 0, .float 0, .float 0], [], s3)))))))) : A (0, [.ref 5, .int (bn x1), .float 0, .float 0, .float 0, .float 0, .float 0, .float 0], [], σ) := by
  refine bGo hA 0 0 (0, .iconst (0), 1, 1, 0, [], [(0, 0)]) rfl rfl rfl ?_
  refine bEqI bl_0 ?_
  refine bGo hA 0 1 (1, .istore_n 2, 1, 2, 0, [2], []) rfl rfl rfl ?_
  refine bGo hA 0 2 (2, .iconst (1), 1, 3, 0, [], [(1, 0)]) rfl rfl rfl ?_
  refine bEqI bl_1 ?_
  refine bGo hA 0 3 (3, .istore_n 3, 1, 4, 0, [3], []) rfl rfl rfl ?_
  refine bGo hA 0 4 (4, .aload_n 0, 1, 5, 0, [0], []) rfl rfl rfl ?_
  refine bGo hA 0 5 (5, .getfield 45, 3, 6, 0, [5, 11, 3, 25, 1, 0], []) rfl rfl rfl ?_
  refine ⟨rfl, ?_⟩
  refine bGo hA 0 6 (8, .iconst (0), 1, 7, 0, [], [(0, 0)]) rfl rfl rfl ?_
  refine bEqI bl_0 ?_
  refine bGo hA 0 7 (9, .iload_n 1, 1, 8, 0, [1], []) rfl rfl rfl ?_
  refine bGo hA 0 8 (10, .invokestatic 246, 3, 9, 1, [2, 141, 3], []) rfl rfl rfl ?_
  refine hC _ _ _ _ _ (bRv_e (fun s1 k2 => ?_)) h
  show A (9, [.ref 5, .int (bn x1), .int (bn 0), .int (bn 1), .float 0, .float 0, .float 0, .float 0], [], s1)
  refine bGo hA 0 9 (13, .aload_n 0, 1, 10, 0, [0], []) rfl rfl rfl ?_
  refine bGo hA 0 10 (14, .getfield 48, 3, 11, 0, [5, 12, 3, 26, 1, 0], []) rfl rfl rfl ?_
  refine ⟨rfl, ?_⟩
  refine bGo hA 0 11 (17, .iconst (0), 1, 12, 0, [], [(0, 0)]) rfl rfl rfl ?_
  refine bEqI bl_0 ?_
  refine bGo hA 0 12 (18, .iconst (0), 1, 13, 0, [], [(0, 0)]) rfl rfl rfl ?_
  refine bEqI bl_0 ?_
  refine bGo hA 0 13 (19, .invokestatic 246, 3, 14, 1, [2, 141, 3], []) rfl rfl rfl ?_
  refine hC _ _ _ _ _ (bRv_e (fun s3 k4 => ?_)) k2
  show A (14, [.ref 5, .int (bn x1), .int (bn 0), .int (bn 1), .float 0, .float 0, .float 0, .float 0], [], s3)
  refine bGo hA 0 14 (22, .iconst (0), 1, 15, 0, [], [(0, 0)]) rfl rfl rfl ?_
  refine bEqI bl_0 ?_
  refine bGo hA 0 15 (23, .istore 4, 2, 16, 0, [4], []) rfl rfl rfl ?_
  exact k4

theorem sq62_16 {lvl : Nat} {C : bCall} {Q : bPost} {A : bPt → Prop} (hC : bMono C) (hA : bClosed lvl bm62 C Q A) {v1 : Value} {l2 : Int} {l3 : Int} {l4 : Int} {v5 : Value} {v6 : Value} {v7 : Value} {σ : bSt}  (h_l2 : bRg l2) (h_l3 : bRg l3) (h_l4 : bRg l4)
  (h : ((l4 < 100000 → (((0 : Int) < l3 → (bRg (l3 - 1) ∧ (C 140 [.ref 25, .int (bn (l3 - 1))] σ (bRn (fun r5 s3 => (C 89 [.ref 6, .int (bn r5)] s3 (bRa (fun r9 s7 => (C 140 [.ref 26, .int (bn (l3 - 1))] s7 (bRn (fun r12 s10 => (r9 % 256 = 0 ∧ ((r12 < (bi s10 r9 1) → (bRg (r12 + 1) ∧ (C 141 [.ref 26, .int (bn (l3 - 1)), .int (bn (r12 + 1))] s10 (bRv (fun s15 => (C 5 [.ref r9, .int (bn r12)] s15 (bRn (fun r19 s17 => ((r19 = (-1) → (bRg (l4 + 1) ∧ A (16, [.ref 5, v1, .int (bn l2), .int (bn l3), .int (bn (l4 + 1)), .ref r9, .int (bn r12), .int (bn r19)], [], s17))) ∧ (¬ r19 = (-1) → (C 89 [.ref 6, .int (bn r19)] s17 (bRa (fun r24 s22 => (r24 % 256 = 0 ∧ ((256 * (2 * (r24 / 256) + 0) + 4) % 256 = 4 ∧ (C 20 [.ref 1, .int (bn (bi s22 (256 * (2 * (r24 / 256) + 0) + 4) 8))] s22 (bRn (fun r27 s25 => ((r27 = 0 → (((bi s25 5 5) = 0 → (C 141 [.ref 25, .int (bn l3), .int (bn r19)] s25 (bRv (fun s31 => (C 141 [.ref 26, .int (bn l3), .int (bn 0)] s31 (bRv (fun s33 => (bRg (l3 + 1) ∧ (bRg (l4 + 1) ∧ A (16, [.ref 5, v1, .int (bn l2), .int (bn (l3 + 1)), .int (bn (l4 + 1)), .ref r9, .int (bn r12), .int (bn r19)], [], s33)))))))))) ∧ (¬ (bi s25 5 5) = 0 → (C 89 [.ref 6, .int (bn r19)] s25 (bRa (fun r37 s35 => (r37 % 256 = 0 ∧ ((256 * (2 * (r37 / 256) + 0) + 4) % 256 = 4 ∧ (C 20 [.ref 257, .int (bn (bi s35 (256 * (2 * (r37 / 256) + 0) + 4) 8))] s35 (bRn (fun r40 s38 => ((r40 = 0 → (C 141 [.ref 25, .int (bn l3), .int (bn r19)] s38 (bRv (fun s43 => (C 141 [.ref 26, .int (bn l3), .int (bn 0)] s43 (bRv (fun s45 => (bRg (l3 + 1) ∧ (bRg (l4 + 1) ∧ A (16, [.ref 5, v1, .int (bn l2), .int (bn (l3 + 1)), .int (bn (l4 + 1)), .ref r9, .int (bn r12), .int (bn r19)], [], s45)))))))))) ∧ (¬ r40 = 0 → (C 89 [.ref 6, .int (bn r19)] s38 (bRa (fun r49 s47 => (r49 % 256 = 0 ∧ ((256 * (2 * (r49 / 256) + 0) + 4) % 256 = 4 ∧ (C 21 [.ref 1, .int (bn (bi s47 (256 * (2 * (r49 / 256) + 0) + 4) 8))] s47 (bRv (fun s50 => (C 54 [.ref 5, .int (bn 10), .int (bn 1)] s50 (bRv (fun s52 => (bRg (l4 + 1) ∧ A (16, [.ref 5, v1, .int (bn l2), .int (bn l3), .int (bn (l4 + 1)), .ref r9, .int (bn r12), .int (bn r19)], [], s52)))))))))))))))))))))))))) ∧ (¬ r27 = 0 → (bRg (l4 + 1) ∧ A (16, [.ref 5, v1, .int (bn l2), .int (bn l3), .int (bn (l4 + 1)), .ref r9, .int (bn r12), .int (bn r19)], [], s25)))))))))))))))))))))) ∧ (¬ r12 < (bi s10 r9 1) → (bRg (l3 + (-1)) ∧ (((0 : Int) < (l3 + (-1)) → ((256 * (2 * (r9 / 256) + 0) + 4) % 256 = 4 ∧ (C 21 [.ref 1, .int (bn (bi s10 (256 * (2 * (r9 / 256) + 0) + 4) 8))] s10 (bRv (fun s55 => (C 54 [.ref 5, .int (bn 9), .int (bn 1)] s55 (bRv (fun s57 => (bRg (l2 + (bi s57 r9 7)) ∧ (bRg (l4 + 1) ∧ A (16, [.ref 5, (bUnl v1), .int (bn (l2 + (bi s57 r9 7))), .int (bn (l3 + (-1))), .int (bn (l4 + 1)), .ref r9, .int (bn r12), v7], [], s57))))))))))) ∧ (¬ (0 : Int) < (l3 + (-1)) → (bRg (l4 + 1) ∧ A (16, [.ref 5, v1, .int (bn l2), .int (bn (l3 + (-1))), .int (bn (l4 + 1)), .ref r9, .int (bn r12), v7], [], s10))))))))))))))))))) ∧ (¬ (0 : Int) < l3 → Q (.inl (some (.int (bn l2)))) σ))) ∧ (¬ l4 < 100000 → Q (.inl (some (.int (bn l2)))) σ))) : A (16, [.ref 5, v1, .int (bn l2), .int (bn l3), .int (bn l4), v5, v6, v7], [], σ) := by
  refine bGo hA 1 0 (25, .iload 4, 2, 17, 0, [4], []) rfl rfl rfl ?_
  refine bGo hA 1 1 (27, .ldc 148, 2, 18, 0, [148], [(100000, 0)]) rfl rfl rfl ?_
  refine bEqI bl_100000 ?_
  refine bGo hA 1 2 (29, .if_icmp .ge (237), 3, 19, 128, [], []) rfl rfl rfl ?_
  refine bB_lt (x := l4) (y := 100000) h_l4 (by decide : bRg 100000) (fun c1 => ?_) (fun c1 => ?_)
  · refine bGo hA 1 3 (32, .iload_n 3, 1, 20, 0, [3], []) rfl rfl rfl ?_
    refine bGo hA 1 4 (33, .ifCond .le (233), 3, 21, 128, [], []) rfl rfl rfl ?_
    refine bB_gt0 (x := l3) h_l3 (fun c2 => ?_) (fun c2 => ?_)
    · refine bGo hA 1 5 (36, .aload_n 0, 1, 22, 0, [0], []) rfl rfl rfl ?_
      refine bGo hA 1 6 (37, .getfield 55, 3, 23, 0, [5, 1, 3, 6, 0, 0], []) rfl rfl rfl ?_
      refine ⟨rfl, ?_⟩
      refine bGo hA 1 7 (40, .aload_n 0, 1, 24, 0, [0], []) rfl rfl rfl ?_
      refine bGo hA 1 8 (41, .getfield 45, 3, 25, 0, [5, 11, 3, 25, 1, 0], []) rfl rfl rfl ?_
      refine ⟨rfl, ?_⟩
      refine bGo hA 1 9 (44, .iload_n 3, 1, 26, 0, [3], []) rfl rfl rfl ?_
      refine bGo hA 1 10 (45, .iconst (1), 1, 27, 0, [], [(1, 0)]) rfl rfl rfl ?_
      refine bEqI bl_1 ?_
      refine bGo hA 1 11 (46, .isub, 1, 28, 0, [], []) rfl rfl rfl ?_
      refine bEqI (bn_sub l3 1) ?_
      refine bGo hA 1 12 (47, .invokestatic 294, 3, 29, 1, [2, 140, 2], []) rfl rfl rfl ?_
      refine hC _ _ _ _ _ (bRn_e (fun r5 s3 q6 k4 => ?_)) ((h.1 c1).1 c2).2
      show A (29, [.ref 5, v1, .int (bn l2), .int (bn l3), .int (bn l4), v5, v6, v7], [.int (bn r5), .ref 6], s3)
      refine bGo hA 1 13 (50, .invokevirtual 113, 3, 30, 0, [0, 6, 89, 1], []) rfl rfl rfl ?_
      refine ⟨rfl, ?_⟩
      refine hC _ _ _ _ _ (bRa_e (fun r9 s7 k8 => ?_)) k4
      show A (30, [.ref 5, v1, .int (bn l2), .int (bn l3), .int (bn l4), v5, v6, v7], [.ref r9], s7)
      refine bGo hA 1 14 (53, .astore 5, 2, 31, 0, [5], []) rfl rfl rfl ?_
      refine bGo hA 1 15 (55, .aload_n 0, 1, 32, 0, [0], []) rfl rfl rfl ?_
      refine bGo hA 2 0 (56, .getfield 48, 3, 33, 0, [5, 12, 3, 26, 1, 0], []) rfl rfl rfl ?_
      refine ⟨rfl, ?_⟩
      refine bGo hA 2 1 (59, .iload_n 3, 1, 34, 0, [3], []) rfl rfl rfl ?_
      refine bGo hA 2 2 (60, .iconst (1), 1, 35, 0, [], [(1, 0)]) rfl rfl rfl ?_
      refine bEqI bl_1 ?_
      refine bGo hA 2 3 (61, .isub, 1, 36, 0, [], []) rfl rfl rfl ?_
      refine bEqI (bn_sub l3 1) ?_
      refine bGo hA 2 4 (62, .invokestatic 294, 3, 37, 1, [2, 140, 2], []) rfl rfl rfl ?_
      refine hC _ _ _ _ _ (bRn_e (fun r12 s10 q13 k11 => ?_)) k8
      show A (37, [.ref 5, v1, .int (bn l2), .int (bn l3), .int (bn l4), .ref r9, v6, v7], [.int (bn r12)], s10)
      refine bGo hA 2 5 (65, .istore 6, 2, 38, 0, [6], []) rfl rfl rfl ?_
      refine bGo hA 2 6 (67, .iload 6, 2, 39, 0, [6], []) rfl rfl rfl ?_
      refine bGo hA 2 7 (69, .aload 5, 2, 40, 0, [5], []) rfl rfl rfl ?_
      refine bGo hA 2 8 (71, .getfield 136, 3, 41, 0, [0, 1, 0, 0, 0, 0], []) rfl rfl rfl ?_
      refine ⟨k11.1, ?_⟩
      refine bEqI (bn_bi s10 r9 1) ?_
      refine bGo hA 2 9 (74, .if_icmp .lt (43), 3, 42, 61, [], []) rfl rfl rfl ?_
      refine bB_lt (x := r12) (y := (bi s10 r9 1)) q13 (bi_rg _ _ _) (fun c14 => ?_) (fun c14 => ?_)
      · refine bGo hA 3 13 (117, .aload_n 0, 1, 62, 0, [0], []) rfl rfl rfl ?_
        refine bGo hA 3 14 (118, .getfield 48, 3, 63, 0, [5, 12, 3, 26, 1, 0], []) rfl rfl rfl ?_
        refine ⟨rfl, ?_⟩
        refine bGo hA 3 15 (121, .iload_n 3, 1, 64, 0, [3], []) rfl rfl rfl ?_
        refine bGo hA 4 0 (122, .iconst (1), 1, 65, 0, [], [(1, 0)]) rfl rfl rfl ?_
        refine bEqI bl_1 ?_
        refine bGo hA 4 1 (123, .isub, 1, 66, 0, [], []) rfl rfl rfl ?_
        refine bEqI (bn_sub l3 1) ?_
        refine bGo hA 4 2 (124, .iload 6, 2, 67, 0, [6], []) rfl rfl rfl ?_
        refine bGo hA 4 3 (126, .iconst (1), 1, 68, 0, [], [(1, 0)]) rfl rfl rfl ?_
        refine bEqI bl_1 ?_
        refine bGo hA 4 4 (127, .iadd, 1, 69, 0, [], []) rfl rfl rfl ?_
        refine bEqI (bn_add r12 1) ?_
        refine bGo hA 4 5 (128, .invokestatic 246, 3, 70, 1, [2, 141, 3], []) rfl rfl rfl ?_
        refine hC _ _ _ _ _ (bRv_e (fun s15 k16 => ?_)) (k11.2.1 c14).2
        show A (70, [.ref 5, v1, .int (bn l2), .int (bn l3), .int (bn l4), .ref r9, .int (bn r12), v7], [], s15)
        refine bGo hA 4 6 (131, .aload 5, 2, 71, 0, [5], []) rfl rfl rfl ?_
        refine bGo hA 4 7 (133, .iload 6, 2, 72, 0, [6], []) rfl rfl rfl ?_
        refine bGo hA 4 8 (135, .invokevirtual 139, 3, 73, 0, [0, 0, 5, 1], []) rfl rfl rfl ?_
        refine ⟨k11.1, ?_⟩
        refine hC _ _ _ _ _ (bRn_e (fun r19 s17 q20 k18 => ?_)) k16
        show A (73, [.ref 5, v1, .int (bn l2), .int (bn l3), .int (bn l4), .ref r9, .int (bn r12), v7], [.int (bn r19)], s17)
        refine bGo hA 4 9 (138, .istore 7, 2, 74, 0, [7], []) rfl rfl rfl ?_
        refine bGo hA 4 10 (140, .iload 7, 2, 75, 0, [7], []) rfl rfl rfl ?_
        refine bGo hA 4 11 (142, .iconst (-1), 1, 76, 0, [], [(-1, 0)]) rfl rfl rfl ?_
        refine bEqI bl_m1 ?_
        refine bGo hA 4 12 (143, .if_icmp .eq (117), 3, 77, 126, [], []) rfl rfl rfl ?_
        refine bB_eq (x := r19) (y := (-1)) q20 (by decide : bRg (-1)) (fun c21 => ?_) (fun c21 => ?_)
        · refine bGo hA 7 14 (260, .iinc 4 (1), 3, 127, 0, [4], [(1, 0)]) rfl rfl rfl ?_
          refine bEqC (fun v => A (127, [.ref 5, v1, .int (bn l2), .int (bn l3), .int v, .ref r9, .int (bn r12), .int (bn r19)], [], s17)) ((congrArg (fun w => bn l4 + w) bl_1).trans (bn_add l4 1)) ?_
          refine bGo hA 7 15 (263, .goto (-238), 3, 128, 16, [], []) rfl rfl rfl ?_
          exact (k18.1 c21).2
        · refine bGo hA 4 13 (146, .aload_n 0, 1, 78, 0, [0], []) rfl rfl rfl ?_
          refine bGo hA 4 14 (147, .getfield 14, 3, 79, 0, [5, 2, 3, 1, 0, 0], []) rfl rfl rfl ?_
          refine ⟨rfl, ?_⟩
          refine bGo hA 4 15 (150, .aload_n 0, 1, 80, 0, [0], []) rfl rfl rfl ?_
          refine bGo hA 5 0 (151, .getfield 55, 3, 81, 0, [5, 1, 3, 6, 0, 0], []) rfl rfl rfl ?_
          refine ⟨rfl, ?_⟩
          refine bGo hA 5 1 (154, .iload 7, 2, 82, 0, [7], []) rfl rfl rfl ?_
          refine bGo hA 5 2 (156, .invokevirtual 113, 3, 83, 0, [0, 6, 89, 1], []) rfl rfl rfl ?_
          refine ⟨rfl, ?_⟩
          refine hC _ _ _ _ _ (bRa_e (fun r24 s22 k23 => ?_)) (k18.2 c21)
          show A (83, [.ref 5, v1, .int (bn l2), .int (bn l3), .int (bn l4), .ref r9, .int (bn r12), .int (bn r19)], [.ref r24, .ref 1], s22)
          refine bGo hA 5 3 (159, .getfield 175, 3, 84, 0, [0, 3, 3, 4, 2, 0], []) rfl rfl rfl ?_
          refine ⟨k23.1, ?_⟩
          refine bGo hA 5 4 (162, .getfield 212, 3, 85, 0, [4, 8, 0, 0, 0, 0], []) rfl rfl rfl ?_
          refine ⟨k23.2.1, ?_⟩
          refine bEqI (bn_bi s22 (256 * (2 * (r24 / 256) + 0) + 4) 8) ?_
          refine bGo hA 5 5 (165, .invokevirtual 298, 3, 86, 0, [0, 1, 20, 1], []) rfl rfl rfl ?_
          refine ⟨rfl, ?_⟩
          refine hC _ _ _ _ _ (bRn_e (fun r27 s25 q28 k26 => ?_)) k23.2.2
          show A (86, [.ref 5, v1, .int (bn l2), .int (bn l3), .int (bn l4), .ref r9, .int (bn r12), .int (bn r19)], [.int (bn r27)], s25)
          refine bGo hA 5 6 (168, .ifCond .eq (6), 3, 87, 88, [], []) rfl rfl rfl ?_
          refine bB_eq0 (x := r27) q28 (fun c29 => ?_) (fun c29 => ?_)
          · refine bGo hA 5 8 (174, .aload_n 0, 1, 89, 0, [0], []) rfl rfl rfl ?_
            refine bGo hA 5 9 (175, .getfield 30, 3, 90, 0, [5, 5, 1, 0, 0, 0], []) rfl rfl rfl ?_
            refine ⟨rfl, ?_⟩
            refine bEqI (bn_bi s25 5 5) ?_
            refine bGo hA 5 10 (178, .ifCond .eq (60), 3, 91, 115, [], []) rfl rfl rfl ?_
            refine bB_eq0 (x := (bi s25 5 5)) (bi_rg _ _ _) (fun c30 => ?_) (fun c30 => ?_)
            · refine bGo hA 7 3 (238, .aload_n 0, 1, 116, 0, [0], []) rfl rfl rfl ?_
              refine bGo hA 7 4 (239, .getfield 45, 3, 117, 0, [5, 11, 3, 25, 1, 0], []) rfl rfl rfl ?_
              refine ⟨rfl, ?_⟩
              refine bGo hA 7 5 (242, .iload_n 3, 1, 118, 0, [3], []) rfl rfl rfl ?_
              refine bGo hA 7 6 (243, .iload 7, 2, 119, 0, [7], []) rfl rfl rfl ?_
              refine bGo hA 7 7 (245, .invokestatic 246, 3, 120, 1, [2, 141, 3], []) rfl rfl rfl ?_
              refine hC _ _ _ _ _ (bRv_e (fun s31 k32 => ?_)) ((k26.1 c29).1 c30)
              show A (120, [.ref 5, v1, .int (bn l2), .int (bn l3), .int (bn l4), .ref r9, .int (bn r12), .int (bn r19)], [], s31)
              refine bGo hA 7 8 (248, .aload_n 0, 1, 121, 0, [0], []) rfl rfl rfl ?_
              refine bGo hA 7 9 (249, .getfield 48, 3, 122, 0, [5, 12, 3, 26, 1, 0], []) rfl rfl rfl ?_
              refine ⟨rfl, ?_⟩
              refine bGo hA 7 10 (252, .iload_n 3, 1, 123, 0, [3], []) rfl rfl rfl ?_
              refine bGo hA 7 11 (253, .iconst (0), 1, 124, 0, [], [(0, 0)]) rfl rfl rfl ?_
              refine bEqI bl_0 ?_
              refine bGo hA 7 12 (254, .invokestatic 246, 3, 125, 1, [2, 141, 3], []) rfl rfl rfl ?_
              refine hC _ _ _ _ _ (bRv_e (fun s33 k34 => ?_)) k32
              show A (125, [.ref 5, v1, .int (bn l2), .int (bn l3), .int (bn l4), .ref r9, .int (bn r12), .int (bn r19)], [], s33)
              refine bGo hA 7 13 (257, .iinc 3 (1), 3, 126, 0, [3], [(1, 0)]) rfl rfl rfl ?_
              refine bEqC (fun v => A (126, [.ref 5, v1, .int (bn l2), .int v, .int (bn l4), .ref r9, .int (bn r12), .int (bn r19)], [], s33)) ((congrArg (fun w => bn l3 + w) bl_1).trans (bn_add l3 1)) ?_
              refine bGo hA 7 14 (260, .iinc 4 (1), 3, 127, 0, [4], [(1, 0)]) rfl rfl rfl ?_
              refine bEqC (fun v => A (127, [.ref 5, v1, .int (bn l2), .int (bn (l3 + 1)), .int v, .ref r9, .int (bn r12), .int (bn r19)], [], s33)) ((congrArg (fun w => bn l4 + w) bl_1).trans (bn_add l4 1)) ?_
              refine bGo hA 7 15 (263, .goto (-238), 3, 128, 16, [], []) rfl rfl rfl ?_
              exact k34.2.2
            · refine bGo hA 5 11 (181, .aload_n 0, 1, 92, 0, [0], []) rfl rfl rfl ?_
              refine bGo hA 5 12 (182, .getfield 20, 3, 93, 0, [5, 3, 3, 1, 0, 1], []) rfl rfl rfl ?_
              refine ⟨rfl, ?_⟩
              refine bGo hA 5 13 (185, .aload_n 0, 1, 94, 0, [0], []) rfl rfl rfl ?_
              refine bGo hA 5 14 (186, .getfield 55, 3, 95, 0, [5, 1, 3, 6, 0, 0], []) rfl rfl rfl ?_
              refine ⟨rfl, ?_⟩
              refine bGo hA 5 15 (189, .iload 7, 2, 96, 0, [7], []) rfl rfl rfl ?_
              refine bGo hA 6 0 (191, .invokevirtual 113, 3, 97, 0, [0, 6, 89, 1], []) rfl rfl rfl ?_
              refine ⟨rfl, ?_⟩
              refine hC _ _ _ _ _ (bRa_e (fun r37 s35 k36 => ?_)) ((k26.1 c29).2 c30)
              show A (97, [.ref 5, v1, .int (bn l2), .int (bn l3), .int (bn l4), .ref r9, .int (bn r12), .int (bn r19)], [.ref r37, .ref 257], s35)
              refine bGo hA 6 1 (194, .getfield 175, 3, 98, 0, [0, 3, 3, 4, 2, 0], []) rfl rfl rfl ?_
              refine ⟨k36.1, ?_⟩
              refine bGo hA 6 2 (197, .getfield 212, 3, 99, 0, [4, 8, 0, 0, 0, 0], []) rfl rfl rfl ?_
              refine ⟨k36.2.1, ?_⟩
              refine bEqI (bn_bi s35 (256 * (2 * (r37 / 256) + 0) + 4) 8) ?_
              refine bGo hA 6 3 (200, .invokevirtual 298, 3, 100, 0, [0, 1, 20, 1], []) rfl rfl rfl ?_
              refine ⟨rfl, ?_⟩
              refine hC _ _ _ _ _ (bRn_e (fun r40 s38 q41 k39 => ?_)) k36.2.2
              show A (100, [.ref 5, v1, .int (bn l2), .int (bn l3), .int (bn l4), .ref r9, .int (bn r12), .int (bn r19)], [.int (bn r40)], s38)
              refine bGo hA 6 4 (203, .ifCond .eq (35), 3, 101, 115, [], []) rfl rfl rfl ?_
              refine bB_eq0 (x := r40) q41 (fun c42 => ?_) (fun c42 => ?_)
              · refine bGo hA 7 3 (238, .aload_n 0, 1, 116, 0, [0], []) rfl rfl rfl ?_
                refine bGo hA 7 4 (239, .getfield 45, 3, 117, 0, [5, 11, 3, 25, 1, 0], []) rfl rfl rfl ?_
                refine ⟨rfl, ?_⟩
                refine bGo hA 7 5 (242, .iload_n 3, 1, 118, 0, [3], []) rfl rfl rfl ?_
                refine bGo hA 7 6 (243, .iload 7, 2, 119, 0, [7], []) rfl rfl rfl ?_
                refine bGo hA 7 7 (245, .invokestatic 246, 3, 120, 1, [2, 141, 3], []) rfl rfl rfl ?_
                refine hC _ _ _ _ _ (bRv_e (fun s43 k44 => ?_)) (k39.1 c42)
                show A (120, [.ref 5, v1, .int (bn l2), .int (bn l3), .int (bn l4), .ref r9, .int (bn r12), .int (bn r19)], [], s43)
                refine bGo hA 7 8 (248, .aload_n 0, 1, 121, 0, [0], []) rfl rfl rfl ?_
                refine bGo hA 7 9 (249, .getfield 48, 3, 122, 0, [5, 12, 3, 26, 1, 0], []) rfl rfl rfl ?_
                refine ⟨rfl, ?_⟩
                refine bGo hA 7 10 (252, .iload_n 3, 1, 123, 0, [3], []) rfl rfl rfl ?_
                refine bGo hA 7 11 (253, .iconst (0), 1, 124, 0, [], [(0, 0)]) rfl rfl rfl ?_
                refine bEqI bl_0 ?_
                refine bGo hA 7 12 (254, .invokestatic 246, 3, 125, 1, [2, 141, 3], []) rfl rfl rfl ?_
                refine hC _ _ _ _ _ (bRv_e (fun s45 k46 => ?_)) k44
                show A (125, [.ref 5, v1, .int (bn l2), .int (bn l3), .int (bn l4), .ref r9, .int (bn r12), .int (bn r19)], [], s45)
                refine bGo hA 7 13 (257, .iinc 3 (1), 3, 126, 0, [3], [(1, 0)]) rfl rfl rfl ?_
                refine bEqC (fun v => A (126, [.ref 5, v1, .int (bn l2), .int v, .int (bn l4), .ref r9, .int (bn r12), .int (bn r19)], [], s45)) ((congrArg (fun w => bn l3 + w) bl_1).trans (bn_add l3 1)) ?_
                refine bGo hA 7 14 (260, .iinc 4 (1), 3, 127, 0, [4], [(1, 0)]) rfl rfl rfl ?_
                refine bEqC (fun v => A (127, [.ref 5, v1, .int (bn l2), .int (bn (l3 + 1)), .int v, .ref r9, .int (bn r12), .int (bn r19)], [], s45)) ((congrArg (fun w => bn l4 + w) bl_1).trans (bn_add l4 1)) ?_
                refine bGo hA 7 15 (263, .goto (-238), 3, 128, 16, [], []) rfl rfl rfl ?_
                exact k46.2.2
              · refine bGo hA 6 5 (206, .aload_n 0, 1, 102, 0, [0], []) rfl rfl rfl ?_
                refine bGo hA 6 6 (207, .getfield 14, 3, 103, 0, [5, 2, 3, 1, 0, 0], []) rfl rfl rfl ?_
                refine ⟨rfl, ?_⟩
                refine bGo hA 6 7 (210, .aload_n 0, 1, 104, 0, [0], []) rfl rfl rfl ?_
                refine bGo hA 6 8 (211, .getfield 55, 3, 105, 0, [5, 1, 3, 6, 0, 0], []) rfl rfl rfl ?_
                refine ⟨rfl, ?_⟩
                refine bGo hA 6 9 (214, .iload 7, 2, 106, 0, [7], []) rfl rfl rfl ?_
                refine bGo hA 6 10 (216, .invokevirtual 113, 3, 107, 0, [0, 6, 89, 1], []) rfl rfl rfl ?_
                refine ⟨rfl, ?_⟩
                refine hC _ _ _ _ _ (bRa_e (fun r49 s47 k48 => ?_)) (k39.2 c42)
                show A (107, [.ref 5, v1, .int (bn l2), .int (bn l3), .int (bn l4), .ref r9, .int (bn r12), .int (bn r19)], [.ref r49, .ref 1], s47)
                refine bGo hA 6 11 (219, .getfield 175, 3, 108, 0, [0, 3, 3, 4, 2, 0], []) rfl rfl rfl ?_
                refine ⟨k48.1, ?_⟩
                refine bGo hA 6 12 (222, .getfield 212, 3, 109, 0, [4, 8, 0, 0, 0, 0], []) rfl rfl rfl ?_
                refine ⟨k48.2.1, ?_⟩
                refine bEqI (bn_bi s47 (256 * (2 * (r49 / 256) + 0) + 4) 8) ?_
                refine bGo hA 6 13 (225, .invokevirtual 124, 3, 110, 0, [0, 1, 21, 1], []) rfl rfl rfl ?_
                refine ⟨rfl, ?_⟩
                refine hC _ _ _ _ _ (bRv_e (fun s50 k51 => ?_)) k48.2.2
                show A (110, [.ref 5, v1, .int (bn l2), .int (bn l3), .int (bn l4), .ref r9, .int (bn r12), .int (bn r19)], [], s50)
                refine bGo hA 6 14 (228, .aload_n 0, 1, 111, 0, [0], []) rfl rfl rfl ?_
                refine bGo hA 6 15 (229, .bipush (10), 2, 112, 0, [], [(10, 0)]) rfl rfl rfl ?_
                refine bEqI bl_10 ?_
                refine bGo hA 7 0 (231, .iconst (1), 1, 113, 0, [], [(1, 0)]) rfl rfl rfl ?_
                refine bEqI bl_1 ?_
                refine bGo hA 7 1 (232, .invokevirtual 210, 3, 114, 0, [0, 5, 54, 2], []) rfl rfl rfl ?_
                refine ⟨rfl, ?_⟩
                refine hC _ _ _ _ _ (bRv_e (fun s52 k53 => ?_)) k51
                show A (114, [.ref 5, v1, .int (bn l2), .int (bn l3), .int (bn l4), .ref r9, .int (bn r12), .int (bn r19)], [], s52)
                refine bGo hA 7 2 (235, .goto (25), 3, 115, 126, [], []) rfl rfl rfl ?_
                refine bGo hA 7 14 (260, .iinc 4 (1), 3, 127, 0, [4], [(1, 0)]) rfl rfl rfl ?_
                refine bEqC (fun v => A (127, [.ref 5, v1, .int (bn l2), .int (bn l3), .int v, .ref r9, .int (bn r12), .int (bn r19)], [], s52)) ((congrArg (fun w => bn l4 + w) bl_1).trans (bn_add l4 1)) ?_
                refine bGo hA 7 15 (263, .goto (-238), 3, 128, 16, [], []) rfl rfl rfl ?_
                exact k53.2
          · refine bGo hA 5 7 (171, .goto (89), 3, 88, 126, [], []) rfl rfl rfl ?_
            refine bGo hA 7 14 (260, .iinc 4 (1), 3, 127, 0, [4], [(1, 0)]) rfl rfl rfl ?_
            refine bEqC (fun v => A (127, [.ref 5, v1, .int (bn l2), .int (bn l3), .int v, .ref r9, .int (bn r12), .int (bn r19)], [], s25)) ((congrArg (fun w => bn l4 + w) bl_1).trans (bn_add l4 1)) ?_
            refine bGo hA 7 15 (263, .goto (-238), 3, 128, 16, [], []) rfl rfl rfl ?_
            exact (k26.2 c29).2
      · refine bGo hA 2 10 (77, .iinc 3 (-1), 3, 43, 0, [3], [(-1, 0)]) rfl rfl rfl ?_
        refine bEqC (fun v => A (43, [.ref 5, v1, .int (bn l2), .int v, .int (bn l4), .ref r9, .int (bn r12), v7], [], s10)) ((congrArg (fun w => bn l3 + w) bl_m1).trans (bn_add l3 (-1))) ?_
        refine bGo hA 2 11 (80, .iload_n 3, 1, 44, 0, [3], []) rfl rfl rfl ?_
        refine bGo hA 2 12 (81, .ifCond .le (179), 3, 45, 126, [], []) rfl rfl rfl ?_
        refine bB_gt0 (x := (l3 + (-1))) (k11.2.2 c14).1 (fun c54 => ?_) (fun c54 => ?_)
        · refine bGo hA 2 13 (84, .aload_n 0, 1, 46, 0, [0], []) rfl rfl rfl ?_
          refine bGo hA 2 14 (85, .getfield 14, 3, 47, 0, [5, 2, 3, 1, 0, 0], []) rfl rfl rfl ?_
          refine ⟨rfl, ?_⟩
          refine bGo hA 2 15 (88, .aload 5, 2, 48, 0, [5], []) rfl rfl rfl ?_
          refine bGo hA 3 0 (90, .getfield 175, 3, 49, 0, [0, 3, 3, 4, 2, 0], []) rfl rfl rfl ?_
          refine ⟨k11.1, ?_⟩
          refine bGo hA 3 1 (93, .getfield 212, 3, 50, 0, [4, 8, 0, 0, 0, 0], []) rfl rfl rfl ?_
          refine ⟨((k11.2.2 c14).2.1 c54).1, ?_⟩
          refine bEqI (bn_bi s10 (256 * (2 * (r9 / 256) + 0) + 4) 8) ?_
          refine bGo hA 3 2 (96, .invokevirtual 124, 3, 51, 0, [0, 1, 21, 1], []) rfl rfl rfl ?_
          refine ⟨rfl, ?_⟩
          refine hC _ _ _ _ _ (bRv_e (fun s55 k56 => ?_)) ((k11.2.2 c14).2.1 c54).2
          show A (51, [.ref 5, v1, .int (bn l2), .int (bn (l3 + (-1))), .int (bn l4), .ref r9, .int (bn r12), v7], [], s55)
          refine bGo hA 3 3 (99, .aload_n 0, 1, 52, 0, [0], []) rfl rfl rfl ?_
          refine bGo hA 3 4 (100, .bipush (9), 2, 53, 0, [], [(9, 0)]) rfl rfl rfl ?_
          refine bEqI bl_9 ?_
          refine bGo hA 3 5 (102, .iconst (1), 1, 54, 0, [], [(1, 0)]) rfl rfl rfl ?_
          refine bEqI bl_1 ?_
          refine bGo hA 3 6 (103, .invokevirtual 210, 3, 55, 0, [0, 5, 54, 2], []) rfl rfl rfl ?_
          refine ⟨rfl, ?_⟩
          refine hC _ _ _ _ _ (bRv_e (fun s57 k58 => ?_)) k56
          show A (55, [.ref 5, v1, .int (bn l2), .int (bn (l3 + (-1))), .int (bn l4), .ref r9, .int (bn r12), v7], [], s57)
          refine bGo hA 3 7 (106, .iload_n 2, 1, 56, 0, [2], []) rfl rfl rfl ?_
          refine bGo hA 3 8 (107, .aload 5, 2, 57, 0, [5], []) rfl rfl rfl ?_
          refine bGo hA 3 9 (109, .getfield 130, 3, 58, 0, [0, 7, 0, 0, 0, 0], []) rfl rfl rfl ?_
          refine ⟨k11.1, ?_⟩
          refine bEqI (bn_bi s57 r9 7) ?_
          refine bGo hA 3 10 (112, .iadd, 1, 59, 0, [], []) rfl rfl rfl ?_
          refine bEqI (bn_add l2 (bi s57 r9 7)) ?_
          refine bGo hA 3 11 (113, .istore_n 2, 1, 60, 0, [2], []) rfl rfl rfl ?_
          refine bGo hA 3 12 (114, .goto (146), 3, 61, 126, [], []) rfl rfl rfl ?_
          refine bGo hA 7 14 (260, .iinc 4 (1), 3, 127, 0, [4], [(1, 0)]) rfl rfl rfl ?_
          refine bEqC (fun v => A (127, [.ref 5, (bUnl v1), .int (bn (l2 + (bi s57 r9 7))), .int (bn (l3 + (-1))), .int v, .ref r9, .int (bn r12), v7], [], s57)) ((congrArg (fun w => bn l4 + w) bl_1).trans (bn_add l4 1)) ?_
          refine bGo hA 7 15 (263, .goto (-238), 3, 128, 16, [], []) rfl rfl rfl ?_
          exact k58.2.2
        · refine bGo hA 7 14 (260, .iinc 4 (1), 3, 127, 0, [4], [(1, 0)]) rfl rfl rfl ?_
          refine bEqC (fun v => A (127, [.ref 5, v1, .int (bn l2), .int (bn (l3 + (-1))), .int v, .ref r9, .int (bn r12), v7], [], s10)) ((congrArg (fun w => bn l4 + w) bl_1).trans (bn_add l4 1)) ?_
          refine bGo hA 7 15 (263, .goto (-238), 3, 128, 16, [], []) rfl rfl rfl ?_
          exact ((k11.2.2 c14).2.2 c54).2
    · refine bGo hA 8 0 (266, .iload_n 2, 1, 129, 0, [2], []) rfl rfl rfl ?_
      refine bGo hA 8 1 (267, .ireturn, 1, 0, 0, [1], []) rfl rfl rfl ?_
      exact ((h.1 c1).2 c2)
  · refine bGo hA 8 0 (266, .iload_n 2, 1, 129, 0, [2], []) rfl rfl rfl ?_
    refine bGo hA 8 1 (267, .ireturn, 1, 0, 0, [1], []) rfl rfl rfl ?_
    exact (h.2 c1)

theorem sq63_0 {lvl : Nat} {C : bCall} {Q : bPost} {A : bPt → Prop} (hC : bMono C) (hA : bClosed lvl bm63 C Q A)  {σ : bSt}  
  (h : (C 141 [.ref 24, .int (bn 0), .int (bn (bi σ 5 9))] σ (bRv (fun s1 => A (8, [.ref 5, .int (bn 0), .float 0], [], s1))))) : A (0, [.ref 5, .float 0, .float 0], [], σ) := by
  refine bGo hA 0 0 (0, .aload_n 0, 1, 1, 0, [0], []) rfl rfl rfl ?_
  refine bGo hA 0 1 (1, .getfield 38, 3, 2, 0, [5, 7, 3, 24, 1, 0], []) rfl rfl rfl ?_
  refine ⟨rfl, ?_⟩
  refine bGo hA 0 2 (4, .iconst (0), 1, 3, 0, [], [(0, 0)]) rfl rfl rfl ?_
  refine bEqI bl_0 ?_
  refine bGo hA 0 3 (5, .aload_n 0, 1, 4, 0, [0], []) rfl rfl rfl ?_
  refine bGo hA 0 4 (6, .getfield 104, 3, 5, 0, [5, 9, 0, 0, 0, 0], []) rfl rfl rfl ?_
  refine ⟨rfl, ?_⟩
  refine bEqI (bn_bi σ 5 9) ?_
  refine bGo hA 0 5 (9, .invokestatic 246, 3, 6, 1, [2, 141, 3], []) rfl rfl rfl ?_
  refine hC _ _ _ _ _ (bRv_e (fun s1 k2 => ?_)) h
  show A (6, [.ref 5, .float 0, .float 0], [], s1)
  refine bGo hA 0 6 (12, .iconst (0), 1, 7, 0, [], [(0, 0)]) rfl rfl rfl ?_
  refine bEqI bl_0 ?_
  refine bGo hA 0 7 (13, .istore_n 1, 1, 8, 0, [1], []) rfl rfl rfl ?_
  exact k2

theorem sq63_8 {lvl : Nat} {C : bCall} {Q : bPost} {A : bPt → Prop} (hC : bMono C) (hA : bClosed lvl bm63 C Q A) {l1 : Int} {v2 : Value} {σ : bSt}  (h_l1 : bRg l1)
  (h : ((l1 < (bi σ 6 13) → (C 89 [.ref 6, .int (bn l1)] σ (bRa (fun r4 s2 => (r4 % 256 = 0 ∧ (((bi s2 r4 5) = 0 → (bRg (l1 + 1) ∧ A (8, [.ref 5, .int (bn (l1 + 1)), .ref r4], [], s2))) ∧ (¬ (bi s2 r4 5) = 0 → (((bi s2 r4 10) = (-1) → (bRg (1 + (bi (bw s2 r4 10 6) r4 10)) ∧ (C 54 [.ref 5, .int (bn (1 + (bi (bw s2 r4 10 6) r4 10))), .int (bn 1)] (bw s2 r4 10 6) (bRv (fun s7 => (bRg (l1 + 1) ∧ A (8, [.ref 5, .int (bn (l1 + 1)), .ref r4], [], s7))))))) ∧ (¬ (bi s2 r4 10) = (-1) → (bRg (1 + (bi (bw s2 r4 10 (bi s2 r4 10)) r4 10)) ∧ (C 54 [.ref 5, .int (bn (1 + (bi (bw s2 r4 10 (bi s2 r4 10)) r4 10))), .int (bn 1)] (bw s2 r4 10 (bi s2 r4 10)) (bRv (fun s9 => (bRg (l1 + 1) ∧ A (8, [.ref 5, .int (bn (l1 + 1)), .ref r4], [], s9))))))))))))))) ∧ (¬ l1 < (bi σ 6 13) → Q (.inl none) σ))) : A (8, [.ref 5, .int (bn l1), v2], [], σ) := by
  refine bGo hA 0 8 (14, .iload_n 1, 1, 9, 0, [1], []) rfl rfl rfl ?_
  refine bGo hA 0 9 (15, .aload_n 0, 1, 10, 0, [0], []) rfl rfl rfl ?_
  refine bGo hA 0 10 (16, .getfield 55, 3, 11, 0, [5, 1, 3, 6, 0, 0], []) rfl rfl rfl ?_
  refine ⟨rfl, ?_⟩
  refine bGo hA 0 11 (19, .getfield 110, 3, 12, 0, [6, 13, 0, 0, 0, 0], []) rfl rfl rfl ?_
  refine ⟨rfl, ?_⟩
  refine bEqI (bn_bi σ 6 13) ?_
  refine bGo hA 0 12 (22, .if_icmp .ge (57), 3, 13, 40, [], []) rfl rfl rfl ?_
  refine bB_lt (x := l1) (y := (bi σ 6 13)) h_l1 (bi_rg _ _ _) (fun c1 => ?_) (fun c1 => ?_)
  · refine bGo hA 0 13 (25, .aload_n 0, 1, 14, 0, [0], []) rfl rfl rfl ?_
    refine bGo hA 0 14 (26, .getfield 55, 3, 15, 0, [5, 1, 3, 6, 0, 0], []) rfl rfl rfl ?_
    refine ⟨rfl, ?_⟩
    refine bGo hA 0 15 (29, .iload_n 1, 1, 16, 0, [1], []) rfl rfl rfl ?_
    refine bGo hA 1 0 (30, .invokevirtual 113, 3, 17, 0, [0, 6, 89, 1], []) rfl rfl rfl ?_
    refine ⟨rfl, ?_⟩
    refine hC _ _ _ _ _ (bRa_e (fun r4 s2 k3 => ?_)) (h.1 c1)
    show A (17, [.ref 5, .int (bn l1), v2], [.ref r4], s2)
    refine bGo hA 1 1 (33, .astore_n 2, 1, 18, 0, [2], []) rfl rfl rfl ?_
    refine bGo hA 1 2 (34, .aload_n 2, 1, 19, 0, [2], []) rfl rfl rfl ?_
    refine bGo hA 1 3 (35, .getfield 133, 3, 20, 0, [0, 5, 1, 0, 0, 0], []) rfl rfl rfl ?_
    refine ⟨k3.1, ?_⟩
    refine bEqI (bn_bi s2 r4 5) ?_
    refine bGo hA 1 4 (38, .ifCond .eq (35), 3, 21, 38, [], []) rfl rfl rfl ?_
    refine bB_eq0 (x := (bi s2 r4 5)) (bi_rg _ _ _) (fun c5 => ?_) (fun c5 => ?_)
    · refine bGo hA 2 6 (73, .iinc 1 (1), 3, 39, 0, [1], [(1, 0)]) rfl rfl rfl ?_
      refine bEqC (fun v => A (39, [.ref 5, .int v, .ref r4], [], s2)) ((congrArg (fun w => bn l1 + w) bl_1).trans (bn_add l1 1)) ?_
      refine bGo hA 2 7 (76, .goto (-62), 3, 40, 8, [], []) rfl rfl rfl ?_
      exact (k3.2.1 c5).2
    · refine bGo hA 1 5 (41, .aload_n 2, 1, 22, 0, [2], []) rfl rfl rfl ?_
      refine bGo hA 1 6 (42, .aload_n 2, 1, 23, 0, [2], []) rfl rfl rfl ?_
      refine bGo hA 1 7 (43, .getfield 193, 3, 24, 0, [0, 10, 0, 0, 0, 0], []) rfl rfl rfl ?_
      refine ⟨k3.1, ?_⟩
      refine bEqI (bn_bi s2 r4 10) ?_
      refine bGo hA 1 8 (46, .iconst (-1), 1, 25, 0, [], [(-1, 0)]) rfl rfl rfl ?_
      refine bEqI bl_m1 ?_
      refine bGo hA 1 9 (47, .if_icmp .ne (8), 3, 26, 28, [], []) rfl rfl rfl ?_
      refine bB_eq (x := (bi s2 r4 10)) (y := (-1)) (bi_rg _ _ _) (by decide : bRg (-1)) (fun c6 => ?_) (fun c6 => ?_)
      · refine bGo hA 1 10 (50, .bipush (6), 2, 27, 0, [], [(6, 0)]) rfl rfl rfl ?_
        refine bEqI bl_6 ?_
        refine bGo hA 1 11 (52, .goto (7), 3, 28, 30, [], []) rfl rfl rfl ?_
        refine bGo hA 1 14 (59, .putfield 193, 3, 31, 0, [0, 10, 0, 0, 0, 0], []) rfl rfl rfl ?_
        refine ⟨k3.1, ?_⟩
        refine bGo hA 1 15 (62, .aload_n 0, 1, 32, 0, [0], []) rfl rfl rfl ?_
        refine bGo hA 2 0 (63, .iconst (1), 1, 33, 0, [], [(1, 0)]) rfl rfl rfl ?_
        refine bEqI bl_1 ?_
        refine bGo hA 2 1 (64, .aload_n 2, 1, 34, 0, [2], []) rfl rfl rfl ?_
        refine bGo hA 2 2 (65, .getfield 193, 3, 35, 0, [0, 10, 0, 0, 0, 0], []) rfl rfl rfl ?_
        refine ⟨k3.1, ?_⟩
        refine bEqI (bn_bi (bw s2 r4 10 6) r4 10) ?_
        refine bGo hA 2 3 (68, .iadd, 1, 36, 0, [], []) rfl rfl rfl ?_
        refine bEqI (bn_add 1 (bi (bw s2 r4 10 6) r4 10)) ?_
        refine bGo hA 2 4 (69, .iconst (1), 1, 37, 0, [], [(1, 0)]) rfl rfl rfl ?_
        refine bEqI bl_1 ?_
        refine bGo hA 2 5 (70, .invokevirtual 210, 3, 38, 0, [0, 5, 54, 2], []) rfl rfl rfl ?_
        refine ⟨rfl, ?_⟩
        refine hC _ _ _ _ _ (bRv_e (fun s7 k8 => ?_)) ((k3.2.2 c5).1 c6).2
        show A (38, [.ref 5, .int (bn l1), .ref r4], [], s7)
        refine bGo hA 2 6 (73, .iinc 1 (1), 3, 39, 0, [1], [(1, 0)]) rfl rfl rfl ?_
        refine bEqC (fun v => A (39, [.ref 5, .int v, .ref r4], [], s7)) ((congrArg (fun w => bn l1 + w) bl_1).trans (bn_add l1 1)) ?_
        refine bGo hA 2 7 (76, .goto (-62), 3, 40, 8, [], []) rfl rfl rfl ?_
        exact k8.2
      · refine bGo hA 1 12 (55, .aload_n 2, 1, 29, 0, [2], []) rfl rfl rfl ?_
        refine bGo hA 1 13 (56, .getfield 193, 3, 30, 0, [0, 10, 0, 0, 0, 0], []) rfl rfl rfl ?_
        refine ⟨k3.1, ?_⟩
        refine bEqI (bn_bi s2 r4 10) ?_
        refine bGo hA 1 14 (59, .putfield 193, 3, 31, 0, [0, 10, 0, 0, 0, 0], []) rfl rfl rfl ?_
        refine ⟨k3.1, ?_⟩
        refine bGo hA 1 15 (62, .aload_n 0, 1, 32, 0, [0], []) rfl rfl rfl ?_
        refine bGo hA 2 0 (63, .iconst (1), 1, 33, 0, [], [(1, 0)]) rfl rfl rfl ?_
        refine bEqI bl_1 ?_
        refine bGo hA 2 1 (64, .aload_n 2, 1, 34, 0, [2], []) rfl rfl rfl ?_
        refine bGo hA 2 2 (65, .getfield 193, 3, 35, 0, [0, 10, 0, 0, 0, 0], []) rfl rfl rfl ?_
        refine ⟨k3.1, ?_⟩
        refine bEqI (bn_bi (bw s2 r4 10 (bi s2 r4 10)) r4 10) ?_
        refine bGo hA 2 3 (68, .iadd, 1, 36, 0, [], []) rfl rfl rfl ?_
        refine bEqI (bn_add 1 (bi (bw s2 r4 10 (bi s2 r4 10)) r4 10)) ?_
        refine bGo hA 2 4 (69, .iconst (1), 1, 37, 0, [], [(1, 0)]) rfl rfl rfl ?_
        refine bEqI bl_1 ?_
        refine bGo hA 2 5 (70, .invokevirtual 210, 3, 38, 0, [0, 5, 54, 2], []) rfl rfl rfl ?_
        refine ⟨rfl, ?_⟩
        refine hC _ _ _ _ _ (bRv_e (fun s9 k10 => ?_)) ((k3.2.2 c5).2 c6).2
        show A (38, [.ref 5, .int (bn l1), .ref r4], [], s9)
        refine bGo hA 2 6 (73, .iinc 1 (1), 3, 39, 0, [1], [(1, 0)]) rfl rfl rfl ?_
        refine bEqC (fun v => A (39, [.ref 5, .int v, .ref r4], [], s9)) ((congrArg (fun w => bn l1 + w) bl_1).trans (bn_add l1 1)) ?_
        refine bGo hA 2 7 (76, .goto (-62), 3, 40, 8, [], []) rfl rfl rfl ?_
        exact k10.2
  · refine bGo hA 2 8 (79, .return_, 1, 0, 0, [0], []) rfl rfl rfl ?_
    exact (h.2 c1)

theorem sq250_0 {lvl : Nat} {C : bCall} {Q : bPost} {A : bPt → Prop} (hC : bMono C) (hA : bClosed lvl bm250 C Q A) {x1 : Int} {σ : bSt}  (h_x1 : bRg x1)
  (h : A (12, [.ref 12, .int (bn x1), .int (bn 0), .float 0, .float 0, .float 0, .float 0], [], (bw (bw σ 117 0 x1) 118 0 0))) : A (0, [.ref 12, .int (bn x1), .float 0, .float 0, .float 0, .float 0, .float 0], [], σ) := by
  refine bGo hA 0 0 (0, .iconst (0), 1, 1, 0, [], [(0, 0)]) rfl rfl rfl ?_
  refine bEqI bl_0 ?_
  refine bGo hA 0 1 (1, .istore_n 2, 1, 2, 0, [2], []) rfl rfl rfl ?_
  refine bGo hA 0 2 (2, .aload_n 0, 1, 3, 0, [0], []) rfl rfl rfl ?_
  refine bGo hA 0 3 (3, .getfield 194, 3, 4, 0, [12, 66, 3, 117, 1, 0], []) rfl rfl rfl ?_
  refine ⟨rfl, ?_⟩
  refine bGo hA 0 4 (6, .iconst (0), 1, 5, 0, [], [(0, 0)]) rfl rfl rfl ?_
  refine bEqI bl_0 ?_
  refine bGo hA 0 5 (7, .iload_n 1, 1, 6, 0, [1], []) rfl rfl rfl ?_
  refine bGo hA 0 6 (8, .iastore, 1, 7, 0, [], []) rfl rfl rfl ?_
  refine ⟨rfl, (bIxP (x := 0) (n := 64) (by decide) (by decide)), by decide, ?_⟩
  refine bEqS (x := 0) (by decide : bRg 0) ?_
  refine bGo hA 0 7 (9, .aload_n 0, 1, 8, 0, [0], []) rfl rfl rfl ?_
  refine bGo hA 0 8 (10, .getfield 197, 3, 9, 0, [12, 67, 3, 118, 1, 0], []) rfl rfl rfl ?_
  refine ⟨rfl, ?_⟩
  refine bGo hA 0 9 (13, .iconst (0), 1, 10, 0, [], [(0, 0)]) rfl rfl rfl ?_
  refine bEqI bl_0 ?_
  refine bGo hA 0 10 (14, .iconst (0), 1, 11, 0, [], [(0, 0)]) rfl rfl rfl ?_
  refine bEqI bl_0 ?_
  refine bGo hA 0 11 (15, .iastore, 1, 12, 0, [], []) rfl rfl rfl ?_
  refine ⟨rfl, (bIxP (x := 0) (n := 64) (by decide) (by decide)), by decide, ?_⟩
  refine bEqS (x := 0) (by decide : bRg 0) ?_
  exact h

theorem sq250_12 {lvl : Nat} {C : bCall} {Q : bPost} {A : bPt → Prop} (hC : bMono C) (hA : bClosed lvl bm250 C Q A) {v1 : Value} {l2 : Int} {v3 : Value} {v4 : Value} {v5 : Value} {v6 : Value} {σ : bSt}  (h_l2 : bRg l2)
  (h : ((l2 < 0 → Q (.inl (some (.int (bn 1)))) σ) ∧ (¬ l2 < 0 → ((0 ≤ l2 ∧ l2 < 64) ∧ (0 ≤ (bi σ 117 l2) ∧ A (25, [.ref 12, v1, .int (bn l2), .int (bn (bi σ 117 l2)), .int (bn ((bi σ 117 l2) / 256)), .int (bn (-9)), v6], [], σ)))))) : A (12, [.ref 12, v1, .int (bn l2), v3, v4, v5, v6], [], σ) := by
  refine bGo hA 0 12 (16, .iload_n 2, 1, 13, 0, [2], []) rfl rfl rfl ?_
  refine bGo hA 0 13 (17, .ifCond .lt (179), 3, 14, 112, [], []) rfl rfl rfl ?_
  refine bB_lt0 (x := l2) h_l2 (fun c1 => ?_) (fun c1 => ?_)
  · refine bGo hA 7 0 (196, .iconst (1), 1, 113, 0, [], [(1, 0)]) rfl rfl rfl ?_
    refine bEqI bl_1 ?_
    refine bGo hA 7 1 (197, .ireturn, 1, 0, 0, [2], []) rfl rfl rfl ?_
    exact ⟨b01 (Or.inr rfl), (h.1 c1)⟩
  · refine bGo hA 0 14 (20, .aload_n 0, 1, 15, 0, [0], []) rfl rfl rfl ?_
    refine bGo hA 0 15 (21, .getfield 194, 3, 16, 0, [12, 66, 3, 117, 1, 0], []) rfl rfl rfl ?_
    refine ⟨rfl, ?_⟩
    refine bGo hA 1 0 (24, .iload_n 2, 1, 17, 0, [2], []) rfl rfl rfl ?_
    refine bGo hA 1 1 (25, .iaload, 1, 18, 0, [], []) rfl rfl rfl ?_
    refine ⟨rfl, (bIxP (x := l2) (n := 64) h_l2 (h.2 c1).1), ?_⟩
    refine bEqL (x := l2) h_l2 ?_
    refine bGo hA 1 2 (26, .istore_n 3, 1, 19, 0, [3], []) rfl rfl rfl ?_
    refine bGo hA 1 3 (27, .iload_n 3, 1, 20, 0, [3], []) rfl rfl rfl ?_
    refine bGo hA 1 4 (28, .sipush (256), 3, 21, 0, [], [(256, 0)]) rfl rfl rfl ?_
    refine bEqI bl_256 ?_
    refine bGo hA 1 5 (31, .idiv, 1, 22, 0, [], []) rfl rfl rfl ?_
    refine ⟨by decide, ?_⟩
    refine bEqI (bn_div (bi_rg _ _ _) (by decide) (h.2 c1).2.1) ?_
    refine bGo hA 1 6 (32, .istore 4, 2, 23, 0, [4], []) rfl rfl rfl ?_
    refine bGo hA 1 7 (34, .bipush (-9), 2, 24, 0, [], [(-9, 0)]) rfl rfl rfl ?_
    refine bEqI bl_m9 ?_
    refine bGo hA 1 8 (36, .istore 5, 2, 25, 0, [5], []) rfl rfl rfl ?_
    exact (h.2 c1).2.2

theorem sq250_25 {lvl : Nat} {C : bCall} {Q : bPost} {A : bPt → Prop} (hC : bMono C) (hA : bClosed lvl bm250 C Q A) {v1 : Value} {l2 : Int} {l3 : Int} {l4 : Int} {l5 : Int} {v6 : Value} {σ : bSt}  (h_l2 : bRg l2) (h_l3 : bRg l3) (h_l4 : bRg l4) (h_l5 : bRg l5)
  (h : ((0 ≤ l3 ∧ l3 < 4096) ∧ (((bi σ 99 l3) = (-9) → ((l5 = (-9) → ((0 ≤ l2 ∧ l2 < 64) ∧ ((0 ≤ l4 ∧ l4 < 16) ∧ (((bi σ 118 l2) < (bi σ 85 l4) → (bRg (6 * l4) ∧ (bRg ((6 * l4) + (bi σ 118 l2)) ∧ (bRg ((bi σ 118 l2) + 1) ∧ ((0 ≤ ((6 * l4) + (bi σ 118 l2)) ∧ ((6 * l4) + (bi σ 118 l2)) < 96) ∧ (((bi σ 86 ((6 * l4) + (bi σ 118 l2))) = 2 → (C 240 [.ref 12, .int (bn l3), .int (bn ((6 * l4) + (bi σ 118 l2)))] (bw σ 118 l2 ((bi σ 118 l2) + 1)) (bRn (fun r7 s5 => ((0 ≤ r7 ∧ r7 < 4096) ∧ (((bi s5 99 r7) = (-9) → (C 240 [.ref 12, .int (bn l3), .int (bn ((6 * l4) + (bi σ 118 l2)))] s5 (bRn (fun r12 s10 => A (25, [.ref 12, v1, .int (bn l2), .int (bn l3), .int (bn l4), .int (bn r12), .int (bn ((6 * l4) + (bi σ 118 l2)))], [], s10))))) ∧ (¬ (bi s5 99 r7) = (-9) → A (25, [.ref 12, v1, .int (bn l2), .int (bn l3), .int (bn l4), .int (bn (-9)), .int (bn ((6 * l4) + (bi σ 118 l2)))], [], s5)))))))) ∧ (¬ (bi σ 86 ((6 * l4) + (bi σ 118 l2))) = 2 → A (25, [.ref 12, v1, .int (bn l2), .int (bn l3), .int (bn l4), .int (bn (-9)), .int (bn ((6 * l4) + (bi σ 118 l2)))], [], (bw σ 118 l2 ((bi σ 118 l2) + 1)))))))))) ∧ (¬ (bi σ 118 l2) < (bi σ 85 l4) → ((l5 = (-9) → (((bi σ 99 l3) = (-9) → (C 251 [.ref 12, .int (bn l3)] σ (bRn (fun r18 s16 => ((r18 = 0 → Q (.inl (some (.int (bn 0)))) s16) ∧ (¬ r18 = 0 → (bRg (l2 + (-1)) ∧ A (12, [.ref 12, (bUnl v1), .int (bn (l2 + (-1))), .int (bn l3), .int (bn l4), .int (bn l5), v6], [], s16)))))))) ∧ (¬ (bi σ 99 l3) = (-9) → (bRg (l2 + (-1)) ∧ A (12, [.ref 12, (bUnl v1), .int (bn (l2 + (-1))), .int (bn l3), .int (bn l4), .int (bn l5), v6], [], σ))))) ∧ (¬ l5 = (-9) → (bRg (l2 + 1) ∧ ((0 ≤ (l2 + 1) ∧ (l2 + 1) < 64) ∧ A (12, [.ref 12, (bUnl v1), .int (bn (l2 + 1)), .int (bn l3), .int (bn l4), .int (bn l5), v6], [], (bw (bw σ 117 (l2 + 1) l5) 118 (l2 + 1) 0))))))))))) ∧ (¬ l5 = (-9) → ((l5 = (-9) → (((bi σ 99 l3) = (-9) → (C 251 [.ref 12, .int (bn l3)] σ (bRn (fun r25 s23 => ((r25 = 0 → Q (.inl (some (.int (bn 0)))) s23) ∧ (¬ r25 = 0 → (bRg (l2 + (-1)) ∧ A (12, [.ref 12, (bUnl v1), .int (bn (l2 + (-1))), .int (bn l3), .int (bn l4), .int (bn l5), v6], [], s23)))))))) ∧ (¬ (bi σ 99 l3) = (-9) → (bRg (l2 + (-1)) ∧ A (12, [.ref 12, (bUnl v1), .int (bn (l2 + (-1))), .int (bn l3), .int (bn l4), .int (bn l5), v6], [], σ))))) ∧ (¬ l5 = (-9) → (bRg (l2 + 1) ∧ ((0 ≤ (l2 + 1) ∧ (l2 + 1) < 64) ∧ A (12, [.ref 12, (bUnl v1), .int (bn (l2 + 1)), .int (bn l3), .int (bn l4), .int (bn l5), v6], [], (bw (bw σ 117 (l2 + 1) l5) 118 (l2 + 1) 0))))))))) ∧ (¬ (bi σ 99 l3) = (-9) → ((l5 = (-9) → (((bi σ 99 l3) = (-9) → (C 251 [.ref 12, .int (bn l3)] σ (bRn (fun r32 s30 => ((r32 = 0 → Q (.inl (some (.int (bn 0)))) s30) ∧ (¬ r32 = 0 → (bRg (l2 + (-1)) ∧ A (12, [.ref 12, (bUnl v1), .int (bn (l2 + (-1))), .int (bn l3), .int (bn l4), .int (bn l5), v6], [], s30)))))))) ∧ (¬ (bi σ 99 l3) = (-9) → (bRg (l2 + (-1)) ∧ A (12, [.ref 12, (bUnl v1), .int (bn (l2 + (-1))), .int (bn l3), .int (bn l4), .int (bn l5), v6], [], σ))))) ∧ (¬ l5 = (-9) → (bRg (l2 + 1) ∧ ((0 ≤ (l2 + 1) ∧ (l2 + 1) < 64) ∧ A (12, [.ref 12, (bUnl v1), .int (bn (l2 + 1)), .int (bn l3), .int (bn l4), .int (bn l5), v6], [], (bw (bw σ 117 (l2 + 1) l5) 118 (l2 + 1) 0)))))))))) : A (25, [.ref 12, v1, .int (bn l2), .int (bn l3), .int (bn l4), .int (bn l5), v6], [], σ) := by
  refine bGo hA 1 9 (38, .aload_n 0, 1, 26, 0, [0], []) rfl rfl rfl ?_
  refine bGo hA 1 10 (39, .getfield 140, 3, 27, 0, [12, 47, 3, 99, 1, 0], []) rfl rfl rfl ?_
  refine ⟨rfl, ?_⟩
  refine bGo hA 1 11 (42, .iload_n 3, 1, 28, 0, [3], []) rfl rfl rfl ?_
  refine bGo hA 1 12 (43, .iaload, 1, 29, 0, [], []) rfl rfl rfl ?_
  refine ⟨rfl, (bIxP (x := l3) (n := 4096) h_l3 h.1), ?_⟩
  refine bEqL (x := l3) h_l3 ?_
  refine bGo hA 1 13 (44, .bipush (-9), 2, 30, 0, [], [(-9, 0)]) rfl rfl rfl ?_
  refine bEqI bl_m9 ?_
  refine bGo hA 1 14 (46, .if_icmp .ne (95), 3, 31, 83, [], []) rfl rfl rfl ?_
  refine bB_eq (x := (bi σ 99 l3)) (y := (-9)) (bi_rg _ _ _) (by decide : bRg (-9)) (fun c1 => ?_) (fun c1 => ?_)
  · refine bGo hA 1 15 (49, .iload 5, 2, 32, 0, [5], []) rfl rfl rfl ?_
    refine bGo hA 2 0 (51, .bipush (-9), 2, 33, 0, [], [(-9, 0)]) rfl rfl rfl ?_
    refine bEqI bl_m9 ?_
    refine bGo hA 2 1 (53, .if_icmp .ne (88), 3, 34, 83, [], []) rfl rfl rfl ?_
    refine bB_eq (x := l5) (y := (-9)) h_l5 (by decide : bRg (-9)) (fun c2 => ?_) (fun c2 => ?_)
    · refine bGo hA 2 2 (56, .aload_n 0, 1, 35, 0, [0], []) rfl rfl rfl ?_
      refine bGo hA 2 3 (57, .getfield 197, 3, 36, 0, [12, 67, 3, 118, 1, 0], []) rfl rfl rfl ?_
      refine ⟨rfl, ?_⟩
      refine bGo hA 2 4 (60, .iload_n 2, 1, 37, 0, [2], []) rfl rfl rfl ?_
      refine bGo hA 2 5 (61, .iaload, 1, 38, 0, [], []) rfl rfl rfl ?_
      refine ⟨rfl, (bIxP (x := l2) (n := 64) h_l2 ((h.2.1 c1).1 c2).1), ?_⟩
      refine bEqL (x := l2) h_l2 ?_
      refine bGo hA 2 6 (62, .aload_n 0, 1, 39, 0, [0], []) rfl rfl rfl ?_
      refine bGo hA 2 7 (63, .getfield 98, 3, 40, 0, [12, 33, 3, 85, 1, 0], []) rfl rfl rfl ?_
      refine ⟨rfl, ?_⟩
      refine bGo hA 2 8 (66, .iload 4, 2, 41, 0, [4], []) rfl rfl rfl ?_
      refine bGo hA 2 9 (68, .iaload, 1, 42, 0, [], []) rfl rfl rfl ?_
      refine ⟨rfl, (bIxP (x := l4) (n := 16) h_l4 ((h.2.1 c1).1 c2).2.1), ?_⟩
      refine bEqL (x := l4) h_l4 ?_
      refine bGo hA 2 10 (69, .if_icmp .ge (72), 3, 43, 83, [], []) rfl rfl rfl ?_
      refine bB_lt (x := (bi σ 118 l2)) (y := (bi σ 85 l4)) (bi_rg _ _ _) (bi_rg _ _ _) (fun c3 => ?_) (fun c3 => ?_)
      · refine bGo hA 2 11 (72, .bipush (6), 2, 44, 0, [], [(6, 0)]) rfl rfl rfl ?_
        refine bEqI bl_6 ?_
        refine bGo hA 2 12 (74, .iload 4, 2, 45, 0, [4], []) rfl rfl rfl ?_
        refine bGo hA 2 13 (76, .imul, 1, 46, 0, [], []) rfl rfl rfl ?_
        refine bEqI (bn_mul 6 l4) ?_
        refine bGo hA 2 14 (77, .aload_n 0, 1, 47, 0, [0], []) rfl rfl rfl ?_
        refine bGo hA 2 15 (78, .getfield 197, 3, 48, 0, [12, 67, 3, 118, 1, 0], []) rfl rfl rfl ?_
        refine ⟨rfl, ?_⟩
        refine bGo hA 3 0 (81, .iload_n 2, 1, 49, 0, [2], []) rfl rfl rfl ?_
        refine bGo hA 3 1 (82, .iaload, 1, 50, 0, [], []) rfl rfl rfl ?_
        refine ⟨rfl, (bIxP (x := l2) (n := 64) h_l2 ((h.2.1 c1).1 c2).1), ?_⟩
        refine bEqL (x := l2) h_l2 ?_
        refine bGo hA 3 2 (83, .iadd, 1, 51, 0, [], []) rfl rfl rfl ?_
        refine bEqI (bn_add (6 * l4) (bi σ 118 l2)) ?_
        refine bGo hA 3 3 (84, .istore 6, 2, 52, 0, [6], []) rfl rfl rfl ?_
        refine bGo hA 3 4 (86, .aload_n 0, 1, 53, 0, [0], []) rfl rfl rfl ?_
        refine bGo hA 3 5 (87, .getfield 197, 3, 54, 0, [12, 67, 3, 118, 1, 0], []) rfl rfl rfl ?_
        refine ⟨rfl, ?_⟩
        refine bGo hA 3 6 (90, .iload_n 2, 1, 55, 0, [2], []) rfl rfl rfl ?_
        refine bGo hA 3 7 (91, .dup2, 1, 56, 0, [], []) rfl rfl rfl ?_
        refine bGo hA 3 8 (92, .iaload, 1, 57, 0, [], []) rfl rfl rfl ?_
        refine ⟨rfl, (bIxP (x := l2) (n := 64) h_l2 ((h.2.1 c1).1 c2).1), ?_⟩
        refine bEqL (x := l2) h_l2 ?_
        refine bGo hA 3 9 (93, .iconst (1), 1, 58, 0, [], [(1, 0)]) rfl rfl rfl ?_
        refine bEqI bl_1 ?_
        refine bGo hA 3 10 (94, .iadd, 1, 59, 0, [], []) rfl rfl rfl ?_
        refine bEqI (bn_add (bi σ 118 l2) 1) ?_
        refine bGo hA 3 11 (95, .iastore, 1, 60, 0, [], []) rfl rfl rfl ?_
        refine ⟨rfl, (bIxP (x := l2) (n := 64) h_l2 ((h.2.1 c1).1 c2).1), by decide, ?_⟩
        refine bEqS (x := l2) h_l2 ?_
        refine bGo hA 3 12 (96, .aload_n 0, 1, 61, 0, [0], []) rfl rfl rfl ?_
        refine bGo hA 3 13 (97, .getfield 101, 3, 62, 0, [12, 34, 3, 86, 1, 0], []) rfl rfl rfl ?_
        refine ⟨rfl, ?_⟩
        refine bGo hA 3 14 (100, .iload 6, 2, 63, 0, [6], []) rfl rfl rfl ?_
        refine bGo hA 3 15 (102, .iaload, 1, 64, 0, [], []) rfl rfl rfl ?_
        refine ⟨rfl, (bIxP (x := ((6 * l4) + (bi σ 118 l2))) (n := 96) (((h.2.1 c1).1 c2).2.2.1 c3).2.1 (((h.2.1 c1).1 c2).2.2.1 c3).2.2.2.1), ?_⟩
        refine bEqL (x := ((6 * l4) + (bi σ 118 l2))) (((h.2.1 c1).1 c2).2.2.1 c3).2.1 ?_
        refine bEqI (congrArg bn (show bi (bw σ 118 l2 ((bi σ 118 l2) + 1)) 86 ((6 * l4) + (bi σ 118 l2)) = (bi σ 86 ((6 * l4) + (bi σ 118 l2))) from (bi_ne (by decide)))) ?_
        refine bGo hA 4 0 (103, .iconst (2), 1, 65, 0, [], [(2, 0)]) rfl rfl rfl ?_
        refine bEqI bl_2 ?_
        refine bGo hA 4 1 (104, .if_icmp .ne (30), 3, 66, 80, [], []) rfl rfl rfl ?_
        refine bB_eq (x := (bi σ 86 ((6 * l4) + (bi σ 118 l2)))) (y := 2) (bi_rg _ _ _) (by decide : bRg 2) (fun c4 => ?_) (fun c4 => ?_)
        · refine bGo hA 4 2 (107, .aload_n 0, 1, 67, 0, [0], []) rfl rfl rfl ?_
          refine bGo hA 4 3 (108, .getfield 140, 3, 68, 0, [12, 47, 3, 99, 1, 0], []) rfl rfl rfl ?_
          refine ⟨rfl, ?_⟩
          refine bGo hA 4 4 (111, .aload_n 0, 1, 69, 0, [0], []) rfl rfl rfl ?_
          refine bGo hA 4 5 (112, .iload_n 3, 1, 70, 0, [3], []) rfl rfl rfl ?_
          refine bGo hA 4 6 (113, .iload 6, 2, 71, 0, [6], []) rfl rfl rfl ?_
          refine bGo hA 4 7 (115, .invokevirtual 398, 3, 72, 0, [0, 12, 240, 2], []) rfl rfl rfl ?_
          refine ⟨rfl, ?_⟩
          refine hC _ _ _ _ _ (bRn_e (fun r7 s5 q8 k6 => ?_)) ((((h.2.1 c1).1 c2).2.2.1 c3).2.2.2.2.1 c4)
          show A (72, [.ref 12, v1, .int (bn l2), .int (bn l3), .int (bn l4), .int (bn l5), .int (bn ((6 * l4) + (bi σ 118 l2)))], [.int (bn r7), .ref 99], s5)
          refine bGo hA 4 8 (118, .iaload, 1, 73, 0, [], []) rfl rfl rfl ?_
          refine ⟨rfl, (bIxP (x := r7) (n := 4096) q8 k6.1), ?_⟩
          refine bEqL (x := r7) q8 ?_
          refine bGo hA 4 9 (119, .bipush (-9), 2, 74, 0, [], [(-9, 0)]) rfl rfl rfl ?_
          refine bEqI bl_m9 ?_
          refine bGo hA 4 10 (121, .if_icmp .ne (13), 3, 75, 80, [], []) rfl rfl rfl ?_
          refine bB_eq (x := (bi s5 99 r7)) (y := (-9)) (bi_rg _ _ _) (by decide : bRg (-9)) (fun c9 => ?_) (fun c9 => ?_)
          · refine bGo hA 4 11 (124, .aload_n 0, 1, 76, 0, [0], []) rfl rfl rfl ?_
            refine bGo hA 4 12 (125, .iload_n 3, 1, 77, 0, [3], []) rfl rfl rfl ?_
            refine bGo hA 4 13 (126, .iload 6, 2, 78, 0, [6], []) rfl rfl rfl ?_
            refine bGo hA 4 14 (128, .invokevirtual 398, 3, 79, 0, [0, 12, 240, 2], []) rfl rfl rfl ?_
            refine ⟨rfl, ?_⟩
            refine hC _ _ _ _ _ (bRn_e (fun r12 s10 q13 k11 => ?_)) (k6.2.1 c9)
            show A (79, [.ref 12, v1, .int (bn l2), .int (bn l3), .int (bn l4), .int (bn l5), .int (bn ((6 * l4) + (bi σ 118 l2)))], [.int (bn r12)], s10)
            refine bGo hA 4 15 (131, .goto (5), 3, 80, 81, [], []) rfl rfl rfl ?_
            refine bGo hA 5 1 (136, .istore 5, 2, 82, 0, [5], []) rfl rfl rfl ?_
            refine bGo hA 5 2 (138, .goto (-100), 3, 83, 25, [], []) rfl rfl rfl ?_
            exact k11
          · refine bGo hA 5 0 (134, .bipush (-9), 2, 81, 0, [], [(-9, 0)]) rfl rfl rfl ?_
            refine bEqI bl_m9 ?_
            refine bGo hA 5 1 (136, .istore 5, 2, 82, 0, [5], []) rfl rfl rfl ?_
            refine bGo hA 5 2 (138, .goto (-100), 3, 83, 25, [], []) rfl rfl rfl ?_
            exact (k6.2.2 c9)
        · refine bGo hA 5 0 (134, .bipush (-9), 2, 81, 0, [], [(-9, 0)]) rfl rfl rfl ?_
          refine bEqI bl_m9 ?_
          refine bGo hA 5 1 (136, .istore 5, 2, 82, 0, [5], []) rfl rfl rfl ?_
          refine bGo hA 5 2 (138, .goto (-100), 3, 83, 25, [], []) rfl rfl rfl ?_
          exact ((((h.2.1 c1).1 c2).2.2.1 c3).2.2.2.2.2 c4)
      · refine bGo hA 5 3 (141, .iload 5, 2, 84, 0, [5], []) rfl rfl rfl ?_
        refine bGo hA 5 4 (143, .bipush (-9), 2, 85, 0, [], [(-9, 0)]) rfl rfl rfl ?_
        refine bEqI bl_m9 ?_
        refine bGo hA 5 5 (145, .if_icmp .eq (24), 3, 86, 98, [], []) rfl rfl rfl ?_
        refine bB_eq (x := l5) (y := (-9)) h_l5 (by decide : bRg (-9)) (fun c14 => ?_) (fun c14 => ?_)
        · refine bGo hA 6 2 (169, .aload_n 0, 1, 99, 0, [0], []) rfl rfl rfl ?_
          refine bGo hA 6 3 (170, .getfield 140, 3, 100, 0, [12, 47, 3, 99, 1, 0], []) rfl rfl rfl ?_
          refine ⟨rfl, ?_⟩
          refine bGo hA 6 4 (173, .iload_n 3, 1, 101, 0, [3], []) rfl rfl rfl ?_
          refine bGo hA 6 5 (174, .iaload, 1, 102, 0, [], []) rfl rfl rfl ?_
          refine ⟨rfl, (bIxP (x := l3) (n := 4096) h_l3 h.1), ?_⟩
          refine bEqL (x := l3) h_l3 ?_
          refine bGo hA 6 6 (175, .bipush (-9), 2, 103, 0, [], [(-9, 0)]) rfl rfl rfl ?_
          refine bEqI bl_m9 ?_
          refine bGo hA 6 7 (177, .if_icmp .ne (13), 3, 104, 110, [], []) rfl rfl rfl ?_
          refine bB_eq (x := (bi σ 99 l3)) (y := (-9)) (bi_rg _ _ _) (by decide : bRg (-9)) (fun c15 => ?_) (fun c15 => ?_)
          · refine bGo hA 6 8 (180, .aload_n 0, 1, 105, 0, [0], []) rfl rfl rfl ?_
            refine bGo hA 6 9 (181, .iload_n 3, 1, 106, 0, [3], []) rfl rfl rfl ?_
            refine bGo hA 6 10 (182, .invokevirtual 425, 3, 107, 0, [0, 12, 251, 1], []) rfl rfl rfl ?_
            refine ⟨rfl, ?_⟩
            refine hC _ _ _ _ _ (bRn_e (fun r18 s16 q19 k17 => ?_)) (((((h.2.1 c1).1 c2).2.2.2 c3).1 c14).1 c15)
            show A (107, [.ref 12, v1, .int (bn l2), .int (bn l3), .int (bn l4), .int (bn l5), v6], [.int (bn r18)], s16)
            refine bGo hA 6 11 (185, .ifCond .ne (5), 3, 108, 110, [], []) rfl rfl rfl ?_
            refine bB_eq0 (x := r18) q19 (fun c20 => ?_) (fun c20 => ?_)
            · refine bGo hA 6 12 (188, .iconst (0), 1, 109, 0, [], [(0, 0)]) rfl rfl rfl ?_
              refine bEqI bl_0 ?_
              refine bGo hA 6 13 (189, .ireturn, 1, 110, 0, [2], []) rfl rfl rfl ?_
              exact ⟨b01 (Or.inl rfl), (k17.1 c20)⟩
            · refine bGo hA 6 14 (190, .iinc 2 (-1), 3, 111, 0, [2], [(-1, 0)]) rfl rfl rfl ?_
              refine bEqC (fun v => A (111, [.ref 12, (bUnl v1), .int v, .int (bn l3), .int (bn l4), .int (bn l5), v6], [], s16)) ((congrArg (fun w => bn l2 + w) bl_m1).trans (bn_add l2 (-1))) ?_
              refine bGo hA 6 15 (193, .goto (-177), 3, 112, 12, [], []) rfl rfl rfl ?_
              exact (k17.2 c20).2
          · refine bGo hA 6 14 (190, .iinc 2 (-1), 3, 111, 0, [2], [(-1, 0)]) rfl rfl rfl ?_
            refine bEqC (fun v => A (111, [.ref 12, (bUnl v1), .int v, .int (bn l3), .int (bn l4), .int (bn l5), v6], [], σ)) ((congrArg (fun w => bn l2 + w) bl_m1).trans (bn_add l2 (-1))) ?_
            refine bGo hA 6 15 (193, .goto (-177), 3, 112, 12, [], []) rfl rfl rfl ?_
            exact (((((h.2.1 c1).1 c2).2.2.2 c3).1 c14).2 c15).2
        · refine bGo hA 5 6 (148, .iinc 2 (1), 3, 87, 0, [2], [(1, 0)]) rfl rfl rfl ?_
          refine bEqC (fun v => A (87, [.ref 12, (bUnl v1), .int v, .int (bn l3), .int (bn l4), .int (bn l5), v6], [], σ)) ((congrArg (fun w => bn l2 + w) bl_1).trans (bn_add l2 1)) ?_
          refine bGo hA 5 7 (151, .aload_n 0, 1, 88, 0, [0], []) rfl rfl rfl ?_
          refine bGo hA 5 8 (152, .getfield 194, 3, 89, 0, [12, 66, 3, 117, 1, 0], []) rfl rfl rfl ?_
          refine ⟨rfl, ?_⟩
          refine bGo hA 5 9 (155, .iload_n 2, 1, 90, 0, [2], []) rfl rfl rfl ?_
          refine bGo hA 5 10 (156, .iload 5, 2, 91, 0, [5], []) rfl rfl rfl ?_
          refine bGo hA 5 11 (158, .iastore, 1, 92, 0, [], []) rfl rfl rfl ?_
          refine ⟨rfl, (bIxP (x := (l2 + 1)) (n := 64) ((((h.2.1 c1).1 c2).2.2.2 c3).2 c14).1 ((((h.2.1 c1).1 c2).2.2.2 c3).2 c14).2.1), by decide, ?_⟩
          refine bEqS (x := (l2 + 1)) ((((h.2.1 c1).1 c2).2.2.2 c3).2 c14).1 ?_
          refine bGo hA 5 12 (159, .aload_n 0, 1, 93, 0, [0], []) rfl rfl rfl ?_
          refine bGo hA 5 13 (160, .getfield 197, 3, 94, 0, [12, 67, 3, 118, 1, 0], []) rfl rfl rfl ?_
          refine ⟨rfl, ?_⟩
          refine bGo hA 5 14 (163, .iload_n 2, 1, 95, 0, [2], []) rfl rfl rfl ?_
          refine bGo hA 5 15 (164, .iconst (0), 1, 96, 0, [], [(0, 0)]) rfl rfl rfl ?_
          refine bEqI bl_0 ?_
          refine bGo hA 6 0 (165, .iastore, 1, 97, 0, [], []) rfl rfl rfl ?_
          refine ⟨rfl, (bIxP (x := (l2 + 1)) (n := 64) ((((h.2.1 c1).1 c2).2.2.2 c3).2 c14).1 ((((h.2.1 c1).1 c2).2.2.2 c3).2 c14).2.1), by decide, ?_⟩
          refine bEqS (x := (l2 + 1)) ((((h.2.1 c1).1 c2).2.2.2 c3).2 c14).1 ?_
          refine bGo hA 6 1 (166, .goto (27), 3, 98, 111, [], []) rfl rfl rfl ?_
          refine bGo hA 6 15 (193, .goto (-177), 3, 112, 12, [], []) rfl rfl rfl ?_
          exact ((((h.2.1 c1).1 c2).2.2.2 c3).2 c14).2.2
    · refine bGo hA 5 3 (141, .iload 5, 2, 84, 0, [5], []) rfl rfl rfl ?_
      refine bGo hA 5 4 (143, .bipush (-9), 2, 85, 0, [], [(-9, 0)]) rfl rfl rfl ?_
      refine bEqI bl_m9 ?_
      refine bGo hA 5 5 (145, .if_icmp .eq (24), 3, 86, 98, [], []) rfl rfl rfl ?_
      refine bB_eq (x := l5) (y := (-9)) h_l5 (by decide : bRg (-9)) (fun c21 => ?_) (fun c21 => ?_)
      · refine bGo hA 6 2 (169, .aload_n 0, 1, 99, 0, [0], []) rfl rfl rfl ?_
        refine bGo hA 6 3 (170, .getfield 140, 3, 100, 0, [12, 47, 3, 99, 1, 0], []) rfl rfl rfl ?_
        refine ⟨rfl, ?_⟩
        refine bGo hA 6 4 (173, .iload_n 3, 1, 101, 0, [3], []) rfl rfl rfl ?_
        refine bGo hA 6 5 (174, .iaload, 1, 102, 0, [], []) rfl rfl rfl ?_
        refine ⟨rfl, (bIxP (x := l3) (n := 4096) h_l3 h.1), ?_⟩
        refine bEqL (x := l3) h_l3 ?_
        refine bGo hA 6 6 (175, .bipush (-9), 2, 103, 0, [], [(-9, 0)]) rfl rfl rfl ?_
        refine bEqI bl_m9 ?_
        refine bGo hA 6 7 (177, .if_icmp .ne (13), 3, 104, 110, [], []) rfl rfl rfl ?_
        refine bB_eq (x := (bi σ 99 l3)) (y := (-9)) (bi_rg _ _ _) (by decide : bRg (-9)) (fun c22 => ?_) (fun c22 => ?_)
        · refine bGo hA 6 8 (180, .aload_n 0, 1, 105, 0, [0], []) rfl rfl rfl ?_
          refine bGo hA 6 9 (181, .iload_n 3, 1, 106, 0, [3], []) rfl rfl rfl ?_
          refine bGo hA 6 10 (182, .invokevirtual 425, 3, 107, 0, [0, 12, 251, 1], []) rfl rfl rfl ?_
          refine ⟨rfl, ?_⟩
          refine hC _ _ _ _ _ (bRn_e (fun r25 s23 q26 k24 => ?_)) ((((h.2.1 c1).2 c2).1 c21).1 c22)
          show A (107, [.ref 12, v1, .int (bn l2), .int (bn l3), .int (bn l4), .int (bn l5), v6], [.int (bn r25)], s23)
          refine bGo hA 6 11 (185, .ifCond .ne (5), 3, 108, 110, [], []) rfl rfl rfl ?_
          refine bB_eq0 (x := r25) q26 (fun c27 => ?_) (fun c27 => ?_)
          · refine bGo hA 6 12 (188, .iconst (0), 1, 109, 0, [], [(0, 0)]) rfl rfl rfl ?_
            refine bEqI bl_0 ?_
            refine bGo hA 6 13 (189, .ireturn, 1, 110, 0, [2], []) rfl rfl rfl ?_
            exact ⟨b01 (Or.inl rfl), (k24.1 c27)⟩
          · refine bGo hA 6 14 (190, .iinc 2 (-1), 3, 111, 0, [2], [(-1, 0)]) rfl rfl rfl ?_
            refine bEqC (fun v => A (111, [.ref 12, (bUnl v1), .int v, .int (bn l3), .int (bn l4), .int (bn l5), v6], [], s23)) ((congrArg (fun w => bn l2 + w) bl_m1).trans (bn_add l2 (-1))) ?_
            refine bGo hA 6 15 (193, .goto (-177), 3, 112, 12, [], []) rfl rfl rfl ?_
            exact (k24.2 c27).2
        · refine bGo hA 6 14 (190, .iinc 2 (-1), 3, 111, 0, [2], [(-1, 0)]) rfl rfl rfl ?_
          refine bEqC (fun v => A (111, [.ref 12, (bUnl v1), .int v, .int (bn l3), .int (bn l4), .int (bn l5), v6], [], σ)) ((congrArg (fun w => bn l2 + w) bl_m1).trans (bn_add l2 (-1))) ?_
          refine bGo hA 6 15 (193, .goto (-177), 3, 112, 12, [], []) rfl rfl rfl ?_
          exact ((((h.2.1 c1).2 c2).1 c21).2 c22).2
      · refine bGo hA 5 6 (148, .iinc 2 (1), 3, 87, 0, [2], [(1, 0)]) rfl rfl rfl ?_
        refine bEqC (fun v => A (87, [.ref 12, (bUnl v1), .int v, .int (bn l3), .int (bn l4), .int (bn l5), v6], [], σ)) ((congrArg (fun w => bn l2 + w) bl_1).trans (bn_add l2 1)) ?_
        refine bGo hA 5 7 (151, .aload_n 0, 1, 88, 0, [0], []) rfl rfl rfl ?_
        refine bGo hA 5 8 (152, .getfield 194, 3, 89, 0, [12, 66, 3, 117, 1, 0], []) rfl rfl rfl ?_
        refine ⟨rfl, ?_⟩
        refine bGo hA 5 9 (155, .iload_n 2, 1, 90, 0, [2], []) rfl rfl rfl ?_
        refine bGo hA 5 10 (156, .iload 5, 2, 91, 0, [5], []) rfl rfl rfl ?_
        refine bGo hA 5 11 (158, .iastore, 1, 92, 0, [], []) rfl rfl rfl ?_
        refine ⟨rfl, (bIxP (x := (l2 + 1)) (n := 64) (((h.2.1 c1).2 c2).2 c21).1 (((h.2.1 c1).2 c2).2 c21).2.1), by decide, ?_⟩
        refine bEqS (x := (l2 + 1)) (((h.2.1 c1).2 c2).2 c21).1 ?_
        refine bGo hA 5 12 (159, .aload_n 0, 1, 93, 0, [0], []) rfl rfl rfl ?_
        refine bGo hA 5 13 (160, .getfield 197, 3, 94, 0, [12, 67, 3, 118, 1, 0], []) rfl rfl rfl ?_
        refine ⟨rfl, ?_⟩
        refine bGo hA 5 14 (163, .iload_n 2, 1, 95, 0, [2], []) rfl rfl rfl ?_
        refine bGo hA 5 15 (164, .iconst (0), 1, 96, 0, [], [(0, 0)]) rfl rfl rfl ?_
        refine bEqI bl_0 ?_
        refine bGo hA 6 0 (165, .iastore, 1, 97, 0, [], []) rfl rfl rfl ?_
        refine ⟨rfl, (bIxP (x := (l2 + 1)) (n := 64) (((h.2.1 c1).2 c2).2 c21).1 (((h.2.1 c1).2 c2).2 c21).2.1), by decide, ?_⟩
        refine bEqS (x := (l2 + 1)) (((h.2.1 c1).2 c2).2 c21).1 ?_
        refine bGo hA 6 1 (166, .goto (27), 3, 98, 111, [], []) rfl rfl rfl ?_
        refine bGo hA 6 15 (193, .goto (-177), 3, 112, 12, [], []) rfl rfl rfl ?_
        exact (((h.2.1 c1).2 c2).2 c21).2.2
  · refine bGo hA 5 3 (141, .iload 5, 2, 84, 0, [5], []) rfl rfl rfl ?_
    refine bGo hA 5 4 (143, .bipush (-9), 2, 85, 0, [], [(-9, 0)]) rfl rfl rfl ?_
    refine bEqI bl_m9 ?_
    refine bGo hA 5 5 (145, .if_icmp .eq (24), 3, 86, 98, [], []) rfl rfl rfl ?_
    refine bB_eq (x := l5) (y := (-9)) h_l5 (by decide : bRg (-9)) (fun c28 => ?_) (fun c28 => ?_)
    · refine bGo hA 6 2 (169, .aload_n 0, 1, 99, 0, [0], []) rfl rfl rfl ?_
      refine bGo hA 6 3 (170, .getfield 140, 3, 100, 0, [12, 47, 3, 99, 1, 0], []) rfl rfl rfl ?_
      refine ⟨rfl, ?_⟩
      refine bGo hA 6 4 (173, .iload_n 3, 1, 101, 0, [3], []) rfl rfl rfl ?_
      refine bGo hA 6 5 (174, .iaload, 1, 102, 0, [], []) rfl rfl rfl ?_
      refine ⟨rfl, (bIxP (x := l3) (n := 4096) h_l3 h.1), ?_⟩
      refine bEqL (x := l3) h_l3 ?_
      refine bGo hA 6 6 (175, .bipush (-9), 2, 103, 0, [], [(-9, 0)]) rfl rfl rfl ?_
      refine bEqI bl_m9 ?_
      refine bGo hA 6 7 (177, .if_icmp .ne (13), 3, 104, 110, [], []) rfl rfl rfl ?_
      refine bB_eq (x := (bi σ 99 l3)) (y := (-9)) (bi_rg _ _ _) (by decide : bRg (-9)) (fun c29 => ?_) (fun c29 => ?_)
      · refine bGo hA 6 8 (180, .aload_n 0, 1, 105, 0, [0], []) rfl rfl rfl ?_
        refine bGo hA 6 9 (181, .iload_n 3, 1, 106, 0, [3], []) rfl rfl rfl ?_
        refine bGo hA 6 10 (182, .invokevirtual 425, 3, 107, 0, [0, 12, 251, 1], []) rfl rfl rfl ?_
        refine ⟨rfl, ?_⟩
        refine hC _ _ _ _ _ (bRn_e (fun r32 s30 q33 k31 => ?_)) (((h.2.2 c1).1 c28).1 c29)
        show A (107, [.ref 12, v1, .int (bn l2), .int (bn l3), .int (bn l4), .int (bn l5), v6], [.int (bn r32)], s30)
        refine bGo hA 6 11 (185, .ifCond .ne (5), 3, 108, 110, [], []) rfl rfl rfl ?_
        refine bB_eq0 (x := r32) q33 (fun c34 => ?_) (fun c34 => ?_)
        · refine bGo hA 6 12 (188, .iconst (0), 1, 109, 0, [], [(0, 0)]) rfl rfl rfl ?_
          refine bEqI bl_0 ?_
          refine bGo hA 6 13 (189, .ireturn, 1, 110, 0, [2], []) rfl rfl rfl ?_
          exact ⟨b01 (Or.inl rfl), (k31.1 c34)⟩
        · refine bGo hA 6 14 (190, .iinc 2 (-1), 3, 111, 0, [2], [(-1, 0)]) rfl rfl rfl ?_
          refine bEqC (fun v => A (111, [.ref 12, (bUnl v1), .int v, .int (bn l3), .int (bn l4), .int (bn l5), v6], [], s30)) ((congrArg (fun w => bn l2 + w) bl_m1).trans (bn_add l2 (-1))) ?_
          refine bGo hA 6 15 (193, .goto (-177), 3, 112, 12, [], []) rfl rfl rfl ?_
          exact (k31.2 c34).2
      · refine bGo hA 6 14 (190, .iinc 2 (-1), 3, 111, 0, [2], [(-1, 0)]) rfl rfl rfl ?_
        refine bEqC (fun v => A (111, [.ref 12, (bUnl v1), .int v, .int (bn l3), .int (bn l4), .int (bn l5), v6], [], σ)) ((congrArg (fun w => bn l2 + w) bl_m1).trans (bn_add l2 (-1))) ?_
        refine bGo hA 6 15 (193, .goto (-177), 3, 112, 12, [], []) rfl rfl rfl ?_
        exact (((h.2.2 c1).1 c28).2 c29).2
    · refine bGo hA 5 6 (148, .iinc 2 (1), 3, 87, 0, [2], [(1, 0)]) rfl rfl rfl ?_
      refine bEqC (fun v => A (87, [.ref 12, (bUnl v1), .int v, .int (bn l3), .int (bn l4), .int (bn l5), v6], [], σ)) ((congrArg (fun w => bn l2 + w) bl_1).trans (bn_add l2 1)) ?_
      refine bGo hA 5 7 (151, .aload_n 0, 1, 88, 0, [0], []) rfl rfl rfl ?_
      refine bGo hA 5 8 (152, .getfield 194, 3, 89, 0, [12, 66, 3, 117, 1, 0], []) rfl rfl rfl ?_
      refine ⟨rfl, ?_⟩
      refine bGo hA 5 9 (155, .iload_n 2, 1, 90, 0, [2], []) rfl rfl rfl ?_
      refine bGo hA 5 10 (156, .iload 5, 2, 91, 0, [5], []) rfl rfl rfl ?_
      refine bGo hA 5 11 (158, .iastore, 1, 92, 0, [], []) rfl rfl rfl ?_
      refine ⟨rfl, (bIxP (x := (l2 + 1)) (n := 64) ((h.2.2 c1).2 c28).1 ((h.2.2 c1).2 c28).2.1), by decide, ?_⟩
      refine bEqS (x := (l2 + 1)) ((h.2.2 c1).2 c28).1 ?_
      refine bGo hA 5 12 (159, .aload_n 0, 1, 93, 0, [0], []) rfl rfl rfl ?_
      refine bGo hA 5 13 (160, .getfield 197, 3, 94, 0, [12, 67, 3, 118, 1, 0], []) rfl rfl rfl ?_
      refine ⟨rfl, ?_⟩
      refine bGo hA 5 14 (163, .iload_n 2, 1, 95, 0, [2], []) rfl rfl rfl ?_
      refine bGo hA 5 15 (164, .iconst (0), 1, 96, 0, [], [(0, 0)]) rfl rfl rfl ?_
      refine bEqI bl_0 ?_
      refine bGo hA 6 0 (165, .iastore, 1, 97, 0, [], []) rfl rfl rfl ?_
      refine ⟨rfl, (bIxP (x := (l2 + 1)) (n := 64) ((h.2.2 c1).2 c28).1 ((h.2.2 c1).2 c28).2.1), by decide, ?_⟩
      refine bEqS (x := (l2 + 1)) ((h.2.2 c1).2 c28).1 ?_
      refine bGo hA 6 1 (166, .goto (27), 3, 98, 111, [], []) rfl rfl rfl ?_
      refine bGo hA 6 15 (193, .goto (-177), 3, 112, 12, [], []) rfl rfl rfl ?_
      exact ((h.2.2 c1).2 c28).2.2

theorem sq251_0 {lvl : Nat} {C : bCall} {Q : bPost} {A : bPt → Prop} (hC : bMono C) (hA : bClosed lvl bm251 C Q A) {x1 : Int} {σ : bSt}  (h_x1 : bRg x1)
  (h : (0 ≤ x1 ∧ (C 245 [.ref 12, .int (bn x1)] σ (bRn (fun r3 s1 => (C 246 [.ref 12, .int (bn x1), .int (bn r3)] s1 (bRn (fun r7 s5 => ((r7 = (-1) → (((bi s5 12 49) = 120 → Q (.inl (some (.int (bn 0)))) s5) ∧ (¬ (bi s5 12 49) = 120 → A (22, [.ref 12, .int (bn x1), .int (bn (x1 / 256)), .int (bn r3), .int (bn r7), .float 0], [], s5)))) ∧ (¬ r7 = (-1) → A (22, [.ref 12, .int (bn x1), .int (bn (x1 / 256)), .int (bn r3), .int (bn r7), .float 0], [], s5))))))))))) : A (0, [.ref 12, .int (bn x1), .float 0, .float 0, .float 0, .float 0], [], σ) := by
  refine bGo hA 0 0 (0, .iload_n 1, 1, 1, 0, [1], []) rfl rfl rfl ?_
  refine bGo hA 0 1 (1, .sipush (256), 3, 2, 0, [], [(256, 0)]) rfl rfl rfl ?_
  refine bEqI bl_256 ?_
  refine bGo hA 0 2 (4, .idiv, 1, 3, 0, [], []) rfl rfl rfl ?_
  refine ⟨by decide, ?_⟩
  refine bEqI (bn_div h_x1 (by decide) h.1) ?_
  refine bGo hA 0 3 (5, .istore_n 2, 1, 4, 0, [2], []) rfl rfl rfl ?_
  refine bGo hA 0 4 (6, .aload_n 0, 1, 5, 0, [0], []) rfl rfl rfl ?_
  refine bGo hA 0 5 (7, .iload_n 1, 1, 6, 0, [1], []) rfl rfl rfl ?_
  refine bGo hA 0 6 (8, .invokevirtual 413, 3, 7, 0, [0, 12, 245, 1], []) rfl rfl rfl ?_
  refine ⟨rfl, ?_⟩
  refine hC _ _ _ _ _ (bRn_e (fun r3 s1 q4 k2 => ?_)) h.2
  show A (7, [.ref 12, .int (bn x1), .int (bn (x1 / 256)), .float 0, .float 0, .float 0], [.int (bn r3)], s1)
  refine bGo hA 0 7 (11, .istore_n 3, 1, 8, 0, [3], []) rfl rfl rfl ?_
  refine bGo hA 0 8 (12, .aload_n 0, 1, 9, 0, [0], []) rfl rfl rfl ?_
  refine bGo hA 0 9 (13, .iload_n 1, 1, 10, 0, [1], []) rfl rfl rfl ?_
  refine bGo hA 0 10 (14, .iload_n 3, 1, 11, 0, [3], []) rfl rfl rfl ?_
  refine bGo hA 0 11 (15, .invokevirtual 416, 3, 12, 0, [0, 12, 246, 2], []) rfl rfl rfl ?_
  refine ⟨rfl, ?_⟩
  refine hC _ _ _ _ _ (bRn_e (fun r7 s5 q8 k6 => ?_)) k2
  show A (12, [.ref 12, .int (bn x1), .int (bn (x1 / 256)), .int (bn r3), .float 0, .float 0], [.int (bn r7)], s5)
  refine bGo hA 0 12 (18, .istore 4, 2, 13, 0, [4], []) rfl rfl rfl ?_
  refine bGo hA 0 13 (20, .iload 4, 2, 14, 0, [4], []) rfl rfl rfl ?_
  refine bGo hA 0 14 (22, .iconst (-1), 1, 15, 0, [], [(-1, 0)]) rfl rfl rfl ?_
  refine bEqI bl_m1 ?_
  refine bGo hA 0 15 (23, .if_icmp .ne (14), 3, 16, 22, [], []) rfl rfl rfl ?_
  refine bB_eq (x := r7) (y := (-1)) q8 (by decide : bRg (-1)) (fun c9 => ?_) (fun c9 => ?_)
  · refine bGo hA 1 0 (26, .aload_n 0, 1, 17, 0, [0], []) rfl rfl rfl ?_
    refine bGo hA 1 1 (27, .getfield 410, 3, 18, 0, [12, 49, 0, 0, 0, 0], []) rfl rfl rfl ?_
    refine ⟨rfl, ?_⟩
    refine bEqI (bn_bi s5 12 49) ?_
    refine bGo hA 1 2 (30, .bipush (120), 2, 19, 0, [], [(120, 0)]) rfl rfl rfl ?_
    refine bEqI bl_120 ?_
    refine bGo hA 1 3 (32, .if_icmp .ne (5), 3, 20, 22, [], []) rfl rfl rfl ?_
    refine bB_eq (x := (bi s5 12 49)) (y := 120) (bi_rg _ _ _) (by decide : bRg 120) (fun c10 => ?_) (fun c10 => ?_)
    · refine bGo hA 1 4 (35, .iconst (0), 1, 21, 0, [], [(0, 0)]) rfl rfl rfl ?_
      refine bEqI bl_0 ?_
      refine bGo hA 1 5 (36, .ireturn, 1, 22, 0, [2], []) rfl rfl rfl ?_
      exact ⟨b01 (Or.inl rfl), ((k6.1 c9).1 c10)⟩
    · exact ((k6.1 c9).2 c10)
  · exact (k6.2 c9)

theorem sq251_22 {lvl : Nat} {C : bCall} {Q : bPost} {A : bPt → Prop} (hC : bMono C) (hA : bClosed lvl bm251 C Q A) {l1 : Int} {l2 : Int} {l3 : Int} {l4 : Int} {v5 : Value} {σ : bSt}  (h_l1 : bRg l1) (h_l2 : bRg l2) (h_l3 : bRg l3) (h_l4 : bRg l4)
  (h : ((l4 = (-1) → (bRg ((bi σ 12 49) + 1) ∧ ((0 ≤ l2 ∧ l2 < 16) ∧ ((0 ≤ (bi σ 12 49) ∧ (bi σ 12 49) < 120) ∧ ((0 ≤ l1 ∧ l1 < 4096) ∧ A (73, [.ref 12, .int (bn l1), .int (bn l2), .int (bn l3), .int (bn (bi σ 12 49)), .int (bn 0)], [], (bw (bw (bw (bw (bw (bw σ 12 49 ((bi σ 12 49) + 1)) 101 (bi σ 12 49) (bi σ 76 l2)) 102 (bi σ 12 49) (bi σ 97 l1)) 103 (bi σ 12 49) (bi σ 98 l1)) 104 (bi σ 12 49) (bi σ 75 l2)) 105 (bi σ 12 49) l3))))))) ∧ (¬ l4 = (-1) → ((0 ≤ l4 ∧ l4 < 120) ∧ (((bi σ 109 l4) = 0 → ((0 ≤ l1 ∧ l1 < 4096) ∧ Q (.inl (some (.int (bn 1)))) (bw (bw (bw σ 107 l4 l2) 109 l4 1) 99 l1 l4))) ∧ (¬ (bi σ 109 l4) = 0 → ((0 ≤ l1 ∧ l1 < 4096) ∧ Q (.inl (some (.int (bn 1)))) (bw (bw (bw σ 107 l4 (bi σ 107 l4)) 109 l4 1) 99 l1 l4)))))))) : A (22, [.ref 12, .int (bn l1), .int (bn l2), .int (bn l3), .int (bn l4), v5], [], σ) := by
  refine bGo hA 1 6 (37, .iload 4, 2, 23, 0, [4], []) rfl rfl rfl ?_
  refine bGo hA 1 7 (39, .iconst (-1), 1, 24, 0, [], [(-1, 0)]) rfl rfl rfl ?_
  refine bEqI bl_m1 ?_
  refine bGo hA 1 8 (40, .if_icmp .ne (138), 3, 25, 105, [], []) rfl rfl rfl ?_
  refine bB_eq (x := l4) (y := (-1)) h_l4 (by decide : bRg (-1)) (fun c1 => ?_) (fun c1 => ?_)
  · refine bGo hA 1 9 (43, .aload_n 0, 1, 26, 0, [0], []) rfl rfl rfl ?_
    refine bGo hA 1 10 (44, .getfield 410, 3, 27, 0, [12, 49, 0, 0, 0, 0], []) rfl rfl rfl ?_
    refine ⟨rfl, ?_⟩
    refine bEqI (bn_bi σ 12 49) ?_
    refine bGo hA 1 11 (47, .istore 4, 2, 28, 0, [4], []) rfl rfl rfl ?_
    refine bGo hA 1 12 (49, .aload_n 0, 1, 29, 0, [0], []) rfl rfl rfl ?_
    refine bGo hA 1 13 (50, .dup, 1, 30, 0, [], []) rfl rfl rfl ?_
    refine bGo hA 1 14 (51, .getfield 410, 3, 31, 0, [12, 49, 0, 0, 0, 0], []) rfl rfl rfl ?_
    refine ⟨rfl, ?_⟩
    refine bEqI (bn_bi σ 12 49) ?_
    refine bGo hA 1 15 (54, .iconst (1), 1, 32, 0, [], [(1, 0)]) rfl rfl rfl ?_
    refine bEqI bl_1 ?_
    refine bGo hA 2 0 (55, .iadd, 1, 33, 0, [], []) rfl rfl rfl ?_
    refine bEqI (bn_add (bi σ 12 49) 1) ?_
    refine bGo hA 2 1 (56, .putfield 410, 3, 34, 0, [12, 49, 0, 0, 0, 0], []) rfl rfl rfl ?_
    refine ⟨rfl, ?_⟩
    refine bGo hA 2 2 (59, .aload_n 0, 1, 35, 0, [0], []) rfl rfl rfl ?_
    refine bGo hA 2 3 (60, .getfield 146, 3, 36, 0, [12, 50, 3, 101, 1, 0], []) rfl rfl rfl ?_
    refine ⟨rfl, ?_⟩
    refine bGo hA 2 4 (63, .iload 4, 2, 37, 0, [4], []) rfl rfl rfl ?_
    refine bGo hA 2 5 (65, .aload_n 0, 1, 38, 0, [0], []) rfl rfl rfl ?_
    refine bGo hA 2 6 (66, .getfield 71, 3, 39, 0, [12, 24, 3, 76, 1, 0], []) rfl rfl rfl ?_
    refine ⟨rfl, ?_⟩
    refine bGo hA 2 7 (69, .iload_n 2, 1, 40, 0, [2], []) rfl rfl rfl ?_
    refine bGo hA 2 8 (70, .iaload, 1, 41, 0, [], []) rfl rfl rfl ?_
    refine ⟨rfl, (bIxP (x := l2) (n := 16) h_l2 (h.1 c1).2.1), ?_⟩
    refine bEqL (x := l2) h_l2 ?_
    refine bEqI (congrArg bn (show bi (bw σ 12 49 ((bi σ 12 49) + 1)) 76 l2 = (bi σ 76 l2) from (bi_ne (by decide)))) ?_
    refine bGo hA 2 9 (71, .iastore, 1, 42, 0, [], []) rfl rfl rfl ?_
    refine ⟨rfl, (bIxP (x := (bi σ 12 49)) (n := 120) (bi_rg _ _ _) (h.1 c1).2.2.1), by decide, ?_⟩
    refine bEqS (x := (bi σ 12 49)) (bi_rg _ _ _) ?_
    refine bGo hA 2 10 (72, .aload_n 0, 1, 43, 0, [0], []) rfl rfl rfl ?_
    refine bGo hA 2 11 (73, .getfield 149, 3, 44, 0, [12, 51, 3, 102, 1, 0], []) rfl rfl rfl ?_
    refine ⟨rfl, ?_⟩
    refine bGo hA 2 12 (76, .iload 4, 2, 45, 0, [4], []) rfl rfl rfl ?_
    refine bGo hA 2 13 (78, .aload_n 0, 1, 46, 0, [0], []) rfl rfl rfl ?_
    refine bGo hA 2 14 (79, .getfield 134, 3, 47, 0, [12, 45, 3, 97, 1, 0], []) rfl rfl rfl ?_
    refine ⟨rfl, ?_⟩
    refine bGo hA 2 15 (82, .iload_n 1, 1, 48, 0, [1], []) rfl rfl rfl ?_
    refine bGo hA 3 0 (83, .iaload, 1, 49, 0, [], []) rfl rfl rfl ?_
    refine ⟨rfl, (bIxP (x := l1) (n := 4096) h_l1 (h.1 c1).2.2.2.1), ?_⟩
    refine bEqL (x := l1) h_l1 ?_
    refine bEqI (congrArg bn (show bi (bw (bw σ 12 49 ((bi σ 12 49) + 1)) 101 (bi σ 12 49) (bi σ 76 l2)) 97 l1 = (bi σ 97 l1) from ((bi_ne (by decide)).trans (bi_ne (by decide))))) ?_
    refine bGo hA 3 1 (84, .iastore, 1, 50, 0, [], []) rfl rfl rfl ?_
    refine ⟨rfl, (bIxP (x := (bi σ 12 49)) (n := 120) (bi_rg _ _ _) (h.1 c1).2.2.1), by decide, ?_⟩
    refine bEqS (x := (bi σ 12 49)) (bi_rg _ _ _) ?_
    refine bGo hA 3 2 (85, .aload_n 0, 1, 51, 0, [0], []) rfl rfl rfl ?_
    refine bGo hA 3 3 (86, .getfield 152, 3, 52, 0, [12, 52, 3, 103, 1, 0], []) rfl rfl rfl ?_
    refine ⟨rfl, ?_⟩
    refine bGo hA 3 4 (89, .iload 4, 2, 53, 0, [4], []) rfl rfl rfl ?_
    refine bGo hA 3 5 (91, .aload_n 0, 1, 54, 0, [0], []) rfl rfl rfl ?_
    refine bGo hA 3 6 (92, .getfield 137, 3, 55, 0, [12, 46, 3, 98, 1, 0], []) rfl rfl rfl ?_
    refine ⟨rfl, ?_⟩
    refine bGo hA 3 7 (95, .iload_n 1, 1, 56, 0, [1], []) rfl rfl rfl ?_
    refine bGo hA 3 8 (96, .iaload, 1, 57, 0, [], []) rfl rfl rfl ?_
    refine ⟨rfl, (bIxP (x := l1) (n := 4096) h_l1 (h.1 c1).2.2.2.1), ?_⟩
    refine bEqL (x := l1) h_l1 ?_
    refine bEqI (congrArg bn (show bi (bw (bw (bw σ 12 49 ((bi σ 12 49) + 1)) 101 (bi σ 12 49) (bi σ 76 l2)) 102 (bi σ 12 49) (bi σ 97 l1)) 98 l1 = (bi σ 98 l1) from (((bi_ne (by decide)).trans (bi_ne (by decide))).trans (bi_ne (by decide))))) ?_
    refine bGo hA 3 9 (97, .iastore, 1, 58, 0, [], []) rfl rfl rfl ?_
    refine ⟨rfl, (bIxP (x := (bi σ 12 49)) (n := 120) (bi_rg _ _ _) (h.1 c1).2.2.1), by decide, ?_⟩
    refine bEqS (x := (bi σ 12 49)) (bi_rg _ _ _) ?_
    refine bGo hA 3 10 (98, .aload_n 0, 1, 59, 0, [0], []) rfl rfl rfl ?_
    refine bGo hA 3 11 (99, .getfield 155, 3, 60, 0, [12, 53, 3, 104, 1, 0], []) rfl rfl rfl ?_
    refine ⟨rfl, ?_⟩
    refine bGo hA 3 12 (102, .iload 4, 2, 61, 0, [4], []) rfl rfl rfl ?_
    refine bGo hA 3 13 (104, .aload_n 0, 1, 62, 0, [0], []) rfl rfl rfl ?_
    refine bGo hA 3 14 (105, .getfield 68, 3, 63, 0, [12, 23, 3, 75, 1, 0], []) rfl rfl rfl ?_
    refine ⟨rfl, ?_⟩
    refine bGo hA 3 15 (108, .iload_n 2, 1, 64, 0, [2], []) rfl rfl rfl ?_
    refine bGo hA 4 0 (109, .iaload, 1, 65, 0, [], []) rfl rfl rfl ?_
    refine ⟨rfl, (bIxP (x := l2) (n := 16) h_l2 (h.1 c1).2.1), ?_⟩
    refine bEqL (x := l2) h_l2 ?_
    refine bEqI (congrArg bn (show bi (bw (bw (bw (bw σ 12 49 ((bi σ 12 49) + 1)) 101 (bi σ 12 49) (bi σ 76 l2)) 102 (bi σ 12 49) (bi σ 97 l1)) 103 (bi σ 12 49) (bi σ 98 l1)) 75 l2 = (bi σ 75 l2) from ((((bi_ne (by decide)).trans (bi_ne (by decide))).trans (bi_ne (by decide))).trans (bi_ne (by decide))))) ?_
    refine bGo hA 4 1 (110, .iastore, 1, 66, 0, [], []) rfl rfl rfl ?_
    refine ⟨rfl, (bIxP (x := (bi σ 12 49)) (n := 120) (bi_rg _ _ _) (h.1 c1).2.2.1), by decide, ?_⟩
    refine bEqS (x := (bi σ 12 49)) (bi_rg _ _ _) ?_
    refine bGo hA 4 2 (111, .aload_n 0, 1, 67, 0, [0], []) rfl rfl rfl ?_
    refine bGo hA 4 3 (112, .getfield 158, 3, 68, 0, [12, 54, 3, 105, 1, 0], []) rfl rfl rfl ?_
    refine ⟨rfl, ?_⟩
    refine bGo hA 4 4 (115, .iload 4, 2, 69, 0, [4], []) rfl rfl rfl ?_
    refine bGo hA 4 5 (117, .iload_n 3, 1, 70, 0, [3], []) rfl rfl rfl ?_
    refine bGo hA 4 6 (118, .iastore, 1, 71, 0, [], []) rfl rfl rfl ?_
    refine ⟨rfl, (bIxP (x := (bi σ 12 49)) (n := 120) (bi_rg _ _ _) (h.1 c1).2.2.1), by decide, ?_⟩
    refine bEqS (x := (bi σ 12 49)) (bi_rg _ _ _) ?_
    refine bGo hA 4 7 (119, .iconst (0), 1, 72, 0, [], [(0, 0)]) rfl rfl rfl ?_
    refine bEqI bl_0 ?_
    refine bGo hA 4 8 (120, .istore 5, 2, 73, 0, [5], []) rfl rfl rfl ?_
    exact (h.1 c1).2.2.2.2
  · refine bGo hA 6 9 (178, .aload_n 0, 1, 106, 0, [0], []) rfl rfl rfl ?_
    refine bGo hA 6 10 (179, .getfield 164, 3, 107, 0, [12, 56, 3, 107, 1, 0], []) rfl rfl rfl ?_
    refine ⟨rfl, ?_⟩
    refine bGo hA 6 11 (182, .iload 4, 2, 108, 0, [4], []) rfl rfl rfl ?_
    refine bGo hA 6 12 (184, .aload_n 0, 1, 109, 0, [0], []) rfl rfl rfl ?_
    refine bGo hA 6 13 (185, .getfield 170, 3, 110, 0, [12, 58, 3, 109, 1, 0], []) rfl rfl rfl ?_
    refine ⟨rfl, ?_⟩
    refine bGo hA 6 14 (188, .iload 4, 2, 111, 0, [4], []) rfl rfl rfl ?_
    refine bGo hA 6 15 (190, .baload, 1, 112, 0, [], []) rfl rfl rfl ?_
    refine ⟨rfl, (bIxP (x := l4) (n := 120) h_l4 (h.2 c1).1), ?_⟩
    refine bEqL (x := l4) h_l4 ?_
    refine bGo hA 7 0 (191, .ifCond .eq (13), 3, 113, 118, [], []) rfl rfl rfl ?_
    refine bB_eq0 (x := (bi σ 109 l4)) (bi_rg _ _ _) (fun c2 => ?_) (fun c2 => ?_)
    · refine bGo hA 7 6 (204, .iload_n 2, 1, 119, 0, [2], []) rfl rfl rfl ?_
      refine bGo hA 7 7 (205, .iastore, 1, 120, 0, [], []) rfl rfl rfl ?_
      refine ⟨rfl, (bIxP (x := l4) (n := 120) h_l4 (h.2 c1).1), by decide, ?_⟩
      refine bEqS (x := l4) h_l4 ?_
      refine bGo hA 7 8 (206, .aload_n 0, 1, 121, 0, [0], []) rfl rfl rfl ?_
      refine bGo hA 7 9 (207, .getfield 170, 3, 122, 0, [12, 58, 3, 109, 1, 0], []) rfl rfl rfl ?_
      refine ⟨rfl, ?_⟩
      refine bGo hA 7 10 (210, .iload 4, 2, 123, 0, [4], []) rfl rfl rfl ?_
      refine bGo hA 7 11 (212, .iconst (1), 1, 124, 0, [], [(1, 0)]) rfl rfl rfl ?_
      refine bEqI bl_1 ?_
      refine bGo hA 7 12 (213, .bastore, 1, 125, 0, [], []) rfl rfl rfl ?_
      refine ⟨rfl, (bIxP (x := l4) (n := 120) h_l4 (h.2 c1).1), by decide, b01 (Or.inr rfl), ?_⟩
      refine bEqS (x := l4) h_l4 ?_
      refine bGo hA 7 13 (214, .aload_n 0, 1, 126, 0, [0], []) rfl rfl rfl ?_
      refine bGo hA 7 14 (215, .getfield 140, 3, 127, 0, [12, 47, 3, 99, 1, 0], []) rfl rfl rfl ?_
      refine ⟨rfl, ?_⟩
      refine bGo hA 7 15 (218, .iload_n 1, 1, 128, 0, [1], []) rfl rfl rfl ?_
      refine bGo hA 8 0 (219, .iload 4, 2, 129, 0, [4], []) rfl rfl rfl ?_
      refine bGo hA 8 1 (221, .iastore, 1, 130, 0, [], []) rfl rfl rfl ?_
      refine ⟨rfl, (bIxP (x := l1) (n := 4096) h_l1 ((h.2 c1).2.1 c2).1), by decide, ?_⟩
      refine bEqS (x := l1) h_l1 ?_
      refine bGo hA 8 2 (222, .iconst (1), 1, 131, 0, [], [(1, 0)]) rfl rfl rfl ?_
      refine bEqI bl_1 ?_
      refine bGo hA 8 3 (223, .ireturn, 1, 0, 0, [2], []) rfl rfl rfl ?_
      exact ⟨b01 (Or.inr rfl), ((h.2 c1).2.1 c2).2⟩
    · refine bGo hA 7 1 (194, .aload_n 0, 1, 114, 0, [0], []) rfl rfl rfl ?_
      refine bGo hA 7 2 (195, .getfield 164, 3, 115, 0, [12, 56, 3, 107, 1, 0], []) rfl rfl rfl ?_
      refine ⟨rfl, ?_⟩
      refine bGo hA 7 3 (198, .iload 4, 2, 116, 0, [4], []) rfl rfl rfl ?_
      refine bGo hA 7 4 (200, .iaload, 1, 117, 0, [], []) rfl rfl rfl ?_
      refine ⟨rfl, (bIxP (x := l4) (n := 120) h_l4 (h.2 c1).1), ?_⟩
      refine bEqL (x := l4) h_l4 ?_
      refine bGo hA 7 5 (201, .goto (4), 3, 118, 119, [], []) rfl rfl rfl ?_
      refine bGo hA 7 7 (205, .iastore, 1, 120, 0, [], []) rfl rfl rfl ?_
      refine ⟨rfl, (bIxP (x := l4) (n := 120) h_l4 (h.2 c1).1), by decide, ?_⟩
      refine bEqS (x := l4) h_l4 ?_
      refine bGo hA 7 8 (206, .aload_n 0, 1, 121, 0, [0], []) rfl rfl rfl ?_
      refine bGo hA 7 9 (207, .getfield 170, 3, 122, 0, [12, 58, 3, 109, 1, 0], []) rfl rfl rfl ?_
      refine ⟨rfl, ?_⟩
      refine bGo hA 7 10 (210, .iload 4, 2, 123, 0, [4], []) rfl rfl rfl ?_
      refine bGo hA 7 11 (212, .iconst (1), 1, 124, 0, [], [(1, 0)]) rfl rfl rfl ?_
      refine bEqI bl_1 ?_
      refine bGo hA 7 12 (213, .bastore, 1, 125, 0, [], []) rfl rfl rfl ?_
      refine ⟨rfl, (bIxP (x := l4) (n := 120) h_l4 (h.2 c1).1), by decide, b01 (Or.inr rfl), ?_⟩
      refine bEqS (x := l4) h_l4 ?_
      refine bGo hA 7 13 (214, .aload_n 0, 1, 126, 0, [0], []) rfl rfl rfl ?_
      refine bGo hA 7 14 (215, .getfield 140, 3, 127, 0, [12, 47, 3, 99, 1, 0], []) rfl rfl rfl ?_
      refine ⟨rfl, ?_⟩
      refine bGo hA 7 15 (218, .iload_n 1, 1, 128, 0, [1], []) rfl rfl rfl ?_
      refine bGo hA 8 0 (219, .iload 4, 2, 129, 0, [4], []) rfl rfl rfl ?_
      refine bGo hA 8 1 (221, .iastore, 1, 130, 0, [], []) rfl rfl rfl ?_
      refine ⟨rfl, (bIxP (x := l1) (n := 4096) h_l1 ((h.2 c1).2.2 c2).1), by decide, ?_⟩
      refine bEqS (x := l1) h_l1 ?_
      refine bGo hA 8 2 (222, .iconst (1), 1, 131, 0, [], [(1, 0)]) rfl rfl rfl ?_
      refine bEqI bl_1 ?_
      refine bGo hA 8 3 (223, .ireturn, 1, 0, 0, [2], []) rfl rfl rfl ?_
      exact ⟨b01 (Or.inr rfl), ((h.2 c1).2.2 c2).2⟩

theorem sq251_73 {lvl : Nat} {C : bCall} {Q : bPost} {A : bPt → Prop} (hC : bMono C) (hA : bClosed lvl bm251 C Q A) {l1 : Int} {l2 : Int} {l3 : Int} {l4 : Int} {l5 : Int} {σ : bSt}  (h_l1 : bRg l1) (h_l2 : bRg l2) (h_l3 : bRg l3) (h_l4 : bRg l4) (h_l5 : bRg l5)
  (h : ((l5 < l3 → (bRg (40 * l4) ∧ (bRg ((40 * l4) + l5) ∧ ((0 ≤ l5 ∧ l5 < 64) ∧ ((0 ≤ ((40 * l4) + l5) ∧ ((40 * l4) + l5) < 4800) ∧ (bRg (l5 + 1) ∧ A (73, [.ref 12, .int (bn l1), .int (bn l2), .int (bn l3), .int (bn l4), .int (bn (l5 + 1))], [], (bw σ 106 ((40 * l4) + l5) (bi σ 116 l5))))))))) ∧ (¬ l5 < l3 → ((0 ≤ l4 ∧ l4 < 120) ∧ ((0 ≤ l1 ∧ l1 < 4096) ∧ Q (.inl (some (.int (bn 1)))) (bw (bw (bw (bw (bw (bw σ 110 l4 0) 111 l4 0) 109 l4 0) 107 l4 l2) 109 l4 1) 99 l1 l4)))))) : A (73, [.ref 12, .int (bn l1), .int (bn l2), .int (bn l3), .int (bn l4), .int (bn l5)], [], σ) := by
  refine bGo hA 4 9 (122, .iload 5, 2, 74, 0, [5], []) rfl rfl rfl ?_
  refine bGo hA 4 10 (124, .iload_n 3, 1, 75, 0, [3], []) rfl rfl rfl ?_
  refine bGo hA 4 11 (125, .if_icmp .ge (29), 3, 76, 90, [], []) rfl rfl rfl ?_
  refine bB_lt (x := l5) (y := l3) h_l5 h_l3 (fun c1 => ?_) (fun c1 => ?_)
  · refine bGo hA 4 12 (128, .aload_n 0, 1, 77, 0, [0], []) rfl rfl rfl ?_
    refine bGo hA 4 13 (129, .getfield 161, 3, 78, 0, [12, 55, 3, 106, 1, 0], []) rfl rfl rfl ?_
    refine ⟨rfl, ?_⟩
    refine bGo hA 4 14 (132, .bipush (40), 2, 79, 0, [], [(40, 0)]) rfl rfl rfl ?_
    refine bEqI bl_40 ?_
    refine bGo hA 4 15 (134, .iload 4, 2, 80, 0, [4], []) rfl rfl rfl ?_
    refine bGo hA 5 0 (136, .imul, 1, 81, 0, [], []) rfl rfl rfl ?_
    refine bEqI (bn_mul 40 l4) ?_
    refine bGo hA 5 1 (137, .iload 5, 2, 82, 0, [5], []) rfl rfl rfl ?_
    refine bGo hA 5 2 (139, .iadd, 1, 83, 0, [], []) rfl rfl rfl ?_
    refine bEqI (bn_add (40 * l4) l5) ?_
    refine bGo hA 5 3 (140, .aload_n 0, 1, 84, 0, [0], []) rfl rfl rfl ?_
    refine bGo hA 5 4 (141, .getfield 191, 3, 85, 0, [12, 65, 3, 116, 1, 0], []) rfl rfl rfl ?_
    refine ⟨rfl, ?_⟩
    refine bGo hA 5 5 (144, .iload 5, 2, 86, 0, [5], []) rfl rfl rfl ?_
    refine bGo hA 5 6 (146, .iaload, 1, 87, 0, [], []) rfl rfl rfl ?_
    refine ⟨rfl, (bIxP (x := l5) (n := 64) h_l5 (h.1 c1).2.2.1), ?_⟩
    refine bEqL (x := l5) h_l5 ?_
    refine bGo hA 5 7 (147, .iastore, 1, 88, 0, [], []) rfl rfl rfl ?_
    refine ⟨rfl, (bIxP (x := ((40 * l4) + l5)) (n := 4800) (h.1 c1).2.1 (h.1 c1).2.2.2.1), by decide, ?_⟩
    refine bEqS (x := ((40 * l4) + l5)) (h.1 c1).2.1 ?_
    refine bGo hA 5 8 (148, .iinc 5 (1), 3, 89, 0, [5], [(1, 0)]) rfl rfl rfl ?_
    refine bEqC (fun v => A (89, [.ref 12, .int (bn l1), .int (bn l2), .int (bn l3), .int (bn l4), .int v], [], (bw σ 106 ((40 * l4) + l5) (bi σ 116 l5)))) ((congrArg (fun w => bn l5 + w) bl_1).trans (bn_add l5 1)) ?_
    refine bGo hA 5 9 (151, .goto (-29), 3, 90, 73, [], []) rfl rfl rfl ?_
    exact (h.1 c1).2.2.2.2.2
  · refine bGo hA 5 10 (154, .aload_n 0, 1, 91, 0, [0], []) rfl rfl rfl ?_
    refine bGo hA 5 11 (155, .getfield 173, 3, 92, 0, [12, 59, 3, 110, 1, 0], []) rfl rfl rfl ?_
    refine ⟨rfl, ?_⟩
    refine bGo hA 5 12 (158, .iload 4, 2, 93, 0, [4], []) rfl rfl rfl ?_
    refine bGo hA 5 13 (160, .iconst (0), 1, 94, 0, [], [(0, 0)]) rfl rfl rfl ?_
    refine bEqI bl_0 ?_
    refine bGo hA 5 14 (161, .bastore, 1, 95, 0, [], []) rfl rfl rfl ?_
    refine ⟨rfl, (bIxP (x := l4) (n := 120) h_l4 (h.2 c1).1), by decide, b01 (Or.inl rfl), ?_⟩
    refine bEqS (x := l4) h_l4 ?_
    refine bGo hA 5 15 (162, .aload_n 0, 1, 96, 0, [0], []) rfl rfl rfl ?_
    refine bGo hA 6 0 (163, .getfield 176, 3, 97, 0, [12, 60, 3, 111, 1, 0], []) rfl rfl rfl ?_
    refine ⟨rfl, ?_⟩
    refine bGo hA 6 1 (166, .iload 4, 2, 98, 0, [4], []) rfl rfl rfl ?_
    refine bGo hA 6 2 (168, .iconst (0), 1, 99, 0, [], [(0, 0)]) rfl rfl rfl ?_
    refine bEqI bl_0 ?_
    refine bGo hA 6 3 (169, .bastore, 1, 100, 0, [], []) rfl rfl rfl ?_
    refine ⟨rfl, (bIxP (x := l4) (n := 120) h_l4 (h.2 c1).1), by decide, b01 (Or.inl rfl), ?_⟩
    refine bEqS (x := l4) h_l4 ?_
    refine bGo hA 6 4 (170, .aload_n 0, 1, 101, 0, [0], []) rfl rfl rfl ?_
    refine bGo hA 6 5 (171, .getfield 170, 3, 102, 0, [12, 58, 3, 109, 1, 0], []) rfl rfl rfl ?_
    refine ⟨rfl, ?_⟩
    refine bGo hA 6 6 (174, .iload 4, 2, 103, 0, [4], []) rfl rfl rfl ?_
    refine bGo hA 6 7 (176, .iconst (0), 1, 104, 0, [], [(0, 0)]) rfl rfl rfl ?_
    refine bEqI bl_0 ?_
    refine bGo hA 6 8 (177, .bastore, 1, 105, 0, [], []) rfl rfl rfl ?_
    refine ⟨rfl, (bIxP (x := l4) (n := 120) h_l4 (h.2 c1).1), by decide, b01 (Or.inl rfl), ?_⟩
    refine bEqS (x := l4) h_l4 ?_
    refine bGo hA 6 9 (178, .aload_n 0, 1, 106, 0, [0], []) rfl rfl rfl ?_
    refine bGo hA 6 10 (179, .getfield 164, 3, 107, 0, [12, 56, 3, 107, 1, 0], []) rfl rfl rfl ?_
    refine ⟨rfl, ?_⟩
    refine bGo hA 6 11 (182, .iload 4, 2, 108, 0, [4], []) rfl rfl rfl ?_
    refine bGo hA 6 12 (184, .aload_n 0, 1, 109, 0, [0], []) rfl rfl rfl ?_
    refine bGo hA 6 13 (185, .getfield 170, 3, 110, 0, [12, 58, 3, 109, 1, 0], []) rfl rfl rfl ?_
    refine ⟨rfl, ?_⟩
    refine bGo hA 6 14 (188, .iload 4, 2, 111, 0, [4], []) rfl rfl rfl ?_
    refine bGo hA 6 15 (190, .baload, 1, 112, 0, [], []) rfl rfl rfl ?_
    refine ⟨rfl, (bIxP (x := l4) (n := 120) h_l4 (h.2 c1).1), ?_⟩
    refine bEqL (x := l4) h_l4 ?_
    refine bEqI (congrArg bn (show bi (bw (bw (bw σ 110 l4 0) 111 l4 0) 109 l4 0) 109 l4 = 0 from (bi_eq (by decide : bRg 0)))) ?_
    refine bGo hA 7 0 (191, .ifCond .eq (13), 3, 113, 118, [], []) rfl rfl rfl ?_
    refine ⟨fun _ => ?_, fun c => absurd (by decide) c⟩
    refine bGo hA 7 6 (204, .iload_n 2, 1, 119, 0, [2], []) rfl rfl rfl ?_
    refine bGo hA 7 7 (205, .iastore, 1, 120, 0, [], []) rfl rfl rfl ?_
    refine ⟨rfl, (bIxP (x := l4) (n := 120) h_l4 (h.2 c1).1), by decide, ?_⟩
    refine bEqS (x := l4) h_l4 ?_
    refine bGo hA 7 8 (206, .aload_n 0, 1, 121, 0, [0], []) rfl rfl rfl ?_
    refine bGo hA 7 9 (207, .getfield 170, 3, 122, 0, [12, 58, 3, 109, 1, 0], []) rfl rfl rfl ?_
    refine ⟨rfl, ?_⟩
    refine bGo hA 7 10 (210, .iload 4, 2, 123, 0, [4], []) rfl rfl rfl ?_
    refine bGo hA 7 11 (212, .iconst (1), 1, 124, 0, [], [(1, 0)]) rfl rfl rfl ?_
    refine bEqI bl_1 ?_
    refine bGo hA 7 12 (213, .bastore, 1, 125, 0, [], []) rfl rfl rfl ?_
    refine ⟨rfl, (bIxP (x := l4) (n := 120) h_l4 (h.2 c1).1), by decide, b01 (Or.inr rfl), ?_⟩
    refine bEqS (x := l4) h_l4 ?_
    refine bGo hA 7 13 (214, .aload_n 0, 1, 126, 0, [0], []) rfl rfl rfl ?_
    refine bGo hA 7 14 (215, .getfield 140, 3, 127, 0, [12, 47, 3, 99, 1, 0], []) rfl rfl rfl ?_
    refine ⟨rfl, ?_⟩
    refine bGo hA 7 15 (218, .iload_n 1, 1, 128, 0, [1], []) rfl rfl rfl ?_
    refine bGo hA 8 0 (219, .iload 4, 2, 129, 0, [4], []) rfl rfl rfl ?_
    refine bGo hA 8 1 (221, .iastore, 1, 130, 0, [], []) rfl rfl rfl ?_
    refine ⟨rfl, (bIxP (x := l1) (n := 4096) h_l1 (h.2 c1).2.1), by decide, ?_⟩
    refine bEqS (x := l1) h_l1 ?_
    refine bGo hA 8 2 (222, .iconst (1), 1, 131, 0, [], [(1, 0)]) rfl rfl rfl ?_
    refine bEqI bl_1 ?_
    refine bGo hA 8 3 (223, .ireturn, 1, 0, 0, [2], []) rfl rfl rfl ?_
    exact ⟨b01 (Or.inr rfl), (h.2 c1).2.2⟩

theorem sq265_0 {lvl : Nat} {C : bCall} {Q : bPost} {A : bPt → Prop} (hC : bMono C) (hA : bClosed lvl bm265 C Q A) {x1 : Int} {x2 : Int} {σ : bSt}  (h_x1 : bRg x1) (h_x2 : bRg x2)
  (h : ((0 ≤ x1 ∧ x1 < 80) ∧ (((0 : Int) < (bi σ 121 x1) → ((0 ≤ x2 ∧ x2 < 120) ∧ (((bi σ 122 x1) = (bi σ 101 x2) → (((bi σ 123 x1) = (bi σ 102 x2) → (((bi σ 124 x1) = (bi σ 103 x2) → (((bi σ 125 x1) = (bi σ 105 x2) → A (47, [.ref 12, .int (bn x1), .int (bn x2), .int (bn 1), .int (bn 0)], [], σ)) ∧ (¬ (bi σ 125 x1) = (bi σ 105 x2) → A (47, [.ref 12, .int (bn x1), .int (bn x2), .int (bn 0), .int (bn 0)], [], σ)))) ∧ (¬ (bi σ 124 x1) = (bi σ 103 x2) → A (47, [.ref 12, .int (bn x1), .int (bn x2), .int (bn 0), .int (bn 0)], [], σ)))) ∧ (¬ (bi σ 123 x1) = (bi σ 102 x2) → A (47, [.ref 12, .int (bn x1), .int (bn x2), .int (bn 0), .int (bn 0)], [], σ)))) ∧ (¬ (bi σ 122 x1) = (bi σ 101 x2) → A (47, [.ref 12, .int (bn x1), .int (bn x2), .int (bn 0), .int (bn 0)], [], σ))))) ∧ (¬ (0 : Int) < (bi σ 121 x1) → A (47, [.ref 12, .int (bn x1), .int (bn x2), .int (bn 0), .int (bn 0)], [], σ))))) : A (0, [.ref 12, .int (bn x1), .int (bn x2), .float 0, .float 0], [], σ) := by
  refine bGo hA 0 0 (0, .aload_n 0, 1, 1, 0, [0], []) rfl rfl rfl ?_
  refine bGo hA 0 1 (1, .getfield 206, 3, 2, 0, [12, 74, 3, 121, 1, 0], []) rfl rfl rfl ?_
  refine ⟨rfl, ?_⟩
  refine bGo hA 0 2 (4, .iload_n 1, 1, 3, 0, [1], []) rfl rfl rfl ?_
  refine bGo hA 0 3 (5, .iaload, 1, 4, 0, [], []) rfl rfl rfl ?_
  refine ⟨rfl, (bIxP (x := x1) (n := 80) h_x1 h.1), ?_⟩
  refine bEqL (x := x1) h_x1 ?_
  refine bGo hA 0 4 (6, .ifCond .le (67), 3, 5, 43, [], []) rfl rfl rfl ?_
  refine bB_gt0 (x := (bi σ 121 x1)) (bi_rg _ _ _) (fun c1 => ?_) (fun c1 => ?_)
  · refine bGo hA 0 5 (9, .aload_n 0, 1, 6, 0, [0], []) rfl rfl rfl ?_
    refine bGo hA 0 6 (10, .getfield 209, 3, 7, 0, [12, 75, 3, 122, 1, 0], []) rfl rfl rfl ?_
    refine ⟨rfl, ?_⟩
    refine bGo hA 0 7 (13, .iload_n 1, 1, 8, 0, [1], []) rfl rfl rfl ?_
    refine bGo hA 0 8 (14, .iaload, 1, 9, 0, [], []) rfl rfl rfl ?_
    refine ⟨rfl, (bIxP (x := x1) (n := 80) h_x1 h.1), ?_⟩
    refine bEqL (x := x1) h_x1 ?_
    refine bGo hA 0 9 (15, .aload_n 0, 1, 10, 0, [0], []) rfl rfl rfl ?_
    refine bGo hA 0 10 (16, .getfield 146, 3, 11, 0, [12, 50, 3, 101, 1, 0], []) rfl rfl rfl ?_
    refine ⟨rfl, ?_⟩
    refine bGo hA 0 11 (19, .iload_n 2, 1, 12, 0, [2], []) rfl rfl rfl ?_
    refine bGo hA 0 12 (20, .iaload, 1, 13, 0, [], []) rfl rfl rfl ?_
    refine ⟨rfl, (bIxP (x := x2) (n := 120) h_x2 (h.2.1 c1).1), ?_⟩
    refine bEqL (x := x2) h_x2 ?_
    refine bGo hA 0 13 (21, .if_icmp .ne (52), 3, 14, 43, [], []) rfl rfl rfl ?_
    refine bB_eq (x := (bi σ 122 x1)) (y := (bi σ 101 x2)) (bi_rg _ _ _) (bi_rg _ _ _) (fun c2 => ?_) (fun c2 => ?_)
    · refine bGo hA 0 14 (24, .aload_n 0, 1, 15, 0, [0], []) rfl rfl rfl ?_
      refine bGo hA 0 15 (25, .getfield 212, 3, 16, 0, [12, 76, 3, 123, 1, 0], []) rfl rfl rfl ?_
      refine ⟨rfl, ?_⟩
      refine bGo hA 1 0 (28, .iload_n 1, 1, 17, 0, [1], []) rfl rfl rfl ?_
      refine bGo hA 1 1 (29, .iaload, 1, 18, 0, [], []) rfl rfl rfl ?_
      refine ⟨rfl, (bIxP (x := x1) (n := 80) h_x1 h.1), ?_⟩
      refine bEqL (x := x1) h_x1 ?_
      refine bGo hA 1 2 (30, .aload_n 0, 1, 19, 0, [0], []) rfl rfl rfl ?_
      refine bGo hA 1 3 (31, .getfield 149, 3, 20, 0, [12, 51, 3, 102, 1, 0], []) rfl rfl rfl ?_
      refine ⟨rfl, ?_⟩
      refine bGo hA 1 4 (34, .iload_n 2, 1, 21, 0, [2], []) rfl rfl rfl ?_
      refine bGo hA 1 5 (35, .iaload, 1, 22, 0, [], []) rfl rfl rfl ?_
      refine ⟨rfl, (bIxP (x := x2) (n := 120) h_x2 (h.2.1 c1).1), ?_⟩
      refine bEqL (x := x2) h_x2 ?_
      refine bGo hA 1 6 (36, .if_icmp .ne (37), 3, 23, 43, [], []) rfl rfl rfl ?_
      refine bB_eq (x := (bi σ 123 x1)) (y := (bi σ 102 x2)) (bi_rg _ _ _) (bi_rg _ _ _) (fun c3 => ?_) (fun c3 => ?_)
      · refine bGo hA 1 7 (39, .aload_n 0, 1, 24, 0, [0], []) rfl rfl rfl ?_
        refine bGo hA 1 8 (40, .getfield 215, 3, 25, 0, [12, 77, 3, 124, 1, 0], []) rfl rfl rfl ?_
        refine ⟨rfl, ?_⟩
        refine bGo hA 1 9 (43, .iload_n 1, 1, 26, 0, [1], []) rfl rfl rfl ?_
        refine bGo hA 1 10 (44, .iaload, 1, 27, 0, [], []) rfl rfl rfl ?_
        refine ⟨rfl, (bIxP (x := x1) (n := 80) h_x1 h.1), ?_⟩
        refine bEqL (x := x1) h_x1 ?_
        refine bGo hA 1 11 (45, .aload_n 0, 1, 28, 0, [0], []) rfl rfl rfl ?_
        refine bGo hA 1 12 (46, .getfield 152, 3, 29, 0, [12, 52, 3, 103, 1, 0], []) rfl rfl rfl ?_
        refine ⟨rfl, ?_⟩
        refine bGo hA 1 13 (49, .iload_n 2, 1, 30, 0, [2], []) rfl rfl rfl ?_
        refine bGo hA 1 14 (50, .iaload, 1, 31, 0, [], []) rfl rfl rfl ?_
        refine ⟨rfl, (bIxP (x := x2) (n := 120) h_x2 (h.2.1 c1).1), ?_⟩
        refine bEqL (x := x2) h_x2 ?_
        refine bGo hA 1 15 (51, .if_icmp .ne (22), 3, 32, 43, [], []) rfl rfl rfl ?_
        refine bB_eq (x := (bi σ 124 x1)) (y := (bi σ 103 x2)) (bi_rg _ _ _) (bi_rg _ _ _) (fun c4 => ?_) (fun c4 => ?_)
        · refine bGo hA 2 0 (54, .aload_n 0, 1, 33, 0, [0], []) rfl rfl rfl ?_
          refine bGo hA 2 1 (55, .getfield 218, 3, 34, 0, [12, 78, 3, 125, 1, 0], []) rfl rfl rfl ?_
          refine ⟨rfl, ?_⟩
          refine bGo hA 2 2 (58, .iload_n 1, 1, 35, 0, [1], []) rfl rfl rfl ?_
          refine bGo hA 2 3 (59, .iaload, 1, 36, 0, [], []) rfl rfl rfl ?_
          refine ⟨rfl, (bIxP (x := x1) (n := 80) h_x1 h.1), ?_⟩
          refine bEqL (x := x1) h_x1 ?_
          refine bGo hA 2 4 (60, .aload_n 0, 1, 37, 0, [0], []) rfl rfl rfl ?_
          refine bGo hA 2 5 (61, .getfield 158, 3, 38, 0, [12, 54, 3, 105, 1, 0], []) rfl rfl rfl ?_
          refine ⟨rfl, ?_⟩
          refine bGo hA 2 6 (64, .iload_n 2, 1, 39, 0, [2], []) rfl rfl rfl ?_
          refine bGo hA 2 7 (65, .iaload, 1, 40, 0, [], []) rfl rfl rfl ?_
          refine ⟨rfl, (bIxP (x := x2) (n := 120) h_x2 (h.2.1 c1).1), ?_⟩
          refine bEqL (x := x2) h_x2 ?_
          refine bGo hA 2 8 (66, .if_icmp .ne (7), 3, 41, 43, [], []) rfl rfl rfl ?_
          refine bB_eq (x := (bi σ 125 x1)) (y := (bi σ 105 x2)) (bi_rg _ _ _) (bi_rg _ _ _) (fun c5 => ?_) (fun c5 => ?_)
          · refine bGo hA 2 9 (69, .iconst (1), 1, 42, 0, [], [(1, 0)]) rfl rfl rfl ?_
            refine bEqI bl_1 ?_
            refine bGo hA 2 10 (70, .goto (4), 3, 43, 44, [], []) rfl rfl rfl ?_
            refine bGo hA 2 12 (74, .istore_n 3, 1, 45, 0, [3], []) rfl rfl rfl ?_
            refine bGo hA 2 13 (75, .iconst (0), 1, 46, 0, [], [(0, 0)]) rfl rfl rfl ?_
            refine bEqI bl_0 ?_
            refine bGo hA 2 14 (76, .istore 4, 2, 47, 0, [4], []) rfl rfl rfl ?_
            exact (((((h.2.1 c1).2.1 c2).1 c3).1 c4).1 c5)
          · refine bGo hA 2 11 (73, .iconst (0), 1, 44, 0, [], [(0, 0)]) rfl rfl rfl ?_
            refine bEqI bl_0 ?_
            refine bGo hA 2 12 (74, .istore_n 3, 1, 45, 0, [3], []) rfl rfl rfl ?_
            refine bGo hA 2 13 (75, .iconst (0), 1, 46, 0, [], [(0, 0)]) rfl rfl rfl ?_
            refine bEqI bl_0 ?_
            refine bGo hA 2 14 (76, .istore 4, 2, 47, 0, [4], []) rfl rfl rfl ?_
            exact (((((h.2.1 c1).2.1 c2).1 c3).1 c4).2 c5)
        · refine bGo hA 2 11 (73, .iconst (0), 1, 44, 0, [], [(0, 0)]) rfl rfl rfl ?_
          refine bEqI bl_0 ?_
          refine bGo hA 2 12 (74, .istore_n 3, 1, 45, 0, [3], []) rfl rfl rfl ?_
          refine bGo hA 2 13 (75, .iconst (0), 1, 46, 0, [], [(0, 0)]) rfl rfl rfl ?_
          refine bEqI bl_0 ?_
          refine bGo hA 2 14 (76, .istore 4, 2, 47, 0, [4], []) rfl rfl rfl ?_
          exact ((((h.2.1 c1).2.1 c2).1 c3).2 c4)
      · refine bGo hA 2 11 (73, .iconst (0), 1, 44, 0, [], [(0, 0)]) rfl rfl rfl ?_
        refine bEqI bl_0 ?_
        refine bGo hA 2 12 (74, .istore_n 3, 1, 45, 0, [3], []) rfl rfl rfl ?_
        refine bGo hA 2 13 (75, .iconst (0), 1, 46, 0, [], [(0, 0)]) rfl rfl rfl ?_
        refine bEqI bl_0 ?_
        refine bGo hA 2 14 (76, .istore 4, 2, 47, 0, [4], []) rfl rfl rfl ?_
        exact (((h.2.1 c1).2.1 c2).2 c3)
    · refine bGo hA 2 11 (73, .iconst (0), 1, 44, 0, [], [(0, 0)]) rfl rfl rfl ?_
      refine bEqI bl_0 ?_
      refine bGo hA 2 12 (74, .istore_n 3, 1, 45, 0, [3], []) rfl rfl rfl ?_
      refine bGo hA 2 13 (75, .iconst (0), 1, 46, 0, [], [(0, 0)]) rfl rfl rfl ?_
      refine bEqI bl_0 ?_
      refine bGo hA 2 14 (76, .istore 4, 2, 47, 0, [4], []) rfl rfl rfl ?_
      exact ((h.2.1 c1).2.2 c2)
  · refine bGo hA 2 11 (73, .iconst (0), 1, 44, 0, [], [(0, 0)]) rfl rfl rfl ?_
    refine bEqI bl_0 ?_
    refine bGo hA 2 12 (74, .istore_n 3, 1, 45, 0, [3], []) rfl rfl rfl ?_
    refine bGo hA 2 13 (75, .iconst (0), 1, 46, 0, [], [(0, 0)]) rfl rfl rfl ?_
    refine bEqI bl_0 ?_
    refine bGo hA 2 14 (76, .istore 4, 2, 47, 0, [4], []) rfl rfl rfl ?_
    exact (h.2.2 c1)

theorem sq265_47 {lvl : Nat} {C : bCall} {Q : bPost} {A : bPt → Prop} (hC : bMono C) (hA : bClosed lvl bm265 C Q A) {l1 : Int} {l2 : Int} {l3 : Int} {l4 : Int} {σ : bSt}  (h_l1 : bRg l1) (h_l2 : bRg l2) (h_l3 : bRg l3) (h_l4 : bRg l4)
  (h : ((0 ≤ l2 ∧ l2 < 120) ∧ ((l4 < (bi σ 105 l2) → ((l3 = 0 → ((l3 = 0 ∨ l3 = 1) ∧ Q (.inl (some (.int (bn l3)))) σ)) ∧ (¬ l3 = 0 → (bRg (40 * l1) ∧ (bRg ((40 * l1) + l4) ∧ ((0 ≤ ((40 * l1) + l4) ∧ ((40 * l1) + l4) < 3200) ∧ (bRg (40 * l2) ∧ (bRg ((40 * l2) + l4) ∧ ((0 ≤ ((40 * l2) + l4) ∧ ((40 * l2) + l4) < 4800) ∧ (C 262 [.ref 12, .int (bn (bi σ 106 ((40 * l2) + l4)))] σ (bRn (fun r5 s3 => (((bi σ 126 ((40 * l1) + l4)) = r5 → (bRg (l4 + 1) ∧ A (47, [.ref 12, .int (bn l1), .int (bn l2), .int (bn 1), .int (bn (l4 + 1))], [], s3))) ∧ (¬ (bi σ 126 ((40 * l1) + l4)) = r5 → (bRg (l4 + 1) ∧ A (47, [.ref 12, .int (bn l1), .int (bn l2), .int (bn 0), .int (bn (l4 + 1))], [], s3)))))))))))))))) ∧ (¬ l4 < (bi σ 105 l2) → ((l3 = 0 ∨ l3 = 1) ∧ Q (.inl (some (.int (bn l3)))) σ))))) : A (47, [.ref 12, .int (bn l1), .int (bn l2), .int (bn l3), .int (bn l4)], [], σ) := by
  refine bGo hA 2 15 (78, .iload 4, 2, 48, 0, [4], []) rfl rfl rfl ?_
  refine bGo hA 3 0 (80, .aload_n 0, 1, 49, 0, [0], []) rfl rfl rfl ?_
  refine bGo hA 3 1 (81, .getfield 158, 3, 50, 0, [12, 54, 3, 105, 1, 0], []) rfl rfl rfl ?_
  refine ⟨rfl, ?_⟩
  refine bGo hA 3 2 (84, .iload_n 2, 1, 51, 0, [2], []) rfl rfl rfl ?_
  refine bGo hA 3 3 (85, .iaload, 1, 52, 0, [], []) rfl rfl rfl ?_
  refine ⟨rfl, (bIxP (x := l2) (n := 120) h_l2 h.1), ?_⟩
  refine bEqL (x := l2) h_l2 ?_
  refine bGo hA 3 4 (86, .if_icmp .ge (50), 3, 53, 80, [], []) rfl rfl rfl ?_
  refine bB_lt (x := l4) (y := (bi σ 105 l2)) h_l4 (bi_rg _ _ _) (fun c1 => ?_) (fun c1 => ?_)
  · refine bGo hA 3 5 (89, .iload_n 3, 1, 54, 0, [3], []) rfl rfl rfl ?_
    refine bGo hA 3 6 (90, .ifCond .eq (46), 3, 55, 80, [], []) rfl rfl rfl ?_
    refine bB_eq0 (x := l3) h_l3 (fun c2 => ?_) (fun c2 => ?_)
    · refine bGo hA 5 0 (136, .iload_n 3, 1, 81, 0, [3], []) rfl rfl rfl ?_
      refine bGo hA 5 1 (137, .ireturn, 1, 0, 0, [2], []) rfl rfl rfl ?_
      exact ⟨b01 ((h.2.1 c1).1 c2).1, ((h.2.1 c1).1 c2).2⟩
    · refine bGo hA 3 7 (93, .aload_n 0, 1, 56, 0, [0], []) rfl rfl rfl ?_
      refine bGo hA 3 8 (94, .getfield 221, 3, 57, 0, [12, 79, 3, 126, 1, 0], []) rfl rfl rfl ?_
      refine ⟨rfl, ?_⟩
      refine bGo hA 3 9 (97, .bipush (40), 2, 58, 0, [], [(40, 0)]) rfl rfl rfl ?_
      refine bEqI bl_40 ?_
      refine bGo hA 3 10 (99, .iload_n 1, 1, 59, 0, [1], []) rfl rfl rfl ?_
      refine bGo hA 3 11 (100, .imul, 1, 60, 0, [], []) rfl rfl rfl ?_
      refine bEqI (bn_mul 40 l1) ?_
      refine bGo hA 3 12 (101, .iload 4, 2, 61, 0, [4], []) rfl rfl rfl ?_
      refine bGo hA 3 13 (103, .iadd, 1, 62, 0, [], []) rfl rfl rfl ?_
      refine bEqI (bn_add (40 * l1) l4) ?_
      refine bGo hA 3 14 (104, .iaload, 1, 63, 0, [], []) rfl rfl rfl ?_
      refine ⟨rfl, (bIxP (x := ((40 * l1) + l4)) (n := 3200) ((h.2.1 c1).2 c2).2.1 ((h.2.1 c1).2 c2).2.2.1), ?_⟩
      refine bEqL (x := ((40 * l1) + l4)) ((h.2.1 c1).2 c2).2.1 ?_
      refine bGo hA 3 15 (105, .aload_n 0, 1, 64, 0, [0], []) rfl rfl rfl ?_
      refine bGo hA 4 0 (106, .aload_n 0, 1, 65, 0, [0], []) rfl rfl rfl ?_
      refine bGo hA 4 1 (107, .getfield 161, 3, 66, 0, [12, 55, 3, 106, 1, 0], []) rfl rfl rfl ?_
      refine ⟨rfl, ?_⟩
      refine bGo hA 4 2 (110, .bipush (40), 2, 67, 0, [], [(40, 0)]) rfl rfl rfl ?_
      refine bEqI bl_40 ?_
      refine bGo hA 4 3 (112, .iload_n 2, 1, 68, 0, [2], []) rfl rfl rfl ?_
      refine bGo hA 4 4 (113, .imul, 1, 69, 0, [], []) rfl rfl rfl ?_
      refine bEqI (bn_mul 40 l2) ?_
      refine bGo hA 4 5 (114, .iload 4, 2, 70, 0, [4], []) rfl rfl rfl ?_
      refine bGo hA 4 6 (116, .iadd, 1, 71, 0, [], []) rfl rfl rfl ?_
      refine bEqI (bn_add (40 * l2) l4) ?_
      refine bGo hA 4 7 (117, .iaload, 1, 72, 0, [], []) rfl rfl rfl ?_
      refine ⟨rfl, (bIxP (x := ((40 * l2) + l4)) (n := 4800) ((h.2.1 c1).2 c2).2.2.2.2.1 ((h.2.1 c1).2 c2).2.2.2.2.2.1), ?_⟩
      refine bEqL (x := ((40 * l2) + l4)) ((h.2.1 c1).2 c2).2.2.2.2.1 ?_
      refine bGo hA 4 8 (118, .invokevirtual 459, 3, 73, 0, [0, 12, 262, 1], []) rfl rfl rfl ?_
      refine ⟨rfl, ?_⟩
      refine hC _ _ _ _ _ (bRn_e (fun r5 s3 q6 k4 => ?_)) ((h.2.1 c1).2 c2).2.2.2.2.2.2
      show A (73, [.ref 12, .int (bn l1), .int (bn l2), .int (bn l3), .int (bn l4)], [.int (bn r5), .int (bn (bi σ 126 ((40 * l1) + l4)))], s3)
      refine bGo hA 4 9 (121, .if_icmp .ne (7), 3, 74, 76, [], []) rfl rfl rfl ?_
      refine bB_eq (x := (bi σ 126 ((40 * l1) + l4))) (y := r5) (bi_rg _ _ _) q6 (fun c7 => ?_) (fun c7 => ?_)
      · refine bGo hA 4 10 (124, .iconst (1), 1, 75, 0, [], [(1, 0)]) rfl rfl rfl ?_
        refine bEqI bl_1 ?_
        refine bGo hA 4 11 (125, .goto (4), 3, 76, 77, [], []) rfl rfl rfl ?_
        refine bGo hA 4 13 (129, .istore_n 3, 1, 78, 0, [3], []) rfl rfl rfl ?_
        refine bGo hA 4 14 (130, .iinc 4 (1), 3, 79, 0, [4], [(1, 0)]) rfl rfl rfl ?_
        refine bEqC (fun v => A (79, [.ref 12, .int (bn l1), .int (bn l2), .int (bn 1), .int v], [], s3)) ((congrArg (fun w => bn l4 + w) bl_1).trans (bn_add l4 1)) ?_
        refine bGo hA 4 15 (133, .goto (-55), 3, 80, 47, [], []) rfl rfl rfl ?_
        exact (k4.1 c7).2
      · refine bGo hA 4 12 (128, .iconst (0), 1, 77, 0, [], [(0, 0)]) rfl rfl rfl ?_
        refine bEqI bl_0 ?_
        refine bGo hA 4 13 (129, .istore_n 3, 1, 78, 0, [3], []) rfl rfl rfl ?_
        refine bGo hA 4 14 (130, .iinc 4 (1), 3, 79, 0, [4], [(1, 0)]) rfl rfl rfl ?_
        refine bEqC (fun v => A (79, [.ref 12, .int (bn l1), .int (bn l2), .int (bn 0), .int v], [], s3)) ((congrArg (fun w => bn l4 + w) bl_1).trans (bn_add l4 1)) ?_
        refine bGo hA 4 15 (133, .goto (-55), 3, 80, 47, [], []) rfl rfl rfl ?_
        exact (k4.2 c7).2
  · refine bGo hA 5 0 (136, .iload_n 3, 1, 81, 0, [3], []) rfl rfl rfl ?_
    refine bGo hA 5 1 (137, .ireturn, 1, 0, 0, [2], []) rfl rfl rfl ?_
    exact ⟨b01 (h.2.2 c1).1, (h.2.2 c1).2⟩

theorem sq266_0 {lvl : Nat} {C : bCall} {Q : bPost} {A : bPt → Prop} (hC : bMono C) (hA : bClosed lvl bm266 C Q A) {x1 : Int} {x2 : Int} {σ : bSt}  (h_x1 : bRg x1) (h_x2 : bRg x2)
  (h : ((0 ≤ x1 ∧ x1 < 120) ∧ (C 261 [.ref 12, .int (bn x1)] σ (bRj (fun r3 s1 => (0 ≤ x2 ∧ (C 258 [.ref 12, .int (bn (bi σ 104 x1)), .long r3, .int (bn (x2 / 1001))] s1 (bRn (fun r6 s4 => (bRg ((x2 % 1001) - 1) ∧ ((r6 = ((x2 % 1001) - 1) → Q (.inl (some (.int (bn 1)))) s4) ∧ (¬ r6 = ((x2 % 1001) - 1) → Q (.inl (some (.int (bn 0)))) s4)))))))))))) : A (0, [.ref 12, .int (bn x1), .int (bn x2)], [], σ) := by
  refine bGo hA 0 0 (0, .aload_n 0, 1, 1, 0, [0], []) rfl rfl rfl ?_
  refine bGo hA 0 1 (1, .aload_n 0, 1, 2, 0, [0], []) rfl rfl rfl ?_
  refine bGo hA 0 2 (2, .getfield 155, 3, 3, 0, [12, 53, 3, 104, 1, 0], []) rfl rfl rfl ?_
  refine ⟨rfl, ?_⟩
  refine bGo hA 0 3 (5, .iload_n 1, 1, 4, 0, [1], []) rfl rfl rfl ?_
  refine bGo hA 0 4 (6, .iaload, 1, 5, 0, [], []) rfl rfl rfl ?_
  refine ⟨rfl, (bIxP (x := x1) (n := 120) h_x1 h.1), ?_⟩
  refine bEqL (x := x1) h_x1 ?_
  refine bGo hA 0 5 (7, .aload_n 0, 1, 6, 0, [0], []) rfl rfl rfl ?_
  refine bGo hA 0 6 (8, .iload_n 1, 1, 7, 0, [1], []) rfl rfl rfl ?_
  refine bGo hA 0 7 (9, .invokevirtual 462, 3, 8, 0, [0, 12, 261, 1], []) rfl rfl rfl ?_
  refine ⟨rfl, ?_⟩
  refine hC _ _ _ _ _ (bRj_e (fun r3 s1 k2 => ?_)) h.2
  show A (8, [.ref 12, .int (bn x1), .int (bn x2)], [.long r3, .int (bn (bi σ 104 x1)), .ref 12], s1)
  refine bGo hA 0 8 (12, .iload_n 2, 1, 9, 0, [2], []) rfl rfl rfl ?_
  refine bGo hA 0 9 (13, .sipush (1001), 3, 10, 0, [], [(1001, 0)]) rfl rfl rfl ?_
  refine bEqI bl_1001 ?_
  refine bGo hA 0 10 (16, .idiv, 1, 11, 0, [], []) rfl rfl rfl ?_
  refine ⟨by decide, ?_⟩
  refine bEqI (bn_div h_x2 (by decide) k2.1) ?_
  refine bGo hA 0 11 (17, .invokevirtual 448, 3, 12, 0, [0, 12, 258, 3], []) rfl rfl rfl ?_
  refine ⟨rfl, ?_⟩
  refine hC _ _ _ _ _ (bRn_e (fun r6 s4 q7 k5 => ?_)) k2.2
  show A (12, [.ref 12, .int (bn x1), .int (bn x2)], [.int (bn r6)], s4)
  refine bGo hA 0 12 (20, .iload_n 2, 1, 13, 0, [2], []) rfl rfl rfl ?_
  refine bGo hA 0 13 (21, .sipush (1001), 3, 14, 0, [], [(1001, 0)]) rfl rfl rfl ?_
  refine bEqI bl_1001 ?_
  refine bGo hA 0 14 (24, .irem, 1, 15, 0, [], []) rfl rfl rfl ?_
  refine ⟨by decide, ?_⟩
  refine bEqI (bn_rem h_x2 (by decide) k2.1) ?_
  refine bGo hA 0 15 (25, .iconst (1), 1, 16, 0, [], [(1, 0)]) rfl rfl rfl ?_
  refine bEqI bl_1 ?_
  refine bGo hA 1 0 (26, .isub, 1, 17, 0, [], []) rfl rfl rfl ?_
  refine bEqI (bn_sub (x2 % 1001) 1) ?_
  refine bGo hA 1 1 (27, .if_icmp .ne (7), 3, 18, 20, [], []) rfl rfl rfl ?_
  refine bB_eq (x := r6) (y := ((x2 % 1001) - 1)) q7 k5.1 (fun c8 => ?_) (fun c8 => ?_)
  · refine bGo hA 1 2 (30, .iconst (1), 1, 19, 0, [], [(1, 0)]) rfl rfl rfl ?_
    refine bEqI bl_1 ?_
    refine bGo hA 1 3 (31, .goto (4), 3, 20, 21, [], []) rfl rfl rfl ?_
    refine bGo hA 1 5 (35, .ireturn, 1, 0, 0, [2], []) rfl rfl rfl ?_
    exact ⟨b01 (Or.inr rfl), (k5.2.1 c8)⟩
  · refine bGo hA 1 4 (34, .iconst (0), 1, 21, 0, [], [(0, 0)]) rfl rfl rfl ?_
    refine bEqI bl_0 ?_
    refine bGo hA 1 5 (35, .ireturn, 1, 0, 0, [2], []) rfl rfl rfl ?_
    exact ⟨b01 (Or.inl rfl), (k5.2.2 c8)⟩

theorem sq267_0 {lvl : Nat} {C : bCall} {Q : bPost} {A : bPt → Prop} (hC : bMono C) (hA : bClosed lvl bm267 C Q A) {x1 : Int} {x2 : Int} {σ : bSt}  (h_x1 : bRg x1) (h_x2 : bRg x2)
  (h : ((x2 = 0 → A (8, [.ref 12, .int (bn x1), .int (bn x2), .int (bn (-1)), .int (bn 0), .float 0, .float 0], [], σ)) ∧ (¬ x2 = 0 → A (8, [.ref 12, .int (bn x1), .int (bn x2), .int (bn (-1)), .int (bn 32), .float 0, .float 0], [], σ)))) : A (0, [.ref 12, .int (bn x1), .int (bn x2), .float 0, .float 0, .float 0, .float 0], [], σ) := by
  refine bGo hA 0 0 (0, .iconst (-1), 1, 1, 0, [], [(-1, 0)]) rfl rfl rfl ?_
  refine bEqI bl_m1 ?_
  refine bGo hA 0 1 (1, .istore_n 3, 1, 2, 0, [3], []) rfl rfl rfl ?_
  refine bGo hA 0 2 (2, .iload_n 2, 1, 3, 0, [2], []) rfl rfl rfl ?_
  refine bGo hA 0 3 (3, .ifCond .eq (8), 3, 4, 6, [], []) rfl rfl rfl ?_
  refine bB_eq0 (x := x2) h_x2 (fun c1 => ?_) (fun c1 => ?_)
  · refine bGo hA 0 6 (11, .iconst (0), 1, 7, 0, [], [(0, 0)]) rfl rfl rfl ?_
    refine bEqI bl_0 ?_
    refine bGo hA 0 7 (12, .istore 4, 2, 8, 0, [4], []) rfl rfl rfl ?_
    exact (h.1 c1)
  · refine bGo hA 0 4 (6, .bipush (32), 2, 5, 0, [], [(32, 0)]) rfl rfl rfl ?_
    refine bEqI bl_32 ?_
    refine bGo hA 0 5 (8, .goto (4), 3, 6, 7, [], []) rfl rfl rfl ?_
    refine bGo hA 0 7 (12, .istore 4, 2, 8, 0, [4], []) rfl rfl rfl ?_
    exact (h.2 c1)

theorem sq267_8 {lvl : Nat} {C : bCall} {Q : bPost} {A : bPt → Prop} (hC : bMono C) (hA : bClosed lvl bm267 C Q A) {l1 : Int} {l2 : Int} {l3 : Int} {l4 : Int} {v5 : Value} {v6 : Value} {σ : bSt}  (h_l1 : bRg l1) (h_l2 : bRg l2) (h_l3 : bRg l3) (h_l4 : bRg l4)
  (h : ((l2 = 0 → ((l4 < 32 → (C 265 [.ref 12, .int (bn l4), .int (bn l1)] σ (bRn (fun r5 s3 => ((r5 = 0 → A (38, [.ref 12, .int (bn l1), .int (bn l2), .int (bn l3), .int (bn l4), .int (bn 0), .int (bn 0)], [], s3)) ∧ (¬ r5 = 0 → ((l3 = (-1) → A (38, [.ref 12, .int (bn l1), .int (bn l2), .int (bn l3), .int (bn l4), .int (bn 1), .int (bn 0)], [], s3)) ∧ (¬ l3 = (-1) → ((0 ≤ l4 ∧ l4 < 80) ∧ ((0 ≤ l3 ∧ l3 < 80) ∧ (((bi s3 121 l3) < (bi s3 121 l4) → A (38, [.ref 12, .int (bn l1), .int (bn l2), .int (bn l3), .int (bn l4), .int (bn 1), .int (bn 0)], [], s3)) ∧ (¬ (bi s3 121 l3) < (bi s3 121 l4) → A (38, [.ref 12, .int (bn l1), .int (bn l2), .int (bn l3), .int (bn l4), .int (bn 0), .int (bn 0)], [], s3))))))))))))) ∧ (¬ l4 < 32 → Q (.inl (some (.int (bn l3)))) σ))) ∧ (¬ l2 = 0 → ((l4 < 80 → (C 265 [.ref 12, .int (bn l4), .int (bn l1)] σ (bRn (fun r13 s11 => ((r13 = 0 → A (38, [.ref 12, .int (bn l1), .int (bn l2), .int (bn l3), .int (bn l4), .int (bn 0), .int (bn 0)], [], s11)) ∧ (¬ r13 = 0 → ((l3 = (-1) → A (38, [.ref 12, .int (bn l1), .int (bn l2), .int (bn l3), .int (bn l4), .int (bn 1), .int (bn 0)], [], s11)) ∧ (¬ l3 = (-1) → ((0 ≤ l4 ∧ l4 < 80) ∧ ((0 ≤ l3 ∧ l3 < 80) ∧ (((bi s11 121 l3) < (bi s11 121 l4) → A (38, [.ref 12, .int (bn l1), .int (bn l2), .int (bn l3), .int (bn l4), .int (bn 1), .int (bn 0)], [], s11)) ∧ (¬ (bi s11 121 l3) < (bi s11 121 l4) → A (38, [.ref 12, .int (bn l1), .int (bn l2), .int (bn l3), .int (bn l4), .int (bn 0), .int (bn 0)], [], s11))))))))))))) ∧ (¬ l4 < 80 → Q (.inl (some (.int (bn l3)))) σ))))) : A (8, [.ref 12, .int (bn l1), .int (bn l2), .int (bn l3), .int (bn l4), v5, v6], [], σ) := by
  refine bGo hA 0 8 (14, .iload 4, 2, 9, 0, [4], []) rfl rfl rfl ?_
  refine bGo hA 0 9 (16, .iload_n 2, 1, 10, 0, [2], []) rfl rfl rfl ?_
  refine bGo hA 0 10 (17, .ifCond .eq (8), 3, 11, 13, [], []) rfl rfl rfl ?_
  refine bB_eq0 (x := l2) h_l2 (fun c1 => ?_) (fun c1 => ?_)
  · refine bGo hA 0 13 (25, .bipush (32), 2, 14, 0, [], [(32, 0)]) rfl rfl rfl ?_
    refine bEqI bl_32 ?_
    refine bGo hA 0 14 (27, .if_icmp .ge (105), 3, 15, 68, [], []) rfl rfl rfl ?_
    refine bB_lt (x := l4) (y := 32) h_l4 (by decide : bRg 32) (fun c2 => ?_) (fun c2 => ?_)
    · refine bGo hA 0 15 (30, .aload_n 0, 1, 16, 0, [0], []) rfl rfl rfl ?_
      refine bGo hA 1 0 (31, .iload 4, 2, 17, 0, [4], []) rfl rfl rfl ?_
      refine bGo hA 1 1 (33, .iload_n 1, 1, 18, 0, [1], []) rfl rfl rfl ?_
      refine bGo hA 1 2 (34, .invokevirtual 466, 3, 19, 0, [0, 12, 265, 2], []) rfl rfl rfl ?_
      refine ⟨rfl, ?_⟩
      refine hC _ _ _ _ _ (bRn_e (fun r5 s3 q6 k4 => ?_)) ((h.1 c1).1 c2)
      show A (19, [.ref 12, .int (bn l1), .int (bn l2), .int (bn l3), .int (bn l4), v5, v6], [.int (bn r5)], s3)
      refine bGo hA 1 3 (37, .ifCond .eq (28), 3, 20, 34, [], []) rfl rfl rfl ?_
      refine bB_eq0 (x := r5) q6 (fun c7 => ?_) (fun c7 => ?_)
      · refine bGo hA 2 2 (65, .iconst (0), 1, 35, 0, [], [(0, 0)]) rfl rfl rfl ?_
        refine bEqI bl_0 ?_
        refine bGo hA 2 3 (66, .istore 5, 2, 36, 0, [5], []) rfl rfl rfl ?_
        refine bGo hA 2 4 (68, .iconst (0), 1, 37, 0, [], [(0, 0)]) rfl rfl rfl ?_
        refine bEqI bl_0 ?_
        refine bGo hA 2 5 (69, .istore 6, 2, 38, 0, [6], []) rfl rfl rfl ?_
        exact (k4.1 c7)
      · refine bGo hA 1 4 (40, .iload_n 3, 1, 21, 0, [3], []) rfl rfl rfl ?_
        refine bGo hA 1 5 (41, .iconst (-1), 1, 22, 0, [], [(-1, 0)]) rfl rfl rfl ?_
        refine bEqI bl_m1 ?_
        refine bGo hA 1 6 (42, .if_icmp .eq (19), 3, 23, 32, [], []) rfl rfl rfl ?_
        refine bB_eq (x := l3) (y := (-1)) h_l3 (by decide : bRg (-1)) (fun c8 => ?_) (fun c8 => ?_)
        · refine bGo hA 2 0 (61, .iconst (1), 1, 33, 0, [], [(1, 0)]) rfl rfl rfl ?_
          refine bEqI bl_1 ?_
          refine bGo hA 2 1 (62, .goto (4), 3, 34, 35, [], []) rfl rfl rfl ?_
          refine bGo hA 2 3 (66, .istore 5, 2, 36, 0, [5], []) rfl rfl rfl ?_
          refine bGo hA 2 4 (68, .iconst (0), 1, 37, 0, [], [(0, 0)]) rfl rfl rfl ?_
          refine bEqI bl_0 ?_
          refine bGo hA 2 5 (69, .istore 6, 2, 38, 0, [6], []) rfl rfl rfl ?_
          exact ((k4.2 c7).1 c8)
        · refine bGo hA 1 7 (45, .aload_n 0, 1, 24, 0, [0], []) rfl rfl rfl ?_
          refine bGo hA 1 8 (46, .getfield 206, 3, 25, 0, [12, 74, 3, 121, 1, 0], []) rfl rfl rfl ?_
          refine ⟨rfl, ?_⟩
          refine bGo hA 1 9 (49, .iload 4, 2, 26, 0, [4], []) rfl rfl rfl ?_
          refine bGo hA 1 10 (51, .iaload, 1, 27, 0, [], []) rfl rfl rfl ?_
          refine ⟨rfl, (bIxP (x := l4) (n := 80) h_l4 ((k4.2 c7).2 c8).1), ?_⟩
          refine bEqL (x := l4) h_l4 ?_
          refine bGo hA 1 11 (52, .aload_n 0, 1, 28, 0, [0], []) rfl rfl rfl ?_
          refine bGo hA 1 12 (53, .getfield 206, 3, 29, 0, [12, 74, 3, 121, 1, 0], []) rfl rfl rfl ?_
          refine ⟨rfl, ?_⟩
          refine bGo hA 1 13 (56, .iload_n 3, 1, 30, 0, [3], []) rfl rfl rfl ?_
          refine bGo hA 1 14 (57, .iaload, 1, 31, 0, [], []) rfl rfl rfl ?_
          refine ⟨rfl, (bIxP (x := l3) (n := 80) h_l3 ((k4.2 c7).2 c8).2.1), ?_⟩
          refine bEqL (x := l3) h_l3 ?_
          refine bGo hA 1 15 (58, .if_icmp .le (7), 3, 32, 34, [], []) rfl rfl rfl ?_
          refine bB_lt (x := (bi s3 121 l3)) (y := (bi s3 121 l4)) (bi_rg _ _ _) (bi_rg _ _ _) (fun c9 => ?_) (fun c9 => ?_)
          · refine bGo hA 2 0 (61, .iconst (1), 1, 33, 0, [], [(1, 0)]) rfl rfl rfl ?_
            refine bEqI bl_1 ?_
            refine bGo hA 2 1 (62, .goto (4), 3, 34, 35, [], []) rfl rfl rfl ?_
            refine bGo hA 2 3 (66, .istore 5, 2, 36, 0, [5], []) rfl rfl rfl ?_
            refine bGo hA 2 4 (68, .iconst (0), 1, 37, 0, [], [(0, 0)]) rfl rfl rfl ?_
            refine bEqI bl_0 ?_
            refine bGo hA 2 5 (69, .istore 6, 2, 38, 0, [6], []) rfl rfl rfl ?_
            exact (((k4.2 c7).2 c8).2.2.1 c9)
          · refine bGo hA 2 2 (65, .iconst (0), 1, 35, 0, [], [(0, 0)]) rfl rfl rfl ?_
            refine bEqI bl_0 ?_
            refine bGo hA 2 3 (66, .istore 5, 2, 36, 0, [5], []) rfl rfl rfl ?_
            refine bGo hA 2 4 (68, .iconst (0), 1, 37, 0, [], [(0, 0)]) rfl rfl rfl ?_
            refine bEqI bl_0 ?_
            refine bGo hA 2 5 (69, .istore 6, 2, 38, 0, [6], []) rfl rfl rfl ?_
            exact (((k4.2 c7).2 c8).2.2.2 c9)
    · refine bGo hA 4 4 (132, .iload_n 3, 1, 69, 0, [3], []) rfl rfl rfl ?_
      refine bGo hA 4 5 (133, .ireturn, 1, 0, 0, [1], []) rfl rfl rfl ?_
      exact ((h.1 c1).2 c2)
  · refine bGo hA 0 11 (20, .bipush (80), 2, 12, 0, [], [(80, 0)]) rfl rfl rfl ?_
    refine bEqI bl_80 ?_
    refine bGo hA 0 12 (22, .goto (5), 3, 13, 14, [], []) rfl rfl rfl ?_
    refine bGo hA 0 14 (27, .if_icmp .ge (105), 3, 15, 68, [], []) rfl rfl rfl ?_
    refine bB_lt (x := l4) (y := 80) h_l4 (by decide : bRg 80) (fun c10 => ?_) (fun c10 => ?_)
    · refine bGo hA 0 15 (30, .aload_n 0, 1, 16, 0, [0], []) rfl rfl rfl ?_
      refine bGo hA 1 0 (31, .iload 4, 2, 17, 0, [4], []) rfl rfl rfl ?_
      refine bGo hA 1 1 (33, .iload_n 1, 1, 18, 0, [1], []) rfl rfl rfl ?_
      refine bGo hA 1 2 (34, .invokevirtual 466, 3, 19, 0, [0, 12, 265, 2], []) rfl rfl rfl ?_
      refine ⟨rfl, ?_⟩
      refine hC _ _ _ _ _ (bRn_e (fun r13 s11 q14 k12 => ?_)) ((h.2 c1).1 c10)
      show A (19, [.ref 12, .int (bn l1), .int (bn l2), .int (bn l3), .int (bn l4), v5, v6], [.int (bn r13)], s11)
      refine bGo hA 1 3 (37, .ifCond .eq (28), 3, 20, 34, [], []) rfl rfl rfl ?_
      refine bB_eq0 (x := r13) q14 (fun c15 => ?_) (fun c15 => ?_)
      · refine bGo hA 2 2 (65, .iconst (0), 1, 35, 0, [], [(0, 0)]) rfl rfl rfl ?_
        refine bEqI bl_0 ?_
        refine bGo hA 2 3 (66, .istore 5, 2, 36, 0, [5], []) rfl rfl rfl ?_
        refine bGo hA 2 4 (68, .iconst (0), 1, 37, 0, [], [(0, 0)]) rfl rfl rfl ?_
        refine bEqI bl_0 ?_
        refine bGo hA 2 5 (69, .istore 6, 2, 38, 0, [6], []) rfl rfl rfl ?_
        exact (k12.1 c15)
      · refine bGo hA 1 4 (40, .iload_n 3, 1, 21, 0, [3], []) rfl rfl rfl ?_
        refine bGo hA 1 5 (41, .iconst (-1), 1, 22, 0, [], [(-1, 0)]) rfl rfl rfl ?_
        refine bEqI bl_m1 ?_
        refine bGo hA 1 6 (42, .if_icmp .eq (19), 3, 23, 32, [], []) rfl rfl rfl ?_
        refine bB_eq (x := l3) (y := (-1)) h_l3 (by decide : bRg (-1)) (fun c16 => ?_) (fun c16 => ?_)
        · refine bGo hA 2 0 (61, .iconst (1), 1, 33, 0, [], [(1, 0)]) rfl rfl rfl ?_
          refine bEqI bl_1 ?_
          refine bGo hA 2 1 (62, .goto (4), 3, 34, 35, [], []) rfl rfl rfl ?_
          refine bGo hA 2 3 (66, .istore 5, 2, 36, 0, [5], []) rfl rfl rfl ?_
          refine bGo hA 2 4 (68, .iconst (0), 1, 37, 0, [], [(0, 0)]) rfl rfl rfl ?_
          refine bEqI bl_0 ?_
          refine bGo hA 2 5 (69, .istore 6, 2, 38, 0, [6], []) rfl rfl rfl ?_
          exact ((k12.2 c15).1 c16)
        · refine bGo hA 1 7 (45, .aload_n 0, 1, 24, 0, [0], []) rfl rfl rfl ?_
          refine bGo hA 1 8 (46, .getfield 206, 3, 25, 0, [12, 74, 3, 121, 1, 0], []) rfl rfl rfl ?_
          refine ⟨rfl, ?_⟩
          refine bGo hA 1 9 (49, .iload 4, 2, 26, 0, [4], []) rfl rfl rfl ?_
          refine bGo hA 1 10 (51, .iaload, 1, 27, 0, [], []) rfl rfl rfl ?_
          refine ⟨rfl, (bIxP (x := l4) (n := 80) h_l4 ((k12.2 c15).2 c16).1), ?_⟩
          refine bEqL (x := l4) h_l4 ?_
          refine bGo hA 1 11 (52, .aload_n 0, 1, 28, 0, [0], []) rfl rfl rfl ?_
          refine bGo hA 1 12 (53, .getfield 206, 3, 29, 0, [12, 74, 3, 121, 1, 0], []) rfl rfl rfl ?_
          refine ⟨rfl, ?_⟩
          refine bGo hA 1 13 (56, .iload_n 3, 1, 30, 0, [3], []) rfl rfl rfl ?_
          refine bGo hA 1 14 (57, .iaload, 1, 31, 0, [], []) rfl rfl rfl ?_
          refine ⟨rfl, (bIxP (x := l3) (n := 80) h_l3 ((k12.2 c15).2 c16).2.1), ?_⟩
          refine bEqL (x := l3) h_l3 ?_
          refine bGo hA 1 15 (58, .if_icmp .le (7), 3, 32, 34, [], []) rfl rfl rfl ?_
          refine bB_lt (x := (bi s11 121 l3)) (y := (bi s11 121 l4)) (bi_rg _ _ _) (bi_rg _ _ _) (fun c17 => ?_) (fun c17 => ?_)
          · refine bGo hA 2 0 (61, .iconst (1), 1, 33, 0, [], [(1, 0)]) rfl rfl rfl ?_
            refine bEqI bl_1 ?_
            refine bGo hA 2 1 (62, .goto (4), 3, 34, 35, [], []) rfl rfl rfl ?_
            refine bGo hA 2 3 (66, .istore 5, 2, 36, 0, [5], []) rfl rfl rfl ?_
            refine bGo hA 2 4 (68, .iconst (0), 1, 37, 0, [], [(0, 0)]) rfl rfl rfl ?_
            refine bEqI bl_0 ?_
            refine bGo hA 2 5 (69, .istore 6, 2, 38, 0, [6], []) rfl rfl rfl ?_
            exact (((k12.2 c15).2 c16).2.2.1 c17)
          · refine bGo hA 2 2 (65, .iconst (0), 1, 35, 0, [], [(0, 0)]) rfl rfl rfl ?_
            refine bEqI bl_0 ?_
            refine bGo hA 2 3 (66, .istore 5, 2, 36, 0, [5], []) rfl rfl rfl ?_
            refine bGo hA 2 4 (68, .iconst (0), 1, 37, 0, [], [(0, 0)]) rfl rfl rfl ?_
            refine bEqI bl_0 ?_
            refine bGo hA 2 5 (69, .istore 6, 2, 38, 0, [6], []) rfl rfl rfl ?_
            exact (((k12.2 c15).2 c16).2.2.2 c17)
    · refine bGo hA 4 4 (132, .iload_n 3, 1, 69, 0, [3], []) rfl rfl rfl ?_
      refine bGo hA 4 5 (133, .ireturn, 1, 0, 0, [1], []) rfl rfl rfl ?_
      exact ((h.2 c1).2 c10)

theorem sq267_38 {lvl : Nat} {C : bCall} {Q : bPost} {A : bPt → Prop} (hC : bMono C) (hA : bClosed lvl bm267 C Q A) {l1 : Int} {l2 : Int} {l3 : Int} {l4 : Int} {l5 : Int} {l6 : Int} {σ : bSt}  (h_l1 : bRg l1) (h_l2 : bRg l2) (h_l3 : bRg l3) (h_l4 : bRg l4) (h_l5 : bRg l5) (h_l6 : bRg l6)
  (h : ((l5 = 0 → ((l5 = 0 → (bRg (l4 + 1) ∧ A (8, [.ref 12, .int (bn l1), .int (bn l2), .int (bn l3), .int (bn (l4 + 1)), .int (bn l5), .int (bn l6)], [], σ))) ∧ (¬ l5 = 0 → (bRg (l4 + 1) ∧ A (8, [.ref 12, .int (bn l1), .int (bn l2), .int (bn l4), .int (bn (l4 + 1)), .int (bn l5), .int (bn l6)], [], σ))))) ∧ (¬ l5 = 0 → ((0 ≤ l4 ∧ l4 < 80) ∧ ((l6 < (bi σ 127 l4) → (bRg (48 * l4) ∧ (bRg ((48 * l4) + l6) ∧ ((0 ≤ ((48 * l4) + l6) ∧ ((48 * l4) + l6) < 3840) ∧ (C 266 [.ref 12, .int (bn l1), .int (bn (bi σ 128 ((48 * l4) + l6)))] σ (bRn (fun r6 s4 => (bRg (l6 + 1) ∧ A (38, [.ref 12, .int (bn l1), .int (bn l2), .int (bn l3), .int (bn l4), .int (bn r6), .int (bn (l6 + 1))], [], s4))))))))) ∧ (¬ l6 < (bi σ 127 l4) → ((l5 = 0 → (bRg (l4 + 1) ∧ A (8, [.ref 12, .int (bn l1), .int (bn l2), .int (bn l3), .int (bn (l4 + 1)), .int (bn l5), .int (bn l6)], [], σ))) ∧ (¬ l5 = 0 → (bRg (l4 + 1) ∧ A (8, [.ref 12, .int (bn l1), .int (bn l2), .int (bn l4), .int (bn (l4 + 1)), .int (bn l5), .int (bn l6)], [], σ)))))))))) : A (38, [.ref 12, .int (bn l1), .int (bn l2), .int (bn l3), .int (bn l4), .int (bn l5), .int (bn l6)], [], σ) := by
  refine bGo hA 2 6 (71, .iload 5, 2, 39, 0, [5], []) rfl rfl rfl ?_
  refine bGo hA 2 7 (73, .ifCond .eq (41), 3, 40, 60, [], []) rfl rfl rfl ?_
  refine bB_eq0 (x := l5) h_l5 (fun c1 => ?_) (fun c1 => ?_)
  · refine bGo hA 3 12 (114, .iload 5, 2, 61, 0, [5], []) rfl rfl rfl ?_
    refine bGo hA 3 13 (116, .ifCond .eq (8), 3, 62, 64, [], []) rfl rfl rfl ?_
    refine bB_eq0 (x := l5) h_l5 (fun c2 => ?_) (fun c2 => ?_)
    · refine bGo hA 4 0 (124, .iload_n 3, 1, 65, 0, [3], []) rfl rfl rfl ?_
      refine bGo hA 4 1 (125, .istore_n 3, 1, 66, 0, [3], []) rfl rfl rfl ?_
      refine bGo hA 4 2 (126, .iinc 4 (1), 3, 67, 0, [4], [(1, 0)]) rfl rfl rfl ?_
      refine bEqC (fun v => A (67, [.ref 12, .int (bn l1), .int (bn l2), .int (bn l3), .int v, .int (bn l5), .int (bn l6)], [], σ)) ((congrArg (fun w => bn l4 + w) bl_1).trans (bn_add l4 1)) ?_
      refine bGo hA 4 3 (129, .goto (-115), 3, 68, 8, [], []) rfl rfl rfl ?_
      exact ((h.1 c1).1 c2).2
    · refine bGo hA 3 14 (119, .iload 4, 2, 63, 0, [4], []) rfl rfl rfl ?_
      refine bGo hA 3 15 (121, .goto (4), 3, 64, 65, [], []) rfl rfl rfl ?_
      refine bGo hA 4 1 (125, .istore_n 3, 1, 66, 0, [3], []) rfl rfl rfl ?_
      refine bGo hA 4 2 (126, .iinc 4 (1), 3, 67, 0, [4], [(1, 0)]) rfl rfl rfl ?_
      refine bEqC (fun v => A (67, [.ref 12, .int (bn l1), .int (bn l2), .int (bn l4), .int v, .int (bn l5), .int (bn l6)], [], σ)) ((congrArg (fun w => bn l4 + w) bl_1).trans (bn_add l4 1)) ?_
      refine bGo hA 4 3 (129, .goto (-115), 3, 68, 8, [], []) rfl rfl rfl ?_
      exact ((h.1 c1).2 c2).2
  · refine bGo hA 2 8 (76, .iload 6, 2, 41, 0, [6], []) rfl rfl rfl ?_
    refine bGo hA 2 9 (78, .aload_n 0, 1, 42, 0, [0], []) rfl rfl rfl ?_
    refine bGo hA 2 10 (79, .getfield 224, 3, 43, 0, [12, 80, 3, 127, 1, 0], []) rfl rfl rfl ?_
    refine ⟨rfl, ?_⟩
    refine bGo hA 2 11 (82, .iload 4, 2, 44, 0, [4], []) rfl rfl rfl ?_
    refine bGo hA 2 12 (84, .iaload, 1, 45, 0, [], []) rfl rfl rfl ?_
    refine ⟨rfl, (bIxP (x := l4) (n := 80) h_l4 (h.2 c1).1), ?_⟩
    refine bEqL (x := l4) h_l4 ?_
    refine bGo hA 2 13 (85, .if_icmp .ge (29), 3, 46, 60, [], []) rfl rfl rfl ?_
    refine bB_lt (x := l6) (y := (bi σ 127 l4)) h_l6 (bi_rg _ _ _) (fun c3 => ?_) (fun c3 => ?_)
    · refine bGo hA 2 14 (88, .aload_n 0, 1, 47, 0, [0], []) rfl rfl rfl ?_
      refine bGo hA 2 15 (89, .iload_n 1, 1, 48, 0, [1], []) rfl rfl rfl ?_
      refine bGo hA 3 0 (90, .aload_n 0, 1, 49, 0, [0], []) rfl rfl rfl ?_
      refine bGo hA 3 1 (91, .getfield 227, 3, 50, 0, [12, 81, 3, 128, 1, 0], []) rfl rfl rfl ?_
      refine ⟨rfl, ?_⟩
      refine bGo hA 3 2 (94, .bipush (48), 2, 51, 0, [], [(48, 0)]) rfl rfl rfl ?_
      refine bEqI bl_48 ?_
      refine bGo hA 3 3 (96, .iload 4, 2, 52, 0, [4], []) rfl rfl rfl ?_
      refine bGo hA 3 4 (98, .imul, 1, 53, 0, [], []) rfl rfl rfl ?_
      refine bEqI (bn_mul 48 l4) ?_
      refine bGo hA 3 5 (99, .iload 6, 2, 54, 0, [6], []) rfl rfl rfl ?_
      refine bGo hA 3 6 (101, .iadd, 1, 55, 0, [], []) rfl rfl rfl ?_
      refine bEqI (bn_add (48 * l4) l6) ?_
      refine bGo hA 3 7 (102, .iaload, 1, 56, 0, [], []) rfl rfl rfl ?_
      refine ⟨rfl, (bIxP (x := ((48 * l4) + l6)) (n := 3840) ((h.2 c1).2.1 c3).2.1 ((h.2 c1).2.1 c3).2.2.1), ?_⟩
      refine bEqL (x := ((48 * l4) + l6)) ((h.2 c1).2.1 c3).2.1 ?_
      refine bGo hA 3 8 (103, .invokevirtual 470, 3, 57, 0, [0, 12, 266, 2], []) rfl rfl rfl ?_
      refine ⟨rfl, ?_⟩
      refine hC _ _ _ _ _ (bRn_e (fun r6 s4 q7 k5 => ?_)) ((h.2 c1).2.1 c3).2.2.2
      show A (57, [.ref 12, .int (bn l1), .int (bn l2), .int (bn l3), .int (bn l4), .int (bn l5), .int (bn l6)], [.int (bn r6)], s4)
      refine bGo hA 3 9 (106, .istore 5, 2, 58, 0, [5], []) rfl rfl rfl ?_
      refine bGo hA 3 10 (108, .iinc 6 (1), 3, 59, 0, [6], [(1, 0)]) rfl rfl rfl ?_
      refine bEqC (fun v => A (59, [.ref 12, .int (bn l1), .int (bn l2), .int (bn l3), .int (bn l4), .int (bn r6), .int v], [], s4)) ((congrArg (fun w => bn l6 + w) bl_1).trans (bn_add l6 1)) ?_
      refine bGo hA 3 11 (111, .goto (-40), 3, 60, 38, [], []) rfl rfl rfl ?_
      exact k5.2
    · refine bGo hA 3 12 (114, .iload 5, 2, 61, 0, [5], []) rfl rfl rfl ?_
      refine bGo hA 3 13 (116, .ifCond .eq (8), 3, 62, 64, [], []) rfl rfl rfl ?_
      refine bB_eq0 (x := l5) h_l5 (fun c8 => ?_) (fun c8 => ?_)
      · refine bGo hA 4 0 (124, .iload_n 3, 1, 65, 0, [3], []) rfl rfl rfl ?_
        refine bGo hA 4 1 (125, .istore_n 3, 1, 66, 0, [3], []) rfl rfl rfl ?_
        refine bGo hA 4 2 (126, .iinc 4 (1), 3, 67, 0, [4], [(1, 0)]) rfl rfl rfl ?_
        refine bEqC (fun v => A (67, [.ref 12, .int (bn l1), .int (bn l2), .int (bn l3), .int v, .int (bn l5), .int (bn l6)], [], σ)) ((congrArg (fun w => bn l4 + w) bl_1).trans (bn_add l4 1)) ?_
        refine bGo hA 4 3 (129, .goto (-115), 3, 68, 8, [], []) rfl rfl rfl ?_
        exact (((h.2 c1).2.2 c3).1 c8).2
      · refine bGo hA 3 14 (119, .iload 4, 2, 63, 0, [4], []) rfl rfl rfl ?_
        refine bGo hA 3 15 (121, .goto (4), 3, 64, 65, [], []) rfl rfl rfl ?_
        refine bGo hA 4 1 (125, .istore_n 3, 1, 66, 0, [3], []) rfl rfl rfl ?_
        refine bGo hA 4 2 (126, .iinc 4 (1), 3, 67, 0, [4], [(1, 0)]) rfl rfl rfl ?_
        refine bEqC (fun v => A (67, [.ref 12, .int (bn l1), .int (bn l2), .int (bn l4), .int v, .int (bn l5), .int (bn l6)], [], σ)) ((congrArg (fun w => bn l4 + w) bl_1).trans (bn_add l4 1)) ?_
        refine bGo hA 4 3 (129, .goto (-115), 3, 68, 8, [], []) rfl rfl rfl ?_
        exact (((h.2 c1).2.2 c3).2 c8).2

theorem sq268_0 {lvl : Nat} {C : bCall} {Q : bPost} {A : bPt → Prop} (hC : bMono C) (hA : bClosed lvl bm268 C Q A) {x1 : Int} {x2 : Int} {σ : bSt}  (h_x1 : bRg x1) (h_x2 : bRg x2)
  (h : ((0 ≤ x2 ∧ x2 < 80) ∧ ((0 ≤ x1 ∧ x1 < 120) ∧ A (18, [.ref 12, .int (bn x1), .int (bn x2), .int (bn 0)], [], (bw (bw σ 130 x1 (bi σ 129 x2)) 131 x1 (bi σ 127 x2)))))) : A (0, [.ref 12, .int (bn x1), .int (bn x2), .float 0], [], σ) := by
  refine bGo hA 0 0 (0, .aload_n 0, 1, 1, 0, [0], []) rfl rfl rfl ?_
  refine bGo hA 0 1 (1, .getfield 233, 3, 2, 0, [12, 83, 3, 130, 1, 0], []) rfl rfl rfl ?_
  refine ⟨rfl, ?_⟩
  refine bGo hA 0 2 (4, .iload_n 1, 1, 3, 0, [1], []) rfl rfl rfl ?_
  refine bGo hA 0 3 (5, .aload_n 0, 1, 4, 0, [0], []) rfl rfl rfl ?_
  refine bGo hA 0 4 (6, .getfield 230, 3, 5, 0, [12, 82, 3, 129, 1, 0], []) rfl rfl rfl ?_
  refine ⟨rfl, ?_⟩
  refine bGo hA 0 5 (9, .iload_n 2, 1, 6, 0, [2], []) rfl rfl rfl ?_
  refine bGo hA 0 6 (10, .iaload, 1, 7, 0, [], []) rfl rfl rfl ?_
  refine ⟨rfl, (bIxP (x := x2) (n := 80) h_x2 h.1), ?_⟩
  refine bEqL (x := x2) h_x2 ?_
  refine bGo hA 0 7 (11, .iastore, 1, 8, 0, [], []) rfl rfl rfl ?_
  refine ⟨rfl, (bIxP (x := x1) (n := 120) h_x1 h.2.1), by decide, ?_⟩
  refine bEqS (x := x1) h_x1 ?_
  refine bGo hA 0 8 (12, .aload_n 0, 1, 9, 0, [0], []) rfl rfl rfl ?_
  refine bGo hA 0 9 (13, .getfield 236, 3, 10, 0, [12, 84, 3, 131, 1, 0], []) rfl rfl rfl ?_
  refine ⟨rfl, ?_⟩
  refine bGo hA 0 10 (16, .iload_n 1, 1, 11, 0, [1], []) rfl rfl rfl ?_
  refine bGo hA 0 11 (17, .aload_n 0, 1, 12, 0, [0], []) rfl rfl rfl ?_
  refine bGo hA 0 12 (18, .getfield 224, 3, 13, 0, [12, 80, 3, 127, 1, 0], []) rfl rfl rfl ?_
  refine ⟨rfl, ?_⟩
  refine bGo hA 0 13 (21, .iload_n 2, 1, 14, 0, [2], []) rfl rfl rfl ?_
  refine bGo hA 0 14 (22, .iaload, 1, 15, 0, [], []) rfl rfl rfl ?_
  refine ⟨rfl, (bIxP (x := x2) (n := 80) h_x2 h.1), ?_⟩
  refine bEqL (x := x2) h_x2 ?_
  refine bEqI (congrArg bn (show bi (bw σ 130 x1 (bi σ 129 x2)) 127 x2 = (bi σ 127 x2) from (bi_ne (by decide)))) ?_
  refine bGo hA 0 15 (23, .iastore, 1, 16, 0, [], []) rfl rfl rfl ?_
  refine ⟨rfl, (bIxP (x := x1) (n := 120) h_x1 h.2.1), by decide, ?_⟩
  refine bEqS (x := x1) h_x1 ?_
  refine bGo hA 1 0 (24, .iconst (0), 1, 17, 0, [], [(0, 0)]) rfl rfl rfl ?_
  refine bEqI bl_0 ?_
  refine bGo hA 1 1 (25, .istore_n 3, 1, 18, 0, [3], []) rfl rfl rfl ?_
  exact h.2.2

theorem sq268_18 {lvl : Nat} {C : bCall} {Q : bPost} {A : bPt → Prop} (hC : bMono C) (hA : bClosed lvl bm268 C Q A) {l1 : Int} {l2 : Int} {l3 : Int} {σ : bSt}  (h_l1 : bRg l1) (h_l2 : bRg l2) (h_l3 : bRg l3)
  (h : ((0 ≤ l2 ∧ l2 < 80) ∧ ((l3 < (bi σ 127 l2) → (bRg (48 * l1) ∧ (bRg ((48 * l1) + l3) ∧ (bRg (48 * l2) ∧ (bRg ((48 * l2) + l3) ∧ ((0 ≤ ((48 * l2) + l3) ∧ ((48 * l2) + l3) < 3840) ∧ ((0 ≤ ((48 * l1) + l3) ∧ ((48 * l1) + l3) < 5760) ∧ (bRg (l3 + 1) ∧ A (18, [.ref 12, .int (bn l1), .int (bn l2), .int (bn (l3 + 1))], [], (bw σ 132 ((48 * l1) + l3) (bi σ 128 ((48 * l2) + l3)))))))))))) ∧ (¬ l3 < (bi σ 127 l2) → Q (.inl none) σ)))) : A (18, [.ref 12, .int (bn l1), .int (bn l2), .int (bn l3)], [], σ) := by
  refine bGo hA 1 2 (26, .iload_n 3, 1, 19, 0, [3], []) rfl rfl rfl ?_
  refine bGo hA 1 3 (27, .aload_n 0, 1, 20, 0, [0], []) rfl rfl rfl ?_
  refine bGo hA 1 4 (28, .getfield 224, 3, 21, 0, [12, 80, 3, 127, 1, 0], []) rfl rfl rfl ?_
  refine ⟨rfl, ?_⟩
  refine bGo hA 1 5 (31, .iload_n 2, 1, 22, 0, [2], []) rfl rfl rfl ?_
  refine bGo hA 1 6 (32, .iaload, 1, 23, 0, [], []) rfl rfl rfl ?_
  refine ⟨rfl, (bIxP (x := l2) (n := 80) h_l2 h.1), ?_⟩
  refine bEqL (x := l2) h_l2 ?_
  refine bGo hA 1 7 (33, .if_icmp .ge (31), 3, 24, 42, [], []) rfl rfl rfl ?_
  refine bB_lt (x := l3) (y := (bi σ 127 l2)) h_l3 (bi_rg _ _ _) (fun c1 => ?_) (fun c1 => ?_)
  · refine bGo hA 1 8 (36, .aload_n 0, 1, 25, 0, [0], []) rfl rfl rfl ?_
    refine bGo hA 1 9 (37, .getfield 239, 3, 26, 0, [12, 85, 3, 132, 1, 0], []) rfl rfl rfl ?_
    refine ⟨rfl, ?_⟩
    refine bGo hA 1 10 (40, .bipush (48), 2, 27, 0, [], [(48, 0)]) rfl rfl rfl ?_
    refine bEqI bl_48 ?_
    refine bGo hA 1 11 (42, .iload_n 1, 1, 28, 0, [1], []) rfl rfl rfl ?_
    refine bGo hA 1 12 (43, .imul, 1, 29, 0, [], []) rfl rfl rfl ?_
    refine bEqI (bn_mul 48 l1) ?_
    refine bGo hA 1 13 (44, .iload_n 3, 1, 30, 0, [3], []) rfl rfl rfl ?_
    refine bGo hA 1 14 (45, .iadd, 1, 31, 0, [], []) rfl rfl rfl ?_
    refine bEqI (bn_add (48 * l1) l3) ?_
    refine bGo hA 1 15 (46, .aload_n 0, 1, 32, 0, [0], []) rfl rfl rfl ?_
    refine bGo hA 2 0 (47, .getfield 227, 3, 33, 0, [12, 81, 3, 128, 1, 0], []) rfl rfl rfl ?_
    refine ⟨rfl, ?_⟩
    refine bGo hA 2 1 (50, .bipush (48), 2, 34, 0, [], [(48, 0)]) rfl rfl rfl ?_
    refine bEqI bl_48 ?_
    refine bGo hA 2 2 (52, .iload_n 2, 1, 35, 0, [2], []) rfl rfl rfl ?_
    refine bGo hA 2 3 (53, .imul, 1, 36, 0, [], []) rfl rfl rfl ?_
    refine bEqI (bn_mul 48 l2) ?_
    refine bGo hA 2 4 (54, .iload_n 3, 1, 37, 0, [3], []) rfl rfl rfl ?_
    refine bGo hA 2 5 (55, .iadd, 1, 38, 0, [], []) rfl rfl rfl ?_
    refine bEqI (bn_add (48 * l2) l3) ?_
    refine bGo hA 2 6 (56, .iaload, 1, 39, 0, [], []) rfl rfl rfl ?_
    refine ⟨rfl, (bIxP (x := ((48 * l2) + l3)) (n := 3840) (h.2.1 c1).2.2.2.1 (h.2.1 c1).2.2.2.2.1), ?_⟩
    refine bEqL (x := ((48 * l2) + l3)) (h.2.1 c1).2.2.2.1 ?_
    refine bGo hA 2 7 (57, .iastore, 1, 40, 0, [], []) rfl rfl rfl ?_
    refine ⟨rfl, (bIxP (x := ((48 * l1) + l3)) (n := 5760) (h.2.1 c1).2.1 (h.2.1 c1).2.2.2.2.2.1), by decide, ?_⟩
    refine bEqS (x := ((48 * l1) + l3)) (h.2.1 c1).2.1 ?_
    refine bGo hA 2 8 (58, .iinc 3 (1), 3, 41, 0, [3], [(1, 0)]) rfl rfl rfl ?_
    refine bEqC (fun v => A (41, [.ref 12, .int (bn l1), .int (bn l2), .int v], [], (bw σ 132 ((48 * l1) + l3) (bi σ 128 ((48 * l2) + l3))))) ((congrArg (fun w => bn l3 + w) bl_1).trans (bn_add l3 1)) ?_
    refine bGo hA 2 9 (61, .goto (-35), 3, 42, 18, [], []) rfl rfl rfl ?_
    exact (h.2.1 c1).2.2.2.2.2.2.2
  · refine bGo hA 2 10 (64, .return_, 1, 0, 0, [0], []) rfl rfl rfl ?_
    exact (h.2.2 c1)

theorem sq270_0 {lvl : Nat} {C : bCall} {Q : bPost} {A : bPt → Prop} (hC : bMono C) (hA : bClosed lvl bm270 C Q A) {x1 : Int} {x2 : Int} {σ : bSt}  (h_x1 : bRg x1) (h_x2 : bRg x2)
  (h : ((x2 = 0 → A (10, [.ref 12, .int (bn x1), .int (bn x2), .int (bn 0), .int (bn (-1)), .int (bn 0), .float 0, .float 0], [], σ)) ∧ (¬ x2 = 0 → A (10, [.ref 12, .int (bn x1), .int (bn x2), .int (bn 32), .int (bn (-1)), .int (bn 32), .float 0, .float 0], [], σ)))) : A (0, [.ref 12, .int (bn x1), .int (bn x2), .float 0, .float 0, .float 0, .float 0, .float 0], [], σ) := by
  refine bGo hA 0 0 (0, .iload_n 2, 1, 1, 0, [2], []) rfl rfl rfl ?_
  refine bGo hA 0 1 (1, .ifCond .eq (8), 3, 2, 4, [], []) rfl rfl rfl ?_
  refine bB_eq0 (x := x2) h_x2 (fun c1 => ?_) (fun c1 => ?_)
  · refine bGo hA 0 4 (9, .iconst (0), 1, 5, 0, [], [(0, 0)]) rfl rfl rfl ?_
    refine bEqI bl_0 ?_
    refine bGo hA 0 5 (10, .istore_n 3, 1, 6, 0, [3], []) rfl rfl rfl ?_
    refine bGo hA 0 6 (11, .iconst (-1), 1, 7, 0, [], [(-1, 0)]) rfl rfl rfl ?_
    refine bEqI bl_m1 ?_
    refine bGo hA 0 7 (12, .istore 4, 2, 8, 0, [4], []) rfl rfl rfl ?_
    refine bGo hA 0 8 (14, .iload_n 3, 1, 9, 0, [3], []) rfl rfl rfl ?_
    refine bGo hA 0 9 (15, .istore 5, 2, 10, 0, [5], []) rfl rfl rfl ?_
    exact (h.1 c1)
  · refine bGo hA 0 2 (4, .bipush (32), 2, 3, 0, [], [(32, 0)]) rfl rfl rfl ?_
    refine bEqI bl_32 ?_
    refine bGo hA 0 3 (6, .goto (4), 3, 4, 5, [], []) rfl rfl rfl ?_
    refine bGo hA 0 5 (10, .istore_n 3, 1, 6, 0, [3], []) rfl rfl rfl ?_
    refine bGo hA 0 6 (11, .iconst (-1), 1, 7, 0, [], [(-1, 0)]) rfl rfl rfl ?_
    refine bEqI bl_m1 ?_
    refine bGo hA 0 7 (12, .istore 4, 2, 8, 0, [4], []) rfl rfl rfl ?_
    refine bGo hA 0 8 (14, .iload_n 3, 1, 9, 0, [3], []) rfl rfl rfl ?_
    refine bGo hA 0 9 (15, .istore 5, 2, 10, 0, [5], []) rfl rfl rfl ?_
    exact (h.2 c1)

theorem sq270_10 {lvl : Nat} {C : bCall} {Q : bPost} {A : bPt → Prop} (hC : bMono C) (hA : bClosed lvl bm270 C Q A) {l1 : Int} {l2 : Int} {l3 : Int} {l4 : Int} {l5 : Int} {v6 : Value} {v7 : Value} {σ : bSt}  (h_l1 : bRg l1) (h_l2 : bRg l2) (h_l3 : bRg l3) (h_l4 : bRg l4) (h_l5 : bRg l5)
  (h : ((l2 = 0 → A (17, [.ref 12, .int (bn l1), .int (bn l2), .int (bn l3), .int (bn l4), .int (bn l5), v6, v7], [.int (bn 32), .int (bn l3), .int (bn l5)], σ)) ∧ (¬ l2 = 0 → A (17, [.ref 12, .int (bn l1), .int (bn l2), .int (bn l3), .int (bn l4), .int (bn l5), v6, v7], [.int (bn 48), .int (bn l3), .int (bn l5)], σ)))) : A (10, [.ref 12, .int (bn l1), .int (bn l2), .int (bn l3), .int (bn l4), .int (bn l5), v6, v7], [], σ) := by
  refine bGo hA 0 10 (17, .iload 5, 2, 11, 0, [5], []) rfl rfl rfl ?_
  refine bGo hA 0 11 (19, .iload_n 3, 1, 12, 0, [3], []) rfl rfl rfl ?_
  refine bGo hA 0 12 (20, .iload_n 2, 1, 13, 0, [2], []) rfl rfl rfl ?_
  refine bGo hA 0 13 (21, .ifCond .eq (8), 3, 14, 16, [], []) rfl rfl rfl ?_
  refine bB_eq0 (x := l2) h_l2 (fun c1 => ?_) (fun c1 => ?_)
  · refine bGo hA 1 0 (29, .bipush (32), 2, 17, 0, [], [(32, 0)]) rfl rfl rfl ?_
    refine bEqI bl_32 ?_
    exact (h.1 c1)
  · refine bGo hA 0 14 (24, .bipush (48), 2, 15, 0, [], [(48, 0)]) rfl rfl rfl ?_
    refine bEqI bl_48 ?_
    refine bGo hA 0 15 (26, .goto (5), 3, 16, 17, [], []) rfl rfl rfl ?_
    exact (h.2 c1)

theorem sq270_17 {lvl : Nat} {C : bCall} {Q : bPost} {A : bPt → Prop} (hC : bMono C) (hA : bClosed lvl bm270 C Q A) {l1 : Int} {l2 : Int} {l3 : Int} {l4 : Int} {l5 : Int} {v6 : Value} {v7 : Value} {t0 : Int} {t1 : Int} {t2 : Int} {σ : bSt}  (h_l1 : bRg l1) (h_l2 : bRg l2) (h_l3 : bRg l3) (h_l4 : bRg l4) (h_l5 : bRg l5) (h_t0 : bRg t0) (h_t1 : bRg t1) (h_t2 : bRg t2)
  (h : (bRg (t1 + t0) ∧ ((t2 < (t1 + t0) → (C 265 [.ref 12, .int (bn l5), .int (bn l1)] σ (bRn (fun r4 s2 => ((r4 = 0 → A (39, [.ref 12, .int (bn l1), .int (bn l2), .int (bn l3), .int (bn l4), .int (bn l5), .int (bn 0), .int (bn 0)], [], s2)) ∧ (¬ r4 = 0 → ((0 ≤ l5 ∧ l5 < 80) ∧ ((0 ≤ l1 ∧ l1 < 120) ∧ (((bi s2 127 l5) = (bi s2 131 l1) → A (39, [.ref 12, .int (bn l1), .int (bn l2), .int (bn l3), .int (bn l4), .int (bn l5), .int (bn 1), .int (bn 0)], [], s2)) ∧ (¬ (bi s2 127 l5) = (bi s2 131 l1) → A (39, [.ref 12, .int (bn l1), .int (bn l2), .int (bn l3), .int (bn l4), .int (bn l5), .int (bn 0), .int (bn 0)], [], s2))))))))))) ∧ (¬ t2 < (t1 + t0) → ((l4 = (-1) → (C 269 [.ref 12, .int (bn l2)] σ (bRn (fun r11 s9 => ((l2 = 0 → ((r11 = 24 → A (94, [.ref 12, .int (bn l1), .int (bn l2), .int (bn l3), .int (bn l4), .int (bn (-1)), .int (bn l3), v7], [], s9)) ∧ (¬ r11 = 24 → A (133, [.ref 12, .int (bn l1), .int (bn l2), .int (bn l3), .int (bn l4), .int (bn l3), v6, v7], [], s9)))) ∧ (¬ l2 = 0 → ((r11 = 40 → A (94, [.ref 12, .int (bn l1), .int (bn l2), .int (bn l3), .int (bn l4), .int (bn (-1)), .int (bn l3), v7], [], s9)) ∧ (¬ r11 = 40 → A (133, [.ref 12, .int (bn l1), .int (bn l2), .int (bn l3), .int (bn l4), .int (bn l3), v6, v7], [], s9))))))))) ∧ (¬ l4 = (-1) → A (133, [.ref 12, .int (bn l1), .int (bn l2), .int (bn l3), .int (bn l4), .int (bn l3), v6, v7], [], σ))))))) : A (17, [.ref 12, .int (bn l1), .int (bn l2), .int (bn l3), .int (bn l4), .int (bn l5), v6, v7], [.int (bn t0), .int (bn t1), .int (bn t2)], σ) := by
  refine bGo hA 1 1 (31, .iadd, 1, 18, 0, [], []) rfl rfl rfl ?_
  refine bEqI (bn_add t1 t0) ?_
  refine bGo hA 1 2 (32, .if_icmp .ge (116), 3, 19, 78, [], []) rfl rfl rfl ?_
  refine bB_lt (x := t2) (y := (t1 + t0)) h_t2 h.1 (fun c1 => ?_) (fun c1 => ?_)
  · refine bGo hA 1 3 (35, .aload_n 0, 1, 20, 0, [0], []) rfl rfl rfl ?_
    refine bGo hA 1 4 (36, .iload 5, 2, 21, 0, [5], []) rfl rfl rfl ?_
    refine bGo hA 1 5 (38, .iload_n 1, 1, 22, 0, [1], []) rfl rfl rfl ?_
    refine bGo hA 1 6 (39, .invokevirtual 466, 3, 23, 0, [0, 12, 265, 2], []) rfl rfl rfl ?_
    refine ⟨rfl, ?_⟩
    refine hC _ _ _ _ _ (bRn_e (fun r4 s2 q5 k3 => ?_)) (h.2.1 c1)
    show A (23, [.ref 12, .int (bn l1), .int (bn l2), .int (bn l3), .int (bn l4), .int (bn l5), v6, v7], [.int (bn r4)], s2)
    refine bGo hA 1 7 (42, .ifCond .eq (23), 3, 24, 35, [], []) rfl rfl rfl ?_
    refine bB_eq0 (x := r4) q5 (fun c6 => ?_) (fun c6 => ?_)
    · refine bGo hA 2 3 (65, .iconst (0), 1, 36, 0, [], [(0, 0)]) rfl rfl rfl ?_
      refine bEqI bl_0 ?_
      refine bGo hA 2 4 (66, .istore 6, 2, 37, 0, [6], []) rfl rfl rfl ?_
      refine bGo hA 2 5 (68, .iconst (0), 1, 38, 0, [], [(0, 0)]) rfl rfl rfl ?_
      refine bEqI bl_0 ?_
      refine bGo hA 2 6 (69, .istore 7, 2, 39, 0, [7], []) rfl rfl rfl ?_
      exact (k3.1 c6)
    · refine bGo hA 1 8 (45, .aload_n 0, 1, 25, 0, [0], []) rfl rfl rfl ?_
      refine bGo hA 1 9 (46, .getfield 224, 3, 26, 0, [12, 80, 3, 127, 1, 0], []) rfl rfl rfl ?_
      refine ⟨rfl, ?_⟩
      refine bGo hA 1 10 (49, .iload 5, 2, 27, 0, [5], []) rfl rfl rfl ?_
      refine bGo hA 1 11 (51, .iaload, 1, 28, 0, [], []) rfl rfl rfl ?_
      refine ⟨rfl, (bIxP (x := l5) (n := 80) h_l5 (k3.2 c6).1), ?_⟩
      refine bEqL (x := l5) h_l5 ?_
      refine bGo hA 1 12 (52, .aload_n 0, 1, 29, 0, [0], []) rfl rfl rfl ?_
      refine bGo hA 1 13 (53, .getfield 236, 3, 30, 0, [12, 84, 3, 131, 1, 0], []) rfl rfl rfl ?_
      refine ⟨rfl, ?_⟩
      refine bGo hA 1 14 (56, .iload_n 1, 1, 31, 0, [1], []) rfl rfl rfl ?_
      refine bGo hA 1 15 (57, .iaload, 1, 32, 0, [], []) rfl rfl rfl ?_
      refine ⟨rfl, (bIxP (x := l1) (n := 120) h_l1 (k3.2 c6).2.1), ?_⟩
      refine bEqL (x := l1) h_l1 ?_
      refine bGo hA 2 0 (58, .if_icmp .ne (7), 3, 33, 35, [], []) rfl rfl rfl ?_
      refine bB_eq (x := (bi s2 127 l5)) (y := (bi s2 131 l1)) (bi_rg _ _ _) (bi_rg _ _ _) (fun c7 => ?_) (fun c7 => ?_)
      · refine bGo hA 2 1 (61, .iconst (1), 1, 34, 0, [], [(1, 0)]) rfl rfl rfl ?_
        refine bEqI bl_1 ?_
        refine bGo hA 2 2 (62, .goto (4), 3, 35, 36, [], []) rfl rfl rfl ?_
        refine bGo hA 2 4 (66, .istore 6, 2, 37, 0, [6], []) rfl rfl rfl ?_
        refine bGo hA 2 5 (68, .iconst (0), 1, 38, 0, [], [(0, 0)]) rfl rfl rfl ?_
        refine bEqI bl_0 ?_
        refine bGo hA 2 6 (69, .istore 7, 2, 39, 0, [7], []) rfl rfl rfl ?_
        exact ((k3.2 c6).2.2.1 c7)
      · refine bGo hA 2 3 (65, .iconst (0), 1, 36, 0, [], [(0, 0)]) rfl rfl rfl ?_
        refine bEqI bl_0 ?_
        refine bGo hA 2 4 (66, .istore 6, 2, 37, 0, [6], []) rfl rfl rfl ?_
        refine bGo hA 2 5 (68, .iconst (0), 1, 38, 0, [], [(0, 0)]) rfl rfl rfl ?_
        refine bEqI bl_0 ?_
        refine bGo hA 2 6 (69, .istore 7, 2, 39, 0, [7], []) rfl rfl rfl ?_
        exact ((k3.2 c6).2.2.2 c7)
  · refine bGo hA 4 14 (148, .iload 4, 2, 79, 0, [4], []) rfl rfl rfl ?_
    refine bGo hA 4 15 (150, .iconst (-1), 1, 80, 0, [], [(-1, 0)]) rfl rfl rfl ?_
    refine bEqI bl_m1 ?_
    refine bGo hA 5 0 (151, .if_icmp .ne (102), 3, 81, 131, [], []) rfl rfl rfl ?_
    refine bB_eq (x := l4) (y := (-1)) h_l4 (by decide : bRg (-1)) (fun c8 => ?_) (fun c8 => ?_)
    · refine bGo hA 5 1 (154, .aload_n 0, 1, 82, 0, [0], []) rfl rfl rfl ?_
      refine bGo hA 5 2 (155, .iload_n 2, 1, 83, 0, [2], []) rfl rfl rfl ?_
      refine bGo hA 5 3 (156, .invokevirtual 473, 3, 84, 0, [0, 12, 269, 1], []) rfl rfl rfl ?_
      refine ⟨rfl, ?_⟩
      refine hC _ _ _ _ _ (bRn_e (fun r11 s9 q12 k10 => ?_)) ((h.2.2 c1).1 c8)
      show A (84, [.ref 12, .int (bn l1), .int (bn l2), .int (bn l3), .int (bn l4), .int (bn l5), v6, v7], [.int (bn r11)], s9)
      refine bGo hA 5 4 (159, .iload_n 2, 1, 85, 0, [2], []) rfl rfl rfl ?_
      refine bGo hA 5 5 (160, .ifCond .eq (8), 3, 86, 88, [], []) rfl rfl rfl ?_
      refine bB_eq0 (x := l2) h_l2 (fun c13 => ?_) (fun c13 => ?_)
      · refine bGo hA 5 8 (168, .bipush (24), 2, 89, 0, [], [(24, 0)]) rfl rfl rfl ?_
        refine bEqI bl_24 ?_
        refine bGo hA 5 9 (170, .if_icmp .ne (83), 3, 90, 131, [], []) rfl rfl rfl ?_
        refine bB_eq (x := r11) (y := 24) q12 (by decide : bRg 24) (fun c14 => ?_) (fun c14 => ?_)
        · refine bGo hA 5 10 (173, .iconst (-1), 1, 91, 0, [], [(-1, 0)]) rfl rfl rfl ?_
          refine bEqI bl_m1 ?_
          refine bGo hA 5 11 (174, .istore 5, 2, 92, 0, [5], []) rfl rfl rfl ?_
          refine bGo hA 5 12 (176, .iload_n 3, 1, 93, 0, [3], []) rfl rfl rfl ?_
          refine bGo hA 5 13 (177, .istore 6, 2, 94, 0, [6], []) rfl rfl rfl ?_
          exact ((k10.1 c13).1 c14)
        · refine bGo hA 8 3 (253, .iload_n 3, 1, 132, 0, [3], []) rfl rfl rfl ?_
          refine bGo hA 8 4 (254, .istore 5, 2, 133, 0, [5], []) rfl rfl rfl ?_
          exact ((k10.1 c13).2 c14)
      · refine bGo hA 5 6 (163, .bipush (40), 2, 87, 0, [], [(40, 0)]) rfl rfl rfl ?_
        refine bEqI bl_40 ?_
        refine bGo hA 5 7 (165, .goto (5), 3, 88, 89, [], []) rfl rfl rfl ?_
        refine bGo hA 5 9 (170, .if_icmp .ne (83), 3, 90, 131, [], []) rfl rfl rfl ?_
        refine bB_eq (x := r11) (y := 40) q12 (by decide : bRg 40) (fun c15 => ?_) (fun c15 => ?_)
        · refine bGo hA 5 10 (173, .iconst (-1), 1, 91, 0, [], [(-1, 0)]) rfl rfl rfl ?_
          refine bEqI bl_m1 ?_
          refine bGo hA 5 11 (174, .istore 5, 2, 92, 0, [5], []) rfl rfl rfl ?_
          refine bGo hA 5 12 (176, .iload_n 3, 1, 93, 0, [3], []) rfl rfl rfl ?_
          refine bGo hA 5 13 (177, .istore 6, 2, 94, 0, [6], []) rfl rfl rfl ?_
          exact ((k10.2 c13).1 c15)
        · refine bGo hA 8 3 (253, .iload_n 3, 1, 132, 0, [3], []) rfl rfl rfl ?_
          refine bGo hA 8 4 (254, .istore 5, 2, 133, 0, [5], []) rfl rfl rfl ?_
          exact ((k10.2 c13).2 c15)
    · refine bGo hA 8 3 (253, .iload_n 3, 1, 132, 0, [3], []) rfl rfl rfl ?_
      refine bGo hA 8 4 (254, .istore 5, 2, 133, 0, [5], []) rfl rfl rfl ?_
      exact ((h.2.2 c1).2 c8)

theorem sq270_39 {lvl : Nat} {C : bCall} {Q : bPost} {A : bPt → Prop} (hC : bMono C) (hA : bClosed lvl bm270 C Q A) {l1 : Int} {l2 : Int} {l3 : Int} {l4 : Int} {l5 : Int} {l6 : Int} {l7 : Int} {σ : bSt}  (h_l1 : bRg l1) (h_l2 : bRg l2) (h_l3 : bRg l3) (h_l4 : bRg l4) (h_l5 : bRg l5) (h_l6 : bRg l6) (h_l7 : bRg l7)
  (h : ((l6 = 0 → ((l6 = 0 → (bRg (l5 + 1) ∧ A (10, [.ref 12, .int (bn l1), .int (bn l2), .int (bn l3), .int (bn l4), .int (bn (l5 + 1)), .int (bn l6), .int (bn l7)], [], σ))) ∧ (¬ l6 = 0 → (bRg (l5 + 1) ∧ A (10, [.ref 12, .int (bn l1), .int (bn l2), .int (bn l3), .int (bn l5), .int (bn (l5 + 1)), .int (bn l6), .int (bn l7)], [], σ))))) ∧ (¬ l6 = 0 → ((0 ≤ l1 ∧ l1 < 120) ∧ ((l7 < (bi σ 131 l1) → (bRg (48 * l5) ∧ (bRg ((48 * l5) + l7) ∧ ((0 ≤ ((48 * l5) + l7) ∧ ((48 * l5) + l7) < 3840) ∧ (bRg (48 * l1) ∧ (bRg ((48 * l1) + l7) ∧ ((0 ≤ ((48 * l1) + l7) ∧ ((48 * l1) + l7) < 5760) ∧ (((bi σ 128 ((48 * l5) + l7)) = (bi σ 132 ((48 * l1) + l7)) → (bRg (l7 + 1) ∧ A (39, [.ref 12, .int (bn l1), .int (bn l2), .int (bn l3), .int (bn l4), .int (bn l5), .int (bn 1), .int (bn (l7 + 1))], [], σ))) ∧ (¬ (bi σ 128 ((48 * l5) + l7)) = (bi σ 132 ((48 * l1) + l7)) → (bRg (l7 + 1) ∧ A (39, [.ref 12, .int (bn l1), .int (bn l2), .int (bn l3), .int (bn l4), .int (bn l5), .int (bn 0), .int (bn (l7 + 1))], [], σ))))))))))) ∧ (¬ l7 < (bi σ 131 l1) → ((l6 = 0 → (bRg (l5 + 1) ∧ A (10, [.ref 12, .int (bn l1), .int (bn l2), .int (bn l3), .int (bn l4), .int (bn (l5 + 1)), .int (bn l6), .int (bn l7)], [], σ))) ∧ (¬ l6 = 0 → (bRg (l5 + 1) ∧ A (10, [.ref 12, .int (bn l1), .int (bn l2), .int (bn l3), .int (bn l5), .int (bn (l5 + 1)), .int (bn l6), .int (bn l7)], [], σ)))))))))) : A (39, [.ref 12, .int (bn l1), .int (bn l2), .int (bn l3), .int (bn l4), .int (bn l5), .int (bn l6), .int (bn l7)], [], σ) := by
  refine bGo hA 2 7 (71, .iload 6, 2, 40, 0, [6], []) rfl rfl rfl ?_
  refine bGo hA 2 8 (73, .ifCond .eq (55), 3, 41, 70, [], []) rfl rfl rfl ?_
  refine bB_eq0 (x := l6) h_l6 (fun c1 => ?_) (fun c1 => ?_)
  · refine bGo hA 4 6 (128, .iload 6, 2, 71, 0, [6], []) rfl rfl rfl ?_
    refine bGo hA 4 7 (130, .ifCond .eq (8), 3, 72, 74, [], []) rfl rfl rfl ?_
    refine bB_eq0 (x := l6) h_l6 (fun c2 => ?_) (fun c2 => ?_)
    · refine bGo hA 4 10 (138, .iload 4, 2, 75, 0, [4], []) rfl rfl rfl ?_
      refine bGo hA 4 11 (140, .istore 4, 2, 76, 0, [4], []) rfl rfl rfl ?_
      refine bGo hA 4 12 (142, .iinc 5 (1), 3, 77, 0, [5], [(1, 0)]) rfl rfl rfl ?_
      refine bEqC (fun v => A (77, [.ref 12, .int (bn l1), .int (bn l2), .int (bn l3), .int (bn l4), .int v, .int (bn l6), .int (bn l7)], [], σ)) ((congrArg (fun w => bn l5 + w) bl_1).trans (bn_add l5 1)) ?_
      refine bGo hA 4 13 (145, .goto (-128), 3, 78, 10, [], []) rfl rfl rfl ?_
      exact ((h.1 c1).1 c2).2
    · refine bGo hA 4 8 (133, .iload 5, 2, 73, 0, [5], []) rfl rfl rfl ?_
      refine bGo hA 4 9 (135, .goto (5), 3, 74, 75, [], []) rfl rfl rfl ?_
      refine bGo hA 4 11 (140, .istore 4, 2, 76, 0, [4], []) rfl rfl rfl ?_
      refine bGo hA 4 12 (142, .iinc 5 (1), 3, 77, 0, [5], [(1, 0)]) rfl rfl rfl ?_
      refine bEqC (fun v => A (77, [.ref 12, .int (bn l1), .int (bn l2), .int (bn l3), .int (bn l5), .int v, .int (bn l6), .int (bn l7)], [], σ)) ((congrArg (fun w => bn l5 + w) bl_1).trans (bn_add l5 1)) ?_
      refine bGo hA 4 13 (145, .goto (-128), 3, 78, 10, [], []) rfl rfl rfl ?_
      exact ((h.1 c1).2 c2).2
  · refine bGo hA 2 9 (76, .iload 7, 2, 42, 0, [7], []) rfl rfl rfl ?_
    refine bGo hA 2 10 (78, .aload_n 0, 1, 43, 0, [0], []) rfl rfl rfl ?_
    refine bGo hA 2 11 (79, .getfield 236, 3, 44, 0, [12, 84, 3, 131, 1, 0], []) rfl rfl rfl ?_
    refine ⟨rfl, ?_⟩
    refine bGo hA 2 12 (82, .iload_n 1, 1, 45, 0, [1], []) rfl rfl rfl ?_
    refine bGo hA 2 13 (83, .iaload, 1, 46, 0, [], []) rfl rfl rfl ?_
    refine ⟨rfl, (bIxP (x := l1) (n := 120) h_l1 (h.2 c1).1), ?_⟩
    refine bEqL (x := l1) h_l1 ?_
    refine bGo hA 2 14 (84, .if_icmp .ge (44), 3, 47, 70, [], []) rfl rfl rfl ?_
    refine bB_lt (x := l7) (y := (bi σ 131 l1)) h_l7 (bi_rg _ _ _) (fun c3 => ?_) (fun c3 => ?_)
    · refine bGo hA 2 15 (87, .aload_n 0, 1, 48, 0, [0], []) rfl rfl rfl ?_
      refine bGo hA 3 0 (88, .getfield 227, 3, 49, 0, [12, 81, 3, 128, 1, 0], []) rfl rfl rfl ?_
      refine ⟨rfl, ?_⟩
      refine bGo hA 3 1 (91, .bipush (48), 2, 50, 0, [], [(48, 0)]) rfl rfl rfl ?_
      refine bEqI bl_48 ?_
      refine bGo hA 3 2 (93, .iload 5, 2, 51, 0, [5], []) rfl rfl rfl ?_
      refine bGo hA 3 3 (95, .imul, 1, 52, 0, [], []) rfl rfl rfl ?_
      refine bEqI (bn_mul 48 l5) ?_
      refine bGo hA 3 4 (96, .iload 7, 2, 53, 0, [7], []) rfl rfl rfl ?_
      refine bGo hA 3 5 (98, .iadd, 1, 54, 0, [], []) rfl rfl rfl ?_
      refine bEqI (bn_add (48 * l5) l7) ?_
      refine bGo hA 3 6 (99, .iaload, 1, 55, 0, [], []) rfl rfl rfl ?_
      refine ⟨rfl, (bIxP (x := ((48 * l5) + l7)) (n := 3840) ((h.2 c1).2.1 c3).2.1 ((h.2 c1).2.1 c3).2.2.1), ?_⟩
      refine bEqL (x := ((48 * l5) + l7)) ((h.2 c1).2.1 c3).2.1 ?_
      refine bGo hA 3 7 (100, .aload_n 0, 1, 56, 0, [0], []) rfl rfl rfl ?_
      refine bGo hA 3 8 (101, .getfield 239, 3, 57, 0, [12, 85, 3, 132, 1, 0], []) rfl rfl rfl ?_
      refine ⟨rfl, ?_⟩
      refine bGo hA 3 9 (104, .bipush (48), 2, 58, 0, [], [(48, 0)]) rfl rfl rfl ?_
      refine bEqI bl_48 ?_
      refine bGo hA 3 10 (106, .iload_n 1, 1, 59, 0, [1], []) rfl rfl rfl ?_
      refine bGo hA 3 11 (107, .imul, 1, 60, 0, [], []) rfl rfl rfl ?_
      refine bEqI (bn_mul 48 l1) ?_
      refine bGo hA 3 12 (108, .iload 7, 2, 61, 0, [7], []) rfl rfl rfl ?_
      refine bGo hA 3 13 (110, .iadd, 1, 62, 0, [], []) rfl rfl rfl ?_
      refine bEqI (bn_add (48 * l1) l7) ?_
      refine bGo hA 3 14 (111, .iaload, 1, 63, 0, [], []) rfl rfl rfl ?_
      refine ⟨rfl, (bIxP (x := ((48 * l1) + l7)) (n := 5760) ((h.2 c1).2.1 c3).2.2.2.2.1 ((h.2 c1).2.1 c3).2.2.2.2.2.1), ?_⟩
      refine bEqL (x := ((48 * l1) + l7)) ((h.2 c1).2.1 c3).2.2.2.2.1 ?_
      refine bGo hA 3 15 (112, .if_icmp .ne (7), 3, 64, 66, [], []) rfl rfl rfl ?_
      refine bB_eq (x := (bi σ 128 ((48 * l5) + l7))) (y := (bi σ 132 ((48 * l1) + l7))) (bi_rg _ _ _) (bi_rg _ _ _) (fun c4 => ?_) (fun c4 => ?_)
      · refine bGo hA 4 0 (115, .iconst (1), 1, 65, 0, [], [(1, 0)]) rfl rfl rfl ?_
        refine bEqI bl_1 ?_
        refine bGo hA 4 1 (116, .goto (4), 3, 66, 67, [], []) rfl rfl rfl ?_
        refine bGo hA 4 3 (120, .istore 6, 2, 68, 0, [6], []) rfl rfl rfl ?_
        refine bGo hA 4 4 (122, .iinc 7 (1), 3, 69, 0, [7], [(1, 0)]) rfl rfl rfl ?_
        refine bEqC (fun v => A (69, [.ref 12, .int (bn l1), .int (bn l2), .int (bn l3), .int (bn l4), .int (bn l5), .int (bn 1), .int v], [], σ)) ((congrArg (fun w => bn l7 + w) bl_1).trans (bn_add l7 1)) ?_
        refine bGo hA 4 5 (125, .goto (-54), 3, 70, 39, [], []) rfl rfl rfl ?_
        exact (((h.2 c1).2.1 c3).2.2.2.2.2.2.1 c4).2
      · refine bGo hA 4 2 (119, .iconst (0), 1, 67, 0, [], [(0, 0)]) rfl rfl rfl ?_
        refine bEqI bl_0 ?_
        refine bGo hA 4 3 (120, .istore 6, 2, 68, 0, [6], []) rfl rfl rfl ?_
        refine bGo hA 4 4 (122, .iinc 7 (1), 3, 69, 0, [7], [(1, 0)]) rfl rfl rfl ?_
        refine bEqC (fun v => A (69, [.ref 12, .int (bn l1), .int (bn l2), .int (bn l3), .int (bn l4), .int (bn l5), .int (bn 0), .int v], [], σ)) ((congrArg (fun w => bn l7 + w) bl_1).trans (bn_add l7 1)) ?_
        refine bGo hA 4 5 (125, .goto (-54), 3, 70, 39, [], []) rfl rfl rfl ?_
        exact (((h.2 c1).2.1 c3).2.2.2.2.2.2.2 c4).2
    · refine bGo hA 4 6 (128, .iload 6, 2, 71, 0, [6], []) rfl rfl rfl ?_
      refine bGo hA 4 7 (130, .ifCond .eq (8), 3, 72, 74, [], []) rfl rfl rfl ?_
      refine bB_eq0 (x := l6) h_l6 (fun c5 => ?_) (fun c5 => ?_)
      · refine bGo hA 4 10 (138, .iload 4, 2, 75, 0, [4], []) rfl rfl rfl ?_
        refine bGo hA 4 11 (140, .istore 4, 2, 76, 0, [4], []) rfl rfl rfl ?_
        refine bGo hA 4 12 (142, .iinc 5 (1), 3, 77, 0, [5], [(1, 0)]) rfl rfl rfl ?_
        refine bEqC (fun v => A (77, [.ref 12, .int (bn l1), .int (bn l2), .int (bn l3), .int (bn l4), .int v, .int (bn l6), .int (bn l7)], [], σ)) ((congrArg (fun w => bn l5 + w) bl_1).trans (bn_add l5 1)) ?_
        refine bGo hA 4 13 (145, .goto (-128), 3, 78, 10, [], []) rfl rfl rfl ?_
        exact (((h.2 c1).2.2 c3).1 c5).2
      · refine bGo hA 4 8 (133, .iload 5, 2, 73, 0, [5], []) rfl rfl rfl ?_
        refine bGo hA 4 9 (135, .goto (5), 3, 74, 75, [], []) rfl rfl rfl ?_
        refine bGo hA 4 11 (140, .istore 4, 2, 76, 0, [4], []) rfl rfl rfl ?_
        refine bGo hA 4 12 (142, .iinc 5 (1), 3, 77, 0, [5], [(1, 0)]) rfl rfl rfl ?_
        refine bEqC (fun v => A (77, [.ref 12, .int (bn l1), .int (bn l2), .int (bn l3), .int (bn l5), .int v, .int (bn l6), .int (bn l7)], [], σ)) ((congrArg (fun w => bn l5 + w) bl_1).trans (bn_add l5 1)) ?_
        refine bGo hA 4 13 (145, .goto (-128), 3, 78, 10, [], []) rfl rfl rfl ?_
        exact (((h.2 c1).2.2 c3).2 c5).2

theorem sq270_94 {lvl : Nat} {C : bCall} {Q : bPost} {A : bPt → Prop} (hC : bMono C) (hA : bClosed lvl bm270 C Q A) {l1 : Int} {l2 : Int} {l3 : Int} {l4 : Int} {l5 : Int} {l6 : Int} {v7 : Value} {σ : bSt}  (h_l1 : bRg l1) (h_l2 : bRg l2) (h_l3 : bRg l3) (h_l4 : bRg l4) (h_l5 : bRg l5) (h_l6 : bRg l6)
  (h : ((l2 = 0 → A (101, [.ref 12, .int (bn l1), .int (bn l2), .int (bn l3), .int (bn l4), .int (bn l5), .int (bn l6), v7], [.int (bn 32), .int (bn l3), .int (bn l6)], σ)) ∧ (¬ l2 = 0 → A (101, [.ref 12, .int (bn l1), .int (bn l2), .int (bn l3), .int (bn l4), .int (bn l5), .int (bn l6), v7], [.int (bn 48), .int (bn l3), .int (bn l6)], σ)))) : A (94, [.ref 12, .int (bn l1), .int (bn l2), .int (bn l3), .int (bn l4), .int (bn l5), .int (bn l6), v7], [], σ) := by
  refine bGo hA 5 14 (179, .iload 6, 2, 95, 0, [6], []) rfl rfl rfl ?_
  refine bGo hA 5 15 (181, .iload_n 3, 1, 96, 0, [3], []) rfl rfl rfl ?_
  refine bGo hA 6 0 (182, .iload_n 2, 1, 97, 0, [2], []) rfl rfl rfl ?_
  refine bGo hA 6 1 (183, .ifCond .eq (8), 3, 98, 100, [], []) rfl rfl rfl ?_
  refine bB_eq0 (x := l2) h_l2 (fun c1 => ?_) (fun c1 => ?_)
  · refine bGo hA 6 4 (191, .bipush (32), 2, 101, 0, [], [(32, 0)]) rfl rfl rfl ?_
    refine bEqI bl_32 ?_
    exact (h.1 c1)
  · refine bGo hA 6 2 (186, .bipush (48), 2, 99, 0, [], [(48, 0)]) rfl rfl rfl ?_
    refine bEqI bl_48 ?_
    refine bGo hA 6 3 (188, .goto (5), 3, 100, 101, [], []) rfl rfl rfl ?_
    exact (h.2 c1)

theorem sq270_133 {lvl : Nat} {C : bCall} {Q : bPost} {A : bPt → Prop} (hC : bMono C) (hA : bClosed lvl bm270 C Q A) {l1 : Int} {v2 : Value} {v3 : Value} {l4 : Int} {l5 : Int} {v6 : Value} {v7 : Value} {σ : bSt}  (h_l1 : bRg l1) (h_l4 : bRg l4) (h_l5 : bRg l5)
  (h : ((l4 = (-1) → ((0 ≤ l5 ∧ l5 < 80) ∧ (((bi σ 121 l5) = 0 → (bRg (l5 + 1) ∧ A (133, [.ref 12, .int (bn l1), v2, (bUnl v3), .int (bn l5), .int (bn (l5 + 1)), v6, v7], [], σ))) ∧ (¬ (bi σ 121 l5) = 0 → (bRg (l5 + 1) ∧ A (133, [.ref 12, .int (bn l1), v2, (bUnl v3), .int (bn (-1)), .int (bn (l5 + 1)), v6, v7], [], σ)))))) ∧ (¬ l4 = (-1) → (bRg ((bi σ 12 73) + 1) ∧ ((0 ≤ l4 ∧ l4 < 80) ∧ ((0 ≤ l1 ∧ l1 < 120) ∧ A (193, [.ref 12, .int (bn l1), v2, v3, .int (bn l4), .int (bn 0), v6, v7], [], (bw (bw (bw (bw (bw (bw σ 12 73 ((bi σ 12 73) + 1)) 121 l4 ((bi σ 12 73) + 1)) 122 l4 (bi σ 101 l1)) 123 l4 (bi σ 102 l1)) 124 l4 (bi σ 103 l1)) 125 l4 (bi σ 105 l1))))))))) : A (133, [.ref 12, .int (bn l1), v2, v3, .int (bn l4), .int (bn l5), v6, v7], [], σ) := by
  refine bGo hA 8 5 (256, .iload 4, 2, 134, 0, [4], []) rfl rfl rfl ?_
  refine bGo hA 8 6 (258, .iconst (-1), 1, 135, 0, [], [(-1, 0)]) rfl rfl rfl ?_
  refine bEqI bl_m1 ?_
  refine bGo hA 8 7 (259, .if_icmp .ne (27), 3, 136, 147, [], []) rfl rfl rfl ?_
  refine bB_eq (x := l4) (y := (-1)) h_l4 (by decide : bRg (-1)) (fun c1 => ?_) (fun c1 => ?_)
  · refine bGo hA 8 8 (262, .aload_n 0, 1, 137, 0, [0], []) rfl rfl rfl ?_
    refine bGo hA 8 9 (263, .getfield 206, 3, 138, 0, [12, 74, 3, 121, 1, 0], []) rfl rfl rfl ?_
    refine ⟨rfl, ?_⟩
    refine bGo hA 8 10 (266, .iload 5, 2, 139, 0, [5], []) rfl rfl rfl ?_
    refine bGo hA 8 11 (268, .iaload, 1, 140, 0, [], []) rfl rfl rfl ?_
    refine ⟨rfl, (bIxP (x := l5) (n := 80) h_l5 (h.1 c1).1), ?_⟩
    refine bEqL (x := l5) h_l5 ?_
    refine bGo hA 8 12 (269, .ifCond .ne (8), 3, 141, 143, [], []) rfl rfl rfl ?_
    refine bB_eq0 (x := (bi σ 121 l5)) (bi_rg _ _ _) (fun c2 => ?_) (fun c2 => ?_)
    · refine bGo hA 8 13 (272, .iload 5, 2, 142, 0, [5], []) rfl rfl rfl ?_
      refine bGo hA 8 14 (274, .goto (4), 3, 143, 144, [], []) rfl rfl rfl ?_
      refine bGo hA 9 0 (278, .istore 4, 2, 145, 0, [4], []) rfl rfl rfl ?_
      refine bGo hA 9 1 (280, .iinc 5 (1), 3, 146, 0, [5], [(1, 0)]) rfl rfl rfl ?_
      refine bEqC (fun v => A (146, [.ref 12, .int (bn l1), v2, (bUnl v3), .int (bn l5), .int v, v6, v7], [], σ)) ((congrArg (fun w => bn l5 + w) bl_1).trans (bn_add l5 1)) ?_
      refine bGo hA 9 2 (283, .goto (-27), 3, 147, 133, [], []) rfl rfl rfl ?_
      exact ((h.1 c1).2.1 c2).2
    · refine bGo hA 8 15 (277, .iconst (-1), 1, 144, 0, [], [(-1, 0)]) rfl rfl rfl ?_
      refine bEqI bl_m1 ?_
      refine bGo hA 9 0 (278, .istore 4, 2, 145, 0, [4], []) rfl rfl rfl ?_
      refine bGo hA 9 1 (280, .iinc 5 (1), 3, 146, 0, [5], [(1, 0)]) rfl rfl rfl ?_
      refine bEqC (fun v => A (146, [.ref 12, .int (bn l1), v2, (bUnl v3), .int (bn (-1)), .int v, v6, v7], [], σ)) ((congrArg (fun w => bn l5 + w) bl_1).trans (bn_add l5 1)) ?_
      refine bGo hA 9 2 (283, .goto (-27), 3, 147, 133, [], []) rfl rfl rfl ?_
      exact ((h.1 c1).2.2 c2).2
  · refine bGo hA 9 3 (286, .aload_n 0, 1, 148, 0, [0], []) rfl rfl rfl ?_
    refine bGo hA 9 4 (287, .dup, 1, 149, 0, [], []) rfl rfl rfl ?_
    refine bGo hA 9 5 (288, .getfield 477, 3, 150, 0, [12, 73, 0, 0, 0, 0], []) rfl rfl rfl ?_
    refine ⟨rfl, ?_⟩
    refine bEqI (bn_bi σ 12 73) ?_
    refine bGo hA 9 6 (291, .iconst (1), 1, 151, 0, [], [(1, 0)]) rfl rfl rfl ?_
    refine bEqI bl_1 ?_
    refine bGo hA 9 7 (292, .iadd, 1, 152, 0, [], []) rfl rfl rfl ?_
    refine bEqI (bn_add (bi σ 12 73) 1) ?_
    refine bGo hA 9 8 (293, .putfield 477, 3, 153, 0, [12, 73, 0, 0, 0, 0], []) rfl rfl rfl ?_
    refine ⟨rfl, ?_⟩
    refine bGo hA 9 9 (296, .aload_n 0, 1, 154, 0, [0], []) rfl rfl rfl ?_
    refine bGo hA 9 10 (297, .getfield 206, 3, 155, 0, [12, 74, 3, 121, 1, 0], []) rfl rfl rfl ?_
    refine ⟨rfl, ?_⟩
    refine bGo hA 9 11 (300, .iload 4, 2, 156, 0, [4], []) rfl rfl rfl ?_
    refine bGo hA 9 12 (302, .aload_n 0, 1, 157, 0, [0], []) rfl rfl rfl ?_
    refine bGo hA 9 13 (303, .getfield 477, 3, 158, 0, [12, 73, 0, 0, 0, 0], []) rfl rfl rfl ?_
    refine ⟨rfl, ?_⟩
    refine bEqI ((bn_bi (bw σ 12 73 ((bi σ 12 73) + 1)) 12 73).trans (congrArg bn (bi_eq (h.2 c1).1))) ?_
    refine bGo hA 9 14 (306, .iastore, 1, 159, 0, [], []) rfl rfl rfl ?_
    refine ⟨rfl, (bIxP (x := l4) (n := 80) h_l4 (h.2 c1).2.1), by decide, ?_⟩
    refine bEqS (x := l4) h_l4 ?_
    refine bGo hA 9 15 (307, .aload_n 0, 1, 160, 0, [0], []) rfl rfl rfl ?_
    refine bGo hA 10 0 (308, .getfield 209, 3, 161, 0, [12, 75, 3, 122, 1, 0], []) rfl rfl rfl ?_
    refine ⟨rfl, ?_⟩
    refine bGo hA 10 1 (311, .iload 4, 2, 162, 0, [4], []) rfl rfl rfl ?_
    refine bGo hA 10 2 (313, .aload_n 0, 1, 163, 0, [0], []) rfl rfl rfl ?_
    refine bGo hA 10 3 (314, .getfield 146, 3, 164, 0, [12, 50, 3, 101, 1, 0], []) rfl rfl rfl ?_
    refine ⟨rfl, ?_⟩
    refine bGo hA 10 4 (317, .iload_n 1, 1, 165, 0, [1], []) rfl rfl rfl ?_
    refine bGo hA 10 5 (318, .iaload, 1, 166, 0, [], []) rfl rfl rfl ?_
    refine ⟨rfl, (bIxP (x := l1) (n := 120) h_l1 (h.2 c1).2.2.1), ?_⟩
    refine bEqL (x := l1) h_l1 ?_
    refine bEqI (congrArg bn (show bi (bw (bw σ 12 73 ((bi σ 12 73) + 1)) 121 l4 ((bi σ 12 73) + 1)) 101 l1 = (bi σ 101 l1) from ((bi_ne (by decide)).trans (bi_ne (by decide))))) ?_
    refine bGo hA 10 6 (319, .iastore, 1, 167, 0, [], []) rfl rfl rfl ?_
    refine ⟨rfl, (bIxP (x := l4) (n := 80) h_l4 (h.2 c1).2.1), by decide, ?_⟩
    refine bEqS (x := l4) h_l4 ?_
    refine bGo hA 10 7 (320, .aload_n 0, 1, 168, 0, [0], []) rfl rfl rfl ?_
    refine bGo hA 10 8 (321, .getfield 212, 3, 169, 0, [12, 76, 3, 123, 1, 0], []) rfl rfl rfl ?_
    refine ⟨rfl, ?_⟩
    refine bGo hA 10 9 (324, .iload 4, 2, 170, 0, [4], []) rfl rfl rfl ?_
    refine bGo hA 10 10 (326, .aload_n 0, 1, 171, 0, [0], []) rfl rfl rfl ?_
    refine bGo hA 10 11 (327, .getfield 149, 3, 172, 0, [12, 51, 3, 102, 1, 0], []) rfl rfl rfl ?_
    refine ⟨rfl, ?_⟩
    refine bGo hA 10 12 (330, .iload_n 1, 1, 173, 0, [1], []) rfl rfl rfl ?_
    refine bGo hA 10 13 (331, .iaload, 1, 174, 0, [], []) rfl rfl rfl ?_
    refine ⟨rfl, (bIxP (x := l1) (n := 120) h_l1 (h.2 c1).2.2.1), ?_⟩
    refine bEqL (x := l1) h_l1 ?_
    refine bEqI (congrArg bn (show bi (bw (bw (bw σ 12 73 ((bi σ 12 73) + 1)) 121 l4 ((bi σ 12 73) + 1)) 122 l4 (bi σ 101 l1)) 102 l1 = (bi σ 102 l1) from (((bi_ne (by decide)).trans (bi_ne (by decide))).trans (bi_ne (by decide))))) ?_
    refine bGo hA 10 14 (332, .iastore, 1, 175, 0, [], []) rfl rfl rfl ?_
    refine ⟨rfl, (bIxP (x := l4) (n := 80) h_l4 (h.2 c1).2.1), by decide, ?_⟩
    refine bEqS (x := l4) h_l4 ?_
    refine bGo hA 10 15 (333, .aload_n 0, 1, 176, 0, [0], []) rfl rfl rfl ?_
    refine bGo hA 11 0 (334, .getfield 215, 3, 177, 0, [12, 77, 3, 124, 1, 0], []) rfl rfl rfl ?_
    refine ⟨rfl, ?_⟩
    refine bGo hA 11 1 (337, .iload 4, 2, 178, 0, [4], []) rfl rfl rfl ?_
    refine bGo hA 11 2 (339, .aload_n 0, 1, 179, 0, [0], []) rfl rfl rfl ?_
    refine bGo hA 11 3 (340, .getfield 152, 3, 180, 0, [12, 52, 3, 103, 1, 0], []) rfl rfl rfl ?_
    refine ⟨rfl, ?_⟩
    refine bGo hA 11 4 (343, .iload_n 1, 1, 181, 0, [1], []) rfl rfl rfl ?_
    refine bGo hA 11 5 (344, .iaload, 1, 182, 0, [], []) rfl rfl rfl ?_
    refine ⟨rfl, (bIxP (x := l1) (n := 120) h_l1 (h.2 c1).2.2.1), ?_⟩
    refine bEqL (x := l1) h_l1 ?_
    refine bEqI (congrArg bn (show bi (bw (bw (bw (bw σ 12 73 ((bi σ 12 73) + 1)) 121 l4 ((bi σ 12 73) + 1)) 122 l4 (bi σ 101 l1)) 123 l4 (bi σ 102 l1)) 103 l1 = (bi σ 103 l1) from ((((bi_ne (by decide)).trans (bi_ne (by decide))).trans (bi_ne (by decide))).trans (bi_ne (by decide))))) ?_
    refine bGo hA 11 6 (345, .iastore, 1, 183, 0, [], []) rfl rfl rfl ?_
    refine ⟨rfl, (bIxP (x := l4) (n := 80) h_l4 (h.2 c1).2.1), by decide, ?_⟩
    refine bEqS (x := l4) h_l4 ?_
    refine bGo hA 11 7 (346, .aload_n 0, 1, 184, 0, [0], []) rfl rfl rfl ?_
    refine bGo hA 11 8 (347, .getfield 218, 3, 185, 0, [12, 78, 3, 125, 1, 0], []) rfl rfl rfl ?_
    refine ⟨rfl, ?_⟩
    refine bGo hA 11 9 (350, .iload 4, 2, 186, 0, [4], []) rfl rfl rfl ?_
    refine bGo hA 11 10 (352, .aload_n 0, 1, 187, 0, [0], []) rfl rfl rfl ?_
    refine bGo hA 11 11 (353, .getfield 158, 3, 188, 0, [12, 54, 3, 105, 1, 0], []) rfl rfl rfl ?_
    refine ⟨rfl, ?_⟩
    refine bGo hA 11 12 (356, .iload_n 1, 1, 189, 0, [1], []) rfl rfl rfl ?_
    refine bGo hA 11 13 (357, .iaload, 1, 190, 0, [], []) rfl rfl rfl ?_
    refine ⟨rfl, (bIxP (x := l1) (n := 120) h_l1 (h.2 c1).2.2.1), ?_⟩
    refine bEqL (x := l1) h_l1 ?_
    refine bEqI (congrArg bn (show bi (bw (bw (bw (bw (bw σ 12 73 ((bi σ 12 73) + 1)) 121 l4 ((bi σ 12 73) + 1)) 122 l4 (bi σ 101 l1)) 123 l4 (bi σ 102 l1)) 124 l4 (bi σ 103 l1)) 105 l1 = (bi σ 105 l1) from (((((bi_ne (by decide)).trans (bi_ne (by decide))).trans (bi_ne (by decide))).trans (bi_ne (by decide))).trans (bi_ne (by decide))))) ?_
    refine bGo hA 11 14 (358, .iastore, 1, 191, 0, [], []) rfl rfl rfl ?_
    refine ⟨rfl, (bIxP (x := l4) (n := 80) h_l4 (h.2 c1).2.1), by decide, ?_⟩
    refine bEqS (x := l4) h_l4 ?_
    refine bGo hA 11 15 (359, .iconst (0), 1, 192, 0, [], [(0, 0)]) rfl rfl rfl ?_
    refine bEqI bl_0 ?_
    refine bGo hA 12 0 (360, .istore 5, 2, 193, 0, [5], []) rfl rfl rfl ?_
    exact (h.2 c1).2.2.2

theorem sq270_101 {lvl : Nat} {C : bCall} {Q : bPost} {A : bPt → Prop} (hC : bMono C) (hA : bClosed lvl bm270 C Q A) {l1 : Int} {l2 : Int} {l3 : Int} {l4 : Int} {l5 : Int} {l6 : Int} {v7 : Value} {t0 : Int} {t1 : Int} {t2 : Int} {σ : bSt}  (h_l1 : bRg l1) (h_l2 : bRg l2) (h_l3 : bRg l3) (h_l4 : bRg l4) (h_l5 : bRg l5) (h_l6 : bRg l6) (h_t0 : bRg t0) (h_t1 : bRg t1) (h_t2 : bRg t2)
  (h : (bRg (t1 + t0) ∧ ((t2 < (t1 + t0) → ((0 ≤ l6 ∧ l6 < 80) ∧ (((0 : Int) < (bi σ 121 l6) → ((l5 = (-1) → (bRg (l6 + 1) ∧ A (94, [.ref 12, .int (bn l1), .int (bn l2), .int (bn l3), .int (bn l4), .int (bn l6), .int (bn (l6 + 1)), v7], [], σ))) ∧ (¬ l5 = (-1) → ((0 ≤ l5 ∧ l5 < 80) ∧ (((bi σ 121 l6) < (bi σ 121 l5) → (bRg (l6 + 1) ∧ A (94, [.ref 12, .int (bn l1), .int (bn l2), .int (bn l3), .int (bn l4), .int (bn l6), .int (bn (l6 + 1)), v7], [], σ))) ∧ (¬ (bi σ 121 l6) < (bi σ 121 l5) → (bRg (l6 + 1) ∧ A (94, [.ref 12, .int (bn l1), .int (bn l2), .int (bn l3), .int (bn l4), .int (bn l5), .int (bn (l6 + 1)), v7], [], σ)))))))) ∧ (¬ (0 : Int) < (bi σ 121 l6) → (bRg (l6 + 1) ∧ A (94, [.ref 12, .int (bn l1), .int (bn l2), .int (bn l3), .int (bn l4), .int (bn l5), .int (bn (l6 + 1)), v7], [], σ)))))) ∧ (¬ t2 < (t1 + t0) → ((0 ≤ l5 ∧ l5 < 80) ∧ A (133, [.ref 12, .int (bn l1), .int (bn l2), .int (bn l3), .int (bn l4), .int (bn l3), .int (bn l6), v7], [], (bw σ 121 l5 0))))))) : A (101, [.ref 12, .int (bn l1), .int (bn l2), .int (bn l3), .int (bn l4), .int (bn l5), .int (bn l6), v7], [.int (bn t0), .int (bn t1), .int (bn t2)], σ) := by
  refine bGo hA 6 5 (193, .iadd, 1, 102, 0, [], []) rfl rfl rfl ?_
  refine bEqI (bn_add t1 t0) ?_
  refine bGo hA 6 6 (194, .if_icmp .ge (51), 3, 103, 126, [], []) rfl rfl rfl ?_
  refine bB_lt (x := t2) (y := (t1 + t0)) h_t2 h.1 (fun c1 => ?_) (fun c1 => ?_)
  · refine bGo hA 6 7 (197, .aload_n 0, 1, 104, 0, [0], []) rfl rfl rfl ?_
    refine bGo hA 6 8 (198, .getfield 206, 3, 105, 0, [12, 74, 3, 121, 1, 0], []) rfl rfl rfl ?_
    refine ⟨rfl, ?_⟩
    refine bGo hA 6 9 (201, .iload 6, 2, 106, 0, [6], []) rfl rfl rfl ?_
    refine bGo hA 6 10 (203, .iaload, 1, 107, 0, [], []) rfl rfl rfl ?_
    refine ⟨rfl, (bIxP (x := l6) (n := 80) h_l6 (h.2.1 c1).1), ?_⟩
    refine bEqL (x := l6) h_l6 ?_
    refine bGo hA 6 11 (204, .ifCond .le (31), 3, 108, 122, [], []) rfl rfl rfl ?_
    refine bB_gt0 (x := (bi σ 121 l6)) (bi_rg _ _ _) (fun c2 => ?_) (fun c2 => ?_)
    · refine bGo hA 6 12 (207, .iload 5, 2, 109, 0, [5], []) rfl rfl rfl ?_
      refine bGo hA 6 13 (209, .iconst (-1), 1, 110, 0, [], [(-1, 0)]) rfl rfl rfl ?_
      refine bEqI bl_m1 ?_
      refine bGo hA 6 14 (210, .if_icmp .eq (20), 3, 111, 120, [], []) rfl rfl rfl ?_
      refine bB_eq (x := l5) (y := (-1)) h_l5 (by decide : bRg (-1)) (fun c3 => ?_) (fun c3 => ?_)
      · refine bGo hA 7 8 (230, .iload 6, 2, 121, 0, [6], []) rfl rfl rfl ?_
        refine bGo hA 7 9 (232, .goto (5), 3, 122, 123, [], []) rfl rfl rfl ?_
        refine bGo hA 7 11 (237, .istore 5, 2, 124, 0, [5], []) rfl rfl rfl ?_
        refine bGo hA 7 12 (239, .iinc 6 (1), 3, 125, 0, [6], [(1, 0)]) rfl rfl rfl ?_
        refine bEqC (fun v => A (125, [.ref 12, .int (bn l1), .int (bn l2), .int (bn l3), .int (bn l4), .int (bn l6), .int v, v7], [], σ)) ((congrArg (fun w => bn l6 + w) bl_1).trans (bn_add l6 1)) ?_
        refine bGo hA 7 13 (242, .goto (-63), 3, 126, 94, [], []) rfl rfl rfl ?_
        exact (((h.2.1 c1).2.1 c2).1 c3).2
      · refine bGo hA 6 15 (213, .aload_n 0, 1, 112, 0, [0], []) rfl rfl rfl ?_
        refine bGo hA 7 0 (214, .getfield 206, 3, 113, 0, [12, 74, 3, 121, 1, 0], []) rfl rfl rfl ?_
        refine ⟨rfl, ?_⟩
        refine bGo hA 7 1 (217, .iload 6, 2, 114, 0, [6], []) rfl rfl rfl ?_
        refine bGo hA 7 2 (219, .iaload, 1, 115, 0, [], []) rfl rfl rfl ?_
        refine ⟨rfl, (bIxP (x := l6) (n := 80) h_l6 (h.2.1 c1).1), ?_⟩
        refine bEqL (x := l6) h_l6 ?_
        refine bGo hA 7 3 (220, .aload_n 0, 1, 116, 0, [0], []) rfl rfl rfl ?_
        refine bGo hA 7 4 (221, .getfield 206, 3, 117, 0, [12, 74, 3, 121, 1, 0], []) rfl rfl rfl ?_
        refine ⟨rfl, ?_⟩
        refine bGo hA 7 5 (224, .iload 5, 2, 118, 0, [5], []) rfl rfl rfl ?_
        refine bGo hA 7 6 (226, .iaload, 1, 119, 0, [], []) rfl rfl rfl ?_
        refine ⟨rfl, (bIxP (x := l5) (n := 80) h_l5 (((h.2.1 c1).2.1 c2).2 c3).1), ?_⟩
        refine bEqL (x := l5) h_l5 ?_
        refine bGo hA 7 7 (227, .if_icmp .ge (8), 3, 120, 122, [], []) rfl rfl rfl ?_
        refine bB_lt (x := (bi σ 121 l6)) (y := (bi σ 121 l5)) (bi_rg _ _ _) (bi_rg _ _ _) (fun c4 => ?_) (fun c4 => ?_)
        · refine bGo hA 7 8 (230, .iload 6, 2, 121, 0, [6], []) rfl rfl rfl ?_
          refine bGo hA 7 9 (232, .goto (5), 3, 122, 123, [], []) rfl rfl rfl ?_
          refine bGo hA 7 11 (237, .istore 5, 2, 124, 0, [5], []) rfl rfl rfl ?_
          refine bGo hA 7 12 (239, .iinc 6 (1), 3, 125, 0, [6], [(1, 0)]) rfl rfl rfl ?_
          refine bEqC (fun v => A (125, [.ref 12, .int (bn l1), .int (bn l2), .int (bn l3), .int (bn l4), .int (bn l6), .int v, v7], [], σ)) ((congrArg (fun w => bn l6 + w) bl_1).trans (bn_add l6 1)) ?_
          refine bGo hA 7 13 (242, .goto (-63), 3, 126, 94, [], []) rfl rfl rfl ?_
          exact ((((h.2.1 c1).2.1 c2).2 c3).2.1 c4).2
        · refine bGo hA 7 10 (235, .iload 5, 2, 123, 0, [5], []) rfl rfl rfl ?_
          refine bGo hA 7 11 (237, .istore 5, 2, 124, 0, [5], []) rfl rfl rfl ?_
          refine bGo hA 7 12 (239, .iinc 6 (1), 3, 125, 0, [6], [(1, 0)]) rfl rfl rfl ?_
          refine bEqC (fun v => A (125, [.ref 12, .int (bn l1), .int (bn l2), .int (bn l3), .int (bn l4), .int (bn l5), .int v, v7], [], σ)) ((congrArg (fun w => bn l6 + w) bl_1).trans (bn_add l6 1)) ?_
          refine bGo hA 7 13 (242, .goto (-63), 3, 126, 94, [], []) rfl rfl rfl ?_
          exact ((((h.2.1 c1).2.1 c2).2 c3).2.2 c4).2
    · refine bGo hA 7 10 (235, .iload 5, 2, 123, 0, [5], []) rfl rfl rfl ?_
      refine bGo hA 7 11 (237, .istore 5, 2, 124, 0, [5], []) rfl rfl rfl ?_
      refine bGo hA 7 12 (239, .iinc 6 (1), 3, 125, 0, [6], [(1, 0)]) rfl rfl rfl ?_
      refine bEqC (fun v => A (125, [.ref 12, .int (bn l1), .int (bn l2), .int (bn l3), .int (bn l4), .int (bn l5), .int v, v7], [], σ)) ((congrArg (fun w => bn l6 + w) bl_1).trans (bn_add l6 1)) ?_
      refine bGo hA 7 13 (242, .goto (-63), 3, 126, 94, [], []) rfl rfl rfl ?_
      exact ((h.2.1 c1).2.2 c2).2
  · refine bGo hA 7 14 (245, .aload_n 0, 1, 127, 0, [0], []) rfl rfl rfl ?_
    refine bGo hA 7 15 (246, .getfield 206, 3, 128, 0, [12, 74, 3, 121, 1, 0], []) rfl rfl rfl ?_
    refine ⟨rfl, ?_⟩
    refine bGo hA 8 0 (249, .iload 5, 2, 129, 0, [5], []) rfl rfl rfl ?_
    refine bGo hA 8 1 (251, .iconst (0), 1, 130, 0, [], [(0, 0)]) rfl rfl rfl ?_
    refine bEqI bl_0 ?_
    refine bGo hA 8 2 (252, .iastore, 1, 131, 0, [], []) rfl rfl rfl ?_
    refine ⟨rfl, (bIxP (x := l5) (n := 80) h_l5 (h.2.2 c1).1), by decide, ?_⟩
    refine bEqS (x := l5) h_l5 ?_
    refine bGo hA 8 3 (253, .iload_n 3, 1, 132, 0, [3], []) rfl rfl rfl ?_
    refine bGo hA 8 4 (254, .istore 5, 2, 133, 0, [5], []) rfl rfl rfl ?_
    exact (h.2.2 c1).2

theorem sq270_193 {lvl : Nat} {C : bCall} {Q : bPost} {A : bPt → Prop} (hC : bMono C) (hA : bClosed lvl bm270 C Q A) {l1 : Int} {v2 : Value} {v3 : Value} {l4 : Int} {l5 : Int} {v6 : Value} {v7 : Value} {σ : bSt}  (h_l1 : bRg l1) (h_l4 : bRg l4) (h_l5 : bRg l5)
  (h : ((0 ≤ l1 ∧ l1 < 120) ∧ ((l5 < (bi σ 105 l1) → (bRg (40 * l4) ∧ (bRg ((40 * l4) + l5) ∧ (bRg (40 * l1) ∧ (bRg ((40 * l1) + l5) ∧ ((0 ≤ ((40 * l1) + l5) ∧ ((40 * l1) + l5) < 4800) ∧ (C 262 [.ref 12, .int (bn (bi σ 106 ((40 * l1) + l5)))] σ (bRn (fun r4 s2 => ((0 ≤ ((40 * l4) + l5) ∧ ((40 * l4) + l5) < 3200) ∧ (bRg (l5 + 1) ∧ A (193, [.ref 12, .int (bn l1), v2, v3, .int (bn l4), .int (bn (l5 + 1)), v6, v7], [], (bw s2 126 ((40 * l4) + l5) r4))))))))))))) ∧ (¬ l5 < (bi σ 105 l1) → ((0 ≤ l4 ∧ l4 < 80) ∧ A (229, [.ref 12, .int (bn l1), v2, v3, .int (bn l4), .int (bn 0), v6, v7], [], (bw σ 127 l4 (bi σ 131 l1)))))))) : A (193, [.ref 12, .int (bn l1), v2, v3, .int (bn l4), .int (bn l5), v6, v7], [], σ) := by
  refine bGo hA 12 1 (362, .iload 5, 2, 194, 0, [5], []) rfl rfl rfl ?_
  refine bGo hA 12 2 (364, .aload_n 0, 1, 195, 0, [0], []) rfl rfl rfl ?_
  refine bGo hA 12 3 (365, .getfield 158, 3, 196, 0, [12, 54, 3, 105, 1, 0], []) rfl rfl rfl ?_
  refine ⟨rfl, ?_⟩
  refine bGo hA 12 4 (368, .iload_n 1, 1, 197, 0, [1], []) rfl rfl rfl ?_
  refine bGo hA 12 5 (369, .iaload, 1, 198, 0, [], []) rfl rfl rfl ?_
  refine ⟨rfl, (bIxP (x := l1) (n := 120) h_l1 h.1), ?_⟩
  refine bEqL (x := l1) h_l1 ?_
  refine bGo hA 12 6 (370, .if_icmp .ge (38), 3, 199, 219, [], []) rfl rfl rfl ?_
  refine bB_lt (x := l5) (y := (bi σ 105 l1)) h_l5 (bi_rg _ _ _) (fun c1 => ?_) (fun c1 => ?_)
  · refine bGo hA 12 7 (373, .aload_n 0, 1, 200, 0, [0], []) rfl rfl rfl ?_
    refine bGo hA 12 8 (374, .getfield 221, 3, 201, 0, [12, 79, 3, 126, 1, 0], []) rfl rfl rfl ?_
    refine ⟨rfl, ?_⟩
    refine bGo hA 12 9 (377, .bipush (40), 2, 202, 0, [], [(40, 0)]) rfl rfl rfl ?_
    refine bEqI bl_40 ?_
    refine bGo hA 12 10 (379, .iload 4, 2, 203, 0, [4], []) rfl rfl rfl ?_
    refine bGo hA 12 11 (381, .imul, 1, 204, 0, [], []) rfl rfl rfl ?_
    refine bEqI (bn_mul 40 l4) ?_
    refine bGo hA 12 12 (382, .iload 5, 2, 205, 0, [5], []) rfl rfl rfl ?_
    refine bGo hA 12 13 (384, .iadd, 1, 206, 0, [], []) rfl rfl rfl ?_
    refine bEqI (bn_add (40 * l4) l5) ?_
    refine bGo hA 12 14 (385, .aload_n 0, 1, 207, 0, [0], []) rfl rfl rfl ?_
    refine bGo hA 12 15 (386, .aload_n 0, 1, 208, 0, [0], []) rfl rfl rfl ?_
    refine bGo hA 13 0 (387, .getfield 161, 3, 209, 0, [12, 55, 3, 106, 1, 0], []) rfl rfl rfl ?_
    refine ⟨rfl, ?_⟩
    refine bGo hA 13 1 (390, .bipush (40), 2, 210, 0, [], [(40, 0)]) rfl rfl rfl ?_
    refine bEqI bl_40 ?_
    refine bGo hA 13 2 (392, .iload_n 1, 1, 211, 0, [1], []) rfl rfl rfl ?_
    refine bGo hA 13 3 (393, .imul, 1, 212, 0, [], []) rfl rfl rfl ?_
    refine bEqI (bn_mul 40 l1) ?_
    refine bGo hA 13 4 (394, .iload 5, 2, 213, 0, [5], []) rfl rfl rfl ?_
    refine bGo hA 13 5 (396, .iadd, 1, 214, 0, [], []) rfl rfl rfl ?_
    refine bEqI (bn_add (40 * l1) l5) ?_
    refine bGo hA 13 6 (397, .iaload, 1, 215, 0, [], []) rfl rfl rfl ?_
    refine ⟨rfl, (bIxP (x := ((40 * l1) + l5)) (n := 4800) (h.2.1 c1).2.2.2.1 (h.2.1 c1).2.2.2.2.1), ?_⟩
    refine bEqL (x := ((40 * l1) + l5)) (h.2.1 c1).2.2.2.1 ?_
    refine bGo hA 13 7 (398, .invokevirtual 459, 3, 216, 0, [0, 12, 262, 1], []) rfl rfl rfl ?_
    refine ⟨rfl, ?_⟩
    refine hC _ _ _ _ _ (bRn_e (fun r4 s2 q5 k3 => ?_)) (h.2.1 c1).2.2.2.2.2
    show A (216, [.ref 12, .int (bn l1), v2, v3, .int (bn l4), .int (bn l5), v6, v7], [.int (bn r4), .int (bn ((40 * l4) + l5)), .ref 126], s2)
    refine bGo hA 13 8 (401, .iastore, 1, 217, 0, [], []) rfl rfl rfl ?_
    refine ⟨rfl, (bIxP (x := ((40 * l4) + l5)) (n := 3200) (h.2.1 c1).2.1 k3.1), by decide, ?_⟩
    refine bEqS (x := ((40 * l4) + l5)) (h.2.1 c1).2.1 ?_
    refine bGo hA 13 9 (402, .iinc 5 (1), 3, 218, 0, [5], [(1, 0)]) rfl rfl rfl ?_
    refine bEqC (fun v => A (218, [.ref 12, .int (bn l1), v2, v3, .int (bn l4), .int v, v6, v7], [], (bw s2 126 ((40 * l4) + l5) r4))) ((congrArg (fun w => bn l5 + w) bl_1).trans (bn_add l5 1)) ?_
    refine bGo hA 13 10 (405, .goto (-43), 3, 219, 193, [], []) rfl rfl rfl ?_
    exact k3.2.2
  · refine bGo hA 13 11 (408, .aload_n 0, 1, 220, 0, [0], []) rfl rfl rfl ?_
    refine bGo hA 13 12 (409, .getfield 224, 3, 221, 0, [12, 80, 3, 127, 1, 0], []) rfl rfl rfl ?_
    refine ⟨rfl, ?_⟩
    refine bGo hA 13 13 (412, .iload 4, 2, 222, 0, [4], []) rfl rfl rfl ?_
    refine bGo hA 13 14 (414, .aload_n 0, 1, 223, 0, [0], []) rfl rfl rfl ?_
    refine bGo hA 13 15 (415, .getfield 236, 3, 224, 0, [12, 84, 3, 131, 1, 0], []) rfl rfl rfl ?_
    refine ⟨rfl, ?_⟩
    refine bGo hA 14 0 (418, .iload_n 1, 1, 225, 0, [1], []) rfl rfl rfl ?_
    refine bGo hA 14 1 (419, .iaload, 1, 226, 0, [], []) rfl rfl rfl ?_
    refine ⟨rfl, (bIxP (x := l1) (n := 120) h_l1 h.1), ?_⟩
    refine bEqL (x := l1) h_l1 ?_
    refine bGo hA 14 2 (420, .iastore, 1, 227, 0, [], []) rfl rfl rfl ?_
    refine ⟨rfl, (bIxP (x := l4) (n := 80) h_l4 (h.2.2 c1).1), by decide, ?_⟩
    refine bEqS (x := l4) h_l4 ?_
    refine bGo hA 14 3 (421, .iconst (0), 1, 228, 0, [], [(0, 0)]) rfl rfl rfl ?_
    refine bEqI bl_0 ?_
    refine bGo hA 14 4 (422, .istore 5, 2, 229, 0, [5], []) rfl rfl rfl ?_
    exact (h.2.2 c1).2

theorem sq270_229 {lvl : Nat} {C : bCall} {Q : bPost} {A : bPt → Prop} (hC : bMono C) (hA : bClosed lvl bm270 C Q A) {l1 : Int} {v2 : Value} {v3 : Value} {l4 : Int} {l5 : Int} {v6 : Value} {v7 : Value} {σ : bSt}  (h_l1 : bRg l1) (h_l4 : bRg l4) (h_l5 : bRg l5)
  (h : ((0 ≤ l1 ∧ l1 < 120) ∧ ((l5 < (bi σ 131 l1) → (bRg (48 * l4) ∧ (bRg ((48 * l4) + l5) ∧ (bRg (48 * l1) ∧ (bRg ((48 * l1) + l5) ∧ ((0 ≤ ((48 * l1) + l5) ∧ ((48 * l1) + l5) < 5760) ∧ ((0 ≤ ((48 * l4) + l5) ∧ ((48 * l4) + l5) < 3840) ∧ (bRg (l5 + 1) ∧ A (229, [.ref 12, .int (bn l1), v2, v3, .int (bn l4), .int (bn (l5 + 1)), v6, v7], [], (bw σ 128 ((48 * l4) + l5) (bi σ 132 ((48 * l1) + l5)))))))))))) ∧ (¬ l5 < (bi σ 131 l1) → ((0 ≤ l4 ∧ l4 < 80) ∧ Q (.inl none) (bw σ 129 l4 (bi σ 130 l1))))))) : A (229, [.ref 12, .int (bn l1), v2, v3, .int (bn l4), .int (bn l5), v6, v7], [], σ) := by
  refine bGo hA 14 5 (424, .iload 5, 2, 230, 0, [5], []) rfl rfl rfl ?_
  refine bGo hA 14 6 (426, .aload_n 0, 1, 231, 0, [0], []) rfl rfl rfl ?_
  refine bGo hA 14 7 (427, .getfield 236, 3, 232, 0, [12, 84, 3, 131, 1, 0], []) rfl rfl rfl ?_
  refine ⟨rfl, ?_⟩
  refine bGo hA 14 8 (430, .iload_n 1, 1, 233, 0, [1], []) rfl rfl rfl ?_
  refine bGo hA 14 9 (431, .iaload, 1, 234, 0, [], []) rfl rfl rfl ?_
  refine ⟨rfl, (bIxP (x := l1) (n := 120) h_l1 h.1), ?_⟩
  refine bEqL (x := l1) h_l1 ?_
  refine bGo hA 14 10 (432, .if_icmp .ge (34), 3, 235, 253, [], []) rfl rfl rfl ?_
  refine bB_lt (x := l5) (y := (bi σ 131 l1)) h_l5 (bi_rg _ _ _) (fun c1 => ?_) (fun c1 => ?_)
  · refine bGo hA 14 11 (435, .aload_n 0, 1, 236, 0, [0], []) rfl rfl rfl ?_
    refine bGo hA 14 12 (436, .getfield 227, 3, 237, 0, [12, 81, 3, 128, 1, 0], []) rfl rfl rfl ?_
    refine ⟨rfl, ?_⟩
    refine bGo hA 14 13 (439, .bipush (48), 2, 238, 0, [], [(48, 0)]) rfl rfl rfl ?_
    refine bEqI bl_48 ?_
    refine bGo hA 14 14 (441, .iload 4, 2, 239, 0, [4], []) rfl rfl rfl ?_
    refine bGo hA 14 15 (443, .imul, 1, 240, 0, [], []) rfl rfl rfl ?_
    refine bEqI (bn_mul 48 l4) ?_
    refine bGo hA 15 0 (444, .iload 5, 2, 241, 0, [5], []) rfl rfl rfl ?_
    refine bGo hA 15 1 (446, .iadd, 1, 242, 0, [], []) rfl rfl rfl ?_
    refine bEqI (bn_add (48 * l4) l5) ?_
    refine bGo hA 15 2 (447, .aload_n 0, 1, 243, 0, [0], []) rfl rfl rfl ?_
    refine bGo hA 15 3 (448, .getfield 239, 3, 244, 0, [12, 85, 3, 132, 1, 0], []) rfl rfl rfl ?_
    refine ⟨rfl, ?_⟩
    refine bGo hA 15 4 (451, .bipush (48), 2, 245, 0, [], [(48, 0)]) rfl rfl rfl ?_
    refine bEqI bl_48 ?_
    refine bGo hA 15 5 (453, .iload_n 1, 1, 246, 0, [1], []) rfl rfl rfl ?_
    refine bGo hA 15 6 (454, .imul, 1, 247, 0, [], []) rfl rfl rfl ?_
    refine bEqI (bn_mul 48 l1) ?_
    refine bGo hA 15 7 (455, .iload 5, 2, 248, 0, [5], []) rfl rfl rfl ?_
    refine bGo hA 15 8 (457, .iadd, 1, 249, 0, [], []) rfl rfl rfl ?_
    refine bEqI (bn_add (48 * l1) l5) ?_
    refine bGo hA 15 9 (458, .iaload, 1, 250, 0, [], []) rfl rfl rfl ?_
    refine ⟨rfl, (bIxP (x := ((48 * l1) + l5)) (n := 5760) (h.2.1 c1).2.2.2.1 (h.2.1 c1).2.2.2.2.1), ?_⟩
    refine bEqL (x := ((48 * l1) + l5)) (h.2.1 c1).2.2.2.1 ?_
    refine bGo hA 15 10 (459, .iastore, 1, 251, 0, [], []) rfl rfl rfl ?_
    refine ⟨rfl, (bIxP (x := ((48 * l4) + l5)) (n := 3840) (h.2.1 c1).2.1 (h.2.1 c1).2.2.2.2.2.1), by decide, ?_⟩
    refine bEqS (x := ((48 * l4) + l5)) (h.2.1 c1).2.1 ?_
    refine bGo hA 15 11 (460, .iinc 5 (1), 3, 252, 0, [5], [(1, 0)]) rfl rfl rfl ?_
    refine bEqC (fun v => A (252, [.ref 12, .int (bn l1), v2, v3, .int (bn l4), .int v, v6, v7], [], (bw σ 128 ((48 * l4) + l5) (bi σ 132 ((48 * l1) + l5))))) ((congrArg (fun w => bn l5 + w) bl_1).trans (bn_add l5 1)) ?_
    refine bGo hA 15 12 (463, .goto (-39), 3, 253, 229, [], []) rfl rfl rfl ?_
    exact (h.2.1 c1).2.2.2.2.2.2.2
  · refine bGo hA 15 13 (466, .aload_n 0, 1, 254, 0, [0], []) rfl rfl rfl ?_
    refine bGo hA 15 14 (467, .getfield 230, 3, 255, 0, [12, 82, 3, 129, 1, 0], []) rfl rfl rfl ?_
    refine ⟨rfl, ?_⟩
    refine bGo hA 15 15 (470, .iload 4, 2, 256, 0, [4], []) rfl rfl rfl ?_
    refine bGo hA 16 0 (472, .aload_n 0, 1, 257, 0, [0], []) rfl rfl rfl ?_
    refine bGo hA 16 1 (473, .getfield 233, 3, 258, 0, [12, 83, 3, 130, 1, 0], []) rfl rfl rfl ?_
    refine ⟨rfl, ?_⟩
    refine bGo hA 16 2 (476, .iload_n 1, 1, 259, 0, [1], []) rfl rfl rfl ?_
    refine bGo hA 16 3 (477, .iaload, 1, 260, 0, [], []) rfl rfl rfl ?_
    refine ⟨rfl, (bIxP (x := l1) (n := 120) h_l1 h.1), ?_⟩
    refine bEqL (x := l1) h_l1 ?_
    refine bGo hA 16 4 (478, .iastore, 1, 261, 0, [], []) rfl rfl rfl ?_
    refine ⟨rfl, (bIxP (x := l4) (n := 80) h_l4 (h.2.2 c1).1), by decide, ?_⟩
    refine bEqS (x := l4) h_l4 ?_
    refine bGo hA 16 5 (479, .return_, 1, 0, 0, [0], []) rfl rfl rfl ?_
    exact (h.2.2 c1).2

theorem sq271_0 {lvl : Nat} {C : bCall} {Q : bPost} {A : bPt → Prop} (hC : bMono C) (hA : bClosed lvl bm271 C Q A) {x1 : Int} {σ : bSt}  (h_x1 : bRg x1)
  (h : ((0 ≤ x1 ∧ x1 < 120) ∧ (bRg (40 * x1) ∧ A (9, [.ref 12, .int (bn x1), .int (bn (bi σ 110 x1)), .int (bn (40 * x1))], [], σ)))) : A (0, [.ref 12, .int (bn x1), .float 0, .float 0], [], σ) := by
  refine bGo hA 0 0 (0, .aload_n 0, 1, 1, 0, [0], []) rfl rfl rfl ?_
  refine bGo hA 0 1 (1, .getfield 173, 3, 2, 0, [12, 59, 3, 110, 1, 0], []) rfl rfl rfl ?_
  refine ⟨rfl, ?_⟩
  refine bGo hA 0 2 (4, .iload_n 1, 1, 3, 0, [1], []) rfl rfl rfl ?_
  refine bGo hA 0 3 (5, .baload, 1, 4, 0, [], []) rfl rfl rfl ?_
  refine ⟨rfl, (bIxP (x := x1) (n := 120) h_x1 h.1), ?_⟩
  refine bEqL (x := x1) h_x1 ?_
  refine bGo hA 0 4 (6, .istore_n 2, 1, 5, 0, [2], []) rfl rfl rfl ?_
  refine bGo hA 0 5 (7, .bipush (40), 2, 6, 0, [], [(40, 0)]) rfl rfl rfl ?_
  refine bEqI bl_40 ?_
  refine bGo hA 0 6 (9, .iload_n 1, 1, 7, 0, [1], []) rfl rfl rfl ?_
  refine bGo hA 0 7 (10, .imul, 1, 8, 0, [], []) rfl rfl rfl ?_
  refine bEqI (bn_mul 40 x1) ?_
  refine bGo hA 0 8 (11, .istore_n 3, 1, 9, 0, [3], []) rfl rfl rfl ?_
  exact h.2.2

theorem sq271_9 {lvl : Nat} {C : bCall} {Q : bPost} {A : bPt → Prop} (hC : bMono C) (hA : bClosed lvl bm271 C Q A) {l1 : Int} {l2 : Int} {l3 : Int} {σ : bSt}  (h_l1 : bRg l1) (h_l2 : bRg l2) (h_l3 : bRg l3)
  (h : (bRg (40 * l1) ∧ ((0 ≤ l1 ∧ l1 < 120) ∧ (bRg ((40 * l1) + (bi σ 105 l1)) ∧ ((l3 < ((40 * l1) + (bi σ 105 l1)) → ((l2 = 0 → (bRg (48 * l1) ∧ A (42, [.ref 12, .int (bn l1), .int (bn l2), .int (bn (48 * l1))], [], σ))) ∧ (¬ l2 = 0 → ((0 ≤ l3 ∧ l3 < 4800) ∧ (C 262 [.ref 12, .int (bn (bi σ 106 l3))] σ (bRn (fun r5 s3 => (((bi σ 113 l3) = r5 → (bRg (l3 + 1) ∧ A (9, [.ref 12, .int (bn l1), .int (bn 1), .int (bn (l3 + 1))], [], s3))) ∧ (¬ (bi σ 113 l3) = r5 → (bRg (l3 + 1) ∧ A (9, [.ref 12, .int (bn l1), .int (bn 0), .int (bn (l3 + 1))], [], s3))))))))))) ∧ (¬ l3 < ((40 * l1) + (bi σ 105 l1)) → (bRg (48 * l1) ∧ A (42, [.ref 12, .int (bn l1), .int (bn l2), .int (bn (48 * l1))], [], σ)))))))) : A (9, [.ref 12, .int (bn l1), .int (bn l2), .int (bn l3)], [], σ) := by
  refine bGo hA 0 9 (12, .iload_n 3, 1, 10, 0, [3], []) rfl rfl rfl ?_
  refine bGo hA 0 10 (13, .bipush (40), 2, 11, 0, [], [(40, 0)]) rfl rfl rfl ?_
  refine bEqI bl_40 ?_
  refine bGo hA 0 11 (15, .iload_n 1, 1, 12, 0, [1], []) rfl rfl rfl ?_
  refine bGo hA 0 12 (16, .imul, 1, 13, 0, [], []) rfl rfl rfl ?_
  refine bEqI (bn_mul 40 l1) ?_
  refine bGo hA 0 13 (17, .aload_n 0, 1, 14, 0, [0], []) rfl rfl rfl ?_
  refine bGo hA 0 14 (18, .getfield 158, 3, 15, 0, [12, 54, 3, 105, 1, 0], []) rfl rfl rfl ?_
  refine ⟨rfl, ?_⟩
  refine bGo hA 0 15 (21, .iload_n 1, 1, 16, 0, [1], []) rfl rfl rfl ?_
  refine bGo hA 1 0 (22, .iaload, 1, 17, 0, [], []) rfl rfl rfl ?_
  refine ⟨rfl, (bIxP (x := l1) (n := 120) h_l1 h.2.1), ?_⟩
  refine bEqL (x := l1) h_l1 ?_
  refine bGo hA 1 1 (23, .iadd, 1, 18, 0, [], []) rfl rfl rfl ?_
  refine bEqI (bn_add (40 * l1) (bi σ 105 l1)) ?_
  refine bGo hA 1 2 (24, .if_icmp .ge (38), 3, 19, 38, [], []) rfl rfl rfl ?_
  refine bB_lt (x := l3) (y := ((40 * l1) + (bi σ 105 l1))) h_l3 h.2.2.1 (fun c1 => ?_) (fun c1 => ?_)
  · refine bGo hA 1 3 (27, .iload_n 2, 1, 20, 0, [2], []) rfl rfl rfl ?_
    refine bGo hA 1 4 (28, .ifCond .eq (34), 3, 21, 38, [], []) rfl rfl rfl ?_
    refine bB_eq0 (x := l2) h_l2 (fun c2 => ?_) (fun c2 => ?_)
    · refine bGo hA 2 6 (62, .bipush (48), 2, 39, 0, [], [(48, 0)]) rfl rfl rfl ?_
      refine bEqI bl_48 ?_
      refine bGo hA 2 7 (64, .iload_n 1, 1, 40, 0, [1], []) rfl rfl rfl ?_
      refine bGo hA 2 8 (65, .imul, 1, 41, 0, [], []) rfl rfl rfl ?_
      refine bEqI (bn_mul 48 l1) ?_
      refine bGo hA 2 9 (66, .istore_n 3, 1, 42, 0, [3], []) rfl rfl rfl ?_
      exact ((h.2.2.2.1 c1).1 c2).2
    · refine bGo hA 1 5 (31, .aload_n 0, 1, 22, 0, [0], []) rfl rfl rfl ?_
      refine bGo hA 1 6 (32, .getfield 182, 3, 23, 0, [12, 62, 3, 113, 1, 0], []) rfl rfl rfl ?_
      refine ⟨rfl, ?_⟩
      refine bGo hA 1 7 (35, .iload_n 3, 1, 24, 0, [3], []) rfl rfl rfl ?_
      refine bGo hA 1 8 (36, .iaload, 1, 25, 0, [], []) rfl rfl rfl ?_
      refine ⟨rfl, (bIxP (x := l3) (n := 4800) h_l3 ((h.2.2.2.1 c1).2 c2).1), ?_⟩
      refine bEqL (x := l3) h_l3 ?_
      refine bGo hA 1 9 (37, .aload_n 0, 1, 26, 0, [0], []) rfl rfl rfl ?_
      refine bGo hA 1 10 (38, .aload_n 0, 1, 27, 0, [0], []) rfl rfl rfl ?_
      refine bGo hA 1 11 (39, .getfield 161, 3, 28, 0, [12, 55, 3, 106, 1, 0], []) rfl rfl rfl ?_
      refine ⟨rfl, ?_⟩
      refine bGo hA 1 12 (42, .iload_n 3, 1, 29, 0, [3], []) rfl rfl rfl ?_
      refine bGo hA 1 13 (43, .iaload, 1, 30, 0, [], []) rfl rfl rfl ?_
      refine ⟨rfl, (bIxP (x := l3) (n := 4800) h_l3 ((h.2.2.2.1 c1).2 c2).1), ?_⟩
      refine bEqL (x := l3) h_l3 ?_
      refine bGo hA 1 14 (44, .invokevirtual 459, 3, 31, 0, [0, 12, 262, 1], []) rfl rfl rfl ?_
      refine ⟨rfl, ?_⟩
      refine hC _ _ _ _ _ (bRn_e (fun r5 s3 q6 k4 => ?_)) ((h.2.2.2.1 c1).2 c2).2
      show A (31, [.ref 12, .int (bn l1), .int (bn l2), .int (bn l3)], [.int (bn r5), .int (bn (bi σ 113 l3))], s3)
      refine bGo hA 1 15 (47, .if_icmp .ne (7), 3, 32, 34, [], []) rfl rfl rfl ?_
      refine bB_eq (x := (bi σ 113 l3)) (y := r5) (bi_rg _ _ _) q6 (fun c7 => ?_) (fun c7 => ?_)
      · refine bGo hA 2 0 (50, .iconst (1), 1, 33, 0, [], [(1, 0)]) rfl rfl rfl ?_
        refine bEqI bl_1 ?_
        refine bGo hA 2 1 (51, .goto (4), 3, 34, 35, [], []) rfl rfl rfl ?_
        refine bGo hA 2 3 (55, .istore_n 2, 1, 36, 0, [2], []) rfl rfl rfl ?_
        refine bGo hA 2 4 (56, .iinc 3 (1), 3, 37, 0, [3], [(1, 0)]) rfl rfl rfl ?_
        refine bEqC (fun v => A (37, [.ref 12, .int (bn l1), .int (bn 1), .int v], [], s3)) ((congrArg (fun w => bn l3 + w) bl_1).trans (bn_add l3 1)) ?_
        refine bGo hA 2 5 (59, .goto (-47), 3, 38, 9, [], []) rfl rfl rfl ?_
        exact (k4.1 c7).2
      · refine bGo hA 2 2 (54, .iconst (0), 1, 35, 0, [], [(0, 0)]) rfl rfl rfl ?_
        refine bEqI bl_0 ?_
        refine bGo hA 2 3 (55, .istore_n 2, 1, 36, 0, [2], []) rfl rfl rfl ?_
        refine bGo hA 2 4 (56, .iinc 3 (1), 3, 37, 0, [3], [(1, 0)]) rfl rfl rfl ?_
        refine bEqC (fun v => A (37, [.ref 12, .int (bn l1), .int (bn 0), .int v], [], s3)) ((congrArg (fun w => bn l3 + w) bl_1).trans (bn_add l3 1)) ?_
        refine bGo hA 2 5 (59, .goto (-47), 3, 38, 9, [], []) rfl rfl rfl ?_
        exact (k4.2 c7).2
  · refine bGo hA 2 6 (62, .bipush (48), 2, 39, 0, [], [(48, 0)]) rfl rfl rfl ?_
    refine bEqI bl_48 ?_
    refine bGo hA 2 7 (64, .iload_n 1, 1, 40, 0, [1], []) rfl rfl rfl ?_
    refine bGo hA 2 8 (65, .imul, 1, 41, 0, [], []) rfl rfl rfl ?_
    refine bEqI (bn_mul 48 l1) ?_
    refine bGo hA 2 9 (66, .istore_n 3, 1, 42, 0, [3], []) rfl rfl rfl ?_
    exact (h.2.2.2.2 c1).2

theorem sq271_42 {lvl : Nat} {C : bCall} {Q : bPost} {A : bPt → Prop} (hC : bMono C) (hA : bClosed lvl bm271 C Q A) {l1 : Int} {l2 : Int} {l3 : Int} {σ : bSt}  (h_l1 : bRg l1) (h_l2 : bRg l2) (h_l3 : bRg l3)
  (h : (bRg (48 * l1) ∧ ((0 ≤ l1 ∧ l1 < 120) ∧ (bRg ((48 * l1) + (bi σ 114 l1)) ∧ ((l3 < ((48 * l1) + (bi σ 114 l1)) → ((l2 = 0 → ((l2 = 0 ∨ l2 = 1) ∧ Q (.inl (some (.int (bn l2)))) σ)) ∧ (¬ l2 = 0 → ((0 ≤ l3 ∧ l3 < 5760) ∧ (C 266 [.ref 12, .int (bn l1), .int (bn (bi σ 115 l3))] σ (bRn (fun r5 s3 => (bRg (l3 + 1) ∧ A (42, [.ref 12, .int (bn l1), .int (bn r5), .int (bn (l3 + 1))], [], s3))))))))) ∧ (¬ l3 < ((48 * l1) + (bi σ 114 l1)) → ((l2 = 0 ∨ l2 = 1) ∧ Q (.inl (some (.int (bn l2)))) σ))))))) : A (42, [.ref 12, .int (bn l1), .int (bn l2), .int (bn l3)], [], σ) := by
  refine bGo hA 2 10 (67, .iload_n 3, 1, 43, 0, [3], []) rfl rfl rfl ?_
  refine bGo hA 2 11 (68, .bipush (48), 2, 44, 0, [], [(48, 0)]) rfl rfl rfl ?_
  refine bEqI bl_48 ?_
  refine bGo hA 2 12 (70, .iload_n 1, 1, 45, 0, [1], []) rfl rfl rfl ?_
  refine bGo hA 2 13 (71, .imul, 1, 46, 0, [], []) rfl rfl rfl ?_
  refine bEqI (bn_mul 48 l1) ?_
  refine bGo hA 2 14 (72, .aload_n 0, 1, 47, 0, [0], []) rfl rfl rfl ?_
  refine bGo hA 2 15 (73, .getfield 185, 3, 48, 0, [12, 63, 3, 114, 1, 0], []) rfl rfl rfl ?_
  refine ⟨rfl, ?_⟩
  refine bGo hA 3 0 (76, .iload_n 1, 1, 49, 0, [1], []) rfl rfl rfl ?_
  refine bGo hA 3 1 (77, .iaload, 1, 50, 0, [], []) rfl rfl rfl ?_
  refine ⟨rfl, (bIxP (x := l1) (n := 120) h_l1 h.2.1), ?_⟩
  refine bEqL (x := l1) h_l1 ?_
  refine bGo hA 3 2 (78, .iadd, 1, 51, 0, [], []) rfl rfl rfl ?_
  refine bEqI (bn_add (48 * l1) (bi σ 114 l1)) ?_
  refine bGo hA 3 3 (79, .if_icmp .ge (25), 3, 52, 64, [], []) rfl rfl rfl ?_
  refine bB_lt (x := l3) (y := ((48 * l1) + (bi σ 114 l1))) h_l3 h.2.2.1 (fun c1 => ?_) (fun c1 => ?_)
  · refine bGo hA 3 4 (82, .iload_n 2, 1, 53, 0, [2], []) rfl rfl rfl ?_
    refine bGo hA 3 5 (83, .ifCond .eq (21), 3, 54, 64, [], []) rfl rfl rfl ?_
    refine bB_eq0 (x := l2) h_l2 (fun c2 => ?_) (fun c2 => ?_)
    · refine bGo hA 4 0 (104, .iload_n 2, 1, 65, 0, [2], []) rfl rfl rfl ?_
      refine bGo hA 4 1 (105, .ireturn, 1, 0, 0, [2], []) rfl rfl rfl ?_
      exact ⟨b01 ((h.2.2.2.1 c1).1 c2).1, ((h.2.2.2.1 c1).1 c2).2⟩
    · refine bGo hA 3 6 (86, .aload_n 0, 1, 55, 0, [0], []) rfl rfl rfl ?_
      refine bGo hA 3 7 (87, .iload_n 1, 1, 56, 0, [1], []) rfl rfl rfl ?_
      refine bGo hA 3 8 (88, .aload_n 0, 1, 57, 0, [0], []) rfl rfl rfl ?_
      refine bGo hA 3 9 (89, .getfield 188, 3, 58, 0, [12, 64, 3, 115, 1, 0], []) rfl rfl rfl ?_
      refine ⟨rfl, ?_⟩
      refine bGo hA 3 10 (92, .iload_n 3, 1, 59, 0, [3], []) rfl rfl rfl ?_
      refine bGo hA 3 11 (93, .iaload, 1, 60, 0, [], []) rfl rfl rfl ?_
      refine ⟨rfl, (bIxP (x := l3) (n := 5760) h_l3 ((h.2.2.2.1 c1).2 c2).1), ?_⟩
      refine bEqL (x := l3) h_l3 ?_
      refine bGo hA 3 12 (94, .invokevirtual 470, 3, 61, 0, [0, 12, 266, 2], []) rfl rfl rfl ?_
      refine ⟨rfl, ?_⟩
      refine hC _ _ _ _ _ (bRn_e (fun r5 s3 q6 k4 => ?_)) ((h.2.2.2.1 c1).2 c2).2
      show A (61, [.ref 12, .int (bn l1), .int (bn l2), .int (bn l3)], [.int (bn r5)], s3)
      refine bGo hA 3 13 (97, .istore_n 2, 1, 62, 0, [2], []) rfl rfl rfl ?_
      refine bGo hA 3 14 (98, .iinc 3 (1), 3, 63, 0, [3], [(1, 0)]) rfl rfl rfl ?_
      refine bEqC (fun v => A (63, [.ref 12, .int (bn l1), .int (bn r5), .int v], [], s3)) ((congrArg (fun w => bn l3 + w) bl_1).trans (bn_add l3 1)) ?_
      refine bGo hA 3 15 (101, .goto (-34), 3, 64, 42, [], []) rfl rfl rfl ?_
      exact k4.2
  · refine bGo hA 4 0 (104, .iload_n 2, 1, 65, 0, [2], []) rfl rfl rfl ?_
    refine bGo hA 4 1 (105, .ireturn, 1, 0, 0, [2], []) rfl rfl rfl ?_
    exact ⟨b01 (h.2.2.2.2 c1).1, (h.2.2.2.2 c1).2⟩

theorem sq272_0 {lvl : Nat} {C : bCall} {Q : bPost} {A : bPt → Prop} (hC : bMono C) (hA : bClosed lvl bm272 C Q A) {x1 : Int} {σ : bSt}  (h_x1 : bRg x1)
  (h : ((0 ≤ x1 ∧ x1 < 120) ∧ (bRg (40 * x1) ∧ A (22, [.ref 12, .int (bn x1), .int (bn (40 * x1))], [], (bw (bw (bw σ 110 x1 1) 111 x1 1) 112 x1 (bi σ 130 x1)))))) : A (0, [.ref 12, .int (bn x1), .float 0], [], σ) := by
  refine bGo hA 0 0 (0, .aload_n 0, 1, 1, 0, [0], []) rfl rfl rfl ?_
  refine bGo hA 0 1 (1, .getfield 173, 3, 2, 0, [12, 59, 3, 110, 1, 0], []) rfl rfl rfl ?_
  refine ⟨rfl, ?_⟩
  refine bGo hA 0 2 (4, .iload_n 1, 1, 3, 0, [1], []) rfl rfl rfl ?_
  refine bGo hA 0 3 (5, .iconst (1), 1, 4, 0, [], [(1, 0)]) rfl rfl rfl ?_
  refine bEqI bl_1 ?_
  refine bGo hA 0 4 (6, .bastore, 1, 5, 0, [], []) rfl rfl rfl ?_
  refine ⟨rfl, (bIxP (x := x1) (n := 120) h_x1 h.1), by decide, b01 (Or.inr rfl), ?_⟩
  refine bEqS (x := x1) h_x1 ?_
  refine bGo hA 0 5 (7, .aload_n 0, 1, 6, 0, [0], []) rfl rfl rfl ?_
  refine bGo hA 0 6 (8, .getfield 176, 3, 7, 0, [12, 60, 3, 111, 1, 0], []) rfl rfl rfl ?_
  refine ⟨rfl, ?_⟩
  refine bGo hA 0 7 (11, .iload_n 1, 1, 8, 0, [1], []) rfl rfl rfl ?_
  refine bGo hA 0 8 (12, .iconst (1), 1, 9, 0, [], [(1, 0)]) rfl rfl rfl ?_
  refine bEqI bl_1 ?_
  refine bGo hA 0 9 (13, .bastore, 1, 10, 0, [], []) rfl rfl rfl ?_
  refine ⟨rfl, (bIxP (x := x1) (n := 120) h_x1 h.1), by decide, b01 (Or.inr rfl), ?_⟩
  refine bEqS (x := x1) h_x1 ?_
  refine bGo hA 0 10 (14, .aload_n 0, 1, 11, 0, [0], []) rfl rfl rfl ?_
  refine bGo hA 0 11 (15, .getfield 179, 3, 12, 0, [12, 61, 3, 112, 1, 0], []) rfl rfl rfl ?_
  refine ⟨rfl, ?_⟩
  refine bGo hA 0 12 (18, .iload_n 1, 1, 13, 0, [1], []) rfl rfl rfl ?_
  refine bGo hA 0 13 (19, .aload_n 0, 1, 14, 0, [0], []) rfl rfl rfl ?_
  refine bGo hA 0 14 (20, .getfield 233, 3, 15, 0, [12, 83, 3, 130, 1, 0], []) rfl rfl rfl ?_
  refine ⟨rfl, ?_⟩
  refine bGo hA 0 15 (23, .iload_n 1, 1, 16, 0, [1], []) rfl rfl rfl ?_
  refine bGo hA 1 0 (24, .iaload, 1, 17, 0, [], []) rfl rfl rfl ?_
  refine ⟨rfl, (bIxP (x := x1) (n := 120) h_x1 h.1), ?_⟩
  refine bEqL (x := x1) h_x1 ?_
  refine bEqI (congrArg bn (show bi (bw (bw σ 110 x1 1) 111 x1 1) 130 x1 = (bi σ 130 x1) from ((bi_ne (by decide)).trans (bi_ne (by decide))))) ?_
  refine bGo hA 1 1 (25, .iastore, 1, 18, 0, [], []) rfl rfl rfl ?_
  refine ⟨rfl, (bIxP (x := x1) (n := 120) h_x1 h.1), by decide, ?_⟩
  refine bEqS (x := x1) h_x1 ?_
  refine bGo hA 1 2 (26, .bipush (40), 2, 19, 0, [], [(40, 0)]) rfl rfl rfl ?_
  refine bEqI bl_40 ?_
  refine bGo hA 1 3 (28, .iload_n 1, 1, 20, 0, [1], []) rfl rfl rfl ?_
  refine bGo hA 1 4 (29, .imul, 1, 21, 0, [], []) rfl rfl rfl ?_
  refine bEqI (bn_mul 40 x1) ?_
  refine bGo hA 1 5 (30, .istore_n 2, 1, 22, 0, [2], []) rfl rfl rfl ?_
  exact h.2.2

theorem sq272_22 {lvl : Nat} {C : bCall} {Q : bPost} {A : bPt → Prop} (hC : bMono C) (hA : bClosed lvl bm272 C Q A) {l1 : Int} {l2 : Int} {σ : bSt}  (h_l1 : bRg l1) (h_l2 : bRg l2)
  (h : (bRg (40 * l1) ∧ ((0 ≤ l1 ∧ l1 < 120) ∧ (bRg ((40 * l1) + (bi σ 105 l1)) ∧ ((l2 < ((40 * l1) + (bi σ 105 l1)) → ((0 ≤ l2 ∧ l2 < 4800) ∧ (C 262 [.ref 12, .int (bn (bi σ 106 l2))] σ (bRn (fun r4 s2 => (bRg (l2 + 1) ∧ A (22, [.ref 12, .int (bn l1), .int (bn (l2 + 1))], [], (bw s2 113 l2 r4)))))))) ∧ (¬ l2 < ((40 * l1) + (bi σ 105 l1)) → A (54, [.ref 12, .int (bn l1), .int (bn 0)], [], (bw σ 114 l1 (bi σ 131 l1))))))))) : A (22, [.ref 12, .int (bn l1), .int (bn l2)], [], σ) := by
  refine bGo hA 1 6 (31, .iload_n 2, 1, 23, 0, [2], []) rfl rfl rfl ?_
  refine bGo hA 1 7 (32, .bipush (40), 2, 24, 0, [], [(40, 0)]) rfl rfl rfl ?_
  refine bEqI bl_40 ?_
  refine bGo hA 1 8 (34, .iload_n 1, 1, 25, 0, [1], []) rfl rfl rfl ?_
  refine bGo hA 1 9 (35, .imul, 1, 26, 0, [], []) rfl rfl rfl ?_
  refine bEqI (bn_mul 40 l1) ?_
  refine bGo hA 1 10 (36, .aload_n 0, 1, 27, 0, [0], []) rfl rfl rfl ?_
  refine bGo hA 1 11 (37, .getfield 158, 3, 28, 0, [12, 54, 3, 105, 1, 0], []) rfl rfl rfl ?_
  refine ⟨rfl, ?_⟩
  refine bGo hA 1 12 (40, .iload_n 1, 1, 29, 0, [1], []) rfl rfl rfl ?_
  refine bGo hA 1 13 (41, .iaload, 1, 30, 0, [], []) rfl rfl rfl ?_
  refine ⟨rfl, (bIxP (x := l1) (n := 120) h_l1 h.2.1), ?_⟩
  refine bEqL (x := l1) h_l1 ?_
  refine bGo hA 1 14 (42, .iadd, 1, 31, 0, [], []) rfl rfl rfl ?_
  refine bEqI (bn_add (40 * l1) (bi σ 105 l1)) ?_
  refine bGo hA 1 15 (43, .if_icmp .ge (25), 3, 32, 44, [], []) rfl rfl rfl ?_
  refine bB_lt (x := l2) (y := ((40 * l1) + (bi σ 105 l1))) h_l2 h.2.2.1 (fun c1 => ?_) (fun c1 => ?_)
  · refine bGo hA 2 0 (46, .aload_n 0, 1, 33, 0, [0], []) rfl rfl rfl ?_
    refine bGo hA 2 1 (47, .getfield 182, 3, 34, 0, [12, 62, 3, 113, 1, 0], []) rfl rfl rfl ?_
    refine ⟨rfl, ?_⟩
    refine bGo hA 2 2 (50, .iload_n 2, 1, 35, 0, [2], []) rfl rfl rfl ?_
    refine bGo hA 2 3 (51, .aload_n 0, 1, 36, 0, [0], []) rfl rfl rfl ?_
    refine bGo hA 2 4 (52, .aload_n 0, 1, 37, 0, [0], []) rfl rfl rfl ?_
    refine bGo hA 2 5 (53, .getfield 161, 3, 38, 0, [12, 55, 3, 106, 1, 0], []) rfl rfl rfl ?_
    refine ⟨rfl, ?_⟩
    refine bGo hA 2 6 (56, .iload_n 2, 1, 39, 0, [2], []) rfl rfl rfl ?_
    refine bGo hA 2 7 (57, .iaload, 1, 40, 0, [], []) rfl rfl rfl ?_
    refine ⟨rfl, (bIxP (x := l2) (n := 4800) h_l2 (h.2.2.2.1 c1).1), ?_⟩
    refine bEqL (x := l2) h_l2 ?_
    refine bGo hA 2 8 (58, .invokevirtual 459, 3, 41, 0, [0, 12, 262, 1], []) rfl rfl rfl ?_
    refine ⟨rfl, ?_⟩
    refine hC _ _ _ _ _ (bRn_e (fun r4 s2 q5 k3 => ?_)) (h.2.2.2.1 c1).2
    show A (41, [.ref 12, .int (bn l1), .int (bn l2)], [.int (bn r4), .int (bn l2), .ref 113], s2)
    refine bGo hA 2 9 (61, .iastore, 1, 42, 0, [], []) rfl rfl rfl ?_
    refine ⟨rfl, (bIxP (x := l2) (n := 4800) h_l2 (h.2.2.2.1 c1).1), by decide, ?_⟩
    refine bEqS (x := l2) h_l2 ?_
    refine bGo hA 2 10 (62, .iinc 2 (1), 3, 43, 0, [2], [(1, 0)]) rfl rfl rfl ?_
    refine bEqC (fun v => A (43, [.ref 12, .int (bn l1), .int v], [], (bw s2 113 l2 r4))) ((congrArg (fun w => bn l2 + w) bl_1).trans (bn_add l2 1)) ?_
    refine bGo hA 2 11 (65, .goto (-34), 3, 44, 22, [], []) rfl rfl rfl ?_
    exact k3.2
  · refine bGo hA 2 12 (68, .aload_n 0, 1, 45, 0, [0], []) rfl rfl rfl ?_
    refine bGo hA 2 13 (69, .getfield 185, 3, 46, 0, [12, 63, 3, 114, 1, 0], []) rfl rfl rfl ?_
    refine ⟨rfl, ?_⟩
    refine bGo hA 2 14 (72, .iload_n 1, 1, 47, 0, [1], []) rfl rfl rfl ?_
    refine bGo hA 2 15 (73, .aload_n 0, 1, 48, 0, [0], []) rfl rfl rfl ?_
    refine bGo hA 3 0 (74, .getfield 236, 3, 49, 0, [12, 84, 3, 131, 1, 0], []) rfl rfl rfl ?_
    refine ⟨rfl, ?_⟩
    refine bGo hA 3 1 (77, .iload_n 1, 1, 50, 0, [1], []) rfl rfl rfl ?_
    refine bGo hA 3 2 (78, .iaload, 1, 51, 0, [], []) rfl rfl rfl ?_
    refine ⟨rfl, (bIxP (x := l1) (n := 120) h_l1 h.2.1), ?_⟩
    refine bEqL (x := l1) h_l1 ?_
    refine bGo hA 3 3 (79, .iastore, 1, 52, 0, [], []) rfl rfl rfl ?_
    refine ⟨rfl, (bIxP (x := l1) (n := 120) h_l1 h.2.1), by decide, ?_⟩
    refine bEqS (x := l1) h_l1 ?_
    refine bGo hA 3 4 (80, .iconst (0), 1, 53, 0, [], [(0, 0)]) rfl rfl rfl ?_
    refine bEqI bl_0 ?_
    refine bGo hA 3 5 (81, .istore_n 2, 1, 54, 0, [2], []) rfl rfl rfl ?_
    exact (h.2.2.2.2 c1)

theorem sq272_54 {lvl : Nat} {C : bCall} {Q : bPost} {A : bPt → Prop} (hC : bMono C) (hA : bClosed lvl bm272 C Q A) {l1 : Int} {l2 : Int} {σ : bSt}  (h_l1 : bRg l1) (h_l2 : bRg l2)
  (h : ((0 ≤ l1 ∧ l1 < 120) ∧ ((l2 < (bi σ 131 l1) → (bRg (48 * l1) ∧ (bRg ((48 * l1) + l2) ∧ ((0 ≤ ((48 * l1) + l2) ∧ ((48 * l1) + l2) < 5760) ∧ (bRg (l2 + 1) ∧ A (54, [.ref 12, .int (bn l1), .int (bn (l2 + 1))], [], (bw σ 115 ((48 * l1) + l2) (bi σ 132 ((48 * l1) + l2))))))))) ∧ (¬ l2 < (bi σ 131 l1) → Q (.inl none) σ)))) : A (54, [.ref 12, .int (bn l1), .int (bn l2)], [], σ) := by
  refine bGo hA 3 6 (82, .iload_n 2, 1, 55, 0, [2], []) rfl rfl rfl ?_
  refine bGo hA 3 7 (83, .aload_n 0, 1, 56, 0, [0], []) rfl rfl rfl ?_
  refine bGo hA 3 8 (84, .getfield 236, 3, 57, 0, [12, 84, 3, 131, 1, 0], []) rfl rfl rfl ?_
  refine ⟨rfl, ?_⟩
  refine bGo hA 3 9 (87, .iload_n 1, 1, 58, 0, [1], []) rfl rfl rfl ?_
  refine bGo hA 3 10 (88, .iaload, 1, 59, 0, [], []) rfl rfl rfl ?_
  refine ⟨rfl, (bIxP (x := l1) (n := 120) h_l1 h.1), ?_⟩
  refine bEqL (x := l1) h_l1 ?_
  refine bGo hA 3 11 (89, .if_icmp .ge (31), 3, 60, 78, [], []) rfl rfl rfl ?_
  refine bB_lt (x := l2) (y := (bi σ 131 l1)) h_l2 (bi_rg _ _ _) (fun c1 => ?_) (fun c1 => ?_)
  · refine bGo hA 3 12 (92, .aload_n 0, 1, 61, 0, [0], []) rfl rfl rfl ?_
    refine bGo hA 3 13 (93, .getfield 188, 3, 62, 0, [12, 64, 3, 115, 1, 0], []) rfl rfl rfl ?_
    refine ⟨rfl, ?_⟩
    refine bGo hA 3 14 (96, .bipush (48), 2, 63, 0, [], [(48, 0)]) rfl rfl rfl ?_
    refine bEqI bl_48 ?_
    refine bGo hA 3 15 (98, .iload_n 1, 1, 64, 0, [1], []) rfl rfl rfl ?_
    refine bGo hA 4 0 (99, .imul, 1, 65, 0, [], []) rfl rfl rfl ?_
    refine bEqI (bn_mul 48 l1) ?_
    refine bGo hA 4 1 (100, .iload_n 2, 1, 66, 0, [2], []) rfl rfl rfl ?_
    refine bGo hA 4 2 (101, .iadd, 1, 67, 0, [], []) rfl rfl rfl ?_
    refine bEqI (bn_add (48 * l1) l2) ?_
    refine bGo hA 4 3 (102, .aload_n 0, 1, 68, 0, [0], []) rfl rfl rfl ?_
    refine bGo hA 4 4 (103, .getfield 239, 3, 69, 0, [12, 85, 3, 132, 1, 0], []) rfl rfl rfl ?_
    refine ⟨rfl, ?_⟩
    refine bGo hA 4 5 (106, .bipush (48), 2, 70, 0, [], [(48, 0)]) rfl rfl rfl ?_
    refine bEqI bl_48 ?_
    refine bGo hA 4 6 (108, .iload_n 1, 1, 71, 0, [1], []) rfl rfl rfl ?_
    refine bGo hA 4 7 (109, .imul, 1, 72, 0, [], []) rfl rfl rfl ?_
    refine bEqI (bn_mul 48 l1) ?_
    refine bGo hA 4 8 (110, .iload_n 2, 1, 73, 0, [2], []) rfl rfl rfl ?_
    refine bGo hA 4 9 (111, .iadd, 1, 74, 0, [], []) rfl rfl rfl ?_
    refine bEqI (bn_add (48 * l1) l2) ?_
    refine bGo hA 4 10 (112, .iaload, 1, 75, 0, [], []) rfl rfl rfl ?_
    refine ⟨rfl, (bIxP (x := ((48 * l1) + l2)) (n := 5760) (h.2.1 c1).2.1 (h.2.1 c1).2.2.1), ?_⟩
    refine bEqL (x := ((48 * l1) + l2)) (h.2.1 c1).2.1 ?_
    refine bGo hA 4 11 (113, .iastore, 1, 76, 0, [], []) rfl rfl rfl ?_
    refine ⟨rfl, (bIxP (x := ((48 * l1) + l2)) (n := 5760) (h.2.1 c1).2.1 (h.2.1 c1).2.2.1), by decide, ?_⟩
    refine bEqS (x := ((48 * l1) + l2)) (h.2.1 c1).2.1 ?_
    refine bGo hA 4 12 (114, .iinc 2 (1), 3, 77, 0, [2], [(1, 0)]) rfl rfl rfl ?_
    refine bEqC (fun v => A (77, [.ref 12, .int (bn l1), .int v], [], (bw σ 115 ((48 * l1) + l2) (bi σ 132 ((48 * l1) + l2))))) ((congrArg (fun w => bn l2 + w) bl_1).trans (bn_add l2 1)) ?_
    refine bGo hA 4 13 (117, .goto (-35), 3, 78, 54, [], []) rfl rfl rfl ?_
    exact (h.2.1 c1).2.2.2.2
  · refine bGo hA 4 14 (120, .return_, 1, 0, 0, [0], []) rfl rfl rfl ?_
    exact (h.2.2 c1)

theorem sq279_0 {lvl : Nat} {C : bCall} {Q : bPost} {A : bPt → Prop} (hC : bMono C) (hA : bClosed lvl bm279 C Q A) {x1 : Int} {σ : bSt}  (h_x1 : bRg x1)
  (h : ((0 ≤ x1 ∧ x1 < 120) ∧ ((0 ≤ (bi σ 107 x1) ∧ (bi σ 107 x1) < 16) ∧ (bRg (4 * (bi σ 89 (bi σ 107 x1))) ∧ ((0 ≤ (bi σ 89 (bi σ 107 x1)) ∧ (bi σ 89 (bi σ 107 x1)) < 3) ∧ (bRg ((4 * (bi σ 89 (bi σ 107 x1))) + (bi σ 136 (bi σ 89 (bi σ 107 x1)))) ∧ (bRg (((4 * (bi σ 89 (bi σ 107 x1))) + (bi σ 136 (bi σ 89 (bi σ 107 x1)))) - 1) ∧ A (23, [.ref 12, .int (bn x1), .int (bn (bi σ 89 (bi σ 107 x1))), .int (bn (-1)), .int (bn (-1)), .int (bn (((4 * (bi σ 89 (bi σ 107 x1))) + (bi σ 136 (bi σ 89 (bi σ 107 x1)))) - 1))], [], σ)))))))) : A (0, [.ref 12, .int (bn x1), .float 0, .float 0, .float 0, .float 0], [], σ) := by
  refine bGo hA 0 0 (0, .aload_n 0, 1, 1, 0, [0], []) rfl rfl rfl ?_
  refine bGo hA 0 1 (1, .getfield 110, 3, 2, 0, [12, 37, 3, 89, 1, 0], []) rfl rfl rfl ?_
  refine ⟨rfl, ?_⟩
  refine bGo hA 0 2 (4, .aload_n 0, 1, 3, 0, [0], []) rfl rfl rfl ?_
  refine bGo hA 0 3 (5, .getfield 164, 3, 4, 0, [12, 56, 3, 107, 1, 0], []) rfl rfl rfl ?_
  refine ⟨rfl, ?_⟩
  refine bGo hA 0 4 (8, .iload_n 1, 1, 5, 0, [1], []) rfl rfl rfl ?_
  refine bGo hA 0 5 (9, .iaload, 1, 6, 0, [], []) rfl rfl rfl ?_
  refine ⟨rfl, (bIxP (x := x1) (n := 120) h_x1 h.1), ?_⟩
  refine bEqL (x := x1) h_x1 ?_
  refine bGo hA 0 6 (10, .iaload, 1, 7, 0, [], []) rfl rfl rfl ?_
  refine ⟨rfl, (bIxP (x := (bi σ 107 x1)) (n := 16) (bi_rg _ _ _) h.2.1), ?_⟩
  refine bEqL (x := (bi σ 107 x1)) (bi_rg _ _ _) ?_
  refine bGo hA 0 7 (11, .istore_n 2, 1, 8, 0, [2], []) rfl rfl rfl ?_
  refine bGo hA 0 8 (12, .iconst (-1), 1, 9, 0, [], [(-1, 0)]) rfl rfl rfl ?_
  refine bEqI bl_m1 ?_
  refine bGo hA 0 9 (13, .istore_n 3, 1, 10, 0, [3], []) rfl rfl rfl ?_
  refine bGo hA 0 10 (14, .iconst (-1), 1, 11, 0, [], [(-1, 0)]) rfl rfl rfl ?_
  refine bEqI bl_m1 ?_
  refine bGo hA 0 11 (15, .istore 4, 2, 12, 0, [4], []) rfl rfl rfl ?_
  refine bGo hA 0 12 (17, .iconst (4), 1, 13, 0, [], [(4, 0)]) rfl rfl rfl ?_
  refine bEqI bl_4 ?_
  refine bGo hA 0 13 (18, .iload_n 2, 1, 14, 0, [2], []) rfl rfl rfl ?_
  refine bGo hA 0 14 (19, .imul, 1, 15, 0, [], []) rfl rfl rfl ?_
  refine bEqI (bn_mul 4 (bi σ 89 (bi σ 107 x1))) ?_
  refine bGo hA 0 15 (20, .aload_n 0, 1, 16, 0, [0], []) rfl rfl rfl ?_
  refine bGo hA 1 0 (21, .getfield 251, 3, 17, 0, [12, 91, 3, 136, 1, 0], []) rfl rfl rfl ?_
  refine ⟨rfl, ?_⟩
  refine bGo hA 1 1 (24, .iload_n 2, 1, 18, 0, [2], []) rfl rfl rfl ?_
  refine bGo hA 1 2 (25, .iaload, 1, 19, 0, [], []) rfl rfl rfl ?_
  refine ⟨rfl, (bIxP (x := (bi σ 89 (bi σ 107 x1))) (n := 3) (bi_rg _ _ _) h.2.2.2.1), ?_⟩
  refine bEqL (x := (bi σ 89 (bi σ 107 x1))) (bi_rg _ _ _) ?_
  refine bGo hA 1 3 (26, .iadd, 1, 20, 0, [], []) rfl rfl rfl ?_
  refine bEqI (bn_add (4 * (bi σ 89 (bi σ 107 x1))) (bi σ 136 (bi σ 89 (bi σ 107 x1)))) ?_
  refine bGo hA 1 4 (27, .iconst (1), 1, 21, 0, [], [(1, 0)]) rfl rfl rfl ?_
  refine bEqI bl_1 ?_
  refine bGo hA 1 5 (28, .isub, 1, 22, 0, [], []) rfl rfl rfl ?_
  refine bEqI (bn_sub ((4 * (bi σ 89 (bi σ 107 x1))) + (bi σ 136 (bi σ 89 (bi σ 107 x1)))) 1) ?_
  refine bGo hA 1 6 (29, .istore 5, 2, 23, 0, [5], []) rfl rfl rfl ?_
  exact h.2.2.2.2.2.2

theorem sq279_23 {lvl : Nat} {C : bCall} {Q : bPost} {A : bPt → Prop} (hC : bMono C) (hA : bClosed lvl bm279 C Q A) {l1 : Int} {l2 : Int} {l3 : Int} {l4 : Int} {l5 : Int} {σ : bSt}  (h_l1 : bRg l1) (h_l2 : bRg l2) (h_l3 : bRg l3) (h_l4 : bRg l4) (h_l5 : bRg l5)
  (h : (bRg (4 * l2) ∧ ((l5 < (4 * l2) → ((l4 = (-1) → Q (.inl (some (.int (bn l3)))) σ) ∧ (¬ l4 = (-1) → Q (.inl (some (.int (bn l4)))) σ))) ∧ (¬ l5 < (4 * l2) → ((0 ≤ l5 ∧ l5 < 12) ∧ (((bi σ 138 l5) = 0 → (((bi σ 138 l5) = 0 → ((0 ≤ l1 ∧ l1 < 120) ∧ (((bi σ 137 l5) = (bi σ 103 l1) → (bRg (l5 + (-1)) ∧ A (23, [.ref 12, .int (bn l1), .int (bn l2), .int (bn l5), .int (bn l5), .int (bn (l5 + (-1)))], [], σ))) ∧ (¬ (bi σ 137 l5) = (bi σ 103 l1) → (bRg (l5 + (-1)) ∧ A (23, [.ref 12, .int (bn l1), .int (bn l2), .int (bn l5), .int (bn l4), .int (bn (l5 + (-1)))], [], σ)))))) ∧ (¬ (bi σ 138 l5) = 0 → (bRg (l5 + (-1)) ∧ A (23, [.ref 12, .int (bn l1), .int (bn l2), .int (bn l5), .int (bn l4), .int (bn (l5 + (-1)))], [], σ))))) ∧ (¬ (bi σ 138 l5) = 0 → (((bi σ 138 l5) = 0 → ((0 ≤ l1 ∧ l1 < 120) ∧ (((bi σ 137 l5) = (bi σ 103 l1) → (bRg (l5 + (-1)) ∧ A (23, [.ref 12, .int (bn l1), .int (bn l2), .int (bn l3), .int (bn l5), .int (bn (l5 + (-1)))], [], σ))) ∧ (¬ (bi σ 137 l5) = (bi σ 103 l1) → (bRg (l5 + (-1)) ∧ A (23, [.ref 12, .int (bn l1), .int (bn l2), .int (bn l3), .int (bn l4), .int (bn (l5 + (-1)))], [], σ)))))) ∧ (¬ (bi σ 138 l5) = 0 → (bRg (l5 + (-1)) ∧ A (23, [.ref 12, .int (bn l1), .int (bn l2), .int (bn l3), .int (bn l4), .int (bn (l5 + (-1)))], [], σ))))))))))) : A (23, [.ref 12, .int (bn l1), .int (bn l2), .int (bn l3), .int (bn l4), .int (bn l5)], [], σ) := by
  refine bGo hA 1 7 (31, .iload 5, 2, 24, 0, [5], []) rfl rfl rfl ?_
  refine bGo hA 1 8 (33, .iconst (4), 1, 25, 0, [], [(4, 0)]) rfl rfl rfl ?_
  refine bEqI bl_4 ?_
  refine bGo hA 1 9 (34, .iload_n 2, 1, 26, 0, [2], []) rfl rfl rfl ?_
  refine bGo hA 1 10 (35, .imul, 1, 27, 0, [], []) rfl rfl rfl ?_
  refine bEqI (bn_mul 4 l2) ?_
  refine bGo hA 1 11 (36, .if_icmp .lt (61), 3, 28, 57, [], []) rfl rfl rfl ?_
  refine bB_lt (x := l5) (y := (4 * l2)) h_l5 h.1 (fun c1 => ?_) (fun c1 => ?_)
  · refine bGo hA 3 9 (97, .iload 4, 2, 58, 0, [4], []) rfl rfl rfl ?_
    refine bGo hA 3 10 (99, .iconst (-1), 1, 59, 0, [], [(-1, 0)]) rfl rfl rfl ?_
    refine bEqI bl_m1 ?_
    refine bGo hA 3 11 (100, .if_icmp .ne (7), 3, 60, 62, [], []) rfl rfl rfl ?_
    refine bB_eq (x := l4) (y := (-1)) h_l4 (by decide : bRg (-1)) (fun c2 => ?_) (fun c2 => ?_)
    · refine bGo hA 3 12 (103, .iload_n 3, 1, 61, 0, [3], []) rfl rfl rfl ?_
      refine bGo hA 3 13 (104, .goto (5), 3, 62, 63, [], []) rfl rfl rfl ?_
      refine bGo hA 3 15 (109, .ireturn, 1, 0, 0, [1], []) rfl rfl rfl ?_
      exact ((h.2.1 c1).1 c2)
    · refine bGo hA 3 14 (107, .iload 4, 2, 63, 0, [4], []) rfl rfl rfl ?_
      refine bGo hA 3 15 (109, .ireturn, 1, 0, 0, [1], []) rfl rfl rfl ?_
      exact ((h.2.1 c1).2 c2)
  · refine bGo hA 1 12 (39, .aload_n 0, 1, 29, 0, [0], []) rfl rfl rfl ?_
    refine bGo hA 1 13 (40, .getfield 257, 3, 30, 0, [12, 93, 3, 138, 1, 0], []) rfl rfl rfl ?_
    refine ⟨rfl, ?_⟩
    refine bGo hA 1 14 (43, .iload 5, 2, 31, 0, [5], []) rfl rfl rfl ?_
    refine bGo hA 1 15 (45, .baload, 1, 32, 0, [], []) rfl rfl rfl ?_
    refine ⟨rfl, (bIxP (x := l5) (n := 12) h_l5 (h.2.2 c1).1), ?_⟩
    refine bEqL (x := l5) h_l5 ?_
    refine bGo hA 2 0 (46, .ifCond .eq (7), 3, 33, 35, [], []) rfl rfl rfl ?_
    refine bB_eq0 (x := (bi σ 138 l5)) (bi_rg _ _ _) (fun c3 => ?_) (fun c3 => ?_)
    · refine bGo hA 2 3 (53, .iload 5, 2, 36, 0, [5], []) rfl rfl rfl ?_
      refine bGo hA 2 4 (55, .istore_n 3, 1, 37, 0, [3], []) rfl rfl rfl ?_
      refine bGo hA 2 5 (56, .aload_n 0, 1, 38, 0, [0], []) rfl rfl rfl ?_
      refine bGo hA 2 6 (57, .getfield 257, 3, 39, 0, [12, 93, 3, 138, 1, 0], []) rfl rfl rfl ?_
      refine ⟨rfl, ?_⟩
      refine bGo hA 2 7 (60, .iload 5, 2, 40, 0, [5], []) rfl rfl rfl ?_
      refine bGo hA 2 8 (62, .baload, 1, 41, 0, [], []) rfl rfl rfl ?_
      refine ⟨rfl, (bIxP (x := l5) (n := 12) h_l5 (h.2.2 c1).1), ?_⟩
      refine bEqL (x := l5) h_l5 ?_
      refine bGo hA 2 9 (63, .ifCond .ne (24), 3, 42, 53, [], []) rfl rfl rfl ?_
      refine bB_eq0 (x := (bi σ 138 l5)) (bi_rg _ _ _) (fun c4 => ?_) (fun c4 => ?_)
      · refine bGo hA 2 10 (66, .aload_n 0, 1, 43, 0, [0], []) rfl rfl rfl ?_
        refine bGo hA 2 11 (67, .getfield 254, 3, 44, 0, [12, 92, 3, 137, 1, 0], []) rfl rfl rfl ?_
        refine ⟨rfl, ?_⟩
        refine bGo hA 2 12 (70, .iload 5, 2, 45, 0, [5], []) rfl rfl rfl ?_
        refine bGo hA 2 13 (72, .iaload, 1, 46, 0, [], []) rfl rfl rfl ?_
        refine ⟨rfl, (bIxP (x := l5) (n := 12) h_l5 (h.2.2 c1).1), ?_⟩
        refine bEqL (x := l5) h_l5 ?_
        refine bGo hA 2 14 (73, .aload_n 0, 1, 47, 0, [0], []) rfl rfl rfl ?_
        refine bGo hA 2 15 (74, .getfield 152, 3, 48, 0, [12, 52, 3, 103, 1, 0], []) rfl rfl rfl ?_
        refine ⟨rfl, ?_⟩
        refine bGo hA 3 0 (77, .iload_n 1, 1, 49, 0, [1], []) rfl rfl rfl ?_
        refine bGo hA 3 1 (78, .iaload, 1, 50, 0, [], []) rfl rfl rfl ?_
        refine ⟨rfl, (bIxP (x := l1) (n := 120) h_l1 (((h.2.2 c1).2.1 c3).1 c4).1), ?_⟩
        refine bEqL (x := l1) h_l1 ?_
        refine bGo hA 3 2 (79, .if_icmp .ne (8), 3, 51, 53, [], []) rfl rfl rfl ?_
        refine bB_eq (x := (bi σ 137 l5)) (y := (bi σ 103 l1)) (bi_rg _ _ _) (bi_rg _ _ _) (fun c5 => ?_) (fun c5 => ?_)
        · refine bGo hA 3 3 (82, .iload 5, 2, 52, 0, [5], []) rfl rfl rfl ?_
          refine bGo hA 3 4 (84, .goto (5), 3, 53, 54, [], []) rfl rfl rfl ?_
          refine bGo hA 3 6 (89, .istore 4, 2, 55, 0, [4], []) rfl rfl rfl ?_
          refine bGo hA 3 7 (91, .iinc 5 (-1), 3, 56, 0, [5], [(-1, 0)]) rfl rfl rfl ?_
          refine bEqC (fun v => A (56, [.ref 12, .int (bn l1), .int (bn l2), .int (bn l5), .int (bn l5), .int v], [], σ)) ((congrArg (fun w => bn l5 + w) bl_m1).trans (bn_add l5 (-1))) ?_
          refine bGo hA 3 8 (94, .goto (-63), 3, 57, 23, [], []) rfl rfl rfl ?_
          exact ((((h.2.2 c1).2.1 c3).1 c4).2.1 c5).2
        · refine bGo hA 3 5 (87, .iload 4, 2, 54, 0, [4], []) rfl rfl rfl ?_
          refine bGo hA 3 6 (89, .istore 4, 2, 55, 0, [4], []) rfl rfl rfl ?_
          refine bGo hA 3 7 (91, .iinc 5 (-1), 3, 56, 0, [5], [(-1, 0)]) rfl rfl rfl ?_
          refine bEqC (fun v => A (56, [.ref 12, .int (bn l1), .int (bn l2), .int (bn l5), .int (bn l4), .int v], [], σ)) ((congrArg (fun w => bn l5 + w) bl_m1).trans (bn_add l5 (-1))) ?_
          refine bGo hA 3 8 (94, .goto (-63), 3, 57, 23, [], []) rfl rfl rfl ?_
          exact ((((h.2.2 c1).2.1 c3).1 c4).2.2 c5).2
      · refine bGo hA 3 5 (87, .iload 4, 2, 54, 0, [4], []) rfl rfl rfl ?_
        refine bGo hA 3 6 (89, .istore 4, 2, 55, 0, [4], []) rfl rfl rfl ?_
        refine bGo hA 3 7 (91, .iinc 5 (-1), 3, 56, 0, [5], [(-1, 0)]) rfl rfl rfl ?_
        refine bEqC (fun v => A (56, [.ref 12, .int (bn l1), .int (bn l2), .int (bn l5), .int (bn l4), .int v], [], σ)) ((congrArg (fun w => bn l5 + w) bl_m1).trans (bn_add l5 (-1))) ?_
        refine bGo hA 3 8 (94, .goto (-63), 3, 57, 23, [], []) rfl rfl rfl ?_
        exact (((h.2.2 c1).2.1 c3).2 c4).2
    · refine bGo hA 2 1 (49, .iload_n 3, 1, 34, 0, [3], []) rfl rfl rfl ?_
      refine bGo hA 2 2 (50, .goto (5), 3, 35, 36, [], []) rfl rfl rfl ?_
      refine bGo hA 2 4 (55, .istore_n 3, 1, 37, 0, [3], []) rfl rfl rfl ?_
      refine bGo hA 2 5 (56, .aload_n 0, 1, 38, 0, [0], []) rfl rfl rfl ?_
      refine bGo hA 2 6 (57, .getfield 257, 3, 39, 0, [12, 93, 3, 138, 1, 0], []) rfl rfl rfl ?_
      refine ⟨rfl, ?_⟩
      refine bGo hA 2 7 (60, .iload 5, 2, 40, 0, [5], []) rfl rfl rfl ?_
      refine bGo hA 2 8 (62, .baload, 1, 41, 0, [], []) rfl rfl rfl ?_
      refine ⟨rfl, (bIxP (x := l5) (n := 12) h_l5 (h.2.2 c1).1), ?_⟩
      refine bEqL (x := l5) h_l5 ?_
      refine bGo hA 2 9 (63, .ifCond .ne (24), 3, 42, 53, [], []) rfl rfl rfl ?_
      refine bB_eq0 (x := (bi σ 138 l5)) (bi_rg _ _ _) (fun c6 => ?_) (fun c6 => ?_)
      · refine bGo hA 2 10 (66, .aload_n 0, 1, 43, 0, [0], []) rfl rfl rfl ?_
        refine bGo hA 2 11 (67, .getfield 254, 3, 44, 0, [12, 92, 3, 137, 1, 0], []) rfl rfl rfl ?_
        refine ⟨rfl, ?_⟩
        refine bGo hA 2 12 (70, .iload 5, 2, 45, 0, [5], []) rfl rfl rfl ?_
        refine bGo hA 2 13 (72, .iaload, 1, 46, 0, [], []) rfl rfl rfl ?_
        refine ⟨rfl, (bIxP (x := l5) (n := 12) h_l5 (h.2.2 c1).1), ?_⟩
        refine bEqL (x := l5) h_l5 ?_
        refine bGo hA 2 14 (73, .aload_n 0, 1, 47, 0, [0], []) rfl rfl rfl ?_
        refine bGo hA 2 15 (74, .getfield 152, 3, 48, 0, [12, 52, 3, 103, 1, 0], []) rfl rfl rfl ?_
        refine ⟨rfl, ?_⟩
        refine bGo hA 3 0 (77, .iload_n 1, 1, 49, 0, [1], []) rfl rfl rfl ?_
        refine bGo hA 3 1 (78, .iaload, 1, 50, 0, [], []) rfl rfl rfl ?_
        refine ⟨rfl, (bIxP (x := l1) (n := 120) h_l1 (((h.2.2 c1).2.2 c3).1 c6).1), ?_⟩
        refine bEqL (x := l1) h_l1 ?_
        refine bGo hA 3 2 (79, .if_icmp .ne (8), 3, 51, 53, [], []) rfl rfl rfl ?_
        refine bB_eq (x := (bi σ 137 l5)) (y := (bi σ 103 l1)) (bi_rg _ _ _) (bi_rg _ _ _) (fun c7 => ?_) (fun c7 => ?_)
        · refine bGo hA 3 3 (82, .iload 5, 2, 52, 0, [5], []) rfl rfl rfl ?_
          refine bGo hA 3 4 (84, .goto (5), 3, 53, 54, [], []) rfl rfl rfl ?_
          refine bGo hA 3 6 (89, .istore 4, 2, 55, 0, [4], []) rfl rfl rfl ?_
          refine bGo hA 3 7 (91, .iinc 5 (-1), 3, 56, 0, [5], [(-1, 0)]) rfl rfl rfl ?_
          refine bEqC (fun v => A (56, [.ref 12, .int (bn l1), .int (bn l2), .int (bn l3), .int (bn l5), .int v], [], σ)) ((congrArg (fun w => bn l5 + w) bl_m1).trans (bn_add l5 (-1))) ?_
          refine bGo hA 3 8 (94, .goto (-63), 3, 57, 23, [], []) rfl rfl rfl ?_
          exact ((((h.2.2 c1).2.2 c3).1 c6).2.1 c7).2
        · refine bGo hA 3 5 (87, .iload 4, 2, 54, 0, [4], []) rfl rfl rfl ?_
          refine bGo hA 3 6 (89, .istore 4, 2, 55, 0, [4], []) rfl rfl rfl ?_
          refine bGo hA 3 7 (91, .iinc 5 (-1), 3, 56, 0, [5], [(-1, 0)]) rfl rfl rfl ?_
          refine bEqC (fun v => A (56, [.ref 12, .int (bn l1), .int (bn l2), .int (bn l3), .int (bn l4), .int v], [], σ)) ((congrArg (fun w => bn l5 + w) bl_m1).trans (bn_add l5 (-1))) ?_
          refine bGo hA 3 8 (94, .goto (-63), 3, 57, 23, [], []) rfl rfl rfl ?_
          exact ((((h.2.2 c1).2.2 c3).1 c6).2.2 c7).2
      · refine bGo hA 3 5 (87, .iload 4, 2, 54, 0, [4], []) rfl rfl rfl ?_
        refine bGo hA 3 6 (89, .istore 4, 2, 55, 0, [4], []) rfl rfl rfl ?_
        refine bGo hA 3 7 (91, .iinc 5 (-1), 3, 56, 0, [5], [(-1, 0)]) rfl rfl rfl ?_
        refine bEqC (fun v => A (56, [.ref 12, .int (bn l1), .int (bn l2), .int (bn l3), .int (bn l4), .int v], [], σ)) ((congrArg (fun w => bn l5 + w) bl_m1).trans (bn_add l5 (-1))) ?_
        refine bGo hA 3 8 (94, .goto (-63), 3, 57, 23, [], []) rfl rfl rfl ?_
        exact (((h.2.2 c1).2.2 c3).2 c6).2

theorem sq280_0 {lvl : Nat} {C : bCall} {Q : bPost} {A : bPt → Prop} (hC : bMono C) (hA : bClosed lvl bm280 C Q A)  {σ : bSt}  
  (h : A (2, [.ref 12, .int (bn 0)], [], σ)) : A (0, [.ref 12, .float 0], [], σ) := by
  refine bGo hA 0 0 (0, .iconst (0), 1, 1, 0, [], [(0, 0)]) rfl rfl rfl ?_
  refine bEqI bl_0 ?_
  refine bGo hA 0 1 (1, .istore_n 1, 1, 2, 0, [1], []) rfl rfl rfl ?_
  exact h

theorem sq280_2 {lvl : Nat} {C : bCall} {Q : bPost} {A : bPt → Prop} (hC : bMono C) (hA : bClosed lvl bm280 C Q A) {l1 : Int} {σ : bSt}  (h_l1 : bRg l1)
  (h : ((l1 < 12 → ((0 ≤ l1 ∧ l1 < 12) ∧ (bRg (l1 + 1) ∧ A (2, [.ref 12, .int (bn (l1 + 1))], [], (bw σ 139 l1 0))))) ∧ (¬ l1 < 12 → A (17, [.ref 12, .int (bn 0)], [], (bw σ 12 95 (-1)))))) : A (2, [.ref 12, .int (bn l1)], [], σ) := by
  refine bGo hA 0 2 (2, .iload_n 1, 1, 3, 0, [1], []) rfl rfl rfl ?_
  refine bGo hA 0 3 (3, .bipush (12), 2, 4, 0, [], [(12, 0)]) rfl rfl rfl ?_
  refine bEqI bl_12 ?_
  refine bGo hA 0 4 (5, .if_icmp .ge (16), 3, 5, 12, [], []) rfl rfl rfl ?_
  refine bB_lt (x := l1) (y := 12) h_l1 (by decide : bRg 12) (fun c1 => ?_) (fun c1 => ?_)
  · refine bGo hA 0 5 (8, .aload_n 0, 1, 6, 0, [0], []) rfl rfl rfl ?_
    refine bGo hA 0 6 (9, .getfield 260, 3, 7, 0, [12, 94, 3, 139, 1, 0], []) rfl rfl rfl ?_
    refine ⟨rfl, ?_⟩
    refine bGo hA 0 7 (12, .iload_n 1, 1, 8, 0, [1], []) rfl rfl rfl ?_
    refine bGo hA 0 8 (13, .iconst (0), 1, 9, 0, [], [(0, 0)]) rfl rfl rfl ?_
    refine bEqI bl_0 ?_
    refine bGo hA 0 9 (14, .iastore, 1, 10, 0, [], []) rfl rfl rfl ?_
    refine ⟨rfl, (bIxP (x := l1) (n := 12) h_l1 (h.1 c1).1), by decide, ?_⟩
    refine bEqS (x := l1) h_l1 ?_
    refine bGo hA 0 10 (15, .iinc 1 (1), 3, 11, 0, [1], [(1, 0)]) rfl rfl rfl ?_
    refine bEqC (fun v => A (11, [.ref 12, .int v], [], (bw σ 139 l1 0))) ((congrArg (fun w => bn l1 + w) bl_1).trans (bn_add l1 1)) ?_
    refine bGo hA 0 11 (18, .goto (-16), 3, 12, 2, [], []) rfl rfl rfl ?_
    exact (h.1 c1).2.2
  · refine bGo hA 0 12 (21, .aload_n 0, 1, 13, 0, [0], []) rfl rfl rfl ?_
    refine bGo hA 0 13 (22, .iconst (-1), 1, 14, 0, [], [(-1, 0)]) rfl rfl rfl ?_
    refine bEqI bl_m1 ?_
    refine bGo hA 0 14 (23, .putfield 316, 3, 15, 0, [12, 95, 0, 0, 0, 0], []) rfl rfl rfl ?_
    refine ⟨rfl, ?_⟩
    refine bGo hA 0 15 (26, .iconst (0), 1, 16, 0, [], [(0, 0)]) rfl rfl rfl ?_
    refine bEqI bl_0 ?_
    refine bGo hA 1 0 (27, .istore_n 1, 1, 17, 0, [1], []) rfl rfl rfl ?_
    exact (h.2 c1)

theorem sq280_17 {lvl : Nat} {C : bCall} {Q : bPost} {A : bPt → Prop} (hC : bMono C) (hA : bClosed lvl bm280 C Q A) {l1 : Int} {σ : bSt}  (h_l1 : bRg l1)
  (h : ((l1 < 120 → ((0 ≤ l1 ∧ l1 < 120) ∧ (bRg (l1 + 1) ∧ A (17, [.ref 12, .int (bn (l1 + 1))], [], (bw (bw (bw (bw (bw (bw (bw (bw σ 140 l1 0) 142 l1 (-1)) 143 l1 (-1)) 144 l1 (-1)) 145 l1 (-1)) 146 l1 (-1)) 148 l1 (-1)) 147 l1 0))))) ∧ (¬ l1 < 120 → Q (.inl none) (bw (bw σ 12 105 0) 12 106 0)))) : A (17, [.ref 12, .int (bn l1)], [], σ) := by
  refine bGo hA 1 1 (28, .iload_n 1, 1, 18, 0, [1], []) rfl rfl rfl ?_
  refine bGo hA 1 2 (29, .bipush (120), 2, 19, 0, [], [(120, 0)]) rfl rfl rfl ?_
  refine bEqI bl_120 ?_
  refine bGo hA 1 3 (31, .if_icmp .ge (65), 3, 20, 62, [], []) rfl rfl rfl ?_
  refine bB_lt (x := l1) (y := 120) h_l1 (by decide : bRg 120) (fun c1 => ?_) (fun c1 => ?_)
  · refine bGo hA 1 4 (34, .aload_n 0, 1, 21, 0, [0], []) rfl rfl rfl ?_
    refine bGo hA 1 5 (35, .getfield 263, 3, 22, 0, [12, 96, 3, 140, 1, 0], []) rfl rfl rfl ?_
    refine ⟨rfl, ?_⟩
    refine bGo hA 1 6 (38, .iload_n 1, 1, 23, 0, [1], []) rfl rfl rfl ?_
    refine bGo hA 1 7 (39, .iconst (0), 1, 24, 0, [], [(0, 0)]) rfl rfl rfl ?_
    refine bEqI bl_0 ?_
    refine bGo hA 1 8 (40, .bastore, 1, 25, 0, [], []) rfl rfl rfl ?_
    refine ⟨rfl, (bIxP (x := l1) (n := 120) h_l1 (h.1 c1).1), by decide, b01 (Or.inl rfl), ?_⟩
    refine bEqS (x := l1) h_l1 ?_
    refine bGo hA 1 9 (41, .aload_n 0, 1, 26, 0, [0], []) rfl rfl rfl ?_
    refine bGo hA 1 10 (42, .getfield 269, 3, 27, 0, [12, 98, 3, 142, 1, 0], []) rfl rfl rfl ?_
    refine ⟨rfl, ?_⟩
    refine bGo hA 1 11 (45, .iload_n 1, 1, 28, 0, [1], []) rfl rfl rfl ?_
    refine bGo hA 1 12 (46, .iconst (-1), 1, 29, 0, [], [(-1, 0)]) rfl rfl rfl ?_
    refine bEqI bl_m1 ?_
    refine bGo hA 1 13 (47, .iastore, 1, 30, 0, [], []) rfl rfl rfl ?_
    refine ⟨rfl, (bIxP (x := l1) (n := 120) h_l1 (h.1 c1).1), by decide, ?_⟩
    refine bEqS (x := l1) h_l1 ?_
    refine bGo hA 1 14 (48, .aload_n 0, 1, 31, 0, [0], []) rfl rfl rfl ?_
    refine bGo hA 1 15 (49, .getfield 272, 3, 32, 0, [12, 99, 3, 143, 1, 0], []) rfl rfl rfl ?_
    refine ⟨rfl, ?_⟩
    refine bGo hA 2 0 (52, .iload_n 1, 1, 33, 0, [1], []) rfl rfl rfl ?_
    refine bGo hA 2 1 (53, .iconst (-1), 1, 34, 0, [], [(-1, 0)]) rfl rfl rfl ?_
    refine bEqI bl_m1 ?_
    refine bGo hA 2 2 (54, .iastore, 1, 35, 0, [], []) rfl rfl rfl ?_
    refine ⟨rfl, (bIxP (x := l1) (n := 120) h_l1 (h.1 c1).1), by decide, ?_⟩
    refine bEqS (x := l1) h_l1 ?_
    refine bGo hA 2 3 (55, .aload_n 0, 1, 36, 0, [0], []) rfl rfl rfl ?_
    refine bGo hA 2 4 (56, .getfield 275, 3, 37, 0, [12, 100, 3, 144, 1, 0], []) rfl rfl rfl ?_
    refine ⟨rfl, ?_⟩
    refine bGo hA 2 5 (59, .iload_n 1, 1, 38, 0, [1], []) rfl rfl rfl ?_
    refine bGo hA 2 6 (60, .iconst (-1), 1, 39, 0, [], [(-1, 0)]) rfl rfl rfl ?_
    refine bEqI bl_m1 ?_
    refine bGo hA 2 7 (61, .iastore, 1, 40, 0, [], []) rfl rfl rfl ?_
    refine ⟨rfl, (bIxP (x := l1) (n := 120) h_l1 (h.1 c1).1), by decide, ?_⟩
    refine bEqS (x := l1) h_l1 ?_
    refine bGo hA 2 8 (62, .aload_n 0, 1, 41, 0, [0], []) rfl rfl rfl ?_
    refine bGo hA 2 9 (63, .getfield 278, 3, 42, 0, [12, 101, 3, 145, 1, 0], []) rfl rfl rfl ?_
    refine ⟨rfl, ?_⟩
    refine bGo hA 2 10 (66, .iload_n 1, 1, 43, 0, [1], []) rfl rfl rfl ?_
    refine bGo hA 2 11 (67, .iconst (-1), 1, 44, 0, [], [(-1, 0)]) rfl rfl rfl ?_
    refine bEqI bl_m1 ?_
    refine bGo hA 2 12 (68, .iastore, 1, 45, 0, [], []) rfl rfl rfl ?_
    refine ⟨rfl, (bIxP (x := l1) (n := 120) h_l1 (h.1 c1).1), by decide, ?_⟩
    refine bEqS (x := l1) h_l1 ?_
    refine bGo hA 2 13 (69, .aload_n 0, 1, 46, 0, [0], []) rfl rfl rfl ?_
    refine bGo hA 2 14 (70, .getfield 281, 3, 47, 0, [12, 102, 3, 146, 1, 0], []) rfl rfl rfl ?_
    refine ⟨rfl, ?_⟩
    refine bGo hA 2 15 (73, .iload_n 1, 1, 48, 0, [1], []) rfl rfl rfl ?_
    refine bGo hA 3 0 (74, .iconst (-1), 1, 49, 0, [], [(-1, 0)]) rfl rfl rfl ?_
    refine bEqI bl_m1 ?_
    refine bGo hA 3 1 (75, .iastore, 1, 50, 0, [], []) rfl rfl rfl ?_
    refine ⟨rfl, (bIxP (x := l1) (n := 120) h_l1 (h.1 c1).1), by decide, ?_⟩
    refine bEqS (x := l1) h_l1 ?_
    refine bGo hA 3 2 (76, .aload_n 0, 1, 51, 0, [0], []) rfl rfl rfl ?_
    refine bGo hA 3 3 (77, .getfield 287, 3, 52, 0, [12, 104, 3, 148, 1, 0], []) rfl rfl rfl ?_
    refine ⟨rfl, ?_⟩
    refine bGo hA 3 4 (80, .iload_n 1, 1, 53, 0, [1], []) rfl rfl rfl ?_
    refine bGo hA 3 5 (81, .iconst (-1), 1, 54, 0, [], [(-1, 0)]) rfl rfl rfl ?_
    refine bEqI bl_m1 ?_
    refine bGo hA 3 6 (82, .iastore, 1, 55, 0, [], []) rfl rfl rfl ?_
    refine ⟨rfl, (bIxP (x := l1) (n := 120) h_l1 (h.1 c1).1), by decide, ?_⟩
    refine bEqS (x := l1) h_l1 ?_
    refine bGo hA 3 7 (83, .aload_n 0, 1, 56, 0, [0], []) rfl rfl rfl ?_
    refine bGo hA 3 8 (84, .getfield 284, 3, 57, 0, [12, 103, 3, 147, 1, 0], []) rfl rfl rfl ?_
    refine ⟨rfl, ?_⟩
    refine bGo hA 3 9 (87, .iload_n 1, 1, 58, 0, [1], []) rfl rfl rfl ?_
    refine bGo hA 3 10 (88, .iconst (0), 1, 59, 0, [], [(0, 0)]) rfl rfl rfl ?_
    refine bEqI bl_0 ?_
    refine bGo hA 3 11 (89, .bastore, 1, 60, 0, [], []) rfl rfl rfl ?_
    refine ⟨rfl, (bIxP (x := l1) (n := 120) h_l1 (h.1 c1).1), by decide, b01 (Or.inl rfl), ?_⟩
    refine bEqS (x := l1) h_l1 ?_
    refine bGo hA 3 12 (90, .iinc 1 (1), 3, 61, 0, [1], [(1, 0)]) rfl rfl rfl ?_
    refine bEqC (fun v => A (61, [.ref 12, .int v], [], (bw (bw (bw (bw (bw (bw (bw (bw σ 140 l1 0) 142 l1 (-1)) 143 l1 (-1)) 144 l1 (-1)) 145 l1 (-1)) 146 l1 (-1)) 148 l1 (-1)) 147 l1 0))) ((congrArg (fun w => bn l1 + w) bl_1).trans (bn_add l1 1)) ?_
    refine bGo hA 3 13 (93, .goto (-65), 3, 62, 17, [], []) rfl rfl rfl ?_
    exact (h.1 c1).2.2
  · refine bGo hA 3 14 (96, .aload_n 0, 1, 63, 0, [0], []) rfl rfl rfl ?_
    refine bGo hA 3 15 (97, .iconst (0), 1, 64, 0, [], [(0, 0)]) rfl rfl rfl ?_
    refine bEqI bl_0 ?_
    refine bGo hA 4 0 (98, .putfield 480, 3, 65, 0, [12, 105, 0, 0, 0, 0], []) rfl rfl rfl ?_
    refine ⟨rfl, ?_⟩
    refine bGo hA 4 1 (101, .aload_n 0, 1, 66, 0, [0], []) rfl rfl rfl ?_
    refine bGo hA 4 2 (102, .iconst (0), 1, 67, 0, [], [(0, 0)]) rfl rfl rfl ?_
    refine bEqI bl_0 ?_
    refine bGo hA 4 3 (103, .putfield 483, 3, 68, 0, [12, 106, 1, 0, 0, 0], []) rfl rfl rfl ?_
    refine ⟨rfl, b01 (Or.inl rfl), ?_⟩
    refine bGo hA 4 4 (106, .return_, 1, 0, 0, [0], []) rfl rfl rfl ?_
    exact (h.2 c1)

theorem sq282_0 {lvl : Nat} {C : bCall} {Q : bPost} {A : bPt → Prop} (hC : bMono C) (hA : bClosed lvl bm282 C Q A) {x1 : Int} {σ : bSt}  (h_x1 : bRg x1)
  (h : ((0 ≤ x1 ∧ x1 < 120) ∧ (((bi σ 140 x1) = 0 → Q (.inl (some (.int (bn 0)))) σ) ∧ (¬ (bi σ 140 x1) = 0 → (((bi σ 143 x1) = (-1) → Q (.inl (some (.int (bn 0)))) σ) ∧ (¬ (bi σ 143 x1) = (-1) → (((bi σ 142 x1) = (-1) → Q (.inl (some (.int (bn 1)))) σ) ∧ (¬ (bi σ 142 x1) = (-1) → Q (.inl (some (.int (bn 0)))) σ)))))))) : A (0, [.ref 12, .int (bn x1)], [], σ) := by
  refine bGo hA 0 0 (0, .aload_n 0, 1, 1, 0, [0], []) rfl rfl rfl ?_
  refine bGo hA 0 1 (1, .getfield 263, 3, 2, 0, [12, 96, 3, 140, 1, 0], []) rfl rfl rfl ?_
  refine ⟨rfl, ?_⟩
  refine bGo hA 0 2 (4, .iload_n 1, 1, 3, 0, [1], []) rfl rfl rfl ?_
  refine bGo hA 0 3 (5, .baload, 1, 4, 0, [], []) rfl rfl rfl ?_
  refine ⟨rfl, (bIxP (x := x1) (n := 120) h_x1 h.1), ?_⟩
  refine bEqL (x := x1) h_x1 ?_
  refine bGo hA 0 4 (6, .ifCond .eq (27), 3, 5, 19, [], []) rfl rfl rfl ?_
  refine bB_eq0 (x := (bi σ 140 x1)) (bi_rg _ _ _) (fun c1 => ?_) (fun c1 => ?_)
  · refine bGo hA 1 3 (33, .iconst (0), 1, 20, 0, [], [(0, 0)]) rfl rfl rfl ?_
    refine bEqI bl_0 ?_
    refine bGo hA 1 4 (34, .ireturn, 1, 0, 0, [2], []) rfl rfl rfl ?_
    exact ⟨b01 (Or.inl rfl), (h.2.1 c1)⟩
  · refine bGo hA 0 5 (9, .aload_n 0, 1, 6, 0, [0], []) rfl rfl rfl ?_
    refine bGo hA 0 6 (10, .getfield 272, 3, 7, 0, [12, 99, 3, 143, 1, 0], []) rfl rfl rfl ?_
    refine ⟨rfl, ?_⟩
    refine bGo hA 0 7 (13, .iload_n 1, 1, 8, 0, [1], []) rfl rfl rfl ?_
    refine bGo hA 0 8 (14, .iaload, 1, 9, 0, [], []) rfl rfl rfl ?_
    refine ⟨rfl, (bIxP (x := x1) (n := 120) h_x1 h.1), ?_⟩
    refine bEqL (x := x1) h_x1 ?_
    refine bGo hA 0 9 (15, .iconst (-1), 1, 10, 0, [], [(-1, 0)]) rfl rfl rfl ?_
    refine bEqI bl_m1 ?_
    refine bGo hA 0 10 (16, .if_icmp .eq (17), 3, 11, 19, [], []) rfl rfl rfl ?_
    refine bB_eq (x := (bi σ 143 x1)) (y := (-1)) (bi_rg _ _ _) (by decide : bRg (-1)) (fun c2 => ?_) (fun c2 => ?_)
    · refine bGo hA 1 3 (33, .iconst (0), 1, 20, 0, [], [(0, 0)]) rfl rfl rfl ?_
      refine bEqI bl_0 ?_
      refine bGo hA 1 4 (34, .ireturn, 1, 0, 0, [2], []) rfl rfl rfl ?_
      exact ⟨b01 (Or.inl rfl), ((h.2.2 c1).1 c2)⟩
    · refine bGo hA 0 11 (19, .aload_n 0, 1, 12, 0, [0], []) rfl rfl rfl ?_
      refine bGo hA 0 12 (20, .getfield 269, 3, 13, 0, [12, 98, 3, 142, 1, 0], []) rfl rfl rfl ?_
      refine ⟨rfl, ?_⟩
      refine bGo hA 0 13 (23, .iload_n 1, 1, 14, 0, [1], []) rfl rfl rfl ?_
      refine bGo hA 0 14 (24, .iaload, 1, 15, 0, [], []) rfl rfl rfl ?_
      refine ⟨rfl, (bIxP (x := x1) (n := 120) h_x1 h.1), ?_⟩
      refine bEqL (x := x1) h_x1 ?_
      refine bGo hA 0 15 (25, .iconst (-1), 1, 16, 0, [], [(-1, 0)]) rfl rfl rfl ?_
      refine bEqI bl_m1 ?_
      refine bGo hA 1 0 (26, .if_icmp .ne (7), 3, 17, 19, [], []) rfl rfl rfl ?_
      refine bB_eq (x := (bi σ 142 x1)) (y := (-1)) (bi_rg _ _ _) (by decide : bRg (-1)) (fun c3 => ?_) (fun c3 => ?_)
      · refine bGo hA 1 1 (29, .iconst (1), 1, 18, 0, [], [(1, 0)]) rfl rfl rfl ?_
        refine bEqI bl_1 ?_
        refine bGo hA 1 2 (30, .goto (4), 3, 19, 20, [], []) rfl rfl rfl ?_
        refine bGo hA 1 4 (34, .ireturn, 1, 0, 0, [2], []) rfl rfl rfl ?_
        exact ⟨b01 (Or.inr rfl), (((h.2.2 c1).2 c2).1 c3)⟩
      · refine bGo hA 1 3 (33, .iconst (0), 1, 20, 0, [], [(0, 0)]) rfl rfl rfl ?_
        refine bEqI bl_0 ?_
        refine bGo hA 1 4 (34, .ireturn, 1, 0, 0, [2], []) rfl rfl rfl ?_
        exact ⟨b01 (Or.inl rfl), (((h.2.2 c1).2 c2).2 c3)⟩

theorem sq283_0 {lvl : Nat} {C : bCall} {Q : bPost} {A : bPt → Prop} (hC : bMono C) (hA : bClosed lvl bm283 C Q A) {x1 : Int} {σ : bSt}  (h_x1 : bRg x1)
  (h : A (5, [.ref 12, .int (bn x1), .int (bn (bi σ 12 49)), .int (bn 0), .float 0, .float 0], [], σ)) : A (0, [.ref 12, .int (bn x1), .float 0, .float 0, .float 0, .float 0], [], σ) := by
  refine bGo hA 0 0 (0, .aload_n 0, 1, 1, 0, [0], []) rfl rfl rfl ?_
  refine bGo hA 0 1 (1, .getfield 410, 3, 2, 0, [12, 49, 0, 0, 0, 0], []) rfl rfl rfl ?_
  refine ⟨rfl, ?_⟩
  refine bEqI (bn_bi σ 12 49) ?_
  refine bGo hA 0 2 (4, .istore_n 2, 1, 3, 0, [2], []) rfl rfl rfl ?_
  refine bGo hA 0 3 (5, .iconst (0), 1, 4, 0, [], [(0, 0)]) rfl rfl rfl ?_
  refine bEqI bl_0 ?_
  refine bGo hA 0 4 (6, .istore_n 3, 1, 5, 0, [3], []) rfl rfl rfl ?_
  exact h

theorem sq283_5 {lvl : Nat} {C : bCall} {Q : bPost} {A : bPt → Prop} (hC : bMono C) (hA : bClosed lvl bm283 C Q A) {l1 : Int} {l2 : Int} {l3 : Int} {v4 : Value} {v5 : Value} {σ : bSt}  (h_l1 : bRg l1) (h_l2 : bRg l2) (h_l3 : bRg l3)
  (h : ((l3 < 120 → ((0 ≤ l3 ∧ l3 < 120) ∧ (bRg (l3 + 1) ∧ A (5, [.ref 12, .int (bn l1), .int (bn l2), .int (bn (l3 + 1)), v4, v5], [], (bw (bw σ 108 l3 (bi σ 107 l3)) 109 l3 0))))) ∧ (¬ l3 < 120 → A (27, [.ref 12, .int (bn l1), .int (bn l2), .int (bn 1), .int (bn 0), v5], [], σ)))) : A (5, [.ref 12, .int (bn l1), .int (bn l2), .int (bn l3), v4, v5], [], σ) := by
  refine bGo hA 0 5 (7, .iload_n 3, 1, 6, 0, [3], []) rfl rfl rfl ?_
  refine bGo hA 0 6 (8, .bipush (120), 2, 7, 0, [], [(120, 0)]) rfl rfl rfl ?_
  refine bEqI bl_120 ?_
  refine bGo hA 0 7 (10, .if_icmp .ge (28), 3, 8, 23, [], []) rfl rfl rfl ?_
  refine bB_lt (x := l3) (y := 120) h_l3 (by decide : bRg 120) (fun c1 => ?_) (fun c1 => ?_)
  · refine bGo hA 0 8 (13, .aload_n 0, 1, 9, 0, [0], []) rfl rfl rfl ?_
    refine bGo hA 0 9 (14, .getfield 167, 3, 10, 0, [12, 57, 3, 108, 1, 0], []) rfl rfl rfl ?_
    refine ⟨rfl, ?_⟩
    refine bGo hA 0 10 (17, .iload_n 3, 1, 11, 0, [3], []) rfl rfl rfl ?_
    refine bGo hA 0 11 (18, .aload_n 0, 1, 12, 0, [0], []) rfl rfl rfl ?_
    refine bGo hA 0 12 (19, .getfield 164, 3, 13, 0, [12, 56, 3, 107, 1, 0], []) rfl rfl rfl ?_
    refine ⟨rfl, ?_⟩
    refine bGo hA 0 13 (22, .iload_n 3, 1, 14, 0, [3], []) rfl rfl rfl ?_
    refine bGo hA 0 14 (23, .iaload, 1, 15, 0, [], []) rfl rfl rfl ?_
    refine ⟨rfl, (bIxP (x := l3) (n := 120) h_l3 (h.1 c1).1), ?_⟩
    refine bEqL (x := l3) h_l3 ?_
    refine bGo hA 0 15 (24, .iastore, 1, 16, 0, [], []) rfl rfl rfl ?_
    refine ⟨rfl, (bIxP (x := l3) (n := 120) h_l3 (h.1 c1).1), by decide, ?_⟩
    refine bEqS (x := l3) h_l3 ?_
    refine bGo hA 1 0 (25, .aload_n 0, 1, 17, 0, [0], []) rfl rfl rfl ?_
    refine bGo hA 1 1 (26, .getfield 170, 3, 18, 0, [12, 58, 3, 109, 1, 0], []) rfl rfl rfl ?_
    refine ⟨rfl, ?_⟩
    refine bGo hA 1 2 (29, .iload_n 3, 1, 19, 0, [3], []) rfl rfl rfl ?_
    refine bGo hA 1 3 (30, .iconst (0), 1, 20, 0, [], [(0, 0)]) rfl rfl rfl ?_
    refine bEqI bl_0 ?_
    refine bGo hA 1 4 (31, .bastore, 1, 21, 0, [], []) rfl rfl rfl ?_
    refine ⟨rfl, (bIxP (x := l3) (n := 120) h_l3 (h.1 c1).1), by decide, b01 (Or.inl rfl), ?_⟩
    refine bEqS (x := l3) h_l3 ?_
    refine bGo hA 1 5 (32, .iinc 3 (1), 3, 22, 0, [3], [(1, 0)]) rfl rfl rfl ?_
    refine bEqC (fun v => A (22, [.ref 12, .int (bn l1), .int (bn l2), .int v, v4, v5], [], (bw (bw σ 108 l3 (bi σ 107 l3)) 109 l3 0))) ((congrArg (fun w => bn l3 + w) bl_1).trans (bn_add l3 1)) ?_
    refine bGo hA 1 6 (35, .goto (-28), 3, 23, 5, [], []) rfl rfl rfl ?_
    exact (h.1 c1).2.2
  · refine bGo hA 1 7 (38, .iconst (1), 1, 24, 0, [], [(1, 0)]) rfl rfl rfl ?_
    refine bEqI bl_1 ?_
    refine bGo hA 1 8 (39, .istore_n 3, 1, 25, 0, [3], []) rfl rfl rfl ?_
    refine bGo hA 1 9 (40, .iconst (0), 1, 26, 0, [], [(0, 0)]) rfl rfl rfl ?_
    refine bEqI bl_0 ?_
    refine bGo hA 1 10 (41, .istore 4, 2, 27, 0, [4], []) rfl rfl rfl ?_
    exact (h.2 c1)

theorem sq283_27 {lvl : Nat} {C : bCall} {Q : bPost} {A : bPt → Prop} (hC : bMono C) (hA : bClosed lvl bm283 C Q A) {l1 : Int} {l2 : Int} {l3 : Int} {l4 : Int} {v5 : Value} {σ : bSt}  (h_l1 : bRg l1) (h_l2 : bRg l2) (h_l3 : bRg l3) (h_l4 : bRg l4)
  (h : ((l4 < (bi σ 12 22) → ((l3 = 0 → ((l3 = 0 → A (68, [.ref 12, .int (bn l1), .int (bn l2), .int (bn l3), .int (bn 0), v5], [], (bw σ 12 49 l2))) ∧ (¬ l3 = 0 → ((l3 = 0 ∨ l3 = 1) ∧ Q (.inl (some (.int (bn l3)))) σ)))) ∧ (¬ l3 = 0 → (bRg (256 * l4) ∧ (C 238 [.ref 12] σ (bRn (fun r6 s4 => (bRg ((256 * l4) + r6) ∧ (((bAnd (bShr l1 l4) 1) = 0 → (bRg (l4 + 1) ∧ A (27, [.ref 12, .int (bn l1), .int (bn l2), .int (bn 1), .int (bn (l4 + 1)), .int (bn ((256 * l4) + r6))], [], s4))) ∧ (¬ (bAnd (bShr l1 l4) 1) = 0 → ((0 ≤ ((256 * l4) + r6) ∧ ((256 * l4) + r6) < 4096) ∧ (((bi s4 95 ((256 * l4) + r6)) = 0 → (C 250 [.ref 12, .int (bn ((256 * l4) + r6))] s4 (bRn (fun r12 s10 => ((r12 = 0 → (bRg (l4 + 1) ∧ A (27, [.ref 12, .int (bn l1), .int (bn l2), .int (bn 0), .int (bn (l4 + 1)), .int (bn ((256 * l4) + r6))], [], s10))) ∧ (¬ r12 = 0 → (bRg (l4 + 1) ∧ A (27, [.ref 12, .int (bn l1), .int (bn l2), .int (bn 1), .int (bn (l4 + 1)), .int (bn ((256 * l4) + r6))], [], s10)))))))) ∧ (¬ (bi s4 95 ((256 * l4) + r6)) = 0 → (bRg (l4 + 1) ∧ A (27, [.ref 12, .int (bn l1), .int (bn l2), .int (bn 1), .int (bn (l4 + 1)), .int (bn ((256 * l4) + r6))], [], s4))))))))))))))) ∧ (¬ l4 < (bi σ 12 22) → ((l3 = 0 → A (68, [.ref 12, .int (bn l1), .int (bn l2), .int (bn l3), .int (bn 0), v5], [], (bw σ 12 49 l2))) ∧ (¬ l3 = 0 → ((l3 = 0 ∨ l3 = 1) ∧ Q (.inl (some (.int (bn l3)))) σ)))))) : A (27, [.ref 12, .int (bn l1), .int (bn l2), .int (bn l3), .int (bn l4), v5], [], σ) := by
  refine bGo hA 1 11 (43, .iload 4, 2, 28, 0, [4], []) rfl rfl rfl ?_
  refine bGo hA 1 12 (45, .aload_n 0, 1, 29, 0, [0], []) rfl rfl rfl ?_
  refine bGo hA 1 13 (46, .getfield 380, 3, 30, 0, [12, 22, 0, 0, 0, 0], []) rfl rfl rfl ?_
  refine ⟨rfl, ?_⟩
  refine bEqI (bn_bi σ 12 22) ?_
  refine bGo hA 1 14 (49, .if_icmp .ge (60), 3, 31, 61, [], []) rfl rfl rfl ?_
  refine bB_lt (x := l4) (y := (bi σ 12 22)) h_l4 (bi_rg _ _ _) (fun c1 => ?_) (fun c1 => ?_)
  · refine bGo hA 1 15 (52, .iload_n 3, 1, 32, 0, [3], []) rfl rfl rfl ?_
    refine bGo hA 2 0 (53, .ifCond .eq (56), 3, 33, 61, [], []) rfl rfl rfl ?_
    refine bB_eq0 (x := l3) h_l3 (fun c2 => ?_) (fun c2 => ?_)
    · refine bGo hA 3 13 (109, .iload_n 3, 1, 62, 0, [3], []) rfl rfl rfl ?_
      refine bGo hA 3 14 (110, .ifCond .ne (38), 3, 63, 81, [], []) rfl rfl rfl ?_
      refine bB_eq0 (x := l3) h_l3 (fun c3 => ?_) (fun c3 => ?_)
      · refine bGo hA 3 15 (113, .aload_n 0, 1, 64, 0, [0], []) rfl rfl rfl ?_
        refine bGo hA 4 0 (114, .iload_n 2, 1, 65, 0, [2], []) rfl rfl rfl ?_
        refine bGo hA 4 1 (115, .putfield 410, 3, 66, 0, [12, 49, 0, 0, 0, 0], []) rfl rfl rfl ?_
        refine ⟨rfl, ?_⟩
        refine bGo hA 4 2 (118, .iconst (0), 1, 67, 0, [], [(0, 0)]) rfl rfl rfl ?_
        refine bEqI bl_0 ?_
        refine bGo hA 4 3 (119, .istore 4, 2, 68, 0, [4], []) rfl rfl rfl ?_
        exact (((h.1 c1).1 c2).1 c3)
      · refine bGo hA 5 1 (148, .iload_n 3, 1, 82, 0, [3], []) rfl rfl rfl ?_
        refine bGo hA 5 2 (149, .ireturn, 1, 0, 0, [2], []) rfl rfl rfl ?_
        exact ⟨b01 (((h.1 c1).1 c2).2 c3).1, (((h.1 c1).1 c2).2 c3).2⟩
    · refine bGo hA 2 1 (56, .sipush (256), 3, 34, 0, [], [(256, 0)]) rfl rfl rfl ?_
      refine bEqI bl_256 ?_
      refine bGo hA 2 2 (59, .iload 4, 2, 35, 0, [4], []) rfl rfl rfl ?_
      refine bGo hA 2 3 (61, .imul, 1, 36, 0, [], []) rfl rfl rfl ?_
      refine bEqI (bn_mul 256 l4) ?_
      refine bGo hA 2 4 (62, .aload_n 0, 1, 37, 0, [0], []) rfl rfl rfl ?_
      refine bGo hA 2 5 (63, .invokevirtual 394, 3, 38, 0, [0, 12, 238, 0], []) rfl rfl rfl ?_
      refine ⟨rfl, ?_⟩
      refine hC _ _ _ _ _ (bRn_e (fun r6 s4 q7 k5 => ?_)) ((h.1 c1).2 c2).2
      show A (38, [.ref 12, .int (bn l1), .int (bn l2), .int (bn l3), .int (bn l4), v5], [.int (bn r6), .int (bn (256 * l4))], s4)
      refine bGo hA 2 6 (66, .iadd, 1, 39, 0, [], []) rfl rfl rfl ?_
      refine bEqI (bn_add (256 * l4) r6) ?_
      refine bGo hA 2 7 (67, .istore 5, 2, 40, 0, [5], []) rfl rfl rfl ?_
      refine bGo hA 2 8 (69, .iload_n 1, 1, 41, 0, [1], []) rfl rfl rfl ?_
      refine bGo hA 2 9 (70, .iload 4, 2, 42, 0, [4], []) rfl rfl rfl ?_
      refine bGo hA 2 10 (72, .ishr, 1, 43, 0, [], []) rfl rfl rfl ?_
      refine bEqI (bn_shr l1 l4) ?_
      refine bGo hA 2 11 (73, .iconst (1), 1, 44, 0, [], [(1, 0)]) rfl rfl rfl ?_
      refine bEqI bl_1 ?_
      refine bGo hA 2 12 (74, .iand, 1, 45, 0, [], []) rfl rfl rfl ?_
      refine bEqI (bn_and (bShr l1 l4) 1) ?_
      refine bGo hA 2 13 (75, .ifCond .eq (22), 3, 46, 55, [], []) rfl rfl rfl ?_
      refine bB_eq0 (x := (bAnd (bShr l1 l4) 1)) (bRgI _) (fun c8 => ?_) (fun c8 => ?_)
      · refine bGo hA 3 7 (97, .iconst (1), 1, 56, 0, [], [(1, 0)]) rfl rfl rfl ?_
        refine bEqI bl_1 ?_
        refine bGo hA 3 8 (98, .goto (4), 3, 57, 58, [], []) rfl rfl rfl ?_
        refine bGo hA 3 10 (102, .istore_n 3, 1, 59, 0, [3], []) rfl rfl rfl ?_
        refine bGo hA 3 11 (103, .iinc 4 (1), 3, 60, 0, [4], [(1, 0)]) rfl rfl rfl ?_
        refine bEqC (fun v => A (60, [.ref 12, .int (bn l1), .int (bn l2), .int (bn 1), .int v, .int (bn ((256 * l4) + r6))], [], s4)) ((congrArg (fun w => bn l4 + w) bl_1).trans (bn_add l4 1)) ?_
        refine bGo hA 3 12 (106, .goto (-63), 3, 61, 27, [], []) rfl rfl rfl ?_
        exact (k5.2.1 c8).2
      · refine bGo hA 2 14 (78, .aload_n 0, 1, 47, 0, [0], []) rfl rfl rfl ?_
        refine bGo hA 2 15 (79, .getfield 128, 3, 48, 0, [12, 43, 3, 95, 1, 0], []) rfl rfl rfl ?_
        refine ⟨rfl, ?_⟩
        refine bGo hA 3 0 (82, .iload 5, 2, 49, 0, [5], []) rfl rfl rfl ?_
        refine bGo hA 3 1 (84, .iaload, 1, 50, 0, [], []) rfl rfl rfl ?_
        refine ⟨rfl, (bIxP (x := ((256 * l4) + r6)) (n := 4096) k5.1 (k5.2.2 c8).1), ?_⟩
        refine bEqL (x := ((256 * l4) + r6)) k5.1 ?_
        refine bGo hA 3 2 (85, .ifCond .ne (12), 3, 51, 55, [], []) rfl rfl rfl ?_
        refine bB_eq0 (x := (bi s4 95 ((256 * l4) + r6))) (bi_rg _ _ _) (fun c9 => ?_) (fun c9 => ?_)
        · refine bGo hA 3 3 (88, .aload_n 0, 1, 52, 0, [0], []) rfl rfl rfl ?_
          refine bGo hA 3 4 (89, .iload 5, 2, 53, 0, [5], []) rfl rfl rfl ?_
          refine bGo hA 3 5 (91, .invokevirtual 486, 3, 54, 0, [0, 12, 250, 1], []) rfl rfl rfl ?_
          refine ⟨rfl, ?_⟩
          refine hC _ _ _ _ _ (bRn_e (fun r12 s10 q13 k11 => ?_)) ((k5.2.2 c8).2.1 c9)
          show A (54, [.ref 12, .int (bn l1), .int (bn l2), .int (bn l3), .int (bn l4), .int (bn ((256 * l4) + r6))], [.int (bn r12)], s10)
          refine bGo hA 3 6 (94, .ifCond .eq (7), 3, 55, 57, [], []) rfl rfl rfl ?_
          refine bB_eq0 (x := r12) q13 (fun c14 => ?_) (fun c14 => ?_)
          · refine bGo hA 3 9 (101, .iconst (0), 1, 58, 0, [], [(0, 0)]) rfl rfl rfl ?_
            refine bEqI bl_0 ?_
            refine bGo hA 3 10 (102, .istore_n 3, 1, 59, 0, [3], []) rfl rfl rfl ?_
            refine bGo hA 3 11 (103, .iinc 4 (1), 3, 60, 0, [4], [(1, 0)]) rfl rfl rfl ?_
            refine bEqC (fun v => A (60, [.ref 12, .int (bn l1), .int (bn l2), .int (bn 0), .int v, .int (bn ((256 * l4) + r6))], [], s10)) ((congrArg (fun w => bn l4 + w) bl_1).trans (bn_add l4 1)) ?_
            refine bGo hA 3 12 (106, .goto (-63), 3, 61, 27, [], []) rfl rfl rfl ?_
            exact (k11.1 c14).2
          · refine bGo hA 3 7 (97, .iconst (1), 1, 56, 0, [], [(1, 0)]) rfl rfl rfl ?_
            refine bEqI bl_1 ?_
            refine bGo hA 3 8 (98, .goto (4), 3, 57, 58, [], []) rfl rfl rfl ?_
            refine bGo hA 3 10 (102, .istore_n 3, 1, 59, 0, [3], []) rfl rfl rfl ?_
            refine bGo hA 3 11 (103, .iinc 4 (1), 3, 60, 0, [4], [(1, 0)]) rfl rfl rfl ?_
            refine bEqC (fun v => A (60, [.ref 12, .int (bn l1), .int (bn l2), .int (bn 1), .int v, .int (bn ((256 * l4) + r6))], [], s10)) ((congrArg (fun w => bn l4 + w) bl_1).trans (bn_add l4 1)) ?_
            refine bGo hA 3 12 (106, .goto (-63), 3, 61, 27, [], []) rfl rfl rfl ?_
            exact (k11.2 c14).2
        · refine bGo hA 3 7 (97, .iconst (1), 1, 56, 0, [], [(1, 0)]) rfl rfl rfl ?_
          refine bEqI bl_1 ?_
          refine bGo hA 3 8 (98, .goto (4), 3, 57, 58, [], []) rfl rfl rfl ?_
          refine bGo hA 3 10 (102, .istore_n 3, 1, 59, 0, [3], []) rfl rfl rfl ?_
          refine bGo hA 3 11 (103, .iinc 4 (1), 3, 60, 0, [4], [(1, 0)]) rfl rfl rfl ?_
          refine bEqC (fun v => A (60, [.ref 12, .int (bn l1), .int (bn l2), .int (bn 1), .int v, .int (bn ((256 * l4) + r6))], [], s4)) ((congrArg (fun w => bn l4 + w) bl_1).trans (bn_add l4 1)) ?_
          refine bGo hA 3 12 (106, .goto (-63), 3, 61, 27, [], []) rfl rfl rfl ?_
          exact ((k5.2.2 c8).2.2 c9).2
  · refine bGo hA 3 13 (109, .iload_n 3, 1, 62, 0, [3], []) rfl rfl rfl ?_
    refine bGo hA 3 14 (110, .ifCond .ne (38), 3, 63, 81, [], []) rfl rfl rfl ?_
    refine bB_eq0 (x := l3) h_l3 (fun c15 => ?_) (fun c15 => ?_)
    · refine bGo hA 3 15 (113, .aload_n 0, 1, 64, 0, [0], []) rfl rfl rfl ?_
      refine bGo hA 4 0 (114, .iload_n 2, 1, 65, 0, [2], []) rfl rfl rfl ?_
      refine bGo hA 4 1 (115, .putfield 410, 3, 66, 0, [12, 49, 0, 0, 0, 0], []) rfl rfl rfl ?_
      refine ⟨rfl, ?_⟩
      refine bGo hA 4 2 (118, .iconst (0), 1, 67, 0, [], [(0, 0)]) rfl rfl rfl ?_
      refine bEqI bl_0 ?_
      refine bGo hA 4 3 (119, .istore 4, 2, 68, 0, [4], []) rfl rfl rfl ?_
      exact ((h.2 c1).1 c15)
    · refine bGo hA 5 1 (148, .iload_n 3, 1, 82, 0, [3], []) rfl rfl rfl ?_
      refine bGo hA 5 2 (149, .ireturn, 1, 0, 0, [2], []) rfl rfl rfl ?_
      exact ⟨b01 ((h.2 c1).2 c15).1, ((h.2 c1).2 c15).2⟩

theorem sq283_68 {lvl : Nat} {C : bCall} {Q : bPost} {A : bPt → Prop} (hC : bMono C) (hA : bClosed lvl bm283 C Q A) {v1 : Value} {v2 : Value} {l3 : Int} {l4 : Int} {v5 : Value} {σ : bSt}  (h_l3 : bRg l3) (h_l4 : bRg l4)
  (h : ((l4 < 120 → ((0 ≤ l4 ∧ l4 < 120) ∧ (bRg (l4 + 1) ∧ A (68, [.ref 12, v1, v2, .int (bn l3), .int (bn (l4 + 1)), v5], [], (bw σ 107 l4 (bi σ 108 l4)))))) ∧ (¬ l4 < 120 → ((l3 = 0 ∨ l3 = 1) ∧ Q (.inl (some (.int (bn l3)))) σ)))) : A (68, [.ref 12, v1, v2, .int (bn l3), .int (bn l4), v5], [], σ) := by
  refine bGo hA 4 4 (121, .iload 4, 2, 69, 0, [4], []) rfl rfl rfl ?_
  refine bGo hA 4 5 (123, .bipush (120), 2, 70, 0, [], [(120, 0)]) rfl rfl rfl ?_
  refine bEqI bl_120 ?_
  refine bGo hA 4 6 (125, .if_icmp .ge (23), 3, 71, 81, [], []) rfl rfl rfl ?_
  refine bB_lt (x := l4) (y := 120) h_l4 (by decide : bRg 120) (fun c1 => ?_) (fun c1 => ?_)
  · refine bGo hA 4 7 (128, .aload_n 0, 1, 72, 0, [0], []) rfl rfl rfl ?_
    refine bGo hA 4 8 (129, .getfield 164, 3, 73, 0, [12, 56, 3, 107, 1, 0], []) rfl rfl rfl ?_
    refine ⟨rfl, ?_⟩
    refine bGo hA 4 9 (132, .iload 4, 2, 74, 0, [4], []) rfl rfl rfl ?_
    refine bGo hA 4 10 (134, .aload_n 0, 1, 75, 0, [0], []) rfl rfl rfl ?_
    refine bGo hA 4 11 (135, .getfield 167, 3, 76, 0, [12, 57, 3, 108, 1, 0], []) rfl rfl rfl ?_
    refine ⟨rfl, ?_⟩
    refine bGo hA 4 12 (138, .iload 4, 2, 77, 0, [4], []) rfl rfl rfl ?_
    refine bGo hA 4 13 (140, .iaload, 1, 78, 0, [], []) rfl rfl rfl ?_
    refine ⟨rfl, (bIxP (x := l4) (n := 120) h_l4 (h.1 c1).1), ?_⟩
    refine bEqL (x := l4) h_l4 ?_
    refine bGo hA 4 14 (141, .iastore, 1, 79, 0, [], []) rfl rfl rfl ?_
    refine ⟨rfl, (bIxP (x := l4) (n := 120) h_l4 (h.1 c1).1), by decide, ?_⟩
    refine bEqS (x := l4) h_l4 ?_
    refine bGo hA 4 15 (142, .iinc 4 (1), 3, 80, 0, [4], [(1, 0)]) rfl rfl rfl ?_
    refine bEqC (fun v => A (80, [.ref 12, v1, v2, .int (bn l3), .int v, v5], [], (bw σ 107 l4 (bi σ 108 l4)))) ((congrArg (fun w => bn l4 + w) bl_1).trans (bn_add l4 1)) ?_
    refine bGo hA 5 0 (145, .goto (-24), 3, 81, 68, [], []) rfl rfl rfl ?_
    exact (h.1 c1).2.2
  · refine bGo hA 5 1 (148, .iload_n 3, 1, 82, 0, [3], []) rfl rfl rfl ?_
    refine bGo hA 5 2 (149, .ireturn, 1, 0, 0, [2], []) rfl rfl rfl ?_
    exact ⟨b01 (h.2 c1).1, (h.2 c1).2⟩

theorem sq284_0 {lvl : Nat} {C : bCall} {Q : bPost} {A : bPt → Prop} (hC : bMono C) (hA : bClosed lvl bm284 C Q A) {x1 : Int} {σ : bSt}  (h_x1 : bRg x1)
  (h : A (4, [.ref 12, .int (bn x1), .int (bn 0), .int (bn 0)], [], σ)) : A (0, [.ref 12, .int (bn x1), .float 0, .float 0], [], σ) := by
  refine bGo hA 0 0 (0, .iconst (0), 1, 1, 0, [], [(0, 0)]) rfl rfl rfl ?_
  refine bEqI bl_0 ?_
  refine bGo hA 0 1 (1, .istore_n 2, 1, 2, 0, [2], []) rfl rfl rfl ?_
  refine bGo hA 0 2 (2, .iconst (0), 1, 3, 0, [], [(0, 0)]) rfl rfl rfl ?_
  refine bEqI bl_0 ?_
  refine bGo hA 0 3 (3, .istore_n 3, 1, 4, 0, [3], []) rfl rfl rfl ?_
  exact h

theorem sq284_4 {lvl : Nat} {C : bCall} {Q : bPost} {A : bPt → Prop} (hC : bMono C) (hA : bClosed lvl bm284 C Q A) {l1 : Int} {l2 : Int} {l3 : Int} {σ : bSt}  (h_l1 : bRg l1) (h_l2 : bRg l2) (h_l3 : bRg l3)
  (h : ((l3 < (bi σ 12 22) → ((l2 = 0 → (((bAnd (bShr l1 l3) 1) = 1 → (bRg (256 * l3) ∧ (C 238 [.ref 12] σ (bRn (fun r6 s4 => (bRg ((256 * l3) + r6) ∧ ((0 ≤ ((256 * l3) + r6) ∧ ((256 * l3) + r6) < 4096) ∧ (((bi s4 95 ((256 * l3) + r6)) = 0 → (bRg (l3 + 1) ∧ A (4, [.ref 12, .int (bn l1), .int (bn 0), .int (bn (l3 + 1))], [], s4))) ∧ (¬ (bi s4 95 ((256 * l3) + r6)) = 0 → (bRg (l3 + 1) ∧ A (4, [.ref 12, .int (bn l1), .int (bn 1), .int (bn (l3 + 1))], [], s4))))))))))) ∧ (¬ (bAnd (bShr l1 l3) 1) = 1 → (bRg (l3 + 1) ∧ A (4, [.ref 12, .int (bn l1), .int (bn 0), .int (bn (l3 + 1))], [], σ))))) ∧ (¬ l2 = 0 → (bRg (l3 + 1) ∧ A (4, [.ref 12, .int (bn l1), .int (bn 1), .int (bn (l3 + 1))], [], σ))))) ∧ (¬ l3 < (bi σ 12 22) → ((l2 = 0 ∨ l2 = 1) ∧ Q (.inl (some (.int (bn l2)))) σ)))) : A (4, [.ref 12, .int (bn l1), .int (bn l2), .int (bn l3)], [], σ) := by
  refine bGo hA 0 4 (4, .iload_n 3, 1, 5, 0, [3], []) rfl rfl rfl ?_
  refine bGo hA 0 5 (5, .aload_n 0, 1, 6, 0, [0], []) rfl rfl rfl ?_
  refine bGo hA 0 6 (6, .getfield 380, 3, 7, 0, [12, 22, 0, 0, 0, 0], []) rfl rfl rfl ?_
  refine ⟨rfl, ?_⟩
  refine bEqI (bn_bi σ 12 22) ?_
  refine bGo hA 0 7 (9, .if_icmp .ge (46), 3, 8, 33, [], []) rfl rfl rfl ?_
  refine bB_lt (x := l3) (y := (bi σ 12 22)) h_l3 (bi_rg _ _ _) (fun c1 => ?_) (fun c1 => ?_)
  · refine bGo hA 0 8 (12, .iload_n 2, 1, 9, 0, [2], []) rfl rfl rfl ?_
    refine bGo hA 0 9 (13, .ifCond .ne (30), 3, 10, 27, [], []) rfl rfl rfl ?_
    refine bB_eq0 (x := l2) h_l2 (fun c2 => ?_) (fun c2 => ?_)
    · refine bGo hA 0 10 (16, .iload_n 1, 1, 11, 0, [1], []) rfl rfl rfl ?_
      refine bGo hA 0 11 (17, .iload_n 3, 1, 12, 0, [3], []) rfl rfl rfl ?_
      refine bGo hA 0 12 (18, .ishr, 1, 13, 0, [], []) rfl rfl rfl ?_
      refine bEqI (bn_shr l1 l3) ?_
      refine bGo hA 0 13 (19, .iconst (1), 1, 14, 0, [], [(1, 0)]) rfl rfl rfl ?_
      refine bEqI bl_1 ?_
      refine bGo hA 0 14 (20, .iand, 1, 15, 0, [], []) rfl rfl rfl ?_
      refine bEqI (bn_and (bShr l1 l3) 1) ?_
      refine bGo hA 0 15 (21, .iconst (1), 1, 16, 0, [], [(1, 0)]) rfl rfl rfl ?_
      refine bEqI bl_1 ?_
      refine bGo hA 1 0 (22, .if_icmp .ne (25), 3, 17, 29, [], []) rfl rfl rfl ?_
      refine bB_eq (x := (bAnd (bShr l1 l3) 1)) (y := 1) (bRgI _) (by decide : bRg 1) (fun c3 => ?_) (fun c3 => ?_)
      · refine bGo hA 1 1 (25, .aload_n 0, 1, 18, 0, [0], []) rfl rfl rfl ?_
        refine bGo hA 1 2 (26, .getfield 128, 3, 19, 0, [12, 43, 3, 95, 1, 0], []) rfl rfl rfl ?_
        refine ⟨rfl, ?_⟩
        refine bGo hA 1 3 (29, .sipush (256), 3, 20, 0, [], [(256, 0)]) rfl rfl rfl ?_
        refine bEqI bl_256 ?_
        refine bGo hA 1 4 (32, .iload_n 3, 1, 21, 0, [3], []) rfl rfl rfl ?_
        refine bGo hA 1 5 (33, .imul, 1, 22, 0, [], []) rfl rfl rfl ?_
        refine bEqI (bn_mul 256 l3) ?_
        refine bGo hA 1 6 (34, .aload_n 0, 1, 23, 0, [0], []) rfl rfl rfl ?_
        refine bGo hA 1 7 (35, .invokevirtual 394, 3, 24, 0, [0, 12, 238, 0], []) rfl rfl rfl ?_
        refine ⟨rfl, ?_⟩
        refine hC _ _ _ _ _ (bRn_e (fun r6 s4 q7 k5 => ?_)) (((h.1 c1).1 c2).1 c3).2
        show A (24, [.ref 12, .int (bn l1), .int (bn l2), .int (bn l3)], [.int (bn r6), .int (bn (256 * l3)), .ref 95], s4)
        refine bGo hA 1 8 (38, .iadd, 1, 25, 0, [], []) rfl rfl rfl ?_
        refine bEqI (bn_add (256 * l3) r6) ?_
        refine bGo hA 1 9 (39, .iaload, 1, 26, 0, [], []) rfl rfl rfl ?_
        refine ⟨rfl, (bIxP (x := ((256 * l3) + r6)) (n := 4096) k5.1 k5.2.1), ?_⟩
        refine bEqL (x := ((256 * l3) + r6)) k5.1 ?_
        refine bGo hA 1 10 (40, .ifCond .eq (7), 3, 27, 29, [], []) rfl rfl rfl ?_
        refine bB_eq0 (x := (bi s4 95 ((256 * l3) + r6))) (bi_rg _ _ _) (fun c8 => ?_) (fun c8 => ?_)
        · refine bGo hA 1 13 (47, .iconst (0), 1, 30, 0, [], [(0, 0)]) rfl rfl rfl ?_
          refine bEqI bl_0 ?_
          refine bGo hA 1 14 (48, .istore_n 2, 1, 31, 0, [2], []) rfl rfl rfl ?_
          refine bGo hA 1 15 (49, .iinc 3 (1), 3, 32, 0, [3], [(1, 0)]) rfl rfl rfl ?_
          refine bEqC (fun v => A (32, [.ref 12, .int (bn l1), .int (bn 0), .int v], [], s4)) ((congrArg (fun w => bn l3 + w) bl_1).trans (bn_add l3 1)) ?_
          refine bGo hA 2 0 (52, .goto (-48), 3, 33, 4, [], []) rfl rfl rfl ?_
          exact (k5.2.2.1 c8).2
        · refine bGo hA 1 11 (43, .iconst (1), 1, 28, 0, [], [(1, 0)]) rfl rfl rfl ?_
          refine bEqI bl_1 ?_
          refine bGo hA 1 12 (44, .goto (4), 3, 29, 30, [], []) rfl rfl rfl ?_
          refine bGo hA 1 14 (48, .istore_n 2, 1, 31, 0, [2], []) rfl rfl rfl ?_
          refine bGo hA 1 15 (49, .iinc 3 (1), 3, 32, 0, [3], [(1, 0)]) rfl rfl rfl ?_
          refine bEqC (fun v => A (32, [.ref 12, .int (bn l1), .int (bn 1), .int v], [], s4)) ((congrArg (fun w => bn l3 + w) bl_1).trans (bn_add l3 1)) ?_
          refine bGo hA 2 0 (52, .goto (-48), 3, 33, 4, [], []) rfl rfl rfl ?_
          exact (k5.2.2.2 c8).2
      · refine bGo hA 1 13 (47, .iconst (0), 1, 30, 0, [], [(0, 0)]) rfl rfl rfl ?_
        refine bEqI bl_0 ?_
        refine bGo hA 1 14 (48, .istore_n 2, 1, 31, 0, [2], []) rfl rfl rfl ?_
        refine bGo hA 1 15 (49, .iinc 3 (1), 3, 32, 0, [3], [(1, 0)]) rfl rfl rfl ?_
        refine bEqC (fun v => A (32, [.ref 12, .int (bn l1), .int (bn 0), .int v], [], σ)) ((congrArg (fun w => bn l3 + w) bl_1).trans (bn_add l3 1)) ?_
        refine bGo hA 2 0 (52, .goto (-48), 3, 33, 4, [], []) rfl rfl rfl ?_
        exact (((h.1 c1).1 c2).2 c3).2
    · refine bGo hA 1 11 (43, .iconst (1), 1, 28, 0, [], [(1, 0)]) rfl rfl rfl ?_
      refine bEqI bl_1 ?_
      refine bGo hA 1 12 (44, .goto (4), 3, 29, 30, [], []) rfl rfl rfl ?_
      refine bGo hA 1 14 (48, .istore_n 2, 1, 31, 0, [2], []) rfl rfl rfl ?_
      refine bGo hA 1 15 (49, .iinc 3 (1), 3, 32, 0, [3], [(1, 0)]) rfl rfl rfl ?_
      refine bEqC (fun v => A (32, [.ref 12, .int (bn l1), .int (bn 1), .int v], [], σ)) ((congrArg (fun w => bn l3 + w) bl_1).trans (bn_add l3 1)) ?_
      refine bGo hA 2 0 (52, .goto (-48), 3, 33, 4, [], []) rfl rfl rfl ?_
      exact ((h.1 c1).2 c2).2
  · refine bGo hA 2 1 (55, .iload_n 2, 1, 34, 0, [2], []) rfl rfl rfl ?_
    refine bGo hA 2 2 (56, .ireturn, 1, 0, 0, [2], []) rfl rfl rfl ?_
    exact ⟨b01 (h.2 c1).1, (h.2 c1).2⟩

theorem sq285_0 {lvl : Nat} {C : bCall} {Q : bPost} {A : bPt → Prop} (hC : bMono C) (hA : bClosed lvl bm285 C Q A) {x1 : Int} {x2 : Int} {x3 : Int} {σ : bSt}  (h_x1 : bRg x1) (h_x2 : bRg x2) (h_x3 : bRg x3)
  (h : (((0 : Int) < x1 → ((x1 < (bShl 1 (bi σ 12 22)) → A (11, [.ref 12, .int (bn x1), .int (bn x2), .int (bn x3), .float 0, .float 0, .float 0, .float 0], [.int (bn 1)], σ)) ∧ (¬ x1 < (bShl 1 (bi σ 12 22)) → A (11, [.ref 12, .int (bn x1), .int (bn x2), .int (bn x3), .float 0, .float 0, .float 0, .float 0], [.int (bn 0)], σ)))) ∧ (¬ (0 : Int) < x1 → A (11, [.ref 12, .int (bn x1), .int (bn x2), .int (bn x3), .float 0, .float 0, .float 0, .float 0], [.int (bn 0)], σ)))) : A (0, [.ref 12, .int (bn x1), .int (bn x2), .int (bn x3), .float 0, .float 0, .float 0, .float 0], [], σ) := by
  refine bGo hA 0 0 (0, .iload_n 1, 1, 1, 0, [1], []) rfl rfl rfl ?_
  refine bGo hA 0 1 (1, .ifCond .le (17), 3, 2, 10, [], []) rfl rfl rfl ?_
  refine bB_gt0 (x := x1) h_x1 (fun c1 => ?_) (fun c1 => ?_)
  · refine bGo hA 0 2 (4, .iload_n 1, 1, 3, 0, [1], []) rfl rfl rfl ?_
    refine bGo hA 0 3 (5, .iconst (1), 1, 4, 0, [], [(1, 0)]) rfl rfl rfl ?_
    refine bEqI bl_1 ?_
    refine bGo hA 0 4 (6, .aload_n 0, 1, 5, 0, [0], []) rfl rfl rfl ?_
    refine bGo hA 0 5 (7, .getfield 380, 3, 6, 0, [12, 22, 0, 0, 0, 0], []) rfl rfl rfl ?_
    refine ⟨rfl, ?_⟩
    refine bEqI (bn_bi σ 12 22) ?_
    refine bGo hA 0 6 (10, .ishl, 1, 7, 0, [], []) rfl rfl rfl ?_
    refine bEqI (bn_shl 1 (bi σ 12 22)) ?_
    refine bGo hA 0 7 (11, .if_icmp .ge (7), 3, 8, 10, [], []) rfl rfl rfl ?_
    refine bB_lt (x := x1) (y := (bShl 1 (bi σ 12 22))) h_x1 (bRgI _) (fun c2 => ?_) (fun c2 => ?_)
    · refine bGo hA 0 8 (14, .iconst (1), 1, 9, 0, [], [(1, 0)]) rfl rfl rfl ?_
      refine bEqI bl_1 ?_
      refine bGo hA 0 9 (15, .goto (4), 3, 10, 11, [], []) rfl rfl rfl ?_
      exact ((h.1 c1).1 c2)
    · refine bGo hA 0 10 (18, .iconst (0), 1, 11, 0, [], [(0, 0)]) rfl rfl rfl ?_
      refine bEqI bl_0 ?_
      exact ((h.1 c1).2 c2)
  · refine bGo hA 0 10 (18, .iconst (0), 1, 11, 0, [], [(0, 0)]) rfl rfl rfl ?_
    refine bEqI bl_0 ?_
    exact (h.2 c1)

theorem sq285_11 {lvl : Nat} {C : bCall} {Q : bPost} {A : bPt → Prop} (hC : bMono C) (hA : bClosed lvl bm285 C Q A) {l1 : Int} {l2 : Int} {l3 : Int} {v4 : Value} {v5 : Value} {v6 : Value} {v7 : Value} {t0 : Int} {σ : bSt}  (h_l1 : bRg l1) (h_l2 : bRg l2) (h_l3 : bRg l3) (h_t0 : bRg t0)
  (h : (C 199 [.int (bn l3), .int (bn 0), .int (bn 999)] σ (bRn (fun r3 s1 => ((t0 = 0 → A (48, [.ref 12, .int (bn l1), .int (bn l2), .int (bn l3), .int (bn t0), .int (bn r3), .int (bn 0), .int (bn 1)], [], s1)) ∧ (¬ t0 = 0 → ((r3 = 0 → A (48, [.ref 12, .int (bn l1), .int (bn l2), .int (bn l3), .int (bn t0), .int (bn r3), .int (bn 0), .int (bn 1)], [], s1)) ∧ (¬ r3 = 0 → (C 241 [.ref 12, .int (bn l1)] s1 (bRv (fun s7 => (C 284 [.ref 12, .int (bn l1)] s7 (bRn (fun r11 s9 => ((r11 = 0 → (C 283 [.ref 12, .int (bn l1)] s9 (bRn (fun r17 s15 => ((r17 = 0 → A (48, [.ref 12, .int (bn l1), .int (bn l2), .int (bn l3), .int (bn t0), .int (bn r3), .int (bn 0), .int (bn 0)], [], s15)) ∧ (¬ r17 = 0 → A (48, [.ref 12, .int (bn l1), .int (bn l2), .int (bn l3), .int (bn t0), .int (bn r3), .int (bn 0), .int (bn 1)], [], s15))))))) ∧ (¬ r11 = 0 → ((l2 = 0 → A (48, [.ref 12, .int (bn l1), .int (bn l2), .int (bn l3), .int (bn t0), .int (bn r3), .int (bn 1), .int (bn 1)], [], s9)) ∧ (¬ l2 = 0 → (C 283 [.ref 12, .int (bn l1)] s9 (bRn (fun r25 s23 => ((r25 = 0 → A (48, [.ref 12, .int (bn l1), .int (bn l2), .int (bn l3), .int (bn t0), .int (bn r3), .int (bn 0), .int (bn 0)], [], s23)) ∧ (¬ r25 = 0 → A (48, [.ref 12, .int (bn l1), .int (bn l2), .int (bn l3), .int (bn t0), .int (bn r3), .int (bn 0), .int (bn 1)], [], s23)))))))))))))))))))))))) : A (11, [.ref 12, .int (bn l1), .int (bn l2), .int (bn l3), v4, v5, v6, v7], [.int (bn t0)], σ) := by
  refine bGo hA 0 11 (19, .istore 4, 2, 12, 0, [4], []) rfl rfl rfl ?_
  refine bGo hA 0 12 (21, .iload_n 3, 1, 13, 0, [3], []) rfl rfl rfl ?_
  refine bGo hA 0 13 (22, .iconst (0), 1, 14, 0, [], [(0, 0)]) rfl rfl rfl ?_
  refine bEqI bl_0 ?_
  refine bGo hA 0 14 (23, .sipush (999), 3, 15, 0, [], [(999, 0)]) rfl rfl rfl ?_
  refine bEqI bl_999 ?_
  refine bGo hA 0 15 (26, .invokestatic 325, 3, 16, 0, [2, 199, 3], []) rfl rfl rfl ?_
  refine hC _ _ _ _ _ (bRn_e (fun r3 s1 q4 k2 => ?_)) h
  show A (16, [.ref 12, .int (bn l1), .int (bn l2), .int (bn l3), .int (bn t0), v5, v6, v7], [.int (bn r3)], s1)
  refine bGo hA 1 0 (29, .istore 5, 2, 17, 0, [5], []) rfl rfl rfl ?_
  refine bGo hA 1 1 (31, .iconst (0), 1, 18, 0, [], [(0, 0)]) rfl rfl rfl ?_
  refine bEqI bl_0 ?_
  refine bGo hA 1 2 (32, .istore 6, 2, 19, 0, [6], []) rfl rfl rfl ?_
  refine bGo hA 1 3 (34, .iconst (1), 1, 20, 0, [], [(1, 0)]) rfl rfl rfl ?_
  refine bEqI bl_1 ?_
  refine bGo hA 1 4 (35, .istore 7, 2, 21, 0, [7], []) rfl rfl rfl ?_
  refine bGo hA 1 5 (37, .iload 4, 2, 22, 0, [4], []) rfl rfl rfl ?_
  refine bGo hA 1 6 (39, .ifCond .eq (52), 3, 23, 48, [], []) rfl rfl rfl ?_
  refine bB_eq0 (x := t0) h_t0 (fun c5 => ?_) (fun c5 => ?_)
  · exact (k2.1 c5)
  · refine bGo hA 1 7 (42, .iload 5, 2, 24, 0, [5], []) rfl rfl rfl ?_
    refine bGo hA 1 8 (44, .ifCond .eq (47), 3, 25, 48, [], []) rfl rfl rfl ?_
    refine bB_eq0 (x := r3) q4 (fun c6 => ?_) (fun c6 => ?_)
    · exact ((k2.2 c5).1 c6)
    · refine bGo hA 1 9 (47, .aload_n 0, 1, 26, 0, [0], []) rfl rfl rfl ?_
      refine bGo hA 1 10 (48, .iload_n 1, 1, 27, 0, [1], []) rfl rfl rfl ?_
      refine bGo hA 1 11 (49, .invokevirtual 407, 3, 28, 0, [0, 12, 241, 1], []) rfl rfl rfl ?_
      refine ⟨rfl, ?_⟩
      refine hC _ _ _ _ _ (bRv_e (fun s7 k8 => ?_)) ((k2.2 c5).2 c6)
      show A (28, [.ref 12, .int (bn l1), .int (bn l2), .int (bn l3), .int (bn t0), .int (bn r3), .int (bn 0), .int (bn 1)], [], s7)
      refine bGo hA 1 12 (52, .aload_n 0, 1, 29, 0, [0], []) rfl rfl rfl ?_
      refine bGo hA 1 13 (53, .iload_n 1, 1, 30, 0, [1], []) rfl rfl rfl ?_
      refine bGo hA 1 14 (54, .invokevirtual 489, 3, 31, 0, [0, 12, 284, 1], []) rfl rfl rfl ?_
      refine ⟨rfl, ?_⟩
      refine hC _ _ _ _ _ (bRn_e (fun r11 s9 q12 k10 => ?_)) k8
      show A (31, [.ref 12, .int (bn l1), .int (bn l2), .int (bn l3), .int (bn t0), .int (bn r3), .int (bn 0), .int (bn 1)], [.int (bn r11)], s9)
      refine bGo hA 1 15 (57, .ifCond .eq (11), 3, 32, 36, [], []) rfl rfl rfl ?_
      refine bB_eq0 (x := r11) q12 (fun c13 => ?_) (fun c13 => ?_)
      · refine bGo hA 2 4 (68, .iconst (0), 1, 37, 0, [], [(0, 0)]) rfl rfl rfl ?_
        refine bEqI bl_0 ?_
        refine bGo hA 2 5 (69, .istore 6, 2, 38, 0, [6], []) rfl rfl rfl ?_
        refine bGo hA 2 6 (71, .iload 6, 2, 39, 0, [6], []) rfl rfl rfl ?_
        refine bGo hA 2 7 (73, .ifCond .ne (11), 3, 40, 44, [], []) rfl rfl rfl ?_
        refine ⟨fun _ => ?_, fun c => absurd (by decide) c⟩
        refine bGo hA 2 8 (76, .aload_n 0, 1, 41, 0, [0], []) rfl rfl rfl ?_
        refine bGo hA 2 9 (77, .iload_n 1, 1, 42, 0, [1], []) rfl rfl rfl ?_
        refine bGo hA 2 10 (78, .invokevirtual 492, 3, 43, 0, [0, 12, 283, 1], []) rfl rfl rfl ?_
        refine ⟨rfl, ?_⟩
        refine hC _ _ _ _ _ (bRn_e (fun r17 s15 q18 k16 => ?_)) (k10.1 c13)
        show A (43, [.ref 12, .int (bn l1), .int (bn l2), .int (bn l3), .int (bn t0), .int (bn r3), .int (bn 0), .int (bn 1)], [.int (bn r17)], s15)
        refine bGo hA 2 11 (81, .ifCond .eq (7), 3, 44, 46, [], []) rfl rfl rfl ?_
        refine bB_eq0 (x := r17) q18 (fun c19 => ?_) (fun c19 => ?_)
        · refine bGo hA 2 14 (88, .iconst (0), 1, 47, 0, [], [(0, 0)]) rfl rfl rfl ?_
          refine bEqI bl_0 ?_
          refine bGo hA 2 15 (89, .istore 7, 2, 48, 0, [7], []) rfl rfl rfl ?_
          exact (k16.1 c19)
        · refine bGo hA 2 12 (84, .iconst (1), 1, 45, 0, [], [(1, 0)]) rfl rfl rfl ?_
          refine bEqI bl_1 ?_
          refine bGo hA 2 13 (85, .goto (4), 3, 46, 47, [], []) rfl rfl rfl ?_
          refine bGo hA 2 15 (89, .istore 7, 2, 48, 0, [7], []) rfl rfl rfl ?_
          exact (k16.2 c19)
      · refine bGo hA 2 0 (60, .iload_n 2, 1, 33, 0, [2], []) rfl rfl rfl ?_
        refine bGo hA 2 1 (61, .ifCond .ne (7), 3, 34, 36, [], []) rfl rfl rfl ?_
        refine bB_eq0 (x := l2) h_l2 (fun c20 => ?_) (fun c20 => ?_)
        · refine bGo hA 2 2 (64, .iconst (1), 1, 35, 0, [], [(1, 0)]) rfl rfl rfl ?_
          refine bEqI bl_1 ?_
          refine bGo hA 2 3 (65, .goto (4), 3, 36, 37, [], []) rfl rfl rfl ?_
          refine bGo hA 2 5 (69, .istore 6, 2, 38, 0, [6], []) rfl rfl rfl ?_
          refine bGo hA 2 6 (71, .iload 6, 2, 39, 0, [6], []) rfl rfl rfl ?_
          refine bGo hA 2 7 (73, .ifCond .ne (11), 3, 40, 44, [], []) rfl rfl rfl ?_
          refine ⟨fun c => absurd c (by decide), fun _ => ?_⟩
          refine bGo hA 2 12 (84, .iconst (1), 1, 45, 0, [], [(1, 0)]) rfl rfl rfl ?_
          refine bEqI bl_1 ?_
          refine bGo hA 2 13 (85, .goto (4), 3, 46, 47, [], []) rfl rfl rfl ?_
          refine bGo hA 2 15 (89, .istore 7, 2, 48, 0, [7], []) rfl rfl rfl ?_
          exact ((k10.2 c13).1 c20)
        · refine bGo hA 2 4 (68, .iconst (0), 1, 37, 0, [], [(0, 0)]) rfl rfl rfl ?_
          refine bEqI bl_0 ?_
          refine bGo hA 2 5 (69, .istore 6, 2, 38, 0, [6], []) rfl rfl rfl ?_
          refine bGo hA 2 6 (71, .iload 6, 2, 39, 0, [6], []) rfl rfl rfl ?_
          refine bGo hA 2 7 (73, .ifCond .ne (11), 3, 40, 44, [], []) rfl rfl rfl ?_
          refine ⟨fun _ => ?_, fun c => absurd (by decide) c⟩
          refine bGo hA 2 8 (76, .aload_n 0, 1, 41, 0, [0], []) rfl rfl rfl ?_
          refine bGo hA 2 9 (77, .iload_n 1, 1, 42, 0, [1], []) rfl rfl rfl ?_
          refine bGo hA 2 10 (78, .invokevirtual 492, 3, 43, 0, [0, 12, 283, 1], []) rfl rfl rfl ?_
          refine ⟨rfl, ?_⟩
          refine hC _ _ _ _ _ (bRn_e (fun r25 s23 q26 k24 => ?_)) ((k10.2 c13).2 c20)
          show A (43, [.ref 12, .int (bn l1), .int (bn l2), .int (bn l3), .int (bn t0), .int (bn r3), .int (bn 0), .int (bn 1)], [.int (bn r25)], s23)
          refine bGo hA 2 11 (81, .ifCond .eq (7), 3, 44, 46, [], []) rfl rfl rfl ?_
          refine bB_eq0 (x := r25) q26 (fun c27 => ?_) (fun c27 => ?_)
          · refine bGo hA 2 14 (88, .iconst (0), 1, 47, 0, [], [(0, 0)]) rfl rfl rfl ?_
            refine bEqI bl_0 ?_
            refine bGo hA 2 15 (89, .istore 7, 2, 48, 0, [7], []) rfl rfl rfl ?_
            exact (k24.1 c27)
          · refine bGo hA 2 12 (84, .iconst (1), 1, 45, 0, [], [(1, 0)]) rfl rfl rfl ?_
            refine bEqI bl_1 ?_
            refine bGo hA 2 13 (85, .goto (4), 3, 46, 47, [], []) rfl rfl rfl ?_
            refine bGo hA 2 15 (89, .istore 7, 2, 48, 0, [7], []) rfl rfl rfl ?_
            exact (k24.2 c27)

theorem sq285_48 {lvl : Nat} {C : bCall} {Q : bPost} {A : bPt → Prop} (hC : bMono C) (hA : bClosed lvl bm285 C Q A) {l1 : Int} {l2 : Int} {l3 : Int} {l4 : Int} {l5 : Int} {l6 : Int} {l7 : Int} {σ : bSt}  (h_l1 : bRg l1) (h_l2 : bRg l2) (h_l3 : bRg l3) (h_l4 : bRg l4) (h_l5 : bRg l5) (h_l6 : bRg l6) (h_l7 : bRg l7)
  (h : ((l4 = 0 → (C 197 [.ref 12, .int (bn 1)] σ (bRn (fun r4 s2 => ((r4 = 0 → (C 286 [.ref 12, .int (bn l1), .int (bn l6), .int (bn l2), .int (bn l3)] s2 (bRn (fun r9 s7 => Q (.inl (some (.int (bn r9)))) s7)))) ∧ (¬ r4 = 0 → Q (.inl (some (.int (bn 0)))) s2)))))) ∧ (¬ l4 = 0 → ((l5 = 0 → (C 197 [.ref 12, .int (bn 2)] σ (bRn (fun r14 s12 => ((r14 = 0 → (C 286 [.ref 12, .int (bn l1), .int (bn l6), .int (bn l2), .int (bn l3)] s12 (bRn (fun r19 s17 => Q (.inl (some (.int (bn r19)))) s17)))) ∧ (¬ r14 = 0 → Q (.inl (some (.int (bn 0)))) s12)))))) ∧ (¬ l5 = 0 → ((l7 = 0 → (C 197 [.ref 12, .int (bn 3)] σ (bRn (fun r24 s22 => ((r24 = 0 → (C 286 [.ref 12, .int (bn l1), .int (bn l6), .int (bn l2), .int (bn l3)] s22 (bRn (fun r29 s27 => Q (.inl (some (.int (bn r29)))) s27)))) ∧ (¬ r24 = 0 → Q (.inl (some (.int (bn 0)))) s22)))))) ∧ (¬ l7 = 0 → (C 197 [.ref 12, .int (bn 0)] σ (bRn (fun r33 s31 => ((r33 = 0 → (C 286 [.ref 12, .int (bn l1), .int (bn l6), .int (bn l2), .int (bn l3)] s31 (bRn (fun r38 s36 => Q (.inl (some (.int (bn r38)))) s36)))) ∧ (¬ r33 = 0 → Q (.inl (some (.int (bn 0)))) s31)))))))))))) : A (48, [.ref 12, .int (bn l1), .int (bn l2), .int (bn l3), .int (bn l4), .int (bn l5), .int (bn l6), .int (bn l7)], [], σ) := by
  refine bGo hA 3 0 (91, .aload_n 0, 1, 49, 0, [0], []) rfl rfl rfl ?_
  refine bGo hA 3 1 (92, .iload 4, 2, 50, 0, [4], []) rfl rfl rfl ?_
  refine bGo hA 3 2 (94, .ifCond .ne (7), 3, 51, 53, [], []) rfl rfl rfl ?_
  refine bB_eq0 (x := l4) h_l4 (fun c1 => ?_) (fun c1 => ?_)
  · refine bGo hA 3 3 (97, .iconst (1), 1, 52, 0, [], [(1, 0)]) rfl rfl rfl ?_
    refine bEqI bl_1 ?_
    refine bGo hA 3 4 (98, .goto (22), 3, 53, 62, [], []) rfl rfl rfl ?_
    refine bGo hA 3 14 (120, .invokevirtual 333, 3, 63, 0, [0, 12, 197, 1], []) rfl rfl rfl ?_
    refine ⟨rfl, ?_⟩
    refine hC _ _ _ _ _ (bRn_e (fun r4 s2 q5 k3 => ?_)) (h.1 c1)
    show A (63, [.ref 12, .int (bn l1), .int (bn l2), .int (bn l3), .int (bn l4), .int (bn l5), .int (bn l6), .int (bn l7)], [.int (bn r4)], s2)
    refine bGo hA 3 15 (123, .ifCond .eq (5), 3, 64, 66, [], []) rfl rfl rfl ?_
    refine bB_eq0 (x := r4) q5 (fun c6 => ?_) (fun c6 => ?_)
    · refine bGo hA 4 2 (128, .aload_n 0, 1, 67, 0, [0], []) rfl rfl rfl ?_
      refine bGo hA 4 3 (129, .iload_n 1, 1, 68, 0, [1], []) rfl rfl rfl ?_
      refine bGo hA 4 4 (130, .iload 6, 2, 69, 0, [6], []) rfl rfl rfl ?_
      refine bGo hA 4 5 (132, .iload_n 2, 1, 70, 0, [2], []) rfl rfl rfl ?_
      refine bGo hA 4 6 (133, .iload_n 3, 1, 71, 0, [3], []) rfl rfl rfl ?_
      refine bGo hA 4 7 (134, .invokevirtual 495, 3, 72, 0, [0, 12, 286, 4], []) rfl rfl rfl ?_
      refine ⟨rfl, ?_⟩
      refine hC _ _ _ _ _ (bRn_e (fun r9 s7 q10 k8 => ?_)) (k3.1 c6)
      show A (72, [.ref 12, .int (bn l1), .int (bn l2), .int (bn l3), .int (bn l4), .int (bn l5), .int (bn l6), .int (bn l7)], [.int (bn r9)], s7)
      refine bGo hA 4 8 (137, .ireturn, 1, 0, 0, [1], []) rfl rfl rfl ?_
      exact k8
    · refine bGo hA 4 0 (126, .iconst (0), 1, 65, 0, [], [(0, 0)]) rfl rfl rfl ?_
      refine bEqI bl_0 ?_
      refine bGo hA 4 1 (127, .ireturn, 1, 66, 0, [1], []) rfl rfl rfl ?_
      exact (k3.2 c6)
  · refine bGo hA 3 5 (101, .iload 5, 2, 54, 0, [5], []) rfl rfl rfl ?_
    refine bGo hA 3 6 (103, .ifCond .ne (7), 3, 55, 57, [], []) rfl rfl rfl ?_
    refine bB_eq0 (x := l5) h_l5 (fun c11 => ?_) (fun c11 => ?_)
    · refine bGo hA 3 7 (106, .iconst (2), 1, 56, 0, [], [(2, 0)]) rfl rfl rfl ?_
      refine bEqI bl_2 ?_
      refine bGo hA 3 8 (107, .goto (13), 3, 57, 62, [], []) rfl rfl rfl ?_
      refine bGo hA 3 14 (120, .invokevirtual 333, 3, 63, 0, [0, 12, 197, 1], []) rfl rfl rfl ?_
      refine ⟨rfl, ?_⟩
      refine hC _ _ _ _ _ (bRn_e (fun r14 s12 q15 k13 => ?_)) ((h.2 c1).1 c11)
      show A (63, [.ref 12, .int (bn l1), .int (bn l2), .int (bn l3), .int (bn l4), .int (bn l5), .int (bn l6), .int (bn l7)], [.int (bn r14)], s12)
      refine bGo hA 3 15 (123, .ifCond .eq (5), 3, 64, 66, [], []) rfl rfl rfl ?_
      refine bB_eq0 (x := r14) q15 (fun c16 => ?_) (fun c16 => ?_)
      · refine bGo hA 4 2 (128, .aload_n 0, 1, 67, 0, [0], []) rfl rfl rfl ?_
        refine bGo hA 4 3 (129, .iload_n 1, 1, 68, 0, [1], []) rfl rfl rfl ?_
        refine bGo hA 4 4 (130, .iload 6, 2, 69, 0, [6], []) rfl rfl rfl ?_
        refine bGo hA 4 5 (132, .iload_n 2, 1, 70, 0, [2], []) rfl rfl rfl ?_
        refine bGo hA 4 6 (133, .iload_n 3, 1, 71, 0, [3], []) rfl rfl rfl ?_
        refine bGo hA 4 7 (134, .invokevirtual 495, 3, 72, 0, [0, 12, 286, 4], []) rfl rfl rfl ?_
        refine ⟨rfl, ?_⟩
        refine hC _ _ _ _ _ (bRn_e (fun r19 s17 q20 k18 => ?_)) (k13.1 c16)
        show A (72, [.ref 12, .int (bn l1), .int (bn l2), .int (bn l3), .int (bn l4), .int (bn l5), .int (bn l6), .int (bn l7)], [.int (bn r19)], s17)
        refine bGo hA 4 8 (137, .ireturn, 1, 0, 0, [1], []) rfl rfl rfl ?_
        exact k18
      · refine bGo hA 4 0 (126, .iconst (0), 1, 65, 0, [], [(0, 0)]) rfl rfl rfl ?_
        refine bEqI bl_0 ?_
        refine bGo hA 4 1 (127, .ireturn, 1, 66, 0, [1], []) rfl rfl rfl ?_
        exact (k13.2 c16)
    · refine bGo hA 3 9 (110, .iload 7, 2, 58, 0, [7], []) rfl rfl rfl ?_
      refine bGo hA 3 10 (112, .ifCond .eq (7), 3, 59, 61, [], []) rfl rfl rfl ?_
      refine bB_eq0 (x := l7) h_l7 (fun c21 => ?_) (fun c21 => ?_)
      · refine bGo hA 3 13 (119, .iconst (3), 1, 62, 0, [], [(3, 0)]) rfl rfl rfl ?_
        refine bEqI bl_3 ?_
        refine bGo hA 3 14 (120, .invokevirtual 333, 3, 63, 0, [0, 12, 197, 1], []) rfl rfl rfl ?_
        refine ⟨rfl, ?_⟩
        refine hC _ _ _ _ _ (bRn_e (fun r24 s22 q25 k23 => ?_)) (((h.2 c1).2 c11).1 c21)
        show A (63, [.ref 12, .int (bn l1), .int (bn l2), .int (bn l3), .int (bn l4), .int (bn l5), .int (bn l6), .int (bn l7)], [.int (bn r24)], s22)
        refine bGo hA 3 15 (123, .ifCond .eq (5), 3, 64, 66, [], []) rfl rfl rfl ?_
        refine bB_eq0 (x := r24) q25 (fun c26 => ?_) (fun c26 => ?_)
        · refine bGo hA 4 2 (128, .aload_n 0, 1, 67, 0, [0], []) rfl rfl rfl ?_
          refine bGo hA 4 3 (129, .iload_n 1, 1, 68, 0, [1], []) rfl rfl rfl ?_
          refine bGo hA 4 4 (130, .iload 6, 2, 69, 0, [6], []) rfl rfl rfl ?_
          refine bGo hA 4 5 (132, .iload_n 2, 1, 70, 0, [2], []) rfl rfl rfl ?_
          refine bGo hA 4 6 (133, .iload_n 3, 1, 71, 0, [3], []) rfl rfl rfl ?_
          refine bGo hA 4 7 (134, .invokevirtual 495, 3, 72, 0, [0, 12, 286, 4], []) rfl rfl rfl ?_
          refine ⟨rfl, ?_⟩
          refine hC _ _ _ _ _ (bRn_e (fun r29 s27 q30 k28 => ?_)) (k23.1 c26)
          show A (72, [.ref 12, .int (bn l1), .int (bn l2), .int (bn l3), .int (bn l4), .int (bn l5), .int (bn l6), .int (bn l7)], [.int (bn r29)], s27)
          refine bGo hA 4 8 (137, .ireturn, 1, 0, 0, [1], []) rfl rfl rfl ?_
          exact k28
        · refine bGo hA 4 0 (126, .iconst (0), 1, 65, 0, [], [(0, 0)]) rfl rfl rfl ?_
          refine bEqI bl_0 ?_
          refine bGo hA 4 1 (127, .ireturn, 1, 66, 0, [1], []) rfl rfl rfl ?_
          exact (k23.2 c26)
      · refine bGo hA 3 11 (115, .iconst (0), 1, 60, 0, [], [(0, 0)]) rfl rfl rfl ?_
        refine bEqI bl_0 ?_
        refine bGo hA 3 12 (116, .goto (4), 3, 61, 62, [], []) rfl rfl rfl ?_
        refine bGo hA 3 14 (120, .invokevirtual 333, 3, 63, 0, [0, 12, 197, 1], []) rfl rfl rfl ?_
        refine ⟨rfl, ?_⟩
        refine hC _ _ _ _ _ (bRn_e (fun r33 s31 q34 k32 => ?_)) (((h.2 c1).2 c11).2 c21)
        show A (63, [.ref 12, .int (bn l1), .int (bn l2), .int (bn l3), .int (bn l4), .int (bn l5), .int (bn l6), .int (bn l7)], [.int (bn r33)], s31)
        refine bGo hA 3 15 (123, .ifCond .eq (5), 3, 64, 66, [], []) rfl rfl rfl ?_
        refine bB_eq0 (x := r33) q34 (fun c35 => ?_) (fun c35 => ?_)
        · refine bGo hA 4 2 (128, .aload_n 0, 1, 67, 0, [0], []) rfl rfl rfl ?_
          refine bGo hA 4 3 (129, .iload_n 1, 1, 68, 0, [1], []) rfl rfl rfl ?_
          refine bGo hA 4 4 (130, .iload 6, 2, 69, 0, [6], []) rfl rfl rfl ?_
          refine bGo hA 4 5 (132, .iload_n 2, 1, 70, 0, [2], []) rfl rfl rfl ?_
          refine bGo hA 4 6 (133, .iload_n 3, 1, 71, 0, [3], []) rfl rfl rfl ?_
          refine bGo hA 4 7 (134, .invokevirtual 495, 3, 72, 0, [0, 12, 286, 4], []) rfl rfl rfl ?_
          refine ⟨rfl, ?_⟩
          refine hC _ _ _ _ _ (bRn_e (fun r38 s36 q39 k37 => ?_)) (k32.1 c35)
          show A (72, [.ref 12, .int (bn l1), .int (bn l2), .int (bn l3), .int (bn l4), .int (bn l5), .int (bn l6), .int (bn l7)], [.int (bn r38)], s36)
          refine bGo hA 4 8 (137, .ireturn, 1, 0, 0, [1], []) rfl rfl rfl ?_
          exact k37
        · refine bGo hA 4 0 (126, .iconst (0), 1, 65, 0, [], [(0, 0)]) rfl rfl rfl ?_
          refine bEqI bl_0 ?_
          refine bGo hA 4 1 (127, .ireturn, 1, 66, 0, [1], []) rfl rfl rfl ?_
          exact (k32.2 c35)

theorem sq286_0 {lvl : Nat} {C : bCall} {Q : bPost} {A : bPt → Prop} (hC : bMono C) (hA : bClosed lvl bm286 C Q A) {x1 : Int} {x2 : Int} {x3 : Int} {x4 : Int} {σ : bSt}  (h_x1 : bRg x1) (h_x2 : bRg x2) (h_x3 : bRg x3) (h_x4 : bRg x4)
  (h : (C 280 [.ref 12] σ (bRv (fun s1 => ((x2 = 0 → A (8, [.ref 12, .int (bn x1), .int (bn x2), .int (bn x3), .int (bn x4), .int (bn 0), .float 0, .float 0], [], s1)) ∧ (¬ x2 = 0 → Q (.inl (some (.int (bn (-1))))) s1)))))) : A (0, [.ref 12, .int (bn x1), .int (bn x2), .int (bn x3), .int (bn x4), .float 0, .float 0, .float 0], [], σ) := by
  refine bGo hA 0 0 (0, .aload_n 0, 1, 1, 0, [0], []) rfl rfl rfl ?_
  refine bGo hA 0 1 (1, .invokevirtual 499, 3, 2, 0, [0, 12, 280, 0], []) rfl rfl rfl ?_
  refine ⟨rfl, ?_⟩
  refine hC _ _ _ _ _ (bRv_e (fun s1 k2 => ?_)) h
  show A (2, [.ref 12, .int (bn x1), .int (bn x2), .int (bn x3), .int (bn x4), .float 0, .float 0, .float 0], [], s1)
  refine bGo hA 0 2 (4, .iload_n 2, 1, 3, 0, [2], []) rfl rfl rfl ?_
  refine bGo hA 0 3 (5, .ifCond .eq (5), 3, 4, 6, [], []) rfl rfl rfl ?_
  refine bB_eq0 (x := x2) h_x2 (fun c3 => ?_) (fun c3 => ?_)
  · refine bGo hA 0 6 (10, .iconst (0), 1, 7, 0, [], [(0, 0)]) rfl rfl rfl ?_
    refine bEqI bl_0 ?_
    refine bGo hA 0 7 (11, .istore 5, 2, 8, 0, [5], []) rfl rfl rfl ?_
    exact (k2.1 c3)
  · refine bGo hA 0 4 (8, .iconst (-1), 1, 5, 0, [], [(-1, 0)]) rfl rfl rfl ?_
    refine bEqI bl_m1 ?_
    refine bGo hA 0 5 (9, .ireturn, 1, 6, 0, [1], []) rfl rfl rfl ?_
    exact (k2.2 c3)

theorem sq286_8 {lvl : Nat} {C : bCall} {Q : bPost} {A : bPt → Prop} (hC : bMono C) (hA : bClosed lvl bm286 C Q A) {l1 : Int} {v2 : Value} {l3 : Int} {l4 : Int} {l5 : Int} {v6 : Value} {v7 : Value} {σ : bSt}  (h_l1 : bRg l1) (h_l3 : bRg l3) (h_l4 : bRg l4) (h_l5 : bRg l5)
  (h : ((l5 < 48 → ((0 ≤ l5 ∧ l5 < 48) ∧ (((bi σ 56 l5) = (-1) → (bRg (l5 + 1) ∧ A (8, [.ref 12, .int (bn l1), v2, .int (bn l3), .int (bn l4), .int (bn (l5 + 1)), v6, v7], [], σ))) ∧ (¬ (bi σ 56 l5) = (-1) → ((0 ≤ (bi σ 56 l5) ∧ (bi σ 56 l5) < 1000) ∧ (bRg (l5 + 1) ∧ A (8, [.ref 12, .int (bn l1), v2, .int (bn l3), .int (bn l4), .int (bn (l5 + 1)), v6, v7], [], (bw σ 134 (bi σ 56 l5) 1)))))))) ∧ (¬ l5 < 48 → (C 287 [.ref 12, .int (bn l1)] σ (bRv (fun s3 => (C 288 [.ref 12, .int (bn l3), .int (bn l4)] s3 (bRv (fun s5 => A (38, [.ref 12, .int (bn l1), v2, .int (bn l3), .int (bn l4), .int (bn 0), .int (bn 0), v7], [], s5)))))))))) : A (8, [.ref 12, .int (bn l1), v2, .int (bn l3), .int (bn l4), .int (bn l5), v6, v7], [], σ) := by
  refine bGo hA 0 8 (13, .iload 5, 2, 9, 0, [5], []) rfl rfl rfl ?_
  refine bGo hA 0 9 (15, .bipush (48), 2, 10, 0, [], [(48, 0)]) rfl rfl rfl ?_
  refine bEqI bl_48 ?_
  refine bGo hA 0 10 (17, .if_icmp .ge (33), 3, 11, 27, [], []) rfl rfl rfl ?_
  refine bB_lt (x := l5) (y := 48) h_l5 (by decide : bRg 48) (fun c1 => ?_) (fun c1 => ?_)
  · refine bGo hA 0 11 (20, .aload_n 0, 1, 12, 0, [0], []) rfl rfl rfl ?_
    refine bGo hA 0 12 (21, .getfield 7, 3, 13, 0, [12, 1, 3, 56, 1, 0], []) rfl rfl rfl ?_
    refine ⟨rfl, ?_⟩
    refine bGo hA 0 13 (24, .iload 5, 2, 14, 0, [5], []) rfl rfl rfl ?_
    refine bGo hA 0 14 (26, .iaload, 1, 15, 0, [], []) rfl rfl rfl ?_
    refine ⟨rfl, (bIxP (x := l5) (n := 48) h_l5 (h.1 c1).1), ?_⟩
    refine bEqL (x := l5) h_l5 ?_
    refine bGo hA 0 15 (27, .iconst (-1), 1, 16, 0, [], [(-1, 0)]) rfl rfl rfl ?_
    refine bEqI bl_m1 ?_
    refine bGo hA 1 0 (28, .if_icmp .eq (16), 3, 17, 25, [], []) rfl rfl rfl ?_
    refine bB_eq (x := (bi σ 56 l5)) (y := (-1)) (bi_rg _ _ _) (by decide : bRg (-1)) (fun c2 => ?_) (fun c2 => ?_)
    · refine bGo hA 1 9 (44, .iinc 5 (1), 3, 26, 0, [5], [(1, 0)]) rfl rfl rfl ?_
      refine bEqC (fun v => A (26, [.ref 12, .int (bn l1), v2, .int (bn l3), .int (bn l4), .int v, v6, v7], [], σ)) ((congrArg (fun w => bn l5 + w) bl_1).trans (bn_add l5 1)) ?_
      refine bGo hA 1 10 (47, .goto (-34), 3, 27, 8, [], []) rfl rfl rfl ?_
      exact ((h.1 c1).2.1 c2).2
    · refine bGo hA 1 1 (31, .aload_n 0, 1, 18, 0, [0], []) rfl rfl rfl ?_
      refine bGo hA 1 2 (32, .getfield 245, 3, 19, 0, [12, 89, 3, 134, 1, 0], []) rfl rfl rfl ?_
      refine ⟨rfl, ?_⟩
      refine bGo hA 1 3 (35, .aload_n 0, 1, 20, 0, [0], []) rfl rfl rfl ?_
      refine bGo hA 1 4 (36, .getfield 7, 3, 21, 0, [12, 1, 3, 56, 1, 0], []) rfl rfl rfl ?_
      refine ⟨rfl, ?_⟩
      refine bGo hA 1 5 (39, .iload 5, 2, 22, 0, [5], []) rfl rfl rfl ?_
      refine bGo hA 1 6 (41, .iaload, 1, 23, 0, [], []) rfl rfl rfl ?_
      refine ⟨rfl, (bIxP (x := l5) (n := 48) h_l5 (h.1 c1).1), ?_⟩
      refine bEqL (x := l5) h_l5 ?_
      refine bGo hA 1 7 (42, .iconst (1), 1, 24, 0, [], [(1, 0)]) rfl rfl rfl ?_
      refine bEqI bl_1 ?_
      refine bGo hA 1 8 (43, .bastore, 1, 25, 0, [], []) rfl rfl rfl ?_
      refine ⟨rfl, (bIxP (x := (bi σ 56 l5)) (n := 1000) (bi_rg _ _ _) ((h.1 c1).2.2 c2).1), by decide, b01 (Or.inr rfl), ?_⟩
      refine bEqS (x := (bi σ 56 l5)) (bi_rg _ _ _) ?_
      refine bGo hA 1 9 (44, .iinc 5 (1), 3, 26, 0, [5], [(1, 0)]) rfl rfl rfl ?_
      refine bEqC (fun v => A (26, [.ref 12, .int (bn l1), v2, .int (bn l3), .int (bn l4), .int v, v6, v7], [], (bw σ 134 (bi σ 56 l5) 1))) ((congrArg (fun w => bn l5 + w) bl_1).trans (bn_add l5 1)) ?_
      refine bGo hA 1 10 (47, .goto (-34), 3, 27, 8, [], []) rfl rfl rfl ?_
      exact ((h.1 c1).2.2 c2).2.2
  · refine bGo hA 1 11 (50, .aload_n 0, 1, 28, 0, [0], []) rfl rfl rfl ?_
    refine bGo hA 1 12 (51, .iload_n 1, 1, 29, 0, [1], []) rfl rfl rfl ?_
    refine bGo hA 1 13 (52, .invokevirtual 502, 3, 30, 0, [0, 12, 287, 1], []) rfl rfl rfl ?_
    refine ⟨rfl, ?_⟩
    refine hC _ _ _ _ _ (bRv_e (fun s3 k4 => ?_)) (h.2 c1)
    show A (30, [.ref 12, .int (bn l1), v2, .int (bn l3), .int (bn l4), .int (bn l5), v6, v7], [], s3)
    refine bGo hA 1 14 (55, .aload_n 0, 1, 31, 0, [0], []) rfl rfl rfl ?_
    refine bGo hA 1 15 (56, .iload_n 3, 1, 32, 0, [3], []) rfl rfl rfl ?_
    refine bGo hA 2 0 (57, .iload 4, 2, 33, 0, [4], []) rfl rfl rfl ?_
    refine bGo hA 2 1 (59, .invokevirtual 505, 3, 34, 0, [0, 12, 288, 2], []) rfl rfl rfl ?_
    refine ⟨rfl, ?_⟩
    refine hC _ _ _ _ _ (bRv_e (fun s5 k6 => ?_)) k4
    show A (34, [.ref 12, .int (bn l1), v2, .int (bn l3), .int (bn l4), .int (bn l5), v6, v7], [], s5)
    refine bGo hA 2 2 (62, .iconst (0), 1, 35, 0, [], [(0, 0)]) rfl rfl rfl ?_
    refine bEqI bl_0 ?_
    refine bGo hA 2 3 (63, .istore 5, 2, 36, 0, [5], []) rfl rfl rfl ?_
    refine bGo hA 2 4 (65, .iconst (0), 1, 37, 0, [], [(0, 0)]) rfl rfl rfl ?_
    refine bEqI bl_0 ?_
    refine bGo hA 2 5 (66, .istore 6, 2, 38, 0, [6], []) rfl rfl rfl ?_
    exact k6

theorem sq286_38 {lvl : Nat} {C : bCall} {Q : bPost} {A : bPt → Prop} (hC : bMono C) (hA : bClosed lvl bm286 C Q A) {l1 : Int} {v2 : Value} {v3 : Value} {v4 : Value} {l5 : Int} {l6 : Int} {v7 : Value} {σ : bSt}  (h_l1 : bRg l1) (h_l5 : bRg l5) (h_l6 : bRg l6)
  (h : ((l6 < (bi σ 12 22) → (bRg (256 * l6) ∧ (C 238 [.ref 12] σ (bRn (fun r4 s2 => (bRg ((256 * l6) + r4) ∧ (((bAnd (bShr l1 l6) 1) = 1 → ((0 ≤ ((256 * l6) + r4) ∧ ((256 * l6) + r4) < 4096) ∧ (((bi s2 95 ((256 * l6) + r4)) = 0 → (C 281 [.ref 12, .int (bn (bi s2 99 ((256 * l6) + r4)))] s2 (bRn (fun r10 s8 => ((r10 = 0 → (bRg (l5 + 0) ∧ (bRg (l6 + 1) ∧ A (38, [.ref 12, .int (bn l1), v2, v3, (bUnl v4), .int (bn (l5 + 0)), .int (bn (l6 + 1)), .int (bn ((256 * l6) + r4))], [], s8)))) ∧ (¬ r10 = 0 → (bRg (l5 + 1) ∧ (bRg (l6 + 1) ∧ A (38, [.ref 12, .int (bn l1), v2, v3, (bUnl v4), .int (bn (l5 + 1)), .int (bn (l6 + 1)), .int (bn ((256 * l6) + r4))], [], s8))))))))) ∧ (¬ (bi s2 95 ((256 * l6) + r4)) = 0 → (bRg (l5 + 0) ∧ (bRg (l6 + 1) ∧ A (38, [.ref 12, .int (bn l1), v2, v3, (bUnl v4), .int (bn (l5 + 0)), .int (bn (l6 + 1)), .int (bn ((256 * l6) + r4))], [], s2))))))) ∧ (¬ (bAnd (bShr l1 l6) 1) = 1 → (bRg (l5 + 0) ∧ (bRg (l6 + 1) ∧ A (38, [.ref 12, .int (bn l1), v2, v3, (bUnl v4), .int (bn (l5 + 0)), .int (bn (l6 + 1)), .int (bn ((256 * l6) + r4))], [], s2))))))))))) ∧ (¬ l6 < (bi σ 12 22) → Q (.inl (some (.int (bn l5)))) σ))) : A (38, [.ref 12, .int (bn l1), v2, v3, v4, .int (bn l5), .int (bn l6), v7], [], σ) := by
  refine bGo hA 2 6 (68, .iload 6, 2, 39, 0, [6], []) rfl rfl rfl ?_
  refine bGo hA 2 7 (70, .aload_n 0, 1, 40, 0, [0], []) rfl rfl rfl ?_
  refine bGo hA 2 8 (71, .getfield 380, 3, 41, 0, [12, 22, 0, 0, 0, 0], []) rfl rfl rfl ?_
  refine ⟨rfl, ?_⟩
  refine bEqI (bn_bi σ 12 22) ?_
  refine bGo hA 2 9 (74, .if_icmp .ge (66), 3, 42, 76, [], []) rfl rfl rfl ?_
  refine bB_lt (x := l6) (y := (bi σ 12 22)) h_l6 (bi_rg _ _ _) (fun c1 => ?_) (fun c1 => ?_)
  · refine bGo hA 2 10 (77, .sipush (256), 3, 43, 0, [], [(256, 0)]) rfl rfl rfl ?_
    refine bEqI bl_256 ?_
    refine bGo hA 2 11 (80, .iload 6, 2, 44, 0, [6], []) rfl rfl rfl ?_
    refine bGo hA 2 12 (82, .imul, 1, 45, 0, [], []) rfl rfl rfl ?_
    refine bEqI (bn_mul 256 l6) ?_
    refine bGo hA 2 13 (83, .aload_n 0, 1, 46, 0, [0], []) rfl rfl rfl ?_
    refine bGo hA 2 14 (84, .invokevirtual 394, 3, 47, 0, [0, 12, 238, 0], []) rfl rfl rfl ?_
    refine ⟨rfl, ?_⟩
    refine hC _ _ _ _ _ (bRn_e (fun r4 s2 q5 k3 => ?_)) (h.1 c1).2
    show A (47, [.ref 12, .int (bn l1), v2, v3, v4, .int (bn l5), .int (bn l6), v7], [.int (bn r4), .int (bn (256 * l6))], s2)
    refine bGo hA 2 15 (87, .iadd, 1, 48, 0, [], []) rfl rfl rfl ?_
    refine bEqI (bn_add (256 * l6) r4) ?_
    refine bGo hA 3 0 (88, .istore 7, 2, 49, 0, [7], []) rfl rfl rfl ?_
    refine bGo hA 3 1 (90, .iload 5, 2, 50, 0, [5], []) rfl rfl rfl ?_
    refine bGo hA 3 2 (92, .iload_n 1, 1, 51, 0, [1], []) rfl rfl rfl ?_
    refine bGo hA 3 3 (93, .iload 6, 2, 52, 0, [6], []) rfl rfl rfl ?_
    refine bGo hA 3 4 (95, .ishr, 1, 53, 0, [], []) rfl rfl rfl ?_
    refine bEqI (bn_shr l1 l6) ?_
    refine bGo hA 3 5 (96, .iconst (1), 1, 54, 0, [], [(1, 0)]) rfl rfl rfl ?_
    refine bEqI bl_1 ?_
    refine bGo hA 3 6 (97, .iand, 1, 55, 0, [], []) rfl rfl rfl ?_
    refine bEqI (bn_and (bShr l1 l6) 1) ?_
    refine bGo hA 3 7 (98, .iconst (1), 1, 56, 0, [], [(1, 0)]) rfl rfl rfl ?_
    refine bEqI bl_1 ?_
    refine bGo hA 3 8 (99, .if_icmp .ne (31), 3, 57, 71, [], []) rfl rfl rfl ?_
    refine bB_eq (x := (bAnd (bShr l1 l6) 1)) (y := 1) (bRgI _) (by decide : bRg 1) (fun c6 => ?_) (fun c6 => ?_)
    · refine bGo hA 3 9 (102, .aload_n 0, 1, 58, 0, [0], []) rfl rfl rfl ?_
      refine bGo hA 3 10 (103, .getfield 128, 3, 59, 0, [12, 43, 3, 95, 1, 0], []) rfl rfl rfl ?_
      refine ⟨rfl, ?_⟩
      refine bGo hA 3 11 (106, .iload 7, 2, 60, 0, [7], []) rfl rfl rfl ?_
      refine bGo hA 3 12 (108, .iaload, 1, 61, 0, [], []) rfl rfl rfl ?_
      refine ⟨rfl, (bIxP (x := ((256 * l6) + r4)) (n := 4096) k3.1 (k3.2.1 c6).1), ?_⟩
      refine bEqL (x := ((256 * l6) + r4)) k3.1 ?_
      refine bGo hA 3 13 (109, .ifCond .ne (21), 3, 62, 71, [], []) rfl rfl rfl ?_
      refine bB_eq0 (x := (bi s2 95 ((256 * l6) + r4))) (bi_rg _ _ _) (fun c7 => ?_) (fun c7 => ?_)
      · refine bGo hA 3 14 (112, .aload_n 0, 1, 63, 0, [0], []) rfl rfl rfl ?_
        refine bGo hA 3 15 (113, .aload_n 0, 1, 64, 0, [0], []) rfl rfl rfl ?_
        refine bGo hA 4 0 (114, .getfield 140, 3, 65, 0, [12, 47, 3, 99, 1, 0], []) rfl rfl rfl ?_
        refine ⟨rfl, ?_⟩
        refine bGo hA 4 1 (117, .iload 7, 2, 66, 0, [7], []) rfl rfl rfl ?_
        refine bGo hA 4 2 (119, .iaload, 1, 67, 0, [], []) rfl rfl rfl ?_
        refine ⟨rfl, (bIxP (x := ((256 * l6) + r4)) (n := 4096) k3.1 (k3.2.1 c6).1), ?_⟩
        refine bEqL (x := ((256 * l6) + r4)) k3.1 ?_
        refine bGo hA 4 3 (120, .invokevirtual 509, 3, 68, 0, [0, 12, 281, 1], []) rfl rfl rfl ?_
        refine ⟨rfl, ?_⟩
        refine hC _ _ _ _ _ (bRn_e (fun r10 s8 q11 k9 => ?_)) ((k3.2.1 c6).2.1 c7)
        show A (68, [.ref 12, .int (bn l1), v2, v3, v4, .int (bn l5), .int (bn l6), .int (bn ((256 * l6) + r4))], [.int (bn r10), .int (bn l5)], s8)
        refine bGo hA 4 4 (123, .ifCond .eq (7), 3, 69, 71, [], []) rfl rfl rfl ?_
        refine bB_eq0 (x := r10) q11 (fun c12 => ?_) (fun c12 => ?_)
        · refine bGo hA 4 7 (130, .iconst (0), 1, 72, 0, [], [(0, 0)]) rfl rfl rfl ?_
          refine bEqI bl_0 ?_
          refine bGo hA 4 8 (131, .iadd, 1, 73, 0, [], []) rfl rfl rfl ?_
          refine bEqI (bn_add l5 0) ?_
          refine bGo hA 4 9 (132, .istore 5, 2, 74, 0, [5], []) rfl rfl rfl ?_
          refine bGo hA 4 10 (134, .iinc 6 (1), 3, 75, 0, [6], [(1, 0)]) rfl rfl rfl ?_
          refine bEqC (fun v => A (75, [.ref 12, .int (bn l1), v2, v3, (bUnl v4), .int (bn (l5 + 0)), .int v, .int (bn ((256 * l6) + r4))], [], s8)) ((congrArg (fun w => bn l6 + w) bl_1).trans (bn_add l6 1)) ?_
          refine bGo hA 4 11 (137, .goto (-69), 3, 76, 38, [], []) rfl rfl rfl ?_
          exact (k9.1 c12).2.2
        · refine bGo hA 4 5 (126, .iconst (1), 1, 70, 0, [], [(1, 0)]) rfl rfl rfl ?_
          refine bEqI bl_1 ?_
          refine bGo hA 4 6 (127, .goto (4), 3, 71, 72, [], []) rfl rfl rfl ?_
          refine bGo hA 4 8 (131, .iadd, 1, 73, 0, [], []) rfl rfl rfl ?_
          refine bEqI (bn_add l5 1) ?_
          refine bGo hA 4 9 (132, .istore 5, 2, 74, 0, [5], []) rfl rfl rfl ?_
          refine bGo hA 4 10 (134, .iinc 6 (1), 3, 75, 0, [6], [(1, 0)]) rfl rfl rfl ?_
          refine bEqC (fun v => A (75, [.ref 12, .int (bn l1), v2, v3, (bUnl v4), .int (bn (l5 + 1)), .int v, .int (bn ((256 * l6) + r4))], [], s8)) ((congrArg (fun w => bn l6 + w) bl_1).trans (bn_add l6 1)) ?_
          refine bGo hA 4 11 (137, .goto (-69), 3, 76, 38, [], []) rfl rfl rfl ?_
          exact (k9.2 c12).2.2
      · refine bGo hA 4 7 (130, .iconst (0), 1, 72, 0, [], [(0, 0)]) rfl rfl rfl ?_
        refine bEqI bl_0 ?_
        refine bGo hA 4 8 (131, .iadd, 1, 73, 0, [], []) rfl rfl rfl ?_
        refine bEqI (bn_add l5 0) ?_
        refine bGo hA 4 9 (132, .istore 5, 2, 74, 0, [5], []) rfl rfl rfl ?_
        refine bGo hA 4 10 (134, .iinc 6 (1), 3, 75, 0, [6], [(1, 0)]) rfl rfl rfl ?_
        refine bEqC (fun v => A (75, [.ref 12, .int (bn l1), v2, v3, (bUnl v4), .int (bn (l5 + 0)), .int v, .int (bn ((256 * l6) + r4))], [], s2)) ((congrArg (fun w => bn l6 + w) bl_1).trans (bn_add l6 1)) ?_
        refine bGo hA 4 11 (137, .goto (-69), 3, 76, 38, [], []) rfl rfl rfl ?_
        exact ((k3.2.1 c6).2.2 c7).2.2
    · refine bGo hA 4 7 (130, .iconst (0), 1, 72, 0, [], [(0, 0)]) rfl rfl rfl ?_
      refine bEqI bl_0 ?_
      refine bGo hA 4 8 (131, .iadd, 1, 73, 0, [], []) rfl rfl rfl ?_
      refine bEqI (bn_add l5 0) ?_
      refine bGo hA 4 9 (132, .istore 5, 2, 74, 0, [5], []) rfl rfl rfl ?_
      refine bGo hA 4 10 (134, .iinc 6 (1), 3, 75, 0, [6], [(1, 0)]) rfl rfl rfl ?_
      refine bEqC (fun v => A (75, [.ref 12, .int (bn l1), v2, v3, (bUnl v4), .int (bn (l5 + 0)), .int v, .int (bn ((256 * l6) + r4))], [], s2)) ((congrArg (fun w => bn l6 + w) bl_1).trans (bn_add l6 1)) ?_
      refine bGo hA 4 11 (137, .goto (-69), 3, 76, 38, [], []) rfl rfl rfl ?_
      exact (k3.2.2 c6).2.2
  · refine bGo hA 4 12 (140, .iload 5, 2, 77, 0, [5], []) rfl rfl rfl ?_
    refine bGo hA 4 13 (142, .ireturn, 1, 0, 0, [1], []) rfl rfl rfl ?_
    exact (h.2 c1)

theorem sq287_0 {lvl : Nat} {C : bCall} {Q : bPost} {A : bPt → Prop} (hC : bMono C) (hA : bClosed lvl bm287 C Q A) {x1 : Int} {σ : bSt}  (h_x1 : bRg x1)
  (h : A (2, [.ref 12, .int (bn x1), .int (bn 0), .float 0, .float 0], [], σ)) : A (0, [.ref 12, .int (bn x1), .float 0, .float 0, .float 0], [], σ) := by
  refine bGo hA 0 0 (0, .iconst (0), 1, 1, 0, [], [(0, 0)]) rfl rfl rfl ?_
  refine bEqI bl_0 ?_
  refine bGo hA 0 1 (1, .istore_n 2, 1, 2, 0, [2], []) rfl rfl rfl ?_
  exact h

theorem sq287_2 {lvl : Nat} {C : bCall} {Q : bPost} {A : bPt → Prop} (hC : bMono C) (hA : bClosed lvl bm287 C Q A) {l1 : Int} {l2 : Int} {v3 : Value} {v4 : Value} {σ : bSt}  (h_l1 : bRg l1) (h_l2 : bRg l2)
  (h : ((l2 < (bi σ 12 22) → (bRg (256 * l2) ∧ (C 238 [.ref 12] σ (bRn (fun r4 s2 => (bRg ((256 * l2) + r4) ∧ (((bAnd (bShr l1 l2) 1) = 1 → ((0 ≤ ((256 * l2) + r4) ∧ ((256 * l2) + r4) < 4096) ∧ (((bi s2 95 ((256 * l2) + r4)) = 0 → ((0 ≤ (bi s2 99 ((256 * l2) + r4)) ∧ (bi s2 99 ((256 * l2) + r4)) < 120) ∧ (bRg (l2 + 1) ∧ A (2, [.ref 12, .int (bn l1), .int (bn (l2 + 1)), .int (bn ((256 * l2) + r4)), v4], [], (bw s2 140 (bi s2 99 ((256 * l2) + r4)) 1))))) ∧ (¬ (bi s2 95 ((256 * l2) + r4)) = 0 → (bRg (l2 + 1) ∧ A (2, [.ref 12, .int (bn l1), .int (bn (l2 + 1)), .int (bn ((256 * l2) + r4)), v4], [], s2)))))) ∧ (¬ (bAnd (bShr l1 l2) 1) = 1 → (bRg (l2 + 1) ∧ A (2, [.ref 12, .int (bn l1), .int (bn (l2 + 1)), .int (bn ((256 * l2) + r4)), v4], [], s2)))))))))) ∧ (¬ l2 < (bi σ 12 22) → (bRg ((bi σ 12 49) - 1) ∧ A (40, [.ref 12, .int (bn l1), .int (bn ((bi σ 12 49) - 1)), v3, v4], [], σ))))) : A (2, [.ref 12, .int (bn l1), .int (bn l2), v3, v4], [], σ) := by
  refine bGo hA 0 2 (2, .iload_n 2, 1, 3, 0, [2], []) rfl rfl rfl ?_
  refine bGo hA 0 3 (3, .aload_n 0, 1, 4, 0, [0], []) rfl rfl rfl ?_
  refine bGo hA 0 4 (4, .getfield 380, 3, 5, 0, [12, 22, 0, 0, 0, 0], []) rfl rfl rfl ?_
  refine ⟨rfl, ?_⟩
  refine bEqI (bn_bi σ 12 22) ?_
  refine bGo hA 0 5 (7, .if_icmp .ge (50), 3, 6, 35, [], []) rfl rfl rfl ?_
  refine bB_lt (x := l2) (y := (bi σ 12 22)) h_l2 (bi_rg _ _ _) (fun c1 => ?_) (fun c1 => ?_)
  · refine bGo hA 0 6 (10, .sipush (256), 3, 7, 0, [], [(256, 0)]) rfl rfl rfl ?_
    refine bEqI bl_256 ?_
    refine bGo hA 0 7 (13, .iload_n 2, 1, 8, 0, [2], []) rfl rfl rfl ?_
    refine bGo hA 0 8 (14, .imul, 1, 9, 0, [], []) rfl rfl rfl ?_
    refine bEqI (bn_mul 256 l2) ?_
    refine bGo hA 0 9 (15, .aload_n 0, 1, 10, 0, [0], []) rfl rfl rfl ?_
    refine bGo hA 0 10 (16, .invokevirtual 394, 3, 11, 0, [0, 12, 238, 0], []) rfl rfl rfl ?_
    refine ⟨rfl, ?_⟩
    refine hC _ _ _ _ _ (bRn_e (fun r4 s2 q5 k3 => ?_)) (h.1 c1).2
    show A (11, [.ref 12, .int (bn l1), .int (bn l2), v3, v4], [.int (bn r4), .int (bn (256 * l2))], s2)
    refine bGo hA 0 11 (19, .iadd, 1, 12, 0, [], []) rfl rfl rfl ?_
    refine bEqI (bn_add (256 * l2) r4) ?_
    refine bGo hA 0 12 (20, .istore_n 3, 1, 13, 0, [3], []) rfl rfl rfl ?_
    refine bGo hA 0 13 (21, .iload_n 1, 1, 14, 0, [1], []) rfl rfl rfl ?_
    refine bGo hA 0 14 (22, .iload_n 2, 1, 15, 0, [2], []) rfl rfl rfl ?_
    refine bGo hA 0 15 (23, .ishr, 1, 16, 0, [], []) rfl rfl rfl ?_
    refine bEqI (bn_shr l1 l2) ?_
    refine bGo hA 1 0 (24, .iconst (1), 1, 17, 0, [], [(1, 0)]) rfl rfl rfl ?_
    refine bEqI bl_1 ?_
    refine bGo hA 1 1 (25, .iand, 1, 18, 0, [], []) rfl rfl rfl ?_
    refine bEqI (bn_and (bShr l1 l2) 1) ?_
    refine bGo hA 1 2 (26, .iconst (1), 1, 19, 0, [], [(1, 0)]) rfl rfl rfl ?_
    refine bEqI bl_1 ?_
    refine bGo hA 1 3 (27, .if_icmp .ne (24), 3, 20, 33, [], []) rfl rfl rfl ?_
    refine bB_eq (x := (bAnd (bShr l1 l2) 1)) (y := 1) (bRgI _) (by decide : bRg 1) (fun c6 => ?_) (fun c6 => ?_)
    · refine bGo hA 1 4 (30, .aload_n 0, 1, 21, 0, [0], []) rfl rfl rfl ?_
      refine bGo hA 1 5 (31, .getfield 128, 3, 22, 0, [12, 43, 3, 95, 1, 0], []) rfl rfl rfl ?_
      refine ⟨rfl, ?_⟩
      refine bGo hA 1 6 (34, .iload_n 3, 1, 23, 0, [3], []) rfl rfl rfl ?_
      refine bGo hA 1 7 (35, .iaload, 1, 24, 0, [], []) rfl rfl rfl ?_
      refine ⟨rfl, (bIxP (x := ((256 * l2) + r4)) (n := 4096) k3.1 (k3.2.1 c6).1), ?_⟩
      refine bEqL (x := ((256 * l2) + r4)) k3.1 ?_
      refine bGo hA 1 8 (36, .ifCond .ne (15), 3, 25, 33, [], []) rfl rfl rfl ?_
      refine bB_eq0 (x := (bi s2 95 ((256 * l2) + r4))) (bi_rg _ _ _) (fun c7 => ?_) (fun c7 => ?_)
      · refine bGo hA 1 9 (39, .aload_n 0, 1, 26, 0, [0], []) rfl rfl rfl ?_
        refine bGo hA 1 10 (40, .getfield 263, 3, 27, 0, [12, 96, 3, 140, 1, 0], []) rfl rfl rfl ?_
        refine ⟨rfl, ?_⟩
        refine bGo hA 1 11 (43, .aload_n 0, 1, 28, 0, [0], []) rfl rfl rfl ?_
        refine bGo hA 1 12 (44, .getfield 140, 3, 29, 0, [12, 47, 3, 99, 1, 0], []) rfl rfl rfl ?_
        refine ⟨rfl, ?_⟩
        refine bGo hA 1 13 (47, .iload_n 3, 1, 30, 0, [3], []) rfl rfl rfl ?_
        refine bGo hA 1 14 (48, .iaload, 1, 31, 0, [], []) rfl rfl rfl ?_
        refine ⟨rfl, (bIxP (x := ((256 * l2) + r4)) (n := 4096) k3.1 (k3.2.1 c6).1), ?_⟩
        refine bEqL (x := ((256 * l2) + r4)) k3.1 ?_
        refine bGo hA 1 15 (49, .iconst (1), 1, 32, 0, [], [(1, 0)]) rfl rfl rfl ?_
        refine bEqI bl_1 ?_
        refine bGo hA 2 0 (50, .bastore, 1, 33, 0, [], []) rfl rfl rfl ?_
        refine ⟨rfl, (bIxP (x := (bi s2 99 ((256 * l2) + r4))) (n := 120) (bi_rg _ _ _) ((k3.2.1 c6).2.1 c7).1), by decide, b01 (Or.inr rfl), ?_⟩
        refine bEqS (x := (bi s2 99 ((256 * l2) + r4))) (bi_rg _ _ _) ?_
        refine bGo hA 2 1 (51, .iinc 2 (1), 3, 34, 0, [2], [(1, 0)]) rfl rfl rfl ?_
        refine bEqC (fun v => A (34, [.ref 12, .int (bn l1), .int v, .int (bn ((256 * l2) + r4)), v4], [], (bw s2 140 (bi s2 99 ((256 * l2) + r4)) 1))) ((congrArg (fun w => bn l2 + w) bl_1).trans (bn_add l2 1)) ?_
        refine bGo hA 2 2 (54, .goto (-52), 3, 35, 2, [], []) rfl rfl rfl ?_
        exact ((k3.2.1 c6).2.1 c7).2.2
      · refine bGo hA 2 1 (51, .iinc 2 (1), 3, 34, 0, [2], [(1, 0)]) rfl rfl rfl ?_
        refine bEqC (fun v => A (34, [.ref 12, .int (bn l1), .int v, .int (bn ((256 * l2) + r4)), v4], [], s2)) ((congrArg (fun w => bn l2 + w) bl_1).trans (bn_add l2 1)) ?_
        refine bGo hA 2 2 (54, .goto (-52), 3, 35, 2, [], []) rfl rfl rfl ?_
        exact ((k3.2.1 c6).2.2 c7).2
    · refine bGo hA 2 1 (51, .iinc 2 (1), 3, 34, 0, [2], [(1, 0)]) rfl rfl rfl ?_
      refine bEqC (fun v => A (34, [.ref 12, .int (bn l1), .int v, .int (bn ((256 * l2) + r4)), v4], [], s2)) ((congrArg (fun w => bn l2 + w) bl_1).trans (bn_add l2 1)) ?_
      refine bGo hA 2 2 (54, .goto (-52), 3, 35, 2, [], []) rfl rfl rfl ?_
      exact (k3.2.2 c6).2
  · refine bGo hA 2 3 (57, .aload_n 0, 1, 36, 0, [0], []) rfl rfl rfl ?_
    refine bGo hA 2 4 (58, .getfield 410, 3, 37, 0, [12, 49, 0, 0, 0, 0], []) rfl rfl rfl ?_
    refine ⟨rfl, ?_⟩
    refine bEqI (bn_bi σ 12 49) ?_
    refine bGo hA 2 5 (61, .iconst (1), 1, 38, 0, [], [(1, 0)]) rfl rfl rfl ?_
    refine bEqI bl_1 ?_
    refine bGo hA 2 6 (62, .isub, 1, 39, 0, [], []) rfl rfl rfl ?_
    refine bEqI (bn_sub (bi σ 12 49) 1) ?_
    refine bGo hA 2 7 (63, .istore_n 2, 1, 40, 0, [2], []) rfl rfl rfl ?_
    exact (h.2 c1).2

theorem sq287_40 {lvl : Nat} {C : bCall} {Q : bPost} {A : bPt → Prop} (hC : bMono C) (hA : bClosed lvl bm287 C Q A) {v1 : Value} {l2 : Int} {v3 : Value} {v4 : Value} {σ : bSt}  (h_l2 : bRg l2)
  (h : ((l2 < 0 → (bRg ((bi σ 12 49) - 1) ∧ A (91, [.ref 12, (bUnl v1), .int (bn ((bi σ 12 49) - 1)), v3, v4], [], σ))) ∧ (¬ l2 < 0 → ((0 ≤ l2 ∧ l2 < 120) ∧ (bRg (40 * l2) ∧ A (51, [.ref 12, v1, .int (bn l2), .int (bn (40 * l2)), v4], [], (bw σ 141 l2 0))))))) : A (40, [.ref 12, v1, .int (bn l2), v3, v4], [], σ) := by
  refine bGo hA 2 8 (64, .iload_n 2, 1, 41, 0, [2], []) rfl rfl rfl ?_
  refine bGo hA 2 9 (65, .ifCond .lt (77), 3, 42, 86, [], []) rfl rfl rfl ?_
  refine bB_lt0 (x := l2) h_l2 (fun c1 => ?_) (fun c1 => ?_)
  · refine bGo hA 5 6 (142, .aload_n 0, 1, 87, 0, [0], []) rfl rfl rfl ?_
    refine bGo hA 5 7 (143, .getfield 410, 3, 88, 0, [12, 49, 0, 0, 0, 0], []) rfl rfl rfl ?_
    refine ⟨rfl, ?_⟩
    refine bEqI (bn_bi σ 12 49) ?_
    refine bGo hA 5 8 (146, .iconst (1), 1, 89, 0, [], [(1, 0)]) rfl rfl rfl ?_
    refine bEqI bl_1 ?_
    refine bGo hA 5 9 (147, .isub, 1, 90, 0, [], []) rfl rfl rfl ?_
    refine bEqI (bn_sub (bi σ 12 49) 1) ?_
    refine bGo hA 5 10 (148, .istore_n 2, 1, 91, 0, [2], []) rfl rfl rfl ?_
    exact (h.1 c1).2
  · refine bGo hA 2 10 (68, .aload_n 0, 1, 43, 0, [0], []) rfl rfl rfl ?_
    refine bGo hA 2 11 (69, .getfield 266, 3, 44, 0, [12, 97, 3, 141, 1, 0], []) rfl rfl rfl ?_
    refine ⟨rfl, ?_⟩
    refine bGo hA 2 12 (72, .iload_n 2, 1, 45, 0, [2], []) rfl rfl rfl ?_
    refine bGo hA 2 13 (73, .iconst (0), 1, 46, 0, [], [(0, 0)]) rfl rfl rfl ?_
    refine bEqI bl_0 ?_
    refine bGo hA 2 14 (74, .iastore, 1, 47, 0, [], []) rfl rfl rfl ?_
    refine ⟨rfl, (bIxP (x := l2) (n := 120) h_l2 (h.2 c1).1), by decide, ?_⟩
    refine bEqS (x := l2) h_l2 ?_
    refine bGo hA 2 15 (75, .bipush (40), 2, 48, 0, [], [(40, 0)]) rfl rfl rfl ?_
    refine bEqI bl_40 ?_
    refine bGo hA 3 0 (77, .iload_n 2, 1, 49, 0, [2], []) rfl rfl rfl ?_
    refine bGo hA 3 1 (78, .imul, 1, 50, 0, [], []) rfl rfl rfl ?_
    refine bEqI (bn_mul 40 l2) ?_
    refine bGo hA 3 2 (79, .istore_n 3, 1, 51, 0, [3], []) rfl rfl rfl ?_
    exact (h.2 c1).2.2

theorem sq287_91 {lvl : Nat} {C : bCall} {Q : bPost} {A : bPt → Prop} (hC : bMono C) (hA : bClosed lvl bm287 C Q A) {v1 : Value} {l2 : Int} {v3 : Value} {v4 : Value} {σ : bSt}  (h_l2 : bRg l2)
  (h : ((l2 < 0 → Q (.inl none) σ) ∧ (¬ l2 < 0 → ((0 ≤ l2 ∧ l2 < 120) ∧ (((bi σ 140 l2) = 0 → (bRg (l2 + (-1)) ∧ A (91, [.ref 12, (bUnl v1), .int (bn (l2 + (-1))), v3, v4], [], σ))) ∧ (¬ (bi σ 140 l2) = 0 → ((0 ≤ (bi σ 107 l2) ∧ (bi σ 107 l2) < 16) ∧ (bRg ((bi σ 141 l2) + (bi σ 90 (bi σ 107 l2))) ∧ (bRg (40 * l2) ∧ A (116, [.ref 12, v1, .int (bn l2), .int (bn (40 * l2)), v4], [], (bw σ 141 l2 ((bi σ 141 l2) + (bi σ 90 (bi σ 107 l2)))))))))))))) : A (91, [.ref 12, v1, .int (bn l2), v3, v4], [], σ) := by
  refine bGo hA 5 11 (149, .iload_n 2, 1, 92, 0, [2], []) rfl rfl rfl ?_
  refine bGo hA 5 12 (150, .ifCond .lt (125), 3, 93, 165, [], []) rfl rfl rfl ?_
  refine bB_lt0 (x := l2) h_l2 (fun c1 => ?_) (fun c1 => ?_)
  · refine bGo hA 10 5 (275, .return_, 1, 0, 0, [0], []) rfl rfl rfl ?_
    exact (h.1 c1)
  · refine bGo hA 5 13 (153, .aload_n 0, 1, 94, 0, [0], []) rfl rfl rfl ?_
    refine bGo hA 5 14 (154, .getfield 263, 3, 95, 0, [12, 96, 3, 140, 1, 0], []) rfl rfl rfl ?_
    refine ⟨rfl, ?_⟩
    refine bGo hA 5 15 (157, .iload_n 2, 1, 96, 0, [2], []) rfl rfl rfl ?_
    refine bGo hA 6 0 (158, .baload, 1, 97, 0, [], []) rfl rfl rfl ?_
    refine ⟨rfl, (bIxP (x := l2) (n := 120) h_l2 (h.2 c1).1), ?_⟩
    refine bEqL (x := l2) h_l2 ?_
    refine bGo hA 6 1 (159, .ifCond .eq (110), 3, 98, 163, [], []) rfl rfl rfl ?_
    refine bB_eq0 (x := (bi σ 140 l2)) (bi_rg _ _ _) (fun c2 => ?_) (fun c2 => ?_)
    · refine bGo hA 10 3 (269, .iinc 2 (-1), 3, 164, 0, [2], [(-1, 0)]) rfl rfl rfl ?_
      refine bEqC (fun v => A (164, [.ref 12, (bUnl v1), .int v, v3, v4], [], σ)) ((congrArg (fun w => bn l2 + w) bl_m1).trans (bn_add l2 (-1))) ?_
      refine bGo hA 10 4 (272, .goto (-123), 3, 165, 91, [], []) rfl rfl rfl ?_
      exact ((h.2 c1).2.1 c2).2
    · refine bGo hA 6 2 (162, .aload_n 0, 1, 99, 0, [0], []) rfl rfl rfl ?_
      refine bGo hA 6 3 (163, .getfield 266, 3, 100, 0, [12, 97, 3, 141, 1, 0], []) rfl rfl rfl ?_
      refine ⟨rfl, ?_⟩
      refine bGo hA 6 4 (166, .iload_n 2, 1, 101, 0, [2], []) rfl rfl rfl ?_
      refine bGo hA 6 5 (167, .dup2, 1, 102, 0, [], []) rfl rfl rfl ?_
      refine bGo hA 6 6 (168, .iaload, 1, 103, 0, [], []) rfl rfl rfl ?_
      refine ⟨rfl, (bIxP (x := l2) (n := 120) h_l2 (h.2 c1).1), ?_⟩
      refine bEqL (x := l2) h_l2 ?_
      refine bGo hA 6 7 (169, .aload_n 0, 1, 104, 0, [0], []) rfl rfl rfl ?_
      refine bGo hA 6 8 (170, .getfield 113, 3, 105, 0, [12, 38, 3, 90, 1, 0], []) rfl rfl rfl ?_
      refine ⟨rfl, ?_⟩
      refine bGo hA 6 9 (173, .aload_n 0, 1, 106, 0, [0], []) rfl rfl rfl ?_
      refine bGo hA 6 10 (174, .getfield 164, 3, 107, 0, [12, 56, 3, 107, 1, 0], []) rfl rfl rfl ?_
      refine ⟨rfl, ?_⟩
      refine bGo hA 6 11 (177, .iload_n 2, 1, 108, 0, [2], []) rfl rfl rfl ?_
      refine bGo hA 6 12 (178, .iaload, 1, 109, 0, [], []) rfl rfl rfl ?_
      refine ⟨rfl, (bIxP (x := l2) (n := 120) h_l2 (h.2 c1).1), ?_⟩
      refine bEqL (x := l2) h_l2 ?_
      refine bGo hA 6 13 (179, .iaload, 1, 110, 0, [], []) rfl rfl rfl ?_
      refine ⟨rfl, (bIxP (x := (bi σ 107 l2)) (n := 16) (bi_rg _ _ _) ((h.2 c1).2.2 c2).1), ?_⟩
      refine bEqL (x := (bi σ 107 l2)) (bi_rg _ _ _) ?_
      refine bGo hA 6 14 (180, .iadd, 1, 111, 0, [], []) rfl rfl rfl ?_
      refine bEqI (bn_add (bi σ 141 l2) (bi σ 90 (bi σ 107 l2))) ?_
      refine bGo hA 6 15 (181, .iastore, 1, 112, 0, [], []) rfl rfl rfl ?_
      refine ⟨rfl, (bIxP (x := l2) (n := 120) h_l2 (h.2 c1).1), by decide, ?_⟩
      refine bEqS (x := l2) h_l2 ?_
      refine bGo hA 7 0 (182, .bipush (40), 2, 113, 0, [], [(40, 0)]) rfl rfl rfl ?_
      refine bEqI bl_40 ?_
      refine bGo hA 7 1 (184, .iload_n 2, 1, 114, 0, [2], []) rfl rfl rfl ?_
      refine bGo hA 7 2 (185, .imul, 1, 115, 0, [], []) rfl rfl rfl ?_
      refine bEqI (bn_mul 40 l2) ?_
      refine bGo hA 7 3 (186, .istore_n 3, 1, 116, 0, [3], []) rfl rfl rfl ?_
      exact ((h.2 c1).2.2 c2).2.2.2

theorem sq287_51 {lvl : Nat} {C : bCall} {Q : bPost} {A : bPt → Prop} (hC : bMono C) (hA : bClosed lvl bm287 C Q A) {v1 : Value} {l2 : Int} {l3 : Int} {v4 : Value} {σ : bSt}  (h_l2 : bRg l2) (h_l3 : bRg l3)
  (h : (bRg (40 * l2) ∧ ((0 ≤ l2 ∧ l2 < 120) ∧ (bRg ((40 * l2) + (bi σ 105 l2)) ∧ ((l3 < ((40 * l2) + (bi σ 105 l2)) → (((bi σ 140 l2) = 0 → (bRg (l2 + (-1)) ∧ A (40, [.ref 12, (bUnl v1), .int (bn (l2 + (-1))), .int (bn l3), v4], [], σ))) ∧ (¬ (bi σ 140 l2) = 0 → ((0 ≤ l3 ∧ l3 < 4800) ∧ (((bi σ 106 l3) < 100 → (bRg (l3 + 1) ∧ A (51, [.ref 12, v1, .int (bn l2), .int (bn (l3 + 1)), v4], [], σ))) ∧ (¬ (bi σ 106 l3) < 100 → (bRg ((bi σ 106 l3) - 100) ∧ ((0 ≤ ((bi σ 106 l3) - 100) ∧ ((bi σ 106 l3) - 100) < 120) ∧ (bRg (l3 + 1) ∧ A (51, [.ref 12, v1, .int (bn l2), .int (bn (l3 + 1)), v4], [], (bw σ 140 ((bi σ 106 l3) - 100) 1))))))))))) ∧ (¬ l3 < ((40 * l2) + (bi σ 105 l2)) → (bRg (l2 + (-1)) ∧ A (40, [.ref 12, (bUnl v1), .int (bn (l2 + (-1))), .int (bn l3), v4], [], σ)))))))) : A (51, [.ref 12, v1, .int (bn l2), .int (bn l3), v4], [], σ) := by
  refine bGo hA 3 3 (80, .iload_n 3, 1, 52, 0, [3], []) rfl rfl rfl ?_
  refine bGo hA 3 4 (81, .bipush (40), 2, 53, 0, [], [(40, 0)]) rfl rfl rfl ?_
  refine bEqI bl_40 ?_
  refine bGo hA 3 5 (83, .iload_n 2, 1, 54, 0, [2], []) rfl rfl rfl ?_
  refine bGo hA 3 6 (84, .imul, 1, 55, 0, [], []) rfl rfl rfl ?_
  refine bEqI (bn_mul 40 l2) ?_
  refine bGo hA 3 7 (85, .aload_n 0, 1, 56, 0, [0], []) rfl rfl rfl ?_
  refine bGo hA 3 8 (86, .getfield 158, 3, 57, 0, [12, 54, 3, 105, 1, 0], []) rfl rfl rfl ?_
  refine ⟨rfl, ?_⟩
  refine bGo hA 3 9 (89, .iload_n 2, 1, 58, 0, [2], []) rfl rfl rfl ?_
  refine bGo hA 3 10 (90, .iaload, 1, 59, 0, [], []) rfl rfl rfl ?_
  refine ⟨rfl, (bIxP (x := l2) (n := 120) h_l2 h.2.1), ?_⟩
  refine bEqL (x := l2) h_l2 ?_
  refine bGo hA 3 11 (91, .iadd, 1, 60, 0, [], []) rfl rfl rfl ?_
  refine bEqI (bn_add (40 * l2) (bi σ 105 l2)) ?_
  refine bGo hA 3 12 (92, .if_icmp .ge (44), 3, 61, 84, [], []) rfl rfl rfl ?_
  refine bB_lt (x := l3) (y := ((40 * l2) + (bi σ 105 l2))) h_l3 h.2.2.1 (fun c1 => ?_) (fun c1 => ?_)
  · refine bGo hA 3 13 (95, .aload_n 0, 1, 62, 0, [0], []) rfl rfl rfl ?_
    refine bGo hA 3 14 (96, .getfield 263, 3, 63, 0, [12, 96, 3, 140, 1, 0], []) rfl rfl rfl ?_
    refine ⟨rfl, ?_⟩
    refine bGo hA 3 15 (99, .iload_n 2, 1, 64, 0, [2], []) rfl rfl rfl ?_
    refine bGo hA 4 0 (100, .baload, 1, 65, 0, [], []) rfl rfl rfl ?_
    refine ⟨rfl, (bIxP (x := l2) (n := 120) h_l2 h.2.1), ?_⟩
    refine bEqL (x := l2) h_l2 ?_
    refine bGo hA 4 1 (101, .ifCond .eq (35), 3, 66, 84, [], []) rfl rfl rfl ?_
    refine bB_eq0 (x := (bi σ 140 l2)) (bi_rg _ _ _) (fun c2 => ?_) (fun c2 => ?_)
    · refine bGo hA 5 4 (136, .iinc 2 (-1), 3, 85, 0, [2], [(-1, 0)]) rfl rfl rfl ?_
      refine bEqC (fun v => A (85, [.ref 12, (bUnl v1), .int v, .int (bn l3), v4], [], σ)) ((congrArg (fun w => bn l2 + w) bl_m1).trans (bn_add l2 (-1))) ?_
      refine bGo hA 5 5 (139, .goto (-75), 3, 86, 40, [], []) rfl rfl rfl ?_
      exact ((h.2.2.2.1 c1).1 c2).2
    · refine bGo hA 4 2 (104, .aload_n 0, 1, 67, 0, [0], []) rfl rfl rfl ?_
      refine bGo hA 4 3 (105, .getfield 161, 3, 68, 0, [12, 55, 3, 106, 1, 0], []) rfl rfl rfl ?_
      refine ⟨rfl, ?_⟩
      refine bGo hA 4 4 (108, .iload_n 3, 1, 69, 0, [3], []) rfl rfl rfl ?_
      refine bGo hA 4 5 (109, .iaload, 1, 70, 0, [], []) rfl rfl rfl ?_
      refine ⟨rfl, (bIxP (x := l3) (n := 4800) h_l3 ((h.2.2.2.1 c1).2 c2).1), ?_⟩
      refine bEqL (x := l3) h_l3 ?_
      refine bGo hA 4 6 (110, .bipush (100), 2, 71, 0, [], [(100, 0)]) rfl rfl rfl ?_
      refine bEqI bl_100 ?_
      refine bGo hA 4 7 (112, .if_icmp .lt (18), 3, 72, 82, [], []) rfl rfl rfl ?_
      refine bB_lt (x := (bi σ 106 l3)) (y := 100) (bi_rg _ _ _) (by decide : bRg 100) (fun c3 => ?_) (fun c3 => ?_)
      · refine bGo hA 5 2 (130, .iinc 3 (1), 3, 83, 0, [3], [(1, 0)]) rfl rfl rfl ?_
        refine bEqC (fun v => A (83, [.ref 12, v1, .int (bn l2), .int v, v4], [], σ)) ((congrArg (fun w => bn l3 + w) bl_1).trans (bn_add l3 1)) ?_
        refine bGo hA 5 3 (133, .goto (-53), 3, 84, 51, [], []) rfl rfl rfl ?_
        exact (((h.2.2.2.1 c1).2 c2).2.1 c3).2
      · refine bGo hA 4 8 (115, .aload_n 0, 1, 73, 0, [0], []) rfl rfl rfl ?_
        refine bGo hA 4 9 (116, .getfield 263, 3, 74, 0, [12, 96, 3, 140, 1, 0], []) rfl rfl rfl ?_
        refine ⟨rfl, ?_⟩
        refine bGo hA 4 10 (119, .aload_n 0, 1, 75, 0, [0], []) rfl rfl rfl ?_
        refine bGo hA 4 11 (120, .getfield 161, 3, 76, 0, [12, 55, 3, 106, 1, 0], []) rfl rfl rfl ?_
        refine ⟨rfl, ?_⟩
        refine bGo hA 4 12 (123, .iload_n 3, 1, 77, 0, [3], []) rfl rfl rfl ?_
        refine bGo hA 4 13 (124, .iaload, 1, 78, 0, [], []) rfl rfl rfl ?_
        refine ⟨rfl, (bIxP (x := l3) (n := 4800) h_l3 ((h.2.2.2.1 c1).2 c2).1), ?_⟩
        refine bEqL (x := l3) h_l3 ?_
        refine bGo hA 4 14 (125, .bipush (100), 2, 79, 0, [], [(100, 0)]) rfl rfl rfl ?_
        refine bEqI bl_100 ?_
        refine bGo hA 4 15 (127, .isub, 1, 80, 0, [], []) rfl rfl rfl ?_
        refine bEqI (bn_sub (bi σ 106 l3) 100) ?_
        refine bGo hA 5 0 (128, .iconst (1), 1, 81, 0, [], [(1, 0)]) rfl rfl rfl ?_
        refine bEqI bl_1 ?_
        refine bGo hA 5 1 (129, .bastore, 1, 82, 0, [], []) rfl rfl rfl ?_
        refine ⟨rfl, (bIxP (x := ((bi σ 106 l3) - 100)) (n := 120) (((h.2.2.2.1 c1).2 c2).2.2 c3).1 (((h.2.2.2.1 c1).2 c2).2.2 c3).2.1), by decide, b01 (Or.inr rfl), ?_⟩
        refine bEqS (x := ((bi σ 106 l3) - 100)) (((h.2.2.2.1 c1).2 c2).2.2 c3).1 ?_
        refine bGo hA 5 2 (130, .iinc 3 (1), 3, 83, 0, [3], [(1, 0)]) rfl rfl rfl ?_
        refine bEqC (fun v => A (83, [.ref 12, v1, .int (bn l2), .int v, v4], [], (bw σ 140 ((bi σ 106 l3) - 100) 1))) ((congrArg (fun w => bn l3 + w) bl_1).trans (bn_add l3 1)) ?_
        refine bGo hA 5 3 (133, .goto (-53), 3, 84, 51, [], []) rfl rfl rfl ?_
        exact (((h.2.2.2.1 c1).2 c2).2.2 c3).2.2.2
  · refine bGo hA 5 4 (136, .iinc 2 (-1), 3, 85, 0, [2], [(-1, 0)]) rfl rfl rfl ?_
    refine bEqC (fun v => A (85, [.ref 12, (bUnl v1), .int v, .int (bn l3), v4], [], σ)) ((congrArg (fun w => bn l2 + w) bl_m1).trans (bn_add l2 (-1))) ?_
    refine bGo hA 5 5 (139, .goto (-75), 3, 86, 40, [], []) rfl rfl rfl ?_
    exact (h.2.2.2.2 c1).2

theorem sq287_116 {lvl : Nat} {C : bCall} {Q : bPost} {A : bPt → Prop} (hC : bMono C) (hA : bClosed lvl bm287 C Q A) {v1 : Value} {l2 : Int} {l3 : Int} {v4 : Value} {σ : bSt}  (h_l2 : bRg l2) (h_l3 : bRg l3)
  (h : (bRg (40 * l2) ∧ ((0 ≤ l2 ∧ l2 < 120) ∧ (bRg ((40 * l2) + (bi σ 105 l2)) ∧ ((l3 < ((40 * l2) + (bi σ 105 l2)) → ((0 ≤ l3 ∧ l3 < 4800) ∧ (((bi σ 106 l3) < 100 → (bRg (l3 + 1) ∧ A (116, [.ref 12, v1, .int (bn l2), .int (bn (l3 + 1)), v4], [], σ))) ∧ (¬ (bi σ 106 l3) < 100 → (bRg ((bi σ 106 l3) - 100) ∧ ((0 ≤ ((bi σ 106 l3) - 100) ∧ ((bi σ 106 l3) - 100) < 120) ∧ (((bi σ 141 ((bi σ 106 l3) - 100)) < (bi σ 141 l2) → (bRg (l3 + 1) ∧ A (116, [.ref 12, v1, .int (bn l2), .int (bn (l3 + 1)), .int (bn ((bi σ 106 l3) - 100))], [], (bw σ 141 ((bi σ 106 l3) - 100) (bi σ 141 l2))))) ∧ (¬ (bi σ 141 ((bi σ 106 l3) - 100)) < (bi σ 141 l2) → (bRg (l3 + 1) ∧ A (116, [.ref 12, v1, .int (bn l2), .int (bn (l3 + 1)), .int (bn ((bi σ 106 l3) - 100))], [], (bw σ 141 ((bi σ 106 l3) - 100) (bi σ 141 ((bi σ 106 l3) - 100))))))))))))) ∧ (¬ l3 < ((40 * l2) + (bi σ 105 l2)) → (bRg (l2 + (-1)) ∧ A (91, [.ref 12, (bUnl v1), .int (bn (l2 + (-1))), .int (bn l3), v4], [], σ)))))))) : A (116, [.ref 12, v1, .int (bn l2), .int (bn l3), v4], [], σ) := by
  refine bGo hA 7 4 (187, .iload_n 3, 1, 117, 0, [3], []) rfl rfl rfl ?_
  refine bGo hA 7 5 (188, .bipush (40), 2, 118, 0, [], [(40, 0)]) rfl rfl rfl ?_
  refine bEqI bl_40 ?_
  refine bGo hA 7 6 (190, .iload_n 2, 1, 119, 0, [2], []) rfl rfl rfl ?_
  refine bGo hA 7 7 (191, .imul, 1, 120, 0, [], []) rfl rfl rfl ?_
  refine bEqI (bn_mul 40 l2) ?_
  refine bGo hA 7 8 (192, .aload_n 0, 1, 121, 0, [0], []) rfl rfl rfl ?_
  refine bGo hA 7 9 (193, .getfield 158, 3, 122, 0, [12, 54, 3, 105, 1, 0], []) rfl rfl rfl ?_
  refine ⟨rfl, ?_⟩
  refine bGo hA 7 10 (196, .iload_n 2, 1, 123, 0, [2], []) rfl rfl rfl ?_
  refine bGo hA 7 11 (197, .iaload, 1, 124, 0, [], []) rfl rfl rfl ?_
  refine ⟨rfl, (bIxP (x := l2) (n := 120) h_l2 h.2.1), ?_⟩
  refine bEqL (x := l2) h_l2 ?_
  refine bGo hA 7 12 (198, .iadd, 1, 125, 0, [], []) rfl rfl rfl ?_
  refine bEqI (bn_add (40 * l2) (bi σ 105 l2)) ?_
  refine bGo hA 7 13 (199, .if_icmp .ge (70), 3, 126, 163, [], []) rfl rfl rfl ?_
  refine bB_lt (x := l3) (y := ((40 * l2) + (bi σ 105 l2))) h_l3 h.2.2.1 (fun c1 => ?_) (fun c1 => ?_)
  · refine bGo hA 7 14 (202, .aload_n 0, 1, 127, 0, [0], []) rfl rfl rfl ?_
    refine bGo hA 7 15 (203, .getfield 161, 3, 128, 0, [12, 55, 3, 106, 1, 0], []) rfl rfl rfl ?_
    refine ⟨rfl, ?_⟩
    refine bGo hA 8 0 (206, .iload_n 3, 1, 129, 0, [3], []) rfl rfl rfl ?_
    refine bGo hA 8 1 (207, .iaload, 1, 130, 0, [], []) rfl rfl rfl ?_
    refine ⟨rfl, (bIxP (x := l3) (n := 4800) h_l3 (h.2.2.2.1 c1).1), ?_⟩
    refine bEqL (x := l3) h_l3 ?_
    refine bGo hA 8 2 (208, .bipush (100), 2, 131, 0, [], [(100, 0)]) rfl rfl rfl ?_
    refine bEqI bl_100 ?_
    refine bGo hA 8 3 (210, .if_icmp .lt (53), 3, 132, 161, [], []) rfl rfl rfl ?_
    refine bB_lt (x := (bi σ 106 l3)) (y := 100) (bi_rg _ _ _) (by decide : bRg 100) (fun c2 => ?_) (fun c2 => ?_)
    · refine bGo hA 10 1 (263, .iinc 3 (1), 3, 162, 0, [3], [(1, 0)]) rfl rfl rfl ?_
      refine bEqC (fun v => A (162, [.ref 12, v1, .int (bn l2), .int v, v4], [], σ)) ((congrArg (fun w => bn l3 + w) bl_1).trans (bn_add l3 1)) ?_
      refine bGo hA 10 2 (266, .goto (-79), 3, 163, 116, [], []) rfl rfl rfl ?_
      exact ((h.2.2.2.1 c1).2.1 c2).2
    · refine bGo hA 8 4 (213, .aload_n 0, 1, 133, 0, [0], []) rfl rfl rfl ?_
      refine bGo hA 8 5 (214, .getfield 161, 3, 134, 0, [12, 55, 3, 106, 1, 0], []) rfl rfl rfl ?_
      refine ⟨rfl, ?_⟩
      refine bGo hA 8 6 (217, .iload_n 3, 1, 135, 0, [3], []) rfl rfl rfl ?_
      refine bGo hA 8 7 (218, .iaload, 1, 136, 0, [], []) rfl rfl rfl ?_
      refine ⟨rfl, (bIxP (x := l3) (n := 4800) h_l3 (h.2.2.2.1 c1).1), ?_⟩
      refine bEqL (x := l3) h_l3 ?_
      refine bGo hA 8 8 (219, .bipush (100), 2, 137, 0, [], [(100, 0)]) rfl rfl rfl ?_
      refine bEqI bl_100 ?_
      refine bGo hA 8 9 (221, .isub, 1, 138, 0, [], []) rfl rfl rfl ?_
      refine bEqI (bn_sub (bi σ 106 l3) 100) ?_
      refine bGo hA 8 10 (222, .istore 4, 2, 139, 0, [4], []) rfl rfl rfl ?_
      refine bGo hA 8 11 (224, .aload_n 0, 1, 140, 0, [0], []) rfl rfl rfl ?_
      refine bGo hA 8 12 (225, .getfield 266, 3, 141, 0, [12, 97, 3, 141, 1, 0], []) rfl rfl rfl ?_
      refine ⟨rfl, ?_⟩
      refine bGo hA 8 13 (228, .iload 4, 2, 142, 0, [4], []) rfl rfl rfl ?_
      refine bGo hA 8 14 (230, .aload_n 0, 1, 143, 0, [0], []) rfl rfl rfl ?_
      refine bGo hA 8 15 (231, .getfield 266, 3, 144, 0, [12, 97, 3, 141, 1, 0], []) rfl rfl rfl ?_
      refine ⟨rfl, ?_⟩
      refine bGo hA 9 0 (234, .iload_n 2, 1, 145, 0, [2], []) rfl rfl rfl ?_
      refine bGo hA 9 1 (235, .iaload, 1, 146, 0, [], []) rfl rfl rfl ?_
      refine ⟨rfl, (bIxP (x := l2) (n := 120) h_l2 h.2.1), ?_⟩
      refine bEqL (x := l2) h_l2 ?_
      refine bGo hA 9 2 (236, .aload_n 0, 1, 147, 0, [0], []) rfl rfl rfl ?_
      refine bGo hA 9 3 (237, .getfield 266, 3, 148, 0, [12, 97, 3, 141, 1, 0], []) rfl rfl rfl ?_
      refine ⟨rfl, ?_⟩
      refine bGo hA 9 4 (240, .iload 4, 2, 149, 0, [4], []) rfl rfl rfl ?_
      refine bGo hA 9 5 (242, .iaload, 1, 150, 0, [], []) rfl rfl rfl ?_
      refine ⟨rfl, (bIxP (x := ((bi σ 106 l3) - 100)) (n := 120) ((h.2.2.2.1 c1).2.2 c2).1 ((h.2.2.2.1 c1).2.2 c2).2.1), ?_⟩
      refine bEqL (x := ((bi σ 106 l3) - 100)) ((h.2.2.2.1 c1).2.2 c2).1 ?_
      refine bGo hA 9 6 (243, .if_icmp .le (12), 3, 151, 156, [], []) rfl rfl rfl ?_
      refine bB_lt (x := (bi σ 141 ((bi σ 106 l3) - 100))) (y := (bi σ 141 l2)) (bi_rg _ _ _) (bi_rg _ _ _) (fun c3 => ?_) (fun c3 => ?_)
      · refine bGo hA 9 7 (246, .aload_n 0, 1, 152, 0, [0], []) rfl rfl rfl ?_
        refine bGo hA 9 8 (247, .getfield 266, 3, 153, 0, [12, 97, 3, 141, 1, 0], []) rfl rfl rfl ?_
        refine ⟨rfl, ?_⟩
        refine bGo hA 9 9 (250, .iload_n 2, 1, 154, 0, [2], []) rfl rfl rfl ?_
        refine bGo hA 9 10 (251, .iaload, 1, 155, 0, [], []) rfl rfl rfl ?_
        refine ⟨rfl, (bIxP (x := l2) (n := 120) h_l2 h.2.1), ?_⟩
        refine bEqL (x := l2) h_l2 ?_
        refine bGo hA 9 11 (252, .goto (10), 3, 156, 160, [], []) rfl rfl rfl ?_
        refine bGo hA 10 0 (262, .iastore, 1, 161, 0, [], []) rfl rfl rfl ?_
        refine ⟨rfl, (bIxP (x := ((bi σ 106 l3) - 100)) (n := 120) ((h.2.2.2.1 c1).2.2 c2).1 ((h.2.2.2.1 c1).2.2 c2).2.1), by decide, ?_⟩
        refine bEqS (x := ((bi σ 106 l3) - 100)) ((h.2.2.2.1 c1).2.2 c2).1 ?_
        refine bGo hA 10 1 (263, .iinc 3 (1), 3, 162, 0, [3], [(1, 0)]) rfl rfl rfl ?_
        refine bEqC (fun v => A (162, [.ref 12, v1, .int (bn l2), .int v, .int (bn ((bi σ 106 l3) - 100))], [], (bw σ 141 ((bi σ 106 l3) - 100) (bi σ 141 l2)))) ((congrArg (fun w => bn l3 + w) bl_1).trans (bn_add l3 1)) ?_
        refine bGo hA 10 2 (266, .goto (-79), 3, 163, 116, [], []) rfl rfl rfl ?_
        exact (((h.2.2.2.1 c1).2.2 c2).2.2.1 c3).2
      · refine bGo hA 9 12 (255, .aload_n 0, 1, 157, 0, [0], []) rfl rfl rfl ?_
        refine bGo hA 9 13 (256, .getfield 266, 3, 158, 0, [12, 97, 3, 141, 1, 0], []) rfl rfl rfl ?_
        refine ⟨rfl, ?_⟩
        refine bGo hA 9 14 (259, .iload 4, 2, 159, 0, [4], []) rfl rfl rfl ?_
        refine bGo hA 9 15 (261, .iaload, 1, 160, 0, [], []) rfl rfl rfl ?_
        refine ⟨rfl, (bIxP (x := ((bi σ 106 l3) - 100)) (n := 120) ((h.2.2.2.1 c1).2.2 c2).1 ((h.2.2.2.1 c1).2.2 c2).2.1), ?_⟩
        refine bEqL (x := ((bi σ 106 l3) - 100)) ((h.2.2.2.1 c1).2.2 c2).1 ?_
        refine bGo hA 10 0 (262, .iastore, 1, 161, 0, [], []) rfl rfl rfl ?_
        refine ⟨rfl, (bIxP (x := ((bi σ 106 l3) - 100)) (n := 120) ((h.2.2.2.1 c1).2.2 c2).1 ((h.2.2.2.1 c1).2.2 c2).2.1), by decide, ?_⟩
        refine bEqS (x := ((bi σ 106 l3) - 100)) ((h.2.2.2.1 c1).2.2 c2).1 ?_
        refine bGo hA 10 1 (263, .iinc 3 (1), 3, 162, 0, [3], [(1, 0)]) rfl rfl rfl ?_
        refine bEqC (fun v => A (162, [.ref 12, v1, .int (bn l2), .int v, .int (bn ((bi σ 106 l3) - 100))], [], (bw σ 141 ((bi σ 106 l3) - 100) (bi σ 141 ((bi σ 106 l3) - 100))))) ((congrArg (fun w => bn l3 + w) bl_1).trans (bn_add l3 1)) ?_
        refine bGo hA 10 2 (266, .goto (-79), 3, 163, 116, [], []) rfl rfl rfl ?_
        exact (((h.2.2.2.1 c1).2.2 c2).2.2.2 c3).2
  · refine bGo hA 10 3 (269, .iinc 2 (-1), 3, 164, 0, [2], [(-1, 0)]) rfl rfl rfl ?_
    refine bEqC (fun v => A (164, [.ref 12, (bUnl v1), .int v, .int (bn l3), v4], [], σ)) ((congrArg (fun w => bn l2 + w) bl_m1).trans (bn_add l2 (-1))) ?_
    refine bGo hA 10 4 (272, .goto (-123), 3, 165, 91, [], []) rfl rfl rfl ?_
    exact (h.2.2.2.2 c1).2

theorem sq288_0 {lvl : Nat} {C : bCall} {Q : bPost} {A : bPt → Prop} (hC : bMono C) (hA : bClosed lvl bm288 C Q A) {x1 : Int} {x2 : Int} {σ : bSt}  (h_x1 : bRg x1) (h_x2 : bRg x2)
  (h : A (2, [.ref 12, .int (bn x1), .int (bn x2), .int (bn 1), .float 0, .float 0, .float 0, .float 0], [], σ)) : A (0, [.ref 12, .int (bn x1), .int (bn x2), .float 0, .float 0, .float 0, .float 0, .float 0], [], σ) := by
  refine bGo hA 0 0 (0, .iconst (1), 1, 1, 0, [], [(1, 0)]) rfl rfl rfl ?_
  refine bEqI bl_1 ?_
  refine bGo hA 0 1 (1, .istore_n 3, 1, 2, 0, [3], []) rfl rfl rfl ?_
  exact h

theorem sq288_2 {lvl : Nat} {C : bCall} {Q : bPost} {A : bPt → Prop} (hC : bMono C) (hA : bClosed lvl bm288 C Q A) {l1 : Int} {l2 : Int} {l3 : Int} {v4 : Value} {v5 : Value} {v6 : Value} {v7 : Value} {σ : bSt}  (h_l1 : bRg l1) (h_l2 : bRg l2) (h_l3 : bRg l3)
  (h : ((l3 = 0 → A (127, [.ref 12, .int (bn l1), .int (bn l2), .int (bn l3), .int (bn 0), v5, v6, v7], [], (bw σ 139 0 (bi σ 12 105)))) ∧ (¬ l3 = 0 → A (6, [.ref 12, .int (bn l1), .int (bn l2), .int (bn l3), .int (bn 0), v5, v6, v7], [], σ)))) : A (2, [.ref 12, .int (bn l1), .int (bn l2), .int (bn l3), v4, v5, v6, v7], [], σ) := by
  refine bGo hA 0 2 (2, .iload_n 3, 1, 3, 0, [3], []) rfl rfl rfl ?_
  refine bGo hA 0 3 (3, .ifCond .eq (241), 3, 4, 119, [], []) rfl rfl rfl ?_
  refine bB_eq0 (x := l3) h_l3 (fun c1 => ?_) (fun c1 => ?_)
  · refine bGo hA 7 7 (244, .aload_n 0, 1, 120, 0, [0], []) rfl rfl rfl ?_
    refine bGo hA 7 8 (245, .getfield 260, 3, 121, 0, [12, 94, 3, 139, 1, 0], []) rfl rfl rfl ?_
    refine ⟨rfl, ?_⟩
    refine bGo hA 7 9 (248, .iconst (0), 1, 122, 0, [], [(0, 0)]) rfl rfl rfl ?_
    refine bEqI bl_0 ?_
    refine bGo hA 7 10 (249, .aload_n 0, 1, 123, 0, [0], []) rfl rfl rfl ?_
    refine bGo hA 7 11 (250, .getfield 480, 3, 124, 0, [12, 105, 0, 0, 0, 0], []) rfl rfl rfl ?_
    refine ⟨rfl, ?_⟩
    refine bEqI (bn_bi σ 12 105) ?_
    refine bGo hA 7 12 (253, .iastore, 1, 125, 0, [], []) rfl rfl rfl ?_
    refine ⟨rfl, (bIxP (x := 0) (n := 12) (by decide) (by decide)), by decide, ?_⟩
    refine bEqS (x := 0) (by decide : bRg 0) ?_
    refine bGo hA 7 13 (254, .iconst (0), 1, 126, 0, [], [(0, 0)]) rfl rfl rfl ?_
    refine bEqI bl_0 ?_
    refine bGo hA 7 14 (255, .istore 4, 2, 127, 0, [4], []) rfl rfl rfl ?_
    exact (h.1 c1)
  · refine bGo hA 0 4 (6, .iconst (0), 1, 5, 0, [], [(0, 0)]) rfl rfl rfl ?_
    refine bEqI bl_0 ?_
    refine bGo hA 0 5 (7, .istore 4, 2, 6, 0, [4], []) rfl rfl rfl ?_
    exact (h.2 c1)

theorem sq288_127 {lvl : Nat} {C : bCall} {Q : bPost} {A : bPt → Prop} (hC : bMono C) (hA : bClosed lvl bm288 C Q A) {v1 : Value} {v2 : Value} {v3 : Value} {l4 : Int} {v5 : Value} {v6 : Value} {v7 : Value} {σ : bSt}  (h_l4 : bRg l4)
  (h : ((l4 < (bi σ 12 49) → ((0 ≤ l4 ∧ l4 < 120) ∧ (((bi σ 140 l4) = 0 → (((bi σ 140 l4) = 0 → (bRg (l4 + 1) ∧ A (127, [.ref 12, v1, v2, (bUnl v3), .int (bn (l4 + 1)), v5, v6, v7], [], (bw σ 142 l4 (bi σ 142 l4))))) ∧ (¬ (bi σ 140 l4) = 0 → (bRg (1 + (bi σ 142 l4)) ∧ ((0 ≤ (1 + (bi σ 142 l4)) ∧ (1 + (bi σ 142 l4)) < 12) ∧ (bRg ((bi σ 139 (1 + (bi σ 142 l4))) + 1) ∧ (bRg (l4 + 1) ∧ A (127, [.ref 12, v1, v2, (bUnl v3), .int (bn (l4 + 1)), v5, v6, v7], [], (bw (bw σ 142 l4 (bi σ 142 l4)) 139 (1 + (bi σ 142 l4)) ((bi σ 139 (1 + (bi σ 142 l4))) + 1)))))))))) ∧ (¬ (bi σ 140 l4) = 0 → (((bi σ 142 l4) = (-1) → (((bi σ 140 l4) = 0 → (bRg (l4 + 1) ∧ A (127, [.ref 12, v1, v2, (bUnl v3), .int (bn (l4 + 1)), v5, v6, v7], [], (bw σ 142 l4 6)))) ∧ (¬ (bi σ 140 l4) = 0 → (bRg ((bi σ 139 7) + 1) ∧ (bRg (l4 + 1) ∧ A (127, [.ref 12, v1, v2, (bUnl v3), .int (bn (l4 + 1)), v5, v6, v7], [], (bw (bw σ 142 l4 6) 139 7 ((bi σ 139 7) + 1)))))))) ∧ (¬ (bi σ 142 l4) = (-1) → (((bi σ 140 l4) = 0 → (bRg (l4 + 1) ∧ A (127, [.ref 12, v1, v2, (bUnl v3), .int (bn (l4 + 1)), v5, v6, v7], [], (bw σ 142 l4 (bi σ 142 l4))))) ∧ (¬ (bi σ 140 l4) = 0 → (bRg (1 + (bi σ 142 l4)) ∧ ((0 ≤ (1 + (bi σ 142 l4)) ∧ (1 + (bi σ 142 l4)) < 12) ∧ (bRg ((bi σ 139 (1 + (bi σ 142 l4))) + 1) ∧ (bRg (l4 + 1) ∧ A (127, [.ref 12, v1, v2, (bUnl v3), .int (bn (l4 + 1)), v5, v6, v7], [], (bw (bw σ 142 l4 (bi σ 142 l4)) 139 (1 + (bi σ 142 l4)) ((bi σ 139 (1 + (bi σ 142 l4))) + 1))))))))))))))) ∧ (¬ l4 < (bi σ 12 49) → Q (.inl none) σ))) : A (127, [.ref 12, v1, v2, v3, .int (bn l4), v5, v6, v7], [], σ) := by
  refine bGo hA 7 15 (257, .iload 4, 2, 128, 0, [4], []) rfl rfl rfl ?_
  refine bGo hA 8 0 (259, .aload_n 0, 1, 129, 0, [0], []) rfl rfl rfl ?_
  refine bGo hA 8 1 (260, .getfield 410, 3, 130, 0, [12, 49, 0, 0, 0, 0], []) rfl rfl rfl ?_
  refine ⟨rfl, ?_⟩
  refine bEqI (bn_bi σ 12 49) ?_
  refine bGo hA 8 2 (263, .if_icmp .ge (77), 3, 131, 172, [], []) rfl rfl rfl ?_
  refine bB_lt (x := l4) (y := (bi σ 12 49)) h_l4 (bi_rg _ _ _) (fun c1 => ?_) (fun c1 => ?_)
  · refine bGo hA 8 3 (266, .aload_n 0, 1, 132, 0, [0], []) rfl rfl rfl ?_
    refine bGo hA 8 4 (267, .getfield 269, 3, 133, 0, [12, 98, 3, 142, 1, 0], []) rfl rfl rfl ?_
    refine ⟨rfl, ?_⟩
    refine bGo hA 8 5 (270, .iload 4, 2, 134, 0, [4], []) rfl rfl rfl ?_
    refine bGo hA 8 6 (272, .aload_n 0, 1, 135, 0, [0], []) rfl rfl rfl ?_
    refine bGo hA 8 7 (273, .getfield 263, 3, 136, 0, [12, 96, 3, 140, 1, 0], []) rfl rfl rfl ?_
    refine ⟨rfl, ?_⟩
    refine bGo hA 8 8 (276, .iload 4, 2, 137, 0, [4], []) rfl rfl rfl ?_
    refine bGo hA 8 9 (278, .baload, 1, 138, 0, [], []) rfl rfl rfl ?_
    refine ⟨rfl, (bIxP (x := l4) (n := 120) h_l4 (h.1 c1).1), ?_⟩
    refine bEqL (x := l4) h_l4 ?_
    refine bGo hA 8 10 (279, .ifCond .eq (19), 3, 139, 147, [], []) rfl rfl rfl ?_
    refine bB_eq0 (x := (bi σ 140 l4)) (bi_rg _ _ _) (fun c2 => ?_) (fun c2 => ?_)
    · refine bGo hA 9 3 (298, .aload_n 0, 1, 148, 0, [0], []) rfl rfl rfl ?_
      refine bGo hA 9 4 (299, .getfield 269, 3, 149, 0, [12, 98, 3, 142, 1, 0], []) rfl rfl rfl ?_
      refine ⟨rfl, ?_⟩
      refine bGo hA 9 5 (302, .iload 4, 2, 150, 0, [4], []) rfl rfl rfl ?_
      refine bGo hA 9 6 (304, .iaload, 1, 151, 0, [], []) rfl rfl rfl ?_
      refine ⟨rfl, (bIxP (x := l4) (n := 120) h_l4 (h.1 c1).1), ?_⟩
      refine bEqL (x := l4) h_l4 ?_
      refine bGo hA 9 7 (305, .iastore, 1, 152, 0, [], []) rfl rfl rfl ?_
      refine ⟨rfl, (bIxP (x := l4) (n := 120) h_l4 (h.1 c1).1), by decide, ?_⟩
      refine bEqS (x := l4) h_l4 ?_
      refine bGo hA 9 8 (306, .aload_n 0, 1, 153, 0, [0], []) rfl rfl rfl ?_
      refine bGo hA 9 9 (307, .getfield 263, 3, 154, 0, [12, 96, 3, 140, 1, 0], []) rfl rfl rfl ?_
      refine ⟨rfl, ?_⟩
      refine bGo hA 9 10 (310, .iload 4, 2, 155, 0, [4], []) rfl rfl rfl ?_
      refine bGo hA 9 11 (312, .baload, 1, 156, 0, [], []) rfl rfl rfl ?_
      refine ⟨rfl, (bIxP (x := l4) (n := 120) h_l4 (h.1 c1).1), ?_⟩
      refine bEqL (x := l4) h_l4 ?_
      refine bEqI (congrArg bn (show bi (bw σ 142 l4 (bi σ 142 l4)) 140 l4 = (bi σ 140 l4) from (bi_ne (by decide)))) ?_
      refine bGo hA 9 12 (313, .ifCond .eq (21), 3, 157, 170, [], []) rfl rfl rfl ?_
      refine bB_eq0 (x := (bi σ 140 l4)) (bi_rg _ _ _) (fun c3 => ?_) (fun c3 => ?_)
      · refine bGo hA 10 10 (334, .iinc 4 (1), 3, 171, 0, [4], [(1, 0)]) rfl rfl rfl ?_
        refine bEqC (fun v => A (171, [.ref 12, v1, v2, (bUnl v3), .int v, v5, v6, v7], [], (bw σ 142 l4 (bi σ 142 l4)))) ((congrArg (fun w => bn l4 + w) bl_1).trans (bn_add l4 1)) ?_
        refine bGo hA 10 11 (337, .goto (-80), 3, 172, 127, [], []) rfl rfl rfl ?_
        exact (((h.1 c1).2.1 c2).1 c3).2
      · refine bGo hA 9 13 (316, .aload_n 0, 1, 158, 0, [0], []) rfl rfl rfl ?_
        refine bGo hA 9 14 (317, .getfield 260, 3, 159, 0, [12, 94, 3, 139, 1, 0], []) rfl rfl rfl ?_
        refine ⟨rfl, ?_⟩
        refine bGo hA 9 15 (320, .iconst (1), 1, 160, 0, [], [(1, 0)]) rfl rfl rfl ?_
        refine bEqI bl_1 ?_
        refine bGo hA 10 0 (321, .aload_n 0, 1, 161, 0, [0], []) rfl rfl rfl ?_
        refine bGo hA 10 1 (322, .getfield 269, 3, 162, 0, [12, 98, 3, 142, 1, 0], []) rfl rfl rfl ?_
        refine ⟨rfl, ?_⟩
        refine bGo hA 10 2 (325, .iload 4, 2, 163, 0, [4], []) rfl rfl rfl ?_
        refine bGo hA 10 3 (327, .iaload, 1, 164, 0, [], []) rfl rfl rfl ?_
        refine ⟨rfl, (bIxP (x := l4) (n := 120) h_l4 (h.1 c1).1), ?_⟩
        refine bEqL (x := l4) h_l4 ?_
        refine bEqI (congrArg bn (show bi (bw σ 142 l4 (bi σ 142 l4)) 142 l4 = (bi σ 142 l4) from (bi_eq (bi_rg _ _ _)))) ?_
        refine bGo hA 10 4 (328, .iadd, 1, 165, 0, [], []) rfl rfl rfl ?_
        refine bEqI (bn_add 1 (bi σ 142 l4)) ?_
        refine bGo hA 10 5 (329, .dup2, 1, 166, 0, [], []) rfl rfl rfl ?_
        refine bGo hA 10 6 (330, .iaload, 1, 167, 0, [], []) rfl rfl rfl ?_
        refine ⟨rfl, (bIxP (x := (1 + (bi σ 142 l4))) (n := 12) (((h.1 c1).2.1 c2).2 c3).1 (((h.1 c1).2.1 c2).2 c3).2.1), ?_⟩
        refine bEqL (x := (1 + (bi σ 142 l4))) (((h.1 c1).2.1 c2).2 c3).1 ?_
        refine bEqI (congrArg bn (show bi (bw σ 142 l4 (bi σ 142 l4)) 139 (1 + (bi σ 142 l4)) = (bi σ 139 (1 + (bi σ 142 l4))) from (bi_ne (by decide)))) ?_
        refine bGo hA 10 7 (331, .iconst (1), 1, 168, 0, [], [(1, 0)]) rfl rfl rfl ?_
        refine bEqI bl_1 ?_
        refine bGo hA 10 8 (332, .iadd, 1, 169, 0, [], []) rfl rfl rfl ?_
        refine bEqI (bn_add (bi σ 139 (1 + (bi σ 142 l4))) 1) ?_
        refine bGo hA 10 9 (333, .iastore, 1, 170, 0, [], []) rfl rfl rfl ?_
        refine ⟨rfl, (bIxP (x := (1 + (bi σ 142 l4))) (n := 12) (((h.1 c1).2.1 c2).2 c3).1 (((h.1 c1).2.1 c2).2 c3).2.1), by decide, ?_⟩
        refine bEqS (x := (1 + (bi σ 142 l4))) (((h.1 c1).2.1 c2).2 c3).1 ?_
        refine bGo hA 10 10 (334, .iinc 4 (1), 3, 171, 0, [4], [(1, 0)]) rfl rfl rfl ?_
        refine bEqC (fun v => A (171, [.ref 12, v1, v2, (bUnl v3), .int v, v5, v6, v7], [], (bw (bw σ 142 l4 (bi σ 142 l4)) 139 (1 + (bi σ 142 l4)) ((bi σ 139 (1 + (bi σ 142 l4))) + 1)))) ((congrArg (fun w => bn l4 + w) bl_1).trans (bn_add l4 1)) ?_
        refine bGo hA 10 11 (337, .goto (-80), 3, 172, 127, [], []) rfl rfl rfl ?_
        exact (((h.1 c1).2.1 c2).2 c3).2.2.2.2
    · refine bGo hA 8 11 (282, .aload_n 0, 1, 140, 0, [0], []) rfl rfl rfl ?_
      refine bGo hA 8 12 (283, .getfield 269, 3, 141, 0, [12, 98, 3, 142, 1, 0], []) rfl rfl rfl ?_
      refine ⟨rfl, ?_⟩
      refine bGo hA 8 13 (286, .iload 4, 2, 142, 0, [4], []) rfl rfl rfl ?_
      refine bGo hA 8 14 (288, .iaload, 1, 143, 0, [], []) rfl rfl rfl ?_
      refine ⟨rfl, (bIxP (x := l4) (n := 120) h_l4 (h.1 c1).1), ?_⟩
      refine bEqL (x := l4) h_l4 ?_
      refine bGo hA 8 15 (289, .iconst (-1), 1, 144, 0, [], [(-1, 0)]) rfl rfl rfl ?_
      refine bEqI bl_m1 ?_
      refine bGo hA 9 0 (290, .if_icmp .ne (8), 3, 145, 147, [], []) rfl rfl rfl ?_
      refine bB_eq (x := (bi σ 142 l4)) (y := (-1)) (bi_rg _ _ _) (by decide : bRg (-1)) (fun c4 => ?_) (fun c4 => ?_)
      · refine bGo hA 9 1 (293, .bipush (6), 2, 146, 0, [], [(6, 0)]) rfl rfl rfl ?_
        refine bEqI bl_6 ?_
        refine bGo hA 9 2 (295, .goto (10), 3, 147, 151, [], []) rfl rfl rfl ?_
        refine bGo hA 9 7 (305, .iastore, 1, 152, 0, [], []) rfl rfl rfl ?_
        refine ⟨rfl, (bIxP (x := l4) (n := 120) h_l4 (h.1 c1).1), by decide, ?_⟩
        refine bEqS (x := l4) h_l4 ?_
        refine bGo hA 9 8 (306, .aload_n 0, 1, 153, 0, [0], []) rfl rfl rfl ?_
        refine bGo hA 9 9 (307, .getfield 263, 3, 154, 0, [12, 96, 3, 140, 1, 0], []) rfl rfl rfl ?_
        refine ⟨rfl, ?_⟩
        refine bGo hA 9 10 (310, .iload 4, 2, 155, 0, [4], []) rfl rfl rfl ?_
        refine bGo hA 9 11 (312, .baload, 1, 156, 0, [], []) rfl rfl rfl ?_
        refine ⟨rfl, (bIxP (x := l4) (n := 120) h_l4 (h.1 c1).1), ?_⟩
        refine bEqL (x := l4) h_l4 ?_
        refine bEqI (congrArg bn (show bi (bw σ 142 l4 6) 140 l4 = (bi σ 140 l4) from (bi_ne (by decide)))) ?_
        refine bGo hA 9 12 (313, .ifCond .eq (21), 3, 157, 170, [], []) rfl rfl rfl ?_
        refine bB_eq0 (x := (bi σ 140 l4)) (bi_rg _ _ _) (fun c5 => ?_) (fun c5 => ?_)
        · refine bGo hA 10 10 (334, .iinc 4 (1), 3, 171, 0, [4], [(1, 0)]) rfl rfl rfl ?_
          refine bEqC (fun v => A (171, [.ref 12, v1, v2, (bUnl v3), .int v, v5, v6, v7], [], (bw σ 142 l4 6))) ((congrArg (fun w => bn l4 + w) bl_1).trans (bn_add l4 1)) ?_
          refine bGo hA 10 11 (337, .goto (-80), 3, 172, 127, [], []) rfl rfl rfl ?_
          exact ((((h.1 c1).2.2 c2).1 c4).1 c5).2
        · refine bGo hA 9 13 (316, .aload_n 0, 1, 158, 0, [0], []) rfl rfl rfl ?_
          refine bGo hA 9 14 (317, .getfield 260, 3, 159, 0, [12, 94, 3, 139, 1, 0], []) rfl rfl rfl ?_
          refine ⟨rfl, ?_⟩
          refine bGo hA 9 15 (320, .iconst (1), 1, 160, 0, [], [(1, 0)]) rfl rfl rfl ?_
          refine bEqI bl_1 ?_
          refine bGo hA 10 0 (321, .aload_n 0, 1, 161, 0, [0], []) rfl rfl rfl ?_
          refine bGo hA 10 1 (322, .getfield 269, 3, 162, 0, [12, 98, 3, 142, 1, 0], []) rfl rfl rfl ?_
          refine ⟨rfl, ?_⟩
          refine bGo hA 10 2 (325, .iload 4, 2, 163, 0, [4], []) rfl rfl rfl ?_
          refine bGo hA 10 3 (327, .iaload, 1, 164, 0, [], []) rfl rfl rfl ?_
          refine ⟨rfl, (bIxP (x := l4) (n := 120) h_l4 (h.1 c1).1), ?_⟩
          refine bEqL (x := l4) h_l4 ?_
          refine bEqI (congrArg bn (show bi (bw σ 142 l4 6) 142 l4 = 6 from (bi_eq (by decide : bRg 6)))) ?_
          refine bGo hA 10 4 (328, .iadd, 1, 165, 0, [], []) rfl rfl rfl ?_
          refine bEqI ((bn_add 1 6).trans (by decide : bn ((1 : Int) + (6 : Int)) = bn 7)) ?_
          refine bGo hA 10 5 (329, .dup2, 1, 166, 0, [], []) rfl rfl rfl ?_
          refine bGo hA 10 6 (330, .iaload, 1, 167, 0, [], []) rfl rfl rfl ?_
          refine ⟨rfl, (bIxP (x := 7) (n := 12) (by decide) (by decide)), ?_⟩
          refine bEqL (x := 7) (by decide : bRg 7) ?_
          refine bEqI (congrArg bn (show bi (bw σ 142 l4 6) 139 7 = (bi σ 139 7) from (bi_ne (by decide)))) ?_
          refine bGo hA 10 7 (331, .iconst (1), 1, 168, 0, [], [(1, 0)]) rfl rfl rfl ?_
          refine bEqI bl_1 ?_
          refine bGo hA 10 8 (332, .iadd, 1, 169, 0, [], []) rfl rfl rfl ?_
          refine bEqI (bn_add (bi σ 139 7) 1) ?_
          refine bGo hA 10 9 (333, .iastore, 1, 170, 0, [], []) rfl rfl rfl ?_
          refine ⟨rfl, (bIxP (x := 7) (n := 12) (by decide) (by decide)), by decide, ?_⟩
          refine bEqS (x := 7) (by decide : bRg 7) ?_
          refine bGo hA 10 10 (334, .iinc 4 (1), 3, 171, 0, [4], [(1, 0)]) rfl rfl rfl ?_
          refine bEqC (fun v => A (171, [.ref 12, v1, v2, (bUnl v3), .int v, v5, v6, v7], [], (bw (bw σ 142 l4 6) 139 7 ((bi σ 139 7) + 1)))) ((congrArg (fun w => bn l4 + w) bl_1).trans (bn_add l4 1)) ?_
          refine bGo hA 10 11 (337, .goto (-80), 3, 172, 127, [], []) rfl rfl rfl ?_
          exact ((((h.1 c1).2.2 c2).1 c4).2 c5).2.2
      · refine bGo hA 9 3 (298, .aload_n 0, 1, 148, 0, [0], []) rfl rfl rfl ?_
        refine bGo hA 9 4 (299, .getfield 269, 3, 149, 0, [12, 98, 3, 142, 1, 0], []) rfl rfl rfl ?_
        refine ⟨rfl, ?_⟩
        refine bGo hA 9 5 (302, .iload 4, 2, 150, 0, [4], []) rfl rfl rfl ?_
        refine bGo hA 9 6 (304, .iaload, 1, 151, 0, [], []) rfl rfl rfl ?_
        refine ⟨rfl, (bIxP (x := l4) (n := 120) h_l4 (h.1 c1).1), ?_⟩
        refine bEqL (x := l4) h_l4 ?_
        refine bGo hA 9 7 (305, .iastore, 1, 152, 0, [], []) rfl rfl rfl ?_
        refine ⟨rfl, (bIxP (x := l4) (n := 120) h_l4 (h.1 c1).1), by decide, ?_⟩
        refine bEqS (x := l4) h_l4 ?_
        refine bGo hA 9 8 (306, .aload_n 0, 1, 153, 0, [0], []) rfl rfl rfl ?_
        refine bGo hA 9 9 (307, .getfield 263, 3, 154, 0, [12, 96, 3, 140, 1, 0], []) rfl rfl rfl ?_
        refine ⟨rfl, ?_⟩
        refine bGo hA 9 10 (310, .iload 4, 2, 155, 0, [4], []) rfl rfl rfl ?_
        refine bGo hA 9 11 (312, .baload, 1, 156, 0, [], []) rfl rfl rfl ?_
        refine ⟨rfl, (bIxP (x := l4) (n := 120) h_l4 (h.1 c1).1), ?_⟩
        refine bEqL (x := l4) h_l4 ?_
        refine bEqI (congrArg bn (show bi (bw σ 142 l4 (bi σ 142 l4)) 140 l4 = (bi σ 140 l4) from (bi_ne (by decide)))) ?_
        refine bGo hA 9 12 (313, .ifCond .eq (21), 3, 157, 170, [], []) rfl rfl rfl ?_
        refine bB_eq0 (x := (bi σ 140 l4)) (bi_rg _ _ _) (fun c6 => ?_) (fun c6 => ?_)
        · refine bGo hA 10 10 (334, .iinc 4 (1), 3, 171, 0, [4], [(1, 0)]) rfl rfl rfl ?_
          refine bEqC (fun v => A (171, [.ref 12, v1, v2, (bUnl v3), .int v, v5, v6, v7], [], (bw σ 142 l4 (bi σ 142 l4)))) ((congrArg (fun w => bn l4 + w) bl_1).trans (bn_add l4 1)) ?_
          refine bGo hA 10 11 (337, .goto (-80), 3, 172, 127, [], []) rfl rfl rfl ?_
          exact ((((h.1 c1).2.2 c2).2 c4).1 c6).2
        · refine bGo hA 9 13 (316, .aload_n 0, 1, 158, 0, [0], []) rfl rfl rfl ?_
          refine bGo hA 9 14 (317, .getfield 260, 3, 159, 0, [12, 94, 3, 139, 1, 0], []) rfl rfl rfl ?_
          refine ⟨rfl, ?_⟩
          refine bGo hA 9 15 (320, .iconst (1), 1, 160, 0, [], [(1, 0)]) rfl rfl rfl ?_
          refine bEqI bl_1 ?_
          refine bGo hA 10 0 (321, .aload_n 0, 1, 161, 0, [0], []) rfl rfl rfl ?_
          refine bGo hA 10 1 (322, .getfield 269, 3, 162, 0, [12, 98, 3, 142, 1, 0], []) rfl rfl rfl ?_
          refine ⟨rfl, ?_⟩
          refine bGo hA 10 2 (325, .iload 4, 2, 163, 0, [4], []) rfl rfl rfl ?_
          refine bGo hA 10 3 (327, .iaload, 1, 164, 0, [], []) rfl rfl rfl ?_
          refine ⟨rfl, (bIxP (x := l4) (n := 120) h_l4 (h.1 c1).1), ?_⟩
          refine bEqL (x := l4) h_l4 ?_
          refine bEqI (congrArg bn (show bi (bw σ 142 l4 (bi σ 142 l4)) 142 l4 = (bi σ 142 l4) from (bi_eq (bi_rg _ _ _)))) ?_
          refine bGo hA 10 4 (328, .iadd, 1, 165, 0, [], []) rfl rfl rfl ?_
          refine bEqI (bn_add 1 (bi σ 142 l4)) ?_
          refine bGo hA 10 5 (329, .dup2, 1, 166, 0, [], []) rfl rfl rfl ?_
          refine bGo hA 10 6 (330, .iaload, 1, 167, 0, [], []) rfl rfl rfl ?_
          refine ⟨rfl, (bIxP (x := (1 + (bi σ 142 l4))) (n := 12) ((((h.1 c1).2.2 c2).2 c4).2 c6).1 ((((h.1 c1).2.2 c2).2 c4).2 c6).2.1), ?_⟩
          refine bEqL (x := (1 + (bi σ 142 l4))) ((((h.1 c1).2.2 c2).2 c4).2 c6).1 ?_
          refine bEqI (congrArg bn (show bi (bw σ 142 l4 (bi σ 142 l4)) 139 (1 + (bi σ 142 l4)) = (bi σ 139 (1 + (bi σ 142 l4))) from (bi_ne (by decide)))) ?_
          refine bGo hA 10 7 (331, .iconst (1), 1, 168, 0, [], [(1, 0)]) rfl rfl rfl ?_
          refine bEqI bl_1 ?_
          refine bGo hA 10 8 (332, .iadd, 1, 169, 0, [], []) rfl rfl rfl ?_
          refine bEqI (bn_add (bi σ 139 (1 + (bi σ 142 l4))) 1) ?_
          refine bGo hA 10 9 (333, .iastore, 1, 170, 0, [], []) rfl rfl rfl ?_
          refine ⟨rfl, (bIxP (x := (1 + (bi σ 142 l4))) (n := 12) ((((h.1 c1).2.2 c2).2 c4).2 c6).1 ((((h.1 c1).2.2 c2).2 c4).2 c6).2.1), by decide, ?_⟩
          refine bEqS (x := (1 + (bi σ 142 l4))) ((((h.1 c1).2.2 c2).2 c4).2 c6).1 ?_
          refine bGo hA 10 10 (334, .iinc 4 (1), 3, 171, 0, [4], [(1, 0)]) rfl rfl rfl ?_
          refine bEqC (fun v => A (171, [.ref 12, v1, v2, (bUnl v3), .int v, v5, v6, v7], [], (bw (bw σ 142 l4 (bi σ 142 l4)) 139 (1 + (bi σ 142 l4)) ((bi σ 139 (1 + (bi σ 142 l4))) + 1)))) ((congrArg (fun w => bn l4 + w) bl_1).trans (bn_add l4 1)) ?_
          refine bGo hA 10 11 (337, .goto (-80), 3, 172, 127, [], []) rfl rfl rfl ?_
          exact ((((h.1 c1).2.2 c2).2 c4).2 c6).2.2.2.2
  · refine bGo hA 10 12 (340, .return_, 1, 0, 0, [0], []) rfl rfl rfl ?_
    exact (h.2 c1)

theorem sq288_6 {lvl : Nat} {C : bCall} {Q : bPost} {A : bPt → Prop} (hC : bMono C) (hA : bClosed lvl bm288 C Q A) {l1 : Int} {l2 : Int} {v3 : Value} {l4 : Int} {v5 : Value} {v6 : Value} {v7 : Value} {σ : bSt}  (h_l1 : bRg l1) (h_l2 : bRg l2) (h_l4 : bRg l4)
  (h : ((l4 < (bi σ 12 49) → (C 282 [.ref 12, .int (bn l4)] σ (bRn (fun r4 s2 => ((r4 = 0 → (bRg (l4 + 1) ∧ A (6, [.ref 12, .int (bn l1), .int (bn l2), (bUnl v3), .int (bn (l4 + 1)), v5, v6, v7], [], s2))) ∧ (¬ r4 = 0 → ((0 ≤ l4 ∧ l4 < 120) ∧ (((bi s2 145 l4) = (bi s2 12 105) → (C 298 [.ref 12, .int (bn l4), .int (bn l1)] s2 (bRv (fun s8 => (bRg (l4 + 1) ∧ A (6, [.ref 12, .int (bn l1), .int (bn l2), (bUnl v3), .int (bn (l4 + 1)), v5, v6, v7], [], s8)))))) ∧ (¬ (bi s2 145 l4) = (bi s2 12 105) → (((bi s2 146 l4) = (bi s2 12 105) → (C 298 [.ref 12, .int (bn l4), .int (bn l1)] s2 (bRv (fun s11 => (bRg (l4 + 1) ∧ A (6, [.ref 12, .int (bn l1), .int (bn l2), (bUnl v3), .int (bn (l4 + 1)), v5, v6, v7], [], s11)))))) ∧ (¬ (bi s2 146 l4) = (bi s2 12 105) → (bRg (l4 + 1) ∧ A (6, [.ref 12, .int (bn l1), .int (bn l2), (bUnl v3), .int (bn (l4 + 1)), v5, v6, v7], [], s2))))))))))))) ∧ (¬ l4 < (bi σ 12 49) → (((0 : Int) < l2 → (((bi σ 12 105) = l2 → (C 290 [.ref 12] σ (bRv (fun s16 => A (58, [.ref 12, .int (bn l1), .int (bn l2), (bUnl v3), .int (bn 1), .int (bn (-1)), v6, v7], [], s16))))) ∧ (¬ (bi σ 12 105) = l2 → (((bi σ 12 106) = 0 → (C 292 [.ref 12] σ (bRn (fun r24 s22 => A (58, [.ref 12, .int (bn l1), .int (bn l2), (bUnl v3), .int (bn 0), .int (bn r24), v6, v7], [], s22))))) ∧ (¬ (bi σ 12 106) = 0 → A (58, [.ref 12, .int (bn l1), .int (bn l2), (bUnl v3), .int (bn 0), .int (bn (-1)), v6, v7], [], σ)))))) ∧ (¬ (0 : Int) < l2 → (((bi σ 12 106) = 0 → (C 292 [.ref 12] σ (bRn (fun r31 s29 => A (58, [.ref 12, .int (bn l1), .int (bn l2), (bUnl v3), .int (bn 0), .int (bn r31), v6, v7], [], s29))))) ∧ (¬ (bi σ 12 106) = 0 → A (58, [.ref 12, .int (bn l1), .int (bn l2), (bUnl v3), .int (bn 0), .int (bn (-1)), v6, v7], [], σ)))))))) : A (6, [.ref 12, .int (bn l1), .int (bn l2), v3, .int (bn l4), v5, v6, v7], [], σ) := by
  refine bGo hA 0 6 (9, .iload 4, 2, 7, 0, [4], []) rfl rfl rfl ?_
  refine bGo hA 0 7 (11, .aload_n 0, 1, 8, 0, [0], []) rfl rfl rfl ?_
  refine bGo hA 0 8 (12, .getfield 410, 3, 9, 0, [12, 49, 0, 0, 0, 0], []) rfl rfl rfl ?_
  refine ⟨rfl, ?_⟩
  refine bEqI (bn_bi σ 12 49) ?_
  refine bGo hA 0 9 (15, .if_icmp .ge (53), 3, 10, 34, [], []) rfl rfl rfl ?_
  refine bB_lt (x := l4) (y := (bi σ 12 49)) h_l4 (bi_rg _ _ _) (fun c1 => ?_) (fun c1 => ?_)
  · refine bGo hA 0 10 (18, .aload_n 0, 1, 11, 0, [0], []) rfl rfl rfl ?_
    refine bGo hA 0 11 (19, .iload 4, 2, 12, 0, [4], []) rfl rfl rfl ?_
    refine bGo hA 0 12 (21, .invokevirtual 512, 3, 13, 0, [0, 12, 282, 1], []) rfl rfl rfl ?_
    refine ⟨rfl, ?_⟩
    refine hC _ _ _ _ _ (bRn_e (fun r4 s2 q5 k3 => ?_)) (h.1 c1)
    show A (13, [.ref 12, .int (bn l1), .int (bn l2), v3, .int (bn l4), v5, v6, v7], [.int (bn r4)], s2)
    refine bGo hA 0 13 (24, .ifCond .eq (38), 3, 14, 32, [], []) rfl rfl rfl ?_
    refine bB_eq0 (x := r4) q5 (fun c6 => ?_) (fun c6 => ?_)
    · refine bGo hA 2 0 (62, .iinc 4 (1), 3, 33, 0, [4], [(1, 0)]) rfl rfl rfl ?_
      refine bEqC (fun v => A (33, [.ref 12, .int (bn l1), .int (bn l2), (bUnl v3), .int v, v5, v6, v7], [], s2)) ((congrArg (fun w => bn l4 + w) bl_1).trans (bn_add l4 1)) ?_
      refine bGo hA 2 1 (65, .goto (-56), 3, 34, 6, [], []) rfl rfl rfl ?_
      exact (k3.1 c6).2
    · refine bGo hA 0 14 (27, .aload_n 0, 1, 15, 0, [0], []) rfl rfl rfl ?_
      refine bGo hA 0 15 (28, .getfield 278, 3, 16, 0, [12, 101, 3, 145, 1, 0], []) rfl rfl rfl ?_
      refine ⟨rfl, ?_⟩
      refine bGo hA 1 0 (31, .iload 4, 2, 17, 0, [4], []) rfl rfl rfl ?_
      refine bGo hA 1 1 (33, .iaload, 1, 18, 0, [], []) rfl rfl rfl ?_
      refine ⟨rfl, (bIxP (x := l4) (n := 120) h_l4 (k3.2 c6).1), ?_⟩
      refine bEqL (x := l4) h_l4 ?_
      refine bGo hA 1 2 (34, .aload_n 0, 1, 19, 0, [0], []) rfl rfl rfl ?_
      refine bGo hA 1 3 (35, .getfield 480, 3, 20, 0, [12, 105, 0, 0, 0, 0], []) rfl rfl rfl ?_
      refine ⟨rfl, ?_⟩
      refine bEqI (bn_bi s2 12 105) ?_
      refine bGo hA 1 4 (38, .if_icmp .eq (17), 3, 21, 28, [], []) rfl rfl rfl ?_
      refine bB_eq (x := (bi s2 145 l4)) (y := (bi s2 12 105)) (bi_rg _ _ _) (bi_rg _ _ _) (fun c7 => ?_) (fun c7 => ?_)
      · refine bGo hA 1 12 (55, .aload_n 0, 1, 29, 0, [0], []) rfl rfl rfl ?_
        refine bGo hA 1 13 (56, .iload 4, 2, 30, 0, [4], []) rfl rfl rfl ?_
        refine bGo hA 1 14 (58, .iload_n 1, 1, 31, 0, [1], []) rfl rfl rfl ?_
        refine bGo hA 1 15 (59, .invokevirtual 515, 3, 32, 0, [0, 12, 298, 2], []) rfl rfl rfl ?_
        refine ⟨rfl, ?_⟩
        refine hC _ _ _ _ _ (bRv_e (fun s8 k9 => ?_)) ((k3.2 c6).2.1 c7)
        show A (32, [.ref 12, .int (bn l1), .int (bn l2), v3, .int (bn l4), v5, v6, v7], [], s8)
        refine bGo hA 2 0 (62, .iinc 4 (1), 3, 33, 0, [4], [(1, 0)]) rfl rfl rfl ?_
        refine bEqC (fun v => A (33, [.ref 12, .int (bn l1), .int (bn l2), (bUnl v3), .int v, v5, v6, v7], [], s8)) ((congrArg (fun w => bn l4 + w) bl_1).trans (bn_add l4 1)) ?_
        refine bGo hA 2 1 (65, .goto (-56), 3, 34, 6, [], []) rfl rfl rfl ?_
        exact k9.2
      · refine bGo hA 1 5 (41, .aload_n 0, 1, 22, 0, [0], []) rfl rfl rfl ?_
        refine bGo hA 1 6 (42, .getfield 281, 3, 23, 0, [12, 102, 3, 146, 1, 0], []) rfl rfl rfl ?_
        refine ⟨rfl, ?_⟩
        refine bGo hA 1 7 (45, .iload 4, 2, 24, 0, [4], []) rfl rfl rfl ?_
        refine bGo hA 1 8 (47, .iaload, 1, 25, 0, [], []) rfl rfl rfl ?_
        refine ⟨rfl, (bIxP (x := l4) (n := 120) h_l4 (k3.2 c6).1), ?_⟩
        refine bEqL (x := l4) h_l4 ?_
        refine bGo hA 1 9 (48, .aload_n 0, 1, 26, 0, [0], []) rfl rfl rfl ?_
        refine bGo hA 1 10 (49, .getfield 480, 3, 27, 0, [12, 105, 0, 0, 0, 0], []) rfl rfl rfl ?_
        refine ⟨rfl, ?_⟩
        refine bEqI (bn_bi s2 12 105) ?_
        refine bGo hA 1 11 (52, .if_icmp .ne (10), 3, 28, 32, [], []) rfl rfl rfl ?_
        refine bB_eq (x := (bi s2 146 l4)) (y := (bi s2 12 105)) (bi_rg _ _ _) (bi_rg _ _ _) (fun c10 => ?_) (fun c10 => ?_)
        · refine bGo hA 1 12 (55, .aload_n 0, 1, 29, 0, [0], []) rfl rfl rfl ?_
          refine bGo hA 1 13 (56, .iload 4, 2, 30, 0, [4], []) rfl rfl rfl ?_
          refine bGo hA 1 14 (58, .iload_n 1, 1, 31, 0, [1], []) rfl rfl rfl ?_
          refine bGo hA 1 15 (59, .invokevirtual 515, 3, 32, 0, [0, 12, 298, 2], []) rfl rfl rfl ?_
          refine ⟨rfl, ?_⟩
          refine hC _ _ _ _ _ (bRv_e (fun s11 k12 => ?_)) (((k3.2 c6).2.2 c7).1 c10)
          show A (32, [.ref 12, .int (bn l1), .int (bn l2), v3, .int (bn l4), v5, v6, v7], [], s11)
          refine bGo hA 2 0 (62, .iinc 4 (1), 3, 33, 0, [4], [(1, 0)]) rfl rfl rfl ?_
          refine bEqC (fun v => A (33, [.ref 12, .int (bn l1), .int (bn l2), (bUnl v3), .int v, v5, v6, v7], [], s11)) ((congrArg (fun w => bn l4 + w) bl_1).trans (bn_add l4 1)) ?_
          refine bGo hA 2 1 (65, .goto (-56), 3, 34, 6, [], []) rfl rfl rfl ?_
          exact k12.2
        · refine bGo hA 2 0 (62, .iinc 4 (1), 3, 33, 0, [4], [(1, 0)]) rfl rfl rfl ?_
          refine bEqC (fun v => A (33, [.ref 12, .int (bn l1), .int (bn l2), (bUnl v3), .int v, v5, v6, v7], [], s2)) ((congrArg (fun w => bn l4 + w) bl_1).trans (bn_add l4 1)) ?_
          refine bGo hA 2 1 (65, .goto (-56), 3, 34, 6, [], []) rfl rfl rfl ?_
          exact (((k3.2 c6).2.2 c7).2 c10).2
  · refine bGo hA 2 2 (68, .iload_n 2, 1, 35, 0, [2], []) rfl rfl rfl ?_
    refine bGo hA 2 3 (69, .ifCond .le (15), 3, 36, 42, [], []) rfl rfl rfl ?_
    refine bB_gt0 (x := l2) h_l2 (fun c13 => ?_) (fun c13 => ?_)
    · refine bGo hA 2 4 (72, .aload_n 0, 1, 37, 0, [0], []) rfl rfl rfl ?_
      refine bGo hA 2 5 (73, .getfield 480, 3, 38, 0, [12, 105, 0, 0, 0, 0], []) rfl rfl rfl ?_
      refine ⟨rfl, ?_⟩
      refine bEqI (bn_bi σ 12 105) ?_
      refine bGo hA 2 6 (76, .iload_n 2, 1, 39, 0, [2], []) rfl rfl rfl ?_
      refine bGo hA 2 7 (77, .if_icmp .ne (7), 3, 40, 42, [], []) rfl rfl rfl ?_
      refine bB_eq (x := (bi σ 12 105)) (y := l2) (bi_rg _ _ _) h_l2 (fun c14 => ?_) (fun c14 => ?_)
      · refine bGo hA 2 8 (80, .iconst (1), 1, 41, 0, [], [(1, 0)]) rfl rfl rfl ?_
        refine bEqI bl_1 ?_
        refine bGo hA 2 9 (81, .goto (4), 3, 42, 43, [], []) rfl rfl rfl ?_
        refine bGo hA 2 11 (85, .istore 4, 2, 44, 0, [4], []) rfl rfl rfl ?_
        refine bGo hA 2 12 (87, .iload 4, 2, 45, 0, [4], []) rfl rfl rfl ?_
        refine bGo hA 2 13 (89, .ifCond .eq (7), 3, 46, 48, [], []) rfl rfl rfl ?_
        refine ⟨fun c => absurd c (by decide), fun _ => ?_⟩
        refine bGo hA 2 14 (92, .aload_n 0, 1, 47, 0, [0], []) rfl rfl rfl ?_
        refine bGo hA 2 15 (93, .invokevirtual 519, 3, 48, 0, [0, 12, 290, 0], []) rfl rfl rfl ?_
        refine ⟨rfl, ?_⟩
        refine hC _ _ _ _ _ (bRv_e (fun s16 k17 => ?_)) (((h.2 c1).1 c13).1 c14)
        show A (48, [.ref 12, .int (bn l1), .int (bn l2), (bUnl v3), .int (bn 1), v5, v6, v7], [], s16)
        refine bGo hA 3 0 (96, .iload 4, 2, 49, 0, [4], []) rfl rfl rfl ?_
        refine bGo hA 3 1 (98, .ifCond .ne (10), 3, 50, 53, [], []) rfl rfl rfl ?_
        refine ⟨fun c => absurd c (by decide), fun _ => ?_⟩
        refine bGo hA 3 5 (108, .iconst (-1), 1, 54, 0, [], [(-1, 0)]) rfl rfl rfl ?_
        refine bEqI bl_m1 ?_
        refine bGo hA 3 6 (109, .goto (7), 3, 55, 57, [], []) rfl rfl rfl ?_
        refine bGo hA 3 9 (116, .istore 5, 2, 58, 0, [5], []) rfl rfl rfl ?_
        exact k17
      · refine bGo hA 2 10 (84, .iconst (0), 1, 43, 0, [], [(0, 0)]) rfl rfl rfl ?_
        refine bEqI bl_0 ?_
        refine bGo hA 2 11 (85, .istore 4, 2, 44, 0, [4], []) rfl rfl rfl ?_
        refine bGo hA 2 12 (87, .iload 4, 2, 45, 0, [4], []) rfl rfl rfl ?_
        refine bGo hA 2 13 (89, .ifCond .eq (7), 3, 46, 48, [], []) rfl rfl rfl ?_
        refine ⟨fun _ => ?_, fun c => absurd (by decide) c⟩
        refine bGo hA 3 0 (96, .iload 4, 2, 49, 0, [4], []) rfl rfl rfl ?_
        refine bGo hA 3 1 (98, .ifCond .ne (10), 3, 50, 53, [], []) rfl rfl rfl ?_
        refine ⟨fun _ => ?_, fun c => absurd (by decide) c⟩
        refine bGo hA 3 2 (101, .aload_n 0, 1, 51, 0, [0], []) rfl rfl rfl ?_
        refine bGo hA 3 3 (102, .getfield 483, 3, 52, 0, [12, 106, 1, 0, 0, 0], []) rfl rfl rfl ?_
        refine ⟨rfl, ?_⟩
        refine bEqI (bn_bi σ 12 106) ?_
        refine bGo hA 3 4 (105, .ifCond .eq (7), 3, 53, 55, [], []) rfl rfl rfl ?_
        refine bB_eq0 (x := (bi σ 12 106)) (bi_rg _ _ _) (fun c21 => ?_) (fun c21 => ?_)
        · refine bGo hA 3 7 (112, .aload_n 0, 1, 56, 0, [0], []) rfl rfl rfl ?_
          refine bGo hA 3 8 (113, .invokevirtual 522, 3, 57, 0, [0, 12, 292, 0], []) rfl rfl rfl ?_
          refine ⟨rfl, ?_⟩
          refine hC _ _ _ _ _ (bRn_e (fun r24 s22 q25 k23 => ?_)) ((((h.2 c1).1 c13).2 c14).1 c21)
          show A (57, [.ref 12, .int (bn l1), .int (bn l2), (bUnl v3), .int (bn 0), v5, v6, v7], [.int (bn r24)], s22)
          refine bGo hA 3 9 (116, .istore 5, 2, 58, 0, [5], []) rfl rfl rfl ?_
          exact k23
        · refine bGo hA 3 5 (108, .iconst (-1), 1, 54, 0, [], [(-1, 0)]) rfl rfl rfl ?_
          refine bEqI bl_m1 ?_
          refine bGo hA 3 6 (109, .goto (7), 3, 55, 57, [], []) rfl rfl rfl ?_
          refine bGo hA 3 9 (116, .istore 5, 2, 58, 0, [5], []) rfl rfl rfl ?_
          exact ((((h.2 c1).1 c13).2 c14).2 c21)
    · refine bGo hA 2 10 (84, .iconst (0), 1, 43, 0, [], [(0, 0)]) rfl rfl rfl ?_
      refine bEqI bl_0 ?_
      refine bGo hA 2 11 (85, .istore 4, 2, 44, 0, [4], []) rfl rfl rfl ?_
      refine bGo hA 2 12 (87, .iload 4, 2, 45, 0, [4], []) rfl rfl rfl ?_
      refine bGo hA 2 13 (89, .ifCond .eq (7), 3, 46, 48, [], []) rfl rfl rfl ?_
      refine ⟨fun _ => ?_, fun c => absurd (by decide) c⟩
      refine bGo hA 3 0 (96, .iload 4, 2, 49, 0, [4], []) rfl rfl rfl ?_
      refine bGo hA 3 1 (98, .ifCond .ne (10), 3, 50, 53, [], []) rfl rfl rfl ?_
      refine ⟨fun _ => ?_, fun c => absurd (by decide) c⟩
      refine bGo hA 3 2 (101, .aload_n 0, 1, 51, 0, [0], []) rfl rfl rfl ?_
      refine bGo hA 3 3 (102, .getfield 483, 3, 52, 0, [12, 106, 1, 0, 0, 0], []) rfl rfl rfl ?_
      refine ⟨rfl, ?_⟩
      refine bEqI (bn_bi σ 12 106) ?_
      refine bGo hA 3 4 (105, .ifCond .eq (7), 3, 53, 55, [], []) rfl rfl rfl ?_
      refine bB_eq0 (x := (bi σ 12 106)) (bi_rg _ _ _) (fun c28 => ?_) (fun c28 => ?_)
      · refine bGo hA 3 7 (112, .aload_n 0, 1, 56, 0, [0], []) rfl rfl rfl ?_
        refine bGo hA 3 8 (113, .invokevirtual 522, 3, 57, 0, [0, 12, 292, 0], []) rfl rfl rfl ?_
        refine ⟨rfl, ?_⟩
        refine hC _ _ _ _ _ (bRn_e (fun r31 s29 q32 k30 => ?_)) (((h.2 c1).2 c13).1 c28)
        show A (57, [.ref 12, .int (bn l1), .int (bn l2), (bUnl v3), .int (bn 0), v5, v6, v7], [.int (bn r31)], s29)
        refine bGo hA 3 9 (116, .istore 5, 2, 58, 0, [5], []) rfl rfl rfl ?_
        exact k30
      · refine bGo hA 3 5 (108, .iconst (-1), 1, 54, 0, [], [(-1, 0)]) rfl rfl rfl ?_
        refine bEqI bl_m1 ?_
        refine bGo hA 3 6 (109, .goto (7), 3, 55, 57, [], []) rfl rfl rfl ?_
        refine bGo hA 3 9 (116, .istore 5, 2, 58, 0, [5], []) rfl rfl rfl ?_
        exact (((h.2 c1).2 c13).2 c28)

theorem sq288_58 {lvl : Nat} {C : bCall} {Q : bPost} {A : bPt → Prop} (hC : bMono C) (hA : bClosed lvl bm288 C Q A) {l1 : Int} {l2 : Int} {v3 : Value} {v4 : Value} {l5 : Int} {v6 : Value} {v7 : Value} {σ : bSt}  (h_l1 : bRg l1) (h_l2 : bRg l2) (h_l5 : bRg l5)
  (h : ((l5 = (-1) → A (72, [.ref 12, .int (bn l1), .int (bn l2), v3, v4, .int (bn l5), .int (bn (-1)), .int (bn 0)], [], σ)) ∧ (¬ l5 = (-1) → (C 294 [.ref 12, .int (bn l5)] σ (bRv (fun s2 => (C 292 [.ref 12] s2 (bRn (fun r6 s4 => A (58, [.ref 12, .int (bn l1), .int (bn l2), v3, (bUnl v4), .int (bn r6), v6, v7], [], s4)))))))))) : A (58, [.ref 12, .int (bn l1), .int (bn l2), v3, v4, .int (bn l5), v6, v7], [], σ) := by
  refine bGo hA 3 10 (118, .iload 5, 2, 59, 0, [5], []) rfl rfl rfl ?_
  refine bGo hA 3 11 (120, .iconst (-1), 1, 60, 0, [], [(-1, 0)]) rfl rfl rfl ?_
  refine bEqI bl_m1 ?_
  refine bGo hA 3 12 (121, .if_icmp .eq (18), 3, 61, 68, [], []) rfl rfl rfl ?_
  refine bB_eq (x := l5) (y := (-1)) h_l5 (by decide : bRg (-1)) (fun c1 => ?_) (fun c1 => ?_)
  · refine bGo hA 4 4 (139, .iconst (-1), 1, 69, 0, [], [(-1, 0)]) rfl rfl rfl ?_
    refine bEqI bl_m1 ?_
    refine bGo hA 4 5 (140, .istore 6, 2, 70, 0, [6], []) rfl rfl rfl ?_
    refine bGo hA 4 6 (142, .iconst (0), 1, 71, 0, [], [(0, 0)]) rfl rfl rfl ?_
    refine bEqI bl_0 ?_
    refine bGo hA 4 7 (143, .istore 7, 2, 72, 0, [7], []) rfl rfl rfl ?_
    exact (h.1 c1)
  · refine bGo hA 3 13 (124, .aload_n 0, 1, 62, 0, [0], []) rfl rfl rfl ?_
    refine bGo hA 3 14 (125, .iload 5, 2, 63, 0, [5], []) rfl rfl rfl ?_
    refine bGo hA 3 15 (127, .invokevirtual 525, 3, 64, 0, [0, 12, 294, 1], []) rfl rfl rfl ?_
    refine ⟨rfl, ?_⟩
    refine hC _ _ _ _ _ (bRv_e (fun s2 k3 => ?_)) (h.2 c1)
    show A (64, [.ref 12, .int (bn l1), .int (bn l2), v3, v4, .int (bn l5), v6, v7], [], s2)
    refine bGo hA 4 0 (130, .aload_n 0, 1, 65, 0, [0], []) rfl rfl rfl ?_
    refine bGo hA 4 1 (131, .invokevirtual 522, 3, 66, 0, [0, 12, 292, 0], []) rfl rfl rfl ?_
    refine ⟨rfl, ?_⟩
    refine hC _ _ _ _ _ (bRn_e (fun r6 s4 q7 k5 => ?_)) k3
    show A (66, [.ref 12, .int (bn l1), .int (bn l2), v3, v4, .int (bn l5), v6, v7], [.int (bn r6)], s4)
    refine bGo hA 4 2 (134, .istore 5, 2, 67, 0, [5], []) rfl rfl rfl ?_
    refine bGo hA 4 3 (136, .goto (-18), 3, 68, 58, [], []) rfl rfl rfl ?_
    exact k5

theorem sq288_72 {lvl : Nat} {C : bCall} {Q : bPost} {A : bPt → Prop} (hC : bMono C) (hA : bClosed lvl bm288 C Q A) {l1 : Int} {l2 : Int} {v3 : Value} {v4 : Value} {v5 : Value} {l6 : Int} {l7 : Int} {σ : bSt}  (h_l1 : bRg l1) (h_l2 : bRg l2) (h_l6 : bRg l6) (h_l7 : bRg l7)
  (h : ((l7 < (bi σ 12 49) → (C 282 [.ref 12, .int (bn l7)] σ (bRn (fun r4 s2 => ((r4 = 0 → (bRg (l7 + 1) ∧ A (72, [.ref 12, .int (bn l1), .int (bn l2), v3, v4, (bUnl v5), .int (bn l6), .int (bn (l7 + 1))], [], s2))) ∧ (¬ r4 = 0 → ((0 ≤ l7 ∧ l7 < 120) ∧ (C 289 [.int (bn (bi s2 145 l7)), .int (bn (bi s2 146 l7))] s2 (bRn (fun r9 s7 => (C 289 [.int (bn l6), .int (bn r9)] s7 (bRn (fun r13 s11 => (bRg (l7 + 1) ∧ A (72, [.ref 12, .int (bn l1), .int (bn l2), v3, v4, (bUnl v5), .int (bn r13), .int (bn (l7 + 1))], [], s11))))))))))))))) ∧ (¬ l7 < (bi σ 12 49) → ((l6 = (-1) → A (2, [.ref 12, .int (bn l1), .int (bn l2), .int (bn 0), v4, v5, .int (bn l6), .int (bn l7)], [], (bw σ 12 105 (bi σ 12 105)))) ∧ (¬ l6 = (-1) → (((0 : Int) < l2 → ((l2 < l6 → A (2, [.ref 12, .int (bn l1), .int (bn l2), .int (bn 1), v4, v5, .int (bn l6), .int (bn l7)], [], (bw σ 12 105 l2))) ∧ (¬ l2 < l6 → A (2, [.ref 12, .int (bn l1), .int (bn l2), .int (bn 1), v4, v5, .int (bn l6), .int (bn l7)], [], (bw σ 12 105 l6))))) ∧ (¬ (0 : Int) < l2 → A (2, [.ref 12, .int (bn l1), .int (bn l2), .int (bn 1), v4, v5, .int (bn l6), .int (bn l7)], [], (bw σ 12 105 l6))))))))) : A (72, [.ref 12, .int (bn l1), .int (bn l2), v3, v4, v5, .int (bn l6), .int (bn l7)], [], σ) := by
  refine bGo hA 4 8 (145, .iload 7, 2, 73, 0, [7], []) rfl rfl rfl ?_
  refine bGo hA 4 9 (147, .aload_n 0, 1, 74, 0, [0], []) rfl rfl rfl ?_
  refine bGo hA 4 10 (148, .getfield 410, 3, 75, 0, [12, 49, 0, 0, 0, 0], []) rfl rfl rfl ?_
  refine ⟨rfl, ?_⟩
  refine bEqI (bn_bi σ 12 49) ?_
  refine bGo hA 4 11 (151, .if_icmp .ge (47), 3, 76, 96, [], []) rfl rfl rfl ?_
  refine bB_lt (x := l7) (y := (bi σ 12 49)) h_l7 (bi_rg _ _ _) (fun c1 => ?_) (fun c1 => ?_)
  · refine bGo hA 4 12 (154, .aload_n 0, 1, 77, 0, [0], []) rfl rfl rfl ?_
    refine bGo hA 4 13 (155, .iload 7, 2, 78, 0, [7], []) rfl rfl rfl ?_
    refine bGo hA 4 14 (157, .invokevirtual 512, 3, 79, 0, [0, 12, 282, 1], []) rfl rfl rfl ?_
    refine ⟨rfl, ?_⟩
    refine hC _ _ _ _ _ (bRn_e (fun r4 s2 q5 k3 => ?_)) (h.1 c1)
    show A (79, [.ref 12, .int (bn l1), .int (bn l2), v3, v4, v5, .int (bn l6), .int (bn l7)], [.int (bn r4)], s2)
    refine bGo hA 4 15 (160, .ifCond .eq (28), 3, 80, 92, [], []) rfl rfl rfl ?_
    refine bB_eq0 (x := r4) q5 (fun c6 => ?_) (fun c6 => ?_)
    · refine bGo hA 5 12 (188, .iload 6, 2, 93, 0, [6], []) rfl rfl rfl ?_
      refine bGo hA 5 13 (190, .istore 6, 2, 94, 0, [6], []) rfl rfl rfl ?_
      refine bGo hA 5 14 (192, .iinc 7 (1), 3, 95, 0, [7], [(1, 0)]) rfl rfl rfl ?_
      refine bEqC (fun v => A (95, [.ref 12, .int (bn l1), .int (bn l2), v3, v4, (bUnl v5), .int (bn l6), .int v], [], s2)) ((congrArg (fun w => bn l7 + w) bl_1).trans (bn_add l7 1)) ?_
      refine bGo hA 5 15 (195, .goto (-50), 3, 96, 72, [], []) rfl rfl rfl ?_
      exact (k3.1 c6).2
    · refine bGo hA 5 0 (163, .iload 6, 2, 81, 0, [6], []) rfl rfl rfl ?_
      refine bGo hA 5 1 (165, .aload_n 0, 1, 82, 0, [0], []) rfl rfl rfl ?_
      refine bGo hA 5 2 (166, .getfield 278, 3, 83, 0, [12, 101, 3, 145, 1, 0], []) rfl rfl rfl ?_
      refine ⟨rfl, ?_⟩
      refine bGo hA 5 3 (169, .iload 7, 2, 84, 0, [7], []) rfl rfl rfl ?_
      refine bGo hA 5 4 (171, .iaload, 1, 85, 0, [], []) rfl rfl rfl ?_
      refine ⟨rfl, (bIxP (x := l7) (n := 120) h_l7 (k3.2 c6).1), ?_⟩
      refine bEqL (x := l7) h_l7 ?_
      refine bGo hA 5 5 (172, .aload_n 0, 1, 86, 0, [0], []) rfl rfl rfl ?_
      refine bGo hA 5 6 (173, .getfield 281, 3, 87, 0, [12, 102, 3, 146, 1, 0], []) rfl rfl rfl ?_
      refine ⟨rfl, ?_⟩
      refine bGo hA 5 7 (176, .iload 7, 2, 88, 0, [7], []) rfl rfl rfl ?_
      refine bGo hA 5 8 (178, .iaload, 1, 89, 0, [], []) rfl rfl rfl ?_
      refine ⟨rfl, (bIxP (x := l7) (n := 120) h_l7 (k3.2 c6).1), ?_⟩
      refine bEqL (x := l7) h_l7 ?_
      refine bGo hA 5 9 (179, .invokestatic 528, 3, 90, 0, [2, 289, 2], []) rfl rfl rfl ?_
      refine hC _ _ _ _ _ (bRn_e (fun r9 s7 q10 k8 => ?_)) (k3.2 c6).2
      show A (90, [.ref 12, .int (bn l1), .int (bn l2), v3, v4, v5, .int (bn l6), .int (bn l7)], [.int (bn r9), .int (bn l6)], s7)
      refine bGo hA 5 10 (182, .invokestatic 528, 3, 91, 0, [2, 289, 2], []) rfl rfl rfl ?_
      refine hC _ _ _ _ _ (bRn_e (fun r13 s11 q14 k12 => ?_)) k8
      show A (91, [.ref 12, .int (bn l1), .int (bn l2), v3, v4, v5, .int (bn l6), .int (bn l7)], [.int (bn r13)], s11)
      refine bGo hA 5 11 (185, .goto (5), 3, 92, 93, [], []) rfl rfl rfl ?_
      refine bGo hA 5 13 (190, .istore 6, 2, 94, 0, [6], []) rfl rfl rfl ?_
      refine bGo hA 5 14 (192, .iinc 7 (1), 3, 95, 0, [7], [(1, 0)]) rfl rfl rfl ?_
      refine bEqC (fun v => A (95, [.ref 12, .int (bn l1), .int (bn l2), v3, v4, (bUnl v5), .int (bn r13), .int v], [], s11)) ((congrArg (fun w => bn l7 + w) bl_1).trans (bn_add l7 1)) ?_
      refine bGo hA 5 15 (195, .goto (-50), 3, 96, 72, [], []) rfl rfl rfl ?_
      exact k12.2
  · refine bGo hA 6 0 (198, .iload 6, 2, 97, 0, [6], []) rfl rfl rfl ?_
    refine bGo hA 6 1 (200, .iconst (-1), 1, 98, 0, [], [(-1, 0)]) rfl rfl rfl ?_
    refine bEqI bl_m1 ?_
    refine bGo hA 6 2 (201, .if_icmp .eq (7), 3, 99, 101, [], []) rfl rfl rfl ?_
    refine bB_eq (x := l6) (y := (-1)) h_l6 (by decide : bRg (-1)) (fun c15 => ?_) (fun c15 => ?_)
    · refine bGo hA 6 5 (208, .iconst (0), 1, 102, 0, [], [(0, 0)]) rfl rfl rfl ?_
      refine bEqI bl_0 ?_
      refine bGo hA 6 6 (209, .istore_n 3, 1, 103, 0, [3], []) rfl rfl rfl ?_
      refine bGo hA 6 7 (210, .aload_n 0, 1, 104, 0, [0], []) rfl rfl rfl ?_
      refine bGo hA 6 8 (211, .iload_n 3, 1, 105, 0, [3], []) rfl rfl rfl ?_
      refine bGo hA 6 9 (212, .ifCond .ne (10), 3, 106, 109, [], []) rfl rfl rfl ?_
      refine ⟨fun _ => ?_, fun c => absurd (by decide) c⟩
      refine bGo hA 6 10 (215, .aload_n 0, 1, 107, 0, [0], []) rfl rfl rfl ?_
      refine bGo hA 6 11 (216, .getfield 480, 3, 108, 0, [12, 105, 0, 0, 0, 0], []) rfl rfl rfl ?_
      refine ⟨rfl, ?_⟩
      refine bEqI (bn_bi σ 12 105) ?_
      refine bGo hA 6 12 (219, .goto (19), 3, 109, 117, [], []) rfl rfl rfl ?_
      refine bGo hA 7 5 (238, .putfield 480, 3, 118, 0, [12, 105, 0, 0, 0, 0], []) rfl rfl rfl ?_
      refine ⟨rfl, ?_⟩
      refine bGo hA 7 6 (241, .goto (-239), 3, 119, 2, [], []) rfl rfl rfl ?_
      exact ((h.2 c1).1 c15)
    · refine bGo hA 6 3 (204, .iconst (1), 1, 100, 0, [], [(1, 0)]) rfl rfl rfl ?_
      refine bEqI bl_1 ?_
      refine bGo hA 6 4 (205, .goto (4), 3, 101, 102, [], []) rfl rfl rfl ?_
      refine bGo hA 6 6 (209, .istore_n 3, 1, 103, 0, [3], []) rfl rfl rfl ?_
      refine bGo hA 6 7 (210, .aload_n 0, 1, 104, 0, [0], []) rfl rfl rfl ?_
      refine bGo hA 6 8 (211, .iload_n 3, 1, 105, 0, [3], []) rfl rfl rfl ?_
      refine bGo hA 6 9 (212, .ifCond .ne (10), 3, 106, 109, [], []) rfl rfl rfl ?_
      refine ⟨fun c => absurd c (by decide), fun _ => ?_⟩
      refine bGo hA 6 13 (222, .iload_n 2, 1, 110, 0, [2], []) rfl rfl rfl ?_
      refine bGo hA 6 14 (223, .ifCond .le (13), 3, 111, 116, [], []) rfl rfl rfl ?_
      refine bB_gt0 (x := l2) h_l2 (fun c18 => ?_) (fun c18 => ?_)
      · refine bGo hA 6 15 (226, .iload 6, 2, 112, 0, [6], []) rfl rfl rfl ?_
        refine bGo hA 7 0 (228, .iload_n 2, 1, 113, 0, [2], []) rfl rfl rfl ?_
        refine bGo hA 7 1 (229, .if_icmp .le (7), 3, 114, 116, [], []) rfl rfl rfl ?_
        refine bB_lt (x := l2) (y := l6) h_l2 h_l6 (fun c19 => ?_) (fun c19 => ?_)
        · refine bGo hA 7 2 (232, .iload_n 2, 1, 115, 0, [2], []) rfl rfl rfl ?_
          refine bGo hA 7 3 (233, .goto (5), 3, 116, 117, [], []) rfl rfl rfl ?_
          refine bGo hA 7 5 (238, .putfield 480, 3, 118, 0, [12, 105, 0, 0, 0, 0], []) rfl rfl rfl ?_
          refine ⟨rfl, ?_⟩
          refine bGo hA 7 6 (241, .goto (-239), 3, 119, 2, [], []) rfl rfl rfl ?_
          exact ((((h.2 c1).2 c15).1 c18).1 c19)
        · refine bGo hA 7 4 (236, .iload 6, 2, 117, 0, [6], []) rfl rfl rfl ?_
          refine bGo hA 7 5 (238, .putfield 480, 3, 118, 0, [12, 105, 0, 0, 0, 0], []) rfl rfl rfl ?_
          refine ⟨rfl, ?_⟩
          refine bGo hA 7 6 (241, .goto (-239), 3, 119, 2, [], []) rfl rfl rfl ?_
          exact ((((h.2 c1).2 c15).1 c18).2 c19)
      · refine bGo hA 7 4 (236, .iload 6, 2, 117, 0, [6], []) rfl rfl rfl ?_
        refine bGo hA 7 5 (238, .putfield 480, 3, 118, 0, [12, 105, 0, 0, 0, 0], []) rfl rfl rfl ?_
        refine ⟨rfl, ?_⟩
        refine bGo hA 7 6 (241, .goto (-239), 3, 119, 2, [], []) rfl rfl rfl ?_
        exact (((h.2 c1).2 c15).2 c18)

theorem sq289_0 {lvl : Nat} {C : bCall} {Q : bPost} {A : bPt → Prop} (hC : bMono C) (hA : bClosed lvl bm289 C Q A) {x0 : Int} {x1 : Int} {σ : bSt}  (h_x0 : bRg x0) (h_x1 : bRg x1)
  (h : ((x0 = (-1) → Q (.inl (some (.int (bn x1)))) σ) ∧ (¬ x0 = (-1) → ((x1 = (-1) → Q (.inl (some (.int (bn x0)))) σ) ∧ (¬ x1 = (-1) → ((x0 < x1 → Q (.inl (some (.int (bn x0)))) σ) ∧ (¬ x0 < x1 → Q (.inl (some (.int (bn x1)))) σ))))))) : A (0, [.int (bn x0), .int (bn x1)], [], σ) := by
  refine bGo hA 0 0 (0, .iload_n 0, 1, 1, 0, [0], []) rfl rfl rfl ?_
  refine bGo hA 0 1 (1, .iconst (-1), 1, 2, 0, [], [(-1, 0)]) rfl rfl rfl ?_
  refine bEqI bl_m1 ?_
  refine bGo hA 0 2 (2, .if_icmp .ne (7), 3, 3, 5, [], []) rfl rfl rfl ?_
  refine bB_eq (x := x0) (y := (-1)) h_x0 (by decide : bRg (-1)) (fun c1 => ?_) (fun c1 => ?_)
  · refine bGo hA 0 3 (5, .iload_n 1, 1, 4, 0, [1], []) rfl rfl rfl ?_
    refine bGo hA 0 4 (6, .goto (22), 3, 5, 16, [], []) rfl rfl rfl ?_
    refine bGo hA 1 0 (28, .ireturn, 1, 0, 0, [1], []) rfl rfl rfl ?_
    exact (h.1 c1)
  · refine bGo hA 0 5 (9, .iload_n 1, 1, 6, 0, [1], []) rfl rfl rfl ?_
    refine bGo hA 0 6 (10, .iconst (-1), 1, 7, 0, [], [(-1, 0)]) rfl rfl rfl ?_
    refine bEqI bl_m1 ?_
    refine bGo hA 0 7 (11, .if_icmp .ne (7), 3, 8, 10, [], []) rfl rfl rfl ?_
    refine bB_eq (x := x1) (y := (-1)) h_x1 (by decide : bRg (-1)) (fun c2 => ?_) (fun c2 => ?_)
    · refine bGo hA 0 8 (14, .iload_n 0, 1, 9, 0, [0], []) rfl rfl rfl ?_
      refine bGo hA 0 9 (15, .goto (13), 3, 10, 16, [], []) rfl rfl rfl ?_
      refine bGo hA 1 0 (28, .ireturn, 1, 0, 0, [1], []) rfl rfl rfl ?_
      exact ((h.2 c1).1 c2)
    · refine bGo hA 0 10 (18, .iload_n 0, 1, 11, 0, [0], []) rfl rfl rfl ?_
      refine bGo hA 0 11 (19, .iload_n 1, 1, 12, 0, [1], []) rfl rfl rfl ?_
      refine bGo hA 0 12 (20, .if_icmp .ge (7), 3, 13, 15, [], []) rfl rfl rfl ?_
      refine bB_lt (x := x0) (y := x1) h_x0 h_x1 (fun c3 => ?_) (fun c3 => ?_)
      · refine bGo hA 0 13 (23, .iload_n 0, 1, 14, 0, [0], []) rfl rfl rfl ?_
        refine bGo hA 0 14 (24, .goto (4), 3, 15, 16, [], []) rfl rfl rfl ?_
        refine bGo hA 1 0 (28, .ireturn, 1, 0, 0, [1], []) rfl rfl rfl ?_
        exact (((h.2 c1).2 c2).1 c3)
      · refine bGo hA 0 15 (27, .iload_n 1, 1, 16, 0, [1], []) rfl rfl rfl ?_
        refine bGo hA 1 0 (28, .ireturn, 1, 0, 0, [1], []) rfl rfl rfl ?_
        exact (((h.2 c1).2 c2).2 c3)

theorem sq290_0 {lvl : Nat} {C : bCall} {Q : bPost} {A : bPt → Prop} (hC : bMono C) (hA : bClosed lvl bm290 C Q A)  {σ : bSt}  
  (h : A (2, [.ref 12, .int (bn 0)], [], σ)) : A (0, [.ref 12, .float 0], [], σ) := by
  refine bGo hA 0 0 (0, .iconst (0), 1, 1, 0, [], [(0, 0)]) rfl rfl rfl ?_
  refine bEqI bl_0 ?_
  refine bGo hA 0 1 (1, .istore_n 1, 1, 2, 0, [1], []) rfl rfl rfl ?_
  exact h

theorem sq290_2 {lvl : Nat} {C : bCall} {Q : bPost} {A : bPt → Prop} (hC : bMono C) (hA : bClosed lvl bm290 C Q A) {l1 : Int} {σ : bSt}  (h_l1 : bRg l1)
  (h : ((l1 < (bi σ 12 49) → (C 282 [.ref 12, .int (bn l1)] σ (bRn (fun r4 s2 => ((r4 = 0 → (bRg (l1 + 1) ∧ A (2, [.ref 12, .int (bn (l1 + 1))], [], s2))) ∧ (¬ r4 = 0 → ((0 ≤ l1 ∧ l1 < 120) ∧ (C 291 [.ref 12, .int (bn l1), .int (bn (-1))] (bw (bw s2 142 l1 7) 144 l1 (bi s2 12 105)) (bRv (fun s7 => (bRg (l1 + 1) ∧ A (2, [.ref 12, .int (bn (l1 + 1))], [], s7)))))))))))) ∧ (¬ l1 < (bi σ 12 49) → Q (.inl none) σ))) : A (2, [.ref 12, .int (bn l1)], [], σ) := by
  refine bGo hA 0 2 (2, .iload_n 1, 1, 3, 0, [1], []) rfl rfl rfl ?_
  refine bGo hA 0 3 (3, .aload_n 0, 1, 4, 0, [0], []) rfl rfl rfl ?_
  refine bGo hA 0 4 (4, .getfield 410, 3, 5, 0, [12, 49, 0, 0, 0, 0], []) rfl rfl rfl ?_
  refine ⟨rfl, ?_⟩
  refine bEqI (bn_bi σ 12 49) ?_
  refine bGo hA 0 5 (7, .if_icmp .ge (41), 3, 6, 27, [], []) rfl rfl rfl ?_
  refine bB_lt (x := l1) (y := (bi σ 12 49)) h_l1 (bi_rg _ _ _) (fun c1 => ?_) (fun c1 => ?_)
  · refine bGo hA 0 6 (10, .aload_n 0, 1, 7, 0, [0], []) rfl rfl rfl ?_
    refine bGo hA 0 7 (11, .iload_n 1, 1, 8, 0, [1], []) rfl rfl rfl ?_
    refine bGo hA 0 8 (12, .invokevirtual 512, 3, 9, 0, [0, 12, 282, 1], []) rfl rfl rfl ?_
    refine ⟨rfl, ?_⟩
    refine hC _ _ _ _ _ (bRn_e (fun r4 s2 q5 k3 => ?_)) (h.1 c1)
    show A (9, [.ref 12, .int (bn l1)], [.int (bn r4)], s2)
    refine bGo hA 0 9 (15, .ifCond .eq (27), 3, 10, 25, [], []) rfl rfl rfl ?_
    refine bB_eq0 (x := r4) q5 (fun c6 => ?_) (fun c6 => ?_)
    · refine bGo hA 1 9 (42, .iinc 1 (1), 3, 26, 0, [1], [(1, 0)]) rfl rfl rfl ?_
      refine bEqC (fun v => A (26, [.ref 12, .int v], [], s2)) ((congrArg (fun w => bn l1 + w) bl_1).trans (bn_add l1 1)) ?_
      refine bGo hA 1 10 (45, .goto (-43), 3, 27, 2, [], []) rfl rfl rfl ?_
      exact (k3.1 c6).2
    · refine bGo hA 0 10 (18, .aload_n 0, 1, 11, 0, [0], []) rfl rfl rfl ?_
      refine bGo hA 0 11 (19, .getfield 269, 3, 12, 0, [12, 98, 3, 142, 1, 0], []) rfl rfl rfl ?_
      refine ⟨rfl, ?_⟩
      refine bGo hA 0 12 (22, .iload_n 1, 1, 13, 0, [1], []) rfl rfl rfl ?_
      refine bGo hA 0 13 (23, .bipush (7), 2, 14, 0, [], [(7, 0)]) rfl rfl rfl ?_
      refine bEqI bl_7 ?_
      refine bGo hA 0 14 (25, .iastore, 1, 15, 0, [], []) rfl rfl rfl ?_
      refine ⟨rfl, (bIxP (x := l1) (n := 120) h_l1 (k3.2 c6).1), by decide, ?_⟩
      refine bEqS (x := l1) h_l1 ?_
      refine bGo hA 0 15 (26, .aload_n 0, 1, 16, 0, [0], []) rfl rfl rfl ?_
      refine bGo hA 1 0 (27, .getfield 275, 3, 17, 0, [12, 100, 3, 144, 1, 0], []) rfl rfl rfl ?_
      refine ⟨rfl, ?_⟩
      refine bGo hA 1 1 (30, .iload_n 1, 1, 18, 0, [1], []) rfl rfl rfl ?_
      refine bGo hA 1 2 (31, .aload_n 0, 1, 19, 0, [0], []) rfl rfl rfl ?_
      refine bGo hA 1 3 (32, .getfield 480, 3, 20, 0, [12, 105, 0, 0, 0, 0], []) rfl rfl rfl ?_
      refine ⟨rfl, ?_⟩
      refine bEqI ((bn_bi (bw s2 142 l1 7) 12 105).trans (congrArg bn (bi_ne (by decide)))) ?_
      refine bGo hA 1 4 (35, .iastore, 1, 21, 0, [], []) rfl rfl rfl ?_
      refine ⟨rfl, (bIxP (x := l1) (n := 120) h_l1 (k3.2 c6).1), by decide, ?_⟩
      refine bEqS (x := l1) h_l1 ?_
      refine bGo hA 1 5 (36, .aload_n 0, 1, 22, 0, [0], []) rfl rfl rfl ?_
      refine bGo hA 1 6 (37, .iload_n 1, 1, 23, 0, [1], []) rfl rfl rfl ?_
      refine bGo hA 1 7 (38, .iconst (-1), 1, 24, 0, [], [(-1, 0)]) rfl rfl rfl ?_
      refine bEqI bl_m1 ?_
      refine bGo hA 1 8 (39, .invokevirtual 531, 3, 25, 0, [0, 12, 291, 2], []) rfl rfl rfl ?_
      refine ⟨rfl, ?_⟩
      refine hC _ _ _ _ _ (bRv_e (fun s7 k8 => ?_)) (k3.2 c6).2
      show A (25, [.ref 12, .int (bn l1)], [], s7)
      refine bGo hA 1 9 (42, .iinc 1 (1), 3, 26, 0, [1], [(1, 0)]) rfl rfl rfl ?_
      refine bEqC (fun v => A (26, [.ref 12, .int v], [], s7)) ((congrArg (fun w => bn l1 + w) bl_1).trans (bn_add l1 1)) ?_
      refine bGo hA 1 10 (45, .goto (-43), 3, 27, 2, [], []) rfl rfl rfl ?_
      exact k8.2
  · refine bGo hA 1 11 (48, .return_, 1, 0, 0, [0], []) rfl rfl rfl ?_
    exact (h.2 c1)

theorem sq291_0 {lvl : Nat} {C : bCall} {Q : bPost} {A : bPt → Prop} (hC : bMono C) (hA : bClosed lvl bm291 C Q A) {x1 : Int} {x2 : Int} {σ : bSt}  (h_x1 : bRg x1) (h_x2 : bRg x2)
  (h : ((0 ≤ x1 ∧ x1 < 120) ∧ (((bi σ 148 x1) = (-1) → Q (.inl none) σ) ∧ (¬ (bi σ 148 x1) = (-1) → ((0 ≤ (bi σ 148 x1) ∧ (bi σ 148 x1) < 12) ∧ Q (.inl none) (bw (bw (bw σ 138 (bi σ 148 x1) 0) 137 (bi σ 148 x1) x2) 148 x1 (-1))))))) : A (0, [.ref 12, .int (bn x1), .int (bn x2)], [], σ) := by
  refine bGo hA 0 0 (0, .aload_n 0, 1, 1, 0, [0], []) rfl rfl rfl ?_
  refine bGo hA 0 1 (1, .getfield 287, 3, 2, 0, [12, 104, 3, 148, 1, 0], []) rfl rfl rfl ?_
  refine ⟨rfl, ?_⟩
  refine bGo hA 0 2 (4, .iload_n 1, 1, 3, 0, [1], []) rfl rfl rfl ?_
  refine bGo hA 0 3 (5, .iaload, 1, 4, 0, [], []) rfl rfl rfl ?_
  refine ⟨rfl, (bIxP (x := x1) (n := 120) h_x1 h.1), ?_⟩
  refine bEqL (x := x1) h_x1 ?_
  refine bGo hA 0 4 (6, .iconst (-1), 1, 5, 0, [], [(-1, 0)]) rfl rfl rfl ?_
  refine bEqI bl_m1 ?_
  refine bGo hA 0 5 (7, .if_icmp .eq (34), 3, 6, 27, [], []) rfl rfl rfl ?_
  refine bB_eq (x := (bi σ 148 x1)) (y := (-1)) (bi_rg _ _ _) (by decide : bRg (-1)) (fun c1 => ?_) (fun c1 => ?_)
  · refine bGo hA 1 11 (41, .return_, 1, 0, 0, [0], []) rfl rfl rfl ?_
    exact (h.2.1 c1)
  · refine bGo hA 0 6 (10, .aload_n 0, 1, 7, 0, [0], []) rfl rfl rfl ?_
    refine bGo hA 0 7 (11, .getfield 257, 3, 8, 0, [12, 93, 3, 138, 1, 0], []) rfl rfl rfl ?_
    refine ⟨rfl, ?_⟩
    refine bGo hA 0 8 (14, .aload_n 0, 1, 9, 0, [0], []) rfl rfl rfl ?_
    refine bGo hA 0 9 (15, .getfield 287, 3, 10, 0, [12, 104, 3, 148, 1, 0], []) rfl rfl rfl ?_
    refine ⟨rfl, ?_⟩
    refine bGo hA 0 10 (18, .iload_n 1, 1, 11, 0, [1], []) rfl rfl rfl ?_
    refine bGo hA 0 11 (19, .iaload, 1, 12, 0, [], []) rfl rfl rfl ?_
    refine ⟨rfl, (bIxP (x := x1) (n := 120) h_x1 h.1), ?_⟩
    refine bEqL (x := x1) h_x1 ?_
    refine bGo hA 0 12 (20, .iconst (0), 1, 13, 0, [], [(0, 0)]) rfl rfl rfl ?_
    refine bEqI bl_0 ?_
    refine bGo hA 0 13 (21, .bastore, 1, 14, 0, [], []) rfl rfl rfl ?_
    refine ⟨rfl, (bIxP (x := (bi σ 148 x1)) (n := 12) (bi_rg _ _ _) (h.2.2 c1).1), by decide, b01 (Or.inl rfl), ?_⟩
    refine bEqS (x := (bi σ 148 x1)) (bi_rg _ _ _) ?_
    refine bGo hA 0 14 (22, .aload_n 0, 1, 15, 0, [0], []) rfl rfl rfl ?_
    refine bGo hA 0 15 (23, .getfield 254, 3, 16, 0, [12, 92, 3, 137, 1, 0], []) rfl rfl rfl ?_
    refine ⟨rfl, ?_⟩
    refine bGo hA 1 0 (26, .aload_n 0, 1, 17, 0, [0], []) rfl rfl rfl ?_
    refine bGo hA 1 1 (27, .getfield 287, 3, 18, 0, [12, 104, 3, 148, 1, 0], []) rfl rfl rfl ?_
    refine ⟨rfl, ?_⟩
    refine bGo hA 1 2 (30, .iload_n 1, 1, 19, 0, [1], []) rfl rfl rfl ?_
    refine bGo hA 1 3 (31, .iaload, 1, 20, 0, [], []) rfl rfl rfl ?_
    refine ⟨rfl, (bIxP (x := x1) (n := 120) h_x1 h.1), ?_⟩
    refine bEqL (x := x1) h_x1 ?_
    refine bEqI (congrArg bn (show bi (bw σ 138 (bi σ 148 x1) 0) 148 x1 = (bi σ 148 x1) from (bi_ne (by decide)))) ?_
    refine bGo hA 1 4 (32, .iload_n 2, 1, 21, 0, [2], []) rfl rfl rfl ?_
    refine bGo hA 1 5 (33, .iastore, 1, 22, 0, [], []) rfl rfl rfl ?_
    refine ⟨rfl, (bIxP (x := (bi σ 148 x1)) (n := 12) (bi_rg _ _ _) (h.2.2 c1).1), by decide, ?_⟩
    refine bEqS (x := (bi σ 148 x1)) (bi_rg _ _ _) ?_
    refine bGo hA 1 6 (34, .aload_n 0, 1, 23, 0, [0], []) rfl rfl rfl ?_
    refine bGo hA 1 7 (35, .getfield 287, 3, 24, 0, [12, 104, 3, 148, 1, 0], []) rfl rfl rfl ?_
    refine ⟨rfl, ?_⟩
    refine bGo hA 1 8 (38, .iload_n 1, 1, 25, 0, [1], []) rfl rfl rfl ?_
    refine bGo hA 1 9 (39, .iconst (-1), 1, 26, 0, [], [(-1, 0)]) rfl rfl rfl ?_
    refine bEqI bl_m1 ?_
    refine bGo hA 1 10 (40, .iastore, 1, 27, 0, [], []) rfl rfl rfl ?_
    refine ⟨rfl, (bIxP (x := x1) (n := 120) h_x1 h.1), by decide, ?_⟩
    refine bEqS (x := x1) h_x1 ?_
    refine bGo hA 1 11 (41, .return_, 1, 0, 0, [0], []) rfl rfl rfl ?_
    exact (h.2.2 c1).2

theorem sq292_0 {lvl : Nat} {C : bCall} {Q : bPost} {A : bPt → Prop} (hC : bMono C) (hA : bClosed lvl bm292 C Q A)  {σ : bSt}  
  (h : A (4, [.ref 12, .int (bn (-1)), .int (bn 0), .float 0, .float 0], [], σ)) : A (0, [.ref 12, .float 0, .float 0, .float 0, .float 0], [], σ) := by
  refine bGo hA 0 0 (0, .iconst (-1), 1, 1, 0, [], [(-1, 0)]) rfl rfl rfl ?_
  refine bEqI bl_m1 ?_
  refine bGo hA 0 1 (1, .istore_n 1, 1, 2, 0, [1], []) rfl rfl rfl ?_
  refine bGo hA 0 2 (2, .iconst (0), 1, 3, 0, [], [(0, 0)]) rfl rfl rfl ?_
  refine bEqI bl_0 ?_
  refine bGo hA 0 3 (3, .istore_n 2, 1, 4, 0, [2], []) rfl rfl rfl ?_
  exact h

theorem sq292_4 {lvl : Nat} {C : bCall} {Q : bPost} {A : bPt → Prop} (hC : bMono C) (hA : bClosed lvl bm292 C Q A) {l1 : Int} {l2 : Int} {v3 : Value} {v4 : Value} {σ : bSt}  (h_l1 : bRg l1) (h_l2 : bRg l2)
  (h : ((l2 < (bi σ 12 49) → ((0 ≤ l2 ∧ l2 < 120) ∧ (((bi σ 140 l2) = 0 → (bRg (40 * l2) ∧ A (39, [.ref 12, .int (bn l1), .int (bn l2), .int (bn 0), .int (bn (40 * l2))], [], σ))) ∧ (¬ (bi σ 140 l2) = 0 → (((bi σ 143 l2) = (-1) → ((l1 = (-1) → (bRg (40 * l2) ∧ A (39, [.ref 12, .int (bn l1), .int (bn l2), .int (bn 1), .int (bn (40 * l2))], [], σ))) ∧ (¬ l1 = (-1) → ((0 ≤ l1 ∧ l1 < 120) ∧ (((bi σ 141 l1) < (bi σ 141 l2) → (bRg (40 * l2) ∧ A (39, [.ref 12, .int (bn l1), .int (bn l2), .int (bn 1), .int (bn (40 * l2))], [], σ))) ∧ (¬ (bi σ 141 l1) < (bi σ 141 l2) → (bRg (40 * l2) ∧ A (39, [.ref 12, .int (bn l1), .int (bn l2), .int (bn 0), .int (bn (40 * l2))], [], σ)))))))) ∧ (¬ (bi σ 143 l2) = (-1) → (bRg (40 * l2) ∧ A (39, [.ref 12, .int (bn l1), .int (bn l2), .int (bn 0), .int (bn (40 * l2))], [], σ)))))))) ∧ (¬ l2 < (bi σ 12 49) → Q (.inl (some (.int (bn l1)))) σ))) : A (4, [.ref 12, .int (bn l1), .int (bn l2), v3, v4], [], σ) := by
  refine bGo hA 0 4 (4, .iload_n 2, 1, 5, 0, [2], []) rfl rfl rfl ?_
  refine bGo hA 0 5 (5, .aload_n 0, 1, 6, 0, [0], []) rfl rfl rfl ?_
  refine bGo hA 0 6 (6, .getfield 410, 3, 7, 0, [12, 49, 0, 0, 0, 0], []) rfl rfl rfl ?_
  refine ⟨rfl, ?_⟩
  refine bEqI (bn_bi σ 12 49) ?_
  refine bGo hA 0 7 (9, .if_icmp .ge (139), 3, 8, 84, [], []) rfl rfl rfl ?_
  refine bB_lt (x := l2) (y := (bi σ 12 49)) h_l2 (bi_rg _ _ _) (fun c1 => ?_) (fun c1 => ?_)
  · refine bGo hA 0 8 (12, .aload_n 0, 1, 9, 0, [0], []) rfl rfl rfl ?_
    refine bGo hA 0 9 (13, .getfield 263, 3, 10, 0, [12, 96, 3, 140, 1, 0], []) rfl rfl rfl ?_
    refine ⟨rfl, ?_⟩
    refine bGo hA 0 10 (16, .iload_n 2, 1, 11, 0, [2], []) rfl rfl rfl ?_
    refine bGo hA 0 11 (17, .baload, 1, 12, 0, [], []) rfl rfl rfl ?_
    refine ⟨rfl, (bIxP (x := l2) (n := 120) h_l2 (h.1 c1).1), ?_⟩
    refine bEqL (x := l2) h_l2 ?_
    refine bGo hA 0 12 (18, .ifCond .eq (37), 3, 13, 33, [], []) rfl rfl rfl ?_
    refine bB_eq0 (x := (bi σ 140 l2)) (bi_rg _ _ _) (fun c2 => ?_) (fun c2 => ?_)
    · refine bGo hA 2 1 (55, .iconst (0), 1, 34, 0, [], [(0, 0)]) rfl rfl rfl ?_
      refine bEqI bl_0 ?_
      refine bGo hA 2 2 (56, .istore_n 3, 1, 35, 0, [3], []) rfl rfl rfl ?_
      refine bGo hA 2 3 (57, .bipush (40), 2, 36, 0, [], [(40, 0)]) rfl rfl rfl ?_
      refine bEqI bl_40 ?_
      refine bGo hA 2 4 (59, .iload_n 2, 1, 37, 0, [2], []) rfl rfl rfl ?_
      refine bGo hA 2 5 (60, .imul, 1, 38, 0, [], []) rfl rfl rfl ?_
      refine bEqI (bn_mul 40 l2) ?_
      refine bGo hA 2 6 (61, .istore 4, 2, 39, 0, [4], []) rfl rfl rfl ?_
      exact ((h.1 c1).2.1 c2).2
    · refine bGo hA 0 13 (21, .aload_n 0, 1, 14, 0, [0], []) rfl rfl rfl ?_
      refine bGo hA 0 14 (22, .getfield 272, 3, 15, 0, [12, 99, 3, 143, 1, 0], []) rfl rfl rfl ?_
      refine ⟨rfl, ?_⟩
      refine bGo hA 0 15 (25, .iload_n 2, 1, 16, 0, [2], []) rfl rfl rfl ?_
      refine bGo hA 1 0 (26, .iaload, 1, 17, 0, [], []) rfl rfl rfl ?_
      refine ⟨rfl, (bIxP (x := l2) (n := 120) h_l2 (h.1 c1).1), ?_⟩
      refine bEqL (x := l2) h_l2 ?_
      refine bGo hA 1 1 (27, .iconst (-1), 1, 18, 0, [], [(-1, 0)]) rfl rfl rfl ?_
      refine bEqI bl_m1 ?_
      refine bGo hA 1 2 (28, .if_icmp .ne (27), 3, 19, 33, [], []) rfl rfl rfl ?_
      refine bB_eq (x := (bi σ 143 l2)) (y := (-1)) (bi_rg _ _ _) (by decide : bRg (-1)) (fun c3 => ?_) (fun c3 => ?_)
      · refine bGo hA 1 3 (31, .iload_n 1, 1, 20, 0, [1], []) rfl rfl rfl ?_
        refine bGo hA 1 4 (32, .iconst (-1), 1, 21, 0, [], [(-1, 0)]) rfl rfl rfl ?_
        refine bEqI bl_m1 ?_
        refine bGo hA 1 5 (33, .if_icmp .eq (18), 3, 22, 31, [], []) rfl rfl rfl ?_
        refine bB_eq (x := l1) (y := (-1)) h_l1 (by decide : bRg (-1)) (fun c4 => ?_) (fun c4 => ?_)
        · refine bGo hA 1 15 (51, .iconst (1), 1, 32, 0, [], [(1, 0)]) rfl rfl rfl ?_
          refine bEqI bl_1 ?_
          refine bGo hA 2 0 (52, .goto (4), 3, 33, 34, [], []) rfl rfl rfl ?_
          refine bGo hA 2 2 (56, .istore_n 3, 1, 35, 0, [3], []) rfl rfl rfl ?_
          refine bGo hA 2 3 (57, .bipush (40), 2, 36, 0, [], [(40, 0)]) rfl rfl rfl ?_
          refine bEqI bl_40 ?_
          refine bGo hA 2 4 (59, .iload_n 2, 1, 37, 0, [2], []) rfl rfl rfl ?_
          refine bGo hA 2 5 (60, .imul, 1, 38, 0, [], []) rfl rfl rfl ?_
          refine bEqI (bn_mul 40 l2) ?_
          refine bGo hA 2 6 (61, .istore 4, 2, 39, 0, [4], []) rfl rfl rfl ?_
          exact ((((h.1 c1).2.2 c2).1 c3).1 c4).2
        · refine bGo hA 1 6 (36, .aload_n 0, 1, 23, 0, [0], []) rfl rfl rfl ?_
          refine bGo hA 1 7 (37, .getfield 266, 3, 24, 0, [12, 97, 3, 141, 1, 0], []) rfl rfl rfl ?_
          refine ⟨rfl, ?_⟩
          refine bGo hA 1 8 (40, .iload_n 2, 1, 25, 0, [2], []) rfl rfl rfl ?_
          refine bGo hA 1 9 (41, .iaload, 1, 26, 0, [], []) rfl rfl rfl ?_
          refine ⟨rfl, (bIxP (x := l2) (n := 120) h_l2 (h.1 c1).1), ?_⟩
          refine bEqL (x := l2) h_l2 ?_
          refine bGo hA 1 10 (42, .aload_n 0, 1, 27, 0, [0], []) rfl rfl rfl ?_
          refine bGo hA 1 11 (43, .getfield 266, 3, 28, 0, [12, 97, 3, 141, 1, 0], []) rfl rfl rfl ?_
          refine ⟨rfl, ?_⟩
          refine bGo hA 1 12 (46, .iload_n 1, 1, 29, 0, [1], []) rfl rfl rfl ?_
          refine bGo hA 1 13 (47, .iaload, 1, 30, 0, [], []) rfl rfl rfl ?_
          refine ⟨rfl, (bIxP (x := l1) (n := 120) h_l1 ((((h.1 c1).2.2 c2).1 c3).2 c4).1), ?_⟩
          refine bEqL (x := l1) h_l1 ?_
          refine bGo hA 1 14 (48, .if_icmp .le (7), 3, 31, 33, [], []) rfl rfl rfl ?_
          refine bB_lt (x := (bi σ 141 l1)) (y := (bi σ 141 l2)) (bi_rg _ _ _) (bi_rg _ _ _) (fun c5 => ?_) (fun c5 => ?_)
          · refine bGo hA 1 15 (51, .iconst (1), 1, 32, 0, [], [(1, 0)]) rfl rfl rfl ?_
            refine bEqI bl_1 ?_
            refine bGo hA 2 0 (52, .goto (4), 3, 33, 34, [], []) rfl rfl rfl ?_
            refine bGo hA 2 2 (56, .istore_n 3, 1, 35, 0, [3], []) rfl rfl rfl ?_
            refine bGo hA 2 3 (57, .bipush (40), 2, 36, 0, [], [(40, 0)]) rfl rfl rfl ?_
            refine bEqI bl_40 ?_
            refine bGo hA 2 4 (59, .iload_n 2, 1, 37, 0, [2], []) rfl rfl rfl ?_
            refine bGo hA 2 5 (60, .imul, 1, 38, 0, [], []) rfl rfl rfl ?_
            refine bEqI (bn_mul 40 l2) ?_
            refine bGo hA 2 6 (61, .istore 4, 2, 39, 0, [4], []) rfl rfl rfl ?_
            exact (((((h.1 c1).2.2 c2).1 c3).2 c4).2.1 c5).2
          · refine bGo hA 2 1 (55, .iconst (0), 1, 34, 0, [], [(0, 0)]) rfl rfl rfl ?_
            refine bEqI bl_0 ?_
            refine bGo hA 2 2 (56, .istore_n 3, 1, 35, 0, [3], []) rfl rfl rfl ?_
            refine bGo hA 2 3 (57, .bipush (40), 2, 36, 0, [], [(40, 0)]) rfl rfl rfl ?_
            refine bEqI bl_40 ?_
            refine bGo hA 2 4 (59, .iload_n 2, 1, 37, 0, [2], []) rfl rfl rfl ?_
            refine bGo hA 2 5 (60, .imul, 1, 38, 0, [], []) rfl rfl rfl ?_
            refine bEqI (bn_mul 40 l2) ?_
            refine bGo hA 2 6 (61, .istore 4, 2, 39, 0, [4], []) rfl rfl rfl ?_
            exact (((((h.1 c1).2.2 c2).1 c3).2 c4).2.2 c5).2
      · refine bGo hA 2 1 (55, .iconst (0), 1, 34, 0, [], [(0, 0)]) rfl rfl rfl ?_
        refine bEqI bl_0 ?_
        refine bGo hA 2 2 (56, .istore_n 3, 1, 35, 0, [3], []) rfl rfl rfl ?_
        refine bGo hA 2 3 (57, .bipush (40), 2, 36, 0, [], [(40, 0)]) rfl rfl rfl ?_
        refine bEqI bl_40 ?_
        refine bGo hA 2 4 (59, .iload_n 2, 1, 37, 0, [2], []) rfl rfl rfl ?_
        refine bGo hA 2 5 (60, .imul, 1, 38, 0, [], []) rfl rfl rfl ?_
        refine bEqI (bn_mul 40 l2) ?_
        refine bGo hA 2 6 (61, .istore 4, 2, 39, 0, [4], []) rfl rfl rfl ?_
        exact (((h.1 c1).2.2 c2).2 c3).2
  · refine bGo hA 5 4 (148, .iload_n 1, 1, 85, 0, [1], []) rfl rfl rfl ?_
    refine bGo hA 5 5 (149, .ireturn, 1, 0, 0, [1], []) rfl rfl rfl ?_
    exact (h.2 c1)

theorem sq292_39 {lvl : Nat} {C : bCall} {Q : bPost} {A : bPt → Prop} (hC : bMono C) (hA : bClosed lvl bm292 C Q A) {l1 : Int} {l2 : Int} {l3 : Int} {l4 : Int} {σ : bSt}  (h_l1 : bRg l1) (h_l2 : bRg l2) (h_l3 : bRg l3) (h_l4 : bRg l4)
  (h : (bRg (40 * l2) ∧ ((0 ≤ l2 ∧ l2 < 120) ∧ (bRg ((40 * l2) + (bi σ 105 l2)) ∧ ((l4 < ((40 * l2) + (bi σ 105 l2)) → ((l3 = 0 → ((l3 = 0 → (bRg (l2 + 1) ∧ A (4, [.ref 12, .int (bn l1), .int (bn (l2 + 1)), .int (bn l3), .int (bn l4)], [], σ))) ∧ (¬ l3 = 0 → (C 293 [.ref 12, .int (bn l2)] σ (bRn (fun r6 s4 => ((r6 = 0 → (bRg (l2 + 1) ∧ A (4, [.ref 12, .int (bn l1), .int (bn (l2 + 1)), .int (bn l3), .int (bn l4)], [], s4))) ∧ (¬ r6 = 0 → (bRg (l2 + 1) ∧ A (4, [.ref 12, .int (bn l2), .int (bn (l2 + 1)), .int (bn l3), .int (bn l4)], [], s4)))))))))) ∧ (¬ l3 = 0 → ((0 ≤ l4 ∧ l4 < 4800) ∧ (((bi σ 106 l4) < 48 → (bRg (l4 + 1) ∧ A (39, [.ref 12, .int (bn l1), .int (bn l2), .int (bn 1), .int (bn (l4 + 1))], [], σ))) ∧ (¬ (bi σ 106 l4) < 48 → (bRg ((bi σ 106 l4) - 100) ∧ (C 281 [.ref 12, .int (bn ((bi σ 106 l4) - 100))] σ (bRn (fun r12 s10 => ((r12 = 0 → (bRg (l4 + 1) ∧ A (39, [.ref 12, .int (bn l1), .int (bn l2), .int (bn 0), .int (bn (l4 + 1))], [], s10))) ∧ (¬ r12 = 0 → (bRg (l4 + 1) ∧ A (39, [.ref 12, .int (bn l1), .int (bn l2), .int (bn 1), .int (bn (l4 + 1))], [], s10)))))))))))))) ∧ (¬ l4 < ((40 * l2) + (bi σ 105 l2)) → ((l3 = 0 → (bRg (l2 + 1) ∧ A (4, [.ref 12, .int (bn l1), .int (bn (l2 + 1)), .int (bn l3), .int (bn l4)], [], σ))) ∧ (¬ l3 = 0 → (C 293 [.ref 12, .int (bn l2)] σ (bRn (fun r18 s16 => ((r18 = 0 → (bRg (l2 + 1) ∧ A (4, [.ref 12, .int (bn l1), .int (bn (l2 + 1)), .int (bn l3), .int (bn l4)], [], s16))) ∧ (¬ r18 = 0 → (bRg (l2 + 1) ∧ A (4, [.ref 12, .int (bn l2), .int (bn (l2 + 1)), .int (bn l3), .int (bn l4)], [], s16))))))))))))))) : A (39, [.ref 12, .int (bn l1), .int (bn l2), .int (bn l3), .int (bn l4)], [], σ) := by
  refine bGo hA 2 7 (63, .iload 4, 2, 40, 0, [4], []) rfl rfl rfl ?_
  refine bGo hA 2 8 (65, .bipush (40), 2, 41, 0, [], [(40, 0)]) rfl rfl rfl ?_
  refine bEqI bl_40 ?_
  refine bGo hA 2 9 (67, .iload_n 2, 1, 42, 0, [2], []) rfl rfl rfl ?_
  refine bGo hA 2 10 (68, .imul, 1, 43, 0, [], []) rfl rfl rfl ?_
  refine bEqI (bn_mul 40 l2) ?_
  refine bGo hA 2 11 (69, .aload_n 0, 1, 44, 0, [0], []) rfl rfl rfl ?_
  refine bGo hA 2 12 (70, .getfield 158, 3, 45, 0, [12, 54, 3, 105, 1, 0], []) rfl rfl rfl ?_
  refine ⟨rfl, ?_⟩
  refine bGo hA 2 13 (73, .iload_n 2, 1, 46, 0, [2], []) rfl rfl rfl ?_
  refine bGo hA 2 14 (74, .iaload, 1, 47, 0, [], []) rfl rfl rfl ?_
  refine ⟨rfl, (bIxP (x := l2) (n := 120) h_l2 h.2.1), ?_⟩
  refine bEqL (x := l2) h_l2 ?_
  refine bGo hA 2 15 (75, .iadd, 1, 48, 0, [], []) rfl rfl rfl ?_
  refine bEqI (bn_add (40 * l2) (bi σ 105 l2)) ?_
  refine bGo hA 3 0 (76, .if_icmp .ge (48), 3, 49, 72, [], []) rfl rfl rfl ?_
  refine bB_lt (x := l4) (y := ((40 * l2) + (bi σ 105 l2))) h_l4 h.2.2.1 (fun c1 => ?_) (fun c1 => ?_)
  · refine bGo hA 3 1 (79, .iload_n 3, 1, 50, 0, [3], []) rfl rfl rfl ?_
    refine bGo hA 3 2 (80, .ifCond .eq (44), 3, 51, 72, [], []) rfl rfl rfl ?_
    refine bB_eq0 (x := l3) h_l3 (fun c2 => ?_) (fun c2 => ?_)
    · refine bGo hA 4 8 (124, .iload_n 3, 1, 73, 0, [3], []) rfl rfl rfl ?_
      refine bGo hA 4 9 (125, .ifCond .eq (15), 3, 74, 80, [], []) rfl rfl rfl ?_
      refine bB_eq0 (x := l3) h_l3 (fun c3 => ?_) (fun c3 => ?_)
      · refine bGo hA 5 0 (140, .iload_n 1, 1, 81, 0, [1], []) rfl rfl rfl ?_
        refine bGo hA 5 1 (141, .istore_n 1, 1, 82, 0, [1], []) rfl rfl rfl ?_
        refine bGo hA 5 2 (142, .iinc 2 (1), 3, 83, 0, [2], [(1, 0)]) rfl rfl rfl ?_
        refine bEqC (fun v => A (83, [.ref 12, .int (bn l1), .int v, .int (bn l3), .int (bn l4)], [], σ)) ((congrArg (fun w => bn l2 + w) bl_1).trans (bn_add l2 1)) ?_
        refine bGo hA 5 3 (145, .goto (-141), 3, 84, 4, [], []) rfl rfl rfl ?_
        exact (((h.2.2.2.1 c1).1 c2).1 c3).2
      · refine bGo hA 4 10 (128, .aload_n 0, 1, 75, 0, [0], []) rfl rfl rfl ?_
        refine bGo hA 4 11 (129, .iload_n 2, 1, 76, 0, [2], []) rfl rfl rfl ?_
        refine bGo hA 4 12 (130, .invokevirtual 535, 3, 77, 0, [0, 12, 293, 1], []) rfl rfl rfl ?_
        refine ⟨rfl, ?_⟩
        refine hC _ _ _ _ _ (bRn_e (fun r6 s4 q7 k5 => ?_)) (((h.2.2.2.1 c1).1 c2).2 c3)
        show A (77, [.ref 12, .int (bn l1), .int (bn l2), .int (bn l3), .int (bn l4)], [.int (bn r6)], s4)
        refine bGo hA 4 13 (133, .ifCond .eq (7), 3, 78, 80, [], []) rfl rfl rfl ?_
        refine bB_eq0 (x := r6) q7 (fun c8 => ?_) (fun c8 => ?_)
        · refine bGo hA 5 0 (140, .iload_n 1, 1, 81, 0, [1], []) rfl rfl rfl ?_
          refine bGo hA 5 1 (141, .istore_n 1, 1, 82, 0, [1], []) rfl rfl rfl ?_
          refine bGo hA 5 2 (142, .iinc 2 (1), 3, 83, 0, [2], [(1, 0)]) rfl rfl rfl ?_
          refine bEqC (fun v => A (83, [.ref 12, .int (bn l1), .int v, .int (bn l3), .int (bn l4)], [], s4)) ((congrArg (fun w => bn l2 + w) bl_1).trans (bn_add l2 1)) ?_
          refine bGo hA 5 3 (145, .goto (-141), 3, 84, 4, [], []) rfl rfl rfl ?_
          exact (k5.1 c8).2
        · refine bGo hA 4 14 (136, .iload_n 2, 1, 79, 0, [2], []) rfl rfl rfl ?_
          refine bGo hA 4 15 (137, .goto (4), 3, 80, 81, [], []) rfl rfl rfl ?_
          refine bGo hA 5 1 (141, .istore_n 1, 1, 82, 0, [1], []) rfl rfl rfl ?_
          refine bGo hA 5 2 (142, .iinc 2 (1), 3, 83, 0, [2], [(1, 0)]) rfl rfl rfl ?_
          refine bEqC (fun v => A (83, [.ref 12, .int (bn l2), .int v, .int (bn l3), .int (bn l4)], [], s4)) ((congrArg (fun w => bn l2 + w) bl_1).trans (bn_add l2 1)) ?_
          refine bGo hA 5 3 (145, .goto (-141), 3, 84, 4, [], []) rfl rfl rfl ?_
          exact (k5.2 c8).2
    · refine bGo hA 3 3 (83, .aload_n 0, 1, 52, 0, [0], []) rfl rfl rfl ?_
      refine bGo hA 3 4 (84, .getfield 161, 3, 53, 0, [12, 55, 3, 106, 1, 0], []) rfl rfl rfl ?_
      refine ⟨rfl, ?_⟩
      refine bGo hA 3 5 (87, .iload 4, 2, 54, 0, [4], []) rfl rfl rfl ?_
      refine bGo hA 3 6 (89, .iaload, 1, 55, 0, [], []) rfl rfl rfl ?_
      refine ⟨rfl, (bIxP (x := l4) (n := 4800) h_l4 ((h.2.2.2.1 c1).2 c2).1), ?_⟩
      refine bEqL (x := l4) h_l4 ?_
      refine bGo hA 3 7 (90, .bipush (48), 2, 56, 0, [], [(48, 0)]) rfl rfl rfl ?_
      refine bEqI bl_48 ?_
      refine bGo hA 3 8 (92, .if_icmp .lt (20), 3, 57, 66, [], []) rfl rfl rfl ?_
      refine bB_lt (x := (bi σ 106 l4)) (y := 48) (bi_rg _ _ _) (by decide : bRg 48) (fun c9 => ?_) (fun c9 => ?_)
      · refine bGo hA 4 2 (112, .iconst (1), 1, 67, 0, [], [(1, 0)]) rfl rfl rfl ?_
        refine bEqI bl_1 ?_
        refine bGo hA 4 3 (113, .goto (4), 3, 68, 69, [], []) rfl rfl rfl ?_
        refine bGo hA 4 5 (117, .istore_n 3, 1, 70, 0, [3], []) rfl rfl rfl ?_
        refine bGo hA 4 6 (118, .iinc 4 (1), 3, 71, 0, [4], [(1, 0)]) rfl rfl rfl ?_
        refine bEqC (fun v => A (71, [.ref 12, .int (bn l1), .int (bn l2), .int (bn 1), .int v], [], σ)) ((congrArg (fun w => bn l4 + w) bl_1).trans (bn_add l4 1)) ?_
        refine bGo hA 4 7 (121, .goto (-58), 3, 72, 39, [], []) rfl rfl rfl ?_
        exact (((h.2.2.2.1 c1).2 c2).2.1 c9).2
      · refine bGo hA 3 9 (95, .aload_n 0, 1, 58, 0, [0], []) rfl rfl rfl ?_
        refine bGo hA 3 10 (96, .aload_n 0, 1, 59, 0, [0], []) rfl rfl rfl ?_
        refine bGo hA 3 11 (97, .getfield 161, 3, 60, 0, [12, 55, 3, 106, 1, 0], []) rfl rfl rfl ?_
        refine ⟨rfl, ?_⟩
        refine bGo hA 3 12 (100, .iload 4, 2, 61, 0, [4], []) rfl rfl rfl ?_
        refine bGo hA 3 13 (102, .iaload, 1, 62, 0, [], []) rfl rfl rfl ?_
        refine ⟨rfl, (bIxP (x := l4) (n := 4800) h_l4 ((h.2.2.2.1 c1).2 c2).1), ?_⟩
        refine bEqL (x := l4) h_l4 ?_
        refine bGo hA 3 14 (103, .bipush (100), 2, 63, 0, [], [(100, 0)]) rfl rfl rfl ?_
        refine bEqI bl_100 ?_
        refine bGo hA 3 15 (105, .isub, 1, 64, 0, [], []) rfl rfl rfl ?_
        refine bEqI (bn_sub (bi σ 106 l4) 100) ?_
        refine bGo hA 4 0 (106, .invokevirtual 509, 3, 65, 0, [0, 12, 281, 1], []) rfl rfl rfl ?_
        refine ⟨rfl, ?_⟩
        refine hC _ _ _ _ _ (bRn_e (fun r12 s10 q13 k11 => ?_)) (((h.2.2.2.1 c1).2 c2).2.2 c9).2
        show A (65, [.ref 12, .int (bn l1), .int (bn l2), .int (bn l3), .int (bn l4)], [.int (bn r12)], s10)
        refine bGo hA 4 1 (109, .ifCond .eq (7), 3, 66, 68, [], []) rfl rfl rfl ?_
        refine bB_eq0 (x := r12) q13 (fun c14 => ?_) (fun c14 => ?_)
        · refine bGo hA 4 4 (116, .iconst (0), 1, 69, 0, [], [(0, 0)]) rfl rfl rfl ?_
          refine bEqI bl_0 ?_
          refine bGo hA 4 5 (117, .istore_n 3, 1, 70, 0, [3], []) rfl rfl rfl ?_
          refine bGo hA 4 6 (118, .iinc 4 (1), 3, 71, 0, [4], [(1, 0)]) rfl rfl rfl ?_
          refine bEqC (fun v => A (71, [.ref 12, .int (bn l1), .int (bn l2), .int (bn 0), .int v], [], s10)) ((congrArg (fun w => bn l4 + w) bl_1).trans (bn_add l4 1)) ?_
          refine bGo hA 4 7 (121, .goto (-58), 3, 72, 39, [], []) rfl rfl rfl ?_
          exact (k11.1 c14).2
        · refine bGo hA 4 2 (112, .iconst (1), 1, 67, 0, [], [(1, 0)]) rfl rfl rfl ?_
          refine bEqI bl_1 ?_
          refine bGo hA 4 3 (113, .goto (4), 3, 68, 69, [], []) rfl rfl rfl ?_
          refine bGo hA 4 5 (117, .istore_n 3, 1, 70, 0, [3], []) rfl rfl rfl ?_
          refine bGo hA 4 6 (118, .iinc 4 (1), 3, 71, 0, [4], [(1, 0)]) rfl rfl rfl ?_
          refine bEqC (fun v => A (71, [.ref 12, .int (bn l1), .int (bn l2), .int (bn 1), .int v], [], s10)) ((congrArg (fun w => bn l4 + w) bl_1).trans (bn_add l4 1)) ?_
          refine bGo hA 4 7 (121, .goto (-58), 3, 72, 39, [], []) rfl rfl rfl ?_
          exact (k11.2 c14).2
  · refine bGo hA 4 8 (124, .iload_n 3, 1, 73, 0, [3], []) rfl rfl rfl ?_
    refine bGo hA 4 9 (125, .ifCond .eq (15), 3, 74, 80, [], []) rfl rfl rfl ?_
    refine bB_eq0 (x := l3) h_l3 (fun c15 => ?_) (fun c15 => ?_)
    · refine bGo hA 5 0 (140, .iload_n 1, 1, 81, 0, [1], []) rfl rfl rfl ?_
      refine bGo hA 5 1 (141, .istore_n 1, 1, 82, 0, [1], []) rfl rfl rfl ?_
      refine bGo hA 5 2 (142, .iinc 2 (1), 3, 83, 0, [2], [(1, 0)]) rfl rfl rfl ?_
      refine bEqC (fun v => A (83, [.ref 12, .int (bn l1), .int v, .int (bn l3), .int (bn l4)], [], σ)) ((congrArg (fun w => bn l2 + w) bl_1).trans (bn_add l2 1)) ?_
      refine bGo hA 5 3 (145, .goto (-141), 3, 84, 4, [], []) rfl rfl rfl ?_
      exact ((h.2.2.2.2 c1).1 c15).2
    · refine bGo hA 4 10 (128, .aload_n 0, 1, 75, 0, [0], []) rfl rfl rfl ?_
      refine bGo hA 4 11 (129, .iload_n 2, 1, 76, 0, [2], []) rfl rfl rfl ?_
      refine bGo hA 4 12 (130, .invokevirtual 535, 3, 77, 0, [0, 12, 293, 1], []) rfl rfl rfl ?_
      refine ⟨rfl, ?_⟩
      refine hC _ _ _ _ _ (bRn_e (fun r18 s16 q19 k17 => ?_)) ((h.2.2.2.2 c1).2 c15)
      show A (77, [.ref 12, .int (bn l1), .int (bn l2), .int (bn l3), .int (bn l4)], [.int (bn r18)], s16)
      refine bGo hA 4 13 (133, .ifCond .eq (7), 3, 78, 80, [], []) rfl rfl rfl ?_
      refine bB_eq0 (x := r18) q19 (fun c20 => ?_) (fun c20 => ?_)
      · refine bGo hA 5 0 (140, .iload_n 1, 1, 81, 0, [1], []) rfl rfl rfl ?_
        refine bGo hA 5 1 (141, .istore_n 1, 1, 82, 0, [1], []) rfl rfl rfl ?_
        refine bGo hA 5 2 (142, .iinc 2 (1), 3, 83, 0, [2], [(1, 0)]) rfl rfl rfl ?_
        refine bEqC (fun v => A (83, [.ref 12, .int (bn l1), .int v, .int (bn l3), .int (bn l4)], [], s16)) ((congrArg (fun w => bn l2 + w) bl_1).trans (bn_add l2 1)) ?_
        refine bGo hA 5 3 (145, .goto (-141), 3, 84, 4, [], []) rfl rfl rfl ?_
        exact (k17.1 c20).2
      · refine bGo hA 4 14 (136, .iload_n 2, 1, 79, 0, [2], []) rfl rfl rfl ?_
        refine bGo hA 4 15 (137, .goto (4), 3, 80, 81, [], []) rfl rfl rfl ?_
        refine bGo hA 5 1 (141, .istore_n 1, 1, 82, 0, [1], []) rfl rfl rfl ?_
        refine bGo hA 5 2 (142, .iinc 2 (1), 3, 83, 0, [2], [(1, 0)]) rfl rfl rfl ?_
        refine bEqC (fun v => A (83, [.ref 12, .int (bn l2), .int v, .int (bn l3), .int (bn l4)], [], s16)) ((congrArg (fun w => bn l2 + w) bl_1).trans (bn_add l2 1)) ?_
        refine bGo hA 5 3 (145, .goto (-141), 3, 84, 4, [], []) rfl rfl rfl ?_
        exact (k17.2 c20).2

theorem sq293_0 {lvl : Nat} {C : bCall} {Q : bPost} {A : bPt → Prop} (hC : bMono C) (hA : bClosed lvl bm293 C Q A) {x1 : Int} {σ : bSt}  (h_x1 : bRg x1)
  (h : (C 271 [.ref 12, .int (bn x1)] σ (bRn (fun r3 s1 => ((r3 = 0 → (C 267 [.ref 12, .int (bn x1), .int (bn 0)] s1 (bRn (fun r8 s6 => ((r8 = (-1) → (((bi s6 12 87) = 0 → A (21, [.ref 12, .int (bn x1), .float 0], [], s6)) ∧ (¬ (bi s6 12 87) = 0 → (C 267 [.ref 12, .int (bn x1), .int (bn 1)] s6 (bRn (fun r14 s12 => ((r14 = (-1) → A (21, [.ref 12, .int (bn x1), .float 0], [], s12)) ∧ (¬ r14 = (-1) → A (19, [.ref 12, .int (bn x1), .float 0], [], s12))))))))) ∧ (¬ r8 = (-1) → A (19, [.ref 12, .int (bn x1), .float 0], [], s6))))))) ∧ (¬ r3 = 0 → A (19, [.ref 12, .int (bn x1), .float 0], [], s1))))))) : A (0, [.ref 12, .int (bn x1), .float 0], [], σ) := by
  refine bGo hA 0 0 (0, .aload_n 0, 1, 1, 0, [0], []) rfl rfl rfl ?_
  refine bGo hA 0 1 (1, .iload_n 1, 1, 2, 0, [1], []) rfl rfl rfl ?_
  refine bGo hA 0 2 (2, .invokevirtual 538, 3, 3, 0, [0, 12, 271, 1], []) rfl rfl rfl ?_
  refine ⟨rfl, ?_⟩
  refine hC _ _ _ _ _ (bRn_e (fun r3 s1 q4 k2 => ?_)) h
  show A (3, [.ref 12, .int (bn x1), .float 0], [.int (bn r3)], s1)
  refine bGo hA 0 3 (5, .ifCond .ne (30), 3, 4, 19, [], []) rfl rfl rfl ?_
  refine bB_eq0 (x := r3) q4 (fun c5 => ?_) (fun c5 => ?_)
  · refine bGo hA 0 4 (8, .aload_n 0, 1, 5, 0, [0], []) rfl rfl rfl ?_
    refine bGo hA 0 5 (9, .iload_n 1, 1, 6, 0, [1], []) rfl rfl rfl ?_
    refine bGo hA 0 6 (10, .iconst (0), 1, 7, 0, [], [(0, 0)]) rfl rfl rfl ?_
    refine bEqI bl_0 ?_
    refine bGo hA 0 7 (11, .invokevirtual 541, 3, 8, 0, [0, 12, 267, 2], []) rfl rfl rfl ?_
    refine ⟨rfl, ?_⟩
    refine hC _ _ _ _ _ (bRn_e (fun r8 s6 q9 k7 => ?_)) (k2.1 c5)
    show A (8, [.ref 12, .int (bn x1), .float 0], [.int (bn r8)], s6)
    refine bGo hA 0 8 (14, .iconst (-1), 1, 9, 0, [], [(-1, 0)]) rfl rfl rfl ?_
    refine bEqI bl_m1 ?_
    refine bGo hA 0 9 (15, .if_icmp .ne (20), 3, 10, 19, [], []) rfl rfl rfl ?_
    refine bB_eq (x := r8) (y := (-1)) q9 (by decide : bRg (-1)) (fun c10 => ?_) (fun c10 => ?_)
    · refine bGo hA 0 10 (18, .aload_n 0, 1, 11, 0, [0], []) rfl rfl rfl ?_
      refine bGo hA 0 11 (19, .getfield 309, 3, 12, 0, [12, 87, 1, 0, 0, 0], []) rfl rfl rfl ?_
      refine ⟨rfl, ?_⟩
      refine bEqI (bn_bi s6 12 87) ?_
      refine bGo hA 0 12 (22, .ifCond .eq (17), 3, 13, 21, [], []) rfl rfl rfl ?_
      refine bB_eq0 (x := (bi s6 12 87)) (bi_rg _ _ _) (fun c11 => ?_) (fun c11 => ?_)
      · exact ((k7.1 c10).1 c11)
      · refine bGo hA 0 13 (25, .aload_n 0, 1, 14, 0, [0], []) rfl rfl rfl ?_
        refine bGo hA 0 14 (26, .iload_n 1, 1, 15, 0, [1], []) rfl rfl rfl ?_
        refine bGo hA 0 15 (27, .iconst (1), 1, 16, 0, [], [(1, 0)]) rfl rfl rfl ?_
        refine bEqI bl_1 ?_
        refine bGo hA 1 0 (28, .invokevirtual 541, 3, 17, 0, [0, 12, 267, 2], []) rfl rfl rfl ?_
        refine ⟨rfl, ?_⟩
        refine hC _ _ _ _ _ (bRn_e (fun r14 s12 q15 k13 => ?_)) ((k7.1 c10).2 c11)
        show A (17, [.ref 12, .int (bn x1), .float 0], [.int (bn r14)], s12)
        refine bGo hA 1 1 (31, .iconst (-1), 1, 18, 0, [], [(-1, 0)]) rfl rfl rfl ?_
        refine bEqI bl_m1 ?_
        refine bGo hA 1 2 (32, .if_icmp .eq (7), 3, 19, 21, [], []) rfl rfl rfl ?_
        refine bB_eq (x := r14) (y := (-1)) q15 (by decide : bRg (-1)) (fun c16 => ?_) (fun c16 => ?_)
        · exact (k13.1 c16)
        · exact (k13.2 c16)
    · exact (k7.2 c10)
  · exact (k2.2 c5)

theorem sq293_21 {lvl : Nat} {C : bCall} {Q : bPost} {A : bPt → Prop} (hC : bMono C) (hA : bClosed lvl bm293 C Q A) {l1 : Int} {v2 : Value} {σ : bSt}  (h_l1 : bRg l1)
  (h : (((bi σ 12 87) = 0 → (C 279 [.ref 12, .int (bn l1)] σ (bRn (fun r5 s3 => ((r5 = (-1) → Q (.inl (some (.int (bn 0)))) s3) ∧ (¬ r5 = (-1) → Q (.inl (some (.int (bn 1)))) s3)))))) ∧ (¬ (bi σ 12 87) = 0 → ((0 ≤ l1 ∧ l1 < 120) ∧ ((0 ≤ (bi σ 107 l1) ∧ (bi σ 107 l1) < 16) ∧ (((bi σ 91 (bi σ 107 l1)) = 0 → (C 279 [.ref 12, .int (bn l1)] σ (bRn (fun r11 s9 => ((r11 = (-1) → Q (.inl (some (.int (bn 0)))) s9) ∧ (¬ r11 = (-1) → Q (.inl (some (.int (bn 1)))) s9)))))) ∧ (¬ (bi σ 91 (bi σ 107 l1)) = 0 → Q (.inl (some (.int (bn 1)))) σ))))))) : A (21, [.ref 12, .int (bn l1), v2], [], σ) := by
  refine bGo hA 1 5 (39, .iconst (0), 1, 22, 0, [], [(0, 0)]) rfl rfl rfl ?_
  refine bEqI bl_0 ?_
  refine bGo hA 1 6 (40, .istore_n 2, 1, 23, 0, [2], []) rfl rfl rfl ?_
  refine bGo hA 1 7 (41, .iload_n 2, 1, 24, 0, [2], []) rfl rfl rfl ?_
  refine bGo hA 1 8 (42, .ifCond .ne (33), 3, 25, 41, [], []) rfl rfl rfl ?_
  refine ⟨fun _ => ?_, fun c => absurd (by decide) c⟩
  refine bGo hA 1 9 (45, .aload_n 0, 1, 26, 0, [0], []) rfl rfl rfl ?_
  refine bGo hA 1 10 (46, .getfield 309, 3, 27, 0, [12, 87, 1, 0, 0, 0], []) rfl rfl rfl ?_
  refine ⟨rfl, ?_⟩
  refine bEqI (bn_bi σ 12 87) ?_
  refine bGo hA 1 11 (49, .ifCond .eq (17), 3, 28, 36, [], []) rfl rfl rfl ?_
  refine bB_eq0 (x := (bi σ 12 87)) (bi_rg _ _ _) (fun c2 => ?_) (fun c2 => ?_)
  · refine bGo hA 2 4 (66, .aload_n 0, 1, 37, 0, [0], []) rfl rfl rfl ?_
    refine bGo hA 2 5 (67, .iload_n 1, 1, 38, 0, [1], []) rfl rfl rfl ?_
    refine bGo hA 2 6 (68, .invokevirtual 545, 3, 39, 0, [0, 12, 279, 1], []) rfl rfl rfl ?_
    refine ⟨rfl, ?_⟩
    refine hC _ _ _ _ _ (bRn_e (fun r5 s3 q6 k4 => ?_)) (h.1 c2)
    show A (39, [.ref 12, .int (bn l1), .int (bn 0)], [.int (bn r5)], s3)
    refine bGo hA 2 7 (71, .iconst (-1), 1, 40, 0, [], [(-1, 0)]) rfl rfl rfl ?_
    refine bEqI bl_m1 ?_
    refine bGo hA 2 8 (72, .if_icmp .eq (7), 3, 41, 43, [], []) rfl rfl rfl ?_
    refine bB_eq (x := r5) (y := (-1)) q6 (by decide : bRg (-1)) (fun c7 => ?_) (fun c7 => ?_)
    · refine bGo hA 2 11 (79, .iconst (0), 1, 44, 0, [], [(0, 0)]) rfl rfl rfl ?_
      refine bEqI bl_0 ?_
      refine bGo hA 2 12 (80, .ireturn, 1, 0, 0, [2], []) rfl rfl rfl ?_
      exact ⟨b01 (Or.inl rfl), (k4.1 c7)⟩
    · refine bGo hA 2 9 (75, .iconst (1), 1, 42, 0, [], [(1, 0)]) rfl rfl rfl ?_
      refine bEqI bl_1 ?_
      refine bGo hA 2 10 (76, .goto (4), 3, 43, 44, [], []) rfl rfl rfl ?_
      refine bGo hA 2 12 (80, .ireturn, 1, 0, 0, [2], []) rfl rfl rfl ?_
      exact ⟨b01 (Or.inr rfl), (k4.2 c7)⟩
  · refine bGo hA 1 12 (52, .aload_n 0, 1, 29, 0, [0], []) rfl rfl rfl ?_
    refine bGo hA 1 13 (53, .getfield 116, 3, 30, 0, [12, 39, 3, 91, 1, 0], []) rfl rfl rfl ?_
    refine ⟨rfl, ?_⟩
    refine bGo hA 1 14 (56, .aload_n 0, 1, 31, 0, [0], []) rfl rfl rfl ?_
    refine bGo hA 1 15 (57, .getfield 164, 3, 32, 0, [12, 56, 3, 107, 1, 0], []) rfl rfl rfl ?_
    refine ⟨rfl, ?_⟩
    refine bGo hA 2 0 (60, .iload_n 1, 1, 33, 0, [1], []) rfl rfl rfl ?_
    refine bGo hA 2 1 (61, .iaload, 1, 34, 0, [], []) rfl rfl rfl ?_
    refine ⟨rfl, (bIxP (x := l1) (n := 120) h_l1 (h.2 c2).1), ?_⟩
    refine bEqL (x := l1) h_l1 ?_
    refine bGo hA 2 2 (62, .baload, 1, 35, 0, [], []) rfl rfl rfl ?_
    refine ⟨rfl, (bIxP (x := (bi σ 107 l1)) (n := 16) (bi_rg _ _ _) (h.2 c2).2.1), ?_⟩
    refine bEqL (x := (bi σ 107 l1)) (bi_rg _ _ _) ?_
    refine bGo hA 2 3 (63, .ifCond .ne (12), 3, 36, 41, [], []) rfl rfl rfl ?_
    refine bB_eq0 (x := (bi σ 91 (bi σ 107 l1))) (bi_rg _ _ _) (fun c8 => ?_) (fun c8 => ?_)
    · refine bGo hA 2 4 (66, .aload_n 0, 1, 37, 0, [0], []) rfl rfl rfl ?_
      refine bGo hA 2 5 (67, .iload_n 1, 1, 38, 0, [1], []) rfl rfl rfl ?_
      refine bGo hA 2 6 (68, .invokevirtual 545, 3, 39, 0, [0, 12, 279, 1], []) rfl rfl rfl ?_
      refine ⟨rfl, ?_⟩
      refine hC _ _ _ _ _ (bRn_e (fun r11 s9 q12 k10 => ?_)) ((h.2 c2).2.2.1 c8)
      show A (39, [.ref 12, .int (bn l1), .int (bn 0)], [.int (bn r11)], s9)
      refine bGo hA 2 7 (71, .iconst (-1), 1, 40, 0, [], [(-1, 0)]) rfl rfl rfl ?_
      refine bEqI bl_m1 ?_
      refine bGo hA 2 8 (72, .if_icmp .eq (7), 3, 41, 43, [], []) rfl rfl rfl ?_
      refine bB_eq (x := r11) (y := (-1)) q12 (by decide : bRg (-1)) (fun c13 => ?_) (fun c13 => ?_)
      · refine bGo hA 2 11 (79, .iconst (0), 1, 44, 0, [], [(0, 0)]) rfl rfl rfl ?_
        refine bEqI bl_0 ?_
        refine bGo hA 2 12 (80, .ireturn, 1, 0, 0, [2], []) rfl rfl rfl ?_
        exact ⟨b01 (Or.inl rfl), (k10.1 c13)⟩
      · refine bGo hA 2 9 (75, .iconst (1), 1, 42, 0, [], [(1, 0)]) rfl rfl rfl ?_
        refine bEqI bl_1 ?_
        refine bGo hA 2 10 (76, .goto (4), 3, 43, 44, [], []) rfl rfl rfl ?_
        refine bGo hA 2 12 (80, .ireturn, 1, 0, 0, [2], []) rfl rfl rfl ?_
        exact ⟨b01 (Or.inr rfl), (k10.2 c13)⟩
    · refine bGo hA 2 9 (75, .iconst (1), 1, 42, 0, [], [(1, 0)]) rfl rfl rfl ?_
      refine bEqI bl_1 ?_
      refine bGo hA 2 10 (76, .goto (4), 3, 43, 44, [], []) rfl rfl rfl ?_
      refine bGo hA 2 12 (80, .ireturn, 1, 0, 0, [2], []) rfl rfl rfl ?_
      exact ⟨b01 (Or.inr rfl), ((h.2 c2).2.2.2 c8)⟩

theorem sq293_19 {lvl : Nat} {C : bCall} {Q : bPost} {A : bPt → Prop} (hC : bMono C) (hA : bClosed lvl bm293 C Q A) {l1 : Int} {v2 : Value} {σ : bSt}  (h_l1 : bRg l1)
  (h : Q (.inl (some (.int (bn 1)))) σ) : A (19, [.ref 12, .int (bn l1), v2], [], σ) := by
  refine bGo hA 1 3 (35, .iconst (1), 1, 20, 0, [], [(1, 0)]) rfl rfl rfl ?_
  refine bEqI bl_1 ?_
  refine bGo hA 1 4 (36, .goto (4), 3, 21, 22, [], []) rfl rfl rfl ?_
  refine bGo hA 1 6 (40, .istore_n 2, 1, 23, 0, [2], []) rfl rfl rfl ?_
  refine bGo hA 1 7 (41, .iload_n 2, 1, 24, 0, [2], []) rfl rfl rfl ?_
  refine bGo hA 1 8 (42, .ifCond .ne (33), 3, 25, 41, [], []) rfl rfl rfl ?_
  refine ⟨fun c => absurd c (by decide), fun _ => ?_⟩
  refine bGo hA 2 9 (75, .iconst (1), 1, 42, 0, [], [(1, 0)]) rfl rfl rfl ?_
  refine bEqI bl_1 ?_
  refine bGo hA 2 10 (76, .goto (4), 3, 43, 44, [], []) rfl rfl rfl ?_
  refine bGo hA 2 12 (80, .ireturn, 1, 0, 0, [2], []) rfl rfl rfl ?_
  exact ⟨b01 (Or.inr rfl), h⟩

theorem sq294_0 {lvl : Nat} {C : bCall} {Q : bPost} {A : bPt → Prop} (hC : bMono C) (hA : bClosed lvl bm294 C Q A) {x1 : Int} {σ : bSt}  (h_x1 : bRg x1)
  (h : ((0 ≤ x1 ∧ x1 < 120) ∧ (C 267 [.ref 12, .int (bn x1), .int (bn 0)] (bw σ 143 x1 (bi σ 12 105)) (bRn (fun r3 s1 => (C 271 [.ref 12, .int (bn x1)] s1 (bRn (fun r7 s5 => ((r7 = 0 → ((r3 = (-1) → (((bi s5 12 87) = 0 → (C 296 [.ref 12, .int (bn x1)] s5 (bRv (fun s12 => Q (.inl none) s12)))) ∧ (¬ (bi s5 12 87) = 0 → (C 267 [.ref 12, .int (bn x1), .int (bn 1)] s5 (bRn (fun r16 s14 => ((r16 = (-1) → (C 296 [.ref 12, .int (bn x1)] s14 (bRv (fun s19 => Q (.inl none) s19)))) ∧ (¬ r16 = (-1) → (C 267 [.ref 12, .int (bn x1), .int (bn 1)] s14 (bRn (fun r23 s21 => (C 268 [.ref 12, .int (bn x1), .int (bn r23)] s21 (bRv (fun s25 => (bRg ((bi s25 12 105) + (bi s25 12 88)) ∧ Q (.inl none) (bw (bw s25 147 x1 1) 146 x1 ((bi s25 12 105) + (bi s25 12 88)))))))))))))))))) ∧ (¬ r3 = (-1) → (C 268 [.ref 12, .int (bn x1), .int (bn r3)] s5 (bRv (fun s27 => (bRg ((bi s27 12 73) + 1) ∧ ((0 ≤ r3 ∧ r3 < 80) ∧ (C 295 [.ref 12, .int (bn x1), .int (bn 1)] (bw (bw s27 12 73 ((bi s27 12 73) + 1)) 121 r3 ((bi s27 12 73) + 1)) (bRv (fun s29 => (C 272 [.ref 12, .int (bn x1)] s29 (bRv (fun s31 => Q (.inl none) s31)))))))))))))) ∧ (¬ r7 = 0 → (C 295 [.ref 12, .int (bn x1), .int (bn 0)] s5 (bRv (fun s33 => Q (.inl none) s33))))))))))))) : A (0, [.ref 12, .int (bn x1), .float 0], [], σ) := by
  refine bGo hA 0 0 (0, .aload_n 0, 1, 1, 0, [0], []) rfl rfl rfl ?_
  refine bGo hA 0 1 (1, .getfield 272, 3, 2, 0, [12, 99, 3, 143, 1, 0], []) rfl rfl rfl ?_
  refine ⟨rfl, ?_⟩
  refine bGo hA 0 2 (4, .iload_n 1, 1, 3, 0, [1], []) rfl rfl rfl ?_
  refine bGo hA 0 3 (5, .aload_n 0, 1, 4, 0, [0], []) rfl rfl rfl ?_
  refine bGo hA 0 4 (6, .getfield 480, 3, 5, 0, [12, 105, 0, 0, 0, 0], []) rfl rfl rfl ?_
  refine ⟨rfl, ?_⟩
  refine bEqI (bn_bi σ 12 105) ?_
  refine bGo hA 0 5 (9, .iastore, 1, 6, 0, [], []) rfl rfl rfl ?_
  refine ⟨rfl, (bIxP (x := x1) (n := 120) h_x1 h.1), by decide, ?_⟩
  refine bEqS (x := x1) h_x1 ?_
  refine bGo hA 0 6 (10, .aload_n 0, 1, 7, 0, [0], []) rfl rfl rfl ?_
  refine bGo hA 0 7 (11, .iload_n 1, 1, 8, 0, [1], []) rfl rfl rfl ?_
  refine bGo hA 0 8 (12, .iconst (0), 1, 9, 0, [], [(0, 0)]) rfl rfl rfl ?_
  refine bEqI bl_0 ?_
  refine bGo hA 0 9 (13, .invokevirtual 541, 3, 10, 0, [0, 12, 267, 2], []) rfl rfl rfl ?_
  refine ⟨rfl, ?_⟩
  refine hC _ _ _ _ _ (bRn_e (fun r3 s1 q4 k2 => ?_)) h.2
  show A (10, [.ref 12, .int (bn x1), .float 0], [.int (bn r3)], s1)
  refine bGo hA 0 10 (16, .istore_n 2, 1, 11, 0, [2], []) rfl rfl rfl ?_
  refine bGo hA 0 11 (17, .aload_n 0, 1, 12, 0, [0], []) rfl rfl rfl ?_
  refine bGo hA 0 12 (18, .iload_n 1, 1, 13, 0, [1], []) rfl rfl rfl ?_
  refine bGo hA 0 13 (19, .invokevirtual 538, 3, 14, 0, [0, 12, 271, 1], []) rfl rfl rfl ?_
  refine ⟨rfl, ?_⟩
  refine hC _ _ _ _ _ (bRn_e (fun r7 s5 q8 k6 => ?_)) k2
  show A (14, [.ref 12, .int (bn x1), .int (bn r3)], [.int (bn r7)], s5)
  refine bGo hA 0 14 (22, .ifCond .eq (12), 3, 15, 20, [], []) rfl rfl rfl ?_
  refine bB_eq0 (x := r7) q8 (fun c9 => ?_) (fun c9 => ?_)
  · refine bGo hA 1 4 (34, .iload_n 2, 1, 21, 0, [2], []) rfl rfl rfl ?_
    refine bGo hA 1 5 (35, .iconst (-1), 1, 22, 0, [], [(-1, 0)]) rfl rfl rfl ?_
    refine bEqI bl_m1 ?_
    refine bGo hA 1 6 (36, .if_icmp .eq (43), 3, 23, 47, [], []) rfl rfl rfl ?_
    refine bB_eq (x := r3) (y := (-1)) q4 (by decide : bRg (-1)) (fun c10 => ?_) (fun c10 => ?_)
    · refine bGo hA 2 15 (79, .aload_n 0, 1, 48, 0, [0], []) rfl rfl rfl ?_
      refine bGo hA 3 0 (80, .getfield 309, 3, 49, 0, [12, 87, 1, 0, 0, 0], []) rfl rfl rfl ?_
      refine ⟨rfl, ?_⟩
      refine bEqI (bn_bi s5 12 87) ?_
      refine bGo hA 3 1 (83, .ifCond .eq (49), 3, 50, 78, [], []) rfl rfl rfl ?_
      refine bB_eq0 (x := (bi s5 12 87)) (bi_rg _ _ _) (fun c11 => ?_) (fun c11 => ?_)
      · refine bGo hA 4 14 (132, .aload_n 0, 1, 79, 0, [0], []) rfl rfl rfl ?_
        refine bGo hA 4 15 (133, .iload_n 1, 1, 80, 0, [1], []) rfl rfl rfl ?_
        refine bGo hA 5 0 (134, .invokevirtual 557, 3, 81, 0, [0, 12, 296, 1], []) rfl rfl rfl ?_
        refine ⟨rfl, ?_⟩
        refine hC _ _ _ _ _ (bRv_e (fun s12 k13 => ?_)) (((k6.1 c9).1 c10).1 c11)
        show A (81, [.ref 12, .int (bn x1), .int (bn r3)], [], s12)
        refine bGo hA 5 1 (137, .return_, 1, 0, 0, [0], []) rfl rfl rfl ?_
        exact k13
      · refine bGo hA 3 2 (86, .aload_n 0, 1, 51, 0, [0], []) rfl rfl rfl ?_
        refine bGo hA 3 3 (87, .iload_n 1, 1, 52, 0, [1], []) rfl rfl rfl ?_
        refine bGo hA 3 4 (88, .iconst (1), 1, 53, 0, [], [(1, 0)]) rfl rfl rfl ?_
        refine bEqI bl_1 ?_
        refine bGo hA 3 5 (89, .invokevirtual 541, 3, 54, 0, [0, 12, 267, 2], []) rfl rfl rfl ?_
        refine ⟨rfl, ?_⟩
        refine hC _ _ _ _ _ (bRn_e (fun r16 s14 q17 k15 => ?_)) (((k6.1 c9).1 c10).2 c11)
        show A (54, [.ref 12, .int (bn x1), .int (bn r3)], [.int (bn r16)], s14)
        refine bGo hA 3 6 (92, .iconst (-1), 1, 55, 0, [], [(-1, 0)]) rfl rfl rfl ?_
        refine bEqI bl_m1 ?_
        refine bGo hA 3 7 (93, .if_icmp .eq (39), 3, 56, 78, [], []) rfl rfl rfl ?_
        refine bB_eq (x := r16) (y := (-1)) q17 (by decide : bRg (-1)) (fun c18 => ?_) (fun c18 => ?_)
        · refine bGo hA 4 14 (132, .aload_n 0, 1, 79, 0, [0], []) rfl rfl rfl ?_
          refine bGo hA 4 15 (133, .iload_n 1, 1, 80, 0, [1], []) rfl rfl rfl ?_
          refine bGo hA 5 0 (134, .invokevirtual 557, 3, 81, 0, [0, 12, 296, 1], []) rfl rfl rfl ?_
          refine ⟨rfl, ?_⟩
          refine hC _ _ _ _ _ (bRv_e (fun s19 k20 => ?_)) (k15.1 c18)
          show A (81, [.ref 12, .int (bn x1), .int (bn r3)], [], s19)
          refine bGo hA 5 1 (137, .return_, 1, 0, 0, [0], []) rfl rfl rfl ?_
          exact k20
        · refine bGo hA 3 8 (96, .aload_n 0, 1, 57, 0, [0], []) rfl rfl rfl ?_
          refine bGo hA 3 9 (97, .iload_n 1, 1, 58, 0, [1], []) rfl rfl rfl ?_
          refine bGo hA 3 10 (98, .aload_n 0, 1, 59, 0, [0], []) rfl rfl rfl ?_
          refine bGo hA 3 11 (99, .iload_n 1, 1, 60, 0, [1], []) rfl rfl rfl ?_
          refine bGo hA 3 12 (100, .iconst (1), 1, 61, 0, [], [(1, 0)]) rfl rfl rfl ?_
          refine bEqI bl_1 ?_
          refine bGo hA 3 13 (101, .invokevirtual 541, 3, 62, 0, [0, 12, 267, 2], []) rfl rfl rfl ?_
          refine ⟨rfl, ?_⟩
          refine hC _ _ _ _ _ (bRn_e (fun r23 s21 q24 k22 => ?_)) (k15.2 c18)
          show A (62, [.ref 12, .int (bn x1), .int (bn r3)], [.int (bn r23), .int (bn x1), .ref 12], s21)
          refine bGo hA 3 14 (104, .invokevirtual 551, 3, 63, 0, [0, 12, 268, 2], []) rfl rfl rfl ?_
          refine ⟨rfl, ?_⟩
          refine hC _ _ _ _ _ (bRv_e (fun s25 k26 => ?_)) k22
          show A (63, [.ref 12, .int (bn x1), .int (bn r3)], [], s25)
          refine bGo hA 3 15 (107, .aload_n 0, 1, 64, 0, [0], []) rfl rfl rfl ?_
          refine bGo hA 4 0 (108, .getfield 284, 3, 65, 0, [12, 103, 3, 147, 1, 0], []) rfl rfl rfl ?_
          refine ⟨rfl, ?_⟩
          refine bGo hA 4 1 (111, .iload_n 1, 1, 66, 0, [1], []) rfl rfl rfl ?_
          refine bGo hA 4 2 (112, .iconst (1), 1, 67, 0, [], [(1, 0)]) rfl rfl rfl ?_
          refine bEqI bl_1 ?_
          refine bGo hA 4 3 (113, .bastore, 1, 68, 0, [], []) rfl rfl rfl ?_
          refine ⟨rfl, (bIxP (x := x1) (n := 120) h_x1 h.1), by decide, b01 (Or.inr rfl), ?_⟩
          refine bEqS (x := x1) h_x1 ?_
          refine bGo hA 4 4 (114, .aload_n 0, 1, 69, 0, [0], []) rfl rfl rfl ?_
          refine bGo hA 4 5 (115, .getfield 281, 3, 70, 0, [12, 102, 3, 146, 1, 0], []) rfl rfl rfl ?_
          refine ⟨rfl, ?_⟩
          refine bGo hA 4 6 (118, .iload_n 1, 1, 71, 0, [1], []) rfl rfl rfl ?_
          refine bGo hA 4 7 (119, .aload_n 0, 1, 72, 0, [0], []) rfl rfl rfl ?_
          refine bGo hA 4 8 (120, .getfield 480, 3, 73, 0, [12, 105, 0, 0, 0, 0], []) rfl rfl rfl ?_
          refine ⟨rfl, ?_⟩
          refine bEqI ((bn_bi (bw s25 147 x1 1) 12 105).trans (congrArg bn (bi_ne (by decide)))) ?_
          refine bGo hA 4 9 (123, .aload_n 0, 1, 74, 0, [0], []) rfl rfl rfl ?_
          refine bGo hA 4 10 (124, .getfield 312, 3, 75, 0, [12, 88, 0, 0, 0, 0], []) rfl rfl rfl ?_
          refine ⟨rfl, ?_⟩
          refine bEqI ((bn_bi (bw s25 147 x1 1) 12 88).trans (congrArg bn (bi_ne (by decide)))) ?_
          refine bGo hA 4 11 (127, .iadd, 1, 76, 0, [], []) rfl rfl rfl ?_
          refine bEqI (bn_add (bi s25 12 105) (bi s25 12 88)) ?_
          refine bGo hA 4 12 (128, .iastore, 1, 77, 0, [], []) rfl rfl rfl ?_
          refine ⟨rfl, (bIxP (x := x1) (n := 120) h_x1 h.1), by decide, ?_⟩
          refine bEqS (x := x1) h_x1 ?_
          refine bGo hA 4 13 (129, .goto (8), 3, 78, 81, [], []) rfl rfl rfl ?_
          refine bGo hA 5 1 (137, .return_, 1, 0, 0, [0], []) rfl rfl rfl ?_
          exact k26.2
    · refine bGo hA 1 7 (39, .aload_n 0, 1, 24, 0, [0], []) rfl rfl rfl ?_
      refine bGo hA 1 8 (40, .iload_n 1, 1, 25, 0, [1], []) rfl rfl rfl ?_
      refine bGo hA 1 9 (41, .iload_n 2, 1, 26, 0, [2], []) rfl rfl rfl ?_
      refine bGo hA 1 10 (42, .invokevirtual 551, 3, 27, 0, [0, 12, 268, 2], []) rfl rfl rfl ?_
      refine ⟨rfl, ?_⟩
      refine hC _ _ _ _ _ (bRv_e (fun s27 k28 => ?_)) ((k6.1 c9).2 c10)
      show A (27, [.ref 12, .int (bn x1), .int (bn r3)], [], s27)
      refine bGo hA 1 11 (45, .aload_n 0, 1, 28, 0, [0], []) rfl rfl rfl ?_
      refine bGo hA 1 12 (46, .dup, 1, 29, 0, [], []) rfl rfl rfl ?_
      refine bGo hA 1 13 (47, .getfield 477, 3, 30, 0, [12, 73, 0, 0, 0, 0], []) rfl rfl rfl ?_
      refine ⟨rfl, ?_⟩
      refine bEqI (bn_bi s27 12 73) ?_
      refine bGo hA 1 14 (50, .iconst (1), 1, 31, 0, [], [(1, 0)]) rfl rfl rfl ?_
      refine bEqI bl_1 ?_
      refine bGo hA 1 15 (51, .iadd, 1, 32, 0, [], []) rfl rfl rfl ?_
      refine bEqI (bn_add (bi s27 12 73) 1) ?_
      refine bGo hA 2 0 (52, .putfield 477, 3, 33, 0, [12, 73, 0, 0, 0, 0], []) rfl rfl rfl ?_
      refine ⟨rfl, ?_⟩
      refine bGo hA 2 1 (55, .aload_n 0, 1, 34, 0, [0], []) rfl rfl rfl ?_
      refine bGo hA 2 2 (56, .getfield 206, 3, 35, 0, [12, 74, 3, 121, 1, 0], []) rfl rfl rfl ?_
      refine ⟨rfl, ?_⟩
      refine bGo hA 2 3 (59, .iload_n 2, 1, 36, 0, [2], []) rfl rfl rfl ?_
      refine bGo hA 2 4 (60, .aload_n 0, 1, 37, 0, [0], []) rfl rfl rfl ?_
      refine bGo hA 2 5 (61, .getfield 477, 3, 38, 0, [12, 73, 0, 0, 0, 0], []) rfl rfl rfl ?_
      refine ⟨rfl, ?_⟩
      refine bEqI ((bn_bi (bw s27 12 73 ((bi s27 12 73) + 1)) 12 73).trans (congrArg bn (bi_eq k28.1))) ?_
      refine bGo hA 2 6 (64, .iastore, 1, 39, 0, [], []) rfl rfl rfl ?_
      refine ⟨rfl, (bIxP (x := r3) (n := 80) q4 k28.2.1), by decide, ?_⟩
      refine bEqS (x := r3) q4 ?_
      refine bGo hA 2 7 (65, .aload_n 0, 1, 40, 0, [0], []) rfl rfl rfl ?_
      refine bGo hA 2 8 (66, .iload_n 1, 1, 41, 0, [1], []) rfl rfl rfl ?_
      refine bGo hA 2 9 (67, .iconst (1), 1, 42, 0, [], [(1, 0)]) rfl rfl rfl ?_
      refine bEqI bl_1 ?_
      refine bGo hA 2 10 (68, .invokevirtual 548, 3, 43, 0, [0, 12, 295, 2], []) rfl rfl rfl ?_
      refine ⟨rfl, ?_⟩
      refine hC _ _ _ _ _ (bRv_e (fun s29 k30 => ?_)) k28.2.2
      show A (43, [.ref 12, .int (bn x1), .int (bn r3)], [], s29)
      refine bGo hA 2 11 (71, .aload_n 0, 1, 44, 0, [0], []) rfl rfl rfl ?_
      refine bGo hA 2 12 (72, .iload_n 1, 1, 45, 0, [1], []) rfl rfl rfl ?_
      refine bGo hA 2 13 (73, .invokevirtual 554, 3, 46, 0, [0, 12, 272, 1], []) rfl rfl rfl ?_
      refine ⟨rfl, ?_⟩
      refine hC _ _ _ _ _ (bRv_e (fun s31 k32 => ?_)) k30
      show A (46, [.ref 12, .int (bn x1), .int (bn r3)], [], s31)
      refine bGo hA 2 14 (76, .goto (61), 3, 47, 81, [], []) rfl rfl rfl ?_
      refine bGo hA 5 1 (137, .return_, 1, 0, 0, [0], []) rfl rfl rfl ?_
      exact k32
  · refine bGo hA 0 15 (25, .aload_n 0, 1, 16, 0, [0], []) rfl rfl rfl ?_
    refine bGo hA 1 0 (26, .iload_n 1, 1, 17, 0, [1], []) rfl rfl rfl ?_
    refine bGo hA 1 1 (27, .iconst (0), 1, 18, 0, [], [(0, 0)]) rfl rfl rfl ?_
    refine bEqI bl_0 ?_
    refine bGo hA 1 2 (28, .invokevirtual 548, 3, 19, 0, [0, 12, 295, 2], []) rfl rfl rfl ?_
    refine ⟨rfl, ?_⟩
    refine hC _ _ _ _ _ (bRv_e (fun s33 k34 => ?_)) (k6.2 c9)
    show A (19, [.ref 12, .int (bn x1), .int (bn r3)], [], s33)
    refine bGo hA 1 3 (31, .goto (106), 3, 20, 81, [], []) rfl rfl rfl ?_
    refine bGo hA 5 1 (137, .return_, 1, 0, 0, [0], []) rfl rfl rfl ?_
    exact k34

theorem sq295_0 {lvl : Nat} {C : bCall} {Q : bPost} {A : bPt → Prop} (hC : bMono C) (hA : bClosed lvl bm295 C Q A) {x1 : Int} {x2 : Int} {σ : bSt}  (h_x1 : bRg x1) (h_x2 : bRg x2)
  (h : ((0 ≤ x1 ∧ x1 < 120) ∧ Q (.inl none) (bw (bw σ 142 x1 x2) 144 x1 (bi σ 12 105)))) : A (0, [.ref 12, .int (bn x1), .int (bn x2)], [], σ) := by
  refine bGo hA 0 0 (0, .aload_n 0, 1, 1, 0, [0], []) rfl rfl rfl ?_
  refine bGo hA 0 1 (1, .getfield 269, 3, 2, 0, [12, 98, 3, 142, 1, 0], []) rfl rfl rfl ?_
  refine ⟨rfl, ?_⟩
  refine bGo hA 0 2 (4, .iload_n 1, 1, 3, 0, [1], []) rfl rfl rfl ?_
  refine bGo hA 0 3 (5, .iload_n 2, 1, 4, 0, [2], []) rfl rfl rfl ?_
  refine bGo hA 0 4 (6, .iastore, 1, 5, 0, [], []) rfl rfl rfl ?_
  refine ⟨rfl, (bIxP (x := x1) (n := 120) h_x1 h.1), by decide, ?_⟩
  refine bEqS (x := x1) h_x1 ?_
  refine bGo hA 0 5 (7, .aload_n 0, 1, 6, 0, [0], []) rfl rfl rfl ?_
  refine bGo hA 0 6 (8, .getfield 275, 3, 7, 0, [12, 100, 3, 144, 1, 0], []) rfl rfl rfl ?_
  refine ⟨rfl, ?_⟩
  refine bGo hA 0 7 (11, .iload_n 1, 1, 8, 0, [1], []) rfl rfl rfl ?_
  refine bGo hA 0 8 (12, .aload_n 0, 1, 9, 0, [0], []) rfl rfl rfl ?_
  refine bGo hA 0 9 (13, .getfield 480, 3, 10, 0, [12, 105, 0, 0, 0, 0], []) rfl rfl rfl ?_
  refine ⟨rfl, ?_⟩
  refine bEqI ((bn_bi (bw σ 142 x1 x2) 12 105).trans (congrArg bn (bi_ne (by decide)))) ?_
  refine bGo hA 0 10 (16, .iastore, 1, 11, 0, [], []) rfl rfl rfl ?_
  refine ⟨rfl, (bIxP (x := x1) (n := 120) h_x1 h.1), by decide, ?_⟩
  refine bEqS (x := x1) h_x1 ?_
  refine bGo hA 0 11 (17, .return_, 1, 0, 0, [0], []) rfl rfl rfl ?_
  exact h.2

theorem sq296_0 {lvl : Nat} {C : bCall} {Q : bPost} {A : bPt → Prop} (hC : bMono C) (hA : bClosed lvl bm296 C Q A) {x1 : Int} {σ : bSt}  (h_x1 : bRg x1)
  (h : ((0 ≤ x1 ∧ x1 < 120) ∧ A (7, [.ref 12, .int (bn x1), .int (bn (bi σ 105 x1)), .int (bn 0), .float 0, .float 0], [], σ))) : A (0, [.ref 12, .int (bn x1), .float 0, .float 0, .float 0, .float 0], [], σ) := by
  refine bGo hA 0 0 (0, .aload_n 0, 1, 1, 0, [0], []) rfl rfl rfl ?_
  refine bGo hA 0 1 (1, .getfield 158, 3, 2, 0, [12, 54, 3, 105, 1, 0], []) rfl rfl rfl ?_
  refine ⟨rfl, ?_⟩
  refine bGo hA 0 2 (4, .iload_n 1, 1, 3, 0, [1], []) rfl rfl rfl ?_
  refine bGo hA 0 3 (5, .iaload, 1, 4, 0, [], []) rfl rfl rfl ?_
  refine ⟨rfl, (bIxP (x := x1) (n := 120) h_x1 h.1), ?_⟩
  refine bEqL (x := x1) h_x1 ?_
  refine bGo hA 0 4 (6, .istore_n 2, 1, 5, 0, [2], []) rfl rfl rfl ?_
  refine bGo hA 0 5 (7, .iconst (0), 1, 6, 0, [], [(0, 0)]) rfl rfl rfl ?_
  refine bEqI bl_0 ?_
  refine bGo hA 0 6 (8, .istore_n 3, 1, 7, 0, [3], []) rfl rfl rfl ?_
  exact h.2

theorem sq296_7 {lvl : Nat} {C : bCall} {Q : bPost} {A : bPt → Prop} (hC : bMono C) (hA : bClosed lvl bm296 C Q A) {l1 : Int} {l2 : Int} {l3 : Int} {v4 : Value} {v5 : Value} {σ : bSt}  (h_l1 : bRg l1) (h_l2 : bRg l2) (h_l3 : bRg l3)
  (h : ((l3 < l2 → (bRg (40 * l1) ∧ (bRg ((40 * l1) + l3) ∧ ((0 ≤ ((40 * l1) + l3) ∧ ((40 * l1) + l3) < 4800) ∧ (C 262 [.ref 12, .int (bn (bi σ 106 ((40 * l1) + l3)))] σ (bRn (fun r4 s2 => ((0 ≤ l3 ∧ l3 < 64) ∧ (bRg (l3 + 1) ∧ A (7, [.ref 12, .int (bn l1), .int (bn l2), .int (bn (l3 + 1)), v4, v5], [], (bw s2 119 l3 r4))))))))))) ∧ (¬ l3 < l2 → ((0 ≤ l1 ∧ l1 < 120) ∧ (bRg ((bi σ 102 l1) + (bi σ 103 l1)) ∧ (C 261 [.ref 12, .int (bn l1)] σ (bRj (fun r8 s6 => (C 259 [.ref 12, .int (bn (bi σ 101 l1)), .int (bn ((bi σ 102 l1) + (bi σ 103 l1))), .int (bn l2), .int (bn (bi σ 104 l1)), .long r8] s6 (bRn (fun r11 s9 => (((bi s9 12 72) = 0 ∨ (bi s9 12 72) = 1) ∧ A (67, [.ref 12, .int (bn l1), .int (bn l2), .int (bn 0), v4, v5], [], (bw (bw (bw s9 130 l1 r11) 131 l1 (bi s9 12 70)) 133 l1 (bi s9 12 72))))))))))))))) : A (7, [.ref 12, .int (bn l1), .int (bn l2), .int (bn l3), v4, v5], [], σ) := by
  refine bGo hA 0 7 (9, .iload_n 3, 1, 8, 0, [3], []) rfl rfl rfl ?_
  refine bGo hA 0 8 (10, .iload_n 2, 1, 9, 0, [2], []) rfl rfl rfl ?_
  refine bGo hA 0 9 (11, .if_icmp .ge (30), 3, 10, 26, [], []) rfl rfl rfl ?_
  refine bB_lt (x := l3) (y := l2) h_l3 h_l2 (fun c1 => ?_) (fun c1 => ?_)
  · refine bGo hA 0 10 (14, .aload_n 0, 1, 11, 0, [0], []) rfl rfl rfl ?_
    refine bGo hA 0 11 (15, .getfield 200, 3, 12, 0, [12, 69, 3, 119, 1, 0], []) rfl rfl rfl ?_
    refine ⟨rfl, ?_⟩
    refine bGo hA 0 12 (18, .iload_n 3, 1, 13, 0, [3], []) rfl rfl rfl ?_
    refine bGo hA 0 13 (19, .aload_n 0, 1, 14, 0, [0], []) rfl rfl rfl ?_
    refine bGo hA 0 14 (20, .aload_n 0, 1, 15, 0, [0], []) rfl rfl rfl ?_
    refine bGo hA 0 15 (21, .getfield 161, 3, 16, 0, [12, 55, 3, 106, 1, 0], []) rfl rfl rfl ?_
    refine ⟨rfl, ?_⟩
    refine bGo hA 1 0 (24, .bipush (40), 2, 17, 0, [], [(40, 0)]) rfl rfl rfl ?_
    refine bEqI bl_40 ?_
    refine bGo hA 1 1 (26, .iload_n 1, 1, 18, 0, [1], []) rfl rfl rfl ?_
    refine bGo hA 1 2 (27, .imul, 1, 19, 0, [], []) rfl rfl rfl ?_
    refine bEqI (bn_mul 40 l1) ?_
    refine bGo hA 1 3 (28, .iload_n 3, 1, 20, 0, [3], []) rfl rfl rfl ?_
    refine bGo hA 1 4 (29, .iadd, 1, 21, 0, [], []) rfl rfl rfl ?_
    refine bEqI (bn_add (40 * l1) l3) ?_
    refine bGo hA 1 5 (30, .iaload, 1, 22, 0, [], []) rfl rfl rfl ?_
    refine ⟨rfl, (bIxP (x := ((40 * l1) + l3)) (n := 4800) (h.1 c1).2.1 (h.1 c1).2.2.1), ?_⟩
    refine bEqL (x := ((40 * l1) + l3)) (h.1 c1).2.1 ?_
    refine bGo hA 1 6 (31, .invokevirtual 459, 3, 23, 0, [0, 12, 262, 1], []) rfl rfl rfl ?_
    refine ⟨rfl, ?_⟩
    refine hC _ _ _ _ _ (bRn_e (fun r4 s2 q5 k3 => ?_)) (h.1 c1).2.2.2
    show A (23, [.ref 12, .int (bn l1), .int (bn l2), .int (bn l3), v4, v5], [.int (bn r4), .int (bn l3), .ref 119], s2)
    refine bGo hA 1 7 (34, .iastore, 1, 24, 0, [], []) rfl rfl rfl ?_
    refine ⟨rfl, (bIxP (x := l3) (n := 64) h_l3 k3.1), by decide, ?_⟩
    refine bEqS (x := l3) h_l3 ?_
    refine bGo hA 1 8 (35, .iinc 3 (1), 3, 25, 0, [3], [(1, 0)]) rfl rfl rfl ?_
    refine bEqC (fun v => A (25, [.ref 12, .int (bn l1), .int (bn l2), .int v, v4, v5], [], (bw s2 119 l3 r4))) ((congrArg (fun w => bn l3 + w) bl_1).trans (bn_add l3 1)) ?_
    refine bGo hA 1 9 (38, .goto (-29), 3, 26, 7, [], []) rfl rfl rfl ?_
    exact k3.2.2
  · refine bGo hA 1 10 (41, .aload_n 0, 1, 27, 0, [0], []) rfl rfl rfl ?_
    refine bGo hA 1 11 (42, .getfield 233, 3, 28, 0, [12, 83, 3, 130, 1, 0], []) rfl rfl rfl ?_
    refine ⟨rfl, ?_⟩
    refine bGo hA 1 12 (45, .iload_n 1, 1, 29, 0, [1], []) rfl rfl rfl ?_
    refine bGo hA 1 13 (46, .aload_n 0, 1, 30, 0, [0], []) rfl rfl rfl ?_
    refine bGo hA 1 14 (47, .aload_n 0, 1, 31, 0, [0], []) rfl rfl rfl ?_
    refine bGo hA 1 15 (48, .getfield 146, 3, 32, 0, [12, 50, 3, 101, 1, 0], []) rfl rfl rfl ?_
    refine ⟨rfl, ?_⟩
    refine bGo hA 2 0 (51, .iload_n 1, 1, 33, 0, [1], []) rfl rfl rfl ?_
    refine bGo hA 2 1 (52, .iaload, 1, 34, 0, [], []) rfl rfl rfl ?_
    refine ⟨rfl, (bIxP (x := l1) (n := 120) h_l1 (h.2 c1).1), ?_⟩
    refine bEqL (x := l1) h_l1 ?_
    refine bGo hA 2 2 (53, .aload_n 0, 1, 35, 0, [0], []) rfl rfl rfl ?_
    refine bGo hA 2 3 (54, .getfield 149, 3, 36, 0, [12, 51, 3, 102, 1, 0], []) rfl rfl rfl ?_
    refine ⟨rfl, ?_⟩
    refine bGo hA 2 4 (57, .iload_n 1, 1, 37, 0, [1], []) rfl rfl rfl ?_
    refine bGo hA 2 5 (58, .iaload, 1, 38, 0, [], []) rfl rfl rfl ?_
    refine ⟨rfl, (bIxP (x := l1) (n := 120) h_l1 (h.2 c1).1), ?_⟩
    refine bEqL (x := l1) h_l1 ?_
    refine bGo hA 2 6 (59, .aload_n 0, 1, 39, 0, [0], []) rfl rfl rfl ?_
    refine bGo hA 2 7 (60, .getfield 152, 3, 40, 0, [12, 52, 3, 103, 1, 0], []) rfl rfl rfl ?_
    refine ⟨rfl, ?_⟩
    refine bGo hA 2 8 (63, .iload_n 1, 1, 41, 0, [1], []) rfl rfl rfl ?_
    refine bGo hA 2 9 (64, .iaload, 1, 42, 0, [], []) rfl rfl rfl ?_
    refine ⟨rfl, (bIxP (x := l1) (n := 120) h_l1 (h.2 c1).1), ?_⟩
    refine bEqL (x := l1) h_l1 ?_
    refine bGo hA 2 10 (65, .iadd, 1, 43, 0, [], []) rfl rfl rfl ?_
    refine bEqI (bn_add (bi σ 102 l1) (bi σ 103 l1)) ?_
    refine bGo hA 2 11 (66, .iload_n 2, 1, 44, 0, [2], []) rfl rfl rfl ?_
    refine bGo hA 2 12 (67, .aload_n 0, 1, 45, 0, [0], []) rfl rfl rfl ?_
    refine bGo hA 2 13 (68, .getfield 155, 3, 46, 0, [12, 53, 3, 104, 1, 0], []) rfl rfl rfl ?_
    refine ⟨rfl, ?_⟩
    refine bGo hA 2 14 (71, .iload_n 1, 1, 47, 0, [1], []) rfl rfl rfl ?_
    refine bGo hA 2 15 (72, .iaload, 1, 48, 0, [], []) rfl rfl rfl ?_
    refine ⟨rfl, (bIxP (x := l1) (n := 120) h_l1 (h.2 c1).1), ?_⟩
    refine bEqL (x := l1) h_l1 ?_
    refine bGo hA 3 0 (73, .aload_n 0, 1, 49, 0, [0], []) rfl rfl rfl ?_
    refine bGo hA 3 1 (74, .iload_n 1, 1, 50, 0, [1], []) rfl rfl rfl ?_
    refine bGo hA 3 2 (75, .invokevirtual 462, 3, 51, 0, [0, 12, 261, 1], []) rfl rfl rfl ?_
    refine ⟨rfl, ?_⟩
    refine hC _ _ _ _ _ (bRj_e (fun r8 s6 k7 => ?_)) (h.2 c1).2.2
    show A (51, [.ref 12, .int (bn l1), .int (bn l2), .int (bn l3), v4, v5], [.long r8, .int (bn (bi σ 104 l1)), .int (bn l2), .int (bn ((bi σ 102 l1) + (bi σ 103 l1))), .int (bn (bi σ 101 l1)), .ref 12, .int (bn l1), .ref 130], s6)
    refine bGo hA 3 3 (78, .invokevirtual 455, 3, 52, 0, [0, 12, 259, 5], []) rfl rfl rfl ?_
    refine ⟨rfl, ?_⟩
    refine hC _ _ _ _ _ (bRn_e (fun r11 s9 q12 k10 => ?_)) k7
    show A (52, [.ref 12, .int (bn l1), .int (bn l2), .int (bn l3), v4, v5], [.int (bn r11), .int (bn l1), .ref 130], s9)
    refine bGo hA 3 4 (81, .iastore, 1, 53, 0, [], []) rfl rfl rfl ?_
    refine ⟨rfl, (bIxP (x := l1) (n := 120) h_l1 (h.2 c1).1), by decide, ?_⟩
    refine bEqS (x := l1) h_l1 ?_
    refine bGo hA 3 5 (82, .aload_n 0, 1, 54, 0, [0], []) rfl rfl rfl ?_
    refine bGo hA 3 6 (83, .getfield 236, 3, 55, 0, [12, 84, 3, 131, 1, 0], []) rfl rfl rfl ?_
    refine ⟨rfl, ?_⟩
    refine bGo hA 3 7 (86, .iload_n 1, 1, 56, 0, [1], []) rfl rfl rfl ?_
    refine bGo hA 3 8 (87, .aload_n 0, 1, 57, 0, [0], []) rfl rfl rfl ?_
    refine bGo hA 3 9 (88, .getfield 438, 3, 58, 0, [12, 70, 0, 0, 0, 0], []) rfl rfl rfl ?_
    refine ⟨rfl, ?_⟩
    refine bEqI ((bn_bi (bw s9 130 l1 r11) 12 70).trans (congrArg bn (bi_ne (by decide)))) ?_
    refine bGo hA 3 10 (91, .iastore, 1, 59, 0, [], []) rfl rfl rfl ?_
    refine ⟨rfl, (bIxP (x := l1) (n := 120) h_l1 (h.2 c1).1), by decide, ?_⟩
    refine bEqS (x := l1) h_l1 ?_
    refine bGo hA 3 11 (92, .aload_n 0, 1, 60, 0, [0], []) rfl rfl rfl ?_
    refine bGo hA 3 12 (93, .getfield 242, 3, 61, 0, [12, 86, 3, 133, 1, 0], []) rfl rfl rfl ?_
    refine ⟨rfl, ?_⟩
    refine bGo hA 3 13 (96, .iload_n 1, 1, 62, 0, [1], []) rfl rfl rfl ?_
    refine bGo hA 3 14 (97, .aload_n 0, 1, 63, 0, [0], []) rfl rfl rfl ?_
    refine bGo hA 3 15 (98, .getfield 441, 3, 64, 0, [12, 72, 1, 0, 0, 0], []) rfl rfl rfl ?_
    refine ⟨rfl, ?_⟩
    refine bEqI ((bn_bi (bw (bw s9 130 l1 r11) 131 l1 (bi s9 12 70)) 12 72).trans (congrArg bn ((bi_ne (by decide)).trans (bi_ne (by decide))))) ?_
    refine bGo hA 4 0 (101, .bastore, 1, 65, 0, [], []) rfl rfl rfl ?_
    refine ⟨rfl, (bIxP (x := l1) (n := 120) h_l1 (h.2 c1).1), by decide, b01 k10.1, ?_⟩
    refine bEqS (x := l1) h_l1 ?_
    refine bGo hA 4 1 (102, .iconst (0), 1, 66, 0, [], [(0, 0)]) rfl rfl rfl ?_
    refine bEqI bl_0 ?_
    refine bGo hA 4 2 (103, .istore_n 3, 1, 67, 0, [3], []) rfl rfl rfl ?_
    exact k10.2

theorem sq296_67 {lvl : Nat} {C : bCall} {Q : bPost} {A : bPt → Prop} (hC : bMono C) (hA : bClosed lvl bm296 C Q A) {l1 : Int} {v2 : Value} {l3 : Int} {v4 : Value} {v5 : Value} {σ : bSt}  (h_l1 : bRg l1) (h_l3 : bRg l3)
  (h : ((l3 < (bi σ 12 70) → (bRg (48 * l1) ∧ (bRg ((48 * l1) + l3) ∧ ((0 ≤ l3 ∧ l3 < 48) ∧ ((0 ≤ ((48 * l1) + l3) ∧ ((48 * l1) + l3) < 5760) ∧ (bRg (l3 + 1) ∧ A (67, [.ref 12, .int (bn l1), (bUnl v2), .int (bn (l3 + 1)), v4, v5], [], (bw σ 132 ((48 * l1) + l3) (bi σ 120 l3))))))))) ∧ (¬ l3 < (bi σ 12 70) → ((0 ≤ l1 ∧ l1 < 120) ∧ ((0 ≤ (bi σ 107 l1) ∧ (bi σ 107 l1) < 16) ∧ (C 279 [.ref 12, .int (bn l1)] σ (bRn (fun r4 s2 => ((r4 = (-1) → ((0 ≤ (bi s2 107 l1) ∧ (bi s2 107 l1) < 16) ∧ (((bi s2 91 (bi s2 107 l1)) = 0 → Q (.inl none) s2) ∧ (¬ (bi s2 91 (bi s2 107 l1)) = 0 → (((bi s2 12 87) = 0 → Q (.inl none) s2) ∧ (¬ (bi s2 12 87) = 0 → (bRg ((bi s2 12 105) + (bi σ 90 (bi σ 107 l1))) ∧ (bRg (((bi s2 12 105) + (bi σ 90 (bi σ 107 l1))) + (bi s2 12 88)) ∧ Q (.inl none) (bw s2 146 l1 (((bi s2 12 105) + (bi σ 90 (bi σ 107 l1))) + (bi s2 12 88))))))))))) ∧ (¬ r4 = (-1) → ((0 ≤ r4 ∧ r4 < 12) ∧ (((bi s2 137 r4) = (bi s2 103 l1) → (bRg ((bi σ 90 (bi σ 107 l1)) + 1) ∧ (0 ≤ ((bi σ 90 (bi σ 107 l1)) + 1) ∧ A (116, [.ref 12, .int (bn l1), (bUnl v2), .int (bn (bi σ 90 (bi σ 107 l1))), .int (bn r4), v5], [.int (bn (((bi σ 90 (bi σ 107 l1)) + 1) / 2))], s2)))) ∧ (¬ (bi s2 137 r4) = (bi s2 103 l1) → A (116, [.ref 12, .int (bn l1), (bUnl v2), .int (bn (bi σ 90 (bi σ 107 l1))), .int (bn r4), v5], [.int (bn (bi σ 90 (bi σ 107 l1)))], s2)))))))))))))) : A (67, [.ref 12, .int (bn l1), v2, .int (bn l3), v4, v5], [], σ) := by
  refine bGo hA 4 3 (104, .iload_n 3, 1, 68, 0, [3], []) rfl rfl rfl ?_
  refine bGo hA 4 4 (105, .aload_n 0, 1, 69, 0, [0], []) rfl rfl rfl ?_
  refine bGo hA 4 5 (106, .getfield 438, 3, 70, 0, [12, 70, 0, 0, 0, 0], []) rfl rfl rfl ?_
  refine ⟨rfl, ?_⟩
  refine bEqI (bn_bi σ 12 70) ?_
  refine bGo hA 4 6 (109, .if_icmp .ge (26), 3, 71, 85, [], []) rfl rfl rfl ?_
  refine bB_lt (x := l3) (y := (bi σ 12 70)) h_l3 (bi_rg _ _ _) (fun c1 => ?_) (fun c1 => ?_)
  · refine bGo hA 4 7 (112, .aload_n 0, 1, 72, 0, [0], []) rfl rfl rfl ?_
    refine bGo hA 4 8 (113, .getfield 239, 3, 73, 0, [12, 85, 3, 132, 1, 0], []) rfl rfl rfl ?_
    refine ⟨rfl, ?_⟩
    refine bGo hA 4 9 (116, .bipush (48), 2, 74, 0, [], [(48, 0)]) rfl rfl rfl ?_
    refine bEqI bl_48 ?_
    refine bGo hA 4 10 (118, .iload_n 1, 1, 75, 0, [1], []) rfl rfl rfl ?_
    refine bGo hA 4 11 (119, .imul, 1, 76, 0, [], []) rfl rfl rfl ?_
    refine bEqI (bn_mul 48 l1) ?_
    refine bGo hA 4 12 (120, .iload_n 3, 1, 77, 0, [3], []) rfl rfl rfl ?_
    refine bGo hA 4 13 (121, .iadd, 1, 78, 0, [], []) rfl rfl rfl ?_
    refine bEqI (bn_add (48 * l1) l3) ?_
    refine bGo hA 4 14 (122, .aload_n 0, 1, 79, 0, [0], []) rfl rfl rfl ?_
    refine bGo hA 4 15 (123, .getfield 203, 3, 80, 0, [12, 71, 3, 120, 1, 0], []) rfl rfl rfl ?_
    refine ⟨rfl, ?_⟩
    refine bGo hA 5 0 (126, .iload_n 3, 1, 81, 0, [3], []) rfl rfl rfl ?_
    refine bGo hA 5 1 (127, .iaload, 1, 82, 0, [], []) rfl rfl rfl ?_
    refine ⟨rfl, (bIxP (x := l3) (n := 48) h_l3 (h.1 c1).2.2.1), ?_⟩
    refine bEqL (x := l3) h_l3 ?_
    refine bGo hA 5 2 (128, .iastore, 1, 83, 0, [], []) rfl rfl rfl ?_
    refine ⟨rfl, (bIxP (x := ((48 * l1) + l3)) (n := 5760) (h.1 c1).2.1 (h.1 c1).2.2.2.1), by decide, ?_⟩
    refine bEqS (x := ((48 * l1) + l3)) (h.1 c1).2.1 ?_
    refine bGo hA 5 3 (129, .iinc 3 (1), 3, 84, 0, [3], [(1, 0)]) rfl rfl rfl ?_
    refine bEqC (fun v => A (84, [.ref 12, .int (bn l1), (bUnl v2), .int v, v4, v5], [], (bw σ 132 ((48 * l1) + l3) (bi σ 120 l3)))) ((congrArg (fun w => bn l3 + w) bl_1).trans (bn_add l3 1)) ?_
    refine bGo hA 5 4 (132, .goto (-28), 3, 85, 67, [], []) rfl rfl rfl ?_
    exact (h.1 c1).2.2.2.2.2
  · refine bGo hA 5 5 (135, .aload_n 0, 1, 86, 0, [0], []) rfl rfl rfl ?_
    refine bGo hA 5 6 (136, .getfield 113, 3, 87, 0, [12, 38, 3, 90, 1, 0], []) rfl rfl rfl ?_
    refine ⟨rfl, ?_⟩
    refine bGo hA 5 7 (139, .aload_n 0, 1, 88, 0, [0], []) rfl rfl rfl ?_
    refine bGo hA 5 8 (140, .getfield 164, 3, 89, 0, [12, 56, 3, 107, 1, 0], []) rfl rfl rfl ?_
    refine ⟨rfl, ?_⟩
    refine bGo hA 5 9 (143, .iload_n 1, 1, 90, 0, [1], []) rfl rfl rfl ?_
    refine bGo hA 5 10 (144, .iaload, 1, 91, 0, [], []) rfl rfl rfl ?_
    refine ⟨rfl, (bIxP (x := l1) (n := 120) h_l1 (h.2 c1).1), ?_⟩
    refine bEqL (x := l1) h_l1 ?_
    refine bGo hA 5 11 (145, .iaload, 1, 92, 0, [], []) rfl rfl rfl ?_
    refine ⟨rfl, (bIxP (x := (bi σ 107 l1)) (n := 16) (bi_rg _ _ _) (h.2 c1).2.1), ?_⟩
    refine bEqL (x := (bi σ 107 l1)) (bi_rg _ _ _) ?_
    refine bGo hA 5 12 (146, .istore_n 3, 1, 93, 0, [3], []) rfl rfl rfl ?_
    refine bGo hA 5 13 (147, .aload_n 0, 1, 94, 0, [0], []) rfl rfl rfl ?_
    refine bGo hA 5 14 (148, .iload_n 1, 1, 95, 0, [1], []) rfl rfl rfl ?_
    refine bGo hA 5 15 (149, .invokevirtual 545, 3, 96, 0, [0, 12, 279, 1], []) rfl rfl rfl ?_
    refine ⟨rfl, ?_⟩
    refine hC _ _ _ _ _ (bRn_e (fun r4 s2 q5 k3 => ?_)) (h.2 c1).2.2
    show A (96, [.ref 12, .int (bn l1), (bUnl v2), .int (bn (bi σ 90 (bi σ 107 l1))), v4, v5], [.int (bn r4)], s2)
    refine bGo hA 6 0 (152, .istore 4, 2, 97, 0, [4], []) rfl rfl rfl ?_
    refine bGo hA 6 1 (154, .iload 4, 2, 98, 0, [4], []) rfl rfl rfl ?_
    refine bGo hA 6 2 (156, .iconst (-1), 1, 99, 0, [], [(-1, 0)]) rfl rfl rfl ?_
    refine bEqI bl_m1 ?_
    refine bGo hA 6 3 (157, .if_icmp .eq (65), 3, 100, 139, [], []) rfl rfl rfl ?_
    refine bB_eq (x := r4) (y := (-1)) q5 (by decide : bRg (-1)) (fun c6 => ?_) (fun c6 => ?_)
    · refine bGo hA 8 11 (222, .aload_n 0, 1, 140, 0, [0], []) rfl rfl rfl ?_
      refine bGo hA 8 12 (223, .getfield 116, 3, 141, 0, [12, 39, 3, 91, 1, 0], []) rfl rfl rfl ?_
      refine ⟨rfl, ?_⟩
      refine bGo hA 8 13 (226, .aload_n 0, 1, 142, 0, [0], []) rfl rfl rfl ?_
      refine bGo hA 8 14 (227, .getfield 164, 3, 143, 0, [12, 56, 3, 107, 1, 0], []) rfl rfl rfl ?_
      refine ⟨rfl, ?_⟩
      refine bGo hA 8 15 (230, .iload_n 1, 1, 144, 0, [1], []) rfl rfl rfl ?_
      refine bGo hA 9 0 (231, .iaload, 1, 145, 0, [], []) rfl rfl rfl ?_
      refine ⟨rfl, (bIxP (x := l1) (n := 120) h_l1 (h.2 c1).1), ?_⟩
      refine bEqL (x := l1) h_l1 ?_
      refine bGo hA 9 1 (232, .baload, 1, 146, 0, [], []) rfl rfl rfl ?_
      refine ⟨rfl, (bIxP (x := (bi s2 107 l1)) (n := 16) (bi_rg _ _ _) (k3.1 c6).1), ?_⟩
      refine bEqL (x := (bi s2 107 l1)) (bi_rg _ _ _) ?_
      refine bGo hA 9 2 (233, .ifCond .eq (27), 3, 147, 161, [], []) rfl rfl rfl ?_
      refine bB_eq0 (x := (bi s2 91 (bi s2 107 l1))) (bi_rg _ _ _) (fun c7 => ?_) (fun c7 => ?_)
      · refine bGo hA 10 1 (260, .return_, 1, 0, 0, [0], []) rfl rfl rfl ?_
        exact ((k3.1 c6).2.1 c7)
      · refine bGo hA 9 3 (236, .aload_n 0, 1, 148, 0, [0], []) rfl rfl rfl ?_
        refine bGo hA 9 4 (237, .getfield 309, 3, 149, 0, [12, 87, 1, 0, 0, 0], []) rfl rfl rfl ?_
        refine ⟨rfl, ?_⟩
        refine bEqI (bn_bi s2 12 87) ?_
        refine bGo hA 9 5 (240, .ifCond .eq (20), 3, 150, 161, [], []) rfl rfl rfl ?_
        refine bB_eq0 (x := (bi s2 12 87)) (bi_rg _ _ _) (fun c8 => ?_) (fun c8 => ?_)
        · refine bGo hA 10 1 (260, .return_, 1, 0, 0, [0], []) rfl rfl rfl ?_
          exact (((k3.1 c6).2.2 c7).1 c8)
        · refine bGo hA 9 6 (243, .aload_n 0, 1, 151, 0, [0], []) rfl rfl rfl ?_
          refine bGo hA 9 7 (244, .getfield 281, 3, 152, 0, [12, 102, 3, 146, 1, 0], []) rfl rfl rfl ?_
          refine ⟨rfl, ?_⟩
          refine bGo hA 9 8 (247, .iload_n 1, 1, 153, 0, [1], []) rfl rfl rfl ?_
          refine bGo hA 9 9 (248, .aload_n 0, 1, 154, 0, [0], []) rfl rfl rfl ?_
          refine bGo hA 9 10 (249, .getfield 480, 3, 155, 0, [12, 105, 0, 0, 0, 0], []) rfl rfl rfl ?_
          refine ⟨rfl, ?_⟩
          refine bEqI (bn_bi s2 12 105) ?_
          refine bGo hA 9 11 (252, .iload_n 3, 1, 156, 0, [3], []) rfl rfl rfl ?_
          refine bGo hA 9 12 (253, .iadd, 1, 157, 0, [], []) rfl rfl rfl ?_
          refine bEqI (bn_add (bi s2 12 105) (bi σ 90 (bi σ 107 l1))) ?_
          refine bGo hA 9 13 (254, .aload_n 0, 1, 158, 0, [0], []) rfl rfl rfl ?_
          refine bGo hA 9 14 (255, .getfield 312, 3, 159, 0, [12, 88, 0, 0, 0, 0], []) rfl rfl rfl ?_
          refine ⟨rfl, ?_⟩
          refine bEqI (bn_bi s2 12 88) ?_
          refine bGo hA 9 15 (258, .iadd, 1, 160, 0, [], []) rfl rfl rfl ?_
          refine bEqI (bn_add ((bi s2 12 105) + (bi σ 90 (bi σ 107 l1))) (bi s2 12 88)) ?_
          refine bGo hA 10 0 (259, .iastore, 1, 161, 0, [], []) rfl rfl rfl ?_
          refine ⟨rfl, (bIxP (x := l1) (n := 120) h_l1 (h.2 c1).1), by decide, ?_⟩
          refine bEqS (x := l1) h_l1 ?_
          refine bGo hA 10 1 (260, .return_, 1, 0, 0, [0], []) rfl rfl rfl ?_
          exact (((k3.1 c6).2.2 c7).2 c8).2.2
    · refine bGo hA 6 4 (160, .aload_n 0, 1, 101, 0, [0], []) rfl rfl rfl ?_
      refine bGo hA 6 5 (161, .getfield 254, 3, 102, 0, [12, 92, 3, 137, 1, 0], []) rfl rfl rfl ?_
      refine ⟨rfl, ?_⟩
      refine bGo hA 6 6 (164, .iload 4, 2, 103, 0, [4], []) rfl rfl rfl ?_
      refine bGo hA 6 7 (166, .iaload, 1, 104, 0, [], []) rfl rfl rfl ?_
      refine ⟨rfl, (bIxP (x := r4) (n := 12) q5 (k3.2 c6).1), ?_⟩
      refine bEqL (x := r4) q5 ?_
      refine bGo hA 6 8 (167, .aload_n 0, 1, 105, 0, [0], []) rfl rfl rfl ?_
      refine bGo hA 6 9 (168, .getfield 152, 3, 106, 0, [12, 52, 3, 103, 1, 0], []) rfl rfl rfl ?_
      refine ⟨rfl, ?_⟩
      refine bGo hA 6 10 (171, .iload_n 1, 1, 107, 0, [1], []) rfl rfl rfl ?_
      refine bGo hA 6 11 (172, .iaload, 1, 108, 0, [], []) rfl rfl rfl ?_
      refine ⟨rfl, (bIxP (x := l1) (n := 120) h_l1 (h.2 c1).1), ?_⟩
      refine bEqL (x := l1) h_l1 ?_
      refine bGo hA 6 12 (173, .if_icmp .ne (11), 3, 109, 115, [], []) rfl rfl rfl ?_
      refine bB_eq (x := (bi s2 137 r4)) (y := (bi s2 103 l1)) (bi_rg _ _ _) (bi_rg _ _ _) (fun c9 => ?_) (fun c9 => ?_)
      · refine bGo hA 6 13 (176, .iload_n 3, 1, 110, 0, [3], []) rfl rfl rfl ?_
        refine bGo hA 6 14 (177, .iconst (1), 1, 111, 0, [], [(1, 0)]) rfl rfl rfl ?_
        refine bEqI bl_1 ?_
        refine bGo hA 6 15 (178, .iadd, 1, 112, 0, [], []) rfl rfl rfl ?_
        refine bEqI (bn_add (bi σ 90 (bi σ 107 l1)) 1) ?_
        refine bGo hA 7 0 (179, .iconst (2), 1, 113, 0, [], [(2, 0)]) rfl rfl rfl ?_
        refine bEqI bl_2 ?_
        refine bGo hA 7 1 (180, .idiv, 1, 114, 0, [], []) rfl rfl rfl ?_
        refine ⟨by decide, ?_⟩
        refine bEqI (bn_div ((k3.2 c6).2.1 c9).1 (by decide) ((k3.2 c6).2.1 c9).2.1) ?_
        refine bGo hA 7 2 (181, .goto (4), 3, 115, 116, [], []) rfl rfl rfl ?_
        exact ((k3.2 c6).2.1 c9).2.2
      · refine bGo hA 7 3 (184, .iload_n 3, 1, 116, 0, [3], []) rfl rfl rfl ?_
        exact ((k3.2 c6).2.2 c9)

theorem sq296_116 {lvl : Nat} {C : bCall} {Q : bPost} {A : bPt → Prop} (hC : bMono C) (hA : bClosed lvl bm296 C Q A) {l1 : Int} {v2 : Value} {l3 : Int} {l4 : Int} {v5 : Value} {t0 : Int} {σ : bSt}  (h_l1 : bRg l1) (h_l3 : bRg l3) (h_l4 : bRg l4) (h_t0 : bRg t0)
  (h : ((0 ≤ l1 ∧ l1 < 120) ∧ ((0 ≤ l4 ∧ l4 < 12) ∧ (bRg ((bi σ 12 105) + t0) ∧ (C 297 [.ref 12, .int (bn l1)] (bw (bw σ 148 l1 l4) 138 l4 1) (bRn (fun r3 s1 => (bRg (((bi σ 12 105) + t0) + r3) ∧ ((0 ≤ (bi s1 107 l1) ∧ (bi s1 107 l1) < 16) ∧ (((bi s1 91 (bi s1 107 l1)) = 0 → Q (.inl none) (bw s1 145 l1 (((bi σ 12 105) + t0) + r3))) ∧ (¬ (bi s1 91 (bi s1 107 l1)) = 0 → (((bi s1 12 87) = 0 → Q (.inl none) (bw s1 145 l1 (((bi σ 12 105) + t0) + r3))) ∧ (¬ (bi s1 12 87) = 0 → (bRg ((bi s1 12 105) + l3) ∧ (bRg (((bi s1 12 105) + l3) + (bi s1 12 88)) ∧ Q (.inl none) (bw (bw s1 145 l1 (((bi σ 12 105) + t0) + r3)) 146 l1 (((bi s1 12 105) + l3) + (bi s1 12 88)))))))))))))))))) : A (116, [.ref 12, .int (bn l1), v2, .int (bn l3), .int (bn l4), v5], [.int (bn t0)], σ) := by
  refine bGo hA 7 4 (185, .istore 5, 2, 117, 0, [5], []) rfl rfl rfl ?_
  refine bGo hA 7 5 (187, .aload_n 0, 1, 118, 0, [0], []) rfl rfl rfl ?_
  refine bGo hA 7 6 (188, .getfield 287, 3, 119, 0, [12, 104, 3, 148, 1, 0], []) rfl rfl rfl ?_
  refine ⟨rfl, ?_⟩
  refine bGo hA 7 7 (191, .iload_n 1, 1, 120, 0, [1], []) rfl rfl rfl ?_
  refine bGo hA 7 8 (192, .iload 4, 2, 121, 0, [4], []) rfl rfl rfl ?_
  refine bGo hA 7 9 (194, .iastore, 1, 122, 0, [], []) rfl rfl rfl ?_
  refine ⟨rfl, (bIxP (x := l1) (n := 120) h_l1 h.1), by decide, ?_⟩
  refine bEqS (x := l1) h_l1 ?_
  refine bGo hA 7 10 (195, .aload_n 0, 1, 123, 0, [0], []) rfl rfl rfl ?_
  refine bGo hA 7 11 (196, .getfield 257, 3, 124, 0, [12, 93, 3, 138, 1, 0], []) rfl rfl rfl ?_
  refine ⟨rfl, ?_⟩
  refine bGo hA 7 12 (199, .iload 4, 2, 125, 0, [4], []) rfl rfl rfl ?_
  refine bGo hA 7 13 (201, .iconst (1), 1, 126, 0, [], [(1, 0)]) rfl rfl rfl ?_
  refine bEqI bl_1 ?_
  refine bGo hA 7 14 (202, .bastore, 1, 127, 0, [], []) rfl rfl rfl ?_
  refine ⟨rfl, (bIxP (x := l4) (n := 12) h_l4 h.2.1), by decide, b01 (Or.inr rfl), ?_⟩
  refine bEqS (x := l4) h_l4 ?_
  refine bGo hA 7 15 (203, .aload_n 0, 1, 128, 0, [0], []) rfl rfl rfl ?_
  refine bGo hA 8 0 (204, .getfield 278, 3, 129, 0, [12, 101, 3, 145, 1, 0], []) rfl rfl rfl ?_
  refine ⟨rfl, ?_⟩
  refine bGo hA 8 1 (207, .iload_n 1, 1, 130, 0, [1], []) rfl rfl rfl ?_
  refine bGo hA 8 2 (208, .aload_n 0, 1, 131, 0, [0], []) rfl rfl rfl ?_
  refine bGo hA 8 3 (209, .getfield 480, 3, 132, 0, [12, 105, 0, 0, 0, 0], []) rfl rfl rfl ?_
  refine ⟨rfl, ?_⟩
  refine bEqI ((bn_bi (bw (bw σ 148 l1 l4) 138 l4 1) 12 105).trans (congrArg bn ((bi_ne (by decide)).trans (bi_ne (by decide))))) ?_
  refine bGo hA 8 4 (212, .iload 5, 2, 133, 0, [5], []) rfl rfl rfl ?_
  refine bGo hA 8 5 (214, .iadd, 1, 134, 0, [], []) rfl rfl rfl ?_
  refine bEqI (bn_add (bi σ 12 105) t0) ?_
  refine bGo hA 8 6 (215, .aload_n 0, 1, 135, 0, [0], []) rfl rfl rfl ?_
  refine bGo hA 8 7 (216, .iload_n 1, 1, 136, 0, [1], []) rfl rfl rfl ?_
  refine bGo hA 8 8 (217, .invokevirtual 560, 3, 137, 0, [0, 12, 297, 1], []) rfl rfl rfl ?_
  refine ⟨rfl, ?_⟩
  refine hC _ _ _ _ _ (bRn_e (fun r3 s1 q4 k2 => ?_)) h.2.2.2
  show A (137, [.ref 12, .int (bn l1), v2, .int (bn l3), .int (bn l4), .int (bn t0)], [.int (bn r3), .int (bn ((bi σ 12 105) + t0)), .int (bn l1), .ref 145], s1)
  refine bGo hA 8 9 (220, .iadd, 1, 138, 0, [], []) rfl rfl rfl ?_
  refine bEqI (bn_add ((bi σ 12 105) + t0) r3) ?_
  refine bGo hA 8 10 (221, .iastore, 1, 139, 0, [], []) rfl rfl rfl ?_
  refine ⟨rfl, (bIxP (x := l1) (n := 120) h_l1 h.1), by decide, ?_⟩
  refine bEqS (x := l1) h_l1 ?_
  refine bGo hA 8 11 (222, .aload_n 0, 1, 140, 0, [0], []) rfl rfl rfl ?_
  refine bGo hA 8 12 (223, .getfield 116, 3, 141, 0, [12, 39, 3, 91, 1, 0], []) rfl rfl rfl ?_
  refine ⟨rfl, ?_⟩
  refine bGo hA 8 13 (226, .aload_n 0, 1, 142, 0, [0], []) rfl rfl rfl ?_
  refine bGo hA 8 14 (227, .getfield 164, 3, 143, 0, [12, 56, 3, 107, 1, 0], []) rfl rfl rfl ?_
  refine ⟨rfl, ?_⟩
  refine bGo hA 8 15 (230, .iload_n 1, 1, 144, 0, [1], []) rfl rfl rfl ?_
  refine bGo hA 9 0 (231, .iaload, 1, 145, 0, [], []) rfl rfl rfl ?_
  refine ⟨rfl, (bIxP (x := l1) (n := 120) h_l1 h.1), ?_⟩
  refine bEqL (x := l1) h_l1 ?_
  refine bEqI (congrArg bn (show bi (bw s1 145 l1 (((bi σ 12 105) + t0) + r3)) 107 l1 = (bi s1 107 l1) from (bi_ne (by decide)))) ?_
  refine bGo hA 9 1 (232, .baload, 1, 146, 0, [], []) rfl rfl rfl ?_
  refine ⟨rfl, (bIxP (x := (bi s1 107 l1)) (n := 16) (bi_rg _ _ _) k2.2.1), ?_⟩
  refine bEqL (x := (bi s1 107 l1)) (bi_rg _ _ _) ?_
  refine bEqI (congrArg bn (show bi (bw s1 145 l1 (((bi σ 12 105) + t0) + r3)) 91 (bi s1 107 l1) = (bi s1 91 (bi s1 107 l1)) from (bi_ne (by decide)))) ?_
  refine bGo hA 9 2 (233, .ifCond .eq (27), 3, 147, 161, [], []) rfl rfl rfl ?_
  refine bB_eq0 (x := (bi s1 91 (bi s1 107 l1))) (bi_rg _ _ _) (fun c5 => ?_) (fun c5 => ?_)
  · refine bGo hA 10 1 (260, .return_, 1, 0, 0, [0], []) rfl rfl rfl ?_
    exact (k2.2.2.1 c5)
  · refine bGo hA 9 3 (236, .aload_n 0, 1, 148, 0, [0], []) rfl rfl rfl ?_
    refine bGo hA 9 4 (237, .getfield 309, 3, 149, 0, [12, 87, 1, 0, 0, 0], []) rfl rfl rfl ?_
    refine ⟨rfl, ?_⟩
    refine bEqI ((bn_bi (bw s1 145 l1 (((bi σ 12 105) + t0) + r3)) 12 87).trans (congrArg bn (bi_ne (by decide)))) ?_
    refine bGo hA 9 5 (240, .ifCond .eq (20), 3, 150, 161, [], []) rfl rfl rfl ?_
    refine bB_eq0 (x := (bi s1 12 87)) (bi_rg _ _ _) (fun c6 => ?_) (fun c6 => ?_)
    · refine bGo hA 10 1 (260, .return_, 1, 0, 0, [0], []) rfl rfl rfl ?_
      exact ((k2.2.2.2 c5).1 c6)
    · refine bGo hA 9 6 (243, .aload_n 0, 1, 151, 0, [0], []) rfl rfl rfl ?_
      refine bGo hA 9 7 (244, .getfield 281, 3, 152, 0, [12, 102, 3, 146, 1, 0], []) rfl rfl rfl ?_
      refine ⟨rfl, ?_⟩
      refine bGo hA 9 8 (247, .iload_n 1, 1, 153, 0, [1], []) rfl rfl rfl ?_
      refine bGo hA 9 9 (248, .aload_n 0, 1, 154, 0, [0], []) rfl rfl rfl ?_
      refine bGo hA 9 10 (249, .getfield 480, 3, 155, 0, [12, 105, 0, 0, 0, 0], []) rfl rfl rfl ?_
      refine ⟨rfl, ?_⟩
      refine bEqI ((bn_bi (bw s1 145 l1 (((bi σ 12 105) + t0) + r3)) 12 105).trans (congrArg bn (bi_ne (by decide)))) ?_
      refine bGo hA 9 11 (252, .iload_n 3, 1, 156, 0, [3], []) rfl rfl rfl ?_
      refine bGo hA 9 12 (253, .iadd, 1, 157, 0, [], []) rfl rfl rfl ?_
      refine bEqI (bn_add (bi s1 12 105) l3) ?_
      refine bGo hA 9 13 (254, .aload_n 0, 1, 158, 0, [0], []) rfl rfl rfl ?_
      refine bGo hA 9 14 (255, .getfield 312, 3, 159, 0, [12, 88, 0, 0, 0, 0], []) rfl rfl rfl ?_
      refine ⟨rfl, ?_⟩
      refine bEqI ((bn_bi (bw s1 145 l1 (((bi σ 12 105) + t0) + r3)) 12 88).trans (congrArg bn (bi_ne (by decide)))) ?_
      refine bGo hA 9 15 (258, .iadd, 1, 160, 0, [], []) rfl rfl rfl ?_
      refine bEqI (bn_add ((bi s1 12 105) + l3) (bi s1 12 88)) ?_
      refine bGo hA 10 0 (259, .iastore, 1, 161, 0, [], []) rfl rfl rfl ?_
      refine ⟨rfl, (bIxP (x := l1) (n := 120) h_l1 h.1), by decide, ?_⟩
      refine bEqS (x := l1) h_l1 ?_
      refine bGo hA 10 1 (260, .return_, 1, 0, 0, [0], []) rfl rfl rfl ?_
      exact ((k2.2.2.2 c5).2 c6).2.2

theorem sq297_0 {lvl : Nat} {C : bCall} {Q : bPost} {A : bPt → Prop} (hC : bMono C) (hA : bClosed lvl bm297 C Q A) {x1 : Int} {σ : bSt}  (h_x1 : bRg x1)
  (h : A (14, [.ref 12, .int (bn x1), .int (bn 0), .int (bn 0), .float 0, .float 0, .float 0, .float 0], [], (bw (bw σ 149 0 x1) 150 0 0))) : A (0, [.ref 12, .int (bn x1), .float 0, .float 0, .float 0, .float 0, .float 0, .float 0], [], σ) := by
  refine bGo hA 0 0 (0, .iconst (0), 1, 1, 0, [], [(0, 0)]) rfl rfl rfl ?_
  refine bEqI bl_0 ?_
  refine bGo hA 0 1 (1, .istore_n 2, 1, 2, 0, [2], []) rfl rfl rfl ?_
  refine bGo hA 0 2 (2, .iconst (0), 1, 3, 0, [], [(0, 0)]) rfl rfl rfl ?_
  refine bEqI bl_0 ?_
  refine bGo hA 0 3 (3, .istore_n 3, 1, 4, 0, [3], []) rfl rfl rfl ?_
  refine bGo hA 0 4 (4, .aload_n 0, 1, 5, 0, [0], []) rfl rfl rfl ?_
  refine bGo hA 0 5 (5, .getfield 290, 3, 6, 0, [12, 107, 3, 149, 1, 0], []) rfl rfl rfl ?_
  refine ⟨rfl, ?_⟩
  refine bGo hA 0 6 (8, .iconst (0), 1, 7, 0, [], [(0, 0)]) rfl rfl rfl ?_
  refine bEqI bl_0 ?_
  refine bGo hA 0 7 (9, .iload_n 1, 1, 8, 0, [1], []) rfl rfl rfl ?_
  refine bGo hA 0 8 (10, .iastore, 1, 9, 0, [], []) rfl rfl rfl ?_
  refine ⟨rfl, (bIxP (x := 0) (n := 128) (by decide) (by decide)), by decide, ?_⟩
  refine bEqS (x := 0) (by decide : bRg 0) ?_
  refine bGo hA 0 9 (11, .aload_n 0, 1, 10, 0, [0], []) rfl rfl rfl ?_
  refine bGo hA 0 10 (12, .getfield 293, 3, 11, 0, [12, 108, 3, 150, 1, 0], []) rfl rfl rfl ?_
  refine ⟨rfl, ?_⟩
  refine bGo hA 0 11 (15, .iconst (0), 1, 12, 0, [], [(0, 0)]) rfl rfl rfl ?_
  refine bEqI bl_0 ?_
  refine bGo hA 0 12 (16, .iconst (0), 1, 13, 0, [], [(0, 0)]) rfl rfl rfl ?_
  refine bEqI bl_0 ?_
  refine bGo hA 0 13 (17, .iastore, 1, 14, 0, [], []) rfl rfl rfl ?_
  refine ⟨rfl, (bIxP (x := 0) (n := 128) (by decide) (by decide)), by decide, ?_⟩
  refine bEqS (x := 0) (by decide : bRg 0) ?_
  exact h

theorem sq297_14 {lvl : Nat} {C : bCall} {Q : bPost} {A : bPt → Prop} (hC : bMono C) (hA : bClosed lvl bm297 C Q A) {v1 : Value} {l2 : Int} {l3 : Int} {v4 : Value} {v5 : Value} {v6 : Value} {v7 : Value} {σ : bSt}  (h_l2 : bRg l2) (h_l3 : bRg l3)
  (h : ((l3 < 0 → Q (.inl (some (.int (bn l2)))) σ) ∧ (¬ l3 < 0 → ((0 ≤ l3 ∧ l3 < 128) ∧ ((0 ≤ (bi σ 149 l3) ∧ (bi σ 149 l3) < 120) ∧ (((bi σ 150 l3) < (bi σ 105 (bi σ 149 l3)) → (bRg (40 * (bi σ 149 l3)) ∧ (bRg ((40 * (bi σ 149 l3)) + (bi σ 150 l3)) ∧ ((0 ≤ ((40 * (bi σ 149 l3)) + (bi σ 150 l3)) ∧ ((40 * (bi σ 149 l3)) + (bi σ 150 l3)) < 4800) ∧ (bRg ((bi σ 150 l3) + 1) ∧ (((bi σ 106 ((40 * (bi σ 149 l3)) + (bi σ 150 l3))) < 100 → A (14, [.ref 12, v1, .int (bn l2), .int (bn l3), .int (bn (bi σ 149 l3)), .int (bn (bi σ 106 ((40 * (bi σ 149 l3)) + (bi σ 150 l3)))), v6, v7], [], (bw σ 150 l3 ((bi σ 150 l3) + 1)))) ∧ (¬ (bi σ 106 ((40 * (bi σ 149 l3)) + (bi σ 150 l3))) < 100 → (bRg ((bi σ 106 ((40 * (bi σ 149 l3)) + (bi σ 150 l3))) - 100) ∧ ((0 ≤ ((bi σ 106 ((40 * (bi σ 149 l3)) + (bi σ 150 l3))) - 100) ∧ ((bi σ 106 ((40 * (bi σ 149 l3)) + (bi σ 150 l3))) - 100) < 120) ∧ ((0 ≤ (bi σ 112 ((bi σ 106 ((40 * (bi σ 149 l3)) + (bi σ 150 l3))) - 100)) ∧ (bi σ 112 ((bi σ 106 ((40 * (bi σ 149 l3)) + (bi σ 150 l3))) - 100)) < 1000) ∧ (((bi σ 134 (bi σ 112 ((bi σ 106 ((40 * (bi σ 149 l3)) + (bi σ 150 l3))) - 100))) = 0 → (((bi σ 12 87) = 0 → (bRg (l3 + 1) ∧ ((0 ≤ (l3 + 1) ∧ (l3 + 1) < 128) ∧ A (14, [.ref 12, v1, .int (bn l2), .int (bn (l3 + 1)), .int (bn (bi σ 149 l3)), .int (bn (bi σ 106 ((40 * (bi σ 149 l3)) + (bi σ 150 l3)))), .int (bn (bi σ 112 ((bi σ 106 ((40 * (bi σ 149 l3)) + (bi σ 150 l3))) - 100))), .int (bn 0)], [], (bw (bw (bw σ 150 l3 ((bi σ 150 l3) + 1)) 149 (l3 + 1) ((bi σ 106 ((40 * (bi σ 149 l3)) + (bi σ 150 l3))) - 100)) 150 (l3 + 1) 0))))) ∧ (¬ (bi σ 12 87) = 0 → (((bi σ 135 (bi σ 112 ((bi σ 106 ((40 * (bi σ 149 l3)) + (bi σ 150 l3))) - 100))) = 0 → (bRg (l3 + 1) ∧ ((0 ≤ (l3 + 1) ∧ (l3 + 1) < 128) ∧ A (14, [.ref 12, v1, .int (bn l2), .int (bn (l3 + 1)), .int (bn (bi σ 149 l3)), .int (bn (bi σ 106 ((40 * (bi σ 149 l3)) + (bi σ 150 l3)))), .int (bn (bi σ 112 ((bi σ 106 ((40 * (bi σ 149 l3)) + (bi σ 150 l3))) - 100))), .int (bn 0)], [], (bw (bw (bw σ 150 l3 ((bi σ 150 l3) + 1)) 149 (l3 + 1) ((bi σ 106 ((40 * (bi σ 149 l3)) + (bi σ 150 l3))) - 100)) 150 (l3 + 1) 0))))) ∧ (¬ (bi σ 135 (bi σ 112 ((bi σ 106 ((40 * (bi σ 149 l3)) + (bi σ 150 l3))) - 100))) = 0 → (bRg ((bi σ 139 10) + 1) ∧ A (14, [.ref 12, v1, .int (bn l2), .int (bn l3), .int (bn (bi σ 149 l3)), .int (bn (bi σ 106 ((40 * (bi σ 149 l3)) + (bi σ 150 l3)))), .int (bn (bi σ 112 ((bi σ 106 ((40 * (bi σ 149 l3)) + (bi σ 150 l3))) - 100))), .int (bn 1)], [], (bw (bw (bw σ 150 l3 ((bi σ 150 l3) + 1)) 134 (bi σ 112 ((bi σ 106 ((40 * (bi σ 149 l3)) + (bi σ 150 l3))) - 100)) 1) 139 10 ((bi σ 139 10) + 1))))))))) ∧ (¬ (bi σ 134 (bi σ 112 ((bi σ 106 ((40 * (bi σ 149 l3)) + (bi σ 150 l3))) - 100))) = 0 → A (14, [.ref 12, v1, .int (bn l2), .int (bn l3), .int (bn (bi σ 149 l3)), .int (bn (bi σ 106 ((40 * (bi σ 149 l3)) + (bi σ 150 l3)))), v6, v7], [], (bw σ 150 l3 ((bi σ 150 l3) + 1))))))))))))))) ∧ (¬ (bi σ 150 l3) < (bi σ 105 (bi σ 149 l3)) → (((0 : Int) < l3 → ((0 ≤ (bi σ 112 (bi σ 149 l3)) ∧ (bi σ 112 (bi σ 149 l3)) < 1000) ∧ ((0 ≤ (bi σ 107 (bi σ 149 l3)) ∧ (bi σ 107 (bi σ 149 l3)) < 16) ∧ (bRg (l2 + (bi σ 90 (bi σ 107 (bi σ 149 l3)))) ∧ (bRg ((bi σ 139 9) + 1) ∧ (bRg (l3 + (-1)) ∧ A (14, [.ref 12, (bUnl v1), .int (bn (l2 + (bi σ 90 (bi σ 107 (bi σ 149 l3))))), .int (bn (l3 + (-1))), .int (bn (bi σ 149 l3)), v5, v6, v7], [], (bw (bw σ 134 (bi σ 112 (bi σ 149 l3)) 1) 139 9 ((bi σ 139 9) + 1))))))))) ∧ (¬ (0 : Int) < l3 → (bRg (l3 + (-1)) ∧ A (14, [.ref 12, v1, .int (bn l2), .int (bn (l3 + (-1))), .int (bn (bi σ 149 l3)), v5, v6, v7], [], σ))))))))))) : A (14, [.ref 12, v1, .int (bn l2), .int (bn l3), v4, v5, v6, v7], [], σ) := by
  refine bGo hA 0 14 (18, .iload_n 3, 1, 15, 0, [3], []) rfl rfl rfl ?_
  refine bGo hA 0 15 (19, .ifCond .lt (217), 3, 16, 142, [], []) rfl rfl rfl ?_
  refine bB_lt0 (x := l3) h_l3 (fun c1 => ?_) (fun c1 => ?_)
  · refine bGo hA 8 14 (236, .iload_n 2, 1, 143, 0, [2], []) rfl rfl rfl ?_
    refine bGo hA 8 15 (237, .ireturn, 1, 0, 0, [1], []) rfl rfl rfl ?_
    exact (h.1 c1)
  · refine bGo hA 1 0 (22, .aload_n 0, 1, 17, 0, [0], []) rfl rfl rfl ?_
    refine bGo hA 1 1 (23, .getfield 290, 3, 18, 0, [12, 107, 3, 149, 1, 0], []) rfl rfl rfl ?_
    refine ⟨rfl, ?_⟩
    refine bGo hA 1 2 (26, .iload_n 3, 1, 19, 0, [3], []) rfl rfl rfl ?_
    refine bGo hA 1 3 (27, .iaload, 1, 20, 0, [], []) rfl rfl rfl ?_
    refine ⟨rfl, (bIxP (x := l3) (n := 128) h_l3 (h.2 c1).1), ?_⟩
    refine bEqL (x := l3) h_l3 ?_
    refine bGo hA 1 4 (28, .istore 4, 2, 21, 0, [4], []) rfl rfl rfl ?_
    refine bGo hA 1 5 (30, .aload_n 0, 1, 22, 0, [0], []) rfl rfl rfl ?_
    refine bGo hA 1 6 (31, .getfield 293, 3, 23, 0, [12, 108, 3, 150, 1, 0], []) rfl rfl rfl ?_
    refine ⟨rfl, ?_⟩
    refine bGo hA 1 7 (34, .iload_n 3, 1, 24, 0, [3], []) rfl rfl rfl ?_
    refine bGo hA 1 8 (35, .iaload, 1, 25, 0, [], []) rfl rfl rfl ?_
    refine ⟨rfl, (bIxP (x := l3) (n := 128) h_l3 (h.2 c1).1), ?_⟩
    refine bEqL (x := l3) h_l3 ?_
    refine bGo hA 1 9 (36, .aload_n 0, 1, 26, 0, [0], []) rfl rfl rfl ?_
    refine bGo hA 1 10 (37, .getfield 158, 3, 27, 0, [12, 54, 3, 105, 1, 0], []) rfl rfl rfl ?_
    refine ⟨rfl, ?_⟩
    refine bGo hA 1 11 (40, .iload 4, 2, 28, 0, [4], []) rfl rfl rfl ?_
    refine bGo hA 1 12 (42, .iaload, 1, 29, 0, [], []) rfl rfl rfl ?_
    refine ⟨rfl, (bIxP (x := (bi σ 149 l3)) (n := 120) (bi_rg _ _ _) (h.2 c1).2.1), ?_⟩
    refine bEqL (x := (bi σ 149 l3)) (bi_rg _ _ _) ?_
    refine bGo hA 1 13 (43, .if_icmp .ge (144), 3, 30, 112, [], []) rfl rfl rfl ?_
    refine bB_lt (x := (bi σ 150 l3)) (y := (bi σ 105 (bi σ 149 l3))) (bi_rg _ _ _) (bi_rg _ _ _) (fun c2 => ?_) (fun c2 => ?_)
    · refine bGo hA 1 14 (46, .aload_n 0, 1, 31, 0, [0], []) rfl rfl rfl ?_
      refine bGo hA 1 15 (47, .getfield 161, 3, 32, 0, [12, 55, 3, 106, 1, 0], []) rfl rfl rfl ?_
      refine ⟨rfl, ?_⟩
      refine bGo hA 2 0 (50, .bipush (40), 2, 33, 0, [], [(40, 0)]) rfl rfl rfl ?_
      refine bEqI bl_40 ?_
      refine bGo hA 2 1 (52, .iload 4, 2, 34, 0, [4], []) rfl rfl rfl ?_
      refine bGo hA 2 2 (54, .imul, 1, 35, 0, [], []) rfl rfl rfl ?_
      refine bEqI (bn_mul 40 (bi σ 149 l3)) ?_
      refine bGo hA 2 3 (55, .aload_n 0, 1, 36, 0, [0], []) rfl rfl rfl ?_
      refine bGo hA 2 4 (56, .getfield 293, 3, 37, 0, [12, 108, 3, 150, 1, 0], []) rfl rfl rfl ?_
      refine ⟨rfl, ?_⟩
      refine bGo hA 2 5 (59, .iload_n 3, 1, 38, 0, [3], []) rfl rfl rfl ?_
      refine bGo hA 2 6 (60, .iaload, 1, 39, 0, [], []) rfl rfl rfl ?_
      refine ⟨rfl, (bIxP (x := l3) (n := 128) h_l3 (h.2 c1).1), ?_⟩
      refine bEqL (x := l3) h_l3 ?_
      refine bGo hA 2 7 (61, .iadd, 1, 40, 0, [], []) rfl rfl rfl ?_
      refine bEqI (bn_add (40 * (bi σ 149 l3)) (bi σ 150 l3)) ?_
      refine bGo hA 2 8 (62, .iaload, 1, 41, 0, [], []) rfl rfl rfl ?_
      refine ⟨rfl, (bIxP (x := ((40 * (bi σ 149 l3)) + (bi σ 150 l3))) (n := 4800) ((h.2 c1).2.2.1 c2).2.1 ((h.2 c1).2.2.1 c2).2.2.1), ?_⟩
      refine bEqL (x := ((40 * (bi σ 149 l3)) + (bi σ 150 l3))) ((h.2 c1).2.2.1 c2).2.1 ?_
      refine bGo hA 2 9 (63, .istore 5, 2, 42, 0, [5], []) rfl rfl rfl ?_
      refine bGo hA 2 10 (65, .aload_n 0, 1, 43, 0, [0], []) rfl rfl rfl ?_
      refine bGo hA 2 11 (66, .getfield 293, 3, 44, 0, [12, 108, 3, 150, 1, 0], []) rfl rfl rfl ?_
      refine ⟨rfl, ?_⟩
      refine bGo hA 2 12 (69, .iload_n 3, 1, 45, 0, [3], []) rfl rfl rfl ?_
      refine bGo hA 2 13 (70, .dup2, 1, 46, 0, [], []) rfl rfl rfl ?_
      refine bGo hA 2 14 (71, .iaload, 1, 47, 0, [], []) rfl rfl rfl ?_
      refine ⟨rfl, (bIxP (x := l3) (n := 128) h_l3 (h.2 c1).1), ?_⟩
      refine bEqL (x := l3) h_l3 ?_
      refine bGo hA 2 15 (72, .iconst (1), 1, 48, 0, [], [(1, 0)]) rfl rfl rfl ?_
      refine bEqI bl_1 ?_
      refine bGo hA 3 0 (73, .iadd, 1, 49, 0, [], []) rfl rfl rfl ?_
      refine bEqI (bn_add (bi σ 150 l3) 1) ?_
      refine bGo hA 3 1 (74, .iastore, 1, 50, 0, [], []) rfl rfl rfl ?_
      refine ⟨rfl, (bIxP (x := l3) (n := 128) h_l3 (h.2 c1).1), by decide, ?_⟩
      refine bEqS (x := l3) h_l3 ?_
      refine bGo hA 3 2 (75, .iload 5, 2, 51, 0, [5], []) rfl rfl rfl ?_
      refine bGo hA 3 3 (77, .bipush (100), 2, 52, 0, [], [(100, 0)]) rfl rfl rfl ?_
      refine bEqI bl_100 ?_
      refine bGo hA 3 4 (79, .if_icmp .lt (105), 3, 53, 111, [], []) rfl rfl rfl ?_
      refine bB_lt (x := (bi σ 106 ((40 * (bi σ 149 l3)) + (bi σ 150 l3)))) (y := 100) (bi_rg _ _ _) (by decide : bRg 100) (fun c3 => ?_) (fun c3 => ?_)
      · refine bGo hA 6 15 (184, .goto (49), 3, 112, 141, [], []) rfl rfl rfl ?_
        refine bGo hA 8 13 (233, .goto (-215), 3, 142, 14, [], []) rfl rfl rfl ?_
        exact (((h.2 c1).2.2.1 c2).2.2.2.2.1 c3)
      · refine bGo hA 3 5 (82, .aload_n 0, 1, 54, 0, [0], []) rfl rfl rfl ?_
        refine bGo hA 3 6 (83, .getfield 245, 3, 55, 0, [12, 89, 3, 134, 1, 0], []) rfl rfl rfl ?_
        refine ⟨rfl, ?_⟩
        refine bGo hA 3 7 (86, .aload_n 0, 1, 56, 0, [0], []) rfl rfl rfl ?_
        refine bGo hA 3 8 (87, .getfield 179, 3, 57, 0, [12, 61, 3, 112, 1, 0], []) rfl rfl rfl ?_
        refine ⟨rfl, ?_⟩
        refine bGo hA 3 9 (90, .iload 5, 2, 58, 0, [5], []) rfl rfl rfl ?_
        refine bGo hA 3 10 (92, .bipush (100), 2, 59, 0, [], [(100, 0)]) rfl rfl rfl ?_
        refine bEqI bl_100 ?_
        refine bGo hA 3 11 (94, .isub, 1, 60, 0, [], []) rfl rfl rfl ?_
        refine bEqI (bn_sub (bi σ 106 ((40 * (bi σ 149 l3)) + (bi σ 150 l3))) 100) ?_
        refine bGo hA 3 12 (95, .iaload, 1, 61, 0, [], []) rfl rfl rfl ?_
        refine ⟨rfl, (bIxP (x := ((bi σ 106 ((40 * (bi σ 149 l3)) + (bi σ 150 l3))) - 100)) (n := 120) (((h.2 c1).2.2.1 c2).2.2.2.2.2 c3).1 (((h.2 c1).2.2.1 c2).2.2.2.2.2 c3).2.1), ?_⟩
        refine bEqL (x := ((bi σ 106 ((40 * (bi σ 149 l3)) + (bi σ 150 l3))) - 100)) (((h.2 c1).2.2.1 c2).2.2.2.2.2 c3).1 ?_
        refine bEqI (congrArg bn (show bi (bw σ 150 l3 ((bi σ 150 l3) + 1)) 112 ((bi σ 106 ((40 * (bi σ 149 l3)) + (bi σ 150 l3))) - 100) = (bi σ 112 ((bi σ 106 ((40 * (bi σ 149 l3)) + (bi σ 150 l3))) - 100)) from (bi_ne (by decide)))) ?_
        refine bGo hA 3 13 (96, .baload, 1, 62, 0, [], []) rfl rfl rfl ?_
        refine ⟨rfl, (bIxP (x := (bi σ 112 ((bi σ 106 ((40 * (bi σ 149 l3)) + (bi σ 150 l3))) - 100))) (n := 1000) (bi_rg _ _ _) (((h.2 c1).2.2.1 c2).2.2.2.2.2 c3).2.2.1), ?_⟩
        refine bEqL (x := (bi σ 112 ((bi σ 106 ((40 * (bi σ 149 l3)) + (bi σ 150 l3))) - 100))) (bi_rg _ _ _) ?_
        refine bEqI (congrArg bn (show bi (bw σ 150 l3 ((bi σ 150 l3) + 1)) 134 (bi σ 112 ((bi σ 106 ((40 * (bi σ 149 l3)) + (bi σ 150 l3))) - 100)) = (bi σ 134 (bi σ 112 ((bi σ 106 ((40 * (bi σ 149 l3)) + (bi σ 150 l3))) - 100))) from (bi_ne (by decide)))) ?_
        refine bGo hA 3 14 (97, .ifCond .ne (87), 3, 63, 111, [], []) rfl rfl rfl ?_
        refine bB_eq0 (x := (bi σ 134 (bi σ 112 ((bi σ 106 ((40 * (bi σ 149 l3)) + (bi σ 150 l3))) - 100)))) (bi_rg _ _ _) (fun c4 => ?_) (fun c4 => ?_)
        · refine bGo hA 3 15 (100, .aload_n 0, 1, 64, 0, [0], []) rfl rfl rfl ?_
          refine bGo hA 4 0 (101, .getfield 179, 3, 65, 0, [12, 61, 3, 112, 1, 0], []) rfl rfl rfl ?_
          refine ⟨rfl, ?_⟩
          refine bGo hA 4 1 (104, .iload 5, 2, 66, 0, [5], []) rfl rfl rfl ?_
          refine bGo hA 4 2 (106, .bipush (100), 2, 67, 0, [], [(100, 0)]) rfl rfl rfl ?_
          refine bEqI bl_100 ?_
          refine bGo hA 4 3 (108, .isub, 1, 68, 0, [], []) rfl rfl rfl ?_
          refine bEqI (bn_sub (bi σ 106 ((40 * (bi σ 149 l3)) + (bi σ 150 l3))) 100) ?_
          refine bGo hA 4 4 (109, .iaload, 1, 69, 0, [], []) rfl rfl rfl ?_
          refine ⟨rfl, (bIxP (x := ((bi σ 106 ((40 * (bi σ 149 l3)) + (bi σ 150 l3))) - 100)) (n := 120) (((h.2 c1).2.2.1 c2).2.2.2.2.2 c3).1 (((h.2 c1).2.2.1 c2).2.2.2.2.2 c3).2.1), ?_⟩
          refine bEqL (x := ((bi σ 106 ((40 * (bi σ 149 l3)) + (bi σ 150 l3))) - 100)) (((h.2 c1).2.2.1 c2).2.2.2.2.2 c3).1 ?_
          refine bEqI (congrArg bn (show bi (bw σ 150 l3 ((bi σ 150 l3) + 1)) 112 ((bi σ 106 ((40 * (bi σ 149 l3)) + (bi σ 150 l3))) - 100) = (bi σ 112 ((bi σ 106 ((40 * (bi σ 149 l3)) + (bi σ 150 l3))) - 100)) from (bi_ne (by decide)))) ?_
          refine bGo hA 4 5 (110, .istore 6, 2, 70, 0, [6], []) rfl rfl rfl ?_
          refine bGo hA 4 6 (112, .aload_n 0, 1, 71, 0, [0], []) rfl rfl rfl ?_
          refine bGo hA 4 7 (113, .getfield 309, 3, 72, 0, [12, 87, 1, 0, 0, 0], []) rfl rfl rfl ?_
          refine ⟨rfl, ?_⟩
          refine bEqI ((bn_bi (bw σ 150 l3 ((bi σ 150 l3) + 1)) 12 87).trans (congrArg bn (bi_ne (by decide)))) ?_
          refine bGo hA 4 8 (116, .ifCond .eq (17), 3, 73, 80, [], []) rfl rfl rfl ?_
          refine bB_eq0 (x := (bi σ 12 87)) (bi_rg _ _ _) (fun c5 => ?_) (fun c5 => ?_)
          · refine bGo hA 5 0 (133, .iconst (0), 1, 81, 0, [], [(0, 0)]) rfl rfl rfl ?_
            refine bEqI bl_0 ?_
            refine bGo hA 5 1 (134, .istore 7, 2, 82, 0, [7], []) rfl rfl rfl ?_
            refine bGo hA 5 2 (136, .iload 7, 2, 83, 0, [7], []) rfl rfl rfl ?_
            refine bGo hA 5 3 (138, .ifCond .eq (25), 3, 84, 98, [], []) rfl rfl rfl ?_
            refine ⟨fun _ => ?_, fun c => absurd (by decide) c⟩
            refine bGo hA 6 2 (163, .iinc 3 (1), 3, 99, 0, [3], [(1, 0)]) rfl rfl rfl ?_
            refine bEqC (fun v => A (99, [.ref 12, v1, .int (bn l2), .int v, .int (bn (bi σ 149 l3)), .int (bn (bi σ 106 ((40 * (bi σ 149 l3)) + (bi σ 150 l3)))), .int (bn (bi σ 112 ((bi σ 106 ((40 * (bi σ 149 l3)) + (bi σ 150 l3))) - 100))), .int (bn 0)], [], (bw σ 150 l3 ((bi σ 150 l3) + 1)))) ((congrArg (fun w => bn l3 + w) bl_1).trans (bn_add l3 1)) ?_
            refine bGo hA 6 3 (166, .aload_n 0, 1, 100, 0, [0], []) rfl rfl rfl ?_
            refine bGo hA 6 4 (167, .getfield 290, 3, 101, 0, [12, 107, 3, 149, 1, 0], []) rfl rfl rfl ?_
            refine ⟨rfl, ?_⟩
            refine bGo hA 6 5 (170, .iload_n 3, 1, 102, 0, [3], []) rfl rfl rfl ?_
            refine bGo hA 6 6 (171, .iload 5, 2, 103, 0, [5], []) rfl rfl rfl ?_
            refine bGo hA 6 7 (173, .bipush (100), 2, 104, 0, [], [(100, 0)]) rfl rfl rfl ?_
            refine bEqI bl_100 ?_
            refine bGo hA 6 8 (175, .isub, 1, 105, 0, [], []) rfl rfl rfl ?_
            refine bEqI (bn_sub (bi σ 106 ((40 * (bi σ 149 l3)) + (bi σ 150 l3))) 100) ?_
            refine bGo hA 6 9 (176, .iastore, 1, 106, 0, [], []) rfl rfl rfl ?_
            refine ⟨rfl, (bIxP (x := (l3 + 1)) (n := 128) (((((h.2 c1).2.2.1 c2).2.2.2.2.2 c3).2.2.2.1 c4).1 c5).1 (((((h.2 c1).2.2.1 c2).2.2.2.2.2 c3).2.2.2.1 c4).1 c5).2.1), by decide, ?_⟩
            refine bEqS (x := (l3 + 1)) (((((h.2 c1).2.2.1 c2).2.2.2.2.2 c3).2.2.2.1 c4).1 c5).1 ?_
            refine bGo hA 6 10 (177, .aload_n 0, 1, 107, 0, [0], []) rfl rfl rfl ?_
            refine bGo hA 6 11 (178, .getfield 293, 3, 108, 0, [12, 108, 3, 150, 1, 0], []) rfl rfl rfl ?_
            refine ⟨rfl, ?_⟩
            refine bGo hA 6 12 (181, .iload_n 3, 1, 109, 0, [3], []) rfl rfl rfl ?_
            refine bGo hA 6 13 (182, .iconst (0), 1, 110, 0, [], [(0, 0)]) rfl rfl rfl ?_
            refine bEqI bl_0 ?_
            refine bGo hA 6 14 (183, .iastore, 1, 111, 0, [], []) rfl rfl rfl ?_
            refine ⟨rfl, (bIxP (x := (l3 + 1)) (n := 128) (((((h.2 c1).2.2.1 c2).2.2.2.2.2 c3).2.2.2.1 c4).1 c5).1 (((((h.2 c1).2.2.1 c2).2.2.2.2.2 c3).2.2.2.1 c4).1 c5).2.1), by decide, ?_⟩
            refine bEqS (x := (l3 + 1)) (((((h.2 c1).2.2.1 c2).2.2.2.2.2 c3).2.2.2.1 c4).1 c5).1 ?_
            refine bGo hA 6 15 (184, .goto (49), 3, 112, 141, [], []) rfl rfl rfl ?_
            refine bGo hA 8 13 (233, .goto (-215), 3, 142, 14, [], []) rfl rfl rfl ?_
            exact (((((h.2 c1).2.2.1 c2).2.2.2.2.2 c3).2.2.2.1 c4).1 c5).2.2
          · refine bGo hA 4 9 (119, .aload_n 0, 1, 74, 0, [0], []) rfl rfl rfl ?_
            refine bGo hA 4 10 (120, .getfield 248, 3, 75, 0, [12, 90, 3, 135, 1, 0], []) rfl rfl rfl ?_
            refine ⟨rfl, ?_⟩
            refine bGo hA 4 11 (123, .iload 6, 2, 76, 0, [6], []) rfl rfl rfl ?_
            refine bGo hA 4 12 (125, .baload, 1, 77, 0, [], []) rfl rfl rfl ?_
            refine ⟨rfl, (bIxP (x := (bi σ 112 ((bi σ 106 ((40 * (bi σ 149 l3)) + (bi σ 150 l3))) - 100))) (n := 1000) (bi_rg _ _ _) (((h.2 c1).2.2.1 c2).2.2.2.2.2 c3).2.2.1), ?_⟩
            refine bEqL (x := (bi σ 112 ((bi σ 106 ((40 * (bi σ 149 l3)) + (bi σ 150 l3))) - 100))) (bi_rg _ _ _) ?_
            refine bEqI (congrArg bn (show bi (bw σ 150 l3 ((bi σ 150 l3) + 1)) 135 (bi σ 112 ((bi σ 106 ((40 * (bi σ 149 l3)) + (bi σ 150 l3))) - 100)) = (bi σ 135 (bi σ 112 ((bi σ 106 ((40 * (bi σ 149 l3)) + (bi σ 150 l3))) - 100))) from (bi_ne (by decide)))) ?_
            refine bGo hA 4 13 (126, .ifCond .eq (7), 3, 78, 80, [], []) rfl rfl rfl ?_
            refine bB_eq0 (x := (bi σ 135 (bi σ 112 ((bi σ 106 ((40 * (bi σ 149 l3)) + (bi σ 150 l3))) - 100)))) (bi_rg _ _ _) (fun c7 => ?_) (fun c7 => ?_)
            · refine bGo hA 5 0 (133, .iconst (0), 1, 81, 0, [], [(0, 0)]) rfl rfl rfl ?_
              refine bEqI bl_0 ?_
              refine bGo hA 5 1 (134, .istore 7, 2, 82, 0, [7], []) rfl rfl rfl ?_
              refine bGo hA 5 2 (136, .iload 7, 2, 83, 0, [7], []) rfl rfl rfl ?_
              refine bGo hA 5 3 (138, .ifCond .eq (25), 3, 84, 98, [], []) rfl rfl rfl ?_
              refine ⟨fun _ => ?_, fun c => absurd (by decide) c⟩
              refine bGo hA 6 2 (163, .iinc 3 (1), 3, 99, 0, [3], [(1, 0)]) rfl rfl rfl ?_
              refine bEqC (fun v => A (99, [.ref 12, v1, .int (bn l2), .int v, .int (bn (bi σ 149 l3)), .int (bn (bi σ 106 ((40 * (bi σ 149 l3)) + (bi σ 150 l3)))), .int (bn (bi σ 112 ((bi σ 106 ((40 * (bi σ 149 l3)) + (bi σ 150 l3))) - 100))), .int (bn 0)], [], (bw σ 150 l3 ((bi σ 150 l3) + 1)))) ((congrArg (fun w => bn l3 + w) bl_1).trans (bn_add l3 1)) ?_
              refine bGo hA 6 3 (166, .aload_n 0, 1, 100, 0, [0], []) rfl rfl rfl ?_
              refine bGo hA 6 4 (167, .getfield 290, 3, 101, 0, [12, 107, 3, 149, 1, 0], []) rfl rfl rfl ?_
              refine ⟨rfl, ?_⟩
              refine bGo hA 6 5 (170, .iload_n 3, 1, 102, 0, [3], []) rfl rfl rfl ?_
              refine bGo hA 6 6 (171, .iload 5, 2, 103, 0, [5], []) rfl rfl rfl ?_
              refine bGo hA 6 7 (173, .bipush (100), 2, 104, 0, [], [(100, 0)]) rfl rfl rfl ?_
              refine bEqI bl_100 ?_
              refine bGo hA 6 8 (175, .isub, 1, 105, 0, [], []) rfl rfl rfl ?_
              refine bEqI (bn_sub (bi σ 106 ((40 * (bi σ 149 l3)) + (bi σ 150 l3))) 100) ?_
              refine bGo hA 6 9 (176, .iastore, 1, 106, 0, [], []) rfl rfl rfl ?_
              refine ⟨rfl, (bIxP (x := (l3 + 1)) (n := 128) ((((((h.2 c1).2.2.1 c2).2.2.2.2.2 c3).2.2.2.1 c4).2 c5).1 c7).1 ((((((h.2 c1).2.2.1 c2).2.2.2.2.2 c3).2.2.2.1 c4).2 c5).1 c7).2.1), by decide, ?_⟩
              refine bEqS (x := (l3 + 1)) ((((((h.2 c1).2.2.1 c2).2.2.2.2.2 c3).2.2.2.1 c4).2 c5).1 c7).1 ?_
              refine bGo hA 6 10 (177, .aload_n 0, 1, 107, 0, [0], []) rfl rfl rfl ?_
              refine bGo hA 6 11 (178, .getfield 293, 3, 108, 0, [12, 108, 3, 150, 1, 0], []) rfl rfl rfl ?_
              refine ⟨rfl, ?_⟩
              refine bGo hA 6 12 (181, .iload_n 3, 1, 109, 0, [3], []) rfl rfl rfl ?_
              refine bGo hA 6 13 (182, .iconst (0), 1, 110, 0, [], [(0, 0)]) rfl rfl rfl ?_
              refine bEqI bl_0 ?_
              refine bGo hA 6 14 (183, .iastore, 1, 111, 0, [], []) rfl rfl rfl ?_
              refine ⟨rfl, (bIxP (x := (l3 + 1)) (n := 128) ((((((h.2 c1).2.2.1 c2).2.2.2.2.2 c3).2.2.2.1 c4).2 c5).1 c7).1 ((((((h.2 c1).2.2.1 c2).2.2.2.2.2 c3).2.2.2.1 c4).2 c5).1 c7).2.1), by decide, ?_⟩
              refine bEqS (x := (l3 + 1)) ((((((h.2 c1).2.2.1 c2).2.2.2.2.2 c3).2.2.2.1 c4).2 c5).1 c7).1 ?_
              refine bGo hA 6 15 (184, .goto (49), 3, 112, 141, [], []) rfl rfl rfl ?_
              refine bGo hA 8 13 (233, .goto (-215), 3, 142, 14, [], []) rfl rfl rfl ?_
              exact ((((((h.2 c1).2.2.1 c2).2.2.2.2.2 c3).2.2.2.1 c4).2 c5).1 c7).2.2
            · refine bGo hA 4 14 (129, .iconst (1), 1, 79, 0, [], [(1, 0)]) rfl rfl rfl ?_
              refine bEqI bl_1 ?_
              refine bGo hA 4 15 (130, .goto (4), 3, 80, 81, [], []) rfl rfl rfl ?_
              refine bGo hA 5 1 (134, .istore 7, 2, 82, 0, [7], []) rfl rfl rfl ?_
              refine bGo hA 5 2 (136, .iload 7, 2, 83, 0, [7], []) rfl rfl rfl ?_
              refine bGo hA 5 3 (138, .ifCond .eq (25), 3, 84, 98, [], []) rfl rfl rfl ?_
              refine ⟨fun c => absurd c (by decide), fun _ => ?_⟩
              refine bGo hA 5 4 (141, .aload_n 0, 1, 85, 0, [0], []) rfl rfl rfl ?_
              refine bGo hA 5 5 (142, .getfield 245, 3, 86, 0, [12, 89, 3, 134, 1, 0], []) rfl rfl rfl ?_
              refine ⟨rfl, ?_⟩
              refine bGo hA 5 6 (145, .iload 6, 2, 87, 0, [6], []) rfl rfl rfl ?_
              refine bGo hA 5 7 (147, .iconst (1), 1, 88, 0, [], [(1, 0)]) rfl rfl rfl ?_
              refine bEqI bl_1 ?_
              refine bGo hA 5 8 (148, .bastore, 1, 89, 0, [], []) rfl rfl rfl ?_
              refine ⟨rfl, (bIxP (x := (bi σ 112 ((bi σ 106 ((40 * (bi σ 149 l3)) + (bi σ 150 l3))) - 100))) (n := 1000) (bi_rg _ _ _) (((h.2 c1).2.2.1 c2).2.2.2.2.2 c3).2.2.1), by decide, b01 (Or.inr rfl), ?_⟩
              refine bEqS (x := (bi σ 112 ((bi σ 106 ((40 * (bi σ 149 l3)) + (bi σ 150 l3))) - 100))) (bi_rg _ _ _) ?_
              refine bGo hA 5 9 (149, .aload_n 0, 1, 90, 0, [0], []) rfl rfl rfl ?_
              refine bGo hA 5 10 (150, .getfield 260, 3, 91, 0, [12, 94, 3, 139, 1, 0], []) rfl rfl rfl ?_
              refine ⟨rfl, ?_⟩
              refine bGo hA 5 11 (153, .bipush (10), 2, 92, 0, [], [(10, 0)]) rfl rfl rfl ?_
              refine bEqI bl_10 ?_
              refine bGo hA 5 12 (155, .dup2, 1, 93, 0, [], []) rfl rfl rfl ?_
              refine bGo hA 5 13 (156, .iaload, 1, 94, 0, [], []) rfl rfl rfl ?_
              refine ⟨rfl, (bIxP (x := 10) (n := 12) (by decide) (by decide)), ?_⟩
              refine bEqL (x := 10) (by decide : bRg 10) ?_
              refine bEqI (congrArg bn (show bi (bw (bw σ 150 l3 ((bi σ 150 l3) + 1)) 134 (bi σ 112 ((bi σ 106 ((40 * (bi σ 149 l3)) + (bi σ 150 l3))) - 100)) 1) 139 10 = (bi σ 139 10) from ((bi_ne (by decide)).trans (bi_ne (by decide))))) ?_
              refine bGo hA 5 14 (157, .iconst (1), 1, 95, 0, [], [(1, 0)]) rfl rfl rfl ?_
              refine bEqI bl_1 ?_
              refine bGo hA 5 15 (158, .iadd, 1, 96, 0, [], []) rfl rfl rfl ?_
              refine bEqI (bn_add (bi σ 139 10) 1) ?_
              refine bGo hA 6 0 (159, .iastore, 1, 97, 0, [], []) rfl rfl rfl ?_
              refine ⟨rfl, (bIxP (x := 10) (n := 12) (by decide) (by decide)), by decide, ?_⟩
              refine bEqS (x := 10) (by decide : bRg 10) ?_
              refine bGo hA 6 1 (160, .goto (24), 3, 98, 111, [], []) rfl rfl rfl ?_
              refine bGo hA 6 15 (184, .goto (49), 3, 112, 141, [], []) rfl rfl rfl ?_
              refine bGo hA 8 13 (233, .goto (-215), 3, 142, 14, [], []) rfl rfl rfl ?_
              exact ((((((h.2 c1).2.2.1 c2).2.2.2.2.2 c3).2.2.2.1 c4).2 c5).2 c7).2
        · refine bGo hA 6 15 (184, .goto (49), 3, 112, 141, [], []) rfl rfl rfl ?_
          refine bGo hA 8 13 (233, .goto (-215), 3, 142, 14, [], []) rfl rfl rfl ?_
          exact ((((h.2 c1).2.2.1 c2).2.2.2.2.2 c3).2.2.2.2 c4)
    · refine bGo hA 7 0 (187, .iload_n 3, 1, 113, 0, [3], []) rfl rfl rfl ?_
      refine bGo hA 7 1 (188, .ifCond .le (42), 3, 114, 140, [], []) rfl rfl rfl ?_
      refine bB_gt0 (x := l3) h_l3 (fun c10 => ?_) (fun c10 => ?_)
      · refine bGo hA 7 2 (191, .aload_n 0, 1, 115, 0, [0], []) rfl rfl rfl ?_
        refine bGo hA 7 3 (192, .getfield 245, 3, 116, 0, [12, 89, 3, 134, 1, 0], []) rfl rfl rfl ?_
        refine ⟨rfl, ?_⟩
        refine bGo hA 7 4 (195, .aload_n 0, 1, 117, 0, [0], []) rfl rfl rfl ?_
        refine bGo hA 7 5 (196, .getfield 179, 3, 118, 0, [12, 61, 3, 112, 1, 0], []) rfl rfl rfl ?_
        refine ⟨rfl, ?_⟩
        refine bGo hA 7 6 (199, .iload 4, 2, 119, 0, [4], []) rfl rfl rfl ?_
        refine bGo hA 7 7 (201, .iaload, 1, 120, 0, [], []) rfl rfl rfl ?_
        refine ⟨rfl, (bIxP (x := (bi σ 149 l3)) (n := 120) (bi_rg _ _ _) (h.2 c1).2.1), ?_⟩
        refine bEqL (x := (bi σ 149 l3)) (bi_rg _ _ _) ?_
        refine bGo hA 7 8 (202, .iconst (1), 1, 121, 0, [], [(1, 0)]) rfl rfl rfl ?_
        refine bEqI bl_1 ?_
        refine bGo hA 7 9 (203, .bastore, 1, 122, 0, [], []) rfl rfl rfl ?_
        refine ⟨rfl, (bIxP (x := (bi σ 112 (bi σ 149 l3))) (n := 1000) (bi_rg _ _ _) (((h.2 c1).2.2.2 c2).1 c10).1), by decide, b01 (Or.inr rfl), ?_⟩
        refine bEqS (x := (bi σ 112 (bi σ 149 l3))) (bi_rg _ _ _) ?_
        refine bGo hA 7 10 (204, .iload_n 2, 1, 123, 0, [2], []) rfl rfl rfl ?_
        refine bGo hA 7 11 (205, .aload_n 0, 1, 124, 0, [0], []) rfl rfl rfl ?_
        refine bGo hA 7 12 (206, .getfield 113, 3, 125, 0, [12, 38, 3, 90, 1, 0], []) rfl rfl rfl ?_
        refine ⟨rfl, ?_⟩
        refine bGo hA 7 13 (209, .aload_n 0, 1, 126, 0, [0], []) rfl rfl rfl ?_
        refine bGo hA 7 14 (210, .getfield 164, 3, 127, 0, [12, 56, 3, 107, 1, 0], []) rfl rfl rfl ?_
        refine ⟨rfl, ?_⟩
        refine bGo hA 7 15 (213, .iload 4, 2, 128, 0, [4], []) rfl rfl rfl ?_
        refine bGo hA 8 0 (215, .iaload, 1, 129, 0, [], []) rfl rfl rfl ?_
        refine ⟨rfl, (bIxP (x := (bi σ 149 l3)) (n := 120) (bi_rg _ _ _) (h.2 c1).2.1), ?_⟩
        refine bEqL (x := (bi σ 149 l3)) (bi_rg _ _ _) ?_
        refine bEqI (congrArg bn (show bi (bw σ 134 (bi σ 112 (bi σ 149 l3)) 1) 107 (bi σ 149 l3) = (bi σ 107 (bi σ 149 l3)) from (bi_ne (by decide)))) ?_
        refine bGo hA 8 1 (216, .iaload, 1, 130, 0, [], []) rfl rfl rfl ?_
        refine ⟨rfl, (bIxP (x := (bi σ 107 (bi σ 149 l3))) (n := 16) (bi_rg _ _ _) (((h.2 c1).2.2.2 c2).1 c10).2.1), ?_⟩
        refine bEqL (x := (bi σ 107 (bi σ 149 l3))) (bi_rg _ _ _) ?_
        refine bEqI (congrArg bn (show bi (bw σ 134 (bi σ 112 (bi σ 149 l3)) 1) 90 (bi σ 107 (bi σ 149 l3)) = (bi σ 90 (bi σ 107 (bi σ 149 l3))) from (bi_ne (by decide)))) ?_
        refine bGo hA 8 2 (217, .iadd, 1, 131, 0, [], []) rfl rfl rfl ?_
        refine bEqI (bn_add l2 (bi σ 90 (bi σ 107 (bi σ 149 l3)))) ?_
        refine bGo hA 8 3 (218, .istore_n 2, 1, 132, 0, [2], []) rfl rfl rfl ?_
        refine bGo hA 8 4 (219, .aload_n 0, 1, 133, 0, [0], []) rfl rfl rfl ?_
        refine bGo hA 8 5 (220, .getfield 260, 3, 134, 0, [12, 94, 3, 139, 1, 0], []) rfl rfl rfl ?_
        refine ⟨rfl, ?_⟩
        refine bGo hA 8 6 (223, .bipush (9), 2, 135, 0, [], [(9, 0)]) rfl rfl rfl ?_
        refine bEqI bl_9 ?_
        refine bGo hA 8 7 (225, .dup2, 1, 136, 0, [], []) rfl rfl rfl ?_
        refine bGo hA 8 8 (226, .iaload, 1, 137, 0, [], []) rfl rfl rfl ?_
        refine ⟨rfl, (bIxP (x := 9) (n := 12) (by decide) (by decide)), ?_⟩
        refine bEqL (x := 9) (by decide : bRg 9) ?_
        refine bEqI (congrArg bn (show bi (bw σ 134 (bi σ 112 (bi σ 149 l3)) 1) 139 9 = (bi σ 139 9) from (bi_ne (by decide)))) ?_
        refine bGo hA 8 9 (227, .iconst (1), 1, 138, 0, [], [(1, 0)]) rfl rfl rfl ?_
        refine bEqI bl_1 ?_
        refine bGo hA 8 10 (228, .iadd, 1, 139, 0, [], []) rfl rfl rfl ?_
        refine bEqI (bn_add (bi σ 139 9) 1) ?_
        refine bGo hA 8 11 (229, .iastore, 1, 140, 0, [], []) rfl rfl rfl ?_
        refine ⟨rfl, (bIxP (x := 9) (n := 12) (by decide) (by decide)), by decide, ?_⟩
        refine bEqS (x := 9) (by decide : bRg 9) ?_
        refine bGo hA 8 12 (230, .iinc 3 (-1), 3, 141, 0, [3], [(-1, 0)]) rfl rfl rfl ?_
        refine bEqC (fun v => A (141, [.ref 12, (bUnl v1), .int (bn (l2 + (bi σ 90 (bi σ 107 (bi σ 149 l3))))), .int v, .int (bn (bi σ 149 l3)), v5, v6, v7], [], (bw (bw σ 134 (bi σ 112 (bi σ 149 l3)) 1) 139 9 ((bi σ 139 9) + 1)))) ((congrArg (fun w => bn l3 + w) bl_m1).trans (bn_add l3 (-1))) ?_
        refine bGo hA 8 13 (233, .goto (-215), 3, 142, 14, [], []) rfl rfl rfl ?_
        exact (((h.2 c1).2.2.2 c2).1 c10).2.2.2.2.2
      · refine bGo hA 8 12 (230, .iinc 3 (-1), 3, 141, 0, [3], [(-1, 0)]) rfl rfl rfl ?_
        refine bEqC (fun v => A (141, [.ref 12, v1, .int (bn l2), .int v, .int (bn (bi σ 149 l3)), v5, v6, v7], [], σ)) ((congrArg (fun w => bn l3 + w) bl_m1).trans (bn_add l3 (-1))) ?_
        refine bGo hA 8 13 (233, .goto (-215), 3, 142, 14, [], []) rfl rfl rfl ?_
        exact (((h.2 c1).2.2.2 c2).2 c10).2

theorem sq298_0 {lvl : Nat} {C : bCall} {Q : bPost} {A : bPt → Prop} (hC : bMono C) (hA : bClosed lvl bm298 C Q A) {x1 : Int} {x2 : Int} {σ : bSt}  (h_x1 : bRg x1) (h_x2 : bRg x2)
  (h : ((0 ≤ x1 ∧ x1 < 120) ∧ (((bi σ 145 x1) = (bi σ 12 105) → A (10, [.ref 12, .int (bn x1), .int (bn x2), .float 0, .float 0], [.int (bn 1)], σ)) ∧ (¬ (bi σ 145 x1) = (bi σ 12 105) → A (10, [.ref 12, .int (bn x1), .int (bn x2), .float 0, .float 0], [.int (bn 0)], σ))))) : A (0, [.ref 12, .int (bn x1), .int (bn x2), .float 0, .float 0], [], σ) := by
  refine bGo hA 0 0 (0, .aload_n 0, 1, 1, 0, [0], []) rfl rfl rfl ?_
  refine bGo hA 0 1 (1, .getfield 278, 3, 2, 0, [12, 101, 3, 145, 1, 0], []) rfl rfl rfl ?_
  refine ⟨rfl, ?_⟩
  refine bGo hA 0 2 (4, .iload_n 1, 1, 3, 0, [1], []) rfl rfl rfl ?_
  refine bGo hA 0 3 (5, .iaload, 1, 4, 0, [], []) rfl rfl rfl ?_
  refine ⟨rfl, (bIxP (x := x1) (n := 120) h_x1 h.1), ?_⟩
  refine bEqL (x := x1) h_x1 ?_
  refine bGo hA 0 4 (6, .aload_n 0, 1, 5, 0, [0], []) rfl rfl rfl ?_
  refine bGo hA 0 5 (7, .getfield 480, 3, 6, 0, [12, 105, 0, 0, 0, 0], []) rfl rfl rfl ?_
  refine ⟨rfl, ?_⟩
  refine bEqI (bn_bi σ 12 105) ?_
  refine bGo hA 0 6 (10, .if_icmp .ne (7), 3, 7, 9, [], []) rfl rfl rfl ?_
  refine bB_eq (x := (bi σ 145 x1)) (y := (bi σ 12 105)) (bi_rg _ _ _) (bi_rg _ _ _) (fun c1 => ?_) (fun c1 => ?_)
  · refine bGo hA 0 7 (13, .iconst (1), 1, 8, 0, [], [(1, 0)]) rfl rfl rfl ?_
    refine bEqI bl_1 ?_
    refine bGo hA 0 8 (14, .goto (4), 3, 9, 10, [], []) rfl rfl rfl ?_
    exact (h.2.1 c1)
  · refine bGo hA 0 9 (17, .iconst (0), 1, 10, 0, [], [(0, 0)]) rfl rfl rfl ?_
    refine bEqI bl_0 ?_
    exact (h.2.2 c1)

theorem sq298_10 {lvl : Nat} {C : bCall} {Q : bPost} {A : bPt → Prop} (hC : bMono C) (hA : bClosed lvl bm298 C Q A) {l1 : Int} {l2 : Int} {v3 : Value} {v4 : Value} {t0 : Int} {σ : bSt}  (h_l1 : bRg l1) (h_l2 : bRg l2) (h_t0 : bRg t0)
  (h : ((0 ≤ l1 ∧ l1 < 120) ∧ (((bi σ 147 l1) = 0 → ((t0 = 0 → (C 291 [.ref 12, .int (bn l1), .int (bn (-1))] σ (bRv (fun s3 => (((bi s3 133 l1) = 0 → A (52, [.ref 12, .int (bn l1), .int (bn l2), .int (bn t0), v4], [.int (bn 0), .int (bn (bi s3 139 11)), .int (bn 11), .ref 139], s3)) ∧ (¬ (bi s3 133 l1) = 0 → A (52, [.ref 12, .int (bn l1), .int (bn l2), .int (bn t0), v4], [.int (bn 1), .int (bn (bi s3 139 11)), .int (bn 11), .ref 139], s3))))))) ∧ (¬ t0 = 0 → (C 291 [.ref 12, .int (bn l1), .int (bn (bi σ 103 l1))] σ (bRv (fun s6 => (((bi s6 133 l1) = 0 → A (52, [.ref 12, .int (bn l1), .int (bn l2), .int (bn t0), v4], [.int (bn 0), .int (bn (bi s6 139 11)), .int (bn 11), .ref 139], s6)) ∧ (¬ (bi s6 133 l1) = 0 → A (52, [.ref 12, .int (bn l1), .int (bn l2), .int (bn t0), v4], [.int (bn 1), .int (bn (bi s6 139 11)), .int (bn 11), .ref 139], s6))))))))) ∧ (¬ (bi σ 147 l1) = 0 → (C 295 [.ref 12, .int (bn l1), .int (bn 2)] σ (bRv (fun s9 => (C 272 [.ref 12, .int (bn l1)] s9 (bRv (fun s11 => (C 270 [.ref 12, .int (bn l1), .int (bn 0)] s11 (bRv (fun s13 => Q (.inl none) s13))))))))))))) : A (10, [.ref 12, .int (bn l1), .int (bn l2), v3, v4], [.int (bn t0)], σ) := by
  refine bGo hA 0 10 (18, .istore_n 3, 1, 11, 0, [3], []) rfl rfl rfl ?_
  refine bGo hA 0 11 (19, .aload_n 0, 1, 12, 0, [0], []) rfl rfl rfl ?_
  refine bGo hA 0 12 (20, .getfield 284, 3, 13, 0, [12, 103, 3, 147, 1, 0], []) rfl rfl rfl ?_
  refine ⟨rfl, ?_⟩
  refine bGo hA 0 13 (23, .iload_n 1, 1, 14, 0, [1], []) rfl rfl rfl ?_
  refine bGo hA 0 14 (24, .baload, 1, 15, 0, [], []) rfl rfl rfl ?_
  refine ⟨rfl, (bIxP (x := l1) (n := 120) h_l1 h.1), ?_⟩
  refine bEqL (x := l1) h_l1 ?_
  refine bGo hA 0 15 (25, .ifCond .eq (21), 3, 16, 28, [], []) rfl rfl rfl ?_
  refine bB_eq0 (x := (bi σ 147 l1)) (bi_rg _ _ _) (fun c1 => ?_) (fun c1 => ?_)
  · refine bGo hA 1 12 (46, .aload_n 0, 1, 29, 0, [0], []) rfl rfl rfl ?_
    refine bGo hA 1 13 (47, .iload_n 1, 1, 30, 0, [1], []) rfl rfl rfl ?_
    refine bGo hA 1 14 (48, .iload_n 3, 1, 31, 0, [3], []) rfl rfl rfl ?_
    refine bGo hA 1 15 (49, .ifCond .eq (12), 3, 32, 37, [], []) rfl rfl rfl ?_
    refine bB_eq0 (x := t0) h_t0 (fun c2 => ?_) (fun c2 => ?_)
    · refine bGo hA 2 5 (61, .iconst (-1), 1, 38, 0, [], [(-1, 0)]) rfl rfl rfl ?_
      refine bEqI bl_m1 ?_
      refine bGo hA 2 6 (62, .invokevirtual 531, 3, 39, 0, [0, 12, 291, 2], []) rfl rfl rfl ?_
      refine ⟨rfl, ?_⟩
      refine hC _ _ _ _ _ (bRv_e (fun s3 k4 => ?_)) ((h.2.1 c1).1 c2)
      show A (39, [.ref 12, .int (bn l1), .int (bn l2), .int (bn t0), v4], [], s3)
      refine bGo hA 2 7 (65, .aload_n 0, 1, 40, 0, [0], []) rfl rfl rfl ?_
      refine bGo hA 2 8 (66, .getfield 260, 3, 41, 0, [12, 94, 3, 139, 1, 0], []) rfl rfl rfl ?_
      refine ⟨rfl, ?_⟩
      refine bGo hA 2 9 (69, .bipush (11), 2, 42, 0, [], [(11, 0)]) rfl rfl rfl ?_
      refine bEqI bl_11 ?_
      refine bGo hA 2 10 (71, .dup2, 1, 43, 0, [], []) rfl rfl rfl ?_
      refine bGo hA 2 11 (72, .iaload, 1, 44, 0, [], []) rfl rfl rfl ?_
      refine ⟨rfl, (bIxP (x := 11) (n := 12) (by decide) (by decide)), ?_⟩
      refine bEqL (x := 11) (by decide : bRg 11) ?_
      refine bGo hA 2 12 (73, .aload_n 0, 1, 45, 0, [0], []) rfl rfl rfl ?_
      refine bGo hA 2 13 (74, .getfield 242, 3, 46, 0, [12, 86, 3, 133, 1, 0], []) rfl rfl rfl ?_
      refine ⟨rfl, ?_⟩
      refine bGo hA 2 14 (77, .iload_n 1, 1, 47, 0, [1], []) rfl rfl rfl ?_
      refine bGo hA 2 15 (78, .baload, 1, 48, 0, [], []) rfl rfl rfl ?_
      refine ⟨rfl, (bIxP (x := l1) (n := 120) h_l1 h.1), ?_⟩
      refine bEqL (x := l1) h_l1 ?_
      refine bGo hA 3 0 (79, .ifCond .eq (7), 3, 49, 51, [], []) rfl rfl rfl ?_
      refine bB_eq0 (x := (bi s3 133 l1)) (bi_rg _ _ _) (fun c5 => ?_) (fun c5 => ?_)
      · refine bGo hA 3 3 (86, .iconst (0), 1, 52, 0, [], [(0, 0)]) rfl rfl rfl ?_
        refine bEqI bl_0 ?_
        exact (k4.1 c5)
      · refine bGo hA 3 1 (82, .iconst (1), 1, 50, 0, [], [(1, 0)]) rfl rfl rfl ?_
        refine bEqI bl_1 ?_
        refine bGo hA 3 2 (83, .goto (4), 3, 51, 52, [], []) rfl rfl rfl ?_
        exact (k4.2 c5)
    · refine bGo hA 2 0 (52, .aload_n 0, 1, 33, 0, [0], []) rfl rfl rfl ?_
      refine bGo hA 2 1 (53, .getfield 152, 3, 34, 0, [12, 52, 3, 103, 1, 0], []) rfl rfl rfl ?_
      refine ⟨rfl, ?_⟩
      refine bGo hA 2 2 (56, .iload_n 1, 1, 35, 0, [1], []) rfl rfl rfl ?_
      refine bGo hA 2 3 (57, .iaload, 1, 36, 0, [], []) rfl rfl rfl ?_
      refine ⟨rfl, (bIxP (x := l1) (n := 120) h_l1 h.1), ?_⟩
      refine bEqL (x := l1) h_l1 ?_
      refine bGo hA 2 4 (58, .goto (4), 3, 37, 38, [], []) rfl rfl rfl ?_
      refine bGo hA 2 6 (62, .invokevirtual 531, 3, 39, 0, [0, 12, 291, 2], []) rfl rfl rfl ?_
      refine ⟨rfl, ?_⟩
      refine hC _ _ _ _ _ (bRv_e (fun s6 k7 => ?_)) ((h.2.1 c1).2 c2)
      show A (39, [.ref 12, .int (bn l1), .int (bn l2), .int (bn t0), v4], [], s6)
      refine bGo hA 2 7 (65, .aload_n 0, 1, 40, 0, [0], []) rfl rfl rfl ?_
      refine bGo hA 2 8 (66, .getfield 260, 3, 41, 0, [12, 94, 3, 139, 1, 0], []) rfl rfl rfl ?_
      refine ⟨rfl, ?_⟩
      refine bGo hA 2 9 (69, .bipush (11), 2, 42, 0, [], [(11, 0)]) rfl rfl rfl ?_
      refine bEqI bl_11 ?_
      refine bGo hA 2 10 (71, .dup2, 1, 43, 0, [], []) rfl rfl rfl ?_
      refine bGo hA 2 11 (72, .iaload, 1, 44, 0, [], []) rfl rfl rfl ?_
      refine ⟨rfl, (bIxP (x := 11) (n := 12) (by decide) (by decide)), ?_⟩
      refine bEqL (x := 11) (by decide : bRg 11) ?_
      refine bGo hA 2 12 (73, .aload_n 0, 1, 45, 0, [0], []) rfl rfl rfl ?_
      refine bGo hA 2 13 (74, .getfield 242, 3, 46, 0, [12, 86, 3, 133, 1, 0], []) rfl rfl rfl ?_
      refine ⟨rfl, ?_⟩
      refine bGo hA 2 14 (77, .iload_n 1, 1, 47, 0, [1], []) rfl rfl rfl ?_
      refine bGo hA 2 15 (78, .baload, 1, 48, 0, [], []) rfl rfl rfl ?_
      refine ⟨rfl, (bIxP (x := l1) (n := 120) h_l1 h.1), ?_⟩
      refine bEqL (x := l1) h_l1 ?_
      refine bGo hA 3 0 (79, .ifCond .eq (7), 3, 49, 51, [], []) rfl rfl rfl ?_
      refine bB_eq0 (x := (bi s6 133 l1)) (bi_rg _ _ _) (fun c8 => ?_) (fun c8 => ?_)
      · refine bGo hA 3 3 (86, .iconst (0), 1, 52, 0, [], [(0, 0)]) rfl rfl rfl ?_
        refine bEqI bl_0 ?_
        exact (k7.1 c8)
      · refine bGo hA 3 1 (82, .iconst (1), 1, 50, 0, [], [(1, 0)]) rfl rfl rfl ?_
        refine bEqI bl_1 ?_
        refine bGo hA 3 2 (83, .goto (4), 3, 51, 52, [], []) rfl rfl rfl ?_
        exact (k7.2 c8)
  · refine bGo hA 1 0 (28, .aload_n 0, 1, 17, 0, [0], []) rfl rfl rfl ?_
    refine bGo hA 1 1 (29, .iload_n 1, 1, 18, 0, [1], []) rfl rfl rfl ?_
    refine bGo hA 1 2 (30, .iconst (2), 1, 19, 0, [], [(2, 0)]) rfl rfl rfl ?_
    refine bEqI bl_2 ?_
    refine bGo hA 1 3 (31, .invokevirtual 548, 3, 20, 0, [0, 12, 295, 2], []) rfl rfl rfl ?_
    refine ⟨rfl, ?_⟩
    refine hC _ _ _ _ _ (bRv_e (fun s9 k10 => ?_)) (h.2.2 c1)
    show A (20, [.ref 12, .int (bn l1), .int (bn l2), .int (bn t0), v4], [], s9)
    refine bGo hA 1 4 (34, .aload_n 0, 1, 21, 0, [0], []) rfl rfl rfl ?_
    refine bGo hA 1 5 (35, .iload_n 1, 1, 22, 0, [1], []) rfl rfl rfl ?_
    refine bGo hA 1 6 (36, .invokevirtual 554, 3, 23, 0, [0, 12, 272, 1], []) rfl rfl rfl ?_
    refine ⟨rfl, ?_⟩
    refine hC _ _ _ _ _ (bRv_e (fun s11 k12 => ?_)) k10
    show A (23, [.ref 12, .int (bn l1), .int (bn l2), .int (bn t0), v4], [], s11)
    refine bGo hA 1 7 (39, .aload_n 0, 1, 24, 0, [0], []) rfl rfl rfl ?_
    refine bGo hA 1 8 (40, .iload_n 1, 1, 25, 0, [1], []) rfl rfl rfl ?_
    refine bGo hA 1 9 (41, .iconst (0), 1, 26, 0, [], [(0, 0)]) rfl rfl rfl ?_
    refine bEqI bl_0 ?_
    refine bGo hA 1 10 (42, .invokevirtual 563, 3, 27, 0, [0, 12, 270, 2], []) rfl rfl rfl ?_
    refine ⟨rfl, ?_⟩
    refine hC _ _ _ _ _ (bRv_e (fun s13 k14 => ?_)) k12
    show A (27, [.ref 12, .int (bn l1), .int (bn l2), .int (bn t0), v4], [], s13)
    refine bGo hA 1 11 (45, .return_, 1, 28, 0, [0], []) rfl rfl rfl ?_
    exact k14

theorem sq298_52 {lvl : Nat} {C : bCall} {Q : bPost} {A : bPt → Prop} (hC : bMono C) (hA : bClosed lvl bm298 C Q A) {l1 : Int} {l2 : Int} {l3 : Int} {v4 : Value} {t0 : Int} {t1 : Int} {t2 : Int} {σ : bSt}  (h_l1 : bRg l1) (h_l2 : bRg l2) (h_l3 : bRg l3) (h_t0 : bRg t0) (h_t1 : bRg t1) (h_t2 : bRg t2)
  (h : (bRg (t1 + t0) ∧ ((0 ≤ t2 ∧ t2 < 12) ∧ ((0 ≤ l1 ∧ l1 < 120) ∧ (((bi σ 130 l1) = (-5) → (C 295 [.ref 12, .int (bn l1), .int (bn 5)] (bw σ 139 t2 (t1 + t0)) (bRv (fun s2 => (((bi s2 12 95) = (-1) → (((bi s2 12 106) = 0 → ((l2 = 0 → Q (.inl none) (bw (bw s2 12 95 l1) 12 106 1)) ∧ (¬ l2 = 0 → Q (.inl none) (bw (bw s2 12 95 l1) 12 106 0)))) ∧ (¬ (bi s2 12 106) = 0 → Q (.inl none) (bw (bw s2 12 95 l1) 12 106 1)))) ∧ (¬ (bi s2 12 95) = (-1) → (((bi s2 12 106) = 0 → ((l2 = 0 → Q (.inl none) (bw (bw s2 12 95 (bi s2 12 95)) 12 106 1)) ∧ (¬ l2 = 0 → Q (.inl none) (bw (bw s2 12 95 (bi s2 12 95)) 12 106 0)))) ∧ (¬ (bi s2 12 106) = 0 → Q (.inl none) (bw (bw s2 12 95 (bi s2 12 95)) 12 106 1))))))))) ∧ (¬ (bi σ 130 l1) = (-5) → ((l3 = 0 → A (92, [.ref 12, .int (bn l1), .int (bn l2), .int (bn l3), v4], [.int (bn 4), .int (bn l1), .ref 12], (bw σ 139 t2 (t1 + t0)))) ∧ (¬ l3 = 0 → A (92, [.ref 12, .int (bn l1), .int (bn l2), .int (bn l3), v4], [.int (bn 3), .int (bn l1), .ref 12], (bw σ 139 t2 (t1 + t0))))))))))) : A (52, [.ref 12, .int (bn l1), .int (bn l2), .int (bn l3), v4], [.int (bn t0), .int (bn t1), .int (bn t2), .ref 139], σ) := by
  refine bGo hA 3 4 (87, .iadd, 1, 53, 0, [], []) rfl rfl rfl ?_
  refine bEqI (bn_add t1 t0) ?_
  refine bGo hA 3 5 (88, .iastore, 1, 54, 0, [], []) rfl rfl rfl ?_
  refine ⟨rfl, (bIxP (x := t2) (n := 12) h_t2 h.2.1), by decide, ?_⟩
  refine bEqS (x := t2) h_t2 ?_
  refine bGo hA 3 6 (89, .aload_n 0, 1, 55, 0, [0], []) rfl rfl rfl ?_
  refine bGo hA 3 7 (90, .getfield 233, 3, 56, 0, [12, 83, 3, 130, 1, 0], []) rfl rfl rfl ?_
  refine ⟨rfl, ?_⟩
  refine bGo hA 3 8 (93, .iload_n 1, 1, 57, 0, [1], []) rfl rfl rfl ?_
  refine bGo hA 3 9 (94, .iaload, 1, 58, 0, [], []) rfl rfl rfl ?_
  refine ⟨rfl, (bIxP (x := l1) (n := 120) h_l1 h.2.2.1), ?_⟩
  refine bEqL (x := l1) h_l1 ?_
  refine bEqI (congrArg bn (show bi (bw σ 139 t2 (t1 + t0)) 130 l1 = (bi σ 130 l1) from (bi_ne (by decide)))) ?_
  refine bGo hA 3 10 (95, .bipush (-5), 2, 59, 0, [], [(-5, 0)]) rfl rfl rfl ?_
  refine bEqI bl_m5 ?_
  refine bGo hA 3 11 (97, .if_icmp .ne (50), 3, 60, 85, [], []) rfl rfl rfl ?_
  refine bB_eq (x := (bi σ 130 l1)) (y := (-5)) (bi_rg _ _ _) (by decide : bRg (-5)) (fun c1 => ?_) (fun c1 => ?_)
  · refine bGo hA 3 12 (100, .aload_n 0, 1, 61, 0, [0], []) rfl rfl rfl ?_
    refine bGo hA 3 13 (101, .iload_n 1, 1, 62, 0, [1], []) rfl rfl rfl ?_
    refine bGo hA 3 14 (102, .iconst (5), 1, 63, 0, [], [(5, 0)]) rfl rfl rfl ?_
    refine bEqI bl_5 ?_
    refine bGo hA 3 15 (103, .invokevirtual 548, 3, 64, 0, [0, 12, 295, 2], []) rfl rfl rfl ?_
    refine ⟨rfl, ?_⟩
    refine hC _ _ _ _ _ (bRv_e (fun s2 k3 => ?_)) (h.2.2.2.1 c1)
    show A (64, [.ref 12, .int (bn l1), .int (bn l2), .int (bn l3), v4], [], s2)
    refine bGo hA 4 0 (106, .aload_n 0, 1, 65, 0, [0], []) rfl rfl rfl ?_
    refine bGo hA 4 1 (107, .aload_n 0, 1, 66, 0, [0], []) rfl rfl rfl ?_
    refine bGo hA 4 2 (108, .getfield 316, 3, 67, 0, [12, 95, 0, 0, 0, 0], []) rfl rfl rfl ?_
    refine ⟨rfl, ?_⟩
    refine bEqI (bn_bi s2 12 95) ?_
    refine bGo hA 4 3 (111, .iconst (-1), 1, 68, 0, [], [(-1, 0)]) rfl rfl rfl ?_
    refine bEqI bl_m1 ?_
    refine bGo hA 4 4 (112, .if_icmp .ne (7), 3, 69, 71, [], []) rfl rfl rfl ?_
    refine bB_eq (x := (bi s2 12 95)) (y := (-1)) (bi_rg _ _ _) (by decide : bRg (-1)) (fun c4 => ?_) (fun c4 => ?_)
    · refine bGo hA 4 5 (115, .iload_n 1, 1, 70, 0, [1], []) rfl rfl rfl ?_
      refine bGo hA 4 6 (116, .goto (7), 3, 71, 73, [], []) rfl rfl rfl ?_
      refine bGo hA 4 9 (123, .putfield 316, 3, 74, 0, [12, 95, 0, 0, 0, 0], []) rfl rfl rfl ?_
      refine ⟨rfl, ?_⟩
      refine bGo hA 4 10 (126, .aload_n 0, 1, 75, 0, [0], []) rfl rfl rfl ?_
      refine bGo hA 4 11 (127, .aload_n 0, 1, 76, 0, [0], []) rfl rfl rfl ?_
      refine bGo hA 4 12 (128, .getfield 483, 3, 77, 0, [12, 106, 1, 0, 0, 0], []) rfl rfl rfl ?_
      refine ⟨rfl, ?_⟩
      refine bEqI ((bn_bi (bw s2 12 95 l1) 12 106).trans (congrArg bn (bi_nj (by decide) (by decide) (by decide)))) ?_
      refine bGo hA 4 13 (131, .ifCond .ne (7), 3, 78, 80, [], []) rfl rfl rfl ?_
      refine bB_eq0 (x := (bi s2 12 106)) (bi_rg _ _ _) (fun c5 => ?_) (fun c5 => ?_)
      · refine bGo hA 4 14 (134, .iload_n 2, 1, 79, 0, [2], []) rfl rfl rfl ?_
        refine bGo hA 4 15 (135, .ifCond .ne (7), 3, 80, 82, [], []) rfl rfl rfl ?_
        refine bB_eq0 (x := l2) h_l2 (fun c6 => ?_) (fun c6 => ?_)
        · refine bGo hA 5 0 (138, .iconst (1), 1, 81, 0, [], [(1, 0)]) rfl rfl rfl ?_
          refine bEqI bl_1 ?_
          refine bGo hA 5 1 (139, .goto (4), 3, 82, 83, [], []) rfl rfl rfl ?_
          refine bGo hA 5 3 (143, .putfield 483, 3, 84, 0, [12, 106, 1, 0, 0, 0], []) rfl rfl rfl ?_
          refine ⟨rfl, b01 (Or.inr rfl), ?_⟩
          refine bGo hA 5 4 (146, .return_, 1, 85, 0, [0], []) rfl rfl rfl ?_
          exact (((k3.1 c4).1 c5).1 c6)
        · refine bGo hA 5 2 (142, .iconst (0), 1, 83, 0, [], [(0, 0)]) rfl rfl rfl ?_
          refine bEqI bl_0 ?_
          refine bGo hA 5 3 (143, .putfield 483, 3, 84, 0, [12, 106, 1, 0, 0, 0], []) rfl rfl rfl ?_
          refine ⟨rfl, b01 (Or.inl rfl), ?_⟩
          refine bGo hA 5 4 (146, .return_, 1, 85, 0, [0], []) rfl rfl rfl ?_
          exact (((k3.1 c4).1 c5).2 c6)
      · refine bGo hA 5 0 (138, .iconst (1), 1, 81, 0, [], [(1, 0)]) rfl rfl rfl ?_
        refine bEqI bl_1 ?_
        refine bGo hA 5 1 (139, .goto (4), 3, 82, 83, [], []) rfl rfl rfl ?_
        refine bGo hA 5 3 (143, .putfield 483, 3, 84, 0, [12, 106, 1, 0, 0, 0], []) rfl rfl rfl ?_
        refine ⟨rfl, b01 (Or.inr rfl), ?_⟩
        refine bGo hA 5 4 (146, .return_, 1, 85, 0, [0], []) rfl rfl rfl ?_
        exact ((k3.1 c4).2 c5)
    · refine bGo hA 4 7 (119, .aload_n 0, 1, 72, 0, [0], []) rfl rfl rfl ?_
      refine bGo hA 4 8 (120, .getfield 316, 3, 73, 0, [12, 95, 0, 0, 0, 0], []) rfl rfl rfl ?_
      refine ⟨rfl, ?_⟩
      refine bEqI (bn_bi s2 12 95) ?_
      refine bGo hA 4 9 (123, .putfield 316, 3, 74, 0, [12, 95, 0, 0, 0, 0], []) rfl rfl rfl ?_
      refine ⟨rfl, ?_⟩
      refine bGo hA 4 10 (126, .aload_n 0, 1, 75, 0, [0], []) rfl rfl rfl ?_
      refine bGo hA 4 11 (127, .aload_n 0, 1, 76, 0, [0], []) rfl rfl rfl ?_
      refine bGo hA 4 12 (128, .getfield 483, 3, 77, 0, [12, 106, 1, 0, 0, 0], []) rfl rfl rfl ?_
      refine ⟨rfl, ?_⟩
      refine bEqI ((bn_bi (bw s2 12 95 (bi s2 12 95)) 12 106).trans (congrArg bn (bi_nj (by decide) (by decide) (by decide)))) ?_
      refine bGo hA 4 13 (131, .ifCond .ne (7), 3, 78, 80, [], []) rfl rfl rfl ?_
      refine bB_eq0 (x := (bi s2 12 106)) (bi_rg _ _ _) (fun c7 => ?_) (fun c7 => ?_)
      · refine bGo hA 4 14 (134, .iload_n 2, 1, 79, 0, [2], []) rfl rfl rfl ?_
        refine bGo hA 4 15 (135, .ifCond .ne (7), 3, 80, 82, [], []) rfl rfl rfl ?_
        refine bB_eq0 (x := l2) h_l2 (fun c8 => ?_) (fun c8 => ?_)
        · refine bGo hA 5 0 (138, .iconst (1), 1, 81, 0, [], [(1, 0)]) rfl rfl rfl ?_
          refine bEqI bl_1 ?_
          refine bGo hA 5 1 (139, .goto (4), 3, 82, 83, [], []) rfl rfl rfl ?_
          refine bGo hA 5 3 (143, .putfield 483, 3, 84, 0, [12, 106, 1, 0, 0, 0], []) rfl rfl rfl ?_
          refine ⟨rfl, b01 (Or.inr rfl), ?_⟩
          refine bGo hA 5 4 (146, .return_, 1, 85, 0, [0], []) rfl rfl rfl ?_
          exact (((k3.2 c4).1 c7).1 c8)
        · refine bGo hA 5 2 (142, .iconst (0), 1, 83, 0, [], [(0, 0)]) rfl rfl rfl ?_
          refine bEqI bl_0 ?_
          refine bGo hA 5 3 (143, .putfield 483, 3, 84, 0, [12, 106, 1, 0, 0, 0], []) rfl rfl rfl ?_
          refine ⟨rfl, b01 (Or.inl rfl), ?_⟩
          refine bGo hA 5 4 (146, .return_, 1, 85, 0, [0], []) rfl rfl rfl ?_
          exact (((k3.2 c4).1 c7).2 c8)
      · refine bGo hA 5 0 (138, .iconst (1), 1, 81, 0, [], [(1, 0)]) rfl rfl rfl ?_
        refine bEqI bl_1 ?_
        refine bGo hA 5 1 (139, .goto (4), 3, 82, 83, [], []) rfl rfl rfl ?_
        refine bGo hA 5 3 (143, .putfield 483, 3, 84, 0, [12, 106, 1, 0, 0, 0], []) rfl rfl rfl ?_
        refine ⟨rfl, b01 (Or.inr rfl), ?_⟩
        refine bGo hA 5 4 (146, .return_, 1, 85, 0, [0], []) rfl rfl rfl ?_
        exact ((k3.2 c4).2 c7)
  · refine bGo hA 5 5 (147, .aload_n 0, 1, 86, 0, [0], []) rfl rfl rfl ?_
    refine bGo hA 5 6 (148, .iload_n 1, 1, 87, 0, [1], []) rfl rfl rfl ?_
    refine bGo hA 5 7 (149, .iload_n 3, 1, 88, 0, [3], []) rfl rfl rfl ?_
    refine bGo hA 5 8 (150, .ifCond .eq (7), 3, 89, 91, [], []) rfl rfl rfl ?_
    refine bB_eq0 (x := l3) h_l3 (fun c9 => ?_) (fun c9 => ?_)
    · refine bGo hA 5 11 (157, .iconst (4), 1, 92, 0, [], [(4, 0)]) rfl rfl rfl ?_
      refine bEqI bl_4 ?_
      exact ((h.2.2.2.2 c1).1 c9)
    · refine bGo hA 5 9 (153, .iconst (3), 1, 90, 0, [], [(3, 0)]) rfl rfl rfl ?_
      refine bEqI bl_3 ?_
      refine bGo hA 5 10 (154, .goto (4), 3, 91, 92, [], []) rfl rfl rfl ?_
      exact ((h.2.2.2.2 c1).2 c9)

theorem sq298_92 {lvl : Nat} {C : bCall} {Q : bPost} {A : bPt → Prop} (hC : bMono C) (hA : bClosed lvl bm298 C Q A) {l1 : Int} {v2 : Value} {l3 : Int} {v4 : Value} {t0 : Int} {t1 : Int} {σ : bSt}  (h_l1 : bRg l1) (h_l3 : bRg l3) (h_t0 : bRg t0) (h_t1 : bRg t1)
  (h : (C 295 [.ref 12, .int (bn t1), .int (bn t0)] σ (bRv (fun s1 => (C 272 [.ref 12, .int (bn l1)] s1 (bRv (fun s3 => (C 270 [.ref 12, .int (bn l1), .int (bn 0)] s3 (bRv (fun s5 => (((bi s5 12 87) = 0 → ((l3 = 0 → Q (.inl none) s5) ∧ (¬ l3 = 0 → ((0 ≤ l1 ∧ l1 < 120) ∧ ((0 ≤ (bi s5 130 l1) ∧ (bi s5 130 l1) < 1000) ∧ Q (.inl none) (bw s5 134 (bi s5 130 l1) 1)))))) ∧ (¬ (bi s5 12 87) = 0 → ((0 ≤ l1 ∧ l1 < 120) ∧ (((bi s5 133 l1) = 0 → (C 270 [.ref 12, .int (bn l1), .int (bn 1)] s5 (bRv (fun s12 => ((0 ≤ (bi s12 130 l1) ∧ (bi s12 130 l1) < 1000) ∧ ((l3 = 0 → Q (.inl none) (bw s12 135 (bi s12 130 l1) 1)) ∧ (¬ l3 = 0 → Q (.inl none) (bw (bw s12 135 (bi s12 130 l1) 1) 134 (bi s12 130 l1) 1)))))))) ∧ (¬ (bi s5 133 l1) = 0 → ((l3 = 0 → Q (.inl none) s5) ∧ (¬ l3 = 0 → ((0 ≤ (bi s5 130 l1) ∧ (bi s5 130 l1) < 1000) ∧ Q (.inl none) (bw s5 134 (bi s5 130 l1) 1))))))))))))))))))) : A (92, [.ref 12, .int (bn l1), v2, .int (bn l3), v4], [.int (bn t0), .int (bn t1), .ref 12], σ) := by
  refine bGo hA 5 12 (158, .invokevirtual 548, 3, 93, 0, [0, 12, 295, 2], []) rfl rfl rfl ?_
  refine ⟨rfl, ?_⟩
  refine hC _ _ _ _ _ (bRv_e (fun s1 k2 => ?_)) h
  show A (93, [.ref 12, .int (bn l1), v2, .int (bn l3), v4], [], s1)
  refine bGo hA 5 13 (161, .aload_n 0, 1, 94, 0, [0], []) rfl rfl rfl ?_
  refine bGo hA 5 14 (162, .iload_n 1, 1, 95, 0, [1], []) rfl rfl rfl ?_
  refine bGo hA 5 15 (163, .invokevirtual 554, 3, 96, 0, [0, 12, 272, 1], []) rfl rfl rfl ?_
  refine ⟨rfl, ?_⟩
  refine hC _ _ _ _ _ (bRv_e (fun s3 k4 => ?_)) k2
  show A (96, [.ref 12, .int (bn l1), v2, .int (bn l3), v4], [], s3)
  refine bGo hA 6 0 (166, .aload_n 0, 1, 97, 0, [0], []) rfl rfl rfl ?_
  refine bGo hA 6 1 (167, .iload_n 1, 1, 98, 0, [1], []) rfl rfl rfl ?_
  refine bGo hA 6 2 (168, .iconst (0), 1, 99, 0, [], [(0, 0)]) rfl rfl rfl ?_
  refine bEqI bl_0 ?_
  refine bGo hA 6 3 (169, .invokevirtual 563, 3, 100, 0, [0, 12, 270, 2], []) rfl rfl rfl ?_
  refine ⟨rfl, ?_⟩
  refine hC _ _ _ _ _ (bRv_e (fun s5 k6 => ?_)) k4
  show A (100, [.ref 12, .int (bn l1), v2, .int (bn l3), v4], [], s5)
  refine bGo hA 6 4 (172, .aload_n 0, 1, 101, 0, [0], []) rfl rfl rfl ?_
  refine bGo hA 6 5 (173, .getfield 309, 3, 102, 0, [12, 87, 1, 0, 0, 0], []) rfl rfl rfl ?_
  refine ⟨rfl, ?_⟩
  refine bEqI (bn_bi s5 12 87) ?_
  refine bGo hA 6 6 (176, .ifCond .eq (16), 3, 103, 110, [], []) rfl rfl rfl ?_
  refine bB_eq0 (x := (bi s5 12 87)) (bi_rg _ _ _) (fun c7 => ?_) (fun c7 => ?_)
  · refine bGo hA 6 14 (192, .iconst (0), 1, 111, 0, [], [(0, 0)]) rfl rfl rfl ?_
    refine bEqI bl_0 ?_
    refine bGo hA 6 15 (193, .istore 4, 2, 112, 0, [4], []) rfl rfl rfl ?_
    refine bGo hA 7 0 (195, .iload 4, 2, 113, 0, [4], []) rfl rfl rfl ?_
    refine bGo hA 7 1 (197, .ifCond .eq (21), 3, 114, 126, [], []) rfl rfl rfl ?_
    refine ⟨fun _ => ?_, fun c => absurd (by decide) c⟩
    refine bGo hA 7 14 (218, .iload_n 3, 1, 127, 0, [3], []) rfl rfl rfl ?_
    refine bGo hA 7 15 (219, .ifCond .eq (15), 3, 128, 136, [], []) rfl rfl rfl ?_
    refine bB_eq0 (x := l3) h_l3 (fun c9 => ?_) (fun c9 => ?_)
    · refine bGo hA 8 8 (234, .return_, 1, 0, 0, [0], []) rfl rfl rfl ?_
      exact ((k6.1 c7).1 c9)
    · refine bGo hA 8 0 (222, .aload_n 0, 1, 129, 0, [0], []) rfl rfl rfl ?_
      refine bGo hA 8 1 (223, .getfield 245, 3, 130, 0, [12, 89, 3, 134, 1, 0], []) rfl rfl rfl ?_
      refine ⟨rfl, ?_⟩
      refine bGo hA 8 2 (226, .aload_n 0, 1, 131, 0, [0], []) rfl rfl rfl ?_
      refine bGo hA 8 3 (227, .getfield 233, 3, 132, 0, [12, 83, 3, 130, 1, 0], []) rfl rfl rfl ?_
      refine ⟨rfl, ?_⟩
      refine bGo hA 8 4 (230, .iload_n 1, 1, 133, 0, [1], []) rfl rfl rfl ?_
      refine bGo hA 8 5 (231, .iaload, 1, 134, 0, [], []) rfl rfl rfl ?_
      refine ⟨rfl, (bIxP (x := l1) (n := 120) h_l1 ((k6.1 c7).2 c9).1), ?_⟩
      refine bEqL (x := l1) h_l1 ?_
      refine bGo hA 8 6 (232, .iconst (1), 1, 135, 0, [], [(1, 0)]) rfl rfl rfl ?_
      refine bEqI bl_1 ?_
      refine bGo hA 8 7 (233, .bastore, 1, 136, 0, [], []) rfl rfl rfl ?_
      refine ⟨rfl, (bIxP (x := (bi s5 130 l1)) (n := 1000) (bi_rg _ _ _) ((k6.1 c7).2 c9).2.1), by decide, b01 (Or.inr rfl), ?_⟩
      refine bEqS (x := (bi s5 130 l1)) (bi_rg _ _ _) ?_
      refine bGo hA 8 8 (234, .return_, 1, 0, 0, [0], []) rfl rfl rfl ?_
      exact ((k6.1 c7).2 c9).2.2
  · refine bGo hA 6 7 (179, .aload_n 0, 1, 104, 0, [0], []) rfl rfl rfl ?_
    refine bGo hA 6 8 (180, .getfield 242, 3, 105, 0, [12, 86, 3, 133, 1, 0], []) rfl rfl rfl ?_
    refine ⟨rfl, ?_⟩
    refine bGo hA 6 9 (183, .iload_n 1, 1, 106, 0, [1], []) rfl rfl rfl ?_
    refine bGo hA 6 10 (184, .baload, 1, 107, 0, [], []) rfl rfl rfl ?_
    refine ⟨rfl, (bIxP (x := l1) (n := 120) h_l1 (k6.2 c7).1), ?_⟩
    refine bEqL (x := l1) h_l1 ?_
    refine bGo hA 6 11 (185, .ifCond .ne (7), 3, 108, 110, [], []) rfl rfl rfl ?_
    refine bB_eq0 (x := (bi s5 133 l1)) (bi_rg _ _ _) (fun c10 => ?_) (fun c10 => ?_)
    · refine bGo hA 6 12 (188, .iconst (1), 1, 109, 0, [], [(1, 0)]) rfl rfl rfl ?_
      refine bEqI bl_1 ?_
      refine bGo hA 6 13 (189, .goto (4), 3, 110, 111, [], []) rfl rfl rfl ?_
      refine bGo hA 6 15 (193, .istore 4, 2, 112, 0, [4], []) rfl rfl rfl ?_
      refine bGo hA 7 0 (195, .iload 4, 2, 113, 0, [4], []) rfl rfl rfl ?_
      refine bGo hA 7 1 (197, .ifCond .eq (21), 3, 114, 126, [], []) rfl rfl rfl ?_
      refine ⟨fun c => absurd c (by decide), fun _ => ?_⟩
      refine bGo hA 7 2 (200, .aload_n 0, 1, 115, 0, [0], []) rfl rfl rfl ?_
      refine bGo hA 7 3 (201, .iload_n 1, 1, 116, 0, [1], []) rfl rfl rfl ?_
      refine bGo hA 7 4 (202, .iconst (1), 1, 117, 0, [], [(1, 0)]) rfl rfl rfl ?_
      refine bEqI bl_1 ?_
      refine bGo hA 7 5 (203, .invokevirtual 563, 3, 118, 0, [0, 12, 270, 2], []) rfl rfl rfl ?_
      refine ⟨rfl, ?_⟩
      refine hC _ _ _ _ _ (bRv_e (fun s12 k13 => ?_)) ((k6.2 c7).2.1 c10)
      show A (118, [.ref 12, .int (bn l1), v2, .int (bn l3), .int (bn 1)], [], s12)
      refine bGo hA 7 6 (206, .aload_n 0, 1, 119, 0, [0], []) rfl rfl rfl ?_
      refine bGo hA 7 7 (207, .getfield 248, 3, 120, 0, [12, 90, 3, 135, 1, 0], []) rfl rfl rfl ?_
      refine ⟨rfl, ?_⟩
      refine bGo hA 7 8 (210, .aload_n 0, 1, 121, 0, [0], []) rfl rfl rfl ?_
      refine bGo hA 7 9 (211, .getfield 233, 3, 122, 0, [12, 83, 3, 130, 1, 0], []) rfl rfl rfl ?_
      refine ⟨rfl, ?_⟩
      refine bGo hA 7 10 (214, .iload_n 1, 1, 123, 0, [1], []) rfl rfl rfl ?_
      refine bGo hA 7 11 (215, .iaload, 1, 124, 0, [], []) rfl rfl rfl ?_
      refine ⟨rfl, (bIxP (x := l1) (n := 120) h_l1 (k6.2 c7).1), ?_⟩
      refine bEqL (x := l1) h_l1 ?_
      refine bGo hA 7 12 (216, .iconst (1), 1, 125, 0, [], [(1, 0)]) rfl rfl rfl ?_
      refine bEqI bl_1 ?_
      refine bGo hA 7 13 (217, .bastore, 1, 126, 0, [], []) rfl rfl rfl ?_
      refine ⟨rfl, (bIxP (x := (bi s12 130 l1)) (n := 1000) (bi_rg _ _ _) k13.1), by decide, b01 (Or.inr rfl), ?_⟩
      refine bEqS (x := (bi s12 130 l1)) (bi_rg _ _ _) ?_
      refine bGo hA 7 14 (218, .iload_n 3, 1, 127, 0, [3], []) rfl rfl rfl ?_
      refine bGo hA 7 15 (219, .ifCond .eq (15), 3, 128, 136, [], []) rfl rfl rfl ?_
      refine bB_eq0 (x := l3) h_l3 (fun c14 => ?_) (fun c14 => ?_)
      · refine bGo hA 8 8 (234, .return_, 1, 0, 0, [0], []) rfl rfl rfl ?_
        exact (k13.2.1 c14)
      · refine bGo hA 8 0 (222, .aload_n 0, 1, 129, 0, [0], []) rfl rfl rfl ?_
        refine bGo hA 8 1 (223, .getfield 245, 3, 130, 0, [12, 89, 3, 134, 1, 0], []) rfl rfl rfl ?_
        refine ⟨rfl, ?_⟩
        refine bGo hA 8 2 (226, .aload_n 0, 1, 131, 0, [0], []) rfl rfl rfl ?_
        refine bGo hA 8 3 (227, .getfield 233, 3, 132, 0, [12, 83, 3, 130, 1, 0], []) rfl rfl rfl ?_
        refine ⟨rfl, ?_⟩
        refine bGo hA 8 4 (230, .iload_n 1, 1, 133, 0, [1], []) rfl rfl rfl ?_
        refine bGo hA 8 5 (231, .iaload, 1, 134, 0, [], []) rfl rfl rfl ?_
        refine ⟨rfl, (bIxP (x := l1) (n := 120) h_l1 (k6.2 c7).1), ?_⟩
        refine bEqL (x := l1) h_l1 ?_
        refine bEqI (congrArg bn (show bi (bw s12 135 (bi s12 130 l1) 1) 130 l1 = (bi s12 130 l1) from (bi_ne (by decide)))) ?_
        refine bGo hA 8 6 (232, .iconst (1), 1, 135, 0, [], [(1, 0)]) rfl rfl rfl ?_
        refine bEqI bl_1 ?_
        refine bGo hA 8 7 (233, .bastore, 1, 136, 0, [], []) rfl rfl rfl ?_
        refine ⟨rfl, (bIxP (x := (bi s12 130 l1)) (n := 1000) (bi_rg _ _ _) k13.1), by decide, b01 (Or.inr rfl), ?_⟩
        refine bEqS (x := (bi s12 130 l1)) (bi_rg _ _ _) ?_
        refine bGo hA 8 8 (234, .return_, 1, 0, 0, [0], []) rfl rfl rfl ?_
        exact (k13.2.2 c14)
    · refine bGo hA 6 14 (192, .iconst (0), 1, 111, 0, [], [(0, 0)]) rfl rfl rfl ?_
      refine bEqI bl_0 ?_
      refine bGo hA 6 15 (193, .istore 4, 2, 112, 0, [4], []) rfl rfl rfl ?_
      refine bGo hA 7 0 (195, .iload 4, 2, 113, 0, [4], []) rfl rfl rfl ?_
      refine bGo hA 7 1 (197, .ifCond .eq (21), 3, 114, 126, [], []) rfl rfl rfl ?_
      refine ⟨fun _ => ?_, fun c => absurd (by decide) c⟩
      refine bGo hA 7 14 (218, .iload_n 3, 1, 127, 0, [3], []) rfl rfl rfl ?_
      refine bGo hA 7 15 (219, .ifCond .eq (15), 3, 128, 136, [], []) rfl rfl rfl ?_
      refine bB_eq0 (x := l3) h_l3 (fun c16 => ?_) (fun c16 => ?_)
      · refine bGo hA 8 8 (234, .return_, 1, 0, 0, [0], []) rfl rfl rfl ?_
        exact (((k6.2 c7).2.2 c10).1 c16)
      · refine bGo hA 8 0 (222, .aload_n 0, 1, 129, 0, [0], []) rfl rfl rfl ?_
        refine bGo hA 8 1 (223, .getfield 245, 3, 130, 0, [12, 89, 3, 134, 1, 0], []) rfl rfl rfl ?_
        refine ⟨rfl, ?_⟩
        refine bGo hA 8 2 (226, .aload_n 0, 1, 131, 0, [0], []) rfl rfl rfl ?_
        refine bGo hA 8 3 (227, .getfield 233, 3, 132, 0, [12, 83, 3, 130, 1, 0], []) rfl rfl rfl ?_
        refine ⟨rfl, ?_⟩
        refine bGo hA 8 4 (230, .iload_n 1, 1, 133, 0, [1], []) rfl rfl rfl ?_
        refine bGo hA 8 5 (231, .iaload, 1, 134, 0, [], []) rfl rfl rfl ?_
        refine ⟨rfl, (bIxP (x := l1) (n := 120) h_l1 (k6.2 c7).1), ?_⟩
        refine bEqL (x := l1) h_l1 ?_
        refine bGo hA 8 6 (232, .iconst (1), 1, 135, 0, [], [(1, 0)]) rfl rfl rfl ?_
        refine bEqI bl_1 ?_
        refine bGo hA 8 7 (233, .bastore, 1, 136, 0, [], []) rfl rfl rfl ?_
        refine ⟨rfl, (bIxP (x := (bi s5 130 l1)) (n := 1000) (bi_rg _ _ _) (((k6.2 c7).2.2 c10).2 c16).1), by decide, b01 (Or.inr rfl), ?_⟩
        refine bEqS (x := (bi s5 130 l1)) (bi_rg _ _ _) ?_
        refine bGo hA 8 8 (234, .return_, 1, 0, 0, [0], []) rfl rfl rfl ?_
        exact (((k6.2 c7).2.2 c10).2 c16).2

theorem sq185_0 {lvl : Nat} {C : bCall} {Q : bPost} {A : bPt → Prop} (hC : bMono C) (hA : bClosed lvl bm185 C Q A) {x1 : Int} {σ : bSt}  (h_x1 : bRg x1)
  (h : (C 136 [.int (bn x1), .int (bn (bi σ 9 0))] σ (bRvx (fun s1 => (C 120 [.ref 9, .int (bn x1)] s1 (bRa (fun r5 s3 => (r5 % 256 = 8 ∧ (((0 : Int) < (bi s3 r5 11) → A (16, [.ref 11, .int (bn x1), .ref r5, .float 0], [.int (bn 1)], s3)) ∧ (¬ (0 : Int) < (bi s3 r5 11) → A (16, [.ref 11, .int (bn x1), .ref r5, .float 0], [.int (bn 0)], s3)))))))) (fun E s1 => Q (.inr E) s1)))) : A (0, [.ref 11, .int (bn x1), .float 0, .float 0], [], σ) := by
  refine bGo hA 0 0 (0, .iload_n 1, 1, 1, 0, [1], []) rfl rfl rfl ?_
  refine bGo hA 0 1 (1, .aload_n 0, 1, 2, 0, [0], []) rfl rfl rfl ?_
  refine bGo hA 0 2 (2, .getfield 33, 3, 3, 0, [11, 3, 3, 9, 0, 0], []) rfl rfl rfl ?_
  refine ⟨rfl, ?_⟩
  refine bGo hA 0 3 (5, .getfield 144, 3, 4, 0, [9, 0, 0, 0, 0, 0], []) rfl rfl rfl ?_
  refine ⟨rfl, ?_⟩
  refine bEqI (bn_bi σ 9 0) ?_
  refine bGo hA 0 4 (8, .invokestatic 76, 3, 5, 0, [2, 136, 2], []) rfl rfl rfl ?_
  refine hC _ _ _ _ _ (bRvx_e (fun s1 k2 => ?_) (fun E s1 k2 => ?_)) h
  · show A (5, [.ref 11, .int (bn x1), .float 0, .float 0], [], s1)
    refine bGo hA 0 5 (11, .aload_n 0, 1, 6, 0, [0], []) rfl rfl rfl ?_
    refine bGo hA 0 6 (12, .getfield 33, 3, 7, 0, [11, 3, 3, 9, 0, 0], []) rfl rfl rfl ?_
    refine ⟨rfl, ?_⟩
    refine bGo hA 0 7 (15, .iload_n 1, 1, 8, 0, [1], []) rfl rfl rfl ?_
    refine bGo hA 0 8 (16, .invokevirtual 147, 3, 9, 0, [0, 9, 120, 1], []) rfl rfl rfl ?_
    refine ⟨rfl, ?_⟩
    refine hC _ _ _ _ _ (bRa_e (fun r5 s3 k4 => ?_)) k2
    show A (9, [.ref 11, .int (bn x1), .float 0, .float 0], [.ref r5], s3)
    refine bGo hA 0 9 (19, .astore_n 2, 1, 10, 0, [2], []) rfl rfl rfl ?_
    refine bGo hA 0 10 (20, .aload_n 2, 1, 11, 0, [2], []) rfl rfl rfl ?_
    refine bGo hA 0 11 (21, .getfield 182, 3, 12, 0, [8, 11, 0, 0, 0, 0], []) rfl rfl rfl ?_
    refine ⟨k4.1, ?_⟩
    refine bEqI (bn_bi s3 r5 11) ?_
    refine bGo hA 0 12 (24, .ifCond .le (7), 3, 13, 15, [], []) rfl rfl rfl ?_
    refine bB_gt0 (x := (bi s3 r5 11)) (bi_rg _ _ _) (fun c6 => ?_) (fun c6 => ?_)
    · refine bGo hA 0 13 (27, .iconst (1), 1, 14, 0, [], [(1, 0)]) rfl rfl rfl ?_
      refine bEqI bl_1 ?_
      refine bGo hA 0 14 (28, .goto (4), 3, 15, 16, [], []) rfl rfl rfl ?_
      exact (k4.2.1 c6)
    · refine bGo hA 0 15 (31, .iconst (0), 1, 16, 0, [], [(0, 0)]) rfl rfl rfl ?_
      refine bEqI bl_0 ?_
      exact (k4.2.2 c6)
  · exact k2

theorem sq185_16 {lvl : Nat} {C : bCall} {Q : bPost} {A : bPt → Prop} (hC : bMono C) (hA : bClosed lvl bm185 C Q A) {l1 : Int} {l2 : Nat} {v3 : Value} {t0 : Int} {σ : bSt}  (h_l1 : bRg l1) (h_t0 : bRg t0)
  (h : (C 139 [.int (bn t0)] σ (bRvx (fun s1 => (C 68 [.ref 6] s1 (bRv (fun s3 => (C 46 [.ref 5, .int (bn (bShl 1 l1)), .int (bn 0), .int (bn 0)] s3 (bRn (fun r7 s5 => ((r7 = (-2) → (C 139 [.int (bn 0)] s5 (bRvx (fun s10 => ((r7 = 1 → (C 82 [.ref 6, .int (bn l1)] (bw s10 11 6 0) (bRa (fun r15 s13 => (r15 % 256 = 0 ∧ ((256 * (2 * (r15 / 256) + 0) + 4) % 256 = 4 ∧ (C 186 [.ref 11, .ref l2, .int (bn (bi s13 (256 * (2 * (r15 / 256) + 0) + 4) 8))] s13 (bRn (fun r18 s16 => Q (.inl (some (.int (bn r18)))) s16))))))))) ∧ (¬ r7 = 1 → Q (.inl (some (.int (bn (-1))))) (bw s10 11 6 0)))) (fun E s10 => Q (.inr E) s10)))) ∧ (¬ r7 = (-2) → (C 139 [.int (bn 1)] s5 (bRvx (fun s20 => ((r7 = 1 → (C 82 [.ref 6, .int (bn l1)] (bw s20 11 6 0) (bRa (fun r25 s23 => (r25 % 256 = 0 ∧ ((256 * (2 * (r25 / 256) + 0) + 4) % 256 = 4 ∧ (C 186 [.ref 11, .ref l2, .int (bn (bi s23 (256 * (2 * (r25 / 256) + 0) + 4) 8))] s23 (bRn (fun r28 s26 => Q (.inl (some (.int (bn r28)))) s26))))))))) ∧ (¬ r7 = 1 → Q (.inl (some (.int (bn (-1))))) (bw s20 11 6 0)))) (fun E s20 => Q (.inr E) s20)))))))))))) (fun E s1 => Q (.inr E) s1)))) : A (16, [.ref 11, .int (bn l1), .ref l2, v3], [.int (bn t0)], σ) := by
  refine bGo hA 1 0 (32, .invokestatic 88, 3, 17, 0, [2, 139, 1], []) rfl rfl rfl ?_
  refine hC _ _ _ _ _ (bRvx_e (fun s1 k2 => ?_) (fun E s1 k2 => ?_)) h
  · show A (17, [.ref 11, .int (bn l1), .ref l2, v3], [], s1)
    refine bGo hA 1 1 (35, .aload_n 0, 1, 18, 0, [0], []) rfl rfl rfl ?_
    refine bGo hA 1 2 (36, .getfield 42, 3, 19, 0, [11, 4, 3, 6, 0, 0], []) rfl rfl rfl ?_
    refine ⟨rfl, ?_⟩
    refine bGo hA 1 3 (39, .invokevirtual 188, 3, 20, 0, [0, 6, 68, 0], []) rfl rfl rfl ?_
    refine ⟨rfl, ?_⟩
    refine hC _ _ _ _ _ (bRv_e (fun s3 k4 => ?_)) k2
    show A (20, [.ref 11, .int (bn l1), .ref l2, v3], [], s3)
    refine bGo hA 1 4 (42, .aload_n 0, 1, 21, 0, [0], []) rfl rfl rfl ?_
    refine bGo hA 1 5 (43, .getfield 51, 3, 22, 0, [11, 5, 3, 5, 0, 0], []) rfl rfl rfl ?_
    refine ⟨rfl, ?_⟩
    refine bGo hA 1 6 (46, .iconst (1), 1, 23, 0, [], [(1, 0)]) rfl rfl rfl ?_
    refine bEqI bl_1 ?_
    refine bGo hA 1 7 (47, .iload_n 1, 1, 24, 0, [1], []) rfl rfl rfl ?_
    refine bGo hA 1 8 (48, .ishl, 1, 25, 0, [], []) rfl rfl rfl ?_
    refine bEqI (bn_shl 1 l1) ?_
    refine bGo hA 1 9 (49, .iconst (0), 1, 26, 0, [], [(0, 0)]) rfl rfl rfl ?_
    refine bEqI bl_0 ?_
    refine bGo hA 1 10 (50, .iconst (0), 1, 27, 0, [], [(0, 0)]) rfl rfl rfl ?_
    refine bEqI bl_0 ?_
    refine bGo hA 1 11 (51, .invokevirtual 229, 3, 28, 0, [0, 5, 46, 3], []) rfl rfl rfl ?_
    refine ⟨rfl, ?_⟩
    refine hC _ _ _ _ _ (bRn_e (fun r7 s5 q8 k6 => ?_)) k4
    show A (28, [.ref 11, .int (bn l1), .ref l2, v3], [.int (bn r7)], s5)
    refine bGo hA 1 12 (54, .istore_n 3, 1, 29, 0, [3], []) rfl rfl rfl ?_
    refine bGo hA 1 13 (55, .iload_n 3, 1, 30, 0, [3], []) rfl rfl rfl ?_
    refine bGo hA 1 14 (56, .bipush (-2), 2, 31, 0, [], [(-2, 0)]) rfl rfl rfl ?_
    refine bEqI bl_m2 ?_
    refine bGo hA 1 15 (58, .if_icmp .eq (7), 3, 32, 34, [], []) rfl rfl rfl ?_
    refine bB_eq (x := r7) (y := (-2)) q8 (by decide : bRg (-2)) (fun c9 => ?_) (fun c9 => ?_)
    · refine bGo hA 2 2 (65, .iconst (0), 1, 35, 0, [], [(0, 0)]) rfl rfl rfl ?_
      refine bEqI bl_0 ?_
      refine bGo hA 2 3 (66, .invokestatic 88, 3, 36, 0, [2, 139, 1], []) rfl rfl rfl ?_
      refine hC _ _ _ _ _ (bRvx_e (fun s10 k11 => ?_) (fun E s10 k11 => ?_)) (k6.1 c9)
      · show A (36, [.ref 11, .int (bn l1), .ref l2, .int (bn r7)], [], s10)
        refine bGo hA 2 4 (69, .aload_n 0, 1, 37, 0, [0], []) rfl rfl rfl ?_
        refine bGo hA 2 5 (70, .iconst (0), 1, 38, 0, [], [(0, 0)]) rfl rfl rfl ?_
        refine bEqI bl_0 ?_
        refine bGo hA 2 6 (71, .putfield 274, 3, 39, 0, [11, 6, 0, 0, 0, 0], []) rfl rfl rfl ?_
        refine ⟨rfl, ?_⟩
        refine bGo hA 2 7 (74, .iload_n 3, 1, 40, 0, [3], []) rfl rfl rfl ?_
        refine bGo hA 2 8 (75, .iconst (1), 1, 41, 0, [], [(1, 0)]) rfl rfl rfl ?_
        refine bEqI bl_1 ?_
        refine bGo hA 2 9 (76, .if_icmp .ne (25), 3, 42, 52, [], []) rfl rfl rfl ?_
        refine bB_eq (x := r7) (y := 1) q8 (by decide : bRg 1) (fun c12 => ?_) (fun c12 => ?_)
        · refine bGo hA 2 10 (79, .aload_n 0, 1, 43, 0, [0], []) rfl rfl rfl ?_
          refine bGo hA 2 11 (80, .aload_n 2, 1, 44, 0, [2], []) rfl rfl rfl ?_
          refine bGo hA 2 12 (81, .aload_n 0, 1, 45, 0, [0], []) rfl rfl rfl ?_
          refine bGo hA 2 13 (82, .getfield 42, 3, 46, 0, [11, 4, 3, 6, 0, 0], []) rfl rfl rfl ?_
          refine ⟨rfl, ?_⟩
          refine bGo hA 2 14 (85, .iload_n 1, 1, 47, 0, [1], []) rfl rfl rfl ?_
          refine bGo hA 2 15 (86, .invokevirtual 277, 3, 48, 0, [0, 6, 82, 1], []) rfl rfl rfl ?_
          refine ⟨rfl, ?_⟩
          refine hC _ _ _ _ _ (bRa_e (fun r15 s13 k14 => ?_)) (k11.1 c12)
          show A (48, [.ref 11, .int (bn l1), .ref l2, .int (bn r7)], [.ref r15, .ref l2, .ref 11], s13)
          refine bGo hA 3 0 (89, .getfield 280, 3, 49, 0, [0, 3, 3, 4, 2, 0], []) rfl rfl rfl ?_
          refine ⟨k14.1, ?_⟩
          refine bGo hA 3 1 (92, .getfield 268, 3, 50, 0, [4, 8, 0, 0, 0, 0], []) rfl rfl rfl ?_
          refine ⟨k14.2.1, ?_⟩
          refine bEqI (bn_bi s13 (256 * (2 * (r15 / 256) + 0) + 4) 8) ?_
          refine bGo hA 3 2 (95, .invokevirtual 283, 3, 51, 0, [0, 11, 186, 2], []) rfl rfl rfl ?_
          refine ⟨rfl, ?_⟩
          refine hC _ _ _ _ _ (bRn_e (fun r18 s16 q19 k17 => ?_)) k14.2.2
          show A (51, [.ref 11, .int (bn l1), .ref l2, .int (bn r7)], [.int (bn r18)], s16)
          refine bGo hA 3 3 (98, .goto (4), 3, 52, 53, [], []) rfl rfl rfl ?_
          refine bGo hA 3 5 (102, .ireturn, 1, 0, 0, [1], []) rfl rfl rfl ?_
          exact k17
        · refine bGo hA 3 4 (101, .iconst (-1), 1, 53, 0, [], [(-1, 0)]) rfl rfl rfl ?_
          refine bEqI bl_m1 ?_
          refine bGo hA 3 5 (102, .ireturn, 1, 0, 0, [1], []) rfl rfl rfl ?_
          exact (k11.2 c12)
      · exact k11
    · refine bGo hA 2 0 (61, .iconst (1), 1, 33, 0, [], [(1, 0)]) rfl rfl rfl ?_
      refine bEqI bl_1 ?_
      refine bGo hA 2 1 (62, .goto (4), 3, 34, 35, [], []) rfl rfl rfl ?_
      refine bGo hA 2 3 (66, .invokestatic 88, 3, 36, 0, [2, 139, 1], []) rfl rfl rfl ?_
      refine hC _ _ _ _ _ (bRvx_e (fun s20 k21 => ?_) (fun E s20 k21 => ?_)) (k6.2 c9)
      · show A (36, [.ref 11, .int (bn l1), .ref l2, .int (bn r7)], [], s20)
        refine bGo hA 2 4 (69, .aload_n 0, 1, 37, 0, [0], []) rfl rfl rfl ?_
        refine bGo hA 2 5 (70, .iconst (0), 1, 38, 0, [], [(0, 0)]) rfl rfl rfl ?_
        refine bEqI bl_0 ?_
        refine bGo hA 2 6 (71, .putfield 274, 3, 39, 0, [11, 6, 0, 0, 0, 0], []) rfl rfl rfl ?_
        refine ⟨rfl, ?_⟩
        refine bGo hA 2 7 (74, .iload_n 3, 1, 40, 0, [3], []) rfl rfl rfl ?_
        refine bGo hA 2 8 (75, .iconst (1), 1, 41, 0, [], [(1, 0)]) rfl rfl rfl ?_
        refine bEqI bl_1 ?_
        refine bGo hA 2 9 (76, .if_icmp .ne (25), 3, 42, 52, [], []) rfl rfl rfl ?_
        refine bB_eq (x := r7) (y := 1) q8 (by decide : bRg 1) (fun c22 => ?_) (fun c22 => ?_)
        · refine bGo hA 2 10 (79, .aload_n 0, 1, 43, 0, [0], []) rfl rfl rfl ?_
          refine bGo hA 2 11 (80, .aload_n 2, 1, 44, 0, [2], []) rfl rfl rfl ?_
          refine bGo hA 2 12 (81, .aload_n 0, 1, 45, 0, [0], []) rfl rfl rfl ?_
          refine bGo hA 2 13 (82, .getfield 42, 3, 46, 0, [11, 4, 3, 6, 0, 0], []) rfl rfl rfl ?_
          refine ⟨rfl, ?_⟩
          refine bGo hA 2 14 (85, .iload_n 1, 1, 47, 0, [1], []) rfl rfl rfl ?_
          refine bGo hA 2 15 (86, .invokevirtual 277, 3, 48, 0, [0, 6, 82, 1], []) rfl rfl rfl ?_
          refine ⟨rfl, ?_⟩
          refine hC _ _ _ _ _ (bRa_e (fun r25 s23 k24 => ?_)) (k21.1 c22)
          show A (48, [.ref 11, .int (bn l1), .ref l2, .int (bn r7)], [.ref r25, .ref l2, .ref 11], s23)
          refine bGo hA 3 0 (89, .getfield 280, 3, 49, 0, [0, 3, 3, 4, 2, 0], []) rfl rfl rfl ?_
          refine ⟨k24.1, ?_⟩
          refine bGo hA 3 1 (92, .getfield 268, 3, 50, 0, [4, 8, 0, 0, 0, 0], []) rfl rfl rfl ?_
          refine ⟨k24.2.1, ?_⟩
          refine bEqI (bn_bi s23 (256 * (2 * (r25 / 256) + 0) + 4) 8) ?_
          refine bGo hA 3 2 (95, .invokevirtual 283, 3, 51, 0, [0, 11, 186, 2], []) rfl rfl rfl ?_
          refine ⟨rfl, ?_⟩
          refine hC _ _ _ _ _ (bRn_e (fun r28 s26 q29 k27 => ?_)) k24.2.2
          show A (51, [.ref 11, .int (bn l1), .ref l2, .int (bn r7)], [.int (bn r28)], s26)
          refine bGo hA 3 3 (98, .goto (4), 3, 52, 53, [], []) rfl rfl rfl ?_
          refine bGo hA 3 5 (102, .ireturn, 1, 0, 0, [1], []) rfl rfl rfl ?_
          exact k27
        · refine bGo hA 3 4 (101, .iconst (-1), 1, 53, 0, [], [(-1, 0)]) rfl rfl rfl ?_
          refine bEqI bl_m1 ?_
          refine bGo hA 3 5 (102, .ireturn, 1, 0, 0, [1], []) rfl rfl rfl ?_
          exact (k21.2 c22)
      · exact k21
  · exact k2

theorem sq44_0 {lvl : Nat} {C : bCall} {Q : bPost} {A : bPt → Prop} (hC : bMono C) (hA : bClosed lvl bm44 C Q A) {a0 : Nat} {a1 : Nat} {σ : bSt} (h_a0 : a0 % 256 = 4) (h_a1 : a1 % 256 = 4) 
  (h : (∀ s1 : bSt, s1 = (bw (bw (bw (bw (bw σ a0 0 (bi σ a1 0)) a0 1 (bi (bw σ a0 0 (bi σ a1 0)) a1 1)) a0 2 (bi (bw (bw σ a0 0 (bi σ a1 0)) a0 1 (bi (bw σ a0 0 (bi σ a1 0)) a1 1)) a1 2)) a0 3 (bi (bw (bw (bw σ a0 0 (bi σ a1 0)) a0 1 (bi (bw σ a0 0 (bi σ a1 0)) a1 1)) a0 2 (bi (bw (bw σ a0 0 (bi σ a1 0)) a0 1 (bi (bw σ a0 0 (bi σ a1 0)) a1 1)) a1 2)) a1 3)) a0 5 (bi (bw (bw (bw (bw σ a0 0 (bi σ a1 0)) a0 1 (bi (bw σ a0 0 (bi σ a1 0)) a1 1)) a0 2 (bi (bw (bw σ a0 0 (bi σ a1 0)) a0 1 (bi (bw σ a0 0 (bi σ a1 0)) a1 1)) a1 2)) a0 3 (bi (bw (bw (bw σ a0 0 (bi σ a1 0)) a0 1 (bi (bw σ a0 0 (bi σ a1 0)) a1 1)) a0 2 (bi (bw (bw σ a0 0 (bi σ a1 0)) a0 1 (bi (bw σ a0 0 (bi σ a1 0)) a1 1)) a1 2)) a1 3)) a1 5)) → (((bi s1 a1 7) = 0 ∨ (bi s1 a1 7) = 1) ∧ (¬ bTy (256 * (1 * (a0 / 256) + 0) + 22) = 9 ∧ (bRg (bLen (bw (bw s1 a0 7 (bi s1 a1 7)) a0 8 (bi (bw s1 a0 7 (bi s1 a1 7)) a1 8)) (256 * (1 * (a0 / 256) + 0) + 22) : Int) ∧ (¬ bTy (256 * (1 * (a1 / 256) + 0) + 22) = 9 ∧ (bRg (bLen (bw (bw s1 a0 7 (bi s1 a1 7)) a0 8 (bi (bw s1 a0 7 (bi s1 a1 7)) a1 8)) (256 * (1 * (a1 / 256) + 0) + 22) : Int) ∧ (C 360 [.int (bn (bLen (bw (bw s1 a0 7 (bi s1 a1 7)) a0 8 (bi (bw s1 a0 7 (bi s1 a1 7)) a1 8)) (256 * (1 * (a0 / 256) + 0) + 22) : Int)), .int (bn (bLen (bw (bw s1 a0 7 (bi s1 a1 7)) a0 8 (bi (bw s1 a0 7 (bi s1 a1 7)) a1 8)) (256 * (1 * (a1 / 256) + 0) + 22) : Int))] (bw (bw s1 a0 7 (bi s1 a1 7)) a0 8 (bi (bw s1 a0 7 (bi s1 a1 7)) a1 8)) (bRn (fun r4 s2 => (bTy (256 * (1 * (a1 / 256) + 0) + 22) = 0 ∧ (bTy (256 * (1 * (a0 / 256) + 0) + 22) = 0 ∧ (¬ (256 * (1 * (a1 / 256) + 0) + 22) = (256 * (1 * (a0 / 256) + 0) + 22) ∧ ((256 * (1 * (a0 / 256) + 0) + 22) % 256 < 200 ∧ (0 ≤ r4 ∧ (r4 ≤ (bLen s2 (256 * (1 * (a1 / 256) + 0) + 22) : Int) ∧ (r4 ≤ (bLen s2 (256 * (1 * (a0 / 256) + 0) + 22) : Int) ∧ (¬ bTy (256 * (1 * (a0 / 256) + 0) + 23) = 9 ∧ (bRg (bLen (bCpy s2 (256 * (1 * (a1 / 256) + 0) + 22) (256 * (1 * (a0 / 256) + 0) + 22) r4) (256 * (1 * (a0 / 256) + 0) + 23) : Int) ∧ (¬ bTy (256 * (1 * (a1 / 256) + 0) + 23) = 9 ∧ (bRg (bLen (bCpy s2 (256 * (1 * (a1 / 256) + 0) + 22) (256 * (1 * (a0 / 256) + 0) + 22) r4) (256 * (1 * (a1 / 256) + 0) + 23) : Int) ∧ (C 360 [.int (bn (bLen (bCpy s2 (256 * (1 * (a1 / 256) + 0) + 22) (256 * (1 * (a0 / 256) + 0) + 22) r4) (256 * (1 * (a0 / 256) + 0) + 23) : Int)), .int (bn (bLen (bCpy s2 (256 * (1 * (a1 / 256) + 0) + 22) (256 * (1 * (a0 / 256) + 0) + 22) r4) (256 * (1 * (a1 / 256) + 0) + 23) : Int))] (bCpy s2 (256 * (1 * (a1 / 256) + 0) + 22) (256 * (1 * (a0 / 256) + 0) + 22) r4) (bRn (fun r8 s6 => (bTy (256 * (1 * (a1 / 256) + 0) + 23) = 0 ∧ (bTy (256 * (1 * (a0 / 256) + 0) + 23) = 0 ∧ (¬ (256 * (1 * (a1 / 256) + 0) + 23) = (256 * (1 * (a0 / 256) + 0) + 23) ∧ ((256 * (1 * (a0 / 256) + 0) + 23) % 256 < 200 ∧ (0 ≤ r8 ∧ (r8 ≤ (bLen s6 (256 * (1 * (a1 / 256) + 0) + 23) : Int) ∧ (r8 ≤ (bLen s6 (256 * (1 * (a0 / 256) + 0) + 23) : Int) ∧ Q (.inl none) (bCpy s6 (256 * (1 * (a1 / 256) + 0) + 23) (256 * (1 * (a0 / 256) + 0) + 23) r8)))))))))))))))))))))))))))))))) : A (0, [.ref a0, .ref a1], [], σ) := by
  refine bGo hA 0 0 (0, .aload_n 0, 1, 1, 0, [0], []) rfl rfl rfl ?_
  refine bGo hA 0 1 (1, .aload_n 1, 1, 2, 0, [1], []) rfl rfl rfl ?_
  refine bGo hA 0 2 (2, .getfield 9, 3, 3, 0, [4, 0, 0, 0, 0, 0], []) rfl rfl rfl ?_
  refine ⟨h_a1, ?_⟩
  refine bEqI (bn_bi σ a1 0) ?_
  refine bGo hA 0 3 (5, .putfield 9, 3, 4, 0, [4, 0, 0, 0, 0, 0], []) rfl rfl rfl ?_
  refine ⟨h_a0, ?_⟩
  refine bGo hA 0 4 (8, .aload_n 0, 1, 5, 0, [0], []) rfl rfl rfl ?_
  refine bGo hA 0 5 (9, .aload_n 1, 1, 6, 0, [1], []) rfl rfl rfl ?_
  refine bGo hA 0 6 (10, .getfield 25, 3, 7, 0, [4, 1, 0, 0, 0, 0], []) rfl rfl rfl ?_
  refine ⟨h_a1, ?_⟩
  refine bEqI (bn_bi (bw σ a0 0 (bi σ a1 0)) a1 1) ?_
  refine bGo hA 0 7 (13, .putfield 25, 3, 8, 0, [4, 1, 0, 0, 0, 0], []) rfl rfl rfl ?_
  refine ⟨h_a0, ?_⟩
  refine bGo hA 0 8 (16, .aload_n 0, 1, 9, 0, [0], []) rfl rfl rfl ?_
  refine bGo hA 0 9 (17, .aload_n 1, 1, 10, 0, [1], []) rfl rfl rfl ?_
  refine bGo hA 0 10 (18, .getfield 28, 3, 11, 0, [4, 2, 0, 0, 0, 0], []) rfl rfl rfl ?_
  refine ⟨h_a1, ?_⟩
  refine bEqI (bn_bi (bw (bw σ a0 0 (bi σ a1 0)) a0 1 (bi (bw σ a0 0 (bi σ a1 0)) a1 1)) a1 2) ?_
  refine bGo hA 0 11 (21, .putfield 28, 3, 12, 0, [4, 2, 0, 0, 0, 0], []) rfl rfl rfl ?_
  refine ⟨h_a0, ?_⟩
  refine bGo hA 0 12 (24, .aload_n 0, 1, 13, 0, [0], []) rfl rfl rfl ?_
  refine bGo hA 0 13 (25, .aload_n 1, 1, 14, 0, [1], []) rfl rfl rfl ?_
  refine bGo hA 0 14 (26, .getfield 42, 3, 15, 0, [4, 3, 0, 0, 0, 0], []) rfl rfl rfl ?_
  refine ⟨h_a1, ?_⟩
  refine bEqI (bn_bi (bw (bw (bw σ a0 0 (bi σ a1 0)) a0 1 (bi (bw σ a0 0 (bi σ a1 0)) a1 1)) a0 2 (bi (bw (bw σ a0 0 (bi σ a1 0)) a0 1 (bi (bw σ a0 0 (bi σ a1 0)) a1 1)) a1 2)) a1 3) ?_
  refine bGo hA 0 15 (29, .putfield 42, 3, 16, 0, [4, 3, 0, 0, 0, 0], []) rfl rfl rfl ?_
  refine ⟨h_a0, ?_⟩
  refine bGo hA 1 0 (32, .aload_n 0, 1, 17, 0, [0], []) rfl rfl rfl ?_
  refine bGo hA 1 1 (33, .aload_n 1, 1, 18, 0, [1], []) rfl rfl rfl ?_
  refine bGo hA 1 2 (34, .getfield 31, 3, 19, 0, [4, 5, 0, 0, 0, 0], []) rfl rfl rfl ?_
  refine ⟨h_a1, ?_⟩
  refine bEqI (bn_bi (bw (bw (bw (bw σ a0 0 (bi σ a1 0)) a0 1 (bi (bw σ a0 0 (bi σ a1 0)) a1 1)) a0 2 (bi (bw (bw σ a0 0 (bi σ a1 0)) a0 1 (bi (bw σ a0 0 (bi σ a1 0)) a1 1)) a1 2)) a0 3 (bi (bw (bw (bw σ a0 0 (bi σ a1 0)) a0 1 (bi (bw σ a0 0 (bi σ a1 0)) a1 1)) a0 2 (bi (bw (bw σ a0 0 (bi σ a1 0)) a0 1 (bi (bw σ a0 0 (bi σ a1 0)) a1 1)) a1 2)) a1 3)) a1 5) ?_
  refine bGo hA 1 3 (37, .putfield 31, 3, 20, 0, [4, 5, 0, 0, 0, 0], []) rfl rfl rfl ?_
  refine ⟨h_a0, ?_⟩
  refine bGo hA 1 4 (40, .aload_n 0, 1, 21, 0, [0], []) rfl rfl rfl ?_
  refine bGo hA 1 5 (41, .aload_n 1, 1, 22, 0, [1], []) rfl rfl rfl ?_
  refine bGo hA 1 6 (42, .getfield 38, 3, 23, 0, [4, 7, 1, 0, 0, 0], []) rfl rfl rfl ?_
  refine ⟨h_a1, ?_⟩
  refine bEqI (bn_bi (bw (bw (bw (bw (bw σ a0 0 (bi σ a1 0)) a0 1 (bi (bw σ a0 0 (bi σ a1 0)) a1 1)) a0 2 (bi (bw (bw σ a0 0 (bi σ a1 0)) a0 1 (bi (bw σ a0 0 (bi σ a1 0)) a1 1)) a1 2)) a0 3 (bi (bw (bw (bw σ a0 0 (bi σ a1 0)) a0 1 (bi (bw σ a0 0 (bi σ a1 0)) a1 1)) a0 2 (bi (bw (bw σ a0 0 (bi σ a1 0)) a0 1 (bi (bw σ a0 0 (bi σ a1 0)) a1 1)) a1 2)) a1 3)) a0 5 (bi (bw (bw (bw (bw σ a0 0 (bi σ a1 0)) a0 1 (bi (bw σ a0 0 (bi σ a1 0)) a1 1)) a0 2 (bi (bw (bw σ a0 0 (bi σ a1 0)) a0 1 (bi (bw σ a0 0 (bi σ a1 0)) a1 1)) a1 2)) a0 3 (bi (bw (bw (bw σ a0 0 (bi σ a1 0)) a0 1 (bi (bw σ a0 0 (bi σ a1 0)) a1 1)) a0 2 (bi (bw (bw σ a0 0 (bi σ a1 0)) a0 1 (bi (bw σ a0 0 (bi σ a1 0)) a1 1)) a1 2)) a1 3)) a1 5)) a1 7) ?_
  refine bGo hA 1 7 (45, .putfield 38, 3, 24, 0, [4, 7, 1, 0, 0, 0], []) rfl rfl rfl ?_
  refine ⟨h_a0, b01 (h _ rfl).1, ?_⟩
  refine bGo hA 1 8 (48, .aload_n 0, 1, 25, 0, [0], []) rfl rfl rfl ?_
  refine bGo hA 1 9 (49, .aload_n 1, 1, 26, 0, [1], []) rfl rfl rfl ?_
  refine bGo hA 1 10 (50, .getfield 22, 3, 27, 0, [4, 8, 0, 0, 0, 0], []) rfl rfl rfl ?_
  refine ⟨h_a1, ?_⟩
  refine bEqI (bn_bi (bw (bw (bw (bw (bw (bw σ a0 0 (bi σ a1 0)) a0 1 (bi (bw σ a0 0 (bi σ a1 0)) a1 1)) a0 2 (bi (bw (bw σ a0 0 (bi σ a1 0)) a0 1 (bi (bw σ a0 0 (bi σ a1 0)) a1 1)) a1 2)) a0 3 (bi (bw (bw (bw σ a0 0 (bi σ a1 0)) a0 1 (bi (bw σ a0 0 (bi σ a1 0)) a1 1)) a0 2 (bi (bw (bw σ a0 0 (bi σ a1 0)) a0 1 (bi (bw σ a0 0 (bi σ a1 0)) a1 1)) a1 2)) a1 3)) a0 5 (bi (bw (bw (bw (bw σ a0 0 (bi σ a1 0)) a0 1 (bi (bw σ a0 0 (bi σ a1 0)) a1 1)) a0 2 (bi (bw (bw σ a0 0 (bi σ a1 0)) a0 1 (bi (bw σ a0 0 (bi σ a1 0)) a1 1)) a1 2)) a0 3 (bi (bw (bw (bw σ a0 0 (bi σ a1 0)) a0 1 (bi (bw σ a0 0 (bi σ a1 0)) a1 1)) a0 2 (bi (bw (bw σ a0 0 (bi σ a1 0)) a0 1 (bi (bw σ a0 0 (bi σ a1 0)) a1 1)) a1 2)) a1 3)) a1 5)) a0 7 (bi (bw (bw (bw (bw (bw σ a0 0 (bi σ a1 0)) a0 1 (bi (bw σ a0 0 (bi σ a1 0)) a1 1)) a0 2 (bi (bw (bw σ a0 0 (bi σ a1 0)) a0 1 (bi (bw σ a0 0 (bi σ a1 0)) a1 1)) a1 2)) a0 3 (bi (bw (bw (bw σ a0 0 (bi σ a1 0)) a0 1 (bi (bw σ a0 0 (bi σ a1 0)) a1 1)) a0 2 (bi (bw (bw σ a0 0 (bi σ a1 0)) a0 1 (bi (bw σ a0 0 (bi σ a1 0)) a1 1)) a1 2)) a1 3)) a0 5 (bi (bw (bw (bw (bw σ a0 0 (bi σ a1 0)) a0 1 (bi (bw σ a0 0 (bi σ a1 0)) a1 1)) a0 2 (bi (bw (bw σ a0 0 (bi σ a1 0)) a0 1 (bi (bw σ a0 0 (bi σ a1 0)) a1 1)) a1 2)) a0 3 (bi (bw (bw (bw σ a0 0 (bi σ a1 0)) a0 1 (bi (bw σ a0 0 (bi σ a1 0)) a1 1)) a0 2 (bi (bw (bw σ a0 0 (bi σ a1 0)) a0 1 (bi (bw σ a0 0 (bi σ a1 0)) a1 1)) a1 2)) a1 3)) a1 5)) a1 7)) a1 8) ?_
  refine bGo hA 1 11 (53, .putfield 22, 3, 28, 0, [4, 8, 0, 0, 0, 0], []) rfl rfl rfl ?_
  refine ⟨h_a0, ?_⟩
  refine bGo hA 1 12 (56, .aload_n 1, 1, 29, 0, [1], []) rfl rfl rfl ?_
  refine bGo hA 1 13 (57, .getfield 15, 3, 30, 0, [4, 4, 3, 22, 1, 0], []) rfl rfl rfl ?_
  refine ⟨h_a1, ?_⟩
  refine bGo hA 1 14 (60, .iconst (0), 1, 31, 0, [], [(0, 0)]) rfl rfl rfl ?_
  refine bEqI bl_0 ?_
  refine bGo hA 1 15 (61, .aload_n 0, 1, 32, 0, [0], []) rfl rfl rfl ?_
  refine bGo hA 2 0 (62, .getfield 15, 3, 33, 0, [4, 4, 3, 22, 1, 0], []) rfl rfl rfl ?_
  refine ⟨h_a0, ?_⟩
  refine bGo hA 2 1 (65, .iconst (0), 1, 34, 0, [], [(0, 0)]) rfl rfl rfl ?_
  refine bEqI bl_0 ?_
  refine bGo hA 2 2 (66, .aload_n 0, 1, 35, 0, [0], []) rfl rfl rfl ?_
  refine bGo hA 2 3 (67, .getfield 15, 3, 36, 0, [4, 4, 3, 22, 1, 0], []) rfl rfl rfl ?_
  refine ⟨h_a0, ?_⟩
  refine bGo hA 2 4 (70, .arraylength, 1, 37, 0, [], []) rfl rfl rfl ?_
  refine ⟨(h _ rfl).2.1, ?_⟩
  refine bEqI (bn_nat _).symm ?_
  refine bGo hA 2 5 (71, .aload_n 1, 1, 38, 0, [1], []) rfl rfl rfl ?_
  refine bGo hA 2 6 (72, .getfield 15, 3, 39, 0, [4, 4, 3, 22, 1, 0], []) rfl rfl rfl ?_
  refine ⟨h_a1, ?_⟩
  refine bGo hA 2 7 (75, .arraylength, 1, 40, 0, [], []) rfl rfl rfl ?_
  refine ⟨(h _ rfl).2.2.2.1, ?_⟩
  refine bEqI (bn_nat _).symm ?_
  refine bGo hA 2 8 (76, .invokestatic 71, 3, 41, 0, [2, 360, 2], []) rfl rfl rfl ?_
  refine hC _ _ _ _ _ (bRn_e (fun r4 s2 q5 k3 => ?_)) (h _ rfl).2.2.2.2.2
  show A (41, [.ref a0, .ref a1], [.int (bn r4), .int (bn 0), .ref (256 * (1 * (a0 / 256) + 0) + 22), .int (bn 0), .ref (256 * (1 * (a1 / 256) + 0) + 22)], s2)
  refine bGo hA 2 9 (79, .invokestatic 74, 3, 42, 0, [7, 0, 0], []) rfl rfl rfl ?_
  refine ⟨rfl, k3.1, k3.2.1, k3.2.2.1, k3.2.2.2.1, (bn_nn q5 k3.2.2.2.2.1), by decide, by decide, (bn_le0 q5 k3.2.2.2.2.2.1), (bn_le0 q5 k3.2.2.2.2.2.2.1), ?_⟩
  refine bEqCp (n := r4) q5 ?_
  refine bGo hA 2 10 (82, .aload_n 1, 1, 43, 0, [1], []) rfl rfl rfl ?_
  refine bGo hA 2 11 (83, .getfield 19, 3, 44, 0, [4, 6, 3, 23, 1, 0], []) rfl rfl rfl ?_
  refine ⟨h_a1, ?_⟩
  refine bGo hA 2 12 (86, .iconst (0), 1, 45, 0, [], [(0, 0)]) rfl rfl rfl ?_
  refine bEqI bl_0 ?_
  refine bGo hA 2 13 (87, .aload_n 0, 1, 46, 0, [0], []) rfl rfl rfl ?_
  refine bGo hA 2 14 (88, .getfield 19, 3, 47, 0, [4, 6, 3, 23, 1, 0], []) rfl rfl rfl ?_
  refine ⟨h_a0, ?_⟩
  refine bGo hA 2 15 (91, .iconst (0), 1, 48, 0, [], [(0, 0)]) rfl rfl rfl ?_
  refine bEqI bl_0 ?_
  refine bGo hA 3 0 (92, .aload_n 0, 1, 49, 0, [0], []) rfl rfl rfl ?_
  refine bGo hA 3 1 (93, .getfield 19, 3, 50, 0, [4, 6, 3, 23, 1, 0], []) rfl rfl rfl ?_
  refine ⟨h_a0, ?_⟩
  refine bGo hA 3 2 (96, .arraylength, 1, 51, 0, [], []) rfl rfl rfl ?_
  refine ⟨k3.2.2.2.2.2.2.2.1, ?_⟩
  refine bEqI (bn_nat _).symm ?_
  refine bGo hA 3 3 (97, .aload_n 1, 1, 52, 0, [1], []) rfl rfl rfl ?_
  refine bGo hA 3 4 (98, .getfield 19, 3, 53, 0, [4, 6, 3, 23, 1, 0], []) rfl rfl rfl ?_
  refine ⟨h_a1, ?_⟩
  refine bGo hA 3 5 (101, .arraylength, 1, 54, 0, [], []) rfl rfl rfl ?_
  refine ⟨k3.2.2.2.2.2.2.2.2.2.1, ?_⟩
  refine bEqI (bn_nat _).symm ?_
  refine bGo hA 3 6 (102, .invokestatic 71, 3, 55, 0, [2, 360, 2], []) rfl rfl rfl ?_
  refine hC _ _ _ _ _ (bRn_e (fun r8 s6 q9 k7 => ?_)) k3.2.2.2.2.2.2.2.2.2.2.2
  show A (55, [.ref a0, .ref a1], [.int (bn r8), .int (bn 0), .ref (256 * (1 * (a0 / 256) + 0) + 23), .int (bn 0), .ref (256 * (1 * (a1 / 256) + 0) + 23)], s6)
  refine bGo hA 3 7 (105, .invokestatic 74, 3, 56, 0, [7, 0, 0], []) rfl rfl rfl ?_
  refine ⟨rfl, k7.1, k7.2.1, k7.2.2.1, k7.2.2.2.1, (bn_nn q9 k7.2.2.2.2.1), by decide, by decide, (bn_le0 q9 k7.2.2.2.2.2.1), (bn_le0 q9 k7.2.2.2.2.2.2.1), ?_⟩
  refine bEqCp (n := r8) q9 ?_
  refine bGo hA 3 8 (108, .return_, 1, 0, 0, [0], []) rfl rfl rfl ?_
  exact k7.2.2.2.2.2.2.2


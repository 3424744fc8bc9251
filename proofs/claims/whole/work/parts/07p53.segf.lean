/-! segments of methods 136-147,196-209,358-361,30-36, by program (wip/whole/gen8.py): from a cut of a method on to the next cuts -/
theorem sq136_0 {lvl : Nat} {C : bCall} {Q : bPost} {A : bPt → Prop} (hC : bMono C) (hA : bClosed lvl bm136 C Q A) {x0 : Int} {x1 : Int} {σ : bSt}  (h_x0 : bRg x0) (h_x1 : bRg x1)
  (h : ((x0 < 0 → (7 ≤ lvl ∧ Q (.inr 0) (bC σ 1 6))) ∧ (¬ x0 < 0 → ((x0 < x1 → Q (.inl none) σ) ∧ (¬ x0 < x1 → (7 ≤ lvl ∧ Q (.inr 0) (bC σ 1 6))))))) : A (0, [.int (bn x0), .int (bn x1)], [], σ) := by
  refine bGo hA 0 0 (0, .iload_n 0, 1, 1, 0, [0], []) rfl rfl rfl ?_
  refine bGo hA 0 1 (1, .ifCond .lt (8), 3, 2, 5, [], []) rfl rfl rfl ?_
  refine bB_lt0 (x := x0) h_x0 (fun c1 => ?_) (fun c1 => ?_)
  · refine bGo hA 0 5 (9, .new 59, 3, 6, 0, [1, 0, 59, 61, 0], []) rfl rfl rfl ?_
    exact ⟨rfl, (h.1 c1)⟩
  · refine bGo hA 0 2 (4, .iload_n 0, 1, 3, 0, [0], []) rfl rfl rfl ?_
    refine bGo hA 0 3 (5, .iload_n 1, 1, 4, 0, [1], []) rfl rfl rfl ?_
    refine bGo hA 0 4 (6, .if_icmp .lt (11), 3, 5, 9, [], []) rfl rfl rfl ?_
    refine bB_lt (x := x0) (y := x1) h_x0 h_x1 (fun c2 => ?_) (fun c2 => ?_)
    · refine bGo hA 0 9 (17, .return_, 1, 0, 0, [0], []) rfl rfl rfl ?_
      exact ((h.2 c1).1 c2)
    · refine bGo hA 0 5 (9, .new 59, 3, 6, 0, [1, 0, 59, 61, 0], []) rfl rfl rfl ?_
      exact ⟨rfl, ((h.2 c1).2 c2)⟩

theorem sq137_0 {lvl : Nat} {C : bCall} {Q : bPost} {A : bPt → Prop} (hC : bMono C) (hA : bClosed lvl bm137 C Q A) {x0 : Int} {σ : bSt}  (h_x0 : bRg x0)
  (h : ((x0 < 0 → (7 ≤ lvl ∧ Q (.inr 0) (bC σ 1 6))) ∧ (¬ x0 < 0 → Q (.inl none) σ))) : A (0, [.int (bn x0)], [], σ) := by
  refine bGo hA 0 0 (0, .iload_n 0, 1, 1, 0, [0], []) rfl rfl rfl ?_
  refine bGo hA 0 1 (1, .ifCond .ge (11), 3, 2, 6, [], []) rfl rfl rfl ?_
  refine bB_lt0 (x := x0) h_x0 (fun c1 => ?_) (fun c1 => ?_)
  · refine bGo hA 0 2 (4, .new 59, 3, 3, 0, [1, 0, 59, 61, 0], []) rfl rfl rfl ?_
    exact ⟨rfl, (h.1 c1)⟩
  · refine bGo hA 0 6 (12, .return_, 1, 0, 0, [0], []) rfl rfl rfl ?_
    exact (h.2 c1)

theorem sq138_0 {lvl : Nat} {C : bCall} {Q : bPost} {A : bPt → Prop} (hC : bMono C) (hA : bClosed lvl bm138 C Q A) {x0 : Int} {x1 : Int} {x2 : Int} {σ : bSt}  (h_x0 : bRg x0) (h_x1 : bRg x1) (h_x2 : bRg x2)
  (h : ((x0 < x1 → (7 ≤ lvl ∧ Q (.inr 1) (bC σ 1 6))) ∧ (¬ x0 < x1 → ((x2 < x0 → (7 ≤ lvl ∧ Q (.inr 1) (bC σ 1 6))) ∧ (¬ x2 < x0 → Q (.inl none) σ))))) : A (0, [.int (bn x0), .int (bn x1), .int (bn x2)], [], σ) := by
  refine bGo hA 0 0 (0, .iload_n 0, 1, 1, 0, [0], []) rfl rfl rfl ?_
  refine bGo hA 0 1 (1, .iload_n 1, 1, 2, 0, [1], []) rfl rfl rfl ?_
  refine bGo hA 0 2 (2, .if_icmp .lt (8), 3, 3, 6, [], []) rfl rfl rfl ?_
  refine bB_lt (x := x0) (y := x1) h_x0 h_x1 (fun c1 => ?_) (fun c1 => ?_)
  · refine bGo hA 0 6 (10, .new 62, 3, 7, 0, [1, 1, 62, 64, 0], []) rfl rfl rfl ?_
    exact ⟨rfl, (h.1 c1)⟩
  · refine bGo hA 0 3 (5, .iload_n 0, 1, 4, 0, [0], []) rfl rfl rfl ?_
    refine bGo hA 0 4 (6, .iload_n 2, 1, 5, 0, [2], []) rfl rfl rfl ?_
    refine bGo hA 0 5 (7, .if_icmp .le (11), 3, 6, 10, [], []) rfl rfl rfl ?_
    refine bB_lt (x := x2) (y := x0) h_x2 h_x0 (fun c2 => ?_) (fun c2 => ?_)
    · refine bGo hA 0 6 (10, .new 62, 3, 7, 0, [1, 1, 62, 64, 0], []) rfl rfl rfl ?_
      exact ⟨rfl, ((h.2 c1).1 c2)⟩
    · refine bGo hA 0 10 (18, .return_, 1, 0, 0, [0], []) rfl rfl rfl ?_
      exact ((h.2 c1).2 c2)

theorem sq139_0 {lvl : Nat} {C : bCall} {Q : bPost} {A : bPt → Prop} (hC : bMono C) (hA : bClosed lvl bm139 C Q A) {x0 : Int} {σ : bSt}  (h_x0 : bRg x0)
  (h : ((x0 = 0 → (7 ≤ lvl ∧ Q (.inr 2) (bC σ 1 6))) ∧ (¬ x0 = 0 → Q (.inl none) σ))) : A (0, [.int (bn x0)], [], σ) := by
  refine bGo hA 0 0 (0, .iload_n 0, 1, 1, 0, [0], []) rfl rfl rfl ?_
  refine bGo hA 0 1 (1, .ifCond .ne (11), 3, 2, 6, [], []) rfl rfl rfl ?_
  refine bB_eq0 (x := x0) h_x0 (fun c1 => ?_) (fun c1 => ?_)
  · refine bGo hA 0 2 (4, .new 65, 3, 3, 0, [1, 2, 65, 67, 0], []) rfl rfl rfl ?_
    exact ⟨rfl, (h.1 c1)⟩
  · refine bGo hA 0 6 (12, .return_, 1, 0, 0, [0], []) rfl rfl rfl ?_
    exact (h.2 c1)

theorem sq140_0 {lvl : Nat} {C : bCall} {Q : bPost} {A : bPt → Prop} (hC : bMono C) (hA : bClosed lvl bm140 C Q A) {a0 : Nat} {x1 : Int} {σ : bSt}  (h_x1 : bRg x1)
  (h : ((x1 < 0 → Q (.inl (some (.int (bn (-1))))) σ) ∧ (¬ x1 < 0 → (¬ bTy a0 = 9 ∧ (bRg (bLen σ a0 : Int) ∧ ((x1 < (bLen σ a0 : Int) → (bTy a0 = 0 ∧ ((0 ≤ x1 ∧ x1 < (bLen σ a0 : Int)) ∧ Q (.inl (some (.int (bn (bi σ a0 x1))))) σ))) ∧ (¬ x1 < (bLen σ a0 : Int) → Q (.inl (some (.int (bn (-1))))) σ))))))) : A (0, [.ref a0, .int (bn x1)], [], σ) := by
  refine bGo hA 0 0 (0, .iload_n 1, 1, 1, 0, [1], []) rfl rfl rfl ?_
  refine bGo hA 0 1 (1, .ifCond .lt (15), 3, 2, 10, [], []) rfl rfl rfl ?_
  refine bB_lt0 (x := x1) h_x1 (fun c1 => ?_) (fun c1 => ?_)
  · refine bGo hA 0 10 (16, .iconst (-1), 1, 11, 0, [], [(-1, 0)]) rfl rfl rfl ?_
    refine bEqI bl_m1 ?_
    refine bGo hA 0 11 (17, .ireturn, 1, 0, 0, [1], []) rfl rfl rfl ?_
    exact (h.1 c1)
  · refine bGo hA 0 2 (4, .iload_n 1, 1, 3, 0, [1], []) rfl rfl rfl ?_
    refine bGo hA 0 3 (5, .aload_n 0, 1, 4, 0, [0], []) rfl rfl rfl ?_
    refine bGo hA 0 4 (6, .arraylength, 1, 5, 0, [], []) rfl rfl rfl ?_
    refine ⟨(h.2 c1).1, ?_⟩
    refine bEqI (bn_nat _).symm ?_
    refine bGo hA 0 5 (7, .if_icmp .ge (9), 3, 6, 10, [], []) rfl rfl rfl ?_
    refine bB_lt (x := x1) (y := (bLen σ a0 : Int)) h_x1 (h.2 c1).2.1 (fun c2 => ?_) (fun c2 => ?_)
    · refine bGo hA 0 6 (10, .aload_n 0, 1, 7, 0, [0], []) rfl rfl rfl ?_
      refine bGo hA 0 7 (11, .iload_n 1, 1, 8, 0, [1], []) rfl rfl rfl ?_
      refine bGo hA 0 8 (12, .iaload, 1, 9, 0, [], []) rfl rfl rfl ?_
      refine ⟨((h.2 c1).2.2.1 c2).1, (bIxP (x := x1) (n := bLen σ a0) h_x1 ((h.2 c1).2.2.1 c2).2.1), ?_⟩
      refine bEqL (x := x1) h_x1 ?_
      refine bGo hA 0 9 (13, .goto (4), 3, 10, 11, [], []) rfl rfl rfl ?_
      refine bGo hA 0 11 (17, .ireturn, 1, 0, 0, [1], []) rfl rfl rfl ?_
      exact ((h.2 c1).2.2.1 c2).2.2
    · refine bGo hA 0 10 (16, .iconst (-1), 1, 11, 0, [], [(-1, 0)]) rfl rfl rfl ?_
      refine bEqI bl_m1 ?_
      refine bGo hA 0 11 (17, .ireturn, 1, 0, 0, [1], []) rfl rfl rfl ?_
      exact ((h.2 c1).2.2.2 c2)

theorem sq141_0 {lvl : Nat} {C : bCall} {Q : bPost} {A : bPt → Prop} (hC : bMono C) (hA : bClosed lvl bm141 C Q A) {a0 : Nat} {x1 : Int} {x2 : Int} {σ : bSt}  (h_x1 : bRg x1) (h_x2 : bRg x2)
  (h : ((x1 < 0 → Q (.inl none) σ) ∧ (¬ x1 < 0 → (¬ bTy a0 = 9 ∧ (bRg (bLen σ a0 : Int) ∧ ((x1 < (bLen σ a0 : Int) → (bTy a0 = 0 ∧ ((0 ≤ x1 ∧ x1 < (bLen σ a0 : Int)) ∧ (a0 % 256 < 200 ∧ Q (.inl none) (bw σ a0 x1 x2))))) ∧ (¬ x1 < (bLen σ a0 : Int) → Q (.inl none) σ))))))) : A (0, [.ref a0, .int (bn x1), .int (bn x2)], [], σ) := by
  refine bGo hA 0 0 (0, .iload_n 1, 1, 1, 0, [1], []) rfl rfl rfl ?_
  refine bGo hA 0 1 (1, .ifCond .lt (13), 3, 2, 10, [], []) rfl rfl rfl ?_
  refine bB_lt0 (x := x1) h_x1 (fun c1 => ?_) (fun c1 => ?_)
  · refine bGo hA 0 10 (14, .return_, 1, 0, 0, [0], []) rfl rfl rfl ?_
    exact (h.1 c1)
  · refine bGo hA 0 2 (4, .iload_n 1, 1, 3, 0, [1], []) rfl rfl rfl ?_
    refine bGo hA 0 3 (5, .aload_n 0, 1, 4, 0, [0], []) rfl rfl rfl ?_
    refine bGo hA 0 4 (6, .arraylength, 1, 5, 0, [], []) rfl rfl rfl ?_
    refine ⟨(h.2 c1).1, ?_⟩
    refine bEqI (bn_nat _).symm ?_
    refine bGo hA 0 5 (7, .if_icmp .ge (7), 3, 6, 10, [], []) rfl rfl rfl ?_
    refine bB_lt (x := x1) (y := (bLen σ a0 : Int)) h_x1 (h.2 c1).2.1 (fun c2 => ?_) (fun c2 => ?_)
    · refine bGo hA 0 6 (10, .aload_n 0, 1, 7, 0, [0], []) rfl rfl rfl ?_
      refine bGo hA 0 7 (11, .iload_n 1, 1, 8, 0, [1], []) rfl rfl rfl ?_
      refine bGo hA 0 8 (12, .iload_n 2, 1, 9, 0, [2], []) rfl rfl rfl ?_
      refine bGo hA 0 9 (13, .iastore, 1, 10, 0, [], []) rfl rfl rfl ?_
      refine ⟨((h.2 c1).2.2.1 c2).1, (bIxP (x := x1) (n := bLen σ a0) h_x1 ((h.2 c1).2.2.1 c2).2.1), ((h.2 c1).2.2.1 c2).2.2.1, ?_⟩
      refine bEqS (x := x1) h_x1 ?_
      refine bGo hA 0 10 (14, .return_, 1, 0, 0, [0], []) rfl rfl rfl ?_
      exact ((h.2 c1).2.2.1 c2).2.2.2
    · refine bGo hA 0 10 (14, .return_, 1, 0, 0, [0], []) rfl rfl rfl ?_
      exact ((h.2 c1).2.2.2 c2)

theorem sq142_0 {lvl : Nat} {C : bCall} {Q : bPost} {A : bPt → Prop} (hC : bMono C) (hA : bClosed lvl bm142 C Q A) {a0 : Nat} {x1 : Int} {x2 : Int} {σ : bSt}  (h_x1 : bRg x1) (h_x2 : bRg x2)
  (h : A (2, [.ref a0, .int (bn x1), .int (bn x2), .int (bn x1)], [], σ)) : A (0, [.ref a0, .int (bn x1), .int (bn x2), .float 0], [], σ) := by
  refine bGo hA 0 0 (0, .iload_n 1, 1, 1, 0, [1], []) rfl rfl rfl ?_
  refine bGo hA 0 1 (1, .istore_n 3, 1, 2, 0, [3], []) rfl rfl rfl ?_
  exact h

theorem sq142_2 {lvl : Nat} {C : bCall} {Q : bPost} {A : bPt → Prop} (hC : bMono C) (hA : bClosed lvl bm142 C Q A) {l0 : Nat} {v1 : Value} {l2 : Int} {l3 : Int} {σ : bSt}  (h_l2 : bRg l2) (h_l3 : bRg l3)
  (h : (bRg (l3 + 1) ∧ (((l3 + 1) < l2 → (C 140 [.ref l0, .int (bn (l3 + 1))] σ (bRn (fun r4 s2 => (C 141 [.ref l0, .int (bn l3), .int (bn r4)] s2 (bRv (fun s6 => A (2, [.ref l0, v1, .int (bn l2), .int (bn (l3 + 1))], [], s6)))))))) ∧ (¬ (l3 + 1) < l2 → Q (.inl none) σ)))) : A (2, [.ref l0, v1, .int (bn l2), .int (bn l3)], [], σ) := by
  refine bGo hA 0 2 (2, .iload_n 3, 1, 3, 0, [3], []) rfl rfl rfl ?_
  refine bGo hA 0 3 (3, .iconst (1), 1, 4, 0, [], [(1, 0)]) rfl rfl rfl ?_
  refine bEqI bl_1 ?_
  refine bGo hA 0 4 (4, .iadd, 1, 5, 0, [], []) rfl rfl rfl ?_
  refine bEqI (bn_add l3 1) ?_
  refine bGo hA 0 5 (5, .iload_n 2, 1, 6, 0, [2], []) rfl rfl rfl ?_
  refine bGo hA 0 6 (6, .if_icmp .ge (21), 3, 7, 17, [], []) rfl rfl rfl ?_
  refine bB_lt (x := (l3 + 1)) (y := l2) h.1 h_l2 (fun c1 => ?_) (fun c1 => ?_)
  · refine bGo hA 0 7 (9, .aload_n 0, 1, 8, 0, [0], []) rfl rfl rfl ?_
    refine bGo hA 0 8 (10, .iload_n 3, 1, 9, 0, [3], []) rfl rfl rfl ?_
    refine bGo hA 0 9 (11, .aload_n 0, 1, 10, 0, [0], []) rfl rfl rfl ?_
    refine bGo hA 0 10 (12, .iload_n 3, 1, 11, 0, [3], []) rfl rfl rfl ?_
    refine bGo hA 0 11 (13, .iconst (1), 1, 12, 0, [], [(1, 0)]) rfl rfl rfl ?_
    refine bEqI bl_1 ?_
    refine bGo hA 0 12 (14, .iadd, 1, 13, 0, [], []) rfl rfl rfl ?_
    refine bEqI (bn_add l3 1) ?_
    refine bGo hA 0 13 (15, .invokestatic 68, 3, 14, 0, [2, 140, 2], []) rfl rfl rfl ?_
    refine hC _ _ _ _ _ (bRn_e (fun r4 s2 q5 k3 => ?_)) (h.2.1 c1)
    show A (14, [.ref l0, v1, .int (bn l2), .int (bn l3)], [.int (bn r4), .int (bn l3), .ref l0], s2)
    refine bGo hA 0 14 (18, .invokestatic 72, 3, 15, 0, [2, 141, 3], []) rfl rfl rfl ?_
    refine hC _ _ _ _ _ (bRv_e (fun s6 k7 => ?_)) k3
    show A (15, [.ref l0, v1, .int (bn l2), .int (bn l3)], [], s6)
    refine bGo hA 0 15 (21, .iinc 3 (1), 3, 16, 0, [3], [(1, 0)]) rfl rfl rfl ?_
    refine bEqC (fun v => A (16, [.ref l0, v1, .int (bn l2), .int v], [], s6)) ((congrArg (fun w => bn l3 + w) bl_1).trans (bn_add l3 1)) ?_
    refine bGo hA 1 0 (24, .goto (-22), 3, 17, 2, [], []) rfl rfl rfl ?_
    exact k7
  · refine bGo hA 1 1 (27, .return_, 1, 0, 0, [0], []) rfl rfl rfl ?_
    exact (h.2.2 c1)

theorem sq143_0 {lvl : Nat} {C : bCall} {Q : bPost} {A : bPt → Prop} (hC : bMono C) (hA : bClosed lvl bm143 C Q A) {x1 : Int} {x2 : Int} {σ : bSt}  (h_x1 : bRg x1) (h_x2 : bRg x2)
  (h : (C 136 [.int (bn x1), .int (bn 48)] σ (bRvx (fun s1 => (C 138 [.int (bn x2), .int (bn 0), .int (bn 999)] s1 (bRvx (fun s3 => (C 32 [.ref 3, .int (bn x1), .int (bn x2)] s3 (bRn (fun r7 s5 => Q (.inl (some (.int (bn r7)))) s5)))) (fun E s3 => Q (.inr E) s3)))) (fun E s1 => Q (.inr E) s1)))) : A (0, [.ref 11, .int (bn x1), .int (bn x2)], [], σ) := by
  refine bGo hA 0 0 (0, .iload_n 1, 1, 1, 0, [1], []) rfl rfl rfl ?_
  refine bGo hA 0 1 (1, .bipush (48), 2, 2, 0, [], [(48, 0)]) rfl rfl rfl ?_
  refine bEqI bl_48 ?_
  refine bGo hA 0 2 (3, .invokestatic 76, 3, 3, 0, [2, 136, 2], []) rfl rfl rfl ?_
  refine hC _ _ _ _ _ (bRvx_e (fun s1 k2 => ?_) (fun E s1 k2 => ?_)) h
  · show A (3, [.ref 11, .int (bn x1), .int (bn x2)], [], s1)
    refine bGo hA 0 3 (6, .iload_n 2, 1, 4, 0, [2], []) rfl rfl rfl ?_
    refine bGo hA 0 4 (7, .iconst (0), 1, 5, 0, [], [(0, 0)]) rfl rfl rfl ?_
    refine bEqI bl_0 ?_
    refine bGo hA 0 5 (8, .sipush (999), 3, 6, 0, [], [(999, 0)]) rfl rfl rfl ?_
    refine bEqI bl_999 ?_
    refine bGo hA 0 6 (11, .invokestatic 80, 3, 7, 0, [2, 138, 3], []) rfl rfl rfl ?_
    refine hC _ _ _ _ _ (bRvx_e (fun s3 k4 => ?_) (fun E s3 k4 => ?_)) k2
    · show A (7, [.ref 11, .int (bn x1), .int (bn x2)], [], s3)
      refine bGo hA 0 7 (14, .aload_n 0, 1, 8, 0, [0], []) rfl rfl rfl ?_
      refine bGo hA 0 8 (15, .getfield 12, 3, 9, 0, [11, 0, 3, 3, 0, 0], []) rfl rfl rfl ?_
      refine ⟨rfl, ?_⟩
      refine bGo hA 0 9 (18, .iload_n 1, 1, 10, 0, [1], []) rfl rfl rfl ?_
      refine bGo hA 0 10 (19, .iload_n 2, 1, 11, 0, [2], []) rfl rfl rfl ?_
      refine bGo hA 0 11 (20, .invokevirtual 84, 3, 12, 0, [0, 3, 32, 2], []) rfl rfl rfl ?_
      refine ⟨rfl, ?_⟩
      refine hC _ _ _ _ _ (bRn_e (fun r7 s5 q8 k6 => ?_)) k4
      show A (12, [.ref 11, .int (bn x1), .int (bn x2)], [.int (bn r7)], s5)
      refine bGo hA 0 12 (23, .ireturn, 1, 0, 0, [1], []) rfl rfl rfl ?_
      exact k6
    · exact k4
  · exact k2

theorem sq144_0 {lvl : Nat} {C : bCall} {Q : bPost} {A : bPt → Prop} (hC : bMono C) (hA : bClosed lvl bm144 C Q A) {x1 : Int} {σ : bSt}  (h_x1 : bRg x1)
  (h : (C 136 [.int (bn x1), .int (bn 48)] σ (bRvx (fun s1 => (C 32 [.ref 3, .int (bn x1), .int (bn (-1))] s1 (bRn (fun r5 s3 => Q (.inl (some (.int (bn r5)))) s3)))) (fun E s1 => Q (.inr E) s1)))) : A (0, [.ref 11, .int (bn x1)], [], σ) := by
  refine bGo hA 0 0 (0, .iload_n 1, 1, 1, 0, [1], []) rfl rfl rfl ?_
  refine bGo hA 0 1 (1, .bipush (48), 2, 2, 0, [], [(48, 0)]) rfl rfl rfl ?_
  refine bEqI bl_48 ?_
  refine bGo hA 0 2 (3, .invokestatic 76, 3, 3, 0, [2, 136, 2], []) rfl rfl rfl ?_
  refine hC _ _ _ _ _ (bRvx_e (fun s1 k2 => ?_) (fun E s1 k2 => ?_)) h
  · show A (3, [.ref 11, .int (bn x1)], [], s1)
    refine bGo hA 0 3 (6, .aload_n 0, 1, 4, 0, [0], []) rfl rfl rfl ?_
    refine bGo hA 0 4 (7, .getfield 12, 3, 5, 0, [11, 0, 3, 3, 0, 0], []) rfl rfl rfl ?_
    refine ⟨rfl, ?_⟩
    refine bGo hA 0 5 (10, .iload_n 1, 1, 6, 0, [1], []) rfl rfl rfl ?_
    refine bGo hA 0 6 (11, .iconst (-1), 1, 7, 0, [], [(-1, 0)]) rfl rfl rfl ?_
    refine bEqI bl_m1 ?_
    refine bGo hA 0 7 (12, .invokevirtual 84, 3, 8, 0, [0, 3, 32, 2], []) rfl rfl rfl ?_
    refine ⟨rfl, ?_⟩
    refine hC _ _ _ _ _ (bRn_e (fun r5 s3 q6 k4 => ?_)) k2
    show A (8, [.ref 11, .int (bn x1)], [.int (bn r5)], s3)
    refine bGo hA 0 8 (15, .ireturn, 1, 0, 0, [1], []) rfl rfl rfl ?_
    exact k4
  · exact k2

theorem sq145_0 {lvl : Nat} {C : bCall} {Q : bPost} {A : bPt → Prop} (hC : bMono C) (hA : bClosed lvl bm145 C Q A) {x1 : Int} {x2 : Int} {σ : bSt}  (h_x1 : bRg x1) (h_x2 : bRg x2)
  (h : (C 136 [.int (bn x1), .int (bn 6)] σ (bRvx (fun s1 => ((x1 = 0 → (C 139 [.int (bn 0)] s1 (bRvx (fun s4 => (C 34 [.ref 3, .int (bn x1), .int (bn x2)] s4 (bRn (fun r8 s6 => ((r8 = 0 ∨ r8 = 1) ∧ Q (.inl (some (.int (bn r8)))) s6))))) (fun E s4 => Q (.inr E) s4)))) ∧ (¬ x1 = 0 → (C 139 [.int (bn 1)] s1 (bRvx (fun s10 => (C 34 [.ref 3, .int (bn x1), .int (bn x2)] s10 (bRn (fun r14 s12 => ((r14 = 0 ∨ r14 = 1) ∧ Q (.inl (some (.int (bn r14)))) s12))))) (fun E s10 => Q (.inr E) s10)))))) (fun E s1 => Q (.inr E) s1)))) : A (0, [.ref 11, .int (bn x1), .int (bn x2)], [], σ) := by
  refine bGo hA 0 0 (0, .iload_n 1, 1, 1, 0, [1], []) rfl rfl rfl ?_
  refine bGo hA 0 1 (1, .bipush (6), 2, 2, 0, [], [(6, 0)]) rfl rfl rfl ?_
  refine bEqI bl_6 ?_
  refine bGo hA 0 2 (3, .invokestatic 76, 3, 3, 0, [2, 136, 2], []) rfl rfl rfl ?_
  refine hC _ _ _ _ _ (bRvx_e (fun s1 k2 => ?_) (fun E s1 k2 => ?_)) h
  · show A (3, [.ref 11, .int (bn x1), .int (bn x2)], [], s1)
    refine bGo hA 0 3 (6, .iload_n 1, 1, 4, 0, [1], []) rfl rfl rfl ?_
    refine bGo hA 0 4 (7, .ifCond .eq (7), 3, 5, 7, [], []) rfl rfl rfl ?_
    refine bB_eq0 (x := x1) h_x1 (fun c3 => ?_) (fun c3 => ?_)
    · refine bGo hA 0 7 (14, .iconst (0), 1, 8, 0, [], [(0, 0)]) rfl rfl rfl ?_
      refine bEqI bl_0 ?_
      refine bGo hA 0 8 (15, .invokestatic 88, 3, 9, 0, [2, 139, 1], []) rfl rfl rfl ?_
      refine hC _ _ _ _ _ (bRvx_e (fun s4 k5 => ?_) (fun E s4 k5 => ?_)) (k2.1 c3)
      · show A (9, [.ref 11, .int (bn x1), .int (bn x2)], [], s4)
        refine bGo hA 0 9 (18, .aload_n 0, 1, 10, 0, [0], []) rfl rfl rfl ?_
        refine bGo hA 0 10 (19, .getfield 12, 3, 11, 0, [11, 0, 3, 3, 0, 0], []) rfl rfl rfl ?_
        refine ⟨rfl, ?_⟩
        refine bGo hA 0 11 (22, .iload_n 1, 1, 12, 0, [1], []) rfl rfl rfl ?_
        refine bGo hA 0 12 (23, .iload_n 2, 1, 13, 0, [2], []) rfl rfl rfl ?_
        refine bGo hA 0 13 (24, .invokevirtual 92, 3, 14, 0, [0, 3, 34, 2], []) rfl rfl rfl ?_
        refine ⟨rfl, ?_⟩
        refine hC _ _ _ _ _ (bRn_e (fun r8 s6 q9 k7 => ?_)) k5
        show A (14, [.ref 11, .int (bn x1), .int (bn x2)], [.int (bn r8)], s6)
        refine bGo hA 0 14 (27, .ireturn, 1, 0, 0, [2], []) rfl rfl rfl ?_
        exact ⟨b01 k7.1, k7.2⟩
      · exact k5
    · refine bGo hA 0 5 (10, .iconst (1), 1, 6, 0, [], [(1, 0)]) rfl rfl rfl ?_
      refine bEqI bl_1 ?_
      refine bGo hA 0 6 (11, .goto (4), 3, 7, 8, [], []) rfl rfl rfl ?_
      refine bGo hA 0 8 (15, .invokestatic 88, 3, 9, 0, [2, 139, 1], []) rfl rfl rfl ?_
      refine hC _ _ _ _ _ (bRvx_e (fun s10 k11 => ?_) (fun E s10 k11 => ?_)) (k2.2 c3)
      · show A (9, [.ref 11, .int (bn x1), .int (bn x2)], [], s10)
        refine bGo hA 0 9 (18, .aload_n 0, 1, 10, 0, [0], []) rfl rfl rfl ?_
        refine bGo hA 0 10 (19, .getfield 12, 3, 11, 0, [11, 0, 3, 3, 0, 0], []) rfl rfl rfl ?_
        refine ⟨rfl, ?_⟩
        refine bGo hA 0 11 (22, .iload_n 1, 1, 12, 0, [1], []) rfl rfl rfl ?_
        refine bGo hA 0 12 (23, .iload_n 2, 1, 13, 0, [2], []) rfl rfl rfl ?_
        refine bGo hA 0 13 (24, .invokevirtual 92, 3, 14, 0, [0, 3, 34, 2], []) rfl rfl rfl ?_
        refine ⟨rfl, ?_⟩
        refine hC _ _ _ _ _ (bRn_e (fun r14 s12 q15 k13 => ?_)) k11
        show A (14, [.ref 11, .int (bn x1), .int (bn x2)], [.int (bn r14)], s12)
        refine bGo hA 0 14 (27, .ireturn, 1, 0, 0, [2], []) rfl rfl rfl ?_
        exact ⟨b01 k13.1, k13.2⟩
      · exact k11
  · exact k2

theorem sq146_0 {lvl : Nat} {C : bCall} {Q : bPost} {A : bPt → Prop} (hC : bMono C) (hA : bClosed lvl bm146 C Q A) {x1 : Int} {σ : bSt}  (h_x1 : bRg x1)
  (h : (C 136 [.int (bn x1), .int (bn 48)] σ (bRvx (fun s1 => (C 35 [.ref 3, .int (bn x1)] s1 (bRn (fun r5 s3 => Q (.inl (some (.int (bn r5)))) s3)))) (fun E s1 => Q (.inr E) s1)))) : A (0, [.ref 11, .int (bn x1)], [], σ) := by
  refine bGo hA 0 0 (0, .iload_n 1, 1, 1, 0, [1], []) rfl rfl rfl ?_
  refine bGo hA 0 1 (1, .bipush (48), 2, 2, 0, [], [(48, 0)]) rfl rfl rfl ?_
  refine bEqI bl_48 ?_
  refine bGo hA 0 2 (3, .invokestatic 76, 3, 3, 0, [2, 136, 2], []) rfl rfl rfl ?_
  refine hC _ _ _ _ _ (bRvx_e (fun s1 k2 => ?_) (fun E s1 k2 => ?_)) h
  · show A (3, [.ref 11, .int (bn x1)], [], s1)
    refine bGo hA 0 3 (6, .aload_n 0, 1, 4, 0, [0], []) rfl rfl rfl ?_
    refine bGo hA 0 4 (7, .getfield 12, 3, 5, 0, [11, 0, 3, 3, 0, 0], []) rfl rfl rfl ?_
    refine ⟨rfl, ?_⟩
    refine bGo hA 0 5 (10, .iload_n 1, 1, 6, 0, [1], []) rfl rfl rfl ?_
    refine bGo hA 0 6 (11, .invokevirtual 96, 3, 7, 0, [0, 3, 35, 1], []) rfl rfl rfl ?_
    refine ⟨rfl, ?_⟩
    refine hC _ _ _ _ _ (bRn_e (fun r5 s3 q6 k4 => ?_)) k2
    show A (7, [.ref 11, .int (bn x1)], [.int (bn r5)], s3)
    refine bGo hA 0 7 (14, .ireturn, 1, 0, 0, [1], []) rfl rfl rfl ?_
    exact k4
  · exact k2

theorem sq147_0 {lvl : Nat} {C : bCall} {Q : bPost} {A : bPt → Prop} (hC : bMono C) (hA : bClosed lvl bm147 C Q A) {x1 : Int} {x2 : Int} {x3 : Int} {σ : bSt}  (h_x1 : bRg x1) (h_x2 : bRg x2) (h_x3 : bRg x3)
  (h : (C 136 [.int (bn x1), .int (bn 6)] σ (bRvx (fun s1 => (C 138 [.int (bn x2), .int (bn 0), .int (bn 255)] s1 (bRvx (fun s3 => (C 33 [.ref 3, .int (bn x1)] s3 (bRn (fun r7 s5 => (C 139 [.int (bn r7)] s5 (bRvx (fun s9 => (C 36 [.ref 3, .int (bn x1), .int (bn x2), .int (bn x3)] s9 (bRj (fun r13 s11 => Q (.inl (some (.long r13))) s11)))) (fun E s9 => Q (.inr E) s9))))))) (fun E s3 => Q (.inr E) s3)))) (fun E s1 => Q (.inr E) s1)))) : A (0, [.ref 11, .int (bn x1), .int (bn x2), .int (bn x3)], [], σ) := by
  refine bGo hA 0 0 (0, .iload_n 1, 1, 1, 0, [1], []) rfl rfl rfl ?_
  refine bGo hA 0 1 (1, .bipush (6), 2, 2, 0, [], [(6, 0)]) rfl rfl rfl ?_
  refine bEqI bl_6 ?_
  refine bGo hA 0 2 (3, .invokestatic 76, 3, 3, 0, [2, 136, 2], []) rfl rfl rfl ?_
  refine hC _ _ _ _ _ (bRvx_e (fun s1 k2 => ?_) (fun E s1 k2 => ?_)) h
  · show A (3, [.ref 11, .int (bn x1), .int (bn x2), .int (bn x3)], [], s1)
    refine bGo hA 0 3 (6, .iload_n 2, 1, 4, 0, [2], []) rfl rfl rfl ?_
    refine bGo hA 0 4 (7, .iconst (0), 1, 5, 0, [], [(0, 0)]) rfl rfl rfl ?_
    refine bEqI bl_0 ?_
    refine bGo hA 0 5 (8, .sipush (255), 3, 6, 0, [], [(255, 0)]) rfl rfl rfl ?_
    refine bEqI bl_255 ?_
    refine bGo hA 0 6 (11, .invokestatic 80, 3, 7, 0, [2, 138, 3], []) rfl rfl rfl ?_
    refine hC _ _ _ _ _ (bRvx_e (fun s3 k4 => ?_) (fun E s3 k4 => ?_)) k2
    · show A (7, [.ref 11, .int (bn x1), .int (bn x2), .int (bn x3)], [], s3)
      refine bGo hA 0 7 (14, .aload_n 0, 1, 8, 0, [0], []) rfl rfl rfl ?_
      refine bGo hA 0 8 (15, .getfield 12, 3, 9, 0, [11, 0, 3, 3, 0, 0], []) rfl rfl rfl ?_
      refine ⟨rfl, ?_⟩
      refine bGo hA 0 9 (18, .iload_n 1, 1, 10, 0, [1], []) rfl rfl rfl ?_
      refine bGo hA 0 10 (19, .invokevirtual 100, 3, 11, 0, [0, 3, 33, 1], []) rfl rfl rfl ?_
      refine ⟨rfl, ?_⟩
      refine hC _ _ _ _ _ (bRn_e (fun r7 s5 q8 k6 => ?_)) k4
      show A (11, [.ref 11, .int (bn x1), .int (bn x2), .int (bn x3)], [.int (bn r7)], s5)
      refine bGo hA 0 11 (22, .invokestatic 88, 3, 12, 0, [2, 139, 1], []) rfl rfl rfl ?_
      refine hC _ _ _ _ _ (bRvx_e (fun s9 k10 => ?_) (fun E s9 k10 => ?_)) k6
      · show A (12, [.ref 11, .int (bn x1), .int (bn x2), .int (bn x3)], [], s9)
        refine bGo hA 0 12 (25, .aload_n 0, 1, 13, 0, [0], []) rfl rfl rfl ?_
        refine bGo hA 0 13 (26, .getfield 12, 3, 14, 0, [11, 0, 3, 3, 0, 0], []) rfl rfl rfl ?_
        refine ⟨rfl, ?_⟩
        refine bGo hA 0 14 (29, .iload_n 1, 1, 15, 0, [1], []) rfl rfl rfl ?_
        refine bGo hA 0 15 (30, .iload_n 2, 1, 16, 0, [2], []) rfl rfl rfl ?_
        refine bGo hA 1 0 (31, .iload_n 3, 1, 17, 0, [3], []) rfl rfl rfl ?_
        refine bGo hA 1 1 (32, .invokevirtual 104, 3, 18, 0, [0, 3, 36, 3], []) rfl rfl rfl ?_
        refine ⟨rfl, ?_⟩
        refine hC _ _ _ _ _ (bRj_e (fun r13 s11 k12 => ?_)) k10
        show A (18, [.ref 11, .int (bn x1), .int (bn x2), .int (bn x3)], [.long r13], s11)
        refine bGo hA 1 2 (35, .lreturn, 1, 0, 0, [3], []) rfl rfl rfl ?_
        exact k12
      · exact k10
    · exact k4
  · exact k2

theorem sq196_0 {lvl : Nat} {C : bCall} {Q : bPost} {A : bPt → Prop} (hC : bMono C) (hA : bClosed lvl bm196 C Q A)  {σ : bSt}  
  (h : Q (.inl (some (.int (bn (bi σ 12 0))))) σ) : A (0, [.ref 12], [], σ) := by
  refine bGo hA 0 0 (0, .aload_n 0, 1, 1, 0, [0], []) rfl rfl rfl ?_
  refine bGo hA 0 1 (1, .getfield 322, 3, 2, 0, [12, 0, 0, 0, 0, 0], []) rfl rfl rfl ?_
  refine ⟨rfl, ?_⟩
  refine bEqI (bn_bi σ 12 0) ?_
  refine bGo hA 0 2 (4, .ireturn, 1, 0, 0, [1], []) rfl rfl rfl ?_
  exact h

theorem sq197_0 {lvl : Nat} {C : bCall} {Q : bPost} {A : bPt → Prop} (hC : bMono C) (hA : bClosed lvl bm197 C Q A) {x1 : Int} {σ : bSt}  (h_x1 : bRg x1)
  (h : ((x1 = 0 → Q (.inl (some (.int (bn 0)))) (bw σ 12 0 x1)) ∧ (¬ x1 = 0 → Q (.inl (some (.int (bn 1)))) (bw σ 12 0 x1)))) : A (0, [.ref 12, .int (bn x1)], [], σ) := by
  refine bGo hA 0 0 (0, .aload_n 0, 1, 1, 0, [0], []) rfl rfl rfl ?_
  refine bGo hA 0 1 (1, .iload_n 1, 1, 2, 0, [1], []) rfl rfl rfl ?_
  refine bGo hA 0 2 (2, .putfield 322, 3, 3, 0, [12, 0, 0, 0, 0, 0], []) rfl rfl rfl ?_
  refine ⟨rfl, ?_⟩
  refine bGo hA 0 3 (5, .iload_n 1, 1, 4, 0, [1], []) rfl rfl rfl ?_
  refine bGo hA 0 4 (6, .ifCond .eq (7), 3, 5, 7, [], []) rfl rfl rfl ?_
  refine bB_eq0 (x := x1) h_x1 (fun c1 => ?_) (fun c1 => ?_)
  · refine bGo hA 0 7 (13, .iconst (0), 1, 8, 0, [], [(0, 0)]) rfl rfl rfl ?_
    refine bEqI bl_0 ?_
    refine bGo hA 0 8 (14, .ireturn, 1, 0, 0, [2], []) rfl rfl rfl ?_
    exact ⟨b01 (Or.inl rfl), (h.1 c1)⟩
  · refine bGo hA 0 5 (9, .iconst (1), 1, 6, 0, [], [(1, 0)]) rfl rfl rfl ?_
    refine bEqI bl_1 ?_
    refine bGo hA 0 6 (10, .goto (4), 3, 7, 8, [], []) rfl rfl rfl ?_
    refine bGo hA 0 8 (14, .ireturn, 1, 0, 0, [2], []) rfl rfl rfl ?_
    exact ⟨b01 (Or.inr rfl), (h.2 c1)⟩

theorem sq198_0 {lvl : Nat} {C : bCall} {Q : bPost} {A : bPt → Prop} (hC : bMono C) (hA : bClosed lvl bm198 C Q A) {x1 : Int} {σ : bSt}  (h_x1 : bRg x1)
  (h : Q (.inl (some (.int (bn x1)))) (bw σ 12 0 0)) : A (0, [.ref 12, .int (bn x1)], [], σ) := by
  refine bGo hA 0 0 (0, .aload_n 0, 1, 1, 0, [0], []) rfl rfl rfl ?_
  refine bGo hA 0 1 (1, .iconst (0), 1, 2, 0, [], [(0, 0)]) rfl rfl rfl ?_
  refine bEqI bl_0 ?_
  refine bGo hA 0 2 (2, .putfield 322, 3, 3, 0, [12, 0, 0, 0, 0, 0], []) rfl rfl rfl ?_
  refine ⟨rfl, ?_⟩
  refine bGo hA 0 3 (5, .iload_n 1, 1, 4, 0, [1], []) rfl rfl rfl ?_
  refine bGo hA 0 4 (6, .ireturn, 1, 0, 0, [1], []) rfl rfl rfl ?_
  exact h

theorem sq199_0 {lvl : Nat} {C : bCall} {Q : bPost} {A : bPt → Prop} (hC : bMono C) (hA : bClosed lvl bm199 C Q A) {x0 : Int} {x1 : Int} {x2 : Int} {σ : bSt}  (h_x0 : bRg x0) (h_x1 : bRg x1) (h_x2 : bRg x2)
  (h : ((x0 < x1 → Q (.inl (some (.int (bn 0)))) σ) ∧ (¬ x0 < x1 → ((x2 < x0 → Q (.inl (some (.int (bn 0)))) σ) ∧ (¬ x2 < x0 → Q (.inl (some (.int (bn 1)))) σ))))) : A (0, [.int (bn x0), .int (bn x1), .int (bn x2)], [], σ) := by
  refine bGo hA 0 0 (0, .iload_n 0, 1, 1, 0, [0], []) rfl rfl rfl ?_
  refine bGo hA 0 1 (1, .iload_n 1, 1, 2, 0, [1], []) rfl rfl rfl ?_
  refine bGo hA 0 2 (2, .if_icmp .lt (12), 3, 3, 8, [], []) rfl rfl rfl ?_
  refine bB_lt (x := x0) (y := x1) h_x0 h_x1 (fun c1 => ?_) (fun c1 => ?_)
  · refine bGo hA 0 8 (14, .iconst (0), 1, 9, 0, [], [(0, 0)]) rfl rfl rfl ?_
    refine bEqI bl_0 ?_
    refine bGo hA 0 9 (15, .ireturn, 1, 0, 0, [2], []) rfl rfl rfl ?_
    exact ⟨b01 (Or.inl rfl), (h.1 c1)⟩
  · refine bGo hA 0 3 (5, .iload_n 0, 1, 4, 0, [0], []) rfl rfl rfl ?_
    refine bGo hA 0 4 (6, .iload_n 2, 1, 5, 0, [2], []) rfl rfl rfl ?_
    refine bGo hA 0 5 (7, .if_icmp .gt (7), 3, 6, 8, [], []) rfl rfl rfl ?_
    refine bB_lt (x := x2) (y := x0) h_x2 h_x0 (fun c2 => ?_) (fun c2 => ?_)
    · refine bGo hA 0 8 (14, .iconst (0), 1, 9, 0, [], [(0, 0)]) rfl rfl rfl ?_
      refine bEqI bl_0 ?_
      refine bGo hA 0 9 (15, .ireturn, 1, 0, 0, [2], []) rfl rfl rfl ?_
      exact ⟨b01 (Or.inl rfl), ((h.2 c1).1 c2)⟩
    · refine bGo hA 0 6 (10, .iconst (1), 1, 7, 0, [], [(1, 0)]) rfl rfl rfl ?_
      refine bEqI bl_1 ?_
      refine bGo hA 0 7 (11, .goto (4), 3, 8, 9, [], []) rfl rfl rfl ?_
      refine bGo hA 0 9 (15, .ireturn, 1, 0, 0, [2], []) rfl rfl rfl ?_
      exact ⟨b01 (Or.inr rfl), ((h.2 c1).2 c2)⟩

theorem sq200_0 {lvl : Nat} {C : bCall} {Q : bPost} {A : bPt → Prop} (hC : bMono C) (hA : bClosed lvl bm200 C Q A) {x0 : Int} {σ : bSt}  (h_x0 : bRg x0)
  (h : (C 199 [.int (bn x0), .int (bn 0), .int (bn 47)] σ (bRn (fun r3 s1 => ((r3 = 0 ∨ r3 = 1) ∧ Q (.inl (some (.int (bn r3)))) s1))))) : A (0, [.int (bn x0)], [], σ) := by
  refine bGo hA 0 0 (0, .iload_n 0, 1, 1, 0, [0], []) rfl rfl rfl ?_
  refine bGo hA 0 1 (1, .iconst (0), 1, 2, 0, [], [(0, 0)]) rfl rfl rfl ?_
  refine bEqI bl_0 ?_
  refine bGo hA 0 2 (2, .bipush (47), 2, 3, 0, [], [(47, 0)]) rfl rfl rfl ?_
  refine bEqI bl_47 ?_
  refine bGo hA 0 3 (4, .invokestatic 325, 3, 4, 0, [2, 199, 3], []) rfl rfl rfl ?_
  refine hC _ _ _ _ _ (bRn_e (fun r3 s1 q4 k2 => ?_)) h
  show A (4, [.int (bn x0)], [.int (bn r3)], s1)
  refine bGo hA 0 4 (7, .ireturn, 1, 0, 0, [2], []) rfl rfl rfl ?_
  exact ⟨b01 k2.1, k2.2⟩

theorem sq201_0 {lvl : Nat} {C : bCall} {Q : bPost} {A : bPt → Prop} (hC : bMono C) (hA : bClosed lvl bm201 C Q A) {x0 : Int} {σ : bSt}  (h_x0 : bRg x0)
  (h : (C 199 [.int (bn x0), .int (bn 0), .int (bn 5)] σ (bRn (fun r3 s1 => ((r3 = 0 ∨ r3 = 1) ∧ Q (.inl (some (.int (bn r3)))) s1))))) : A (0, [.int (bn x0)], [], σ) := by
  refine bGo hA 0 0 (0, .iload_n 0, 1, 1, 0, [0], []) rfl rfl rfl ?_
  refine bGo hA 0 1 (1, .iconst (0), 1, 2, 0, [], [(0, 0)]) rfl rfl rfl ?_
  refine bEqI bl_0 ?_
  refine bGo hA 0 2 (2, .iconst (5), 1, 3, 0, [], [(5, 0)]) rfl rfl rfl ?_
  refine bEqI bl_5 ?_
  refine bGo hA 0 3 (3, .invokestatic 325, 3, 4, 0, [2, 199, 3], []) rfl rfl rfl ?_
  refine hC _ _ _ _ _ (bRn_e (fun r3 s1 q4 k2 => ?_)) h
  show A (4, [.int (bn x0)], [.int (bn r3)], s1)
  refine bGo hA 0 4 (6, .ireturn, 1, 0, 0, [2], []) rfl rfl rfl ?_
  exact ⟨b01 k2.1, k2.2⟩

theorem sq202_0 {lvl : Nat} {C : bCall} {Q : bPost} {A : bPt → Prop} (hC : bMono C) (hA : bClosed lvl bm202 C Q A) {x1 : Int} {x2 : Int} {σ : bSt}  (h_x1 : bRg x1) (h_x2 : bRg x2)
  (h : (C 200 [.int (bn x1)] σ (bRn (fun r3 s1 => ((r3 = 0 → (C 197 [.ref 12, .int (bn 1)] s1 (bRn (fun r8 s6 => ((r8 = 0 → ((0 ≤ x1 ∧ x1 < 48) ∧ Q (.inl (some (.int (bn (bi s6 56 x1))))) (bw s6 56 x1 x2))) ∧ (¬ r8 = 0 → Q (.inl (some (.int (bn 0)))) s6)))))) ∧ (¬ r3 = 0 → (C 199 [.int (bn x2), .int (bn 0), .int (bn 999)] s1 (bRn (fun r13 s11 => ((r13 = 0 → (C 197 [.ref 12, .int (bn 2)] s11 (bRn (fun r18 s16 => ((r18 = 0 → ((0 ≤ x1 ∧ x1 < 48) ∧ Q (.inl (some (.int (bn (bi s16 56 x1))))) (bw s16 56 x1 x2))) ∧ (¬ r18 = 0 → Q (.inl (some (.int (bn 0)))) s16)))))) ∧ (¬ r13 = 0 → (C 197 [.ref 12, .int (bn 0)] s11 (bRn (fun r23 s21 => ((r23 = 0 → ((0 ≤ x1 ∧ x1 < 48) ∧ Q (.inl (some (.int (bn (bi s21 56 x1))))) (bw s21 56 x1 x2))) ∧ (¬ r23 = 0 → Q (.inl (some (.int (bn 0)))) s21)))))))))))))))) : A (0, [.ref 12, .int (bn x1), .int (bn x2), .float 0], [], σ) := by
  refine bGo hA 0 0 (0, .aload_n 0, 1, 1, 0, [0], []) rfl rfl rfl ?_
  refine bGo hA 0 1 (1, .iload_n 1, 1, 2, 0, [1], []) rfl rfl rfl ?_
  refine bGo hA 0 2 (2, .invokestatic 329, 3, 3, 0, [2, 200, 1], []) rfl rfl rfl ?_
  refine hC _ _ _ _ _ (bRn_e (fun r3 s1 q4 k2 => ?_)) h
  show A (3, [.ref 12, .int (bn x1), .int (bn x2), .float 0], [.int (bn r3), .ref 12], s1)
  refine bGo hA 0 3 (5, .ifCond .ne (7), 3, 4, 6, [], []) rfl rfl rfl ?_
  refine bB_eq0 (x := r3) q4 (fun c5 => ?_) (fun c5 => ?_)
  · refine bGo hA 0 4 (8, .iconst (1), 1, 5, 0, [], [(1, 0)]) rfl rfl rfl ?_
    refine bEqI bl_1 ?_
    refine bGo hA 0 5 (9, .goto (19), 3, 6, 14, [], []) rfl rfl rfl ?_
    refine bGo hA 0 14 (28, .invokevirtual 333, 3, 15, 0, [0, 12, 197, 1], []) rfl rfl rfl ?_
    refine ⟨rfl, ?_⟩
    refine hC _ _ _ _ _ (bRn_e (fun r8 s6 q9 k7 => ?_)) (k2.1 c5)
    show A (15, [.ref 12, .int (bn x1), .int (bn x2), .float 0], [.int (bn r8)], s6)
    refine bGo hA 0 15 (31, .ifCond .eq (5), 3, 16, 18, [], []) rfl rfl rfl ?_
    refine bB_eq0 (x := r8) q9 (fun c10 => ?_) (fun c10 => ?_)
    · refine bGo hA 1 2 (36, .aload_n 0, 1, 19, 0, [0], []) rfl rfl rfl ?_
      refine bGo hA 1 3 (37, .getfield 7, 3, 20, 0, [12, 1, 3, 56, 1, 0], []) rfl rfl rfl ?_
      refine ⟨rfl, ?_⟩
      refine bGo hA 1 4 (40, .iload_n 1, 1, 21, 0, [1], []) rfl rfl rfl ?_
      refine bGo hA 1 5 (41, .iaload, 1, 22, 0, [], []) rfl rfl rfl ?_
      refine ⟨rfl, (bIxP (x := x1) (n := 48) h_x1 (k7.1 c10).1), ?_⟩
      refine bEqL (x := x1) h_x1 ?_
      refine bGo hA 1 6 (42, .istore_n 3, 1, 23, 0, [3], []) rfl rfl rfl ?_
      refine bGo hA 1 7 (43, .aload_n 0, 1, 24, 0, [0], []) rfl rfl rfl ?_
      refine bGo hA 1 8 (44, .getfield 7, 3, 25, 0, [12, 1, 3, 56, 1, 0], []) rfl rfl rfl ?_
      refine ⟨rfl, ?_⟩
      refine bGo hA 1 9 (47, .iload_n 1, 1, 26, 0, [1], []) rfl rfl rfl ?_
      refine bGo hA 1 10 (48, .iload_n 2, 1, 27, 0, [2], []) rfl rfl rfl ?_
      refine bGo hA 1 11 (49, .iastore, 1, 28, 0, [], []) rfl rfl rfl ?_
      refine ⟨rfl, (bIxP (x := x1) (n := 48) h_x1 (k7.1 c10).1), by decide, ?_⟩
      refine bEqS (x := x1) h_x1 ?_
      refine bGo hA 1 12 (50, .iload_n 3, 1, 29, 0, [3], []) rfl rfl rfl ?_
      refine bGo hA 1 13 (51, .ireturn, 1, 0, 0, [1], []) rfl rfl rfl ?_
      exact (k7.1 c10).2
    · refine bGo hA 1 0 (34, .iconst (0), 1, 17, 0, [], [(0, 0)]) rfl rfl rfl ?_
      refine bEqI bl_0 ?_
      refine bGo hA 1 1 (35, .ireturn, 1, 18, 0, [1], []) rfl rfl rfl ?_
      exact (k7.2 c10)
  · refine bGo hA 0 6 (12, .iload_n 2, 1, 7, 0, [2], []) rfl rfl rfl ?_
    refine bGo hA 0 7 (13, .iconst (0), 1, 8, 0, [], [(0, 0)]) rfl rfl rfl ?_
    refine bEqI bl_0 ?_
    refine bGo hA 0 8 (14, .sipush (999), 3, 9, 0, [], [(999, 0)]) rfl rfl rfl ?_
    refine bEqI bl_999 ?_
    refine bGo hA 0 9 (17, .invokestatic 325, 3, 10, 0, [2, 199, 3], []) rfl rfl rfl ?_
    refine hC _ _ _ _ _ (bRn_e (fun r13 s11 q14 k12 => ?_)) (k2.2 c5)
    show A (10, [.ref 12, .int (bn x1), .int (bn x2), .float 0], [.int (bn r13), .ref 12], s11)
    refine bGo hA 0 10 (20, .ifCond .eq (7), 3, 11, 13, [], []) rfl rfl rfl ?_
    refine bB_eq0 (x := r13) q14 (fun c15 => ?_) (fun c15 => ?_)
    · refine bGo hA 0 13 (27, .iconst (2), 1, 14, 0, [], [(2, 0)]) rfl rfl rfl ?_
      refine bEqI bl_2 ?_
      refine bGo hA 0 14 (28, .invokevirtual 333, 3, 15, 0, [0, 12, 197, 1], []) rfl rfl rfl ?_
      refine ⟨rfl, ?_⟩
      refine hC _ _ _ _ _ (bRn_e (fun r18 s16 q19 k17 => ?_)) (k12.1 c15)
      show A (15, [.ref 12, .int (bn x1), .int (bn x2), .float 0], [.int (bn r18)], s16)
      refine bGo hA 0 15 (31, .ifCond .eq (5), 3, 16, 18, [], []) rfl rfl rfl ?_
      refine bB_eq0 (x := r18) q19 (fun c20 => ?_) (fun c20 => ?_)
      · refine bGo hA 1 2 (36, .aload_n 0, 1, 19, 0, [0], []) rfl rfl rfl ?_
        refine bGo hA 1 3 (37, .getfield 7, 3, 20, 0, [12, 1, 3, 56, 1, 0], []) rfl rfl rfl ?_
        refine ⟨rfl, ?_⟩
        refine bGo hA 1 4 (40, .iload_n 1, 1, 21, 0, [1], []) rfl rfl rfl ?_
        refine bGo hA 1 5 (41, .iaload, 1, 22, 0, [], []) rfl rfl rfl ?_
        refine ⟨rfl, (bIxP (x := x1) (n := 48) h_x1 (k17.1 c20).1), ?_⟩
        refine bEqL (x := x1) h_x1 ?_
        refine bGo hA 1 6 (42, .istore_n 3, 1, 23, 0, [3], []) rfl rfl rfl ?_
        refine bGo hA 1 7 (43, .aload_n 0, 1, 24, 0, [0], []) rfl rfl rfl ?_
        refine bGo hA 1 8 (44, .getfield 7, 3, 25, 0, [12, 1, 3, 56, 1, 0], []) rfl rfl rfl ?_
        refine ⟨rfl, ?_⟩
        refine bGo hA 1 9 (47, .iload_n 1, 1, 26, 0, [1], []) rfl rfl rfl ?_
        refine bGo hA 1 10 (48, .iload_n 2, 1, 27, 0, [2], []) rfl rfl rfl ?_
        refine bGo hA 1 11 (49, .iastore, 1, 28, 0, [], []) rfl rfl rfl ?_
        refine ⟨rfl, (bIxP (x := x1) (n := 48) h_x1 (k17.1 c20).1), by decide, ?_⟩
        refine bEqS (x := x1) h_x1 ?_
        refine bGo hA 1 12 (50, .iload_n 3, 1, 29, 0, [3], []) rfl rfl rfl ?_
        refine bGo hA 1 13 (51, .ireturn, 1, 0, 0, [1], []) rfl rfl rfl ?_
        exact (k17.1 c20).2
      · refine bGo hA 1 0 (34, .iconst (0), 1, 17, 0, [], [(0, 0)]) rfl rfl rfl ?_
        refine bEqI bl_0 ?_
        refine bGo hA 1 1 (35, .ireturn, 1, 18, 0, [1], []) rfl rfl rfl ?_
        exact (k17.2 c20)
    · refine bGo hA 0 11 (23, .iconst (0), 1, 12, 0, [], [(0, 0)]) rfl rfl rfl ?_
      refine bEqI bl_0 ?_
      refine bGo hA 0 12 (24, .goto (4), 3, 13, 14, [], []) rfl rfl rfl ?_
      refine bGo hA 0 14 (28, .invokevirtual 333, 3, 15, 0, [0, 12, 197, 1], []) rfl rfl rfl ?_
      refine ⟨rfl, ?_⟩
      refine hC _ _ _ _ _ (bRn_e (fun r23 s21 q24 k22 => ?_)) (k12.2 c15)
      show A (15, [.ref 12, .int (bn x1), .int (bn x2), .float 0], [.int (bn r23)], s21)
      refine bGo hA 0 15 (31, .ifCond .eq (5), 3, 16, 18, [], []) rfl rfl rfl ?_
      refine bB_eq0 (x := r23) q24 (fun c25 => ?_) (fun c25 => ?_)
      · refine bGo hA 1 2 (36, .aload_n 0, 1, 19, 0, [0], []) rfl rfl rfl ?_
        refine bGo hA 1 3 (37, .getfield 7, 3, 20, 0, [12, 1, 3, 56, 1, 0], []) rfl rfl rfl ?_
        refine ⟨rfl, ?_⟩
        refine bGo hA 1 4 (40, .iload_n 1, 1, 21, 0, [1], []) rfl rfl rfl ?_
        refine bGo hA 1 5 (41, .iaload, 1, 22, 0, [], []) rfl rfl rfl ?_
        refine ⟨rfl, (bIxP (x := x1) (n := 48) h_x1 (k22.1 c25).1), ?_⟩
        refine bEqL (x := x1) h_x1 ?_
        refine bGo hA 1 6 (42, .istore_n 3, 1, 23, 0, [3], []) rfl rfl rfl ?_
        refine bGo hA 1 7 (43, .aload_n 0, 1, 24, 0, [0], []) rfl rfl rfl ?_
        refine bGo hA 1 8 (44, .getfield 7, 3, 25, 0, [12, 1, 3, 56, 1, 0], []) rfl rfl rfl ?_
        refine ⟨rfl, ?_⟩
        refine bGo hA 1 9 (47, .iload_n 1, 1, 26, 0, [1], []) rfl rfl rfl ?_
        refine bGo hA 1 10 (48, .iload_n 2, 1, 27, 0, [2], []) rfl rfl rfl ?_
        refine bGo hA 1 11 (49, .iastore, 1, 28, 0, [], []) rfl rfl rfl ?_
        refine ⟨rfl, (bIxP (x := x1) (n := 48) h_x1 (k22.1 c25).1), by decide, ?_⟩
        refine bEqS (x := x1) h_x1 ?_
        refine bGo hA 1 12 (50, .iload_n 3, 1, 29, 0, [3], []) rfl rfl rfl ?_
        refine bGo hA 1 13 (51, .ireturn, 1, 0, 0, [1], []) rfl rfl rfl ?_
        exact (k22.1 c25).2
      · refine bGo hA 1 0 (34, .iconst (0), 1, 17, 0, [], [(0, 0)]) rfl rfl rfl ?_
        refine bEqI bl_0 ?_
        refine bGo hA 1 1 (35, .ireturn, 1, 18, 0, [1], []) rfl rfl rfl ?_
        exact (k22.2 c25)

theorem sq203_0 {lvl : Nat} {C : bCall} {Q : bPost} {A : bPt → Prop} (hC : bMono C) (hA : bClosed lvl bm203 C Q A) {x1 : Int} {σ : bSt}  (h_x1 : bRg x1)
  (h : (C 200 [.int (bn x1)] σ (bRn (fun r3 s1 => ((r3 = 0 → (C 197 [.ref 12, .int (bn 1)] s1 (bRn (fun r8 s6 => ((r8 = 0 → ((0 ≤ x1 ∧ x1 < 48) ∧ Q (.inl (some (.int (bn (bi s6 56 x1))))) (bw s6 56 x1 (-1)))) ∧ (¬ r8 = 0 → Q (.inl (some (.int (bn 0)))) s6)))))) ∧ (¬ r3 = 0 → (C 197 [.ref 12, .int (bn 0)] s1 (bRn (fun r13 s11 => ((r13 = 0 → ((0 ≤ x1 ∧ x1 < 48) ∧ Q (.inl (some (.int (bn (bi s11 56 x1))))) (bw s11 56 x1 (-1)))) ∧ (¬ r13 = 0 → Q (.inl (some (.int (bn 0)))) s11))))))))))) : A (0, [.ref 12, .int (bn x1), .float 0], [], σ) := by
  refine bGo hA 0 0 (0, .aload_n 0, 1, 1, 0, [0], []) rfl rfl rfl ?_
  refine bGo hA 0 1 (1, .iload_n 1, 1, 2, 0, [1], []) rfl rfl rfl ?_
  refine bGo hA 0 2 (2, .invokestatic 329, 3, 3, 0, [2, 200, 1], []) rfl rfl rfl ?_
  refine hC _ _ _ _ _ (bRn_e (fun r3 s1 q4 k2 => ?_)) h
  show A (3, [.ref 12, .int (bn x1), .float 0], [.int (bn r3), .ref 12], s1)
  refine bGo hA 0 3 (5, .ifCond .eq (7), 3, 4, 6, [], []) rfl rfl rfl ?_
  refine bB_eq0 (x := r3) q4 (fun c5 => ?_) (fun c5 => ?_)
  · refine bGo hA 0 6 (12, .iconst (1), 1, 7, 0, [], [(1, 0)]) rfl rfl rfl ?_
    refine bEqI bl_1 ?_
    refine bGo hA 0 7 (13, .invokevirtual 333, 3, 8, 0, [0, 12, 197, 1], []) rfl rfl rfl ?_
    refine ⟨rfl, ?_⟩
    refine hC _ _ _ _ _ (bRn_e (fun r8 s6 q9 k7 => ?_)) (k2.1 c5)
    show A (8, [.ref 12, .int (bn x1), .float 0], [.int (bn r8)], s6)
    refine bGo hA 0 8 (16, .ifCond .eq (5), 3, 9, 11, [], []) rfl rfl rfl ?_
    refine bB_eq0 (x := r8) q9 (fun c10 => ?_) (fun c10 => ?_)
    · refine bGo hA 0 11 (21, .aload_n 0, 1, 12, 0, [0], []) rfl rfl rfl ?_
      refine bGo hA 0 12 (22, .getfield 7, 3, 13, 0, [12, 1, 3, 56, 1, 0], []) rfl rfl rfl ?_
      refine ⟨rfl, ?_⟩
      refine bGo hA 0 13 (25, .iload_n 1, 1, 14, 0, [1], []) rfl rfl rfl ?_
      refine bGo hA 0 14 (26, .iaload, 1, 15, 0, [], []) rfl rfl rfl ?_
      refine ⟨rfl, (bIxP (x := x1) (n := 48) h_x1 (k7.1 c10).1), ?_⟩
      refine bEqL (x := x1) h_x1 ?_
      refine bGo hA 0 15 (27, .istore_n 2, 1, 16, 0, [2], []) rfl rfl rfl ?_
      refine bGo hA 1 0 (28, .aload_n 0, 1, 17, 0, [0], []) rfl rfl rfl ?_
      refine bGo hA 1 1 (29, .getfield 7, 3, 18, 0, [12, 1, 3, 56, 1, 0], []) rfl rfl rfl ?_
      refine ⟨rfl, ?_⟩
      refine bGo hA 1 2 (32, .iload_n 1, 1, 19, 0, [1], []) rfl rfl rfl ?_
      refine bGo hA 1 3 (33, .iconst (-1), 1, 20, 0, [], [(-1, 0)]) rfl rfl rfl ?_
      refine bEqI bl_m1 ?_
      refine bGo hA 1 4 (34, .iastore, 1, 21, 0, [], []) rfl rfl rfl ?_
      refine ⟨rfl, (bIxP (x := x1) (n := 48) h_x1 (k7.1 c10).1), by decide, ?_⟩
      refine bEqS (x := x1) h_x1 ?_
      refine bGo hA 1 5 (35, .iload_n 2, 1, 22, 0, [2], []) rfl rfl rfl ?_
      refine bGo hA 1 6 (36, .ireturn, 1, 0, 0, [1], []) rfl rfl rfl ?_
      exact (k7.1 c10).2
    · refine bGo hA 0 9 (19, .iconst (0), 1, 10, 0, [], [(0, 0)]) rfl rfl rfl ?_
      refine bEqI bl_0 ?_
      refine bGo hA 0 10 (20, .ireturn, 1, 11, 0, [1], []) rfl rfl rfl ?_
      exact (k7.2 c10)
  · refine bGo hA 0 4 (8, .iconst (0), 1, 5, 0, [], [(0, 0)]) rfl rfl rfl ?_
    refine bEqI bl_0 ?_
    refine bGo hA 0 5 (9, .goto (4), 3, 6, 7, [], []) rfl rfl rfl ?_
    refine bGo hA 0 7 (13, .invokevirtual 333, 3, 8, 0, [0, 12, 197, 1], []) rfl rfl rfl ?_
    refine ⟨rfl, ?_⟩
    refine hC _ _ _ _ _ (bRn_e (fun r13 s11 q14 k12 => ?_)) (k2.2 c5)
    show A (8, [.ref 12, .int (bn x1), .float 0], [.int (bn r13)], s11)
    refine bGo hA 0 8 (16, .ifCond .eq (5), 3, 9, 11, [], []) rfl rfl rfl ?_
    refine bB_eq0 (x := r13) q14 (fun c15 => ?_) (fun c15 => ?_)
    · refine bGo hA 0 11 (21, .aload_n 0, 1, 12, 0, [0], []) rfl rfl rfl ?_
      refine bGo hA 0 12 (22, .getfield 7, 3, 13, 0, [12, 1, 3, 56, 1, 0], []) rfl rfl rfl ?_
      refine ⟨rfl, ?_⟩
      refine bGo hA 0 13 (25, .iload_n 1, 1, 14, 0, [1], []) rfl rfl rfl ?_
      refine bGo hA 0 14 (26, .iaload, 1, 15, 0, [], []) rfl rfl rfl ?_
      refine ⟨rfl, (bIxP (x := x1) (n := 48) h_x1 (k12.1 c15).1), ?_⟩
      refine bEqL (x := x1) h_x1 ?_
      refine bGo hA 0 15 (27, .istore_n 2, 1, 16, 0, [2], []) rfl rfl rfl ?_
      refine bGo hA 1 0 (28, .aload_n 0, 1, 17, 0, [0], []) rfl rfl rfl ?_
      refine bGo hA 1 1 (29, .getfield 7, 3, 18, 0, [12, 1, 3, 56, 1, 0], []) rfl rfl rfl ?_
      refine ⟨rfl, ?_⟩
      refine bGo hA 1 2 (32, .iload_n 1, 1, 19, 0, [1], []) rfl rfl rfl ?_
      refine bGo hA 1 3 (33, .iconst (-1), 1, 20, 0, [], [(-1, 0)]) rfl rfl rfl ?_
      refine bEqI bl_m1 ?_
      refine bGo hA 1 4 (34, .iastore, 1, 21, 0, [], []) rfl rfl rfl ?_
      refine ⟨rfl, (bIxP (x := x1) (n := 48) h_x1 (k12.1 c15).1), by decide, ?_⟩
      refine bEqS (x := x1) h_x1 ?_
      refine bGo hA 1 5 (35, .iload_n 2, 1, 22, 0, [2], []) rfl rfl rfl ?_
      refine bGo hA 1 6 (36, .ireturn, 1, 0, 0, [1], []) rfl rfl rfl ?_
      exact (k12.1 c15).2
    · refine bGo hA 0 9 (19, .iconst (0), 1, 10, 0, [], [(0, 0)]) rfl rfl rfl ?_
      refine bEqI bl_0 ?_
      refine bGo hA 0 10 (20, .ireturn, 1, 11, 0, [1], []) rfl rfl rfl ?_
      exact (k12.2 c15)

theorem sq204_0 {lvl : Nat} {C : bCall} {Q : bPost} {A : bPt → Prop} (hC : bMono C) (hA : bClosed lvl bm204 C Q A) {x1 : Int} {x2 : Int} {σ : bSt}  (h_x1 : bRg x1) (h_x2 : bRg x2)
  (h : (C 201 [.int (bn x1)] σ (bRn (fun r3 s1 => ((r3 = 0 → (C 197 [.ref 12, .int (bn 1)] s1 (bRn (fun r8 s6 => ((r8 = 0 → ((0 ≤ x1 ∧ x1 < 6) ∧ ((x2 = 0 ∨ x2 = 1) ∧ (((bi s6 57 x1) = 0 ∨ (bi s6 57 x1) = 1) ∧ Q (.inl (some (.int (bn (bi s6 57 x1))))) (bw s6 57 x1 x2))))) ∧ (¬ r8 = 0 → Q (.inl (some (.int (bn 0)))) s6)))))) ∧ (¬ r3 = 0 → ((x1 = 0 → (C 197 [.ref 12, .int (bn 2)] s1 (bRn (fun r14 s12 => ((r14 = 0 → ((0 ≤ x1 ∧ x1 < 6) ∧ ((x2 = 0 ∨ x2 = 1) ∧ (((bi s12 57 x1) = 0 ∨ (bi s12 57 x1) = 1) ∧ Q (.inl (some (.int (bn (bi s12 57 x1))))) (bw s12 57 x1 x2))))) ∧ (¬ r14 = 0 → Q (.inl (some (.int (bn 0)))) s12)))))) ∧ (¬ x1 = 0 → (C 197 [.ref 12, .int (bn 0)] s1 (bRn (fun r19 s17 => ((r19 = 0 → ((0 ≤ x1 ∧ x1 < 6) ∧ ((x2 = 0 ∨ x2 = 1) ∧ (((bi s17 57 x1) = 0 ∨ (bi s17 57 x1) = 1) ∧ Q (.inl (some (.int (bn (bi s17 57 x1))))) (bw s17 57 x1 x2))))) ∧ (¬ r19 = 0 → Q (.inl (some (.int (bn 0)))) s17))))))))))))) : A (0, [.ref 12, .int (bn x1), .int (bn x2), .float 0], [], σ) := by
  refine bGo hA 0 0 (0, .aload_n 0, 1, 1, 0, [0], []) rfl rfl rfl ?_
  refine bGo hA 0 1 (1, .iload_n 1, 1, 2, 0, [1], []) rfl rfl rfl ?_
  refine bGo hA 0 2 (2, .invokestatic 336, 3, 3, 0, [2, 201, 1], []) rfl rfl rfl ?_
  refine hC _ _ _ _ _ (bRn_e (fun r3 s1 q4 k2 => ?_)) h
  show A (3, [.ref 12, .int (bn x1), .int (bn x2), .float 0], [.int (bn r3), .ref 12], s1)
  refine bGo hA 0 3 (5, .ifCond .ne (7), 3, 4, 6, [], []) rfl rfl rfl ?_
  refine bB_eq0 (x := r3) q4 (fun c5 => ?_) (fun c5 => ?_)
  · refine bGo hA 0 4 (8, .iconst (1), 1, 5, 0, [], [(1, 0)]) rfl rfl rfl ?_
    refine bEqI bl_1 ?_
    refine bGo hA 0 5 (9, .goto (12), 3, 6, 11, [], []) rfl rfl rfl ?_
    refine bGo hA 0 11 (21, .invokevirtual 333, 3, 12, 0, [0, 12, 197, 1], []) rfl rfl rfl ?_
    refine ⟨rfl, ?_⟩
    refine hC _ _ _ _ _ (bRn_e (fun r8 s6 q9 k7 => ?_)) (k2.1 c5)
    show A (12, [.ref 12, .int (bn x1), .int (bn x2), .float 0], [.int (bn r8)], s6)
    refine bGo hA 0 12 (24, .ifCond .eq (5), 3, 13, 15, [], []) rfl rfl rfl ?_
    refine bB_eq0 (x := r8) q9 (fun c10 => ?_) (fun c10 => ?_)
    · refine bGo hA 0 15 (29, .aload_n 0, 1, 16, 0, [0], []) rfl rfl rfl ?_
      refine bGo hA 1 0 (30, .getfield 13, 3, 17, 0, [12, 2, 3, 57, 1, 0], []) rfl rfl rfl ?_
      refine ⟨rfl, ?_⟩
      refine bGo hA 1 1 (33, .iload_n 1, 1, 18, 0, [1], []) rfl rfl rfl ?_
      refine bGo hA 1 2 (34, .baload, 1, 19, 0, [], []) rfl rfl rfl ?_
      refine ⟨rfl, (bIxP (x := x1) (n := 6) h_x1 (k7.1 c10).1), ?_⟩
      refine bEqL (x := x1) h_x1 ?_
      refine bGo hA 1 3 (35, .istore_n 3, 1, 20, 0, [3], []) rfl rfl rfl ?_
      refine bGo hA 1 4 (36, .aload_n 0, 1, 21, 0, [0], []) rfl rfl rfl ?_
      refine bGo hA 1 5 (37, .getfield 13, 3, 22, 0, [12, 2, 3, 57, 1, 0], []) rfl rfl rfl ?_
      refine ⟨rfl, ?_⟩
      refine bGo hA 1 6 (40, .iload_n 1, 1, 23, 0, [1], []) rfl rfl rfl ?_
      refine bGo hA 1 7 (41, .iload_n 2, 1, 24, 0, [2], []) rfl rfl rfl ?_
      refine bGo hA 1 8 (42, .bastore, 1, 25, 0, [], []) rfl rfl rfl ?_
      refine ⟨rfl, (bIxP (x := x1) (n := 6) h_x1 (k7.1 c10).1), by decide, b01 (k7.1 c10).2.1, ?_⟩
      refine bEqS (x := x1) h_x1 ?_
      refine bGo hA 1 9 (43, .iload_n 3, 1, 26, 0, [3], []) rfl rfl rfl ?_
      refine bGo hA 1 10 (44, .ireturn, 1, 0, 0, [2], []) rfl rfl rfl ?_
      exact ⟨b01 (k7.1 c10).2.2.1, (k7.1 c10).2.2.2⟩
    · refine bGo hA 0 13 (27, .iconst (0), 1, 14, 0, [], [(0, 0)]) rfl rfl rfl ?_
      refine bEqI bl_0 ?_
      refine bGo hA 0 14 (28, .ireturn, 1, 15, 0, [2], []) rfl rfl rfl ?_
      exact ⟨b01 (Or.inl rfl), (k7.2 c10)⟩
  · refine bGo hA 0 6 (12, .iload_n 1, 1, 7, 0, [1], []) rfl rfl rfl ?_
    refine bGo hA 0 7 (13, .ifCond .ne (7), 3, 8, 10, [], []) rfl rfl rfl ?_
    refine bB_eq0 (x := x1) h_x1 (fun c11 => ?_) (fun c11 => ?_)
    · refine bGo hA 0 8 (16, .iconst (2), 1, 9, 0, [], [(2, 0)]) rfl rfl rfl ?_
      refine bEqI bl_2 ?_
      refine bGo hA 0 9 (17, .goto (4), 3, 10, 11, [], []) rfl rfl rfl ?_
      refine bGo hA 0 11 (21, .invokevirtual 333, 3, 12, 0, [0, 12, 197, 1], []) rfl rfl rfl ?_
      refine ⟨rfl, ?_⟩
      refine hC _ _ _ _ _ (bRn_e (fun r14 s12 q15 k13 => ?_)) ((k2.2 c5).1 c11)
      show A (12, [.ref 12, .int (bn x1), .int (bn x2), .float 0], [.int (bn r14)], s12)
      refine bGo hA 0 12 (24, .ifCond .eq (5), 3, 13, 15, [], []) rfl rfl rfl ?_
      refine bB_eq0 (x := r14) q15 (fun c16 => ?_) (fun c16 => ?_)
      · refine bGo hA 0 15 (29, .aload_n 0, 1, 16, 0, [0], []) rfl rfl rfl ?_
        refine bGo hA 1 0 (30, .getfield 13, 3, 17, 0, [12, 2, 3, 57, 1, 0], []) rfl rfl rfl ?_
        refine ⟨rfl, ?_⟩
        refine bGo hA 1 1 (33, .iload_n 1, 1, 18, 0, [1], []) rfl rfl rfl ?_
        refine bGo hA 1 2 (34, .baload, 1, 19, 0, [], []) rfl rfl rfl ?_
        refine ⟨rfl, (bIxP (x := x1) (n := 6) h_x1 (k13.1 c16).1), ?_⟩
        refine bEqL (x := x1) h_x1 ?_
        refine bGo hA 1 3 (35, .istore_n 3, 1, 20, 0, [3], []) rfl rfl rfl ?_
        refine bGo hA 1 4 (36, .aload_n 0, 1, 21, 0, [0], []) rfl rfl rfl ?_
        refine bGo hA 1 5 (37, .getfield 13, 3, 22, 0, [12, 2, 3, 57, 1, 0], []) rfl rfl rfl ?_
        refine ⟨rfl, ?_⟩
        refine bGo hA 1 6 (40, .iload_n 1, 1, 23, 0, [1], []) rfl rfl rfl ?_
        refine bGo hA 1 7 (41, .iload_n 2, 1, 24, 0, [2], []) rfl rfl rfl ?_
        refine bGo hA 1 8 (42, .bastore, 1, 25, 0, [], []) rfl rfl rfl ?_
        refine ⟨rfl, (bIxP (x := x1) (n := 6) h_x1 (k13.1 c16).1), by decide, b01 (k13.1 c16).2.1, ?_⟩
        refine bEqS (x := x1) h_x1 ?_
        refine bGo hA 1 9 (43, .iload_n 3, 1, 26, 0, [3], []) rfl rfl rfl ?_
        refine bGo hA 1 10 (44, .ireturn, 1, 0, 0, [2], []) rfl rfl rfl ?_
        exact ⟨b01 (k13.1 c16).2.2.1, (k13.1 c16).2.2.2⟩
      · refine bGo hA 0 13 (27, .iconst (0), 1, 14, 0, [], [(0, 0)]) rfl rfl rfl ?_
        refine bEqI bl_0 ?_
        refine bGo hA 0 14 (28, .ireturn, 1, 15, 0, [2], []) rfl rfl rfl ?_
        exact ⟨b01 (Or.inl rfl), (k13.2 c16)⟩
    · refine bGo hA 0 10 (20, .iconst (0), 1, 11, 0, [], [(0, 0)]) rfl rfl rfl ?_
      refine bEqI bl_0 ?_
      refine bGo hA 0 11 (21, .invokevirtual 333, 3, 12, 0, [0, 12, 197, 1], []) rfl rfl rfl ?_
      refine ⟨rfl, ?_⟩
      refine hC _ _ _ _ _ (bRn_e (fun r19 s17 q20 k18 => ?_)) ((k2.2 c5).2 c11)
      show A (12, [.ref 12, .int (bn x1), .int (bn x2), .float 0], [.int (bn r19)], s17)
      refine bGo hA 0 12 (24, .ifCond .eq (5), 3, 13, 15, [], []) rfl rfl rfl ?_
      refine bB_eq0 (x := r19) q20 (fun c21 => ?_) (fun c21 => ?_)
      · refine bGo hA 0 15 (29, .aload_n 0, 1, 16, 0, [0], []) rfl rfl rfl ?_
        refine bGo hA 1 0 (30, .getfield 13, 3, 17, 0, [12, 2, 3, 57, 1, 0], []) rfl rfl rfl ?_
        refine ⟨rfl, ?_⟩
        refine bGo hA 1 1 (33, .iload_n 1, 1, 18, 0, [1], []) rfl rfl rfl ?_
        refine bGo hA 1 2 (34, .baload, 1, 19, 0, [], []) rfl rfl rfl ?_
        refine ⟨rfl, (bIxP (x := x1) (n := 6) h_x1 (k18.1 c21).1), ?_⟩
        refine bEqL (x := x1) h_x1 ?_
        refine bGo hA 1 3 (35, .istore_n 3, 1, 20, 0, [3], []) rfl rfl rfl ?_
        refine bGo hA 1 4 (36, .aload_n 0, 1, 21, 0, [0], []) rfl rfl rfl ?_
        refine bGo hA 1 5 (37, .getfield 13, 3, 22, 0, [12, 2, 3, 57, 1, 0], []) rfl rfl rfl ?_
        refine ⟨rfl, ?_⟩
        refine bGo hA 1 6 (40, .iload_n 1, 1, 23, 0, [1], []) rfl rfl rfl ?_
        refine bGo hA 1 7 (41, .iload_n 2, 1, 24, 0, [2], []) rfl rfl rfl ?_
        refine bGo hA 1 8 (42, .bastore, 1, 25, 0, [], []) rfl rfl rfl ?_
        refine ⟨rfl, (bIxP (x := x1) (n := 6) h_x1 (k18.1 c21).1), by decide, b01 (k18.1 c21).2.1, ?_⟩
        refine bEqS (x := x1) h_x1 ?_
        refine bGo hA 1 9 (43, .iload_n 3, 1, 26, 0, [3], []) rfl rfl rfl ?_
        refine bGo hA 1 10 (44, .ireturn, 1, 0, 0, [2], []) rfl rfl rfl ?_
        exact ⟨b01 (k18.1 c21).2.2.1, (k18.1 c21).2.2.2⟩
      · refine bGo hA 0 13 (27, .iconst (0), 1, 14, 0, [], [(0, 0)]) rfl rfl rfl ?_
        refine bEqI bl_0 ?_
        refine bGo hA 0 14 (28, .ireturn, 1, 15, 0, [2], []) rfl rfl rfl ?_
        exact ⟨b01 (Or.inl rfl), (k18.2 c21)⟩

theorem sq205_0 {lvl : Nat} {C : bCall} {Q : bPost} {A : bPt → Prop} (hC : bMono C) (hA : bClosed lvl bm205 C Q A) {x0 : Int} {σ : bSt}  (h_x0 : bRg x0)
  (h : ((x0 < 3 → Q (.inl (some (.int (bn 0)))) σ) ∧ (¬ x0 < 3 → ((x0 < 5 → Q (.inl (some (.int (bn 1)))) σ) ∧ (¬ x0 < 5 → Q (.inl (some (.int (bn 2)))) σ))))) : A (0, [.int (bn x0)], [], σ) := by
  refine bGo hA 0 0 (0, .iload_n 0, 1, 1, 0, [0], []) rfl rfl rfl ?_
  refine bGo hA 0 1 (1, .iconst (3), 1, 2, 0, [], [(3, 0)]) rfl rfl rfl ?_
  refine bEqI bl_3 ?_
  refine bGo hA 0 2 (2, .if_icmp .ge (7), 3, 3, 5, [], []) rfl rfl rfl ?_
  refine bB_lt (x := x0) (y := 3) h_x0 (by decide : bRg 3) (fun c1 => ?_) (fun c1 => ?_)
  · refine bGo hA 0 3 (5, .iconst (0), 1, 4, 0, [], [(0, 0)]) rfl rfl rfl ?_
    refine bEqI bl_0 ?_
    refine bGo hA 0 4 (6, .goto (13), 3, 5, 11, [], []) rfl rfl rfl ?_
    refine bGo hA 0 11 (19, .ireturn, 1, 0, 0, [1], []) rfl rfl rfl ?_
    exact (h.1 c1)
  · refine bGo hA 0 5 (9, .iload_n 0, 1, 6, 0, [0], []) rfl rfl rfl ?_
    refine bGo hA 0 6 (10, .iconst (5), 1, 7, 0, [], [(5, 0)]) rfl rfl rfl ?_
    refine bEqI bl_5 ?_
    refine bGo hA 0 7 (11, .if_icmp .ge (7), 3, 8, 10, [], []) rfl rfl rfl ?_
    refine bB_lt (x := x0) (y := 5) h_x0 (by decide : bRg 5) (fun c2 => ?_) (fun c2 => ?_)
    · refine bGo hA 0 8 (14, .iconst (1), 1, 9, 0, [], [(1, 0)]) rfl rfl rfl ?_
      refine bEqI bl_1 ?_
      refine bGo hA 0 9 (15, .goto (4), 3, 10, 11, [], []) rfl rfl rfl ?_
      refine bGo hA 0 11 (19, .ireturn, 1, 0, 0, [1], []) rfl rfl rfl ?_
      exact ((h.2 c1).1 c2)
    · refine bGo hA 0 10 (18, .iconst (2), 1, 11, 0, [], [(2, 0)]) rfl rfl rfl ?_
      refine bEqI bl_2 ?_
      refine bGo hA 0 11 (19, .ireturn, 1, 0, 0, [1], []) rfl rfl rfl ?_
      exact ((h.2 c1).2 c2)

theorem sq206_0 {lvl : Nat} {C : bCall} {Q : bPost} {A : bPt → Prop} (hC : bMono C) (hA : bClosed lvl bm206 C Q A) {x1 : Int} {σ : bSt}  (h_x1 : bRg x1)
  (h : A (2, [.ref 12, .int (bn x1), .int (bn x1)], [], σ)) : A (0, [.ref 12, .int (bn x1), .float 0], [], σ) := by
  refine bGo hA 0 0 (0, .iload_n 1, 1, 1, 0, [1], []) rfl rfl rfl ?_
  refine bGo hA 0 1 (1, .istore_n 2, 1, 2, 0, [2], []) rfl rfl rfl ?_
  exact h

theorem sq206_2 {lvl : Nat} {C : bCall} {Q : bPost} {A : bPt → Prop} (hC : bMono C) (hA : bClosed lvl bm206 C Q A) {v1 : Value} {l2 : Int} {σ : bSt}  (h_l2 : bRg l2)
  (h : ((0 ≤ l2 ∧ l2 < 6) ∧ (((bi σ 57 l2) = 0 → (C 205 [.int (bn l2)] σ (bRn (fun r4 s2 => A (2, [.ref 12, (bUnl v1), .int (bn r4)], [], s2))))) ∧ (¬ (bi σ 57 l2) = 0 → Q (.inl (some (.int (bn l2)))) σ)))) : A (2, [.ref 12, v1, .int (bn l2)], [], σ) := by
  refine bGo hA 0 2 (2, .aload_n 0, 1, 3, 0, [0], []) rfl rfl rfl ?_
  refine bGo hA 0 3 (3, .getfield 13, 3, 4, 0, [12, 2, 3, 57, 1, 0], []) rfl rfl rfl ?_
  refine ⟨rfl, ?_⟩
  refine bGo hA 0 4 (6, .iload_n 2, 1, 5, 0, [2], []) rfl rfl rfl ?_
  refine bGo hA 0 5 (7, .baload, 1, 6, 0, [], []) rfl rfl rfl ?_
  refine ⟨rfl, (bIxP (x := l2) (n := 6) h_l2 h.1), ?_⟩
  refine bEqL (x := l2) h_l2 ?_
  refine bGo hA 0 6 (8, .ifCond .ne (11), 3, 7, 11, [], []) rfl rfl rfl ?_
  refine bB_eq0 (x := (bi σ 57 l2)) (bi_rg _ _ _) (fun c1 => ?_) (fun c1 => ?_)
  · refine bGo hA 0 7 (11, .iload_n 2, 1, 8, 0, [2], []) rfl rfl rfl ?_
    refine bGo hA 0 8 (12, .invokestatic 339, 3, 9, 0, [2, 205, 1], []) rfl rfl rfl ?_
    refine hC _ _ _ _ _ (bRn_e (fun r4 s2 q5 k3 => ?_)) (h.2.1 c1)
    show A (9, [.ref 12, v1, .int (bn l2)], [.int (bn r4)], s2)
    refine bGo hA 0 9 (15, .istore_n 2, 1, 10, 0, [2], []) rfl rfl rfl ?_
    refine bGo hA 0 10 (16, .goto (-14), 3, 11, 2, [], []) rfl rfl rfl ?_
    exact k3
  · refine bGo hA 0 11 (19, .iload_n 2, 1, 12, 0, [2], []) rfl rfl rfl ?_
    refine bGo hA 0 12 (20, .ireturn, 1, 0, 0, [1], []) rfl rfl rfl ?_
    exact (h.2.2 c1)

theorem sq207_0 {lvl : Nat} {C : bCall} {Q : bPost} {A : bPt → Prop} (hC : bMono C) (hA : bClosed lvl bm207 C Q A) {x1 : Int} {σ : bSt}  (h_x1 : bRg x1)
  (h : (C 200 [.int (bn x1)] σ (bRn (fun r3 s1 => ((r3 = 0 → (C 197 [.ref 12, .int (bn 1)] s1 (bRn (fun r8 s6 => ((r8 = 0 → (0 ≤ x1 ∧ (C 206 [.ref 12, .int (bn (x1 / 8))] s6 (bRn (fun r13 s11 => Q (.inl (some (.int (bn r13)))) s11))))) ∧ (¬ r8 = 0 → Q (.inl (some (.int (bn 0)))) s6)))))) ∧ (¬ r3 = 0 → (C 197 [.ref 12, .int (bn 0)] s1 (bRn (fun r17 s15 => ((r17 = 0 → (0 ≤ x1 ∧ (C 206 [.ref 12, .int (bn (x1 / 8))] s15 (bRn (fun r22 s20 => Q (.inl (some (.int (bn r22)))) s20))))) ∧ (¬ r17 = 0 → Q (.inl (some (.int (bn 0)))) s15))))))))))) : A (0, [.ref 12, .int (bn x1)], [], σ) := by
  refine bGo hA 0 0 (0, .aload_n 0, 1, 1, 0, [0], []) rfl rfl rfl ?_
  refine bGo hA 0 1 (1, .iload_n 1, 1, 2, 0, [1], []) rfl rfl rfl ?_
  refine bGo hA 0 2 (2, .invokestatic 329, 3, 3, 0, [2, 200, 1], []) rfl rfl rfl ?_
  refine hC _ _ _ _ _ (bRn_e (fun r3 s1 q4 k2 => ?_)) h
  show A (3, [.ref 12, .int (bn x1)], [.int (bn r3), .ref 12], s1)
  refine bGo hA 0 3 (5, .ifCond .eq (7), 3, 4, 6, [], []) rfl rfl rfl ?_
  refine bB_eq0 (x := r3) q4 (fun c5 => ?_) (fun c5 => ?_)
  · refine bGo hA 0 6 (12, .iconst (1), 1, 7, 0, [], [(1, 0)]) rfl rfl rfl ?_
    refine bEqI bl_1 ?_
    refine bGo hA 0 7 (13, .invokevirtual 333, 3, 8, 0, [0, 12, 197, 1], []) rfl rfl rfl ?_
    refine ⟨rfl, ?_⟩
    refine hC _ _ _ _ _ (bRn_e (fun r8 s6 q9 k7 => ?_)) (k2.1 c5)
    show A (8, [.ref 12, .int (bn x1)], [.int (bn r8)], s6)
    refine bGo hA 0 8 (16, .ifCond .eq (7), 3, 9, 11, [], []) rfl rfl rfl ?_
    refine bB_eq0 (x := r8) q9 (fun c10 => ?_) (fun c10 => ?_)
    · refine bGo hA 0 11 (23, .aload_n 0, 1, 12, 0, [0], []) rfl rfl rfl ?_
      refine bGo hA 0 12 (24, .iload_n 1, 1, 13, 0, [1], []) rfl rfl rfl ?_
      refine bGo hA 0 13 (25, .bipush (8), 2, 14, 0, [], [(8, 0)]) rfl rfl rfl ?_
      refine bEqI bl_8 ?_
      refine bGo hA 0 14 (27, .idiv, 1, 15, 0, [], []) rfl rfl rfl ?_
      refine ⟨by decide, ?_⟩
      refine bEqI (bn_div h_x1 (by decide) (k7.1 c10).1) ?_
      refine bGo hA 0 15 (28, .invokevirtual 343, 3, 16, 0, [0, 12, 206, 1], []) rfl rfl rfl ?_
      refine ⟨rfl, ?_⟩
      refine hC _ _ _ _ _ (bRn_e (fun r13 s11 q14 k12 => ?_)) (k7.1 c10).2
      show A (16, [.ref 12, .int (bn x1)], [.int (bn r13)], s11)
      refine bGo hA 1 0 (31, .ireturn, 1, 0, 0, [1], []) rfl rfl rfl ?_
      exact k12
    · refine bGo hA 0 9 (19, .iconst (0), 1, 10, 0, [], [(0, 0)]) rfl rfl rfl ?_
      refine bEqI bl_0 ?_
      refine bGo hA 0 10 (20, .goto (11), 3, 11, 16, [], []) rfl rfl rfl ?_
      refine bGo hA 1 0 (31, .ireturn, 1, 0, 0, [1], []) rfl rfl rfl ?_
      exact (k7.2 c10)
  · refine bGo hA 0 4 (8, .iconst (0), 1, 5, 0, [], [(0, 0)]) rfl rfl rfl ?_
    refine bEqI bl_0 ?_
    refine bGo hA 0 5 (9, .goto (4), 3, 6, 7, [], []) rfl rfl rfl ?_
    refine bGo hA 0 7 (13, .invokevirtual 333, 3, 8, 0, [0, 12, 197, 1], []) rfl rfl rfl ?_
    refine ⟨rfl, ?_⟩
    refine hC _ _ _ _ _ (bRn_e (fun r17 s15 q18 k16 => ?_)) (k2.2 c5)
    show A (8, [.ref 12, .int (bn x1)], [.int (bn r17)], s15)
    refine bGo hA 0 8 (16, .ifCond .eq (7), 3, 9, 11, [], []) rfl rfl rfl ?_
    refine bB_eq0 (x := r17) q18 (fun c19 => ?_) (fun c19 => ?_)
    · refine bGo hA 0 11 (23, .aload_n 0, 1, 12, 0, [0], []) rfl rfl rfl ?_
      refine bGo hA 0 12 (24, .iload_n 1, 1, 13, 0, [1], []) rfl rfl rfl ?_
      refine bGo hA 0 13 (25, .bipush (8), 2, 14, 0, [], [(8, 0)]) rfl rfl rfl ?_
      refine bEqI bl_8 ?_
      refine bGo hA 0 14 (27, .idiv, 1, 15, 0, [], []) rfl rfl rfl ?_
      refine ⟨by decide, ?_⟩
      refine bEqI (bn_div h_x1 (by decide) (k16.1 c19).1) ?_
      refine bGo hA 0 15 (28, .invokevirtual 343, 3, 16, 0, [0, 12, 206, 1], []) rfl rfl rfl ?_
      refine ⟨rfl, ?_⟩
      refine hC _ _ _ _ _ (bRn_e (fun r22 s20 q23 k21 => ?_)) (k16.1 c19).2
      show A (16, [.ref 12, .int (bn x1)], [.int (bn r22)], s20)
      refine bGo hA 1 0 (31, .ireturn, 1, 0, 0, [1], []) rfl rfl rfl ?_
      exact k21
    · refine bGo hA 0 9 (19, .iconst (0), 1, 10, 0, [], [(0, 0)]) rfl rfl rfl ?_
      refine bEqI bl_0 ?_
      refine bGo hA 0 10 (20, .goto (11), 3, 11, 16, [], []) rfl rfl rfl ?_
      refine bGo hA 1 0 (31, .ireturn, 1, 0, 0, [1], []) rfl rfl rfl ?_
      exact (k16.2 c19)

theorem sq208_0 {lvl : Nat} {C : bCall} {Q : bPost} {A : bPt → Prop} (hC : bMono C) (hA : bClosed lvl bm208 C Q A) {x1 : Int} {x2 : Int} {x3 : Int} {x4 : Int} {σ : bSt}  (h_x1 : bRg x1) (h_x2 : bRg x2) (h_x3 : bRg x3) (h_x4 : bRg x4)
  (h : (0 ≤ x4 ∧ (((x4 / 8) = x1 → ((0 ≤ x4 ∧ x4 < 48) ∧ (((bi σ 56 x4) = (-1) → Q (.inl (some (.int (bn 0)))) σ) ∧ (¬ (bi σ 56 x4) = (-1) → (((bAnd (bShr x2 (x4 % 8)) 1) = 1 → Q (.inl (some (.int (bn 1)))) σ) ∧ (¬ (bAnd (bShr x2 (x4 % 8)) 1) = 1 → Q (.inl (some (.int (bn 0)))) σ)))))) ∧ (¬ (x4 / 8) = x1 → ((x3 = 0 → ((0 ≤ x4 ∧ x4 < 48) ∧ (((bi σ 56 x4) = (-1) → Q (.inl (some (.int (bn 0)))) σ) ∧ (¬ (bi σ 56 x4) = (-1) → (((bAnd (bShr x2 (x4 % 8)) 1) = 1 → Q (.inl (some (.int (bn 0)))) σ) ∧ (¬ (bAnd (bShr x2 (x4 % 8)) 1) = 1 → Q (.inl (some (.int (bn 0)))) σ)))))) ∧ (¬ x3 = 0 → (C 206 [.ref 12, .int (bn (x4 / 8))] σ (bRn (fun r11 s9 => ((r11 = x1 → ((0 ≤ x4 ∧ x4 < 48) ∧ (((bi s9 56 x4) = (-1) → Q (.inl (some (.int (bn 0)))) s9) ∧ (¬ (bi s9 56 x4) = (-1) → (((bAnd (bShr x2 (x4 % 8)) 1) = 1 → Q (.inl (some (.int (bn 1)))) s9) ∧ (¬ (bAnd (bShr x2 (x4 % 8)) 1) = 1 → Q (.inl (some (.int (bn 0)))) s9)))))) ∧ (¬ r11 = x1 → ((0 ≤ x4 ∧ x4 < 48) ∧ (((bi s9 56 x4) = (-1) → Q (.inl (some (.int (bn 0)))) s9) ∧ (¬ (bi s9 56 x4) = (-1) → (((bAnd (bShr x2 (x4 % 8)) 1) = 1 → Q (.inl (some (.int (bn 0)))) s9) ∧ (¬ (bAnd (bShr x2 (x4 % 8)) 1) = 1 → Q (.inl (some (.int (bn 0)))) s9)))))))))))))))) : A (0, [.ref 12, .int (bn x1), .int (bn x2), .int (bn x3), .int (bn x4), .float 0], [], σ) := by
  refine bGo hA 0 0 (0, .iload 4, 2, 1, 0, [4], []) rfl rfl rfl ?_
  refine bGo hA 0 1 (2, .bipush (8), 2, 2, 0, [], [(8, 0)]) rfl rfl rfl ?_
  refine bEqI bl_8 ?_
  refine bGo hA 0 2 (4, .idiv, 1, 3, 0, [], []) rfl rfl rfl ?_
  refine ⟨by decide, ?_⟩
  refine bEqI (bn_div h_x4 (by decide) h.1) ?_
  refine bGo hA 0 3 (5, .iload_n 1, 1, 4, 0, [1], []) rfl rfl rfl ?_
  refine bGo hA 0 4 (6, .if_icmp .eq (20), 3, 5, 14, [], []) rfl rfl rfl ?_
  refine bB_eq (x := (x4 / 8)) (y := x1) (bRg_div h_x4 h.1) h_x1 (fun c1 => ?_) (fun c1 => ?_)
  · refine bGo hA 0 14 (26, .iconst (1), 1, 15, 0, [], [(1, 0)]) rfl rfl rfl ?_
    refine bEqI bl_1 ?_
    refine bGo hA 0 15 (27, .goto (4), 3, 16, 17, [], []) rfl rfl rfl ?_
    refine bGo hA 1 1 (31, .istore 5, 2, 18, 0, [5], []) rfl rfl rfl ?_
    refine bGo hA 1 2 (33, .aload_n 0, 1, 19, 0, [0], []) rfl rfl rfl ?_
    refine bGo hA 1 3 (34, .getfield 7, 3, 20, 0, [12, 1, 3, 56, 1, 0], []) rfl rfl rfl ?_
    refine ⟨rfl, ?_⟩
    refine bGo hA 1 4 (37, .iload 4, 2, 21, 0, [4], []) rfl rfl rfl ?_
    refine bGo hA 1 5 (39, .iaload, 1, 22, 0, [], []) rfl rfl rfl ?_
    refine ⟨rfl, (bIxP (x := x4) (n := 48) h_x4 (h.2.1 c1).1), ?_⟩
    refine bEqL (x := x4) h_x4 ?_
    refine bGo hA 1 6 (40, .iconst (-1), 1, 23, 0, [], [(-1, 0)]) rfl rfl rfl ?_
    refine bEqI bl_m1 ?_
    refine bGo hA 1 7 (41, .if_icmp .eq (25), 3, 24, 37, [], []) rfl rfl rfl ?_
    refine bB_eq (x := (bi σ 56 x4)) (y := (-1)) (bi_rg _ _ _) (by decide : bRg (-1)) (fun c2 => ?_) (fun c2 => ?_)
    · refine bGo hA 2 5 (66, .iconst (0), 1, 38, 0, [], [(0, 0)]) rfl rfl rfl ?_
      refine bEqI bl_0 ?_
      refine bGo hA 2 6 (67, .ireturn, 1, 0, 0, [2], []) rfl rfl rfl ?_
      exact ⟨b01 (Or.inl rfl), ((h.2.1 c1).2.1 c2)⟩
    · refine bGo hA 1 8 (44, .iload_n 2, 1, 25, 0, [2], []) rfl rfl rfl ?_
      refine bGo hA 1 9 (45, .iload 4, 2, 26, 0, [4], []) rfl rfl rfl ?_
      refine bGo hA 1 10 (47, .bipush (8), 2, 27, 0, [], [(8, 0)]) rfl rfl rfl ?_
      refine bEqI bl_8 ?_
      refine bGo hA 1 11 (49, .irem, 1, 28, 0, [], []) rfl rfl rfl ?_
      refine ⟨by decide, ?_⟩
      refine bEqI (bn_rem h_x4 (by decide) h.1) ?_
      refine bGo hA 1 12 (50, .ishr, 1, 29, 0, [], []) rfl rfl rfl ?_
      refine bEqI (bn_shr x2 (x4 % 8)) ?_
      refine bGo hA 1 13 (51, .iconst (1), 1, 30, 0, [], [(1, 0)]) rfl rfl rfl ?_
      refine bEqI bl_1 ?_
      refine bGo hA 1 14 (52, .iand, 1, 31, 0, [], []) rfl rfl rfl ?_
      refine bEqI (bn_and (bShr x2 (x4 % 8)) 1) ?_
      refine bGo hA 1 15 (53, .iconst (1), 1, 32, 0, [], [(1, 0)]) rfl rfl rfl ?_
      refine bEqI bl_1 ?_
      refine bGo hA 2 0 (54, .if_icmp .ne (12), 3, 33, 37, [], []) rfl rfl rfl ?_
      refine bB_eq (x := (bAnd (bShr x2 (x4 % 8)) 1)) (y := 1) (bRgI _) (by decide : bRg 1) (fun c3 => ?_) (fun c3 => ?_)
      · refine bGo hA 2 1 (57, .iload 5, 2, 34, 0, [5], []) rfl rfl rfl ?_
        refine bGo hA 2 2 (59, .ifCond .eq (7), 3, 35, 37, [], []) rfl rfl rfl ?_
        refine ⟨fun c => absurd c (by decide), fun _ => ?_⟩
        refine bGo hA 2 3 (62, .iconst (1), 1, 36, 0, [], [(1, 0)]) rfl rfl rfl ?_
        refine bEqI bl_1 ?_
        refine bGo hA 2 4 (63, .goto (4), 3, 37, 38, [], []) rfl rfl rfl ?_
        refine bGo hA 2 6 (67, .ireturn, 1, 0, 0, [2], []) rfl rfl rfl ?_
        exact ⟨b01 (Or.inr rfl), (((h.2.1 c1).2.2 c2).1 c3)⟩
      · refine bGo hA 2 5 (66, .iconst (0), 1, 38, 0, [], [(0, 0)]) rfl rfl rfl ?_
        refine bEqI bl_0 ?_
        refine bGo hA 2 6 (67, .ireturn, 1, 0, 0, [2], []) rfl rfl rfl ?_
        exact ⟨b01 (Or.inl rfl), (((h.2.1 c1).2.2 c2).2 c3)⟩
  · refine bGo hA 0 5 (9, .iload_n 3, 1, 6, 0, [3], []) rfl rfl rfl ?_
    refine bGo hA 0 6 (10, .ifCond .eq (20), 3, 7, 16, [], []) rfl rfl rfl ?_
    refine bB_eq0 (x := x3) h_x3 (fun c5 => ?_) (fun c5 => ?_)
    · refine bGo hA 1 0 (30, .iconst (0), 1, 17, 0, [], [(0, 0)]) rfl rfl rfl ?_
      refine bEqI bl_0 ?_
      refine bGo hA 1 1 (31, .istore 5, 2, 18, 0, [5], []) rfl rfl rfl ?_
      refine bGo hA 1 2 (33, .aload_n 0, 1, 19, 0, [0], []) rfl rfl rfl ?_
      refine bGo hA 1 3 (34, .getfield 7, 3, 20, 0, [12, 1, 3, 56, 1, 0], []) rfl rfl rfl ?_
      refine ⟨rfl, ?_⟩
      refine bGo hA 1 4 (37, .iload 4, 2, 21, 0, [4], []) rfl rfl rfl ?_
      refine bGo hA 1 5 (39, .iaload, 1, 22, 0, [], []) rfl rfl rfl ?_
      refine ⟨rfl, (bIxP (x := x4) (n := 48) h_x4 ((h.2.2 c1).1 c5).1), ?_⟩
      refine bEqL (x := x4) h_x4 ?_
      refine bGo hA 1 6 (40, .iconst (-1), 1, 23, 0, [], [(-1, 0)]) rfl rfl rfl ?_
      refine bEqI bl_m1 ?_
      refine bGo hA 1 7 (41, .if_icmp .eq (25), 3, 24, 37, [], []) rfl rfl rfl ?_
      refine bB_eq (x := (bi σ 56 x4)) (y := (-1)) (bi_rg _ _ _) (by decide : bRg (-1)) (fun c6 => ?_) (fun c6 => ?_)
      · refine bGo hA 2 5 (66, .iconst (0), 1, 38, 0, [], [(0, 0)]) rfl rfl rfl ?_
        refine bEqI bl_0 ?_
        refine bGo hA 2 6 (67, .ireturn, 1, 0, 0, [2], []) rfl rfl rfl ?_
        exact ⟨b01 (Or.inl rfl), (((h.2.2 c1).1 c5).2.1 c6)⟩
      · refine bGo hA 1 8 (44, .iload_n 2, 1, 25, 0, [2], []) rfl rfl rfl ?_
        refine bGo hA 1 9 (45, .iload 4, 2, 26, 0, [4], []) rfl rfl rfl ?_
        refine bGo hA 1 10 (47, .bipush (8), 2, 27, 0, [], [(8, 0)]) rfl rfl rfl ?_
        refine bEqI bl_8 ?_
        refine bGo hA 1 11 (49, .irem, 1, 28, 0, [], []) rfl rfl rfl ?_
        refine ⟨by decide, ?_⟩
        refine bEqI (bn_rem h_x4 (by decide) h.1) ?_
        refine bGo hA 1 12 (50, .ishr, 1, 29, 0, [], []) rfl rfl rfl ?_
        refine bEqI (bn_shr x2 (x4 % 8)) ?_
        refine bGo hA 1 13 (51, .iconst (1), 1, 30, 0, [], [(1, 0)]) rfl rfl rfl ?_
        refine bEqI bl_1 ?_
        refine bGo hA 1 14 (52, .iand, 1, 31, 0, [], []) rfl rfl rfl ?_
        refine bEqI (bn_and (bShr x2 (x4 % 8)) 1) ?_
        refine bGo hA 1 15 (53, .iconst (1), 1, 32, 0, [], [(1, 0)]) rfl rfl rfl ?_
        refine bEqI bl_1 ?_
        refine bGo hA 2 0 (54, .if_icmp .ne (12), 3, 33, 37, [], []) rfl rfl rfl ?_
        refine bB_eq (x := (bAnd (bShr x2 (x4 % 8)) 1)) (y := 1) (bRgI _) (by decide : bRg 1) (fun c7 => ?_) (fun c7 => ?_)
        · refine bGo hA 2 1 (57, .iload 5, 2, 34, 0, [5], []) rfl rfl rfl ?_
          refine bGo hA 2 2 (59, .ifCond .eq (7), 3, 35, 37, [], []) rfl rfl rfl ?_
          refine ⟨fun _ => ?_, fun c => absurd (by decide) c⟩
          refine bGo hA 2 5 (66, .iconst (0), 1, 38, 0, [], [(0, 0)]) rfl rfl rfl ?_
          refine bEqI bl_0 ?_
          refine bGo hA 2 6 (67, .ireturn, 1, 0, 0, [2], []) rfl rfl rfl ?_
          exact ⟨b01 (Or.inl rfl), ((((h.2.2 c1).1 c5).2.2 c6).1 c7)⟩
        · refine bGo hA 2 5 (66, .iconst (0), 1, 38, 0, [], [(0, 0)]) rfl rfl rfl ?_
          refine bEqI bl_0 ?_
          refine bGo hA 2 6 (67, .ireturn, 1, 0, 0, [2], []) rfl rfl rfl ?_
          exact ⟨b01 (Or.inl rfl), ((((h.2.2 c1).1 c5).2.2 c6).2 c7)⟩
    · refine bGo hA 0 7 (13, .aload_n 0, 1, 8, 0, [0], []) rfl rfl rfl ?_
      refine bGo hA 0 8 (14, .iload 4, 2, 9, 0, [4], []) rfl rfl rfl ?_
      refine bGo hA 0 9 (16, .bipush (8), 2, 10, 0, [], [(8, 0)]) rfl rfl rfl ?_
      refine bEqI bl_8 ?_
      refine bGo hA 0 10 (18, .idiv, 1, 11, 0, [], []) rfl rfl rfl ?_
      refine ⟨by decide, ?_⟩
      refine bEqI (bn_div h_x4 (by decide) h.1) ?_
      refine bGo hA 0 11 (19, .invokevirtual 343, 3, 12, 0, [0, 12, 206, 1], []) rfl rfl rfl ?_
      refine ⟨rfl, ?_⟩
      refine hC _ _ _ _ _ (bRn_e (fun r11 s9 q12 k10 => ?_)) ((h.2.2 c1).2 c5)
      show A (12, [.ref 12, .int (bn x1), .int (bn x2), .int (bn x3), .int (bn x4), .float 0], [.int (bn r11)], s9)
      refine bGo hA 0 12 (22, .iload_n 1, 1, 13, 0, [1], []) rfl rfl rfl ?_
      refine bGo hA 0 13 (23, .if_icmp .ne (7), 3, 14, 16, [], []) rfl rfl rfl ?_
      refine bB_eq (x := r11) (y := x1) q12 h_x1 (fun c13 => ?_) (fun c13 => ?_)
      · refine bGo hA 0 14 (26, .iconst (1), 1, 15, 0, [], [(1, 0)]) rfl rfl rfl ?_
        refine bEqI bl_1 ?_
        refine bGo hA 0 15 (27, .goto (4), 3, 16, 17, [], []) rfl rfl rfl ?_
        refine bGo hA 1 1 (31, .istore 5, 2, 18, 0, [5], []) rfl rfl rfl ?_
        refine bGo hA 1 2 (33, .aload_n 0, 1, 19, 0, [0], []) rfl rfl rfl ?_
        refine bGo hA 1 3 (34, .getfield 7, 3, 20, 0, [12, 1, 3, 56, 1, 0], []) rfl rfl rfl ?_
        refine ⟨rfl, ?_⟩
        refine bGo hA 1 4 (37, .iload 4, 2, 21, 0, [4], []) rfl rfl rfl ?_
        refine bGo hA 1 5 (39, .iaload, 1, 22, 0, [], []) rfl rfl rfl ?_
        refine ⟨rfl, (bIxP (x := x4) (n := 48) h_x4 (k10.1 c13).1), ?_⟩
        refine bEqL (x := x4) h_x4 ?_
        refine bGo hA 1 6 (40, .iconst (-1), 1, 23, 0, [], [(-1, 0)]) rfl rfl rfl ?_
        refine bEqI bl_m1 ?_
        refine bGo hA 1 7 (41, .if_icmp .eq (25), 3, 24, 37, [], []) rfl rfl rfl ?_
        refine bB_eq (x := (bi s9 56 x4)) (y := (-1)) (bi_rg _ _ _) (by decide : bRg (-1)) (fun c14 => ?_) (fun c14 => ?_)
        · refine bGo hA 2 5 (66, .iconst (0), 1, 38, 0, [], [(0, 0)]) rfl rfl rfl ?_
          refine bEqI bl_0 ?_
          refine bGo hA 2 6 (67, .ireturn, 1, 0, 0, [2], []) rfl rfl rfl ?_
          exact ⟨b01 (Or.inl rfl), ((k10.1 c13).2.1 c14)⟩
        · refine bGo hA 1 8 (44, .iload_n 2, 1, 25, 0, [2], []) rfl rfl rfl ?_
          refine bGo hA 1 9 (45, .iload 4, 2, 26, 0, [4], []) rfl rfl rfl ?_
          refine bGo hA 1 10 (47, .bipush (8), 2, 27, 0, [], [(8, 0)]) rfl rfl rfl ?_
          refine bEqI bl_8 ?_
          refine bGo hA 1 11 (49, .irem, 1, 28, 0, [], []) rfl rfl rfl ?_
          refine ⟨by decide, ?_⟩
          refine bEqI (bn_rem h_x4 (by decide) h.1) ?_
          refine bGo hA 1 12 (50, .ishr, 1, 29, 0, [], []) rfl rfl rfl ?_
          refine bEqI (bn_shr x2 (x4 % 8)) ?_
          refine bGo hA 1 13 (51, .iconst (1), 1, 30, 0, [], [(1, 0)]) rfl rfl rfl ?_
          refine bEqI bl_1 ?_
          refine bGo hA 1 14 (52, .iand, 1, 31, 0, [], []) rfl rfl rfl ?_
          refine bEqI (bn_and (bShr x2 (x4 % 8)) 1) ?_
          refine bGo hA 1 15 (53, .iconst (1), 1, 32, 0, [], [(1, 0)]) rfl rfl rfl ?_
          refine bEqI bl_1 ?_
          refine bGo hA 2 0 (54, .if_icmp .ne (12), 3, 33, 37, [], []) rfl rfl rfl ?_
          refine bB_eq (x := (bAnd (bShr x2 (x4 % 8)) 1)) (y := 1) (bRgI _) (by decide : bRg 1) (fun c15 => ?_) (fun c15 => ?_)
          · refine bGo hA 2 1 (57, .iload 5, 2, 34, 0, [5], []) rfl rfl rfl ?_
            refine bGo hA 2 2 (59, .ifCond .eq (7), 3, 35, 37, [], []) rfl rfl rfl ?_
            refine ⟨fun c => absurd c (by decide), fun _ => ?_⟩
            refine bGo hA 2 3 (62, .iconst (1), 1, 36, 0, [], [(1, 0)]) rfl rfl rfl ?_
            refine bEqI bl_1 ?_
            refine bGo hA 2 4 (63, .goto (4), 3, 37, 38, [], []) rfl rfl rfl ?_
            refine bGo hA 2 6 (67, .ireturn, 1, 0, 0, [2], []) rfl rfl rfl ?_
            exact ⟨b01 (Or.inr rfl), (((k10.1 c13).2.2 c14).1 c15)⟩
          · refine bGo hA 2 5 (66, .iconst (0), 1, 38, 0, [], [(0, 0)]) rfl rfl rfl ?_
            refine bEqI bl_0 ?_
            refine bGo hA 2 6 (67, .ireturn, 1, 0, 0, [2], []) rfl rfl rfl ?_
            exact ⟨b01 (Or.inl rfl), (((k10.1 c13).2.2 c14).2 c15)⟩
      · refine bGo hA 1 0 (30, .iconst (0), 1, 17, 0, [], [(0, 0)]) rfl rfl rfl ?_
        refine bEqI bl_0 ?_
        refine bGo hA 1 1 (31, .istore 5, 2, 18, 0, [5], []) rfl rfl rfl ?_
        refine bGo hA 1 2 (33, .aload_n 0, 1, 19, 0, [0], []) rfl rfl rfl ?_
        refine bGo hA 1 3 (34, .getfield 7, 3, 20, 0, [12, 1, 3, 56, 1, 0], []) rfl rfl rfl ?_
        refine ⟨rfl, ?_⟩
        refine bGo hA 1 4 (37, .iload 4, 2, 21, 0, [4], []) rfl rfl rfl ?_
        refine bGo hA 1 5 (39, .iaload, 1, 22, 0, [], []) rfl rfl rfl ?_
        refine ⟨rfl, (bIxP (x := x4) (n := 48) h_x4 (k10.2 c13).1), ?_⟩
        refine bEqL (x := x4) h_x4 ?_
        refine bGo hA 1 6 (40, .iconst (-1), 1, 23, 0, [], [(-1, 0)]) rfl rfl rfl ?_
        refine bEqI bl_m1 ?_
        refine bGo hA 1 7 (41, .if_icmp .eq (25), 3, 24, 37, [], []) rfl rfl rfl ?_
        refine bB_eq (x := (bi s9 56 x4)) (y := (-1)) (bi_rg _ _ _) (by decide : bRg (-1)) (fun c17 => ?_) (fun c17 => ?_)
        · refine bGo hA 2 5 (66, .iconst (0), 1, 38, 0, [], [(0, 0)]) rfl rfl rfl ?_
          refine bEqI bl_0 ?_
          refine bGo hA 2 6 (67, .ireturn, 1, 0, 0, [2], []) rfl rfl rfl ?_
          exact ⟨b01 (Or.inl rfl), ((k10.2 c13).2.1 c17)⟩
        · refine bGo hA 1 8 (44, .iload_n 2, 1, 25, 0, [2], []) rfl rfl rfl ?_
          refine bGo hA 1 9 (45, .iload 4, 2, 26, 0, [4], []) rfl rfl rfl ?_
          refine bGo hA 1 10 (47, .bipush (8), 2, 27, 0, [], [(8, 0)]) rfl rfl rfl ?_
          refine bEqI bl_8 ?_
          refine bGo hA 1 11 (49, .irem, 1, 28, 0, [], []) rfl rfl rfl ?_
          refine ⟨by decide, ?_⟩
          refine bEqI (bn_rem h_x4 (by decide) h.1) ?_
          refine bGo hA 1 12 (50, .ishr, 1, 29, 0, [], []) rfl rfl rfl ?_
          refine bEqI (bn_shr x2 (x4 % 8)) ?_
          refine bGo hA 1 13 (51, .iconst (1), 1, 30, 0, [], [(1, 0)]) rfl rfl rfl ?_
          refine bEqI bl_1 ?_
          refine bGo hA 1 14 (52, .iand, 1, 31, 0, [], []) rfl rfl rfl ?_
          refine bEqI (bn_and (bShr x2 (x4 % 8)) 1) ?_
          refine bGo hA 1 15 (53, .iconst (1), 1, 32, 0, [], [(1, 0)]) rfl rfl rfl ?_
          refine bEqI bl_1 ?_
          refine bGo hA 2 0 (54, .if_icmp .ne (12), 3, 33, 37, [], []) rfl rfl rfl ?_
          refine bB_eq (x := (bAnd (bShr x2 (x4 % 8)) 1)) (y := 1) (bRgI _) (by decide : bRg 1) (fun c18 => ?_) (fun c18 => ?_)
          · refine bGo hA 2 1 (57, .iload 5, 2, 34, 0, [5], []) rfl rfl rfl ?_
            refine bGo hA 2 2 (59, .ifCond .eq (7), 3, 35, 37, [], []) rfl rfl rfl ?_
            refine ⟨fun _ => ?_, fun c => absurd (by decide) c⟩
            refine bGo hA 2 5 (66, .iconst (0), 1, 38, 0, [], [(0, 0)]) rfl rfl rfl ?_
            refine bEqI bl_0 ?_
            refine bGo hA 2 6 (67, .ireturn, 1, 0, 0, [2], []) rfl rfl rfl ?_
            exact ⟨b01 (Or.inl rfl), (((k10.2 c13).2.2 c17).1 c18)⟩
          · refine bGo hA 2 5 (66, .iconst (0), 1, 38, 0, [], [(0, 0)]) rfl rfl rfl ?_
            refine bEqI bl_0 ?_
            refine bGo hA 2 6 (67, .ireturn, 1, 0, 0, [2], []) rfl rfl rfl ?_
            exact ⟨b01 (Or.inl rfl), (((k10.2 c13).2.2 c17).2 c18)⟩

theorem sq209_0 {lvl : Nat} {C : bCall} {Q : bPost} {A : bPt → Prop} (hC : bMono C) (hA : bClosed lvl bm209 C Q A) {x1 : Int} {x2 : Int} {x3 : Int} {σ : bSt}  (h_x1 : bRg x1) (h_x2 : bRg x2) (h_x3 : bRg x3)
  (h : (C 201 [.int (bn x1)] σ (bRn (fun r3 s1 => ((r3 = 0 → (C 197 [.ref 12, .int (bn 1)] s1 (bRn (fun r8 s6 => ((r8 = 0 → A (29, [.ref 12, .int (bn x1), .int (bn x2), .int (bn x3), .long (Int64.ofNat 0), .float 0, .int (bn 0)], [], s6)) ∧ (¬ r8 = 0 → Q (.inl (some (.long (Int64.ofNat 0)))) s6)))))) ∧ (¬ r3 = 0 → (C 199 [.int (bn x2), .int (bn 0), .int (bn 255)] s1 (bRn (fun r13 s11 => ((r13 = 0 → (C 197 [.ref 12, .int (bn 2)] s11 (bRn (fun r18 s16 => ((r18 = 0 → A (29, [.ref 12, .int (bn x1), .int (bn x2), .int (bn x3), .long (Int64.ofNat 0), .float 0, .int (bn 0)], [], s16)) ∧ (¬ r18 = 0 → Q (.inl (some (.long (Int64.ofNat 0)))) s16)))))) ∧ (¬ r13 = 0 → ((0 ≤ x1 ∧ x1 < 6) ∧ (((bi s11 57 x1) = 0 → (C 197 [.ref 12, .int (bn 3)] s11 (bRn (fun r24 s22 => ((r24 = 0 → A (29, [.ref 12, .int (bn x1), .int (bn x2), .int (bn x3), .long (Int64.ofNat 0), .float 0, .int (bn 0)], [], s22)) ∧ (¬ r24 = 0 → Q (.inl (some (.long (Int64.ofNat 0)))) s22)))))) ∧ (¬ (bi s11 57 x1) = 0 → (C 197 [.ref 12, .int (bn 0)] s11 (bRn (fun r29 s27 => ((r29 = 0 → A (29, [.ref 12, .int (bn x1), .int (bn x2), .int (bn x3), .long (Int64.ofNat 0), .float 0, .int (bn 0)], [], s27)) ∧ (¬ r29 = 0 → Q (.inl (some (.long (Int64.ofNat 0)))) s27))))))))))))))))))) : A (0, [.ref 12, .int (bn x1), .int (bn x2), .int (bn x3), .float 0, .float 0, .float 0], [], σ) := by
  refine bGo hA 0 0 (0, .aload_n 0, 1, 1, 0, [0], []) rfl rfl rfl ?_
  refine bGo hA 0 1 (1, .iload_n 1, 1, 2, 0, [1], []) rfl rfl rfl ?_
  refine bGo hA 0 2 (2, .invokestatic 336, 3, 3, 0, [2, 201, 1], []) rfl rfl rfl ?_
  refine hC _ _ _ _ _ (bRn_e (fun r3 s1 q4 k2 => ?_)) h
  show A (3, [.ref 12, .int (bn x1), .int (bn x2), .int (bn x3), .float 0, .float 0, .float 0], [.int (bn r3), .ref 12], s1)
  refine bGo hA 0 3 (5, .ifCond .ne (7), 3, 4, 6, [], []) rfl rfl rfl ?_
  refine bB_eq0 (x := r3) q4 (fun c5 => ?_) (fun c5 => ?_)
  · refine bGo hA 0 4 (8, .iconst (1), 1, 5, 0, [], [(1, 0)]) rfl rfl rfl ?_
    refine bEqI bl_1 ?_
    refine bGo hA 0 5 (9, .goto (32), 3, 6, 21, [], []) rfl rfl rfl ?_
    refine bGo hA 1 5 (41, .invokevirtual 333, 3, 22, 0, [0, 12, 197, 1], []) rfl rfl rfl ?_
    refine ⟨rfl, ?_⟩
    refine hC _ _ _ _ _ (bRn_e (fun r8 s6 q9 k7 => ?_)) (k2.1 c5)
    show A (22, [.ref 12, .int (bn x1), .int (bn x2), .int (bn x3), .float 0, .float 0, .float 0], [.int (bn r8)], s6)
    refine bGo hA 1 6 (44, .ifCond .eq (5), 3, 23, 25, [], []) rfl rfl rfl ?_
    refine bB_eq0 (x := r8) q9 (fun c10 => ?_) (fun c10 => ?_)
    · refine bGo hA 1 9 (49, .lconst 0, 1, 26, 0, [0], []) rfl rfl rfl ?_
      refine bGo hA 1 10 (50, .lstore 4, 2, 27, 0, [4], []) rfl rfl rfl ?_
      refine bGo hA 1 11 (52, .iconst (0), 1, 28, 0, [], [(0, 0)]) rfl rfl rfl ?_
      refine bEqI bl_0 ?_
      refine bGo hA 1 12 (53, .istore 6, 2, 29, 0, [6], []) rfl rfl rfl ?_
      exact (k7.1 c10)
    · refine bGo hA 1 7 (47, .lconst 0, 1, 24, 0, [0], []) rfl rfl rfl ?_
      refine bGo hA 1 8 (48, .lreturn, 1, 25, 0, [3], []) rfl rfl rfl ?_
      exact (k7.2 c10)
  · refine bGo hA 0 6 (12, .iload_n 2, 1, 7, 0, [2], []) rfl rfl rfl ?_
    refine bGo hA 0 7 (13, .iconst (0), 1, 8, 0, [], [(0, 0)]) rfl rfl rfl ?_
    refine bEqI bl_0 ?_
    refine bGo hA 0 8 (14, .sipush (255), 3, 9, 0, [], [(255, 0)]) rfl rfl rfl ?_
    refine bEqI bl_255 ?_
    refine bGo hA 0 9 (17, .invokestatic 325, 3, 10, 0, [2, 199, 3], []) rfl rfl rfl ?_
    refine hC _ _ _ _ _ (bRn_e (fun r13 s11 q14 k12 => ?_)) (k2.2 c5)
    show A (10, [.ref 12, .int (bn x1), .int (bn x2), .int (bn x3), .float 0, .float 0, .float 0], [.int (bn r13), .ref 12], s11)
    refine bGo hA 0 10 (20, .ifCond .ne (7), 3, 11, 13, [], []) rfl rfl rfl ?_
    refine bB_eq0 (x := r13) q14 (fun c15 => ?_) (fun c15 => ?_)
    · refine bGo hA 0 11 (23, .iconst (2), 1, 12, 0, [], [(2, 0)]) rfl rfl rfl ?_
      refine bEqI bl_2 ?_
      refine bGo hA 0 12 (24, .goto (17), 3, 13, 21, [], []) rfl rfl rfl ?_
      refine bGo hA 1 5 (41, .invokevirtual 333, 3, 22, 0, [0, 12, 197, 1], []) rfl rfl rfl ?_
      refine ⟨rfl, ?_⟩
      refine hC _ _ _ _ _ (bRn_e (fun r18 s16 q19 k17 => ?_)) (k12.1 c15)
      show A (22, [.ref 12, .int (bn x1), .int (bn x2), .int (bn x3), .float 0, .float 0, .float 0], [.int (bn r18)], s16)
      refine bGo hA 1 6 (44, .ifCond .eq (5), 3, 23, 25, [], []) rfl rfl rfl ?_
      refine bB_eq0 (x := r18) q19 (fun c20 => ?_) (fun c20 => ?_)
      · refine bGo hA 1 9 (49, .lconst 0, 1, 26, 0, [0], []) rfl rfl rfl ?_
        refine bGo hA 1 10 (50, .lstore 4, 2, 27, 0, [4], []) rfl rfl rfl ?_
        refine bGo hA 1 11 (52, .iconst (0), 1, 28, 0, [], [(0, 0)]) rfl rfl rfl ?_
        refine bEqI bl_0 ?_
        refine bGo hA 1 12 (53, .istore 6, 2, 29, 0, [6], []) rfl rfl rfl ?_
        exact (k17.1 c20)
      · refine bGo hA 1 7 (47, .lconst 0, 1, 24, 0, [0], []) rfl rfl rfl ?_
        refine bGo hA 1 8 (48, .lreturn, 1, 25, 0, [3], []) rfl rfl rfl ?_
        exact (k17.2 c20)
    · refine bGo hA 0 13 (27, .aload_n 0, 1, 14, 0, [0], []) rfl rfl rfl ?_
      refine bGo hA 0 14 (28, .getfield 13, 3, 15, 0, [12, 2, 3, 57, 1, 0], []) rfl rfl rfl ?_
      refine ⟨rfl, ?_⟩
      refine bGo hA 0 15 (31, .iload_n 1, 1, 16, 0, [1], []) rfl rfl rfl ?_
      refine bGo hA 1 0 (32, .baload, 1, 17, 0, [], []) rfl rfl rfl ?_
      refine ⟨rfl, (bIxP (x := x1) (n := 6) h_x1 (k12.2 c15).1), ?_⟩
      refine bEqL (x := x1) h_x1 ?_
      refine bGo hA 1 1 (33, .ifCond .eq (7), 3, 18, 20, [], []) rfl rfl rfl ?_
      refine bB_eq0 (x := (bi s11 57 x1)) (bi_rg _ _ _) (fun c21 => ?_) (fun c21 => ?_)
      · refine bGo hA 1 4 (40, .iconst (3), 1, 21, 0, [], [(3, 0)]) rfl rfl rfl ?_
        refine bEqI bl_3 ?_
        refine bGo hA 1 5 (41, .invokevirtual 333, 3, 22, 0, [0, 12, 197, 1], []) rfl rfl rfl ?_
        refine ⟨rfl, ?_⟩
        refine hC _ _ _ _ _ (bRn_e (fun r24 s22 q25 k23 => ?_)) ((k12.2 c15).2.1 c21)
        show A (22, [.ref 12, .int (bn x1), .int (bn x2), .int (bn x3), .float 0, .float 0, .float 0], [.int (bn r24)], s22)
        refine bGo hA 1 6 (44, .ifCond .eq (5), 3, 23, 25, [], []) rfl rfl rfl ?_
        refine bB_eq0 (x := r24) q25 (fun c26 => ?_) (fun c26 => ?_)
        · refine bGo hA 1 9 (49, .lconst 0, 1, 26, 0, [0], []) rfl rfl rfl ?_
          refine bGo hA 1 10 (50, .lstore 4, 2, 27, 0, [4], []) rfl rfl rfl ?_
          refine bGo hA 1 11 (52, .iconst (0), 1, 28, 0, [], [(0, 0)]) rfl rfl rfl ?_
          refine bEqI bl_0 ?_
          refine bGo hA 1 12 (53, .istore 6, 2, 29, 0, [6], []) rfl rfl rfl ?_
          exact (k23.1 c26)
        · refine bGo hA 1 7 (47, .lconst 0, 1, 24, 0, [0], []) rfl rfl rfl ?_
          refine bGo hA 1 8 (48, .lreturn, 1, 25, 0, [3], []) rfl rfl rfl ?_
          exact (k23.2 c26)
      · refine bGo hA 1 2 (36, .iconst (0), 1, 19, 0, [], [(0, 0)]) rfl rfl rfl ?_
        refine bEqI bl_0 ?_
        refine bGo hA 1 3 (37, .goto (4), 3, 20, 21, [], []) rfl rfl rfl ?_
        refine bGo hA 1 5 (41, .invokevirtual 333, 3, 22, 0, [0, 12, 197, 1], []) rfl rfl rfl ?_
        refine ⟨rfl, ?_⟩
        refine hC _ _ _ _ _ (bRn_e (fun r29 s27 q30 k28 => ?_)) ((k12.2 c15).2.2 c21)
        show A (22, [.ref 12, .int (bn x1), .int (bn x2), .int (bn x3), .float 0, .float 0, .float 0], [.int (bn r29)], s27)
        refine bGo hA 1 6 (44, .ifCond .eq (5), 3, 23, 25, [], []) rfl rfl rfl ?_
        refine bB_eq0 (x := r29) q30 (fun c31 => ?_) (fun c31 => ?_)
        · refine bGo hA 1 9 (49, .lconst 0, 1, 26, 0, [0], []) rfl rfl rfl ?_
          refine bGo hA 1 10 (50, .lstore 4, 2, 27, 0, [4], []) rfl rfl rfl ?_
          refine bGo hA 1 11 (52, .iconst (0), 1, 28, 0, [], [(0, 0)]) rfl rfl rfl ?_
          refine bEqI bl_0 ?_
          refine bGo hA 1 12 (53, .istore 6, 2, 29, 0, [6], []) rfl rfl rfl ?_
          exact (k28.1 c31)
        · refine bGo hA 1 7 (47, .lconst 0, 1, 24, 0, [0], []) rfl rfl rfl ?_
          refine bGo hA 1 8 (48, .lreturn, 1, 25, 0, [3], []) rfl rfl rfl ?_
          exact (k28.2 c31)

theorem sq209_29 {lvl : Nat} {C : bCall} {Q : bPost} {A : bPt → Prop} (hC : bMono C) (hA : bClosed lvl bm209 C Q A) {l1 : Int} {l2 : Int} {l3 : Int} {l4 : Int64} {l6 : Int} {σ : bSt}  (h_l1 : bRg l1) (h_l2 : bRg l2) (h_l3 : bRg l3) (h_l6 : bRg l6)
  (h : ((l6 < 48 → (C 208 [.ref 12, .int (bn l1), .int (bn l2), .int (bn l3), .int (bn l6)] σ (bRn (fun r4 s2 => ((r4 = 0 → (bRg (l6 + 1) ∧ A (29, [.ref 12, .int (bn l1), .int (bn l2), .int (bn l3), .long (l4 ||| (Int64.ofNat 0)), .float 0, .int (bn (l6 + 1))], [], s2))) ∧ (¬ r4 = 0 → (bRg (l6 + 1) ∧ A (29, [.ref 12, .int (bn l1), .int (bn l2), .int (bn l3), .long (l4 ||| ((Int64.ofNat 1) <<< (bL l6 &&& 63))), .float 0, .int (bn (l6 + 1))], [], s2)))))))) ∧ (¬ l6 < 48 → Q (.inl (some (.long l4))) σ))) : A (29, [.ref 12, .int (bn l1), .int (bn l2), .int (bn l3), .long l4, .float 0, .int (bn l6)], [], σ) := by
  refine bGo hA 1 13 (55, .iload 6, 2, 30, 0, [6], []) rfl rfl rfl ?_
  refine bGo hA 1 14 (57, .bipush (48), 2, 31, 0, [], [(48, 0)]) rfl rfl rfl ?_
  refine bEqI bl_48 ?_
  refine bGo hA 1 15 (59, .if_icmp .ge (34), 3, 32, 49, [], []) rfl rfl rfl ?_
  refine bB_lt (x := l6) (y := 48) h_l6 (by decide : bRg 48) (fun c1 => ?_) (fun c1 => ?_)
  · refine bGo hA 2 0 (62, .lload 4, 2, 33, 0, [4], []) rfl rfl rfl ?_
    refine bGo hA 2 1 (64, .aload_n 0, 1, 34, 0, [0], []) rfl rfl rfl ?_
    refine bGo hA 2 2 (65, .iload_n 1, 1, 35, 0, [1], []) rfl rfl rfl ?_
    refine bGo hA 2 3 (66, .iload_n 2, 1, 36, 0, [2], []) rfl rfl rfl ?_
    refine bGo hA 2 4 (67, .iload_n 3, 1, 37, 0, [3], []) rfl rfl rfl ?_
    refine bGo hA 2 5 (68, .iload 6, 2, 38, 0, [6], []) rfl rfl rfl ?_
    refine bGo hA 2 6 (70, .invokevirtual 346, 3, 39, 0, [0, 12, 208, 4], []) rfl rfl rfl ?_
    refine ⟨rfl, ?_⟩
    refine hC _ _ _ _ _ (bRn_e (fun r4 s2 q5 k3 => ?_)) (h.1 c1)
    show A (39, [.ref 12, .int (bn l1), .int (bn l2), .int (bn l3), .long l4, .float 0, .int (bn l6)], [.int (bn r4), .long l4], s2)
    refine bGo hA 2 7 (73, .ifCond .eq (10), 3, 40, 44, [], []) rfl rfl rfl ?_
    refine bB_eq0 (x := r4) q5 (fun c6 => ?_) (fun c6 => ?_)
    · refine bGo hA 2 12 (83, .lconst 0, 1, 45, 0, [0], []) rfl rfl rfl ?_
      refine bGo hA 2 13 (84, .lor, 1, 46, 0, [], []) rfl rfl rfl ?_
      refine bGo hA 2 14 (85, .lstore 4, 2, 47, 0, [4], []) rfl rfl rfl ?_
      refine bGo hA 2 15 (87, .iinc 6 (1), 3, 48, 0, [6], [(1, 0)]) rfl rfl rfl ?_
      refine bEqC (fun v => A (48, [.ref 12, .int (bn l1), .int (bn l2), .int (bn l3), .long (l4 ||| (Int64.ofNat 0)), .float 0, .int v], [], s2)) ((congrArg (fun w => bn l6 + w) bl_1).trans (bn_add l6 1)) ?_
      refine bGo hA 3 0 (90, .goto (-35), 3, 49, 29, [], []) rfl rfl rfl ?_
      exact (k3.1 c6).2
    · refine bGo hA 2 8 (76, .lconst 1, 1, 41, 0, [1], []) rfl rfl rfl ?_
      refine bGo hA 2 9 (77, .iload 6, 2, 42, 0, [6], []) rfl rfl rfl ?_
      refine bGo hA 2 10 (79, .lshl, 1, 43, 0, [], []) rfl rfl rfl ?_
      refine bGo hA 2 11 (80, .goto (4), 3, 44, 45, [], []) rfl rfl rfl ?_
      refine bGo hA 2 13 (84, .lor, 1, 46, 0, [], []) rfl rfl rfl ?_
      refine bGo hA 2 14 (85, .lstore 4, 2, 47, 0, [4], []) rfl rfl rfl ?_
      refine bGo hA 2 15 (87, .iinc 6 (1), 3, 48, 0, [6], [(1, 0)]) rfl rfl rfl ?_
      refine bEqC (fun v => A (48, [.ref 12, .int (bn l1), .int (bn l2), .int (bn l3), .long (l4 ||| ((Int64.ofNat 1) <<< (bL l6 &&& 63))), .float 0, .int v], [], s2)) ((congrArg (fun w => bn l6 + w) bl_1).trans (bn_add l6 1)) ?_
      refine bGo hA 3 0 (90, .goto (-35), 3, 49, 29, [], []) rfl rfl rfl ?_
      exact (k3.2 c6).2
  · refine bGo hA 3 1 (93, .lload 4, 2, 50, 0, [4], []) rfl rfl rfl ?_
    refine bGo hA 3 2 (95, .lreturn, 1, 0, 0, [3], []) rfl rfl rfl ?_
    exact (h.2 c1)

theorem sq358_0 {lvl : Nat} {C : bCall} {Q : bPost} {A : bPt → Prop} (hC : bMono C) (hA : bClosed lvl bm358 C Q A) {x0 : Int64} {σ : bSt}  
  (h : A (8, [.long (x0 - ((Int64.toUInt64 x0 >>> (Int64.toUInt64 (bL 1) &&& Int64.toUInt64 63)).toInt64 &&& (Int64.ofNat 6148914691236517205))), .float 0], [], σ)) : A (0, [.long x0, .float 0], [], σ) := by
  refine bGo hA 0 0 (0, .lload_n 0, 1, 1, 0, [0], []) rfl rfl rfl ?_
  refine bGo hA 0 1 (1, .lload_n 0, 1, 2, 0, [0], []) rfl rfl rfl ?_
  refine bGo hA 0 2 (2, .iconst (1), 1, 3, 0, [], [(1, 0)]) rfl rfl rfl ?_
  refine bEqI bl_1 ?_
  refine bGo hA 0 3 (3, .lushr, 1, 4, 0, [], []) rfl rfl rfl ?_
  refine bGo hA 0 4 (4, .ldc2_w 314, 3, 5, 0, [6148914691236517205], []) rfl rfl rfl ?_
  refine bGo hA 0 5 (7, .land, 1, 6, 0, [], []) rfl rfl rfl ?_
  refine bGo hA 0 6 (8, .lsub, 1, 7, 0, [], []) rfl rfl rfl ?_
  refine bGo hA 0 7 (9, .lstore_n 0, 1, 8, 0, [0], []) rfl rfl rfl ?_
  exact h

theorem sq358_8 {lvl : Nat} {C : bCall} {Q : bPost} {A : bPt → Prop} (hC : bMono C) (hA : bClosed lvl bm358 C Q A) {l0 : Int64} {σ : bSt}  
  (h : A (18, [.long ((l0 &&& (Int64.ofNat 3689348814741910323)) + ((Int64.toUInt64 l0 >>> (Int64.toUInt64 (bL 2) &&& Int64.toUInt64 63)).toInt64 &&& (Int64.ofNat 3689348814741910323))), .float 0], [], σ)) : A (8, [.long l0, .float 0], [], σ) := by
  refine bGo hA 0 8 (10, .lload_n 0, 1, 9, 0, [0], []) rfl rfl rfl ?_
  refine bGo hA 0 9 (11, .ldc2_w 316, 3, 10, 0, [3689348814741910323], []) rfl rfl rfl ?_
  refine bGo hA 0 10 (14, .land, 1, 11, 0, [], []) rfl rfl rfl ?_
  refine bGo hA 0 11 (15, .lload_n 0, 1, 12, 0, [0], []) rfl rfl rfl ?_
  refine bGo hA 0 12 (16, .iconst (2), 1, 13, 0, [], [(2, 0)]) rfl rfl rfl ?_
  refine bEqI bl_2 ?_
  refine bGo hA 0 13 (17, .lushr, 1, 14, 0, [], []) rfl rfl rfl ?_
  refine bGo hA 0 14 (18, .ldc2_w 316, 3, 15, 0, [3689348814741910323], []) rfl rfl rfl ?_
  refine bGo hA 0 15 (21, .land, 1, 16, 0, [], []) rfl rfl rfl ?_
  refine bGo hA 1 0 (22, .ladd, 1, 17, 0, [], []) rfl rfl rfl ?_
  refine bGo hA 1 1 (23, .lstore_n 0, 1, 18, 0, [0], []) rfl rfl rfl ?_
  exact h

theorem sq358_18 {lvl : Nat} {C : bCall} {Q : bPost} {A : bPt → Prop} (hC : bMono C) (hA : bClosed lvl bm358 C Q A) {l0 : Int64} {σ : bSt}  
  (h : A (26, [.long ((l0 + (Int64.toUInt64 l0 >>> (Int64.toUInt64 (bL 4) &&& Int64.toUInt64 63)).toInt64) &&& (Int64.ofNat 1085102592571150095)), .float 0], [], σ)) : A (18, [.long l0, .float 0], [], σ) := by
  refine bGo hA 1 2 (24, .lload_n 0, 1, 19, 0, [0], []) rfl rfl rfl ?_
  refine bGo hA 1 3 (25, .lload_n 0, 1, 20, 0, [0], []) rfl rfl rfl ?_
  refine bGo hA 1 4 (26, .iconst (4), 1, 21, 0, [], [(4, 0)]) rfl rfl rfl ?_
  refine bEqI bl_4 ?_
  refine bGo hA 1 5 (27, .lushr, 1, 22, 0, [], []) rfl rfl rfl ?_
  refine bGo hA 1 6 (28, .ladd, 1, 23, 0, [], []) rfl rfl rfl ?_
  refine bGo hA 1 7 (29, .ldc2_w 318, 3, 24, 0, [1085102592571150095], []) rfl rfl rfl ?_
  refine bGo hA 1 8 (32, .land, 1, 25, 0, [], []) rfl rfl rfl ?_
  refine bGo hA 1 9 (33, .lstore_n 0, 1, 26, 0, [0], []) rfl rfl rfl ?_
  exact h

theorem sq358_26 {lvl : Nat} {C : bCall} {Q : bPost} {A : bPt → Prop} (hC : bMono C) (hA : bClosed lvl bm358 C Q A) {l0 : Int64} {σ : bSt}  
  (h : A (32, [.long (l0 + (Int64.toUInt64 l0 >>> (Int64.toUInt64 (bL 8) &&& Int64.toUInt64 63)).toInt64), .float 0], [], σ)) : A (26, [.long l0, .float 0], [], σ) := by
  refine bGo hA 1 10 (34, .lload_n 0, 1, 27, 0, [0], []) rfl rfl rfl ?_
  refine bGo hA 1 11 (35, .lload_n 0, 1, 28, 0, [0], []) rfl rfl rfl ?_
  refine bGo hA 1 12 (36, .bipush (8), 2, 29, 0, [], [(8, 0)]) rfl rfl rfl ?_
  refine bEqI bl_8 ?_
  refine bGo hA 1 13 (38, .lushr, 1, 30, 0, [], []) rfl rfl rfl ?_
  refine bGo hA 1 14 (39, .ladd, 1, 31, 0, [], []) rfl rfl rfl ?_
  refine bGo hA 1 15 (40, .lstore_n 0, 1, 32, 0, [0], []) rfl rfl rfl ?_
  exact h

theorem sq358_32 {lvl : Nat} {C : bCall} {Q : bPost} {A : bPt → Prop} (hC : bMono C) (hA : bClosed lvl bm358 C Q A) {l0 : Int64} {σ : bSt}  
  (h : A (38, [.long (l0 + (Int64.toUInt64 l0 >>> (Int64.toUInt64 (bL 16) &&& Int64.toUInt64 63)).toInt64), .float 0], [], σ)) : A (32, [.long l0, .float 0], [], σ) := by
  refine bGo hA 2 0 (41, .lload_n 0, 1, 33, 0, [0], []) rfl rfl rfl ?_
  refine bGo hA 2 1 (42, .lload_n 0, 1, 34, 0, [0], []) rfl rfl rfl ?_
  refine bGo hA 2 2 (43, .bipush (16), 2, 35, 0, [], [(16, 0)]) rfl rfl rfl ?_
  refine bEqI bl_16 ?_
  refine bGo hA 2 3 (45, .lushr, 1, 36, 0, [], []) rfl rfl rfl ?_
  refine bGo hA 2 4 (46, .ladd, 1, 37, 0, [], []) rfl rfl rfl ?_
  refine bGo hA 2 5 (47, .lstore_n 0, 1, 38, 0, [0], []) rfl rfl rfl ?_
  exact h

theorem sq358_38 {lvl : Nat} {C : bCall} {Q : bPost} {A : bPt → Prop} (hC : bMono C) (hA : bClosed lvl bm358 C Q A) {l0 : Int64} {σ : bSt}  
  (h : A (44, [.long (l0 + (Int64.toUInt64 l0 >>> (Int64.toUInt64 (bL 32) &&& Int64.toUInt64 63)).toInt64), .float 0], [], σ)) : A (38, [.long l0, .float 0], [], σ) := by
  refine bGo hA 2 6 (48, .lload_n 0, 1, 39, 0, [0], []) rfl rfl rfl ?_
  refine bGo hA 2 7 (49, .lload_n 0, 1, 40, 0, [0], []) rfl rfl rfl ?_
  refine bGo hA 2 8 (50, .bipush (32), 2, 41, 0, [], [(32, 0)]) rfl rfl rfl ?_
  refine bEqI bl_32 ?_
  refine bGo hA 2 9 (52, .lushr, 1, 42, 0, [], []) rfl rfl rfl ?_
  refine bGo hA 2 10 (53, .ladd, 1, 43, 0, [], []) rfl rfl rfl ?_
  refine bGo hA 2 11 (54, .lstore_n 0, 1, 44, 0, [0], []) rfl rfl rfl ?_
  exact h

theorem sq358_44 {lvl : Nat} {C : bCall} {Q : bPost} {A : bPt → Prop} (hC : bMono C) (hA : bClosed lvl bm358 C Q A) {l0 : Int64} {σ : bSt}  
  (h : Q (.inl (some (.int (bn (bAnd (bLi l0) 127))))) σ) : A (44, [.long l0, .float 0], [], σ) := by
  refine bGo hA 2 12 (55, .lload_n 0, 1, 45, 0, [0], []) rfl rfl rfl ?_
  refine bGo hA 2 13 (56, .l2i, 1, 46, 0, [], []) rfl rfl rfl ?_
  refine bEqI (bn_li l0) ?_
  refine bGo hA 2 14 (57, .bipush (127), 2, 47, 0, [], [(127, 0)]) rfl rfl rfl ?_
  refine bEqI bl_127 ?_
  refine bGo hA 2 15 (59, .iand, 1, 48, 0, [], []) rfl rfl rfl ?_
  refine bEqI (bn_and (bLi l0) 127) ?_
  refine bGo hA 3 0 (60, .ireturn, 1, 0, 0, [1], []) rfl rfl rfl ?_
  exact h

theorem sq359_0 {lvl : Nat} {C : bCall} {Q : bPost} {A : bPt → Prop} (hC : bMono C) (hA : bClosed lvl bm359 C Q A) {x0 : Int} {x1 : Int} {σ : bSt}  (h_x0 : bRg x0) (h_x1 : bRg x1)
  (h : ((x0 < x1 → Q (.inl (some (.int (bn x1)))) σ) ∧ (¬ x0 < x1 → Q (.inl (some (.int (bn x0)))) σ))) : A (0, [.int (bn x0), .int (bn x1)], [], σ) := by
  refine bGo hA 0 0 (0, .iload_n 0, 1, 1, 0, [0], []) rfl rfl rfl ?_
  refine bGo hA 0 1 (1, .iload_n 1, 1, 2, 0, [1], []) rfl rfl rfl ?_
  refine bGo hA 0 2 (2, .if_icmp .lt (7), 3, 3, 5, [], []) rfl rfl rfl ?_
  refine bB_lt (x := x0) (y := x1) h_x0 h_x1 (fun c1 => ?_) (fun c1 => ?_)
  · refine bGo hA 0 5 (9, .iload_n 1, 1, 6, 0, [1], []) rfl rfl rfl ?_
    refine bGo hA 0 6 (10, .ireturn, 1, 0, 0, [1], []) rfl rfl rfl ?_
    exact (h.1 c1)
  · refine bGo hA 0 3 (5, .iload_n 0, 1, 4, 0, [0], []) rfl rfl rfl ?_
    refine bGo hA 0 4 (6, .goto (4), 3, 5, 6, [], []) rfl rfl rfl ?_
    refine bGo hA 0 6 (10, .ireturn, 1, 0, 0, [1], []) rfl rfl rfl ?_
    exact (h.2 c1)

theorem sq360_0 {lvl : Nat} {C : bCall} {Q : bPost} {A : bPt → Prop} (hC : bMono C) (hA : bClosed lvl bm360 C Q A) {x0 : Int} {x1 : Int} {σ : bSt}  (h_x0 : bRg x0) (h_x1 : bRg x1)
  (h : ((x1 < x0 → Q (.inl (some (.int (bn x1)))) σ) ∧ (¬ x1 < x0 → Q (.inl (some (.int (bn x0)))) σ))) : A (0, [.int (bn x0), .int (bn x1)], [], σ) := by
  refine bGo hA 0 0 (0, .iload_n 0, 1, 1, 0, [0], []) rfl rfl rfl ?_
  refine bGo hA 0 1 (1, .iload_n 1, 1, 2, 0, [1], []) rfl rfl rfl ?_
  refine bGo hA 0 2 (2, .if_icmp .gt (7), 3, 3, 5, [], []) rfl rfl rfl ?_
  refine bB_lt (x := x1) (y := x0) h_x1 h_x0 (fun c1 => ?_) (fun c1 => ?_)
  · refine bGo hA 0 5 (9, .iload_n 1, 1, 6, 0, [1], []) rfl rfl rfl ?_
    refine bGo hA 0 6 (10, .ireturn, 1, 0, 0, [1], []) rfl rfl rfl ?_
    exact (h.1 c1)
  · refine bGo hA 0 3 (5, .iload_n 0, 1, 4, 0, [0], []) rfl rfl rfl ?_
    refine bGo hA 0 4 (6, .goto (4), 3, 5, 6, [], []) rfl rfl rfl ?_
    refine bGo hA 0 6 (10, .ireturn, 1, 0, 0, [1], []) rfl rfl rfl ?_
    exact (h.2 c1)

theorem sq361_0 {lvl : Nat} {C : bCall} {Q : bPost} {A : bPt → Prop} (hC : bMono C) (hA : bClosed lvl bm361 C Q A) {a0 : Nat} {x1 : Int} {σ : bSt}  (h_x1 : bRg x1)
  (h : (¬ bTy a0 = 9 ∧ (bRg (bLen σ a0 : Int) ∧ A (5, [.ref a0, .int (bn x1), .int (bn 0), .int (bn (bLen σ a0 : Int))], [], σ)))) : A (0, [.ref a0, .int (bn x1), .float 0, .float 0], [], σ) := by
  refine bGo hA 0 0 (0, .iconst (0), 1, 1, 0, [], [(0, 0)]) rfl rfl rfl ?_
  refine bEqI bl_0 ?_
  refine bGo hA 0 1 (1, .istore_n 2, 1, 2, 0, [2], []) rfl rfl rfl ?_
  refine bGo hA 0 2 (2, .aload_n 0, 1, 3, 0, [0], []) rfl rfl rfl ?_
  refine bGo hA 0 3 (3, .arraylength, 1, 4, 0, [], []) rfl rfl rfl ?_
  refine ⟨h.1, ?_⟩
  refine bEqI (bn_nat _).symm ?_
  refine bGo hA 0 4 (4, .istore_n 3, 1, 5, 0, [3], []) rfl rfl rfl ?_
  exact h.2.2

theorem sq361_5 {lvl : Nat} {C : bCall} {Q : bPost} {A : bPt → Prop} (hC : bMono C) (hA : bClosed lvl bm361 C Q A) {l0 : Nat} {l1 : Int} {l2 : Int} {l3 : Int} {σ : bSt}  (h_l1 : bRg l1) (h_l2 : bRg l2) (h_l3 : bRg l3)
  (h : ((l2 < l3 → (bTy l0 = 0 ∧ ((0 ≤ l2 ∧ l2 < (bLen σ l0 : Int)) ∧ (l0 % 256 < 200 ∧ (bRg (l2 + 1) ∧ A (5, [.ref l0, .int (bn l1), .int (bn (l2 + 1)), .int (bn l3)], [], (bw σ l0 l2 l1))))))) ∧ (¬ l2 < l3 → Q (.inl none) σ))) : A (5, [.ref l0, .int (bn l1), .int (bn l2), .int (bn l3)], [], σ) := by
  refine bGo hA 0 5 (5, .iload_n 2, 1, 6, 0, [2], []) rfl rfl rfl ?_
  refine bGo hA 0 6 (6, .iload_n 3, 1, 7, 0, [3], []) rfl rfl rfl ?_
  refine bGo hA 0 7 (7, .if_icmp .ge (13), 3, 8, 14, [], []) rfl rfl rfl ?_
  refine bB_lt (x := l2) (y := l3) h_l2 h_l3 (fun c1 => ?_) (fun c1 => ?_)
  · refine bGo hA 0 8 (10, .aload_n 0, 1, 9, 0, [0], []) rfl rfl rfl ?_
    refine bGo hA 0 9 (11, .iload_n 2, 1, 10, 0, [2], []) rfl rfl rfl ?_
    refine bGo hA 0 10 (12, .iload_n 1, 1, 11, 0, [1], []) rfl rfl rfl ?_
    refine bGo hA 0 11 (13, .iastore, 1, 12, 0, [], []) rfl rfl rfl ?_
    refine ⟨(h.1 c1).1, (bIxP (x := l2) (n := bLen σ l0) h_l2 (h.1 c1).2.1), (h.1 c1).2.2.1, ?_⟩
    refine bEqS (x := l2) h_l2 ?_
    refine bGo hA 0 12 (14, .iinc 2 (1), 3, 13, 0, [2], [(1, 0)]) rfl rfl rfl ?_
    refine bEqC (fun v => A (13, [.ref l0, .int (bn l1), .int v, .int (bn l3)], [], (bw σ l0 l2 l1))) ((congrArg (fun w => bn l2 + w) bl_1).trans (bn_add l2 1)) ?_
    refine bGo hA 0 13 (17, .goto (-12), 3, 14, 5, [], []) rfl rfl rfl ?_
    exact (h.1 c1).2.2.2.2
  · refine bGo hA 0 14 (20, .return_, 1, 0, 0, [0], []) rfl rfl rfl ?_
    exact (h.2 c1)

theorem sq30_0 {lvl : Nat} {C : bCall} {Q : bPost} {A : bPt → Prop} (hC : bMono C) (hA : bClosed lvl bm30 C Q A)  {σ : bSt}  
  (h : (σ.2.2.2.1 19 = 0 ∧ ((bwr (bNew σ 19 2 48) 3 0 (some 19)).2.2.2.1 20 = 0 ∧ ((bwr (bNew (bwr (bNew σ 19 2 48) 3 0 (some 19)) 20 2 6) 3 1 (some 20)).2.2.2.1 21 = 0 ∧ ((br (bw (bwr (bNew (bwr (bNew (bwr (bNew σ 19 2 48) 3 0 (some 19)) 20 2 6) 3 1 (some 20)) 21 2 6) 3 2 (some 21)) 3 3 1) 3 0).isSome = true ∧ (C 361 [.ref 19, .int (bn (-1))] (bw (bwr (bNew (bwr (bNew (bwr (bNew σ 19 2 48) 3 0 (some 19)) 20 2 6) 3 1 (some 20)) 21 2 6) 3 2 (some 21)) 3 3 1) (bRv (fun s1 => (bAll s1 3 [0, 1, 2] ∧ Q (.inl none) (bA s1 3 2)))))))))) : A (0, [.retAddr 3], [], σ) := by
  refine bGo hA 0 0 (0, .aload_n 0, 1, 1, 0, [0], []) rfl rfl rfl ?_
  refine bGo hA 0 1 (1, .invokespecial 3, 3, 2, 0, [6, 0, 0], []) rfl rfl rfl ?_
  refine ⟨rfl, ?_⟩
  refine bGo hA 0 2 (4, .aload_n 0, 1, 3, 0, [0], []) rfl rfl rfl ?_
  refine bGo hA 0 3 (5, .bipush (48), 2, 4, 0, [], [(48, 0)]) rfl rfl rfl ?_
  refine bEqI bl_48 ?_
  refine bGo hA 0 4 (7, .newarray .int, 2, 5, 0, [19], []) rfl rfl rfl ?_
  refine ⟨h.1, (bn_nat 48), by decide, (by decide : 48 ≤ 10000), ?_⟩
  refine bGo hA 0 5 (9, .putfield 9, 3, 6, 0, [3, 0, 3, 19, 1, 0], []) rfl rfl rfl ?_
  refine ⟨rfl, rfl, ?_⟩
  refine bGo hA 0 6 (12, .aload_n 0, 1, 7, 0, [0], []) rfl rfl rfl ?_
  refine bGo hA 0 7 (13, .bipush (6), 2, 8, 0, [], [(6, 0)]) rfl rfl rfl ?_
  refine bEqI bl_6 ?_
  refine bGo hA 0 8 (15, .newarray .boolean, 2, 9, 0, [20], []) rfl rfl rfl ?_
  refine ⟨h.2.1, (bn_nat 6), by decide, (by decide : 6 ≤ 10000), ?_⟩
  refine bGo hA 0 9 (17, .putfield 15, 3, 10, 0, [3, 1, 3, 20, 1, 0], []) rfl rfl rfl ?_
  refine ⟨rfl, rfl, ?_⟩
  refine bGo hA 0 10 (20, .aload_n 0, 1, 11, 0, [0], []) rfl rfl rfl ?_
  refine bGo hA 0 11 (21, .bipush (6), 2, 12, 0, [], [(6, 0)]) rfl rfl rfl ?_
  refine bEqI bl_6 ?_
  refine bGo hA 0 12 (23, .newarray .int, 2, 13, 0, [21], []) rfl rfl rfl ?_
  refine ⟨h.2.2.1, (bn_nat 6), by decide, (by decide : 6 ≤ 10000), ?_⟩
  refine bGo hA 0 13 (25, .putfield 19, 3, 14, 0, [3, 2, 3, 21, 1, 0], []) rfl rfl rfl ?_
  refine ⟨rfl, rfl, ?_⟩
  refine bGo hA 0 14 (28, .aload_n 0, 1, 15, 0, [0], []) rfl rfl rfl ?_
  refine bGo hA 0 15 (29, .iconst (1), 1, 16, 0, [], [(1, 0)]) rfl rfl rfl ?_
  refine bEqI bl_1 ?_
  refine bGo hA 1 0 (30, .putfield 22, 3, 17, 0, [3, 3, 1, 0, 0, 0], []) rfl rfl rfl ?_
  refine ⟨rfl, b01 (Or.inr rfl), ?_⟩
  refine bGo hA 1 1 (33, .aload_n 0, 1, 18, 0, [0], []) rfl rfl rfl ?_
  refine bGo hA 1 2 (34, .getfield 9, 3, 19, 0, [3, 0, 3, 19, 1, 0], []) rfl rfl rfl ?_
  refine ⟨rfl, h.2.2.2.1, ?_⟩
  refine bGo hA 1 3 (37, .iconst (-1), 1, 20, 0, [], [(-1, 0)]) rfl rfl rfl ?_
  refine bEqI bl_m1 ?_
  refine bGo hA 1 4 (38, .invokestatic 26, 3, 21, 0, [2, 361, 2], []) rfl rfl rfl ?_
  refine hC _ _ _ _ _ (bRv_e (fun s1 k2 => ?_)) h.2.2.2.2
  show A (21, [.retAddr 3], [], s1)
  refine bGo hA 1 5 (41, .return_, 1, 0, 0, [5, 3, 0, 1, 2], []) rfl rfl rfl ?_
  exact ⟨rfl, k2⟩

theorem sq31_0 {lvl : Nat} {C : bCall} {Q : bPost} {A : bPt → Prop} (hC : bMono C) (hA : bClosed lvl bm31 C Q A) {x1 : Int} {σ : bSt}  (h_x1 : bRg x1)
  (h : ((x1 < 0 → Q (.inl (some (.int (bn (-1))))) σ) ∧ (¬ x1 < 0 → ((x1 < 48 → ((0 ≤ x1 ∧ x1 < 48) ∧ Q (.inl (some (.int (bn (bi σ 19 x1))))) σ)) ∧ (¬ x1 < 48 → Q (.inl (some (.int (bn (-1))))) σ))))) : A (0, [.ref 3, .int (bn x1)], [], σ) := by
  refine bGo hA 0 0 (0, .iload_n 1, 1, 1, 0, [1], []) rfl rfl rfl ?_
  refine bGo hA 0 1 (1, .ifCond .lt (21), 3, 2, 12, [], []) rfl rfl rfl ?_
  refine bB_lt0 (x := x1) h_x1 (fun c1 => ?_) (fun c1 => ?_)
  · refine bGo hA 0 12 (22, .iconst (-1), 1, 13, 0, [], [(-1, 0)]) rfl rfl rfl ?_
    refine bEqI bl_m1 ?_
    refine bGo hA 0 13 (23, .ireturn, 1, 0, 0, [1], []) rfl rfl rfl ?_
    exact (h.1 c1)
  · refine bGo hA 0 2 (4, .iload_n 1, 1, 3, 0, [1], []) rfl rfl rfl ?_
    refine bGo hA 0 3 (5, .aload_n 0, 1, 4, 0, [0], []) rfl rfl rfl ?_
    refine bGo hA 0 4 (6, .getfield 9, 3, 5, 0, [3, 0, 3, 19, 1, 0], []) rfl rfl rfl ?_
    refine ⟨rfl, ?_⟩
    refine bGo hA 0 5 (9, .arraylength, 1, 6, 0, [], []) rfl rfl rfl ?_
    refine ⟨by decide, ?_⟩
    refine bEqI (bn_nat 48).symm ?_
    refine bGo hA 0 6 (10, .if_icmp .ge (12), 3, 7, 12, [], []) rfl rfl rfl ?_
    refine bB_lt (x := x1) (y := 48) h_x1 (by decide : bRg 48) (fun c2 => ?_) (fun c2 => ?_)
    · refine bGo hA 0 7 (13, .aload_n 0, 1, 8, 0, [0], []) rfl rfl rfl ?_
      refine bGo hA 0 8 (14, .getfield 9, 3, 9, 0, [3, 0, 3, 19, 1, 0], []) rfl rfl rfl ?_
      refine ⟨rfl, ?_⟩
      refine bGo hA 0 9 (17, .iload_n 1, 1, 10, 0, [1], []) rfl rfl rfl ?_
      refine bGo hA 0 10 (18, .iaload, 1, 11, 0, [], []) rfl rfl rfl ?_
      refine ⟨rfl, (bIxP (x := x1) (n := 48) h_x1 ((h.2 c1).1 c2).1), ?_⟩
      refine bEqL (x := x1) h_x1 ?_
      refine bGo hA 0 11 (19, .goto (4), 3, 12, 13, [], []) rfl rfl rfl ?_
      refine bGo hA 0 13 (23, .ireturn, 1, 0, 0, [1], []) rfl rfl rfl ?_
      exact ((h.2 c1).1 c2).2
    · refine bGo hA 0 12 (22, .iconst (-1), 1, 13, 0, [], [(-1, 0)]) rfl rfl rfl ?_
      refine bEqI bl_m1 ?_
      refine bGo hA 0 13 (23, .ireturn, 1, 0, 0, [1], []) rfl rfl rfl ?_
      exact ((h.2 c1).2 c2)

theorem sq32_0 {lvl : Nat} {C : bCall} {Q : bPost} {A : bPt → Prop} (hC : bMono C) (hA : bClosed lvl bm32 C Q A) {x1 : Int} {x2 : Int} {σ : bSt}  (h_x1 : bRg x1) (h_x2 : bRg x2)
  (h : (C 31 [.ref 3, .int (bn x1)] σ (bRn (fun r3 s1 => (C 141 [.ref 19, .int (bn x1), .int (bn x2)] s1 (bRv (fun s5 => Q (.inl (some (.int (bn r3)))) s5))))))) : A (0, [.ref 3, .int (bn x1), .int (bn x2), .float 0], [], σ) := by
  refine bGo hA 0 0 (0, .aload_n 0, 1, 1, 0, [0], []) rfl rfl rfl ?_
  refine bGo hA 0 1 (1, .iload_n 1, 1, 2, 0, [1], []) rfl rfl rfl ?_
  refine bGo hA 0 2 (2, .invokevirtual 32, 3, 3, 0, [0, 3, 31, 1], []) rfl rfl rfl ?_
  refine ⟨rfl, ?_⟩
  refine hC _ _ _ _ _ (bRn_e (fun r3 s1 q4 k2 => ?_)) h
  show A (3, [.ref 3, .int (bn x1), .int (bn x2), .float 0], [.int (bn r3)], s1)
  refine bGo hA 0 3 (5, .istore_n 3, 1, 4, 0, [3], []) rfl rfl rfl ?_
  refine bGo hA 0 4 (6, .aload_n 0, 1, 5, 0, [0], []) rfl rfl rfl ?_
  refine bGo hA 0 5 (7, .getfield 9, 3, 6, 0, [3, 0, 3, 19, 1, 0], []) rfl rfl rfl ?_
  refine ⟨rfl, ?_⟩
  refine bGo hA 0 6 (10, .iload_n 1, 1, 7, 0, [1], []) rfl rfl rfl ?_
  refine bGo hA 0 7 (11, .iload_n 2, 1, 8, 0, [2], []) rfl rfl rfl ?_
  refine bGo hA 0 8 (12, .invokestatic 36, 3, 9, 1, [2, 141, 3], []) rfl rfl rfl ?_
  refine hC _ _ _ _ _ (bRv_e (fun s5 k6 => ?_)) k2
  show A (9, [.ref 3, .int (bn x1), .int (bn x2), .int (bn r3)], [], s5)
  refine bGo hA 0 9 (15, .iload_n 3, 1, 10, 0, [3], []) rfl rfl rfl ?_
  refine bGo hA 0 10 (16, .ireturn, 1, 0, 0, [1], []) rfl rfl rfl ?_
  exact k6

theorem sq33_0 {lvl : Nat} {C : bCall} {Q : bPost} {A : bPt → Prop} (hC : bMono C) (hA : bClosed lvl bm33 C Q A) {x1 : Int} {σ : bSt}  (h_x1 : bRg x1)
  (h : ((x1 = 0 → Q (.inl (some (.int (bn 1)))) σ) ∧ (¬ x1 = 0 → (((0 : Int) < x1 → ((x1 < 6 → ((0 ≤ x1 ∧ x1 < 6) ∧ (((bi σ 20 x1) = 0 → Q (.inl (some (.int (bn 0)))) σ) ∧ (¬ (bi σ 20 x1) = 0 → Q (.inl (some (.int (bn 1)))) σ)))) ∧ (¬ x1 < 6 → Q (.inl (some (.int (bn 0)))) σ))) ∧ (¬ (0 : Int) < x1 → Q (.inl (some (.int (bn 0)))) σ))))) : A (0, [.ref 3, .int (bn x1)], [], σ) := by
  refine bGo hA 0 0 (0, .iload_n 1, 1, 1, 0, [1], []) rfl rfl rfl ?_
  refine bGo hA 0 1 (1, .ifCond .eq (25), 3, 2, 14, [], []) rfl rfl rfl ?_
  refine bB_eq0 (x := x1) h_x1 (fun c1 => ?_) (fun c1 => ?_)
  · refine bGo hA 0 14 (26, .iconst (1), 1, 15, 0, [], [(1, 0)]) rfl rfl rfl ?_
    refine bEqI bl_1 ?_
    refine bGo hA 0 15 (27, .goto (4), 3, 16, 17, [], []) rfl rfl rfl ?_
    refine bGo hA 1 1 (31, .ireturn, 1, 0, 0, [2], []) rfl rfl rfl ?_
    exact ⟨b01 (Or.inr rfl), (h.1 c1)⟩
  · refine bGo hA 0 2 (4, .iload_n 1, 1, 3, 0, [1], []) rfl rfl rfl ?_
    refine bGo hA 0 3 (5, .ifCond .le (25), 3, 4, 16, [], []) rfl rfl rfl ?_
    refine bB_gt0 (x := x1) h_x1 (fun c2 => ?_) (fun c2 => ?_)
    · refine bGo hA 0 4 (8, .iload_n 1, 1, 5, 0, [1], []) rfl rfl rfl ?_
      refine bGo hA 0 5 (9, .aload_n 0, 1, 6, 0, [0], []) rfl rfl rfl ?_
      refine bGo hA 0 6 (10, .getfield 15, 3, 7, 0, [3, 1, 3, 20, 1, 0], []) rfl rfl rfl ?_
      refine ⟨rfl, ?_⟩
      refine bGo hA 0 7 (13, .arraylength, 1, 8, 0, [], []) rfl rfl rfl ?_
      refine ⟨by decide, ?_⟩
      refine bEqI (bn_nat 6).symm ?_
      refine bGo hA 0 8 (14, .if_icmp .ge (16), 3, 9, 16, [], []) rfl rfl rfl ?_
      refine bB_lt (x := x1) (y := 6) h_x1 (by decide : bRg 6) (fun c3 => ?_) (fun c3 => ?_)
      · refine bGo hA 0 9 (17, .aload_n 0, 1, 10, 0, [0], []) rfl rfl rfl ?_
        refine bGo hA 0 10 (18, .getfield 15, 3, 11, 0, [3, 1, 3, 20, 1, 0], []) rfl rfl rfl ?_
        refine ⟨rfl, ?_⟩
        refine bGo hA 0 11 (21, .iload_n 1, 1, 12, 0, [1], []) rfl rfl rfl ?_
        refine bGo hA 0 12 (22, .baload, 1, 13, 0, [], []) rfl rfl rfl ?_
        refine ⟨rfl, (bIxP (x := x1) (n := 6) h_x1 (((h.2 c1).1 c2).1 c3).1), ?_⟩
        refine bEqL (x := x1) h_x1 ?_
        refine bGo hA 0 13 (23, .ifCond .eq (7), 3, 14, 16, [], []) rfl rfl rfl ?_
        refine bB_eq0 (x := (bi σ 20 x1)) (bi_rg _ _ _) (fun c4 => ?_) (fun c4 => ?_)
        · refine bGo hA 1 0 (30, .iconst (0), 1, 17, 0, [], [(0, 0)]) rfl rfl rfl ?_
          refine bEqI bl_0 ?_
          refine bGo hA 1 1 (31, .ireturn, 1, 0, 0, [2], []) rfl rfl rfl ?_
          exact ⟨b01 (Or.inl rfl), ((((h.2 c1).1 c2).1 c3).2.1 c4)⟩
        · refine bGo hA 0 14 (26, .iconst (1), 1, 15, 0, [], [(1, 0)]) rfl rfl rfl ?_
          refine bEqI bl_1 ?_
          refine bGo hA 0 15 (27, .goto (4), 3, 16, 17, [], []) rfl rfl rfl ?_
          refine bGo hA 1 1 (31, .ireturn, 1, 0, 0, [2], []) rfl rfl rfl ?_
          exact ⟨b01 (Or.inr rfl), ((((h.2 c1).1 c2).1 c3).2.2 c4)⟩
      · refine bGo hA 1 0 (30, .iconst (0), 1, 17, 0, [], [(0, 0)]) rfl rfl rfl ?_
        refine bEqI bl_0 ?_
        refine bGo hA 1 1 (31, .ireturn, 1, 0, 0, [2], []) rfl rfl rfl ?_
        exact ⟨b01 (Or.inl rfl), (((h.2 c1).1 c2).2 c3)⟩
    · refine bGo hA 1 0 (30, .iconst (0), 1, 17, 0, [], [(0, 0)]) rfl rfl rfl ?_
      refine bEqI bl_0 ?_
      refine bGo hA 1 1 (31, .ireturn, 1, 0, 0, [2], []) rfl rfl rfl ?_
      exact ⟨b01 (Or.inl rfl), ((h.2 c1).2 c2)⟩

theorem sq34_0 {lvl : Nat} {C : bCall} {Q : bPost} {A : bPt → Prop} (hC : bMono C) (hA : bClosed lvl bm34 C Q A) {x1 : Int} {x2 : Int} {σ : bSt}  (h_x1 : bRg x1) (h_x2 : bRg x2)
  (h : (C 33 [.ref 3, .int (bn x1)] σ (bRn (fun r3 s1 => (((0 : Int) < x1 → ((x1 < 6 → ((0 ≤ x1 ∧ x1 < 6) ∧ ((x2 = 0 ∨ x2 = 1) ∧ A (18, [.ref 3, .int (bn x1), .int (bn x2), .int (bn r3), .int (bn 1)], [], (bw s1 20 x1 x2))))) ∧ (¬ x1 < 6 → A (18, [.ref 3, .int (bn x1), .int (bn x2), .int (bn r3), .int (bn 1)], [], s1)))) ∧ (¬ (0 : Int) < x1 → A (18, [.ref 3, .int (bn x1), .int (bn x2), .int (bn r3), .int (bn 1)], [], s1))))))) : A (0, [.ref 3, .int (bn x1), .int (bn x2), .float 0, .float 0], [], σ) := by
  refine bGo hA 0 0 (0, .aload_n 0, 1, 1, 0, [0], []) rfl rfl rfl ?_
  refine bGo hA 0 1 (1, .iload_n 1, 1, 2, 0, [1], []) rfl rfl rfl ?_
  refine bGo hA 0 2 (2, .invokevirtual 40, 3, 3, 0, [0, 3, 33, 1], []) rfl rfl rfl ?_
  refine ⟨rfl, ?_⟩
  refine hC _ _ _ _ _ (bRn_e (fun r3 s1 q4 k2 => ?_)) h
  show A (3, [.ref 3, .int (bn x1), .int (bn x2), .float 0, .float 0], [.int (bn r3)], s1)
  refine bGo hA 0 3 (5, .istore_n 3, 1, 4, 0, [3], []) rfl rfl rfl ?_
  refine bGo hA 0 4 (6, .iload_n 1, 1, 5, 0, [1], []) rfl rfl rfl ?_
  refine bGo hA 0 5 (7, .ifCond .le (19), 3, 6, 16, [], []) rfl rfl rfl ?_
  refine bB_gt0 (x := x1) h_x1 (fun c5 => ?_) (fun c5 => ?_)
  · refine bGo hA 0 6 (10, .iload_n 1, 1, 7, 0, [1], []) rfl rfl rfl ?_
    refine bGo hA 0 7 (11, .aload_n 0, 1, 8, 0, [0], []) rfl rfl rfl ?_
    refine bGo hA 0 8 (12, .getfield 15, 3, 9, 0, [3, 1, 3, 20, 1, 0], []) rfl rfl rfl ?_
    refine ⟨rfl, ?_⟩
    refine bGo hA 0 9 (15, .arraylength, 1, 10, 0, [], []) rfl rfl rfl ?_
    refine ⟨by decide, ?_⟩
    refine bEqI (bn_nat 6).symm ?_
    refine bGo hA 0 10 (16, .if_icmp .ge (10), 3, 11, 16, [], []) rfl rfl rfl ?_
    refine bB_lt (x := x1) (y := 6) h_x1 (by decide : bRg 6) (fun c6 => ?_) (fun c6 => ?_)
    · refine bGo hA 0 11 (19, .aload_n 0, 1, 12, 0, [0], []) rfl rfl rfl ?_
      refine bGo hA 0 12 (20, .getfield 15, 3, 13, 0, [3, 1, 3, 20, 1, 0], []) rfl rfl rfl ?_
      refine ⟨rfl, ?_⟩
      refine bGo hA 0 13 (23, .iload_n 1, 1, 14, 0, [1], []) rfl rfl rfl ?_
      refine bGo hA 0 14 (24, .iload_n 2, 1, 15, 0, [2], []) rfl rfl rfl ?_
      refine bGo hA 0 15 (25, .bastore, 1, 16, 0, [], []) rfl rfl rfl ?_
      refine ⟨rfl, (bIxP (x := x1) (n := 6) h_x1 ((k2.1 c5).1 c6).1), by decide, b01 ((k2.1 c5).1 c6).2.1, ?_⟩
      refine bEqS (x := x1) h_x1 ?_
      refine bGo hA 1 0 (26, .iconst (1), 1, 17, 0, [], [(1, 0)]) rfl rfl rfl ?_
      refine bEqI bl_1 ?_
      refine bGo hA 1 1 (27, .istore 4, 2, 18, 0, [4], []) rfl rfl rfl ?_
      exact ((k2.1 c5).1 c6).2.2
    · refine bGo hA 1 0 (26, .iconst (1), 1, 17, 0, [], [(1, 0)]) rfl rfl rfl ?_
      refine bEqI bl_1 ?_
      refine bGo hA 1 1 (27, .istore 4, 2, 18, 0, [4], []) rfl rfl rfl ?_
      exact ((k2.1 c5).2 c6)
  · refine bGo hA 1 0 (26, .iconst (1), 1, 17, 0, [], [(1, 0)]) rfl rfl rfl ?_
    refine bEqI bl_1 ?_
    refine bGo hA 1 1 (27, .istore 4, 2, 18, 0, [4], []) rfl rfl rfl ?_
    exact (k2.2 c5)

theorem sq34_18 {lvl : Nat} {C : bCall} {Q : bPost} {A : bPt → Prop} (hC : bMono C) (hA : bClosed lvl bm34 C Q A) {v1 : Value} {v2 : Value} {l3 : Int} {l4 : Int} {σ : bSt}  (h_l3 : bRg l3) (h_l4 : bRg l4)
  (h : ((l4 < 6 → (C 33 [.ref 3, .int (bn l4)] σ (bRn (fun r4 s2 => ((r4 = 0 → (C 140 [.ref 201, .int (bn l4)] s2 (bRn (fun r9 s7 => (C 140 [.ref 21, .int (bn r9)] s7 (bRn (fun r13 s11 => (C 141 [.ref 21, .int (bn l4), .int (bn r13)] s11 (bRv (fun s15 => (bRg (l4 + 1) ∧ A (18, [.ref 3, v1, v2, .int (bn l3), .int (bn (l4 + 1))], [], s15)))))))))))) ∧ (¬ r4 = 0 → (C 141 [.ref 21, .int (bn l4), .int (bn l4)] s2 (bRv (fun s17 => (bRg (l4 + 1) ∧ A (18, [.ref 3, v1, v2, .int (bn l3), .int (bn (l4 + 1))], [], s17))))))))))) ∧ (¬ l4 < 6 → ((l3 = 0 ∨ l3 = 1) ∧ Q (.inl (some (.int (bn l3)))) σ)))) : A (18, [.ref 3, v1, v2, .int (bn l3), .int (bn l4)], [], σ) := by
  refine bGo hA 1 2 (29, .iload 4, 2, 19, 0, [4], []) rfl rfl rfl ?_
  refine bGo hA 1 3 (31, .bipush (6), 2, 20, 0, [], [(6, 0)]) rfl rfl rfl ?_
  refine bEqI bl_6 ?_
  refine bGo hA 1 4 (33, .if_icmp .ge (47), 3, 21, 39, [], []) rfl rfl rfl ?_
  refine bB_lt (x := l4) (y := 6) h_l4 (by decide : bRg 6) (fun c1 => ?_) (fun c1 => ?_)
  · refine bGo hA 1 5 (36, .aload_n 0, 1, 22, 0, [0], []) rfl rfl rfl ?_
    refine bGo hA 1 6 (37, .getfield 19, 3, 23, 0, [3, 2, 3, 21, 1, 0], []) rfl rfl rfl ?_
    refine ⟨rfl, ?_⟩
    refine bGo hA 1 7 (40, .iload 4, 2, 24, 0, [4], []) rfl rfl rfl ?_
    refine bGo hA 1 8 (42, .aload_n 0, 1, 25, 0, [0], []) rfl rfl rfl ?_
    refine bGo hA 1 9 (43, .iload 4, 2, 26, 0, [4], []) rfl rfl rfl ?_
    refine bGo hA 1 10 (45, .invokevirtual 40, 3, 27, 0, [0, 3, 33, 1], []) rfl rfl rfl ?_
    refine ⟨rfl, ?_⟩
    refine hC _ _ _ _ _ (bRn_e (fun r4 s2 q5 k3 => ?_)) (h.1 c1)
    show A (27, [.ref 3, v1, v2, .int (bn l3), .int (bn l4)], [.int (bn r4), .int (bn l4), .ref 21], s2)
    refine bGo hA 1 11 (48, .ifCond .eq (8), 3, 28, 30, [], []) rfl rfl rfl ?_
    refine bB_eq0 (x := r4) q5 (fun c6 => ?_) (fun c6 => ?_)
    · refine bGo hA 1 14 (56, .aload_n 0, 1, 31, 0, [0], []) rfl rfl rfl ?_
      refine bGo hA 1 15 (57, .getfield 19, 3, 32, 0, [3, 2, 3, 21, 1, 0], []) rfl rfl rfl ?_
      refine ⟨rfl, ?_⟩
      refine bGo hA 2 0 (60, .getstatic 44, 3, 33, 0, [201], []) rfl rfl rfl ?_
      refine bGo hA 2 1 (63, .iload 4, 2, 34, 0, [4], []) rfl rfl rfl ?_
      refine bGo hA 2 2 (65, .invokestatic 47, 3, 35, 1, [2, 140, 2], []) rfl rfl rfl ?_
      refine hC _ _ _ _ _ (bRn_e (fun r9 s7 q10 k8 => ?_)) (k3.1 c6)
      show A (35, [.ref 3, v1, v2, .int (bn l3), .int (bn l4)], [.int (bn r9), .ref 21, .int (bn l4), .ref 21], s7)
      refine bGo hA 2 3 (68, .invokestatic 47, 3, 36, 1, [2, 140, 2], []) rfl rfl rfl ?_
      refine hC _ _ _ _ _ (bRn_e (fun r13 s11 q14 k12 => ?_)) k8
      show A (36, [.ref 3, v1, v2, .int (bn l3), .int (bn l4)], [.int (bn r13), .int (bn l4), .ref 21], s11)
      refine bGo hA 2 4 (71, .invokestatic 36, 3, 37, 1, [2, 141, 3], []) rfl rfl rfl ?_
      refine hC _ _ _ _ _ (bRv_e (fun s15 k16 => ?_)) k12
      show A (37, [.ref 3, v1, v2, .int (bn l3), .int (bn l4)], [], s15)
      refine bGo hA 2 5 (74, .iinc 4 (1), 3, 38, 0, [4], [(1, 0)]) rfl rfl rfl ?_
      refine bEqC (fun v => A (38, [.ref 3, v1, v2, .int (bn l3), .int v], [], s15)) ((congrArg (fun w => bn l4 + w) bl_1).trans (bn_add l4 1)) ?_
      refine bGo hA 2 6 (77, .goto (-48), 3, 39, 18, [], []) rfl rfl rfl ?_
      exact k16.2
    · refine bGo hA 1 12 (51, .iload 4, 2, 29, 0, [4], []) rfl rfl rfl ?_
      refine bGo hA 1 13 (53, .goto (18), 3, 30, 36, [], []) rfl rfl rfl ?_
      refine bGo hA 2 4 (71, .invokestatic 36, 3, 37, 1, [2, 141, 3], []) rfl rfl rfl ?_
      refine hC _ _ _ _ _ (bRv_e (fun s17 k18 => ?_)) (k3.2 c6)
      show A (37, [.ref 3, v1, v2, .int (bn l3), .int (bn l4)], [], s17)
      refine bGo hA 2 5 (74, .iinc 4 (1), 3, 38, 0, [4], [(1, 0)]) rfl rfl rfl ?_
      refine bEqC (fun v => A (38, [.ref 3, v1, v2, .int (bn l3), .int v], [], s17)) ((congrArg (fun w => bn l4 + w) bl_1).trans (bn_add l4 1)) ?_
      refine bGo hA 2 6 (77, .goto (-48), 3, 39, 18, [], []) rfl rfl rfl ?_
      exact k18.2
  · refine bGo hA 2 7 (80, .iload_n 3, 1, 40, 0, [3], []) rfl rfl rfl ?_
    refine bGo hA 2 8 (81, .ireturn, 1, 0, 0, [2], []) rfl rfl rfl ?_
    exact ⟨b01 (h.2 c1).1, (h.2 c1).2⟩

theorem sq35_0 {lvl : Nat} {C : bCall} {Q : bPost} {A : bPt → Prop} (hC : bMono C) (hA : bClosed lvl bm35 C Q A) {x1 : Int} {σ : bSt}  (h_x1 : bRg x1)
  (h : (((bShr x1 3) < 0 → Q (.inl (some (.int (bn (-1))))) σ) ∧ (¬ (bShr x1 3) < 0 → (((bShr x1 3) < 6 → ((0 ≤ (bShr x1 3) ∧ (bShr x1 3) < 6) ∧ Q (.inl (some (.int (bn (bi σ 21 (bShr x1 3)))))) σ)) ∧ (¬ (bShr x1 3) < 6 → Q (.inl (some (.int (bn (-1))))) σ))))) : A (0, [.ref 3, .int (bn x1), .float 0], [], σ) := by
  refine bGo hA 0 0 (0, .iload_n 1, 1, 1, 0, [1], []) rfl rfl rfl ?_
  refine bGo hA 0 1 (1, .iconst (3), 1, 2, 0, [], [(3, 0)]) rfl rfl rfl ?_
  refine bEqI bl_3 ?_
  refine bGo hA 0 2 (2, .ishr, 1, 3, 0, [], []) rfl rfl rfl ?_
  refine bEqI (bn_shr x1 3) ?_
  refine bGo hA 0 3 (3, .istore_n 2, 1, 4, 0, [2], []) rfl rfl rfl ?_
  refine bGo hA 0 4 (4, .iload_n 2, 1, 5, 0, [2], []) rfl rfl rfl ?_
  refine bGo hA 0 5 (5, .ifCond .lt (21), 3, 6, 16, [], []) rfl rfl rfl ?_
  refine bB_lt0 (x := (bShr x1 3)) (bRgI _) (fun c1 => ?_) (fun c1 => ?_)
  · refine bGo hA 1 0 (26, .iconst (-1), 1, 17, 0, [], [(-1, 0)]) rfl rfl rfl ?_
    refine bEqI bl_m1 ?_
    refine bGo hA 1 1 (27, .ireturn, 1, 0, 0, [1], []) rfl rfl rfl ?_
    exact (h.1 c1)
  · refine bGo hA 0 6 (8, .iload_n 2, 1, 7, 0, [2], []) rfl rfl rfl ?_
    refine bGo hA 0 7 (9, .aload_n 0, 1, 8, 0, [0], []) rfl rfl rfl ?_
    refine bGo hA 0 8 (10, .getfield 19, 3, 9, 0, [3, 2, 3, 21, 1, 0], []) rfl rfl rfl ?_
    refine ⟨rfl, ?_⟩
    refine bGo hA 0 9 (13, .arraylength, 1, 10, 0, [], []) rfl rfl rfl ?_
    refine ⟨by decide, ?_⟩
    refine bEqI (bn_nat 6).symm ?_
    refine bGo hA 0 10 (14, .if_icmp .ge (12), 3, 11, 16, [], []) rfl rfl rfl ?_
    refine bB_lt (x := (bShr x1 3)) (y := 6) (bRgI _) (by decide : bRg 6) (fun c2 => ?_) (fun c2 => ?_)
    · refine bGo hA 0 11 (17, .aload_n 0, 1, 12, 0, [0], []) rfl rfl rfl ?_
      refine bGo hA 0 12 (18, .getfield 19, 3, 13, 0, [3, 2, 3, 21, 1, 0], []) rfl rfl rfl ?_
      refine ⟨rfl, ?_⟩
      refine bGo hA 0 13 (21, .iload_n 2, 1, 14, 0, [2], []) rfl rfl rfl ?_
      refine bGo hA 0 14 (22, .iaload, 1, 15, 0, [], []) rfl rfl rfl ?_
      refine ⟨rfl, (bIxP (x := (bShr x1 3)) (n := 6) (bRgI _) ((h.2 c1).1 c2).1), ?_⟩
      refine bEqL (x := (bShr x1 3)) (bRgI _) ?_
      refine bGo hA 0 15 (23, .goto (4), 3, 16, 17, [], []) rfl rfl rfl ?_
      refine bGo hA 1 1 (27, .ireturn, 1, 0, 0, [1], []) rfl rfl rfl ?_
      exact ((h.2 c1).1 c2).2
    · refine bGo hA 1 0 (26, .iconst (-1), 1, 17, 0, [], [(-1, 0)]) rfl rfl rfl ?_
      refine bEqI bl_m1 ?_
      refine bGo hA 1 1 (27, .ireturn, 1, 0, 0, [1], []) rfl rfl rfl ?_
      exact ((h.2 c1).2 c2)

theorem sq36_0 {lvl : Nat} {C : bCall} {Q : bPost} {A : bPt → Prop} (hC : bMono C) (hA : bClosed lvl bm36 C Q A) {x1 : Int} {x2 : Int} {x3 : Int} {σ : bSt}  (h_x1 : bRg x1) (h_x2 : bRg x2) (h_x3 : bRg x3)
  (h : A (4, [.ref 3, .int (bn x1), .int (bn x2), .int (bn x3), .long (Int64.ofNat 0), .float 0, .int (bn 0), .float 0], [], σ)) : A (0, [.ref 3, .int (bn x1), .int (bn x2), .int (bn x3), .float 0, .float 0, .float 0, .float 0], [], σ) := by
  refine bGo hA 0 0 (0, .lconst 0, 1, 1, 0, [0], []) rfl rfl rfl ?_
  refine bGo hA 0 1 (1, .lstore 4, 2, 2, 0, [4], []) rfl rfl rfl ?_
  refine bGo hA 0 2 (3, .iconst (0), 1, 3, 0, [], [(0, 0)]) rfl rfl rfl ?_
  refine bEqI bl_0 ?_
  refine bGo hA 0 3 (4, .istore 6, 2, 4, 0, [6], []) rfl rfl rfl ?_
  exact h

theorem sq36_4 {lvl : Nat} {C : bCall} {Q : bPost} {A : bPt → Prop} (hC : bMono C) (hA : bClosed lvl bm36 C Q A) {l1 : Int} {l2 : Int} {l3 : Int} {l4 : Int64} {l6 : Int} {v7 : Value} {σ : bSt}  (h_l1 : bRg l1) (h_l2 : bRg l2) (h_l3 : bRg l3) (h_l6 : bRg l6)
  (h : ((l6 < 48 → ((l3 = 0 → A (16, [.ref 3, .int (bn l1), .int (bn l2), .int (bn l3), .long l4, .float 0, .int (bn l6), v7], [.int (bn (bShr l6 3))], σ)) ∧ (¬ l3 = 0 → (C 35 [.ref 3, .int (bn l6)] σ (bRn (fun r5 s3 => A (16, [.ref 3, .int (bn l1), .int (bn l2), .int (bn l3), .long l4, .float 0, .int (bn l6), v7], [.int (bn r5)], s3))))))) ∧ (¬ l6 < 48 → Q (.inl (some (.long l4))) σ))) : A (4, [.ref 3, .int (bn l1), .int (bn l2), .int (bn l3), .long l4, .float 0, .int (bn l6), v7], [], σ) := by
  refine bGo hA 0 4 (6, .iload 6, 2, 5, 0, [6], []) rfl rfl rfl ?_
  refine bGo hA 0 5 (8, .bipush (48), 2, 6, 0, [], [(48, 0)]) rfl rfl rfl ?_
  refine bEqI bl_48 ?_
  refine bGo hA 0 6 (10, .if_icmp .ge (74), 3, 7, 46, [], []) rfl rfl rfl ?_
  refine bB_lt (x := l6) (y := 48) h_l6 (by decide : bRg 48) (fun c1 => ?_) (fun c1 => ?_)
  · refine bGo hA 0 7 (13, .iload_n 3, 1, 8, 0, [3], []) rfl rfl rfl ?_
    refine bGo hA 0 8 (14, .ifCond .eq (12), 3, 9, 13, [], []) rfl rfl rfl ?_
    refine bB_eq0 (x := l3) h_l3 (fun c2 => ?_) (fun c2 => ?_)
    · refine bGo hA 0 13 (26, .iload 6, 2, 14, 0, [6], []) rfl rfl rfl ?_
      refine bGo hA 0 14 (28, .iconst (3), 1, 15, 0, [], [(3, 0)]) rfl rfl rfl ?_
      refine bEqI bl_3 ?_
      refine bGo hA 0 15 (29, .ishr, 1, 16, 0, [], []) rfl rfl rfl ?_
      refine bEqI (bn_shr l6 3) ?_
      exact ((h.1 c1).1 c2)
    · refine bGo hA 0 9 (17, .aload_n 0, 1, 10, 0, [0], []) rfl rfl rfl ?_
      refine bGo hA 0 10 (18, .iload 6, 2, 11, 0, [6], []) rfl rfl rfl ?_
      refine bGo hA 0 11 (20, .invokevirtual 51, 3, 12, 0, [0, 3, 35, 1], []) rfl rfl rfl ?_
      refine ⟨rfl, ?_⟩
      refine hC _ _ _ _ _ (bRn_e (fun r5 s3 q6 k4 => ?_)) ((h.1 c1).2 c2)
      show A (12, [.ref 3, .int (bn l1), .int (bn l2), .int (bn l3), .long l4, .float 0, .int (bn l6), v7], [.int (bn r5)], s3)
      refine bGo hA 0 12 (23, .goto (7), 3, 13, 16, [], []) rfl rfl rfl ?_
      exact k4
  · refine bGo hA 2 14 (84, .lload 4, 2, 47, 0, [4], []) rfl rfl rfl ?_
    refine bGo hA 2 15 (86, .lreturn, 1, 0, 0, [3], []) rfl rfl rfl ?_
    exact (h.2 c1)

theorem sq36_16 {lvl : Nat} {C : bCall} {Q : bPost} {A : bPt → Prop} (hC : bMono C) (hA : bClosed lvl bm36 C Q A) {l1 : Int} {l2 : Int} {l3 : Int} {l4 : Int64} {l6 : Int} {v7 : Value} {t0 : Int} {σ : bSt}  (h_l1 : bRg l1) (h_l2 : bRg l2) (h_l3 : bRg l3) (h_l6 : bRg l6) (h_t0 : bRg t0)
  (h : ((t0 = l1 → (((bAnd (bShr l2 (bAnd l6 7)) 1) = 1 → (C 31 [.ref 3, .int (bn l6)] σ (bRn (fun r6 s4 => ((r6 = (-1) → (bRg (l6 + 1) ∧ A (4, [.ref 3, .int (bn l1), .int (bn l2), .int (bn l3), .long l4, .float 0, .int (bn (l6 + 1)), .int (bn 1)], [], s4))) ∧ (¬ r6 = (-1) → (bRg (l6 + 1) ∧ A (4, [.ref 3, .int (bn l1), .int (bn l2), .int (bn l3), .long (l4 ||| ((Int64.ofNat 1) <<< (bL l6 &&& 63))), .float 0, .int (bn (l6 + 1)), .int (bn 1)], [], s4)))))))) ∧ (¬ (bAnd (bShr l2 (bAnd l6 7)) 1) = 1 → (bRg (l6 + 1) ∧ A (4, [.ref 3, .int (bn l1), .int (bn l2), .int (bn l3), .long l4, .float 0, .int (bn (l6 + 1)), .int (bn 1)], [], σ))))) ∧ (¬ t0 = l1 → (bRg (l6 + 1) ∧ A (4, [.ref 3, .int (bn l1), .int (bn l2), .int (bn l3), .long l4, .float 0, .int (bn (l6 + 1)), .int (bn 0)], [], σ))))) : A (16, [.ref 3, .int (bn l1), .int (bn l2), .int (bn l3), .long l4, .float 0, .int (bn l6), v7], [.int (bn t0)], σ) := by
  refine bGo hA 1 0 (30, .iload_n 1, 1, 17, 0, [1], []) rfl rfl rfl ?_
  refine bGo hA 1 1 (31, .if_icmp .ne (7), 3, 18, 20, [], []) rfl rfl rfl ?_
  refine bB_eq (x := t0) (y := l1) h_t0 h_l1 (fun c1 => ?_) (fun c1 => ?_)
  · refine bGo hA 1 2 (34, .iconst (1), 1, 19, 0, [], [(1, 0)]) rfl rfl rfl ?_
    refine bEqI bl_1 ?_
    refine bGo hA 1 3 (35, .goto (4), 3, 20, 21, [], []) rfl rfl rfl ?_
    refine bGo hA 1 5 (39, .istore 7, 2, 22, 0, [7], []) rfl rfl rfl ?_
    refine bGo hA 1 6 (41, .iload 7, 2, 23, 0, [7], []) rfl rfl rfl ?_
    refine bGo hA 1 7 (43, .ifCond .eq (35), 3, 24, 44, [], []) rfl rfl rfl ?_
    refine ⟨fun c => absurd c (by decide), fun _ => ?_⟩
    refine bGo hA 1 8 (46, .iload_n 2, 1, 25, 0, [2], []) rfl rfl rfl ?_
    refine bGo hA 1 9 (47, .iload 6, 2, 26, 0, [6], []) rfl rfl rfl ?_
    refine bGo hA 1 10 (49, .bipush (7), 2, 27, 0, [], [(7, 0)]) rfl rfl rfl ?_
    refine bEqI bl_7 ?_
    refine bGo hA 1 11 (51, .iand, 1, 28, 0, [], []) rfl rfl rfl ?_
    refine bEqI (bn_and l6 7) ?_
    refine bGo hA 1 12 (52, .ishr, 1, 29, 0, [], []) rfl rfl rfl ?_
    refine bEqI (bn_shr l2 (bAnd l6 7)) ?_
    refine bGo hA 1 13 (53, .iconst (1), 1, 30, 0, [], [(1, 0)]) rfl rfl rfl ?_
    refine bEqI bl_1 ?_
    refine bGo hA 1 14 (54, .iand, 1, 31, 0, [], []) rfl rfl rfl ?_
    refine bEqI (bn_and (bShr l2 (bAnd l6 7)) 1) ?_
    refine bGo hA 1 15 (55, .iconst (1), 1, 32, 0, [], [(1, 0)]) rfl rfl rfl ?_
    refine bEqI bl_1 ?_
    refine bGo hA 2 0 (56, .if_icmp .ne (22), 3, 33, 44, [], []) rfl rfl rfl ?_
    refine bB_eq (x := (bAnd (bShr l2 (bAnd l6 7)) 1)) (y := 1) (bRgI _) (by decide : bRg 1) (fun c3 => ?_) (fun c3 => ?_)
    · refine bGo hA 2 1 (59, .aload_n 0, 1, 34, 0, [0], []) rfl rfl rfl ?_
      refine bGo hA 2 2 (60, .iload 6, 2, 35, 0, [6], []) rfl rfl rfl ?_
      refine bGo hA 2 3 (62, .invokevirtual 32, 3, 36, 0, [0, 3, 31, 1], []) rfl rfl rfl ?_
      refine ⟨rfl, ?_⟩
      refine hC _ _ _ _ _ (bRn_e (fun r6 s4 q7 k5 => ?_)) ((h.1 c1).1 c3)
      show A (36, [.ref 3, .int (bn l1), .int (bn l2), .int (bn l3), .long l4, .float 0, .int (bn l6), .int (bn 1)], [.int (bn r6)], s4)
      refine bGo hA 2 4 (65, .iconst (-1), 1, 37, 0, [], [(-1, 0)]) rfl rfl rfl ?_
      refine bEqI bl_m1 ?_
      refine bGo hA 2 5 (66, .if_icmp .eq (12), 3, 38, 44, [], []) rfl rfl rfl ?_
      refine bB_eq (x := r6) (y := (-1)) q7 (by decide : bRg (-1)) (fun c8 => ?_) (fun c8 => ?_)
      · refine bGo hA 2 12 (78, .iinc 6 (1), 3, 45, 0, [6], [(1, 0)]) rfl rfl rfl ?_
        refine bEqC (fun v => A (45, [.ref 3, .int (bn l1), .int (bn l2), .int (bn l3), .long l4, .float 0, .int v, .int (bn 1)], [], s4)) ((congrArg (fun w => bn l6 + w) bl_1).trans (bn_add l6 1)) ?_
        refine bGo hA 2 13 (81, .goto (-75), 3, 46, 4, [], []) rfl rfl rfl ?_
        exact (k5.1 c8).2
      · refine bGo hA 2 6 (69, .lload 4, 2, 39, 0, [4], []) rfl rfl rfl ?_
        refine bGo hA 2 7 (71, .lconst 1, 1, 40, 0, [1], []) rfl rfl rfl ?_
        refine bGo hA 2 8 (72, .iload 6, 2, 41, 0, [6], []) rfl rfl rfl ?_
        refine bGo hA 2 9 (74, .lshl, 1, 42, 0, [], []) rfl rfl rfl ?_
        refine bGo hA 2 10 (75, .lor, 1, 43, 0, [], []) rfl rfl rfl ?_
        refine bGo hA 2 11 (76, .lstore 4, 2, 44, 0, [4], []) rfl rfl rfl ?_
        refine bGo hA 2 12 (78, .iinc 6 (1), 3, 45, 0, [6], [(1, 0)]) rfl rfl rfl ?_
        refine bEqC (fun v => A (45, [.ref 3, .int (bn l1), .int (bn l2), .int (bn l3), .long (l4 ||| ((Int64.ofNat 1) <<< (bL l6 &&& 63))), .float 0, .int v, .int (bn 1)], [], s4)) ((congrArg (fun w => bn l6 + w) bl_1).trans (bn_add l6 1)) ?_
        refine bGo hA 2 13 (81, .goto (-75), 3, 46, 4, [], []) rfl rfl rfl ?_
        exact (k5.2 c8).2
    · refine bGo hA 2 12 (78, .iinc 6 (1), 3, 45, 0, [6], [(1, 0)]) rfl rfl rfl ?_
      refine bEqC (fun v => A (45, [.ref 3, .int (bn l1), .int (bn l2), .int (bn l3), .long l4, .float 0, .int v, .int (bn 1)], [], σ)) ((congrArg (fun w => bn l6 + w) bl_1).trans (bn_add l6 1)) ?_
      refine bGo hA 2 13 (81, .goto (-75), 3, 46, 4, [], []) rfl rfl rfl ?_
      exact ((h.1 c1).2 c3).2
  · refine bGo hA 1 4 (38, .iconst (0), 1, 21, 0, [], [(0, 0)]) rfl rfl rfl ?_
    refine bEqI bl_0 ?_
    refine bGo hA 1 5 (39, .istore 7, 2, 22, 0, [7], []) rfl rfl rfl ?_
    refine bGo hA 1 6 (41, .iload 7, 2, 23, 0, [7], []) rfl rfl rfl ?_
    refine bGo hA 1 7 (43, .ifCond .eq (35), 3, 24, 44, [], []) rfl rfl rfl ?_
    refine ⟨fun _ => ?_, fun c => absurd (by decide) c⟩
    refine bGo hA 2 12 (78, .iinc 6 (1), 3, 45, 0, [6], [(1, 0)]) rfl rfl rfl ?_
    refine bEqC (fun v => A (45, [.ref 3, .int (bn l1), .int (bn l2), .int (bn l3), .long l4, .float 0, .int v, .int (bn 0)], [], σ)) ((congrArg (fun w => bn l6 + w) bl_1).trans (bn_add l6 1)) ?_
    refine bGo hA 2 13 (81, .goto (-75), 3, 46, 4, [], []) rfl rfl rfl ?_
    exact (h.2 c1).2


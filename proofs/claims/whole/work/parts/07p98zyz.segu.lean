/-! segments of methods 1,2,3,6,38, by program (wip/whole/gen13.py): from a cut of a method on to the next cuts -/
theorem sq1_0 {lvl : Nat} {C : bCall} {Q : bPost} {A : bPt → Prop} (hC : bMono C) (hA : bClosed lvl bm1 C Q A) {a0 : Nat} {a1 : Nat} {x2 : Int} {x3 : Int} {σ : bSt} (h_a0 : a0 % 256 = 0) (h_a1 : a1 % 256 = 8) (h_x2 : bRg x2) (h_x3 : bRg x3)
  (h : ((256 * (2 * (a0 / 256) + 0) + 4) % 256 = 4 ∧ (C 38 [.ref (256 * (2 * (a0 / 256) + 0) + 4), .int (bn (bi (bw (bw σ a0 0 (bi σ a1 0)) a0 1 0) a1 1)), .int (bn x2), .int (bn x3)] (bw (bw σ a0 0 (bi σ a1 0)) a0 1 0) (bRv (fun s1 => Q (.inl none) s1))))) : A (0, [.ref a0, .ref a1, .int (bn x2), .int (bn x3)], [], σ) := by
  refine bGo hA 0 0 (0, .aload_n 0, 1, 1, 0, [0], []) rfl rfl rfl ?_
  refine bGo hA 0 1 (1, .aload_n 1, 1, 2, 0, [1], []) rfl rfl rfl ?_
  refine bGo hA 0 2 (2, .getfield 51, 3, 3, 0, [8, 0, 0, 0, 0, 0], []) rfl rfl rfl ?_
  refine ⟨h_a1, ?_⟩
  refine bEqI (bn_bi σ a1 0) ?_
  refine bGo hA 0 3 (5, .putfield 56, 3, 4, 0, [0, 0, 0, 0, 0, 0], []) rfl rfl rfl ?_
  refine ⟨h_a0, ?_⟩
  refine bGo hA 0 4 (8, .aload_n 0, 1, 5, 0, [0], []) rfl rfl rfl ?_
  refine bGo hA 0 5 (9, .iconst (0), 1, 6, 0, [], [(0, 0)]) rfl rfl rfl ?_
  refine bEqI bl_0 ?_
  refine bGo hA 0 6 (10, .putfield 57, 3, 7, 0, [0, 1, 0, 0, 0, 0], []) rfl rfl rfl ?_
  refine ⟨h_a0, ?_⟩
  refine bGo hA 0 7 (13, .aload_n 0, 1, 8, 0, [0], []) rfl rfl rfl ?_
  refine bGo hA 0 8 (14, .getfield 18, 3, 9, 0, [0, 3, 3, 4, 2, 0], []) rfl rfl rfl ?_
  refine ⟨h_a0, ?_⟩
  refine bGo hA 0 9 (17, .aload_n 1, 1, 10, 0, [1], []) rfl rfl rfl ?_
  refine bGo hA 0 10 (18, .getfield 60, 3, 11, 0, [8, 1, 0, 0, 0, 0], []) rfl rfl rfl ?_
  refine ⟨h_a1, ?_⟩
  refine bEqI (bn_bi (bw (bw σ a0 0 (bi σ a1 0)) a0 1 0) a1 1) ?_
  refine bGo hA 0 11 (21, .iload_n 2, 1, 12, 0, [2], []) rfl rfl rfl ?_
  refine bGo hA 0 12 (22, .iload_n 3, 1, 13, 0, [3], []) rfl rfl rfl ?_
  refine bGo hA 0 13 (23, .invokevirtual 63, 3, 14, 0, [0, 4, 38, 3], []) rfl rfl rfl ?_
  refine ⟨h.1, ?_⟩
  refine hC _ _ _ _ _ (bRv_e (fun s1 k2 => ?_)) h.2
  show A (14, [.ref a0, .ref a1, .int (bn x2), .int (bn x3)], [], s1)
  refine bGo hA 0 14 (26, .return_, 1, 0, 0, [0], []) rfl rfl rfl ?_
  exact k2

theorem sq2_0 {lvl : Nat} {C : bCall} {Q : bPost} {A : bPt → Prop} (hC : bMono C) (hA : bClosed lvl bm2 C Q A) {a0 : Nat} {x1 : Int} {σ : bSt} (h_a0 : a0 % 256 = 0) (h_x1 : bRg x1)
  (h : (C 141 [.ref (256 * (1 * (a0 / 256) + 0) + 13), .int (bn (bi σ a0 1)), .int (bn x1)] σ (bRv (fun s1 => (bRg ((bi s1 a0 1) + 1) ∧ Q (.inl none) (bw s1 a0 1 ((bi s1 a0 1) + 1))))))) : A (0, [.ref a0, .int (bn x1)], [], σ) := by
  refine bGo hA 0 0 (0, .aload_n 0, 1, 1, 0, [0], []) rfl rfl rfl ?_
  refine bGo hA 0 1 (1, .getfield 9, 3, 2, 0, [0, 2, 3, 13, 1, 0], []) rfl rfl rfl ?_
  refine ⟨h_a0, ?_⟩
  refine bGo hA 0 2 (4, .aload_n 0, 1, 3, 0, [0], []) rfl rfl rfl ?_
  refine bGo hA 0 3 (5, .getfield 57, 3, 4, 0, [0, 1, 0, 0, 0, 0], []) rfl rfl rfl ?_
  refine ⟨h_a0, ?_⟩
  refine bEqI (bn_bi σ a0 1) ?_
  refine bGo hA 0 4 (8, .iload_n 1, 1, 5, 0, [1], []) rfl rfl rfl ?_
  refine bGo hA 0 5 (9, .invokestatic 67, 3, 6, 1, [2, 141, 3], []) rfl rfl rfl ?_
  refine hC _ _ _ _ _ (bRv_e (fun s1 k2 => ?_)) h
  show A (6, [.ref a0, .int (bn x1)], [], s1)
  refine bGo hA 0 6 (12, .aload_n 0, 1, 7, 0, [0], []) rfl rfl rfl ?_
  refine bGo hA 0 7 (13, .dup, 1, 8, 0, [], []) rfl rfl rfl ?_
  refine bGo hA 0 8 (14, .getfield 57, 3, 9, 0, [0, 1, 0, 0, 0, 0], []) rfl rfl rfl ?_
  refine ⟨h_a0, ?_⟩
  refine bEqI (bn_bi s1 a0 1) ?_
  refine bGo hA 0 9 (17, .iconst (1), 1, 10, 0, [], [(1, 0)]) rfl rfl rfl ?_
  refine bEqI bl_1 ?_
  refine bGo hA 0 10 (18, .iadd, 1, 11, 0, [], []) rfl rfl rfl ?_
  refine bEqI (bn_add (bi s1 a0 1) 1) ?_
  refine bGo hA 0 11 (19, .putfield 57, 3, 12, 0, [0, 1, 0, 0, 0, 0], []) rfl rfl rfl ?_
  refine ⟨h_a0, ?_⟩
  refine bGo hA 0 12 (22, .return_, 1, 0, 0, [0], []) rfl rfl rfl ?_
  exact k2.2

theorem sq3_0 {lvl : Nat} {C : bCall} {Q : bPost} {A : bPt → Prop} (hC : bMono C) (hA : bClosed lvl bm3 C Q A) {a0 : Nat} {x1 : Int64} {σ : bSt} (h_a0 : a0 % 256 = 0) 
  (h : A (2, [.ref a0, .long x1, .float 0, .int (bn 0)], [], σ)) : A (0, [.ref a0, .long x1, .float 0, .float 0], [], σ) := by
  refine bGo hA 0 0 (0, .iconst (0), 1, 1, 0, [], [(0, 0)]) rfl rfl rfl ?_
  refine bEqI bl_0 ?_
  refine bGo hA 0 1 (1, .istore_n 3, 1, 2, 0, [3], []) rfl rfl rfl ?_
  exact h

theorem sq3_2 {lvl : Nat} {C : bCall} {Q : bPost} {A : bPt → Prop} (hC : bMono C) (hA : bClosed lvl bm3 C Q A) {l0 : Nat} {l1 : Int64} {l3 : Int} {σ : bSt}  (h_l3 : bRg l3)
  (h : ((l3 < 48 → (((bCmp ((l1 >>> (bL l3 &&& 63)) &&& (Int64.ofNat 1)) (Int64.ofNat 1)) = 0 → (l0 % 256 = 0 ∧ (C 2 [.ref l0, .int (bn l3)] σ (bRv (fun s3 => (bRg (l3 + 1) ∧ A (2, [.ref l0, .long l1, .float 0, .int (bn (l3 + 1))], [], s3))))))) ∧ (¬ (bCmp ((l1 >>> (bL l3 &&& 63)) &&& (Int64.ofNat 1)) (Int64.ofNat 1)) = 0 → (bRg (l3 + 1) ∧ A (2, [.ref l0, .long l1, .float 0, .int (bn (l3 + 1))], [], σ))))) ∧ (¬ l3 < 48 → Q (.inl none) σ))) : A (2, [.ref l0, .long l1, .float 0, .int (bn l3)], [], σ) := by
  refine bGo hA 0 2 (2, .iload_n 3, 1, 3, 0, [3], []) rfl rfl rfl ?_
  refine bGo hA 0 3 (3, .bipush (48), 2, 4, 0, [], [(48, 0)]) rfl rfl rfl ?_
  refine bEqI bl_48 ?_
  refine bGo hA 0 4 (5, .if_icmp .ge (24), 3, 5, 18, [], []) rfl rfl rfl ?_
  refine bB_lt (x := l3) (y := 48) h_l3 (by decide : bRg 48) (fun c1 => ?_) (fun c1 => ?_)
  · refine bGo hA 0 5 (8, .lload_n 1, 1, 6, 0, [1], []) rfl rfl rfl ?_
    refine bGo hA 0 6 (9, .iload_n 3, 1, 7, 0, [3], []) rfl rfl rfl ?_
    refine bGo hA 0 7 (10, .lshr, 1, 8, 0, [], []) rfl rfl rfl ?_
    refine bGo hA 0 8 (11, .lconst 1, 1, 9, 0, [1], []) rfl rfl rfl ?_
    refine bGo hA 0 9 (12, .land, 1, 10, 0, [], []) rfl rfl rfl ?_
    refine bGo hA 0 10 (13, .lconst 1, 1, 11, 0, [1], []) rfl rfl rfl ?_
    refine bGo hA 0 11 (14, .lcmp, 1, 12, 0, [], []) rfl rfl rfl ?_
    refine bEqI (bn_cmp ((l1 >>> (bL l3 &&& 63)) &&& (Int64.ofNat 1)) (Int64.ofNat 1)) ?_
    refine bGo hA 0 12 (15, .ifCond .ne (8), 3, 13, 16, [], []) rfl rfl rfl ?_
    refine bB_eq0 (x := (bCmp ((l1 >>> (bL l3 &&& 63)) &&& (Int64.ofNat 1)) (Int64.ofNat 1))) (bRgI _) (fun c2 => ?_) (fun c2 => ?_)
    · refine bGo hA 0 13 (18, .aload_n 0, 1, 14, 0, [0], []) rfl rfl rfl ?_
      refine bGo hA 0 14 (19, .iload_n 3, 1, 15, 0, [3], []) rfl rfl rfl ?_
      refine bGo hA 0 15 (20, .invokevirtual 71, 3, 16, 0, [0, 0, 2, 1], []) rfl rfl rfl ?_
      refine ⟨((h.1 c1).1 c2).1, ?_⟩
      refine hC _ _ _ _ _ (bRv_e (fun s3 k4 => ?_)) ((h.1 c1).1 c2).2
      show A (16, [.ref l0, .long l1, .float 0, .int (bn l3)], [], s3)
      refine bGo hA 1 0 (23, .iinc 3 (1), 3, 17, 0, [3], [(1, 0)]) rfl rfl rfl ?_
      refine bEqC (fun v => A (17, [.ref l0, .long l1, .float 0, .int v], [], s3)) ((congrArg (fun w => bn l3 + w) bl_1).trans (bn_add l3 1)) ?_
      refine bGo hA 1 1 (26, .goto (-24), 3, 18, 2, [], []) rfl rfl rfl ?_
      exact k4.2
    · refine bGo hA 1 0 (23, .iinc 3 (1), 3, 17, 0, [3], [(1, 0)]) rfl rfl rfl ?_
      refine bEqC (fun v => A (17, [.ref l0, .long l1, .float 0, .int v], [], σ)) ((congrArg (fun w => bn l3 + w) bl_1).trans (bn_add l3 1)) ?_
      refine bGo hA 1 1 (26, .goto (-24), 3, 18, 2, [], []) rfl rfl rfl ?_
      exact ((h.1 c1).2 c2).2
  · refine bGo hA 1 2 (29, .return_, 1, 0, 0, [0], []) rfl rfl rfl ?_
    exact (h.2 c1)

theorem sq6_0 {lvl : Nat} {C : bCall} {Q : bPost} {A : bPt → Prop} (hC : bMono C) (hA : bClosed lvl bm6 C Q A) {a0 : Nat} {a1 : Nat} {σ : bSt} (h_a0 : a0 % 256 = 0) (h_a1 : a1 % 256 = 0) 
  (h : ((256 * (2 * (a0 / 256) + 0) + 4) % 256 = 4 ∧ ((256 * (2 * (a1 / 256) + 0) + 4) % 256 = 4 ∧ (((bi σ (256 * (2 * (a0 / 256) + 0) + 4) 0) = (bi σ (256 * (2 * (a1 / 256) + 0) + 4) 0) → (((bi σ (256 * (2 * (a0 / 256) + 0) + 4) 1) = (bi σ (256 * (2 * (a1 / 256) + 0) + 4) 1) → (((bi σ (256 * (2 * (a0 / 256) + 0) + 4) 2) = (bi σ (256 * (2 * (a1 / 256) + 0) + 4) 2) → (((bi σ a0 1) = (bi σ a1 1) → (((bi σ (256 * (2 * (a0 / 256) + 0) + 4) 0) = 5 → (((bi σ a0 0) = (bi σ a1 0) → A (42, [.ref a0, .ref a1, .int (bn 1), .int (bn 0)], [], σ)) ∧ (¬ (bi σ a0 0) = (bi σ a1 0) → A (42, [.ref a0, .ref a1, .int (bn 0), .int (bn 0)], [], σ)))) ∧ (¬ (bi σ (256 * (2 * (a0 / 256) + 0) + 4) 0) = 5 → A (42, [.ref a0, .ref a1, .int (bn 1), .int (bn 0)], [], σ)))) ∧ (¬ (bi σ a0 1) = (bi σ a1 1) → A (42, [.ref a0, .ref a1, .int (bn 0), .int (bn 0)], [], σ)))) ∧ (¬ (bi σ (256 * (2 * (a0 / 256) + 0) + 4) 2) = (bi σ (256 * (2 * (a1 / 256) + 0) + 4) 2) → A (42, [.ref a0, .ref a1, .int (bn 0), .int (bn 0)], [], σ)))) ∧ (¬ (bi σ (256 * (2 * (a0 / 256) + 0) + 4) 1) = (bi σ (256 * (2 * (a1 / 256) + 0) + 4) 1) → A (42, [.ref a0, .ref a1, .int (bn 0), .int (bn 0)], [], σ)))) ∧ (¬ (bi σ (256 * (2 * (a0 / 256) + 0) + 4) 0) = (bi σ (256 * (2 * (a1 / 256) + 0) + 4) 0) → A (42, [.ref a0, .ref a1, .int (bn 0), .int (bn 0)], [], σ)))))) : A (0, [.ref a0, .ref a1, .float 0, .float 0], [], σ) := by
  refine bGo hA 0 0 (0, .aload_n 0, 1, 1, 0, [0], []) rfl rfl rfl ?_
  refine bGo hA 0 1 (1, .getfield 18, 3, 2, 0, [0, 3, 3, 4, 2, 0], []) rfl rfl rfl ?_
  refine ⟨h_a0, ?_⟩
  refine bGo hA 0 2 (4, .getfield 75, 3, 3, 0, [4, 0, 0, 0, 0, 0], []) rfl rfl rfl ?_
  refine ⟨h.1, ?_⟩
  refine bEqI (bn_bi σ (256 * (2 * (a0 / 256) + 0) + 4) 0) ?_
  refine bGo hA 0 3 (7, .aload_n 1, 1, 4, 0, [1], []) rfl rfl rfl ?_
  refine bGo hA 0 4 (8, .getfield 18, 3, 5, 0, [0, 3, 3, 4, 2, 0], []) rfl rfl rfl ?_
  refine ⟨h_a1, ?_⟩
  refine bGo hA 0 5 (11, .getfield 75, 3, 6, 0, [4, 0, 0, 0, 0, 0], []) rfl rfl rfl ?_
  refine ⟨h.2.1, ?_⟩
  refine bEqI (bn_bi σ (256 * (2 * (a1 / 256) + 0) + 4) 0) ?_
  refine bGo hA 0 6 (14, .if_icmp .ne (74), 3, 7, 38, [], []) rfl rfl rfl ?_
  refine bB_eq (x := (bi σ (256 * (2 * (a0 / 256) + 0) + 4) 0)) (y := (bi σ (256 * (2 * (a1 / 256) + 0) + 4) 0)) (bi_rg _ _ _) (bi_rg _ _ _) (fun c1 => ?_) (fun c1 => ?_)
  · refine bGo hA 0 7 (17, .aload_n 0, 1, 8, 0, [0], []) rfl rfl rfl ?_
    refine bGo hA 0 8 (18, .getfield 18, 3, 9, 0, [0, 3, 3, 4, 2, 0], []) rfl rfl rfl ?_
    refine ⟨h_a0, ?_⟩
    refine bGo hA 0 9 (21, .getfield 76, 3, 10, 0, [4, 1, 0, 0, 0, 0], []) rfl rfl rfl ?_
    refine ⟨h.1, ?_⟩
    refine bEqI (bn_bi σ (256 * (2 * (a0 / 256) + 0) + 4) 1) ?_
    refine bGo hA 0 10 (24, .aload_n 1, 1, 11, 0, [1], []) rfl rfl rfl ?_
    refine bGo hA 0 11 (25, .getfield 18, 3, 12, 0, [0, 3, 3, 4, 2, 0], []) rfl rfl rfl ?_
    refine ⟨h_a1, ?_⟩
    refine bGo hA 0 12 (28, .getfield 76, 3, 13, 0, [4, 1, 0, 0, 0, 0], []) rfl rfl rfl ?_
    refine ⟨h.2.1, ?_⟩
    refine bEqI (bn_bi σ (256 * (2 * (a1 / 256) + 0) + 4) 1) ?_
    refine bGo hA 0 13 (31, .if_icmp .ne (57), 3, 14, 38, [], []) rfl rfl rfl ?_
    refine bB_eq (x := (bi σ (256 * (2 * (a0 / 256) + 0) + 4) 1)) (y := (bi σ (256 * (2 * (a1 / 256) + 0) + 4) 1)) (bi_rg _ _ _) (bi_rg _ _ _) (fun c2 => ?_) (fun c2 => ?_)
    · refine bGo hA 0 14 (34, .aload_n 0, 1, 15, 0, [0], []) rfl rfl rfl ?_
      refine bGo hA 0 15 (35, .getfield 18, 3, 16, 0, [0, 3, 3, 4, 2, 0], []) rfl rfl rfl ?_
      refine ⟨h_a0, ?_⟩
      refine bGo hA 1 0 (38, .getfield 79, 3, 17, 0, [4, 2, 0, 0, 0, 0], []) rfl rfl rfl ?_
      refine ⟨h.1, ?_⟩
      refine bEqI (bn_bi σ (256 * (2 * (a0 / 256) + 0) + 4) 2) ?_
      refine bGo hA 1 1 (41, .aload_n 1, 1, 18, 0, [1], []) rfl rfl rfl ?_
      refine bGo hA 1 2 (42, .getfield 18, 3, 19, 0, [0, 3, 3, 4, 2, 0], []) rfl rfl rfl ?_
      refine ⟨h_a1, ?_⟩
      refine bGo hA 1 3 (45, .getfield 79, 3, 20, 0, [4, 2, 0, 0, 0, 0], []) rfl rfl rfl ?_
      refine ⟨h.2.1, ?_⟩
      refine bEqI (bn_bi σ (256 * (2 * (a1 / 256) + 0) + 4) 2) ?_
      refine bGo hA 1 4 (48, .if_icmp .ne (40), 3, 21, 38, [], []) rfl rfl rfl ?_
      refine bB_eq (x := (bi σ (256 * (2 * (a0 / 256) + 0) + 4) 2)) (y := (bi σ (256 * (2 * (a1 / 256) + 0) + 4) 2)) (bi_rg _ _ _) (bi_rg _ _ _) (fun c3 => ?_) (fun c3 => ?_)
      · refine bGo hA 1 5 (51, .aload_n 0, 1, 22, 0, [0], []) rfl rfl rfl ?_
        refine bGo hA 1 6 (52, .getfield 57, 3, 23, 0, [0, 1, 0, 0, 0, 0], []) rfl rfl rfl ?_
        refine ⟨h_a0, ?_⟩
        refine bEqI (bn_bi σ a0 1) ?_
        refine bGo hA 1 7 (55, .aload_n 1, 1, 24, 0, [1], []) rfl rfl rfl ?_
        refine bGo hA 1 8 (56, .getfield 57, 3, 25, 0, [0, 1, 0, 0, 0, 0], []) rfl rfl rfl ?_
        refine ⟨h_a1, ?_⟩
        refine bEqI (bn_bi σ a1 1) ?_
        refine bGo hA 1 9 (59, .if_icmp .ne (29), 3, 26, 38, [], []) rfl rfl rfl ?_
        refine bB_eq (x := (bi σ a0 1)) (y := (bi σ a1 1)) (bi_rg _ _ _) (bi_rg _ _ _) (fun c4 => ?_) (fun c4 => ?_)
        · refine bGo hA 1 10 (62, .aload_n 0, 1, 27, 0, [0], []) rfl rfl rfl ?_
          refine bGo hA 1 11 (63, .getfield 18, 3, 28, 0, [0, 3, 3, 4, 2, 0], []) rfl rfl rfl ?_
          refine ⟨h_a0, ?_⟩
          refine bGo hA 1 12 (66, .getfield 75, 3, 29, 0, [4, 0, 0, 0, 0, 0], []) rfl rfl rfl ?_
          refine ⟨h.1, ?_⟩
          refine bEqI (bn_bi σ (256 * (2 * (a0 / 256) + 0) + 4) 0) ?_
          refine bGo hA 1 13 (69, .iconst (5), 1, 30, 0, [], [(5, 0)]) rfl rfl rfl ?_
          refine bEqI bl_5 ?_
          refine bGo hA 1 14 (70, .if_icmp .ne (14), 3, 31, 36, [], []) rfl rfl rfl ?_
          refine bB_eq (x := (bi σ (256 * (2 * (a0 / 256) + 0) + 4) 0)) (y := 5) (bi_rg _ _ _) (by decide : bRg 5) (fun c5 => ?_) (fun c5 => ?_)
          · refine bGo hA 1 15 (73, .aload_n 0, 1, 32, 0, [0], []) rfl rfl rfl ?_
            refine bGo hA 2 0 (74, .getfield 56, 3, 33, 0, [0, 0, 0, 0, 0, 0], []) rfl rfl rfl ?_
            refine ⟨h_a0, ?_⟩
            refine bEqI (bn_bi σ a0 0) ?_
            refine bGo hA 2 1 (77, .aload_n 1, 1, 34, 0, [1], []) rfl rfl rfl ?_
            refine bGo hA 2 2 (78, .getfield 56, 3, 35, 0, [0, 0, 0, 0, 0, 0], []) rfl rfl rfl ?_
            refine ⟨h_a1, ?_⟩
            refine bEqI (bn_bi σ a1 0) ?_
            refine bGo hA 2 3 (81, .if_icmp .ne (7), 3, 36, 38, [], []) rfl rfl rfl ?_
            refine bB_eq (x := (bi σ a0 0)) (y := (bi σ a1 0)) (bi_rg _ _ _) (bi_rg _ _ _) (fun c6 => ?_) (fun c6 => ?_)
            · refine bGo hA 2 4 (84, .iconst (1), 1, 37, 0, [], [(1, 0)]) rfl rfl rfl ?_
              refine bEqI bl_1 ?_
              refine bGo hA 2 5 (85, .goto (4), 3, 38, 39, [], []) rfl rfl rfl ?_
              refine bGo hA 2 7 (89, .istore_n 2, 1, 40, 0, [2], []) rfl rfl rfl ?_
              refine bGo hA 2 8 (90, .iconst (0), 1, 41, 0, [], [(0, 0)]) rfl rfl rfl ?_
              refine bEqI bl_0 ?_
              refine bGo hA 2 9 (91, .istore_n 3, 1, 42, 0, [3], []) rfl rfl rfl ?_
              exact ((((((h.2.2.1 c1).1 c2).1 c3).1 c4).1 c5).1 c6)
            · refine bGo hA 2 6 (88, .iconst (0), 1, 39, 0, [], [(0, 0)]) rfl rfl rfl ?_
              refine bEqI bl_0 ?_
              refine bGo hA 2 7 (89, .istore_n 2, 1, 40, 0, [2], []) rfl rfl rfl ?_
              refine bGo hA 2 8 (90, .iconst (0), 1, 41, 0, [], [(0, 0)]) rfl rfl rfl ?_
              refine bEqI bl_0 ?_
              refine bGo hA 2 9 (91, .istore_n 3, 1, 42, 0, [3], []) rfl rfl rfl ?_
              exact ((((((h.2.2.1 c1).1 c2).1 c3).1 c4).1 c5).2 c6)
          · refine bGo hA 2 4 (84, .iconst (1), 1, 37, 0, [], [(1, 0)]) rfl rfl rfl ?_
            refine bEqI bl_1 ?_
            refine bGo hA 2 5 (85, .goto (4), 3, 38, 39, [], []) rfl rfl rfl ?_
            refine bGo hA 2 7 (89, .istore_n 2, 1, 40, 0, [2], []) rfl rfl rfl ?_
            refine bGo hA 2 8 (90, .iconst (0), 1, 41, 0, [], [(0, 0)]) rfl rfl rfl ?_
            refine bEqI bl_0 ?_
            refine bGo hA 2 9 (91, .istore_n 3, 1, 42, 0, [3], []) rfl rfl rfl ?_
            exact (((((h.2.2.1 c1).1 c2).1 c3).1 c4).2 c5)
        · refine bGo hA 2 6 (88, .iconst (0), 1, 39, 0, [], [(0, 0)]) rfl rfl rfl ?_
          refine bEqI bl_0 ?_
          refine bGo hA 2 7 (89, .istore_n 2, 1, 40, 0, [2], []) rfl rfl rfl ?_
          refine bGo hA 2 8 (90, .iconst (0), 1, 41, 0, [], [(0, 0)]) rfl rfl rfl ?_
          refine bEqI bl_0 ?_
          refine bGo hA 2 9 (91, .istore_n 3, 1, 42, 0, [3], []) rfl rfl rfl ?_
          exact ((((h.2.2.1 c1).1 c2).1 c3).2 c4)
      · refine bGo hA 2 6 (88, .iconst (0), 1, 39, 0, [], [(0, 0)]) rfl rfl rfl ?_
        refine bEqI bl_0 ?_
        refine bGo hA 2 7 (89, .istore_n 2, 1, 40, 0, [2], []) rfl rfl rfl ?_
        refine bGo hA 2 8 (90, .iconst (0), 1, 41, 0, [], [(0, 0)]) rfl rfl rfl ?_
        refine bEqI bl_0 ?_
        refine bGo hA 2 9 (91, .istore_n 3, 1, 42, 0, [3], []) rfl rfl rfl ?_
        exact (((h.2.2.1 c1).1 c2).2 c3)
    · refine bGo hA 2 6 (88, .iconst (0), 1, 39, 0, [], [(0, 0)]) rfl rfl rfl ?_
      refine bEqI bl_0 ?_
      refine bGo hA 2 7 (89, .istore_n 2, 1, 40, 0, [2], []) rfl rfl rfl ?_
      refine bGo hA 2 8 (90, .iconst (0), 1, 41, 0, [], [(0, 0)]) rfl rfl rfl ?_
      refine bEqI bl_0 ?_
      refine bGo hA 2 9 (91, .istore_n 3, 1, 42, 0, [3], []) rfl rfl rfl ?_
      exact ((h.2.2.1 c1).2 c2)
  · refine bGo hA 2 6 (88, .iconst (0), 1, 39, 0, [], [(0, 0)]) rfl rfl rfl ?_
    refine bEqI bl_0 ?_
    refine bGo hA 2 7 (89, .istore_n 2, 1, 40, 0, [2], []) rfl rfl rfl ?_
    refine bGo hA 2 8 (90, .iconst (0), 1, 41, 0, [], [(0, 0)]) rfl rfl rfl ?_
    refine bEqI bl_0 ?_
    refine bGo hA 2 9 (91, .istore_n 3, 1, 42, 0, [3], []) rfl rfl rfl ?_
    exact (h.2.2.2 c1)

theorem sq6_42 {lvl : Nat} {C : bCall} {Q : bPost} {A : bPt → Prop} (hC : bMono C) (hA : bClosed lvl bm6 C Q A) {l0 : Nat} {l1 : Nat} {l2 : Int} {l3 : Int} {σ : bSt}  (h_l2 : bRg l2) (h_l3 : bRg l3)
  (h : ((l2 = 0 → ((l2 = 0 ∨ l2 = 1) ∧ Q (.inl (some (.int (bn l2)))) σ)) ∧ (¬ l2 = 0 → (l0 % 256 = 0 ∧ ((l3 < (bi σ l0 1) → (C 140 [.ref (256 * (1 * (l0 / 256) + 0) + 13), .int (bn l3)] σ (bRn (fun r5 s3 => (l1 % 256 = 0 ∧ (C 140 [.ref (256 * (1 * (l1 / 256) + 0) + 13), .int (bn l3)] s3 (bRn (fun r9 s7 => ((r5 = r9 → (bRg (l3 + 1) ∧ A (42, [.ref l0, .ref l1, .int (bn 1), .int (bn (l3 + 1))], [], s7))) ∧ (¬ r5 = r9 → (bRg (l3 + 1) ∧ A (42, [.ref l0, .ref l1, .int (bn 0), .int (bn (l3 + 1))], [], s7)))))))))))) ∧ (¬ l3 < (bi σ l0 1) → ((l2 = 0 ∨ l2 = 1) ∧ Q (.inl (some (.int (bn l2)))) σ))))))) : A (42, [.ref l0, .ref l1, .int (bn l2), .int (bn l3)], [], σ) := by
  refine bGo hA 2 10 (92, .iload_n 2, 1, 43, 0, [2], []) rfl rfl rfl ?_
  refine bGo hA 2 11 (93, .ifCond .eq (42), 3, 44, 63, [], []) rfl rfl rfl ?_
  refine bB_eq0 (x := l2) h_l2 (fun c1 => ?_) (fun c1 => ?_)
  · refine bGo hA 3 15 (135, .iload_n 2, 1, 64, 0, [2], []) rfl rfl rfl ?_
    refine bGo hA 4 0 (136, .ireturn, 1, 0, 0, [2], []) rfl rfl rfl ?_
    exact ⟨b01 (h.1 c1).1, (h.1 c1).2⟩
  · refine bGo hA 2 12 (96, .iload_n 3, 1, 45, 0, [3], []) rfl rfl rfl ?_
    refine bGo hA 2 13 (97, .aload_n 0, 1, 46, 0, [0], []) rfl rfl rfl ?_
    refine bGo hA 2 14 (98, .getfield 57, 3, 47, 0, [0, 1, 0, 0, 0, 0], []) rfl rfl rfl ?_
    refine ⟨(h.2 c1).1, ?_⟩
    refine bEqI (bn_bi σ l0 1) ?_
    refine bGo hA 2 15 (101, .if_icmp .ge (34), 3, 48, 63, [], []) rfl rfl rfl ?_
    refine bB_lt (x := l3) (y := (bi σ l0 1)) h_l3 (bi_rg _ _ _) (fun c2 => ?_) (fun c2 => ?_)
    · refine bGo hA 3 0 (104, .aload_n 0, 1, 49, 0, [0], []) rfl rfl rfl ?_
      refine bGo hA 3 1 (105, .getfield 9, 3, 50, 0, [0, 2, 3, 13, 1, 0], []) rfl rfl rfl ?_
      refine ⟨(h.2 c1).1, ?_⟩
      refine bGo hA 3 2 (108, .iload_n 3, 1, 51, 0, [3], []) rfl rfl rfl ?_
      refine bGo hA 3 3 (109, .invokestatic 82, 3, 52, 1, [2, 140, 2], []) rfl rfl rfl ?_
      refine hC _ _ _ _ _ (bRn_e (fun r5 s3 q6 k4 => ?_)) ((h.2 c1).2.1 c2)
      show A (52, [.ref l0, .ref l1, .int (bn l2), .int (bn l3)], [.int (bn r5)], s3)
      refine bGo hA 3 4 (112, .aload_n 1, 1, 53, 0, [1], []) rfl rfl rfl ?_
      refine bGo hA 3 5 (113, .getfield 9, 3, 54, 0, [0, 2, 3, 13, 1, 0], []) rfl rfl rfl ?_
      refine ⟨k4.1, ?_⟩
      refine bGo hA 3 6 (116, .iload_n 3, 1, 55, 0, [3], []) rfl rfl rfl ?_
      refine bGo hA 3 7 (117, .invokestatic 82, 3, 56, 1, [2, 140, 2], []) rfl rfl rfl ?_
      refine hC _ _ _ _ _ (bRn_e (fun r9 s7 q10 k8 => ?_)) k4.2
      show A (56, [.ref l0, .ref l1, .int (bn l2), .int (bn l3)], [.int (bn r9), .int (bn r5)], s7)
      refine bGo hA 3 8 (120, .if_icmp .ne (7), 3, 57, 59, [], []) rfl rfl rfl ?_
      refine bB_eq (x := r5) (y := r9) q6 q10 (fun c11 => ?_) (fun c11 => ?_)
      · refine bGo hA 3 9 (123, .iconst (1), 1, 58, 0, [], [(1, 0)]) rfl rfl rfl ?_
        refine bEqI bl_1 ?_
        refine bGo hA 3 10 (124, .goto (4), 3, 59, 60, [], []) rfl rfl rfl ?_
        refine bGo hA 3 12 (128, .istore_n 2, 1, 61, 0, [2], []) rfl rfl rfl ?_
        refine bGo hA 3 13 (129, .iinc 3 (1), 3, 62, 0, [3], [(1, 0)]) rfl rfl rfl ?_
        refine bEqC (fun v => A (62, [.ref l0, .ref l1, .int (bn 1), .int v], [], s7)) ((congrArg (fun w => bn l3 + w) bl_1).trans (bn_add l3 1)) ?_
        refine bGo hA 3 14 (132, .goto (-40), 3, 63, 42, [], []) rfl rfl rfl ?_
        exact (k8.1 c11).2
      · refine bGo hA 3 11 (127, .iconst (0), 1, 60, 0, [], [(0, 0)]) rfl rfl rfl ?_
        refine bEqI bl_0 ?_
        refine bGo hA 3 12 (128, .istore_n 2, 1, 61, 0, [2], []) rfl rfl rfl ?_
        refine bGo hA 3 13 (129, .iinc 3 (1), 3, 62, 0, [3], [(1, 0)]) rfl rfl rfl ?_
        refine bEqC (fun v => A (62, [.ref l0, .ref l1, .int (bn 0), .int v], [], s7)) ((congrArg (fun w => bn l3 + w) bl_1).trans (bn_add l3 1)) ?_
        refine bGo hA 3 14 (132, .goto (-40), 3, 63, 42, [], []) rfl rfl rfl ?_
        exact (k8.2 c11).2
    · refine bGo hA 3 15 (135, .iload_n 2, 1, 64, 0, [2], []) rfl rfl rfl ?_
      refine bGo hA 4 0 (136, .ireturn, 1, 0, 0, [2], []) rfl rfl rfl ?_
      exact ⟨b01 ((h.2 c1).2.2 c2).1, ((h.2 c1).2.2 c2).2⟩

theorem sq38_0 {lvl : Nat} {C : bCall} {Q : bPost} {A : bPt → Prop} (hC : bMono C) (hA : bClosed lvl bm38 C Q A) {a0 : Nat} {x1 : Int} {x2 : Int} {x3 : Int} {σ : bSt} (h_a0 : a0 % 256 = 4) (h_x1 : bRg x1) (h_x2 : bRg x2) (h_x3 : bRg x3)
  (h : Q (.inl none) (bw (bw (bw σ a0 0 x1) a0 1 x2) a0 2 x3)) : A (0, [.ref a0, .int (bn x1), .int (bn x2), .int (bn x3)], [], σ) := by
  refine bGo hA 0 0 (0, .aload_n 0, 1, 1, 0, [0], []) rfl rfl rfl ?_
  refine bGo hA 0 1 (1, .iload_n 1, 1, 2, 0, [1], []) rfl rfl rfl ?_
  refine bGo hA 0 2 (2, .putfield 9, 3, 3, 0, [4, 0, 0, 0, 0, 0], []) rfl rfl rfl ?_
  refine ⟨h_a0, ?_⟩
  refine bGo hA 0 3 (5, .aload_n 0, 1, 4, 0, [0], []) rfl rfl rfl ?_
  refine bGo hA 0 4 (6, .iload_n 2, 1, 5, 0, [2], []) rfl rfl rfl ?_
  refine bGo hA 0 5 (7, .putfield 25, 3, 6, 0, [4, 1, 0, 0, 0, 0], []) rfl rfl rfl ?_
  refine ⟨h_a0, ?_⟩
  refine bGo hA 0 6 (10, .aload_n 0, 1, 7, 0, [0], []) rfl rfl rfl ?_
  refine bGo hA 0 7 (11, .iload_n 3, 1, 8, 0, [3], []) rfl rfl rfl ?_
  refine bGo hA 0 8 (12, .putfield 28, 3, 9, 0, [4, 2, 0, 0, 0, 0], []) rfl rfl rfl ?_
  refine ⟨h_a0, ?_⟩
  refine bGo hA 0 9 (15, .return_, 1, 0, 0, [0], []) rfl rfl rfl ?_
  exact h


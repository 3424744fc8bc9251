/-! segments of methods 40,41,42,257-260,264, by program (wip/whole/gen13.py): from a cut of a method on to the next cuts -/
theorem sq40_0 {lvl : Nat} {C : bCall} {Q : bPost} {A : bPt → Prop} (hC : bMono C) (hA : bClosed lvl bm40 C Q A) {a0 : Nat} {x2 : Int} {σ : bSt} (h_a0 : a0 % 256 = 4) (h_x2 : bRg x2)
  (h : (bRg ((bi (bw (bw σ a0 5 0) a0 7 0) a0 1) + (bi (bw (bw σ a0 5 0) a0 7 0) a0 2)) ∧ A (16, [.ref a0, .ref 3, .int (bn x2), .int (bn ((bi (bw (bw σ a0 5 0) a0 7 0) a0 1) + (bi (bw (bw σ a0 5 0) a0 7 0) a0 2))), .int (bn 0), .int (bn 0), .float 0], [], (bw (bw σ a0 5 0) a0 7 0)))) : A (0, [.ref a0, .ref 3, .int (bn x2), .float 0, .float 0, .float 0, .float 0], [], σ) := by
  refine bGo hA 0 0 (0, .aload_n 0, 1, 1, 0, [0], []) rfl rfl rfl ?_
  refine bGo hA 0 1 (1, .iconst (0), 1, 2, 0, [], [(0, 0)]) rfl rfl rfl ?_
  refine bEqI bl_0 ?_
  refine bGo hA 0 2 (2, .putfield 31, 3, 3, 0, [4, 5, 0, 0, 0, 0], []) rfl rfl rfl ?_
  refine ⟨h_a0, ?_⟩
  refine bGo hA 0 3 (5, .aload_n 0, 1, 4, 0, [0], []) rfl rfl rfl ?_
  refine bGo hA 0 4 (6, .iconst (0), 1, 5, 0, [], [(0, 0)]) rfl rfl rfl ?_
  refine bEqI bl_0 ?_
  refine bGo hA 0 5 (7, .putfield 38, 3, 6, 0, [4, 7, 1, 0, 0, 0], []) rfl rfl rfl ?_
  refine ⟨h_a0, b01 (Or.inl rfl), ?_⟩
  refine bGo hA 0 6 (10, .aload_n 0, 1, 7, 0, [0], []) rfl rfl rfl ?_
  refine bGo hA 0 7 (11, .getfield 25, 3, 8, 0, [4, 1, 0, 0, 0, 0], []) rfl rfl rfl ?_
  refine ⟨h_a0, ?_⟩
  refine bEqI (bn_bi (bw (bw σ a0 5 0) a0 7 0) a0 1) ?_
  refine bGo hA 0 8 (14, .aload_n 0, 1, 9, 0, [0], []) rfl rfl rfl ?_
  refine bGo hA 0 9 (15, .getfield 28, 3, 10, 0, [4, 2, 0, 0, 0, 0], []) rfl rfl rfl ?_
  refine ⟨h_a0, ?_⟩
  refine bEqI (bn_bi (bw (bw σ a0 5 0) a0 7 0) a0 2) ?_
  refine bGo hA 0 10 (18, .iadd, 1, 11, 0, [], []) rfl rfl rfl ?_
  refine bEqI (bn_add (bi (bw (bw σ a0 5 0) a0 7 0) a0 1) (bi (bw (bw σ a0 5 0) a0 7 0) a0 2)) ?_
  refine bGo hA 0 11 (19, .istore_n 3, 1, 12, 0, [3], []) rfl rfl rfl ?_
  refine bGo hA 0 12 (20, .iconst (0), 1, 13, 0, [], [(0, 0)]) rfl rfl rfl ?_
  refine bEqI bl_0 ?_
  refine bGo hA 0 13 (21, .istore 4, 2, 14, 0, [4], []) rfl rfl rfl ?_
  refine bGo hA 0 14 (23, .iconst (0), 1, 15, 0, [], [(0, 0)]) rfl rfl rfl ?_
  refine bEqI bl_0 ?_
  refine bGo hA 0 15 (24, .istore 5, 2, 16, 0, [5], []) rfl rfl rfl ?_
  exact h.2

theorem sq40_16 {lvl : Nat} {C : bCall} {Q : bPost} {A : bPt → Prop} (hC : bMono C) (hA : bClosed lvl bm40 C Q A) {l0 : Nat} {l2 : Int} {l3 : Int} {l4 : Int} {l5 : Int} {v6 : Value} {σ : bSt}  (h_l2 : bRg l2) (h_l3 : bRg l3) (h_l4 : bRg l4) (h_l5 : bRg l5)
  (h : (l0 % 256 = 4 ∧ ((l5 < (bi σ l0 3) → (¬ bTy (256 * (1 * (l0 / 256) + 0) + 22) = 9 ∧ (bRg (bLen σ (256 * (1 * (l0 / 256) + 0) + 22) : Int) ∧ ((l5 < (bLen σ (256 * (1 * (l0 / 256) + 0) + 22) : Int) → (bTy (256 * (1 * (l0 / 256) + 0) + 22) = 0 ∧ ((0 ≤ l5 ∧ l5 < (bLen σ (256 * (1 * (l0 / 256) + 0) + 22) : Int)) ∧ A (31, [.ref l0, .ref 3, .int (bn l2), .int (bn l3), .int (bn l4), .int (bn l5), v6], [.int (bn (bi σ (256 * (1 * (l0 / 256) + 0) + 22) l5))], σ)))) ∧ (¬ l5 < (bLen σ (256 * (1 * (l0 / 256) + 0) + 22) : Int) → A (31, [.ref l0, .ref 3, .int (bn l2), .int (bn l3), .int (bn l4), .int (bn l5), v6], [.int (bn 0)], σ)))))) ∧ (¬ l5 < (bi σ l0 3) → (((bi σ l0 0) = 4 → (0 ≤ l3 ∧ (((l3 % 7) = 0 → Q (.inl none) (bw σ l0 8 (-1))) ∧ (¬ (l3 % 7) = 0 → (bRg ((bi σ l0 1) + (bi σ l0 2)) ∧ (0 ≤ ((bi σ l0 1) + (bi σ l0 2)) ∧ Q (.inl none) (bw σ l0 8 (((bi σ l0 1) + (bi σ l0 2)) % 1000)))))))) ∧ (¬ (bi σ l0 0) = 4 → (((bi σ l0 0) = 5 → (C 41 [.ref l0, .ref 3, .int (bn l2)] σ (bRn (fun r8 s6 => (bRg (l3 + r8) ∧ (0 ≤ (l3 + r8) ∧ Q (.inl none) (bw s6 l0 8 ((l3 + r8) % 1000)))))))) ∧ (¬ (bi σ l0 0) = 5 → (((bi σ l0 0) = 2 → (bRg (l3 + l4) ∧ (0 ≤ (l3 + l4) ∧ Q (.inl none) (bw σ l0 8 ((l3 + l4) % 1000))))) ∧ (¬ (bi σ l0 0) = 2 → (((bi σ l0 0) = 3 → (bRg (l3 + (bi σ l0 3)) ∧ (0 ≤ (l3 + (bi σ l0 3)) ∧ Q (.inl none) (bw σ l0 8 ((l3 + (bi σ l0 3)) % 1000))))) ∧ (¬ (bi σ l0 0) = 3 → (bRg (l3 + 0) ∧ (0 ≤ (l3 + 0) ∧ Q (.inl none) (bw σ l0 8 ((l3 + 0) % 1000)))))))))))))))) : A (16, [.ref l0, .ref 3, .int (bn l2), .int (bn l3), .int (bn l4), .int (bn l5), v6], [], σ) := by
  refine bGo hA 1 0 (26, .iload 5, 2, 17, 0, [5], []) rfl rfl rfl ?_
  refine bGo hA 1 1 (28, .aload_n 0, 1, 18, 0, [0], []) rfl rfl rfl ?_
  refine bGo hA 1 2 (29, .getfield 42, 3, 19, 0, [4, 3, 0, 0, 0, 0], []) rfl rfl rfl ?_
  refine ⟨h.1, ?_⟩
  refine bEqI (bn_bi σ l0 3) ?_
  refine bGo hA 1 3 (32, .if_icmp .ge (101), 3, 20, 73, [], []) rfl rfl rfl ?_
  refine bB_lt (x := l5) (y := (bi σ l0 3)) h_l5 (bi_rg _ _ _) (fun c1 => ?_) (fun c1 => ?_)
  · refine bGo hA 1 4 (35, .iload 5, 2, 21, 0, [5], []) rfl rfl rfl ?_
    refine bGo hA 1 5 (37, .aload_n 0, 1, 22, 0, [0], []) rfl rfl rfl ?_
    refine bGo hA 1 6 (38, .getfield 15, 3, 23, 0, [4, 4, 3, 22, 1, 0], []) rfl rfl rfl ?_
    refine ⟨h.1, ?_⟩
    refine bGo hA 1 7 (41, .arraylength, 1, 24, 0, [], []) rfl rfl rfl ?_
    refine ⟨(h.2.1 c1).1, ?_⟩
    refine bEqI (bn_nat _).symm ?_
    refine bGo hA 1 8 (42, .if_icmp .ge (13), 3, 25, 30, [], []) rfl rfl rfl ?_
    refine bB_lt (x := l5) (y := (bLen σ (256 * (1 * (l0 / 256) + 0) + 22) : Int)) h_l5 (h.2.1 c1).2.1 (fun c2 => ?_) (fun c2 => ?_)
    · refine bGo hA 1 9 (45, .aload_n 0, 1, 26, 0, [0], []) rfl rfl rfl ?_
      refine bGo hA 1 10 (46, .getfield 15, 3, 27, 0, [4, 4, 3, 22, 1, 0], []) rfl rfl rfl ?_
      refine ⟨h.1, ?_⟩
      refine bGo hA 1 11 (49, .iload 5, 2, 28, 0, [5], []) rfl rfl rfl ?_
      refine bGo hA 1 12 (51, .iaload, 1, 29, 0, [], []) rfl rfl rfl ?_
      refine ⟨((h.2.1 c1).2.2.1 c2).1, (bIxP (x := l5) (n := bLen σ (256 * (1 * (l0 / 256) + 0) + 22)) h_l5 ((h.2.1 c1).2.2.1 c2).2.1), ?_⟩
      refine bEqL (x := l5) h_l5 ?_
      refine bGo hA 1 13 (52, .goto (4), 3, 30, 31, [], []) rfl rfl rfl ?_
      exact ((h.2.1 c1).2.2.1 c2).2.2
    · refine bGo hA 1 14 (55, .iconst (0), 1, 31, 0, [], [(0, 0)]) rfl rfl rfl ?_
      refine bEqI bl_0 ?_
      exact ((h.2.1 c1).2.2.2 c2)
  · refine bGo hA 4 9 (133, .aload_n 0, 1, 74, 0, [0], []) rfl rfl rfl ?_
    refine bGo hA 4 10 (134, .getfield 9, 3, 75, 0, [4, 0, 0, 0, 0, 0], []) rfl rfl rfl ?_
    refine ⟨h.1, ?_⟩
    refine bEqI (bn_bi σ l0 0) ?_
    refine bGo hA 4 11 (137, .iconst (4), 1, 76, 0, [], [(4, 0)]) rfl rfl rfl ?_
    refine bEqI bl_4 ?_
    refine bGo hA 4 12 (138, .if_icmp .ne (34), 3, 77, 93, [], []) rfl rfl rfl ?_
    refine bB_eq (x := (bi σ l0 0)) (y := 4) (bi_rg _ _ _) (by decide : bRg 4) (fun c3 => ?_) (fun c3 => ?_)
    · refine bGo hA 4 13 (141, .aload_n 0, 1, 78, 0, [0], []) rfl rfl rfl ?_
      refine bGo hA 4 14 (142, .iload_n 3, 1, 79, 0, [3], []) rfl rfl rfl ?_
      refine bGo hA 4 15 (143, .bipush (7), 2, 80, 0, [], [(7, 0)]) rfl rfl rfl ?_
      refine bEqI bl_7 ?_
      refine bGo hA 5 0 (145, .irem, 1, 81, 0, [], []) rfl rfl rfl ?_
      refine ⟨by decide, ?_⟩
      refine bEqI (bn_rem h_l3 (by decide) ((h.2.2 c1).1 c3).1) ?_
      refine bGo hA 5 1 (146, .ifCond .ne (7), 3, 82, 84, [], []) rfl rfl rfl ?_
      refine bB_eq0 (x := (l3 % 7)) (bRg_mod (by decide) (by decide)) (fun c4 => ?_) (fun c4 => ?_)
      · refine bGo hA 5 2 (149, .iconst (-1), 1, 83, 0, [], [(-1, 0)]) rfl rfl rfl ?_
        refine bEqI bl_m1 ?_
        refine bGo hA 5 3 (150, .goto (16), 3, 84, 91, [], []) rfl rfl rfl ?_
        refine bGo hA 5 11 (166, .putfield 22, 3, 92, 0, [4, 8, 0, 0, 0, 0], []) rfl rfl rfl ?_
        refine ⟨h.1, ?_⟩
        refine bGo hA 5 12 (169, .goto (69), 3, 93, 128, [], []) rfl rfl rfl ?_
        refine bGo hA 8 0 (238, .return_, 1, 0, 0, [0], []) rfl rfl rfl ?_
        exact (((h.2.2 c1).1 c3).2.1 c4)
      · refine bGo hA 5 4 (153, .aload_n 0, 1, 85, 0, [0], []) rfl rfl rfl ?_
        refine bGo hA 5 5 (154, .getfield 25, 3, 86, 0, [4, 1, 0, 0, 0, 0], []) rfl rfl rfl ?_
        refine ⟨h.1, ?_⟩
        refine bEqI (bn_bi σ l0 1) ?_
        refine bGo hA 5 6 (157, .aload_n 0, 1, 87, 0, [0], []) rfl rfl rfl ?_
        refine bGo hA 5 7 (158, .getfield 28, 3, 88, 0, [4, 2, 0, 0, 0, 0], []) rfl rfl rfl ?_
        refine ⟨h.1, ?_⟩
        refine bEqI (bn_bi σ l0 2) ?_
        refine bGo hA 5 8 (161, .iadd, 1, 89, 0, [], []) rfl rfl rfl ?_
        refine bEqI (bn_add (bi σ l0 1) (bi σ l0 2)) ?_
        refine bGo hA 5 9 (162, .sipush (1000), 3, 90, 0, [], [(1000, 0)]) rfl rfl rfl ?_
        refine bEqI bl_1000 ?_
        refine bGo hA 5 10 (165, .irem, 1, 91, 0, [], []) rfl rfl rfl ?_
        refine ⟨by decide, ?_⟩
        refine bEqI (bn_rem (((h.2.2 c1).1 c3).2.2 c4).1 (by decide) (((h.2.2 c1).1 c3).2.2 c4).2.1) ?_
        refine bGo hA 5 11 (166, .putfield 22, 3, 92, 0, [4, 8, 0, 0, 0, 0], []) rfl rfl rfl ?_
        refine ⟨h.1, ?_⟩
        refine bGo hA 5 12 (169, .goto (69), 3, 93, 128, [], []) rfl rfl rfl ?_
        refine bGo hA 8 0 (238, .return_, 1, 0, 0, [0], []) rfl rfl rfl ?_
        exact (((h.2.2 c1).1 c3).2.2 c4).2.2
    · refine bGo hA 5 13 (172, .aload_n 0, 1, 94, 0, [0], []) rfl rfl rfl ?_
      refine bGo hA 5 14 (173, .getfield 9, 3, 95, 0, [4, 0, 0, 0, 0, 0], []) rfl rfl rfl ?_
      refine ⟨h.1, ?_⟩
      refine bEqI (bn_bi σ l0 0) ?_
      refine bGo hA 5 15 (176, .iconst (5), 1, 96, 0, [], [(5, 0)]) rfl rfl rfl ?_
      refine bEqI bl_5 ?_
      refine bGo hA 6 0 (177, .if_icmp .ne (22), 3, 97, 108, [], []) rfl rfl rfl ?_
      refine bB_eq (x := (bi σ l0 0)) (y := 5) (bi_rg _ _ _) (by decide : bRg 5) (fun c5 => ?_) (fun c5 => ?_)
      · refine bGo hA 6 1 (180, .aload_n 0, 1, 98, 0, [0], []) rfl rfl rfl ?_
        refine bGo hA 6 2 (181, .iload_n 3, 1, 99, 0, [3], []) rfl rfl rfl ?_
        refine bGo hA 6 3 (182, .aload_n 0, 1, 100, 0, [0], []) rfl rfl rfl ?_
        refine bGo hA 6 4 (183, .aload_n 1, 1, 101, 0, [1], []) rfl rfl rfl ?_
        refine bGo hA 6 5 (184, .iload_n 2, 1, 102, 0, [2], []) rfl rfl rfl ?_
        refine bGo hA 6 6 (185, .invokevirtual 51, 3, 103, 0, [0, 4, 41, 2], []) rfl rfl rfl ?_
        refine ⟨h.1, ?_⟩
        refine hC _ _ _ _ _ (bRn_e (fun r8 s6 q9 k7 => ?_)) (((h.2.2 c1).2 c3).1 c5)
        show A (103, [.ref l0, .ref 3, .int (bn l2), .int (bn l3), .int (bn l4), .int (bn l5), v6], [.int (bn r8), .int (bn l3), .ref l0], s6)
        refine bGo hA 6 7 (188, .iadd, 1, 104, 0, [], []) rfl rfl rfl ?_
        refine bEqI (bn_add l3 r8) ?_
        refine bGo hA 6 8 (189, .sipush (1000), 3, 105, 0, [], [(1000, 0)]) rfl rfl rfl ?_
        refine bEqI bl_1000 ?_
        refine bGo hA 6 9 (192, .irem, 1, 106, 0, [], []) rfl rfl rfl ?_
        refine ⟨by decide, ?_⟩
        refine bEqI (bn_rem k7.1 (by decide) k7.2.1) ?_
        refine bGo hA 6 10 (193, .putfield 22, 3, 107, 0, [4, 8, 0, 0, 0, 0], []) rfl rfl rfl ?_
        refine ⟨h.1, ?_⟩
        refine bGo hA 6 11 (196, .goto (42), 3, 108, 128, [], []) rfl rfl rfl ?_
        refine bGo hA 8 0 (238, .return_, 1, 0, 0, [0], []) rfl rfl rfl ?_
        exact k7.2.2
      · refine bGo hA 6 12 (199, .aload_n 0, 1, 109, 0, [0], []) rfl rfl rfl ?_
        refine bGo hA 6 13 (200, .iload_n 3, 1, 110, 0, [3], []) rfl rfl rfl ?_
        refine bGo hA 6 14 (201, .aload_n 0, 1, 111, 0, [0], []) rfl rfl rfl ?_
        refine bGo hA 6 15 (202, .getfield 9, 3, 112, 0, [4, 0, 0, 0, 0, 0], []) rfl rfl rfl ?_
        refine ⟨h.1, ?_⟩
        refine bEqI (bn_bi σ l0 0) ?_
        refine bGo hA 7 0 (205, .iconst (2), 1, 113, 0, [], [(2, 0)]) rfl rfl rfl ?_
        refine bEqI bl_2 ?_
        refine bGo hA 7 1 (206, .if_icmp .ne (8), 3, 114, 116, [], []) rfl rfl rfl ?_
        refine bB_eq (x := (bi σ l0 0)) (y := 2) (bi_rg _ _ _) (by decide : bRg 2) (fun c10 => ?_) (fun c10 => ?_)
        · refine bGo hA 7 2 (209, .iload 4, 2, 115, 0, [4], []) rfl rfl rfl ?_
          refine bGo hA 7 3 (211, .goto (19), 3, 116, 124, [], []) rfl rfl rfl ?_
          refine bGo hA 7 12 (230, .iadd, 1, 125, 0, [], []) rfl rfl rfl ?_
          refine bEqI (bn_add l3 l4) ?_
          refine bGo hA 7 13 (231, .sipush (1000), 3, 126, 0, [], [(1000, 0)]) rfl rfl rfl ?_
          refine bEqI bl_1000 ?_
          refine bGo hA 7 14 (234, .irem, 1, 127, 0, [], []) rfl rfl rfl ?_
          refine ⟨by decide, ?_⟩
          refine bEqI (bn_rem ((((h.2.2 c1).2 c3).2 c5).1 c10).1 (by decide) ((((h.2.2 c1).2 c3).2 c5).1 c10).2.1) ?_
          refine bGo hA 7 15 (235, .putfield 22, 3, 128, 0, [4, 8, 0, 0, 0, 0], []) rfl rfl rfl ?_
          refine ⟨h.1, ?_⟩
          refine bGo hA 8 0 (238, .return_, 1, 0, 0, [0], []) rfl rfl rfl ?_
          exact ((((h.2.2 c1).2 c3).2 c5).1 c10).2.2
        · refine bGo hA 7 4 (214, .aload_n 0, 1, 117, 0, [0], []) rfl rfl rfl ?_
          refine bGo hA 7 5 (215, .getfield 9, 3, 118, 0, [4, 0, 0, 0, 0, 0], []) rfl rfl rfl ?_
          refine ⟨h.1, ?_⟩
          refine bEqI (bn_bi σ l0 0) ?_
          refine bGo hA 7 6 (218, .iconst (3), 1, 119, 0, [], [(3, 0)]) rfl rfl rfl ?_
          refine bEqI bl_3 ?_
          refine bGo hA 7 7 (219, .if_icmp .ne (10), 3, 120, 123, [], []) rfl rfl rfl ?_
          refine bB_eq (x := (bi σ l0 0)) (y := 3) (bi_rg _ _ _) (by decide : bRg 3) (fun c11 => ?_) (fun c11 => ?_)
          · refine bGo hA 7 8 (222, .aload_n 0, 1, 121, 0, [0], []) rfl rfl rfl ?_
            refine bGo hA 7 9 (223, .getfield 42, 3, 122, 0, [4, 3, 0, 0, 0, 0], []) rfl rfl rfl ?_
            refine ⟨h.1, ?_⟩
            refine bEqI (bn_bi σ l0 3) ?_
            refine bGo hA 7 10 (226, .goto (4), 3, 123, 124, [], []) rfl rfl rfl ?_
            refine bGo hA 7 12 (230, .iadd, 1, 125, 0, [], []) rfl rfl rfl ?_
            refine bEqI (bn_add l3 (bi σ l0 3)) ?_
            refine bGo hA 7 13 (231, .sipush (1000), 3, 126, 0, [], [(1000, 0)]) rfl rfl rfl ?_
            refine bEqI bl_1000 ?_
            refine bGo hA 7 14 (234, .irem, 1, 127, 0, [], []) rfl rfl rfl ?_
            refine ⟨by decide, ?_⟩
            refine bEqI (bn_rem (((((h.2.2 c1).2 c3).2 c5).2 c10).1 c11).1 (by decide) (((((h.2.2 c1).2 c3).2 c5).2 c10).1 c11).2.1) ?_
            refine bGo hA 7 15 (235, .putfield 22, 3, 128, 0, [4, 8, 0, 0, 0, 0], []) rfl rfl rfl ?_
            refine ⟨h.1, ?_⟩
            refine bGo hA 8 0 (238, .return_, 1, 0, 0, [0], []) rfl rfl rfl ?_
            exact (((((h.2.2 c1).2 c3).2 c5).2 c10).1 c11).2.2
          · refine bGo hA 7 11 (229, .iconst (0), 1, 124, 0, [], [(0, 0)]) rfl rfl rfl ?_
            refine bEqI bl_0 ?_
            refine bGo hA 7 12 (230, .iadd, 1, 125, 0, [], []) rfl rfl rfl ?_
            refine bEqI (bn_add l3 0) ?_
            refine bGo hA 7 13 (231, .sipush (1000), 3, 126, 0, [], [(1000, 0)]) rfl rfl rfl ?_
            refine bEqI bl_1000 ?_
            refine bGo hA 7 14 (234, .irem, 1, 127, 0, [], []) rfl rfl rfl ?_
            refine ⟨by decide, ?_⟩
            refine bEqI (bn_rem (((((h.2.2 c1).2 c3).2 c5).2 c10).2 c11).1 (by decide) (((((h.2.2 c1).2 c3).2 c5).2 c10).2 c11).2.1) ?_
            refine bGo hA 7 15 (235, .putfield 22, 3, 128, 0, [4, 8, 0, 0, 0, 0], []) rfl rfl rfl ?_
            refine ⟨h.1, ?_⟩
            refine bGo hA 8 0 (238, .return_, 1, 0, 0, [0], []) rfl rfl rfl ?_
            exact (((((h.2.2 c1).2 c3).2 c5).2 c10).2 c11).2.2

theorem sq40_31 {lvl : Nat} {C : bCall} {Q : bPost} {A : bPt → Prop} (hC : bMono C) (hA : bClosed lvl bm40 C Q A) {l0 : Nat} {l2 : Int} {l3 : Int} {l4 : Int} {l5 : Int} {v6 : Value} {t0 : Int} {σ : bSt}  (h_l2 : bRg l2) (h_l3 : bRg l3) (h_l4 : bRg l4) (h_l5 : bRg l5) (h_t0 : bRg t0)
  (h : (C 359 [.int (bn l4), .int (bn t0)] σ (bRn (fun r3 s1 => (l0 % 256 = 4 ∧ (((bi s1 l0 0) = 0 → (bRg (l5 + 1) ∧ (bRg ((l5 + 1) * t0) ∧ (bRg (l3 + ((l5 + 1) * t0)) ∧ A (16, [.ref l0, .ref 3, .int (bn l2), .int (bn (l3 + ((l5 + 1) * t0))), .int (bn r3), .int (bn (l5 + 1)), .int (bn t0)], [], s1))))) ∧ (¬ (bi s1 l0 0) = 0 → (((bi s1 l0 0) = 1 → (0 ≤ t0 ∧ (bRg (l3 + (t0 / 10)) ∧ (bRg (l5 + 1) ∧ A (16, [.ref l0, .ref 3, .int (bn l2), .int (bn (l3 + (t0 / 10))), .int (bn r3), .int (bn (l5 + 1)), .int (bn t0)], [], s1))))) ∧ (¬ (bi s1 l0 0) = 1 → (((bi s1 l0 0) = 4 → (bRg (l3 + t0) ∧ (bRg (l5 + 1) ∧ A (16, [.ref l0, .ref 3, .int (bn l2), .int (bn (l3 + t0)), .int (bn r3), .int (bn (l5 + 1)), .int (bn t0)], [], s1)))) ∧ (¬ (bi s1 l0 0) = 4 → (((bi s1 l0 0) = 5 → (bRg (l3 + t0) ∧ (bRg (l5 + 1) ∧ A (16, [.ref l0, .ref 3, .int (bn l2), .int (bn (l3 + t0)), .int (bn r3), .int (bn (l5 + 1)), .int (bn t0)], [], s1)))) ∧ (¬ (bi s1 l0 0) = 5 → (bRg (l5 + 1) ∧ A (16, [.ref l0, .ref 3, .int (bn l2), .int (bn l3), .int (bn r3), .int (bn (l5 + 1)), .int (bn t0)], [], s1))))))))))))))) : A (31, [.ref l0, .ref 3, .int (bn l2), .int (bn l3), .int (bn l4), .int (bn l5), v6], [.int (bn t0)], σ) := by
  refine bGo hA 1 15 (56, .istore 6, 2, 32, 0, [6], []) rfl rfl rfl ?_
  refine bGo hA 2 0 (58, .iload 4, 2, 33, 0, [4], []) rfl rfl rfl ?_
  refine bGo hA 2 1 (60, .iload 6, 2, 34, 0, [6], []) rfl rfl rfl ?_
  refine bGo hA 2 2 (62, .invokestatic 45, 3, 35, 0, [2, 359, 2], []) rfl rfl rfl ?_
  refine hC _ _ _ _ _ (bRn_e (fun r3 s1 q4 k2 => ?_)) h
  show A (35, [.ref l0, .ref 3, .int (bn l2), .int (bn l3), .int (bn l4), .int (bn l5), .int (bn t0)], [.int (bn r3)], s1)
  refine bGo hA 2 3 (65, .istore 4, 2, 36, 0, [4], []) rfl rfl rfl ?_
  refine bGo hA 2 4 (67, .aload_n 0, 1, 37, 0, [0], []) rfl rfl rfl ?_
  refine bGo hA 2 5 (68, .getfield 9, 3, 38, 0, [4, 0, 0, 0, 0, 0], []) rfl rfl rfl ?_
  refine ⟨k2.1, ?_⟩
  refine bEqI (bn_bi s1 l0 0) ?_
  refine bGo hA 2 6 (71, .ifCond .ne (16), 3, 39, 48, [], []) rfl rfl rfl ?_
  refine bB_eq0 (x := (bi s1 l0 0)) (bi_rg _ _ _) (fun c5 => ?_) (fun c5 => ?_)
  · refine bGo hA 2 7 (74, .iload_n 3, 1, 40, 0, [3], []) rfl rfl rfl ?_
    refine bGo hA 2 8 (75, .iload 5, 2, 41, 0, [5], []) rfl rfl rfl ?_
    refine bGo hA 2 9 (77, .iconst (1), 1, 42, 0, [], [(1, 0)]) rfl rfl rfl ?_
    refine bEqI bl_1 ?_
    refine bGo hA 2 10 (78, .iadd, 1, 43, 0, [], []) rfl rfl rfl ?_
    refine bEqI (bn_add l5 1) ?_
    refine bGo hA 2 11 (79, .iload 6, 2, 44, 0, [6], []) rfl rfl rfl ?_
    refine bGo hA 2 12 (81, .imul, 1, 45, 0, [], []) rfl rfl rfl ?_
    refine bEqI (bn_mul (l5 + 1) t0) ?_
    refine bGo hA 2 13 (82, .iadd, 1, 46, 0, [], []) rfl rfl rfl ?_
    refine bEqI (bn_add l3 ((l5 + 1) * t0)) ?_
    refine bGo hA 2 14 (83, .istore_n 3, 1, 47, 0, [3], []) rfl rfl rfl ?_
    refine bGo hA 2 15 (84, .goto (43), 3, 48, 71, [], []) rfl rfl rfl ?_
    refine bGo hA 4 7 (127, .iinc 5 (1), 3, 72, 0, [5], [(1, 0)]) rfl rfl rfl ?_
    refine bEqC (fun v => A (72, [.ref l0, .ref 3, .int (bn l2), .int (bn (l3 + ((l5 + 1) * t0))), .int (bn r3), .int v, .int (bn t0)], [], s1)) ((congrArg (fun w => bn l5 + w) bl_1).trans (bn_add l5 1)) ?_
    refine bGo hA 4 8 (130, .goto (-104), 3, 73, 16, [], []) rfl rfl rfl ?_
    exact (k2.2.1 c5).2.2.2
  · refine bGo hA 3 0 (87, .aload_n 0, 1, 49, 0, [0], []) rfl rfl rfl ?_
    refine bGo hA 3 1 (88, .getfield 9, 3, 50, 0, [4, 0, 0, 0, 0, 0], []) rfl rfl rfl ?_
    refine ⟨k2.1, ?_⟩
    refine bEqI (bn_bi s1 l0 0) ?_
    refine bGo hA 3 2 (91, .iconst (1), 1, 51, 0, [], [(1, 0)]) rfl rfl rfl ?_
    refine bEqI bl_1 ?_
    refine bGo hA 3 3 (92, .if_icmp .ne (14), 3, 52, 59, [], []) rfl rfl rfl ?_
    refine bB_eq (x := (bi s1 l0 0)) (y := 1) (bi_rg _ _ _) (by decide : bRg 1) (fun c6 => ?_) (fun c6 => ?_)
    · refine bGo hA 3 4 (95, .iload_n 3, 1, 53, 0, [3], []) rfl rfl rfl ?_
      refine bGo hA 3 5 (96, .iload 6, 2, 54, 0, [6], []) rfl rfl rfl ?_
      refine bGo hA 3 6 (98, .bipush (10), 2, 55, 0, [], [(10, 0)]) rfl rfl rfl ?_
      refine bEqI bl_10 ?_
      refine bGo hA 3 7 (100, .idiv, 1, 56, 0, [], []) rfl rfl rfl ?_
      refine ⟨by decide, ?_⟩
      refine bEqI (bn_div h_t0 (by decide) ((k2.2.2 c5).1 c6).1) ?_
      refine bGo hA 3 8 (101, .iadd, 1, 57, 0, [], []) rfl rfl rfl ?_
      refine bEqI (bn_add l3 (t0 / 10)) ?_
      refine bGo hA 3 9 (102, .istore_n 3, 1, 58, 0, [3], []) rfl rfl rfl ?_
      refine bGo hA 3 10 (103, .goto (24), 3, 59, 71, [], []) rfl rfl rfl ?_
      refine bGo hA 4 7 (127, .iinc 5 (1), 3, 72, 0, [5], [(1, 0)]) rfl rfl rfl ?_
      refine bEqC (fun v => A (72, [.ref l0, .ref 3, .int (bn l2), .int (bn (l3 + (t0 / 10))), .int (bn r3), .int v, .int (bn t0)], [], s1)) ((congrArg (fun w => bn l5 + w) bl_1).trans (bn_add l5 1)) ?_
      refine bGo hA 4 8 (130, .goto (-104), 3, 73, 16, [], []) rfl rfl rfl ?_
      exact ((k2.2.2 c5).1 c6).2.2.2
    · refine bGo hA 3 11 (106, .aload_n 0, 1, 60, 0, [0], []) rfl rfl rfl ?_
      refine bGo hA 3 12 (107, .getfield 9, 3, 61, 0, [4, 0, 0, 0, 0, 0], []) rfl rfl rfl ?_
      refine ⟨k2.1, ?_⟩
      refine bEqI (bn_bi s1 l0 0) ?_
      refine bGo hA 3 13 (110, .iconst (4), 1, 62, 0, [], [(4, 0)]) rfl rfl rfl ?_
      refine bEqI bl_4 ?_
      refine bGo hA 3 14 (111, .if_icmp .eq (11), 3, 63, 67, [], []) rfl rfl rfl ?_
      refine bB_eq (x := (bi s1 l0 0)) (y := 4) (bi_rg _ _ _) (by decide : bRg 4) (fun c7 => ?_) (fun c7 => ?_)
      · refine bGo hA 4 3 (122, .iload_n 3, 1, 68, 0, [3], []) rfl rfl rfl ?_
        refine bGo hA 4 4 (123, .iload 6, 2, 69, 0, [6], []) rfl rfl rfl ?_
        refine bGo hA 4 5 (125, .iadd, 1, 70, 0, [], []) rfl rfl rfl ?_
        refine bEqI (bn_add l3 t0) ?_
        refine bGo hA 4 6 (126, .istore_n 3, 1, 71, 0, [3], []) rfl rfl rfl ?_
        refine bGo hA 4 7 (127, .iinc 5 (1), 3, 72, 0, [5], [(1, 0)]) rfl rfl rfl ?_
        refine bEqC (fun v => A (72, [.ref l0, .ref 3, .int (bn l2), .int (bn (l3 + t0)), .int (bn r3), .int v, .int (bn t0)], [], s1)) ((congrArg (fun w => bn l5 + w) bl_1).trans (bn_add l5 1)) ?_
        refine bGo hA 4 8 (130, .goto (-104), 3, 73, 16, [], []) rfl rfl rfl ?_
        exact (((k2.2.2 c5).2 c6).1 c7).2.2
      · refine bGo hA 3 15 (114, .aload_n 0, 1, 64, 0, [0], []) rfl rfl rfl ?_
        refine bGo hA 4 0 (115, .getfield 9, 3, 65, 0, [4, 0, 0, 0, 0, 0], []) rfl rfl rfl ?_
        refine ⟨k2.1, ?_⟩
        refine bEqI (bn_bi s1 l0 0) ?_
        refine bGo hA 4 1 (118, .iconst (5), 1, 66, 0, [], [(5, 0)]) rfl rfl rfl ?_
        refine bEqI bl_5 ?_
        refine bGo hA 4 2 (119, .if_icmp .ne (8), 3, 67, 71, [], []) rfl rfl rfl ?_
        refine bB_eq (x := (bi s1 l0 0)) (y := 5) (bi_rg _ _ _) (by decide : bRg 5) (fun c8 => ?_) (fun c8 => ?_)
        · refine bGo hA 4 3 (122, .iload_n 3, 1, 68, 0, [3], []) rfl rfl rfl ?_
          refine bGo hA 4 4 (123, .iload 6, 2, 69, 0, [6], []) rfl rfl rfl ?_
          refine bGo hA 4 5 (125, .iadd, 1, 70, 0, [], []) rfl rfl rfl ?_
          refine bEqI (bn_add l3 t0) ?_
          refine bGo hA 4 6 (126, .istore_n 3, 1, 71, 0, [3], []) rfl rfl rfl ?_
          refine bGo hA 4 7 (127, .iinc 5 (1), 3, 72, 0, [5], [(1, 0)]) rfl rfl rfl ?_
          refine bEqC (fun v => A (72, [.ref l0, .ref 3, .int (bn l2), .int (bn (l3 + t0)), .int (bn r3), .int v, .int (bn t0)], [], s1)) ((congrArg (fun w => bn l5 + w) bl_1).trans (bn_add l5 1)) ?_
          refine bGo hA 4 8 (130, .goto (-104), 3, 73, 16, [], []) rfl rfl rfl ?_
          exact ((((k2.2.2 c5).2 c6).2 c7).1 c8).2.2
        · refine bGo hA 4 7 (127, .iinc 5 (1), 3, 72, 0, [5], [(1, 0)]) rfl rfl rfl ?_
          refine bEqC (fun v => A (72, [.ref l0, .ref 3, .int (bn l2), .int (bn l3), .int (bn r3), .int v, .int (bn t0)], [], s1)) ((congrArg (fun w => bn l5 + w) bl_1).trans (bn_add l5 1)) ?_
          refine bGo hA 4 8 (130, .goto (-104), 3, 73, 16, [], []) rfl rfl rfl ?_
          exact ((((k2.2.2 c5).2 c6).2 c7).2 c8).2

theorem sq41_0 {lvl : Nat} {C : bCall} {Q : bPost} {A : bPt → Prop} (hC : bMono C) (hA : bClosed lvl bm41 C Q A) {a0 : Nat} {x2 : Int} {σ : bSt} (h_a0 : a0 % 256 = 4) (h_x2 : bRg x2)
  (h : A (6, [.ref a0, .ref 3, .int (bn x2), .int (bn 0), .long (Int64.ofNat 0), .float 0, .int (bn 0), .float 0, .float 0, .float 0, .float 0], [], σ)) : A (0, [.ref a0, .ref 3, .int (bn x2), .float 0, .float 0, .float 0, .float 0, .float 0, .float 0, .float 0, .float 0], [], σ) := by
  refine bGo hA 0 0 (0, .iconst (0), 1, 1, 0, [], [(0, 0)]) rfl rfl rfl ?_
  refine bEqI bl_0 ?_
  refine bGo hA 0 1 (1, .istore_n 3, 1, 2, 0, [3], []) rfl rfl rfl ?_
  refine bGo hA 0 2 (2, .lconst 0, 1, 3, 0, [0], []) rfl rfl rfl ?_
  refine bGo hA 0 3 (3, .lstore 4, 2, 4, 0, [4], []) rfl rfl rfl ?_
  refine bGo hA 0 4 (5, .iconst (0), 1, 5, 0, [], [(0, 0)]) rfl rfl rfl ?_
  refine bEqI bl_0 ?_
  refine bGo hA 0 5 (6, .istore 6, 2, 6, 0, [6], []) rfl rfl rfl ?_
  exact h

theorem sq41_6 {lvl : Nat} {C : bCall} {Q : bPost} {A : bPt → Prop} (hC : bMono C) (hA : bClosed lvl bm41 C Q A) {l0 : Nat} {l2 : Int} {l3 : Int} {l4 : Int64} {l6 : Int} {v7 : Value} {v8 : Value} {v9 : Value} {v10 : Value} {σ : bSt}  (h_l2 : bRg l2) (h_l3 : bRg l3) (h_l6 : bRg l6)
  (h : (l0 % 256 = 4 ∧ ((l6 < (bi σ l0 3) → (¬ bTy (256 * (1 * (l0 / 256) + 0) + 22) = 9 ∧ (bRg (bLen σ (256 * (1 * (l0 / 256) + 0) + 22) : Int) ∧ ((l6 < (bLen σ (256 * (1 * (l0 / 256) + 0) + 22) : Int) → (bTy (256 * (1 * (l0 / 256) + 0) + 22) = 0 ∧ ((0 ≤ l6 ∧ l6 < (bLen σ (256 * (1 * (l0 / 256) + 0) + 22) : Int)) ∧ A (24, [.ref l0, .ref 3, .int (bn l2), .int (bn l3), .long l4, .float 0, .int (bn l6), .int (bn (bi σ (256 * (1 * (l0 / 256) + 0) + 22) l6)), .int (bn 0), v9, v10], [], σ)))) ∧ (¬ l6 < (bLen σ (256 * (1 * (l0 / 256) + 0) + 22) : Int) → A (24, [.ref l0, .ref 3, .int (bn l2), .int (bn l3), .long l4, .float 0, .int (bn l6), .int (bn 0), .int (bn 0), v9, v10], [], σ)))))) ∧ (¬ l6 < (bi σ l0 3) → Q (.inl (some (.int (bn l3)))) σ)))) : A (6, [.ref l0, .ref 3, .int (bn l2), .int (bn l3), .long l4, .float 0, .int (bn l6), v7, v8, v9, v10], [], σ) := by
  refine bGo hA 0 6 (8, .iload 6, 2, 7, 0, [6], []) rfl rfl rfl ?_
  refine bGo hA 0 7 (10, .aload_n 0, 1, 8, 0, [0], []) rfl rfl rfl ?_
  refine bGo hA 0 8 (11, .getfield 42, 3, 9, 0, [4, 3, 0, 0, 0, 0], []) rfl rfl rfl ?_
  refine ⟨h.1, ?_⟩
  refine bEqI (bn_bi σ l0 3) ?_
  refine bGo hA 0 9 (14, .if_icmp .ge (175), 3, 10, 99, [], []) rfl rfl rfl ?_
  refine bB_lt (x := l6) (y := (bi σ l0 3)) h_l6 (bi_rg _ _ _) (fun c1 => ?_) (fun c1 => ?_)
  · refine bGo hA 0 10 (17, .iload 6, 2, 11, 0, [6], []) rfl rfl rfl ?_
    refine bGo hA 0 11 (19, .aload_n 0, 1, 12, 0, [0], []) rfl rfl rfl ?_
    refine bGo hA 0 12 (20, .getfield 15, 3, 13, 0, [4, 4, 3, 22, 1, 0], []) rfl rfl rfl ?_
    refine ⟨h.1, ?_⟩
    refine bGo hA 0 13 (23, .arraylength, 1, 14, 0, [], []) rfl rfl rfl ?_
    refine ⟨(h.2.1 c1).1, ?_⟩
    refine bEqI (bn_nat _).symm ?_
    refine bGo hA 0 14 (24, .if_icmp .ge (13), 3, 15, 20, [], []) rfl rfl rfl ?_
    refine bB_lt (x := l6) (y := (bLen σ (256 * (1 * (l0 / 256) + 0) + 22) : Int)) h_l6 (h.2.1 c1).2.1 (fun c2 => ?_) (fun c2 => ?_)
    · refine bGo hA 0 15 (27, .aload_n 0, 1, 16, 0, [0], []) rfl rfl rfl ?_
      refine bGo hA 1 0 (28, .getfield 15, 3, 17, 0, [4, 4, 3, 22, 1, 0], []) rfl rfl rfl ?_
      refine ⟨h.1, ?_⟩
      refine bGo hA 1 1 (31, .iload 6, 2, 18, 0, [6], []) rfl rfl rfl ?_
      refine bGo hA 1 2 (33, .iaload, 1, 19, 0, [], []) rfl rfl rfl ?_
      refine ⟨((h.2.1 c1).2.2.1 c2).1, (bIxP (x := l6) (n := bLen σ (256 * (1 * (l0 / 256) + 0) + 22)) h_l6 ((h.2.1 c1).2.2.1 c2).2.1), ?_⟩
      refine bEqL (x := l6) h_l6 ?_
      refine bGo hA 1 3 (34, .goto (4), 3, 20, 21, [], []) rfl rfl rfl ?_
      refine bGo hA 1 5 (38, .istore 7, 2, 22, 0, [7], []) rfl rfl rfl ?_
      refine bGo hA 1 6 (40, .iconst (0), 1, 23, 0, [], [(0, 0)]) rfl rfl rfl ?_
      refine bEqI bl_0 ?_
      refine bGo hA 1 7 (41, .istore 8, 2, 24, 0, [8], []) rfl rfl rfl ?_
      exact ((h.2.1 c1).2.2.1 c2).2.2
    · refine bGo hA 1 4 (37, .iconst (0), 1, 21, 0, [], [(0, 0)]) rfl rfl rfl ?_
      refine bEqI bl_0 ?_
      refine bGo hA 1 5 (38, .istore 7, 2, 22, 0, [7], []) rfl rfl rfl ?_
      refine bGo hA 1 6 (40, .iconst (0), 1, 23, 0, [], [(0, 0)]) rfl rfl rfl ?_
      refine bEqI bl_0 ?_
      refine bGo hA 1 7 (41, .istore 8, 2, 24, 0, [8], []) rfl rfl rfl ?_
      exact ((h.2.1 c1).2.2.2 c2)
  · refine bGo hA 6 3 (189, .iload_n 3, 1, 100, 0, [3], []) rfl rfl rfl ?_
    refine bGo hA 6 4 (190, .ireturn, 1, 0, 0, [1], []) rfl rfl rfl ?_
    exact (h.2.2 c1)

theorem sq41_24 {lvl : Nat} {C : bCall} {Q : bPost} {A : bPt → Prop} (hC : bMono C) (hA : bClosed lvl bm41 C Q A) {l0 : Nat} {l2 : Int} {l3 : Int} {l4 : Int64} {l6 : Int} {l7 : Int} {l8 : Int} {v9 : Value} {v10 : Value} {σ : bSt}  (h_l2 : bRg l2) (h_l3 : bRg l3) (h_l6 : bRg l6) (h_l7 : bRg l7) (h_l8 : bRg l8)
  (h : ((l8 < 48 → ((l7 < 500 → (bRg (l6 + 1) ∧ A (6, [.ref l0, .ref 3, .int (bn l2), .int (bn l3), .long l4, .float 0, .int (bn (l6 + 1)), .int (bn l7), .int (bn l8), v9, v10], [], σ))) ∧ (¬ l7 < 500 → (0 ≤ l7 ∧ (((bCmp ((l4 >>> (bL (l7 % 48) &&& 63)) &&& (Int64.ofNat 1)) (Int64.ofNat 1)) = 0 → (bRg (l6 + 1) ∧ A (6, [.ref l0, .ref 3, .int (bn l2), .int (bn l3), .long l4, .float 0, .int (bn (l6 + 1)), .int (bn l7), .int (bn l8), .int (bn (l7 % 48)), v10], [], σ))) ∧ (¬ (bCmp ((l4 >>> (bL (l7 % 48) &&& 63)) &&& (Int64.ofNat 1)) (Int64.ofNat 1)) = 0 → (C 35 [.ref 3, .int (bn (l7 % 48))] σ (bRn (fun r6 s4 => ((r6 = l2 → A (57, [.ref l0, .ref 3, .int (bn l2), .int (bn l3), .long (l4 ||| ((Int64.ofNat 1) <<< (bL (l7 % 48) &&& 63))), .float 0, .int (bn l6), .int (bn l7), .int (bn l8), .int (bn (l7 % 48)), v10], [.int (bn 0)], s4)) ∧ (¬ r6 = l2 → A (57, [.ref l0, .ref 3, .int (bn l2), .int (bn l3), .long (l4 ||| ((Int64.ofNat 1) <<< (bL (l7 % 48) &&& 63))), .float 0, .int (bn l6), .int (bn l7), .int (bn l8), .int (bn (l7 % 48)), v10], [.int (bn 1)], s4)))))))))))) ∧ (¬ l8 < 48 → (bRg (l6 + 1) ∧ A (6, [.ref l0, .ref 3, .int (bn l2), .int (bn l3), .long l4, .float 0, .int (bn (l6 + 1)), .int (bn l7), .int (bn l8), v9, v10], [], σ))))) : A (24, [.ref l0, .ref 3, .int (bn l2), .int (bn l3), .long l4, .float 0, .int (bn l6), .int (bn l7), .int (bn l8), v9, v10], [], σ) := by
  refine bGo hA 1 8 (43, .iload 8, 2, 25, 0, [8], []) rfl rfl rfl ?_
  refine bGo hA 1 9 (45, .bipush (48), 2, 26, 0, [], [(48, 0)]) rfl rfl rfl ?_
  refine bEqI bl_48 ?_
  refine bGo hA 1 10 (47, .if_icmp .ge (136), 3, 27, 97, [], []) rfl rfl rfl ?_
  refine bB_lt (x := l8) (y := 48) h_l8 (by decide : bRg 48) (fun c1 => ?_) (fun c1 => ?_)
  · refine bGo hA 1 11 (50, .iload 7, 2, 28, 0, [7], []) rfl rfl rfl ?_
    refine bGo hA 1 12 (52, .sipush (500), 3, 29, 0, [], [(500, 0)]) rfl rfl rfl ?_
    refine bEqI bl_500 ?_
    refine bGo hA 1 13 (55, .if_icmp .lt (128), 3, 30, 97, [], []) rfl rfl rfl ?_
    refine bB_lt (x := l7) (y := 500) h_l7 (by decide : bRg 500) (fun c2 => ?_) (fun c2 => ?_)
    · refine bGo hA 6 1 (183, .iinc 6 (1), 3, 98, 0, [6], [(1, 0)]) rfl rfl rfl ?_
      refine bEqC (fun v => A (98, [.ref l0, .ref 3, .int (bn l2), .int (bn l3), .long l4, .float 0, .int v, .int (bn l7), .int (bn l8), v9, v10], [], σ)) ((congrArg (fun w => bn l6 + w) bl_1).trans (bn_add l6 1)) ?_
      refine bGo hA 6 2 (186, .goto (-178), 3, 99, 6, [], []) rfl rfl rfl ?_
      exact ((h.1 c1).1 c2).2
    · refine bGo hA 1 14 (58, .iload 7, 2, 31, 0, [7], []) rfl rfl rfl ?_
      refine bGo hA 1 15 (60, .bipush (48), 2, 32, 0, [], [(48, 0)]) rfl rfl rfl ?_
      refine bEqI bl_48 ?_
      refine bGo hA 2 0 (62, .irem, 1, 33, 0, [], []) rfl rfl rfl ?_
      refine ⟨by decide, ?_⟩
      refine bEqI (bn_rem h_l7 (by decide) ((h.1 c1).2 c2).1) ?_
      refine bGo hA 2 1 (63, .istore 9, 2, 34, 0, [9], []) rfl rfl rfl ?_
      refine bGo hA 2 2 (65, .lload 4, 2, 35, 0, [4], []) rfl rfl rfl ?_
      refine bGo hA 2 3 (67, .iload 9, 2, 36, 0, [9], []) rfl rfl rfl ?_
      refine bGo hA 2 4 (69, .lshr, 1, 37, 0, [], []) rfl rfl rfl ?_
      refine bGo hA 2 5 (70, .lconst 1, 1, 38, 0, [1], []) rfl rfl rfl ?_
      refine bGo hA 2 6 (71, .land, 1, 39, 0, [], []) rfl rfl rfl ?_
      refine bGo hA 2 7 (72, .lconst 1, 1, 40, 0, [1], []) rfl rfl rfl ?_
      refine bGo hA 2 8 (73, .lcmp, 1, 41, 0, [], []) rfl rfl rfl ?_
      refine bEqI (bn_cmp ((l4 >>> (bL (l7 % 48) &&& 63)) &&& (Int64.ofNat 1)) (Int64.ofNat 1)) ?_
      refine bGo hA 2 9 (74, .ifCond .ne (6), 3, 42, 43, [], []) rfl rfl rfl ?_
      refine bB_eq0 (x := (bCmp ((l4 >>> (bL (l7 % 48) &&& 63)) &&& (Int64.ofNat 1)) (Int64.ofNat 1))) (bRgI _) (fun c3 => ?_) (fun c3 => ?_)
      · refine bGo hA 2 10 (77, .goto (106), 3, 43, 97, [], []) rfl rfl rfl ?_
        refine bGo hA 6 1 (183, .iinc 6 (1), 3, 98, 0, [6], [(1, 0)]) rfl rfl rfl ?_
        refine bEqC (fun v => A (98, [.ref l0, .ref 3, .int (bn l2), .int (bn l3), .long l4, .float 0, .int v, .int (bn l7), .int (bn l8), .int (bn (l7 % 48)), v10], [], σ)) ((congrArg (fun w => bn l6 + w) bl_1).trans (bn_add l6 1)) ?_
        refine bGo hA 6 2 (186, .goto (-178), 3, 99, 6, [], []) rfl rfl rfl ?_
        exact (((h.1 c1).2 c2).2.1 c3).2
      · refine bGo hA 2 11 (80, .lload 4, 2, 44, 0, [4], []) rfl rfl rfl ?_
        refine bGo hA 2 12 (82, .lconst 1, 1, 45, 0, [1], []) rfl rfl rfl ?_
        refine bGo hA 2 13 (83, .iload 9, 2, 46, 0, [9], []) rfl rfl rfl ?_
        refine bGo hA 2 14 (85, .lshl, 1, 47, 0, [], []) rfl rfl rfl ?_
        refine bGo hA 2 15 (86, .lor, 1, 48, 0, [], []) rfl rfl rfl ?_
        refine bGo hA 3 0 (87, .lstore 4, 2, 49, 0, [4], []) rfl rfl rfl ?_
        refine bGo hA 3 1 (89, .aload_n 1, 1, 50, 0, [1], []) rfl rfl rfl ?_
        refine bGo hA 3 2 (90, .iload 9, 2, 51, 0, [9], []) rfl rfl rfl ?_
        refine bGo hA 3 3 (92, .invokevirtual 55, 3, 52, 0, [0, 3, 35, 1], []) rfl rfl rfl ?_
        refine ⟨rfl, ?_⟩
        refine hC _ _ _ _ _ (bRn_e (fun r6 s4 q7 k5 => ?_)) (((h.1 c1).2 c2).2.2 c3)
        show A (52, [.ref l0, .ref 3, .int (bn l2), .int (bn l3), .long (l4 ||| ((Int64.ofNat 1) <<< (bL (l7 % 48) &&& 63))), .float 0, .int (bn l6), .int (bn l7), .int (bn l8), .int (bn (l7 % 48)), v10], [.int (bn r6)], s4)
        refine bGo hA 3 4 (95, .iload_n 2, 1, 53, 0, [2], []) rfl rfl rfl ?_
        refine bGo hA 3 5 (96, .if_icmp .eq (7), 3, 54, 56, [], []) rfl rfl rfl ?_
        refine bB_eq (x := r6) (y := l2) q7 h_l2 (fun c8 => ?_) (fun c8 => ?_)
        · refine bGo hA 3 8 (103, .iconst (0), 1, 57, 0, [], [(0, 0)]) rfl rfl rfl ?_
          refine bEqI bl_0 ?_
          exact (k5.1 c8)
        · refine bGo hA 3 6 (99, .iconst (1), 1, 55, 0, [], [(1, 0)]) rfl rfl rfl ?_
          refine bEqI bl_1 ?_
          refine bGo hA 3 7 (100, .goto (4), 3, 56, 57, [], []) rfl rfl rfl ?_
          exact (k5.2 c8)
  · refine bGo hA 6 1 (183, .iinc 6 (1), 3, 98, 0, [6], [(1, 0)]) rfl rfl rfl ?_
    refine bEqC (fun v => A (98, [.ref l0, .ref 3, .int (bn l2), .int (bn l3), .long l4, .float 0, .int v, .int (bn l7), .int (bn l8), v9, v10], [], σ)) ((congrArg (fun w => bn l6 + w) bl_1).trans (bn_add l6 1)) ?_
    refine bGo hA 6 2 (186, .goto (-178), 3, 99, 6, [], []) rfl rfl rfl ?_
    exact (h.2 c1).2

theorem sq41_57 {lvl : Nat} {C : bCall} {Q : bPost} {A : bPt → Prop} (hC : bMono C) (hA : bClosed lvl bm41 C Q A) {l0 : Nat} {l2 : Int} {l3 : Int} {l4 : Int64} {l6 : Int} {v7 : Value} {l8 : Int} {l9 : Int} {v10 : Value} {t0 : Int} {σ : bSt}  (h_l2 : bRg l2) (h_l3 : bRg l3) (h_l6 : bRg l6) (h_l8 : bRg l8) (h_l9 : bRg l9) (h_t0 : bRg t0)
  (h : (l0 % 256 = 4 ∧ (((bOr (bi σ l0 7) t0) = 0 ∨ (bOr (bi σ l0 7) t0) = 1) ∧ ((t0 = 0 → (C 31 [.ref 3, .int (bn l9)] (bw σ l0 7 (bOr (bi σ l0 7) t0)) (bRn (fun r4 s2 => (C 359 [.int (bn r4), .int (bn 0)] s2 (bRn (fun r8 s6 => (bRg (l3 + r8) ∧ ((r4 = (-1) → (bRg ((-2) - l9) ∧ (C 42 [.ref l0, .int (bn ((-2) - l9))] s6 (bRv (fun s11 => (bRg (l8 + 1) ∧ A (24, [.ref l0, .ref 3, .int (bn l2), .int (bn (l3 + r8)), .long l4, .float 0, .int (bn l6), .int (bn r4), .int (bn (l8 + 1)), .int (bn l9), .int (bn t0)], [], s11))))))) ∧ (¬ r4 = (-1) → (bRg (l9 * 1000) ∧ (bRg ((l9 * 1000) + r4) ∧ (C 42 [.ref l0, .int (bn ((l9 * 1000) + r4))] s6 (bRv (fun s13 => (bRg (l8 + 1) ∧ A (24, [.ref l0, .ref 3, .int (bn l2), .int (bn (l3 + r8)), .long l4, .float 0, .int (bn l6), .int (bn r4), .int (bn (l8 + 1)), .int (bn l9), .int (bn t0)], [], s13))))))))))))))))) ∧ (¬ t0 = 0 → (((bi (bw σ l0 7 (bOr (bi σ l0 7) t0)) 3 3) = 0 → (C 31 [.ref 3, .int (bn l9)] (bw σ l0 7 (bOr (bi σ l0 7) t0)) (bRn (fun r18 s16 => (C 359 [.int (bn r18), .int (bn 0)] s16 (bRn (fun r22 s20 => (bRg (l3 + r22) ∧ ((r18 = (-1) → (bRg ((-2) - l9) ∧ (C 42 [.ref l0, .int (bn ((-2) - l9))] s20 (bRv (fun s25 => (bRg (l8 + 1) ∧ A (24, [.ref l0, .ref 3, .int (bn l2), .int (bn (l3 + r22)), .long l4, .float 0, .int (bn l6), .int (bn r18), .int (bn (l8 + 1)), .int (bn l9), .int (bn t0)], [], s25))))))) ∧ (¬ r18 = (-1) → (bRg (l9 * 1000) ∧ (bRg ((l9 * 1000) + r18) ∧ (C 42 [.ref l0, .int (bn ((l9 * 1000) + r18))] s20 (bRv (fun s27 => (bRg (l8 + 1) ∧ A (24, [.ref l0, .ref 3, .int (bn l2), .int (bn (l3 + r22)), .long l4, .float 0, .int (bn l6), .int (bn r18), .int (bn (l8 + 1)), .int (bn l9), .int (bn t0)], [], s27))))))))))))))))) ∧ (¬ (bi (bw σ l0 7 (bOr (bi σ l0 7) t0)) 3 3) = 0 → (C 359 [.int (bn (-1)), .int (bn 0)] (bw σ l0 7 (bOr (bi σ l0 7) t0)) (bRn (fun r31 s29 => (bRg (l3 + r31) ∧ (bRg ((-2) - l9) ∧ (C 42 [.ref l0, .int (bn ((-2) - l9))] s29 (bRv (fun s34 => (bRg (l8 + 1) ∧ A (24, [.ref l0, .ref 3, .int (bn l2), .int (bn (l3 + r31)), .long l4, .float 0, .int (bn l6), .int (bn (-1)), .int (bn (l8 + 1)), .int (bn l9), .int (bn t0)], [], s34))))))))))))))))) : A (57, [.ref l0, .ref 3, .int (bn l2), .int (bn l3), .long l4, .float 0, .int (bn l6), v7, .int (bn l8), .int (bn l9), v10], [.int (bn t0)], σ) := by
  refine bGo hA 3 9 (104, .istore 10, 2, 58, 0, [10], []) rfl rfl rfl ?_
  refine bGo hA 3 10 (106, .aload_n 0, 1, 59, 0, [0], []) rfl rfl rfl ?_
  refine bGo hA 3 11 (107, .dup, 1, 60, 0, [], []) rfl rfl rfl ?_
  refine bGo hA 3 12 (108, .getfield 38, 3, 61, 0, [4, 7, 1, 0, 0, 0], []) rfl rfl rfl ?_
  refine ⟨h.1, ?_⟩
  refine bEqI (bn_bi σ l0 7) ?_
  refine bGo hA 3 13 (111, .iload 10, 2, 62, 0, [10], []) rfl rfl rfl ?_
  refine bGo hA 3 14 (113, .ior, 1, 63, 0, [], []) rfl rfl rfl ?_
  refine bEqI (bn_or (bi σ l0 7) t0) ?_
  refine bGo hA 3 15 (114, .putfield 38, 3, 64, 0, [4, 7, 1, 0, 0, 0], []) rfl rfl rfl ?_
  refine ⟨h.1, b01 h.2.1, ?_⟩
  refine bGo hA 4 0 (117, .iload 10, 2, 65, 0, [10], []) rfl rfl rfl ?_
  refine bGo hA 4 1 (119, .ifCond .eq (14), 3, 66, 71, [], []) rfl rfl rfl ?_
  refine bB_eq0 (x := t0) h_t0 (fun c1 => ?_) (fun c1 => ?_)
  · refine bGo hA 4 7 (133, .aload_n 1, 1, 72, 0, [1], []) rfl rfl rfl ?_
    refine bGo hA 4 8 (134, .iload 9, 2, 73, 0, [9], []) rfl rfl rfl ?_
    refine bGo hA 4 9 (136, .invokevirtual 64, 3, 74, 0, [0, 3, 31, 1], []) rfl rfl rfl ?_
    refine ⟨rfl, ?_⟩
    refine hC _ _ _ _ _ (bRn_e (fun r4 s2 q5 k3 => ?_)) (h.2.2.1 c1)
    show A (74, [.ref l0, .ref 3, .int (bn l2), .int (bn l3), .long l4, .float 0, .int (bn l6), v7, .int (bn l8), .int (bn l9), .int (bn t0)], [.int (bn r4)], s2)
    refine bGo hA 4 10 (139, .istore 7, 2, 75, 0, [7], []) rfl rfl rfl ?_
    refine bGo hA 4 11 (141, .iload_n 3, 1, 76, 0, [3], []) rfl rfl rfl ?_
    refine bGo hA 4 12 (142, .iload 7, 2, 77, 0, [7], []) rfl rfl rfl ?_
    refine bGo hA 4 13 (144, .iconst (0), 1, 78, 0, [], [(0, 0)]) rfl rfl rfl ?_
    refine bEqI bl_0 ?_
    refine bGo hA 4 14 (145, .invokestatic 45, 3, 79, 0, [2, 359, 2], []) rfl rfl rfl ?_
    refine hC _ _ _ _ _ (bRn_e (fun r8 s6 q9 k7 => ?_)) k3
    show A (79, [.ref l0, .ref 3, .int (bn l2), .int (bn l3), .long l4, .float 0, .int (bn l6), .int (bn r4), .int (bn l8), .int (bn l9), .int (bn t0)], [.int (bn r8), .int (bn l3)], s6)
    refine bGo hA 4 15 (148, .iadd, 1, 80, 0, [], []) rfl rfl rfl ?_
    refine bEqI (bn_add l3 r8) ?_
    refine bGo hA 5 0 (149, .istore_n 3, 1, 81, 0, [3], []) rfl rfl rfl ?_
    refine bGo hA 5 1 (150, .aload_n 0, 1, 82, 0, [0], []) rfl rfl rfl ?_
    refine bGo hA 5 2 (151, .iload 7, 2, 83, 0, [7], []) rfl rfl rfl ?_
    refine bGo hA 5 3 (153, .iconst (-1), 1, 84, 0, [], [(-1, 0)]) rfl rfl rfl ?_
    refine bEqI bl_m1 ?_
    refine bGo hA 5 4 (154, .if_icmp .ne (11), 3, 85, 89, [], []) rfl rfl rfl ?_
    refine bB_eq (x := r4) (y := (-1)) q5 (by decide : bRg (-1)) (fun c10 => ?_) (fun c10 => ?_)
    · refine bGo hA 5 5 (157, .bipush (-2), 2, 86, 0, [], [(-2, 0)]) rfl rfl rfl ?_
      refine bEqI bl_m2 ?_
      refine bGo hA 5 6 (159, .iload 9, 2, 87, 0, [9], []) rfl rfl rfl ?_
      refine bGo hA 5 7 (161, .isub, 1, 88, 0, [], []) rfl rfl rfl ?_
      refine bEqI (bn_sub (-2) l9) ?_
      refine bGo hA 5 8 (162, .goto (12), 3, 89, 94, [], []) rfl rfl rfl ?_
      refine bGo hA 5 14 (174, .invokevirtual 67, 3, 95, 0, [0, 4, 42, 1], []) rfl rfl rfl ?_
      refine ⟨h.1, ?_⟩
      refine hC _ _ _ _ _ (bRv_e (fun s11 k12 => ?_)) (k7.2.1 c10).2
      show A (95, [.ref l0, .ref 3, .int (bn l2), .int (bn (l3 + r8)), .long l4, .float 0, .int (bn l6), .int (bn r4), .int (bn l8), .int (bn l9), .int (bn t0)], [], s11)
      refine bGo hA 5 15 (177, .iinc 8 (1), 3, 96, 0, [8], [(1, 0)]) rfl rfl rfl ?_
      refine bEqC (fun v => A (96, [.ref l0, .ref 3, .int (bn l2), .int (bn (l3 + r8)), .long l4, .float 0, .int (bn l6), .int (bn r4), .int v, .int (bn l9), .int (bn t0)], [], s11)) ((congrArg (fun w => bn l8 + w) bl_1).trans (bn_add l8 1)) ?_
      refine bGo hA 6 0 (180, .goto (-137), 3, 97, 24, [], []) rfl rfl rfl ?_
      exact k12.2
    · refine bGo hA 5 9 (165, .iload 9, 2, 90, 0, [9], []) rfl rfl rfl ?_
      refine bGo hA 5 10 (167, .sipush (1000), 3, 91, 0, [], [(1000, 0)]) rfl rfl rfl ?_
      refine bEqI bl_1000 ?_
      refine bGo hA 5 11 (170, .imul, 1, 92, 0, [], []) rfl rfl rfl ?_
      refine bEqI (bn_mul l9 1000) ?_
      refine bGo hA 5 12 (171, .iload 7, 2, 93, 0, [7], []) rfl rfl rfl ?_
      refine bGo hA 5 13 (173, .iadd, 1, 94, 0, [], []) rfl rfl rfl ?_
      refine bEqI (bn_add (l9 * 1000) r4) ?_
      refine bGo hA 5 14 (174, .invokevirtual 67, 3, 95, 0, [0, 4, 42, 1], []) rfl rfl rfl ?_
      refine ⟨h.1, ?_⟩
      refine hC _ _ _ _ _ (bRv_e (fun s13 k14 => ?_)) (k7.2.2 c10).2.2
      show A (95, [.ref l0, .ref 3, .int (bn l2), .int (bn (l3 + r8)), .long l4, .float 0, .int (bn l6), .int (bn r4), .int (bn l8), .int (bn l9), .int (bn t0)], [], s13)
      refine bGo hA 5 15 (177, .iinc 8 (1), 3, 96, 0, [8], [(1, 0)]) rfl rfl rfl ?_
      refine bEqC (fun v => A (96, [.ref l0, .ref 3, .int (bn l2), .int (bn (l3 + r8)), .long l4, .float 0, .int (bn l6), .int (bn r4), .int v, .int (bn l9), .int (bn t0)], [], s13)) ((congrArg (fun w => bn l8 + w) bl_1).trans (bn_add l8 1)) ?_
      refine bGo hA 6 0 (180, .goto (-137), 3, 97, 24, [], []) rfl rfl rfl ?_
      exact k14.2
  · refine bGo hA 4 2 (122, .aload_n 1, 1, 67, 0, [1], []) rfl rfl rfl ?_
    refine bGo hA 4 3 (123, .getfield 61, 3, 68, 0, [3, 3, 1, 0, 0, 0], []) rfl rfl rfl ?_
    refine ⟨rfl, ?_⟩
    refine bEqI (bn_bi (bw σ l0 7 (bOr (bi σ l0 7) t0)) 3 3) ?_
    refine bGo hA 4 4 (126, .ifCond .eq (7), 3, 69, 71, [], []) rfl rfl rfl ?_
    refine bB_eq0 (x := (bi (bw σ l0 7 (bOr (bi σ l0 7) t0)) 3 3)) (bi_rg _ _ _) (fun c15 => ?_) (fun c15 => ?_)
    · refine bGo hA 4 7 (133, .aload_n 1, 1, 72, 0, [1], []) rfl rfl rfl ?_
      refine bGo hA 4 8 (134, .iload 9, 2, 73, 0, [9], []) rfl rfl rfl ?_
      refine bGo hA 4 9 (136, .invokevirtual 64, 3, 74, 0, [0, 3, 31, 1], []) rfl rfl rfl ?_
      refine ⟨rfl, ?_⟩
      refine hC _ _ _ _ _ (bRn_e (fun r18 s16 q19 k17 => ?_)) ((h.2.2.2 c1).1 c15)
      show A (74, [.ref l0, .ref 3, .int (bn l2), .int (bn l3), .long l4, .float 0, .int (bn l6), v7, .int (bn l8), .int (bn l9), .int (bn t0)], [.int (bn r18)], s16)
      refine bGo hA 4 10 (139, .istore 7, 2, 75, 0, [7], []) rfl rfl rfl ?_
      refine bGo hA 4 11 (141, .iload_n 3, 1, 76, 0, [3], []) rfl rfl rfl ?_
      refine bGo hA 4 12 (142, .iload 7, 2, 77, 0, [7], []) rfl rfl rfl ?_
      refine bGo hA 4 13 (144, .iconst (0), 1, 78, 0, [], [(0, 0)]) rfl rfl rfl ?_
      refine bEqI bl_0 ?_
      refine bGo hA 4 14 (145, .invokestatic 45, 3, 79, 0, [2, 359, 2], []) rfl rfl rfl ?_
      refine hC _ _ _ _ _ (bRn_e (fun r22 s20 q23 k21 => ?_)) k17
      show A (79, [.ref l0, .ref 3, .int (bn l2), .int (bn l3), .long l4, .float 0, .int (bn l6), .int (bn r18), .int (bn l8), .int (bn l9), .int (bn t0)], [.int (bn r22), .int (bn l3)], s20)
      refine bGo hA 4 15 (148, .iadd, 1, 80, 0, [], []) rfl rfl rfl ?_
      refine bEqI (bn_add l3 r22) ?_
      refine bGo hA 5 0 (149, .istore_n 3, 1, 81, 0, [3], []) rfl rfl rfl ?_
      refine bGo hA 5 1 (150, .aload_n 0, 1, 82, 0, [0], []) rfl rfl rfl ?_
      refine bGo hA 5 2 (151, .iload 7, 2, 83, 0, [7], []) rfl rfl rfl ?_
      refine bGo hA 5 3 (153, .iconst (-1), 1, 84, 0, [], [(-1, 0)]) rfl rfl rfl ?_
      refine bEqI bl_m1 ?_
      refine bGo hA 5 4 (154, .if_icmp .ne (11), 3, 85, 89, [], []) rfl rfl rfl ?_
      refine bB_eq (x := r18) (y := (-1)) q19 (by decide : bRg (-1)) (fun c24 => ?_) (fun c24 => ?_)
      · refine bGo hA 5 5 (157, .bipush (-2), 2, 86, 0, [], [(-2, 0)]) rfl rfl rfl ?_
        refine bEqI bl_m2 ?_
        refine bGo hA 5 6 (159, .iload 9, 2, 87, 0, [9], []) rfl rfl rfl ?_
        refine bGo hA 5 7 (161, .isub, 1, 88, 0, [], []) rfl rfl rfl ?_
        refine bEqI (bn_sub (-2) l9) ?_
        refine bGo hA 5 8 (162, .goto (12), 3, 89, 94, [], []) rfl rfl rfl ?_
        refine bGo hA 5 14 (174, .invokevirtual 67, 3, 95, 0, [0, 4, 42, 1], []) rfl rfl rfl ?_
        refine ⟨h.1, ?_⟩
        refine hC _ _ _ _ _ (bRv_e (fun s25 k26 => ?_)) (k21.2.1 c24).2
        show A (95, [.ref l0, .ref 3, .int (bn l2), .int (bn (l3 + r22)), .long l4, .float 0, .int (bn l6), .int (bn r18), .int (bn l8), .int (bn l9), .int (bn t0)], [], s25)
        refine bGo hA 5 15 (177, .iinc 8 (1), 3, 96, 0, [8], [(1, 0)]) rfl rfl rfl ?_
        refine bEqC (fun v => A (96, [.ref l0, .ref 3, .int (bn l2), .int (bn (l3 + r22)), .long l4, .float 0, .int (bn l6), .int (bn r18), .int v, .int (bn l9), .int (bn t0)], [], s25)) ((congrArg (fun w => bn l8 + w) bl_1).trans (bn_add l8 1)) ?_
        refine bGo hA 6 0 (180, .goto (-137), 3, 97, 24, [], []) rfl rfl rfl ?_
        exact k26.2
      · refine bGo hA 5 9 (165, .iload 9, 2, 90, 0, [9], []) rfl rfl rfl ?_
        refine bGo hA 5 10 (167, .sipush (1000), 3, 91, 0, [], [(1000, 0)]) rfl rfl rfl ?_
        refine bEqI bl_1000 ?_
        refine bGo hA 5 11 (170, .imul, 1, 92, 0, [], []) rfl rfl rfl ?_
        refine bEqI (bn_mul l9 1000) ?_
        refine bGo hA 5 12 (171, .iload 7, 2, 93, 0, [7], []) rfl rfl rfl ?_
        refine bGo hA 5 13 (173, .iadd, 1, 94, 0, [], []) rfl rfl rfl ?_
        refine bEqI (bn_add (l9 * 1000) r18) ?_
        refine bGo hA 5 14 (174, .invokevirtual 67, 3, 95, 0, [0, 4, 42, 1], []) rfl rfl rfl ?_
        refine ⟨h.1, ?_⟩
        refine hC _ _ _ _ _ (bRv_e (fun s27 k28 => ?_)) (k21.2.2 c24).2.2
        show A (95, [.ref l0, .ref 3, .int (bn l2), .int (bn (l3 + r22)), .long l4, .float 0, .int (bn l6), .int (bn r18), .int (bn l8), .int (bn l9), .int (bn t0)], [], s27)
        refine bGo hA 5 15 (177, .iinc 8 (1), 3, 96, 0, [8], [(1, 0)]) rfl rfl rfl ?_
        refine bEqC (fun v => A (96, [.ref l0, .ref 3, .int (bn l2), .int (bn (l3 + r22)), .long l4, .float 0, .int (bn l6), .int (bn r18), .int v, .int (bn l9), .int (bn t0)], [], s27)) ((congrArg (fun w => bn l8 + w) bl_1).trans (bn_add l8 1)) ?_
        refine bGo hA 6 0 (180, .goto (-137), 3, 97, 24, [], []) rfl rfl rfl ?_
        exact k28.2
    · refine bGo hA 4 5 (129, .iconst (-1), 1, 70, 0, [], [(-1, 0)]) rfl rfl rfl ?_
      refine bEqI bl_m1 ?_
      refine bGo hA 4 6 (130, .goto (9), 3, 71, 74, [], []) rfl rfl rfl ?_
      refine bGo hA 4 10 (139, .istore 7, 2, 75, 0, [7], []) rfl rfl rfl ?_
      refine bGo hA 4 11 (141, .iload_n 3, 1, 76, 0, [3], []) rfl rfl rfl ?_
      refine bGo hA 4 12 (142, .iload 7, 2, 77, 0, [7], []) rfl rfl rfl ?_
      refine bGo hA 4 13 (144, .iconst (0), 1, 78, 0, [], [(0, 0)]) rfl rfl rfl ?_
      refine bEqI bl_0 ?_
      refine bGo hA 4 14 (145, .invokestatic 45, 3, 79, 0, [2, 359, 2], []) rfl rfl rfl ?_
      refine hC _ _ _ _ _ (bRn_e (fun r31 s29 q32 k30 => ?_)) ((h.2.2.2 c1).2 c15)
      show A (79, [.ref l0, .ref 3, .int (bn l2), .int (bn l3), .long l4, .float 0, .int (bn l6), .int (bn (-1)), .int (bn l8), .int (bn l9), .int (bn t0)], [.int (bn r31), .int (bn l3)], s29)
      refine bGo hA 4 15 (148, .iadd, 1, 80, 0, [], []) rfl rfl rfl ?_
      refine bEqI (bn_add l3 r31) ?_
      refine bGo hA 5 0 (149, .istore_n 3, 1, 81, 0, [3], []) rfl rfl rfl ?_
      refine bGo hA 5 1 (150, .aload_n 0, 1, 82, 0, [0], []) rfl rfl rfl ?_
      refine bGo hA 5 2 (151, .iload 7, 2, 83, 0, [7], []) rfl rfl rfl ?_
      refine bGo hA 5 3 (153, .iconst (-1), 1, 84, 0, [], [(-1, 0)]) rfl rfl rfl ?_
      refine bEqI bl_m1 ?_
      refine bGo hA 5 4 (154, .if_icmp .ne (11), 3, 85, 89, [], []) rfl rfl rfl ?_
      refine ⟨fun _ => ?_, fun c => absurd (by decide) c⟩
      refine bGo hA 5 5 (157, .bipush (-2), 2, 86, 0, [], [(-2, 0)]) rfl rfl rfl ?_
      refine bEqI bl_m2 ?_
      refine bGo hA 5 6 (159, .iload 9, 2, 87, 0, [9], []) rfl rfl rfl ?_
      refine bGo hA 5 7 (161, .isub, 1, 88, 0, [], []) rfl rfl rfl ?_
      refine bEqI (bn_sub (-2) l9) ?_
      refine bGo hA 5 8 (162, .goto (12), 3, 89, 94, [], []) rfl rfl rfl ?_
      refine bGo hA 5 14 (174, .invokevirtual 67, 3, 95, 0, [0, 4, 42, 1], []) rfl rfl rfl ?_
      refine ⟨h.1, ?_⟩
      refine hC _ _ _ _ _ (bRv_e (fun s34 k35 => ?_)) k30.2.2
      show A (95, [.ref l0, .ref 3, .int (bn l2), .int (bn (l3 + r31)), .long l4, .float 0, .int (bn l6), .int (bn (-1)), .int (bn l8), .int (bn l9), .int (bn t0)], [], s34)
      refine bGo hA 5 15 (177, .iinc 8 (1), 3, 96, 0, [8], [(1, 0)]) rfl rfl rfl ?_
      refine bEqC (fun v => A (96, [.ref l0, .ref 3, .int (bn l2), .int (bn (l3 + r31)), .long l4, .float 0, .int (bn l6), .int (bn (-1)), .int v, .int (bn l9), .int (bn t0)], [], s34)) ((congrArg (fun w => bn l8 + w) bl_1).trans (bn_add l8 1)) ?_
      refine bGo hA 6 0 (180, .goto (-137), 3, 97, 24, [], []) rfl rfl rfl ?_
      exact k35.2

theorem sq42_0 {lvl : Nat} {C : bCall} {Q : bPost} {A : bPt → Prop} (hC : bMono C) (hA : bClosed lvl bm42 C Q A) {a0 : Nat} {x1 : Int} {σ : bSt} (h_a0 : a0 % 256 = 4) (h_x1 : bRg x1)
  (h : (((bi σ a0 5) < 0 → Q (.inl none) σ) ∧ (¬ (bi σ a0 5) < 0 → (¬ bTy (256 * (1 * (a0 / 256) + 0) + 23) = 9 ∧ (bRg (bLen σ (256 * (1 * (a0 / 256) + 0) + 23) : Int) ∧ (((bi σ a0 5) < (bLen σ (256 * (1 * (a0 / 256) + 0) + 23) : Int) → (bTy (256 * (1 * (a0 / 256) + 0) + 23) = 0 ∧ ((0 ≤ (bi σ a0 5) ∧ (bi σ a0 5) < (bLen σ (256 * (1 * (a0 / 256) + 0) + 23) : Int)) ∧ ((256 * (1 * (a0 / 256) + 0) + 23) % 256 < 200 ∧ (bRg ((bi (bw σ (256 * (1 * (a0 / 256) + 0) + 23) (bi σ a0 5) x1) a0 5) + 1) ∧ Q (.inl none) (bw (bw σ (256 * (1 * (a0 / 256) + 0) + 23) (bi σ a0 5) x1) a0 5 ((bi (bw σ (256 * (1 * (a0 / 256) + 0) + 23) (bi σ a0 5) x1) a0 5) + 1))))))) ∧ (¬ (bi σ a0 5) < (bLen σ (256 * (1 * (a0 / 256) + 0) + 23) : Int) → Q (.inl none) σ))))))) : A (0, [.ref a0, .int (bn x1)], [], σ) := by
  refine bGo hA 0 0 (0, .aload_n 0, 1, 1, 0, [0], []) rfl rfl rfl ?_
  refine bGo hA 0 1 (1, .getfield 31, 3, 2, 0, [4, 5, 0, 0, 0, 0], []) rfl rfl rfl ?_
  refine ⟨h_a0, ?_⟩
  refine bEqI (bn_bi σ a0 5) ?_
  refine bGo hA 0 2 (4, .ifCond .lt (35), 3, 3, 21, [], []) rfl rfl rfl ?_
  refine bB_lt0 (x := (bi σ a0 5)) (bi_rg _ _ _) (fun c1 => ?_) (fun c1 => ?_)
  · refine bGo hA 1 5 (39, .return_, 1, 0, 0, [0], []) rfl rfl rfl ?_
    exact (h.1 c1)
  · refine bGo hA 0 3 (7, .aload_n 0, 1, 4, 0, [0], []) rfl rfl rfl ?_
    refine bGo hA 0 4 (8, .getfield 31, 3, 5, 0, [4, 5, 0, 0, 0, 0], []) rfl rfl rfl ?_
    refine ⟨h_a0, ?_⟩
    refine bEqI (bn_bi σ a0 5) ?_
    refine bGo hA 0 5 (11, .aload_n 0, 1, 6, 0, [0], []) rfl rfl rfl ?_
    refine bGo hA 0 6 (12, .getfield 19, 3, 7, 0, [4, 6, 3, 23, 1, 0], []) rfl rfl rfl ?_
    refine ⟨h_a0, ?_⟩
    refine bGo hA 0 7 (15, .arraylength, 1, 8, 0, [], []) rfl rfl rfl ?_
    refine ⟨(h.2 c1).1, ?_⟩
    refine bEqI (bn_nat _).symm ?_
    refine bGo hA 0 8 (16, .if_icmp .ge (23), 3, 9, 21, [], []) rfl rfl rfl ?_
    refine bB_lt (x := (bi σ a0 5)) (y := (bLen σ (256 * (1 * (a0 / 256) + 0) + 23) : Int)) (bi_rg _ _ _) (h.2 c1).2.1 (fun c2 => ?_) (fun c2 => ?_)
    · refine bGo hA 0 9 (19, .aload_n 0, 1, 10, 0, [0], []) rfl rfl rfl ?_
      refine bGo hA 0 10 (20, .getfield 19, 3, 11, 0, [4, 6, 3, 23, 1, 0], []) rfl rfl rfl ?_
      refine ⟨h_a0, ?_⟩
      refine bGo hA 0 11 (23, .aload_n 0, 1, 12, 0, [0], []) rfl rfl rfl ?_
      refine bGo hA 0 12 (24, .getfield 31, 3, 13, 0, [4, 5, 0, 0, 0, 0], []) rfl rfl rfl ?_
      refine ⟨h_a0, ?_⟩
      refine bEqI (bn_bi σ a0 5) ?_
      refine bGo hA 0 13 (27, .iload_n 1, 1, 14, 0, [1], []) rfl rfl rfl ?_
      refine bGo hA 0 14 (28, .iastore, 1, 15, 0, [], []) rfl rfl rfl ?_
      refine ⟨((h.2 c1).2.2.1 c2).1, (bIxP (x := (bi σ a0 5)) (n := bLen σ (256 * (1 * (a0 / 256) + 0) + 23)) (bi_rg _ _ _) ((h.2 c1).2.2.1 c2).2.1), ((h.2 c1).2.2.1 c2).2.2.1, ?_⟩
      refine bEqS (x := (bi σ a0 5)) (bi_rg _ _ _) ?_
      refine bGo hA 0 15 (29, .aload_n 0, 1, 16, 0, [0], []) rfl rfl rfl ?_
      refine bGo hA 1 0 (30, .dup, 1, 17, 0, [], []) rfl rfl rfl ?_
      refine bGo hA 1 1 (31, .getfield 31, 3, 18, 0, [4, 5, 0, 0, 0, 0], []) rfl rfl rfl ?_
      refine ⟨h_a0, ?_⟩
      refine bEqI (bn_bi (bw σ (256 * (1 * (a0 / 256) + 0) + 23) (bi σ a0 5) x1) a0 5) ?_
      refine bGo hA 1 2 (34, .iconst (1), 1, 19, 0, [], [(1, 0)]) rfl rfl rfl ?_
      refine bEqI bl_1 ?_
      refine bGo hA 1 3 (35, .iadd, 1, 20, 0, [], []) rfl rfl rfl ?_
      refine bEqI (bn_add (bi (bw σ (256 * (1 * (a0 / 256) + 0) + 23) (bi σ a0 5) x1) a0 5) 1) ?_
      refine bGo hA 1 4 (36, .putfield 31, 3, 21, 0, [4, 5, 0, 0, 0, 0], []) rfl rfl rfl ?_
      refine ⟨h_a0, ?_⟩
      refine bGo hA 1 5 (39, .return_, 1, 0, 0, [0], []) rfl rfl rfl ?_
      exact ((h.2 c1).2.2.1 c2).2.2.2.2
    · refine bGo hA 1 5 (39, .return_, 1, 0, 0, [0], []) rfl rfl rfl ?_
      exact ((h.2 c1).2.2.2 c2)

theorem sq257_0 {lvl : Nat} {C : bCall} {Q : bPost} {A : bPt → Prop} (hC : bMono C) (hA : bClosed lvl bm257 C Q A) {x1 : Int} {x2 : Int64} {x4 : Int} {σ : bSt}  (h_x1 : bRg x1) (h_x4 : bRg x4)
  (h : (0 ≤ x4 ∧ (C 206 [.ref 12, .int (bn (x4 / 8))] σ (bRn (fun r3 s1 => ((r3 = x1 → Q (.inl (some (.int (bn 1)))) s1) ∧ (¬ r3 = x1 → (((bCmp ((x2 >>> (bL x4 &&& 63)) &&& (Int64.ofNat 1)) (Int64.ofNat 1)) = 0 → Q (.inl (some (.int (bn 1)))) s1) ∧ (¬ (bCmp ((x2 >>> (bL x4 &&& 63)) &&& (Int64.ofNat 1)) (Int64.ofNat 1)) = 0 → Q (.inl (some (.int (bn 0)))) s1))))))))) : A (0, [.ref 12, .int (bn x1), .long x2, .float 0, .int (bn x4)], [], σ) := by
  refine bGo hA 0 0 (0, .aload_n 0, 1, 1, 0, [0], []) rfl rfl rfl ?_
  refine bGo hA 0 1 (1, .iload 4, 2, 2, 0, [4], []) rfl rfl rfl ?_
  refine bGo hA 0 2 (3, .bipush (8), 2, 3, 0, [], [(8, 0)]) rfl rfl rfl ?_
  refine bEqI bl_8 ?_
  refine bGo hA 0 3 (5, .idiv, 1, 4, 0, [], []) rfl rfl rfl ?_
  refine ⟨by decide, ?_⟩
  refine bEqI (bn_div h_x4 (by decide) h.1) ?_
  refine bGo hA 0 4 (6, .invokevirtual 343, 3, 5, 0, [0, 12, 206, 1], []) rfl rfl rfl ?_
  refine ⟨rfl, ?_⟩
  refine hC _ _ _ _ _ (bRn_e (fun r3 s1 q4 k2 => ?_)) h.2
  show A (5, [.ref 12, .int (bn x1), .long x2, .float 0, .int (bn x4)], [.int (bn r3)], s1)
  refine bGo hA 0 5 (9, .iload_n 1, 1, 6, 0, [1], []) rfl rfl rfl ?_
  refine bGo hA 0 6 (10, .if_icmp .eq (14), 3, 7, 15, [], []) rfl rfl rfl ?_
  refine bB_eq (x := r3) (y := x1) q4 h_x1 (fun c5 => ?_) (fun c5 => ?_)
  · refine bGo hA 0 15 (24, .iconst (1), 1, 16, 0, [], [(1, 0)]) rfl rfl rfl ?_
    refine bEqI bl_1 ?_
    refine bGo hA 1 0 (25, .goto (4), 3, 17, 18, [], []) rfl rfl rfl ?_
    refine bGo hA 1 2 (29, .ireturn, 1, 0, 0, [2], []) rfl rfl rfl ?_
    exact ⟨b01 (Or.inr rfl), (k2.1 c5)⟩
  · refine bGo hA 0 7 (13, .lload_n 2, 1, 8, 0, [2], []) rfl rfl rfl ?_
    refine bGo hA 0 8 (14, .iload 4, 2, 9, 0, [4], []) rfl rfl rfl ?_
    refine bGo hA 0 9 (16, .lshr, 1, 10, 0, [], []) rfl rfl rfl ?_
    refine bGo hA 0 10 (17, .lconst 1, 1, 11, 0, [1], []) rfl rfl rfl ?_
    refine bGo hA 0 11 (18, .land, 1, 12, 0, [], []) rfl rfl rfl ?_
    refine bGo hA 0 12 (19, .lconst 1, 1, 13, 0, [1], []) rfl rfl rfl ?_
    refine bGo hA 0 13 (20, .lcmp, 1, 14, 0, [], []) rfl rfl rfl ?_
    refine bEqI (bn_cmp ((x2 >>> (bL x4 &&& 63)) &&& (Int64.ofNat 1)) (Int64.ofNat 1)) ?_
    refine bGo hA 0 14 (21, .ifCond .ne (7), 3, 15, 17, [], []) rfl rfl rfl ?_
    refine bB_eq0 (x := (bCmp ((x2 >>> (bL x4 &&& 63)) &&& (Int64.ofNat 1)) (Int64.ofNat 1))) (bRgI _) (fun c6 => ?_) (fun c6 => ?_)
    · refine bGo hA 0 15 (24, .iconst (1), 1, 16, 0, [], [(1, 0)]) rfl rfl rfl ?_
      refine bEqI bl_1 ?_
      refine bGo hA 1 0 (25, .goto (4), 3, 17, 18, [], []) rfl rfl rfl ?_
      refine bGo hA 1 2 (29, .ireturn, 1, 0, 0, [2], []) rfl rfl rfl ?_
      exact ⟨b01 (Or.inr rfl), ((k2.2 c5).1 c6)⟩
    · refine bGo hA 1 1 (28, .iconst (0), 1, 18, 0, [], [(0, 0)]) rfl rfl rfl ?_
      refine bEqI bl_0 ?_
      refine bGo hA 1 2 (29, .ireturn, 1, 0, 0, [2], []) rfl rfl rfl ?_
      exact ⟨b01 (Or.inl rfl), ((k2.2 c5).2 c6)⟩

theorem sq258_0 {lvl : Nat} {C : bCall} {Q : bPost} {A : bPt → Prop} (hC : bMono C) (hA : bClosed lvl bm258 C Q A) {x1 : Int} {x2 : Int64} {x4 : Int} {σ : bSt}  (h_x1 : bRg x1) (h_x4 : bRg x4)
  (h : (((bi σ 12 68) = 0 → ((0 ≤ x4 ∧ x4 < 48) ∧ Q (.inl (some (.int (bn (bi σ 56 x4))))) σ)) ∧ (¬ (bi σ 12 68) = 0 → (C 257 [.ref 12, .int (bn x1), .long x2, .int (bn x4)] σ (bRn (fun r4 s2 => ((r4 = 0 → Q (.inl (some (.int (bn (-1))))) s2) ∧ (¬ r4 = 0 → ((0 ≤ x4 ∧ x4 < 48) ∧ Q (.inl (some (.int (bn (bi s2 56 x4))))) s2))))))))) : A (0, [.ref 12, .int (bn x1), .long x2, .float 0, .int (bn x4)], [], σ) := by
  refine bGo hA 0 0 (0, .aload_n 0, 1, 1, 0, [0], []) rfl rfl rfl ?_
  refine bGo hA 0 1 (1, .getfield 305, 3, 2, 0, [12, 68, 1, 0, 0, 0], []) rfl rfl rfl ?_
  refine ⟨rfl, ?_⟩
  refine bEqI (bn_bi σ 12 68) ?_
  refine bGo hA 0 2 (4, .ifCond .eq (14), 3, 3, 9, [], []) rfl rfl rfl ?_
  refine bB_eq0 (x := (bi σ 12 68)) (bi_rg _ _ _) (fun c1 => ?_) (fun c1 => ?_)
  · refine bGo hA 0 9 (18, .aload_n 0, 1, 10, 0, [0], []) rfl rfl rfl ?_
    refine bGo hA 0 10 (19, .getfield 7, 3, 11, 0, [12, 1, 3, 56, 1, 0], []) rfl rfl rfl ?_
    refine ⟨rfl, ?_⟩
    refine bGo hA 0 11 (22, .iload 4, 2, 12, 0, [4], []) rfl rfl rfl ?_
    refine bGo hA 0 12 (24, .iaload, 1, 13, 0, [], []) rfl rfl rfl ?_
    refine ⟨rfl, (bIxP (x := x4) (n := 48) h_x4 (h.1 c1).1), ?_⟩
    refine bEqL (x := x4) h_x4 ?_
    refine bGo hA 0 13 (25, .goto (4), 3, 14, 15, [], []) rfl rfl rfl ?_
    refine bGo hA 0 15 (29, .ireturn, 1, 0, 0, [1], []) rfl rfl rfl ?_
    exact (h.1 c1).2
  · refine bGo hA 0 3 (7, .aload_n 0, 1, 4, 0, [0], []) rfl rfl rfl ?_
    refine bGo hA 0 4 (8, .iload_n 1, 1, 5, 0, [1], []) rfl rfl rfl ?_
    refine bGo hA 0 5 (9, .lload_n 2, 1, 6, 0, [2], []) rfl rfl rfl ?_
    refine bGo hA 0 6 (10, .iload 4, 2, 7, 0, [4], []) rfl rfl rfl ?_
    refine bGo hA 0 7 (12, .invokevirtual 434, 3, 8, 0, [0, 12, 257, 3], []) rfl rfl rfl ?_
    refine ⟨rfl, ?_⟩
    refine hC _ _ _ _ _ (bRn_e (fun r4 s2 q5 k3 => ?_)) (h.2 c1)
    show A (8, [.ref 12, .int (bn x1), .long x2, .float 0, .int (bn x4)], [.int (bn r4)], s2)
    refine bGo hA 0 8 (15, .ifCond .eq (13), 3, 9, 14, [], []) rfl rfl rfl ?_
    refine bB_eq0 (x := r4) q5 (fun c6 => ?_) (fun c6 => ?_)
    · refine bGo hA 0 14 (28, .iconst (-1), 1, 15, 0, [], [(-1, 0)]) rfl rfl rfl ?_
      refine bEqI bl_m1 ?_
      refine bGo hA 0 15 (29, .ireturn, 1, 0, 0, [1], []) rfl rfl rfl ?_
      exact (k3.1 c6)
    · refine bGo hA 0 9 (18, .aload_n 0, 1, 10, 0, [0], []) rfl rfl rfl ?_
      refine bGo hA 0 10 (19, .getfield 7, 3, 11, 0, [12, 1, 3, 56, 1, 0], []) rfl rfl rfl ?_
      refine ⟨rfl, ?_⟩
      refine bGo hA 0 11 (22, .iload 4, 2, 12, 0, [4], []) rfl rfl rfl ?_
      refine bGo hA 0 12 (24, .iaload, 1, 13, 0, [], []) rfl rfl rfl ?_
      refine ⟨rfl, (bIxP (x := x4) (n := 48) h_x4 (k3.2 c6).1), ?_⟩
      refine bEqL (x := x4) h_x4 ?_
      refine bGo hA 0 13 (25, .goto (4), 3, 14, 15, [], []) rfl rfl rfl ?_
      refine bGo hA 0 15 (29, .ireturn, 1, 0, 0, [1], []) rfl rfl rfl ?_
      exact (k3.2 c6).2

theorem sq259_0 {lvl : Nat} {C : bCall} {Q : bPost} {A : bPt → Prop} (hC : bMono C) (hA : bClosed lvl bm259 C Q A) {x1 : Int} {x2 : Int} {x3 : Int} {x4 : Int} {x5 : Int64} {σ : bSt}  (h_x1 : bRg x1) (h_x2 : bRg x2) (h_x3 : bRg x3) (h_x4 : bRg x4)
  (h : A (16, [.ref 12, .int (bn x1), .int (bn x2), .int (bn x3), .int (bn x4), .long x5, .float 0, .int (bn 0), .int (bn 0), .int (bn 0), .int (bn 0), .int (bn 0), .float 0], [], (bw (bw σ 12 70 0) 12 72 0))) : A (0, [.ref 12, .int (bn x1), .int (bn x2), .int (bn x3), .int (bn x4), .long x5, .float 0, .float 0, .float 0, .float 0, .float 0, .float 0, .float 0], [], σ) := by
  refine bGo hA 0 0 (0, .aload_n 0, 1, 1, 0, [0], []) rfl rfl rfl ?_
  refine bGo hA 0 1 (1, .iconst (0), 1, 2, 0, [], [(0, 0)]) rfl rfl rfl ?_
  refine bEqI bl_0 ?_
  refine bGo hA 0 2 (2, .putfield 438, 3, 3, 0, [12, 70, 0, 0, 0, 0], []) rfl rfl rfl ?_
  refine ⟨rfl, ?_⟩
  refine bGo hA 0 3 (5, .aload_n 0, 1, 4, 0, [0], []) rfl rfl rfl ?_
  refine bGo hA 0 4 (6, .iconst (0), 1, 5, 0, [], [(0, 0)]) rfl rfl rfl ?_
  refine bEqI bl_0 ?_
  refine bGo hA 0 5 (7, .putfield 441, 3, 6, 0, [12, 72, 1, 0, 0, 0], []) rfl rfl rfl ?_
  refine ⟨rfl, b01 (Or.inl rfl), ?_⟩
  refine bGo hA 0 6 (10, .iconst (0), 1, 7, 0, [], [(0, 0)]) rfl rfl rfl ?_
  refine bEqI bl_0 ?_
  refine bGo hA 0 7 (11, .istore 7, 2, 8, 0, [7], []) rfl rfl rfl ?_
  refine bGo hA 0 8 (13, .iconst (0), 1, 9, 0, [], [(0, 0)]) rfl rfl rfl ?_
  refine bEqI bl_0 ?_
  refine bGo hA 0 9 (14, .istore 8, 2, 10, 0, [8], []) rfl rfl rfl ?_
  refine bGo hA 0 10 (16, .iconst (0), 1, 11, 0, [], [(0, 0)]) rfl rfl rfl ?_
  refine bEqI bl_0 ?_
  refine bGo hA 0 11 (17, .istore 9, 2, 12, 0, [9], []) rfl rfl rfl ?_
  refine bGo hA 0 12 (19, .iconst (0), 1, 13, 0, [], [(0, 0)]) rfl rfl rfl ?_
  refine bEqI bl_0 ?_
  refine bGo hA 0 13 (20, .istore 10, 2, 14, 0, [10], []) rfl rfl rfl ?_
  refine bGo hA 0 14 (22, .iconst (0), 1, 15, 0, [], [(0, 0)]) rfl rfl rfl ?_
  refine bEqI bl_0 ?_
  refine bGo hA 0 15 (23, .istore 11, 2, 16, 0, [11], []) rfl rfl rfl ?_
  exact h

theorem sq259_16 {lvl : Nat} {C : bCall} {Q : bPost} {A : bPt → Prop} (hC : bMono C) (hA : bClosed lvl bm259 C Q A) {l1 : Int} {l2 : Int} {l3 : Int} {l4 : Int} {l5 : Int64} {l7 : Int} {l8 : Int} {l9 : Int} {l10 : Int} {l11 : Int} {v12 : Value} {σ : bSt}  (h_l1 : bRg l1) (h_l2 : bRg l2) (h_l3 : bRg l3) (h_l4 : bRg l4) (h_l7 : bRg l7) (h_l8 : bRg l8) (h_l9 : bRg l9) (h_l10 : bRg l10) (h_l11 : bRg l11)
  (h : ((l11 < l3 → ((0 ≤ l11 ∧ l11 < 64) ∧ (bRg (l7 + (bi σ 119 l11)) ∧ (0 ≤ (bi σ 119 l11) ∧ (bRg (l8 + ((bi σ 119 l11) / 10)) ∧ (bRg (l11 + 1) ∧ (bRg ((l11 + 1) * (bi σ 119 l11)) ∧ (bRg (l9 + ((l11 + 1) * (bi σ 119 l11))) ∧ ((l10 < (bi σ 119 l11) → A (16, [.ref 12, .int (bn l1), .int (bn l2), .int (bn l3), .int (bn l4), .long l5, .float 0, .int (bn (l7 + (bi σ 119 l11))), .int (bn (l8 + ((bi σ 119 l11) / 10))), .int (bn (l9 + ((l11 + 1) * (bi σ 119 l11)))), .int (bn (bi σ 119 l11)), .int (bn (l11 + 1)), v12], [], σ)) ∧ (¬ l10 < (bi σ 119 l11) → A (16, [.ref 12, .int (bn l1), .int (bn l2), .int (bn l3), .int (bn l4), .long l5, .float 0, .int (bn (l7 + (bi σ 119 l11))), .int (bn (l8 + ((bi σ 119 l11) / 10))), .int (bn (l9 + ((l11 + 1) * (bi σ 119 l11)))), .int (bn l10), .int (bn (l11 + 1)), v12], [], σ))))))))))) ∧ (¬ l11 < l3 → ((l1 = 4 → (bRg (l2 + l7) ∧ (0 ≤ (l2 + l7) ∧ ((((l2 + l7) % 7) = 0 → Q (.inl (some (.int (bn (-5))))) σ) ∧ (¬ ((l2 + l7) % 7) = 0 → (0 ≤ l2 ∧ Q (.inl (some (.int (bn (l2 % 1000))))) σ)))))) ∧ (¬ l1 = 4 → A (80, [.ref 12, .int (bn l1), .int (bn l2), .int (bn l3), .int (bn l4), .long l5, .float 0, .int (bn l7), .int (bn l8), .int (bn l9), .int (bn l10), .int (bn 0), .int (bn 0)], [], σ)))))) : A (16, [.ref 12, .int (bn l1), .int (bn l2), .int (bn l3), .int (bn l4), .long l5, .float 0, .int (bn l7), .int (bn l8), .int (bn l9), .int (bn l10), .int (bn l11), v12], [], σ) := by
  refine bGo hA 1 0 (25, .iload 11, 2, 17, 0, [11], []) rfl rfl rfl ?_
  refine bGo hA 1 1 (27, .iload_n 3, 1, 18, 0, [3], []) rfl rfl rfl ?_
  refine bGo hA 1 2 (28, .if_icmp .ge (79), 3, 19, 61, [], []) rfl rfl rfl ?_
  refine bB_lt (x := l11) (y := l3) h_l11 h_l3 (fun c1 => ?_) (fun c1 => ?_)
  · refine bGo hA 1 3 (31, .iload 7, 2, 20, 0, [7], []) rfl rfl rfl ?_
    refine bGo hA 1 4 (33, .aload_n 0, 1, 21, 0, [0], []) rfl rfl rfl ?_
    refine bGo hA 1 5 (34, .getfield 200, 3, 22, 0, [12, 69, 3, 119, 1, 0], []) rfl rfl rfl ?_
    refine ⟨rfl, ?_⟩
    refine bGo hA 1 6 (37, .iload 11, 2, 23, 0, [11], []) rfl rfl rfl ?_
    refine bGo hA 1 7 (39, .iaload, 1, 24, 0, [], []) rfl rfl rfl ?_
    refine ⟨rfl, (bIxP (x := l11) (n := 64) h_l11 (h.1 c1).1), ?_⟩
    refine bEqL (x := l11) h_l11 ?_
    refine bGo hA 1 8 (40, .iadd, 1, 25, 0, [], []) rfl rfl rfl ?_
    refine bEqI (bn_add l7 (bi σ 119 l11)) ?_
    refine bGo hA 1 9 (41, .istore 7, 2, 26, 0, [7], []) rfl rfl rfl ?_
    refine bGo hA 1 10 (43, .iload 8, 2, 27, 0, [8], []) rfl rfl rfl ?_
    refine bGo hA 1 11 (45, .aload_n 0, 1, 28, 0, [0], []) rfl rfl rfl ?_
    refine bGo hA 1 12 (46, .getfield 200, 3, 29, 0, [12, 69, 3, 119, 1, 0], []) rfl rfl rfl ?_
    refine ⟨rfl, ?_⟩
    refine bGo hA 1 13 (49, .iload 11, 2, 30, 0, [11], []) rfl rfl rfl ?_
    refine bGo hA 1 14 (51, .iaload, 1, 31, 0, [], []) rfl rfl rfl ?_
    refine ⟨rfl, (bIxP (x := l11) (n := 64) h_l11 (h.1 c1).1), ?_⟩
    refine bEqL (x := l11) h_l11 ?_
    refine bGo hA 1 15 (52, .bipush (10), 2, 32, 0, [], [(10, 0)]) rfl rfl rfl ?_
    refine bEqI bl_10 ?_
    refine bGo hA 2 0 (54, .idiv, 1, 33, 0, [], []) rfl rfl rfl ?_
    refine ⟨by decide, ?_⟩
    refine bEqI (bn_div (bi_rg _ _ _) (by decide) (h.1 c1).2.2.1) ?_
    refine bGo hA 2 1 (55, .iadd, 1, 34, 0, [], []) rfl rfl rfl ?_
    refine bEqI (bn_add l8 ((bi σ 119 l11) / 10)) ?_
    refine bGo hA 2 2 (56, .istore 8, 2, 35, 0, [8], []) rfl rfl rfl ?_
    refine bGo hA 2 3 (58, .iload 9, 2, 36, 0, [9], []) rfl rfl rfl ?_
    refine bGo hA 2 4 (60, .iload 11, 2, 37, 0, [11], []) rfl rfl rfl ?_
    refine bGo hA 2 5 (62, .iconst (1), 1, 38, 0, [], [(1, 0)]) rfl rfl rfl ?_
    refine bEqI bl_1 ?_
    refine bGo hA 2 6 (63, .iadd, 1, 39, 0, [], []) rfl rfl rfl ?_
    refine bEqI (bn_add l11 1) ?_
    refine bGo hA 2 7 (64, .aload_n 0, 1, 40, 0, [0], []) rfl rfl rfl ?_
    refine bGo hA 2 8 (65, .getfield 200, 3, 41, 0, [12, 69, 3, 119, 1, 0], []) rfl rfl rfl ?_
    refine ⟨rfl, ?_⟩
    refine bGo hA 2 9 (68, .iload 11, 2, 42, 0, [11], []) rfl rfl rfl ?_
    refine bGo hA 2 10 (70, .iaload, 1, 43, 0, [], []) rfl rfl rfl ?_
    refine ⟨rfl, (bIxP (x := l11) (n := 64) h_l11 (h.1 c1).1), ?_⟩
    refine bEqL (x := l11) h_l11 ?_
    refine bGo hA 2 11 (71, .imul, 1, 44, 0, [], []) rfl rfl rfl ?_
    refine bEqI (bn_mul (l11 + 1) (bi σ 119 l11)) ?_
    refine bGo hA 2 12 (72, .iadd, 1, 45, 0, [], []) rfl rfl rfl ?_
    refine bEqI (bn_add l9 ((l11 + 1) * (bi σ 119 l11))) ?_
    refine bGo hA 2 13 (73, .istore 9, 2, 46, 0, [9], []) rfl rfl rfl ?_
    refine bGo hA 2 14 (75, .aload_n 0, 1, 47, 0, [0], []) rfl rfl rfl ?_
    refine bGo hA 2 15 (76, .getfield 200, 3, 48, 0, [12, 69, 3, 119, 1, 0], []) rfl rfl rfl ?_
    refine ⟨rfl, ?_⟩
    refine bGo hA 3 0 (79, .iload 11, 2, 49, 0, [11], []) rfl rfl rfl ?_
    refine bGo hA 3 1 (81, .iaload, 1, 50, 0, [], []) rfl rfl rfl ?_
    refine ⟨rfl, (bIxP (x := l11) (n := 64) h_l11 (h.1 c1).1), ?_⟩
    refine bEqL (x := l11) h_l11 ?_
    refine bGo hA 3 2 (82, .iload 10, 2, 51, 0, [10], []) rfl rfl rfl ?_
    refine bGo hA 3 3 (84, .if_icmp .le (13), 3, 52, 57, [], []) rfl rfl rfl ?_
    refine bB_lt (x := l10) (y := (bi σ 119 l11)) h_l10 (bi_rg _ _ _) (fun c2 => ?_) (fun c2 => ?_)
    · refine bGo hA 3 4 (87, .aload_n 0, 1, 53, 0, [0], []) rfl rfl rfl ?_
      refine bGo hA 3 5 (88, .getfield 200, 3, 54, 0, [12, 69, 3, 119, 1, 0], []) rfl rfl rfl ?_
      refine ⟨rfl, ?_⟩
      refine bGo hA 3 6 (91, .iload 11, 2, 55, 0, [11], []) rfl rfl rfl ?_
      refine bGo hA 3 7 (93, .iaload, 1, 56, 0, [], []) rfl rfl rfl ?_
      refine ⟨rfl, (bIxP (x := l11) (n := 64) h_l11 (h.1 c1).1), ?_⟩
      refine bEqL (x := l11) h_l11 ?_
      refine bGo hA 3 8 (94, .goto (5), 3, 57, 58, [], []) rfl rfl rfl ?_
      refine bGo hA 3 10 (99, .istore 10, 2, 59, 0, [10], []) rfl rfl rfl ?_
      refine bGo hA 3 11 (101, .iinc 11 (1), 3, 60, 0, [11], [(1, 0)]) rfl rfl rfl ?_
      refine bEqC (fun v => A (60, [.ref 12, .int (bn l1), .int (bn l2), .int (bn l3), .int (bn l4), .long l5, .float 0, .int (bn (l7 + (bi σ 119 l11))), .int (bn (l8 + ((bi σ 119 l11) / 10))), .int (bn (l9 + ((l11 + 1) * (bi σ 119 l11)))), .int (bn (bi σ 119 l11)), .int v, v12], [], σ)) ((congrArg (fun w => bn l11 + w) bl_1).trans (bn_add l11 1)) ?_
      refine bGo hA 3 12 (104, .goto (-79), 3, 61, 16, [], []) rfl rfl rfl ?_
      exact ((h.1 c1).2.2.2.2.2.2.2.1 c2)
    · refine bGo hA 3 9 (97, .iload 10, 2, 58, 0, [10], []) rfl rfl rfl ?_
      refine bGo hA 3 10 (99, .istore 10, 2, 59, 0, [10], []) rfl rfl rfl ?_
      refine bGo hA 3 11 (101, .iinc 11 (1), 3, 60, 0, [11], [(1, 0)]) rfl rfl rfl ?_
      refine bEqC (fun v => A (60, [.ref 12, .int (bn l1), .int (bn l2), .int (bn l3), .int (bn l4), .long l5, .float 0, .int (bn (l7 + (bi σ 119 l11))), .int (bn (l8 + ((bi σ 119 l11) / 10))), .int (bn (l9 + ((l11 + 1) * (bi σ 119 l11)))), .int (bn l10), .int v, v12], [], σ)) ((congrArg (fun w => bn l11 + w) bl_1).trans (bn_add l11 1)) ?_
      refine bGo hA 3 12 (104, .goto (-79), 3, 61, 16, [], []) rfl rfl rfl ?_
      exact ((h.1 c1).2.2.2.2.2.2.2.2 c2)
  · refine bGo hA 3 13 (107, .iload_n 1, 1, 62, 0, [1], []) rfl rfl rfl ?_
    refine bGo hA 3 14 (108, .iconst (4), 1, 63, 0, [], [(4, 0)]) rfl rfl rfl ?_
    refine bEqI bl_4 ?_
    refine bGo hA 3 15 (109, .if_icmp .ne (24), 3, 64, 76, [], []) rfl rfl rfl ?_
    refine bB_eq (x := l1) (y := 4) h_l1 (by decide : bRg 4) (fun c3 => ?_) (fun c3 => ?_)
    · refine bGo hA 4 0 (112, .iload_n 2, 1, 65, 0, [2], []) rfl rfl rfl ?_
      refine bGo hA 4 1 (113, .iload 7, 2, 66, 0, [7], []) rfl rfl rfl ?_
      refine bGo hA 4 2 (115, .iadd, 1, 67, 0, [], []) rfl rfl rfl ?_
      refine bEqI (bn_add l2 l7) ?_
      refine bGo hA 4 3 (116, .bipush (7), 2, 68, 0, [], [(7, 0)]) rfl rfl rfl ?_
      refine bEqI bl_7 ?_
      refine bGo hA 4 4 (118, .irem, 1, 69, 0, [], []) rfl rfl rfl ?_
      refine ⟨by decide, ?_⟩
      refine bEqI (bn_rem ((h.2 c1).1 c3).1 (by decide) ((h.2 c1).1 c3).2.1) ?_
      refine bGo hA 4 5 (119, .ifCond .ne (8), 3, 70, 72, [], []) rfl rfl rfl ?_
      refine bB_eq0 (x := ((l2 + l7) % 7)) (bRg_mod (by decide) (by decide)) (fun c4 => ?_) (fun c4 => ?_)
      · refine bGo hA 4 6 (122, .bipush (-5), 2, 71, 0, [], [(-5, 0)]) rfl rfl rfl ?_
        refine bEqI bl_m5 ?_
        refine bGo hA 4 7 (124, .goto (8), 3, 72, 75, [], []) rfl rfl rfl ?_
        refine bGo hA 4 11 (132, .ireturn, 1, 76, 0, [1], []) rfl rfl rfl ?_
        exact (((h.2 c1).1 c3).2.2.1 c4)
      · refine bGo hA 4 8 (127, .iload_n 2, 1, 73, 0, [2], []) rfl rfl rfl ?_
        refine bGo hA 4 9 (128, .sipush (1000), 3, 74, 0, [], [(1000, 0)]) rfl rfl rfl ?_
        refine bEqI bl_1000 ?_
        refine bGo hA 4 10 (131, .irem, 1, 75, 0, [], []) rfl rfl rfl ?_
        refine ⟨by decide, ?_⟩
        refine bEqI (bn_rem h_l2 (by decide) (((h.2 c1).1 c3).2.2.2 c4).1) ?_
        refine bGo hA 4 11 (132, .ireturn, 1, 76, 0, [1], []) rfl rfl rfl ?_
        exact (((h.2 c1).1 c3).2.2.2 c4).2
    · refine bGo hA 4 12 (133, .iconst (0), 1, 77, 0, [], [(0, 0)]) rfl rfl rfl ?_
      refine bEqI bl_0 ?_
      refine bGo hA 4 13 (134, .istore 11, 2, 78, 0, [11], []) rfl rfl rfl ?_
      refine bGo hA 4 14 (136, .iconst (0), 1, 79, 0, [], [(0, 0)]) rfl rfl rfl ?_
      refine bEqI bl_0 ?_
      refine bGo hA 4 15 (137, .istore 12, 2, 80, 0, [12], []) rfl rfl rfl ?_
      exact ((h.2 c1).2 c3)

theorem sq259_80 {lvl : Nat} {C : bCall} {Q : bPost} {A : bPt → Prop} (hC : bMono C) (hA : bClosed lvl bm259 C Q A) {l1 : Int} {l2 : Int} {l3 : Int} {l4 : Int} {l5 : Int64} {l7 : Int} {l8 : Int} {l9 : Int} {l10 : Int} {l11 : Int} {l12 : Int} {σ : bSt}  (h_l1 : bRg l1) (h_l2 : bRg l2) (h_l3 : bRg l3) (h_l4 : bRg l4) (h_l7 : bRg l7) (h_l8 : bRg l8) (h_l9 : bRg l9) (h_l10 : bRg l10) (h_l11 : bRg l11) (h_l12 : bRg l12)
  (h : ((l12 < l3 → ((l1 = 5 → ((0 ≤ l12 ∧ l12 < 64) ∧ (C 260 [.ref 12, .int (bn (bi σ 119 l12)), .int (bn l4), .long l5] σ (bRn (fun r5 s3 => (bRg (l11 + r5) ∧ (bRg (l12 + 1) ∧ A (80, [.ref 12, .int (bn l1), .int (bn l2), .int (bn l3), .int (bn l4), .long l5, .float 0, .int (bn l7), .int (bn l8), .int (bn l9), .int (bn l10), .int (bn (l11 + r5)), .int (bn (l12 + 1))], [], s3)))))))) ∧ (¬ l1 = 5 → A (99, [.ref 12, .int (bn l1), .int (bn l2), .int (bn l3), .int (bn l4), .long l5, .float 0, .int (bn l7), .int (bn l8), .int (bn l9), .int (bn l10), .int (bn l11), .int (bn l12)], [], σ)))) ∧ (¬ l12 < l3 → A (99, [.ref 12, .int (bn l1), .int (bn l2), .int (bn l3), .int (bn l4), .long l5, .float 0, .int (bn l7), .int (bn l8), .int (bn l9), .int (bn l10), .int (bn l11), .int (bn l12)], [], σ)))) : A (80, [.ref 12, .int (bn l1), .int (bn l2), .int (bn l3), .int (bn l4), .long l5, .float 0, .int (bn l7), .int (bn l8), .int (bn l9), .int (bn l10), .int (bn l11), .int (bn l12)], [], σ) := by
  refine bGo hA 5 0 (139, .iload 12, 2, 81, 0, [12], []) rfl rfl rfl ?_
  refine bGo hA 5 1 (141, .iload_n 3, 1, 82, 0, [3], []) rfl rfl rfl ?_
  refine bGo hA 5 2 (142, .if_icmp .ge (34), 3, 83, 99, [], []) rfl rfl rfl ?_
  refine bB_lt (x := l12) (y := l3) h_l12 h_l3 (fun c1 => ?_) (fun c1 => ?_)
  · refine bGo hA 5 3 (145, .iload_n 1, 1, 84, 0, [1], []) rfl rfl rfl ?_
    refine bGo hA 5 4 (146, .iconst (5), 1, 85, 0, [], [(5, 0)]) rfl rfl rfl ?_
    refine bEqI bl_5 ?_
    refine bGo hA 5 5 (147, .if_icmp .ne (29), 3, 86, 99, [], []) rfl rfl rfl ?_
    refine bB_eq (x := l1) (y := 5) h_l1 (by decide : bRg 5) (fun c2 => ?_) (fun c2 => ?_)
    · refine bGo hA 5 6 (150, .iload 11, 2, 87, 0, [11], []) rfl rfl rfl ?_
      refine bGo hA 5 7 (152, .aload_n 0, 1, 88, 0, [0], []) rfl rfl rfl ?_
      refine bGo hA 5 8 (153, .aload_n 0, 1, 89, 0, [0], []) rfl rfl rfl ?_
      refine bGo hA 5 9 (154, .getfield 200, 3, 90, 0, [12, 69, 3, 119, 1, 0], []) rfl rfl rfl ?_
      refine ⟨rfl, ?_⟩
      refine bGo hA 5 10 (157, .iload 12, 2, 91, 0, [12], []) rfl rfl rfl ?_
      refine bGo hA 5 11 (159, .iaload, 1, 92, 0, [], []) rfl rfl rfl ?_
      refine ⟨rfl, (bIxP (x := l12) (n := 64) h_l12 ((h.1 c1).1 c2).1), ?_⟩
      refine bEqL (x := l12) h_l12 ?_
      refine bGo hA 5 12 (160, .iload 4, 2, 93, 0, [4], []) rfl rfl rfl ?_
      refine bGo hA 5 13 (162, .lload 5, 2, 94, 0, [5], []) rfl rfl rfl ?_
      refine bGo hA 5 14 (164, .invokevirtual 444, 3, 95, 0, [0, 12, 260, 3], []) rfl rfl rfl ?_
      refine ⟨rfl, ?_⟩
      refine hC _ _ _ _ _ (bRn_e (fun r5 s3 q6 k4 => ?_)) ((h.1 c1).1 c2).2
      show A (95, [.ref 12, .int (bn l1), .int (bn l2), .int (bn l3), .int (bn l4), .long l5, .float 0, .int (bn l7), .int (bn l8), .int (bn l9), .int (bn l10), .int (bn l11), .int (bn l12)], [.int (bn r5), .int (bn l11)], s3)
      refine bGo hA 5 15 (167, .iadd, 1, 96, 0, [], []) rfl rfl rfl ?_
      refine bEqI (bn_add l11 r5) ?_
      refine bGo hA 6 0 (168, .istore 11, 2, 97, 0, [11], []) rfl rfl rfl ?_
      refine bGo hA 6 1 (170, .iinc 12 (1), 3, 98, 0, [12], [(1, 0)]) rfl rfl rfl ?_
      refine bEqC (fun v => A (98, [.ref 12, .int (bn l1), .int (bn l2), .int (bn l3), .int (bn l4), .long l5, .float 0, .int (bn l7), .int (bn l8), .int (bn l9), .int (bn l10), .int (bn (l11 + r5)), .int v], [], s3)) ((congrArg (fun w => bn l12 + w) bl_1).trans (bn_add l12 1)) ?_
      refine bGo hA 6 2 (173, .goto (-34), 3, 99, 80, [], []) rfl rfl rfl ?_
      exact k4.2.2
    · exact ((h.1 c1).2 c2)
  · exact (h.2 c1)

theorem sq259_99 {lvl : Nat} {C : bCall} {Q : bPost} {A : bPt → Prop} (hC : bMono C) (hA : bClosed lvl bm259 C Q A) {v0 : Value} {l1 : Int} {l2 : Int} {l3 : Int} {v4 : Value} {v5 : Value} {v6 : Value} {l7 : Int} {l8 : Int} {l9 : Int} {l10 : Int} {l11 : Int} {v12 : Value} {σ : bSt}  (h_l1 : bRg l1) (h_l2 : bRg l2) (h_l3 : bRg l3) (h_l7 : bRg l7) (h_l8 : bRg l8) (h_l9 : bRg l9) (h_l10 : bRg l10) (h_l11 : bRg l11)
  (h : ((l1 = 0 → (bRg (l2 + l9) ∧ (0 ≤ (l2 + l9) ∧ Q (.inl (some (.int (bn ((l2 + l9) % 1000))))) σ))) ∧ (¬ l1 = 0 → ((l1 = 1 → (bRg (l2 + l8) ∧ (0 ≤ (l2 + l8) ∧ Q (.inl (some (.int (bn ((l2 + l8) % 1000))))) σ))) ∧ (¬ l1 = 1 → ((l1 = 2 → (bRg (l10 + l2) ∧ (0 ≤ (l10 + l2) ∧ Q (.inl (some (.int (bn ((l10 + l2) % 1000))))) σ))) ∧ (¬ l1 = 2 → ((l1 = 3 → (bRg (l2 + l3) ∧ (0 ≤ (l2 + l3) ∧ Q (.inl (some (.int (bn ((l2 + l3) % 1000))))) σ))) ∧ (¬ l1 = 3 → (bRg (l2 + l7) ∧ (bRg ((l2 + l7) + l11) ∧ (0 ≤ ((l2 + l7) + l11) ∧ Q (.inl (some (.int (bn (((l2 + l7) + l11) % 1000))))) σ)))))))))))) : A (99, [v0, .int (bn l1), .int (bn l2), .int (bn l3), v4, v5, v6, .int (bn l7), .int (bn l8), .int (bn l9), .int (bn l10), .int (bn l11), v12], [], σ) := by
  refine bGo hA 6 3 (176, .iload_n 1, 1, 100, 0, [1], []) rfl rfl rfl ?_
  refine bGo hA 6 4 (177, .ifCond .ne (10), 3, 101, 105, [], []) rfl rfl rfl ?_
  refine bB_eq0 (x := l1) h_l1 (fun c1 => ?_) (fun c1 => ?_)
  · refine bGo hA 6 5 (180, .iload_n 2, 1, 102, 0, [2], []) rfl rfl rfl ?_
    refine bGo hA 6 6 (181, .iload 9, 2, 103, 0, [9], []) rfl rfl rfl ?_
    refine bGo hA 6 7 (183, .iadd, 1, 104, 0, [], []) rfl rfl rfl ?_
    refine bEqI (bn_add l2 l9) ?_
    refine bGo hA 6 8 (184, .goto (45), 3, 105, 131, [], []) rfl rfl rfl ?_
    refine bGo hA 8 3 (229, .istore 12, 2, 132, 0, [12], []) rfl rfl rfl ?_
    refine bGo hA 8 4 (231, .iload 12, 2, 133, 0, [12], []) rfl rfl rfl ?_
    refine bGo hA 8 5 (233, .sipush (1000), 3, 134, 0, [], [(1000, 0)]) rfl rfl rfl ?_
    refine bEqI bl_1000 ?_
    refine bGo hA 8 6 (236, .irem, 1, 135, 0, [], []) rfl rfl rfl ?_
    refine ⟨by decide, ?_⟩
    refine bEqI (bn_rem (h.1 c1).1 (by decide) (h.1 c1).2.1) ?_
    refine bGo hA 8 7 (237, .ireturn, 1, 0, 0, [1], []) rfl rfl rfl ?_
    exact (h.1 c1).2.2
  · refine bGo hA 6 9 (187, .iload_n 1, 1, 106, 0, [1], []) rfl rfl rfl ?_
    refine bGo hA 6 10 (188, .iconst (1), 1, 107, 0, [], [(1, 0)]) rfl rfl rfl ?_
    refine bEqI bl_1 ?_
    refine bGo hA 6 11 (189, .if_icmp .ne (10), 3, 108, 112, [], []) rfl rfl rfl ?_
    refine bB_eq (x := l1) (y := 1) h_l1 (by decide : bRg 1) (fun c2 => ?_) (fun c2 => ?_)
    · refine bGo hA 6 12 (192, .iload_n 2, 1, 109, 0, [2], []) rfl rfl rfl ?_
      refine bGo hA 6 13 (193, .iload 8, 2, 110, 0, [8], []) rfl rfl rfl ?_
      refine bGo hA 6 14 (195, .iadd, 1, 111, 0, [], []) rfl rfl rfl ?_
      refine bEqI (bn_add l2 l8) ?_
      refine bGo hA 6 15 (196, .goto (33), 3, 112, 131, [], []) rfl rfl rfl ?_
      refine bGo hA 8 3 (229, .istore 12, 2, 132, 0, [12], []) rfl rfl rfl ?_
      refine bGo hA 8 4 (231, .iload 12, 2, 133, 0, [12], []) rfl rfl rfl ?_
      refine bGo hA 8 5 (233, .sipush (1000), 3, 134, 0, [], [(1000, 0)]) rfl rfl rfl ?_
      refine bEqI bl_1000 ?_
      refine bGo hA 8 6 (236, .irem, 1, 135, 0, [], []) rfl rfl rfl ?_
      refine ⟨by decide, ?_⟩
      refine bEqI (bn_rem ((h.2 c1).1 c2).1 (by decide) ((h.2 c1).1 c2).2.1) ?_
      refine bGo hA 8 7 (237, .ireturn, 1, 0, 0, [1], []) rfl rfl rfl ?_
      exact ((h.2 c1).1 c2).2.2
    · refine bGo hA 7 0 (199, .iload_n 1, 1, 113, 0, [1], []) rfl rfl rfl ?_
      refine bGo hA 7 1 (200, .iconst (2), 1, 114, 0, [], [(2, 0)]) rfl rfl rfl ?_
      refine bEqI bl_2 ?_
      refine bGo hA 7 2 (201, .if_icmp .ne (10), 3, 115, 119, [], []) rfl rfl rfl ?_
      refine bB_eq (x := l1) (y := 2) h_l1 (by decide : bRg 2) (fun c3 => ?_) (fun c3 => ?_)
      · refine bGo hA 7 3 (204, .iload 10, 2, 116, 0, [10], []) rfl rfl rfl ?_
        refine bGo hA 7 4 (206, .iload_n 2, 1, 117, 0, [2], []) rfl rfl rfl ?_
        refine bGo hA 7 5 (207, .iadd, 1, 118, 0, [], []) rfl rfl rfl ?_
        refine bEqI (bn_add l10 l2) ?_
        refine bGo hA 7 6 (208, .goto (21), 3, 119, 131, [], []) rfl rfl rfl ?_
        refine bGo hA 8 3 (229, .istore 12, 2, 132, 0, [12], []) rfl rfl rfl ?_
        refine bGo hA 8 4 (231, .iload 12, 2, 133, 0, [12], []) rfl rfl rfl ?_
        refine bGo hA 8 5 (233, .sipush (1000), 3, 134, 0, [], [(1000, 0)]) rfl rfl rfl ?_
        refine bEqI bl_1000 ?_
        refine bGo hA 8 6 (236, .irem, 1, 135, 0, [], []) rfl rfl rfl ?_
        refine ⟨by decide, ?_⟩
        refine bEqI (bn_rem (((h.2 c1).2 c2).1 c3).1 (by decide) (((h.2 c1).2 c2).1 c3).2.1) ?_
        refine bGo hA 8 7 (237, .ireturn, 1, 0, 0, [1], []) rfl rfl rfl ?_
        exact (((h.2 c1).2 c2).1 c3).2.2
      · refine bGo hA 7 7 (211, .iload_n 1, 1, 120, 0, [1], []) rfl rfl rfl ?_
        refine bGo hA 7 8 (212, .iconst (3), 1, 121, 0, [], [(3, 0)]) rfl rfl rfl ?_
        refine bEqI bl_3 ?_
        refine bGo hA 7 9 (213, .if_icmp .ne (9), 3, 122, 126, [], []) rfl rfl rfl ?_
        refine bB_eq (x := l1) (y := 3) h_l1 (by decide : bRg 3) (fun c4 => ?_) (fun c4 => ?_)
        · refine bGo hA 7 10 (216, .iload_n 2, 1, 123, 0, [2], []) rfl rfl rfl ?_
          refine bGo hA 7 11 (217, .iload_n 3, 1, 124, 0, [3], []) rfl rfl rfl ?_
          refine bGo hA 7 12 (218, .iadd, 1, 125, 0, [], []) rfl rfl rfl ?_
          refine bEqI (bn_add l2 l3) ?_
          refine bGo hA 7 13 (219, .goto (10), 3, 126, 131, [], []) rfl rfl rfl ?_
          refine bGo hA 8 3 (229, .istore 12, 2, 132, 0, [12], []) rfl rfl rfl ?_
          refine bGo hA 8 4 (231, .iload 12, 2, 133, 0, [12], []) rfl rfl rfl ?_
          refine bGo hA 8 5 (233, .sipush (1000), 3, 134, 0, [], [(1000, 0)]) rfl rfl rfl ?_
          refine bEqI bl_1000 ?_
          refine bGo hA 8 6 (236, .irem, 1, 135, 0, [], []) rfl rfl rfl ?_
          refine ⟨by decide, ?_⟩
          refine bEqI (bn_rem ((((h.2 c1).2 c2).2 c3).1 c4).1 (by decide) ((((h.2 c1).2 c2).2 c3).1 c4).2.1) ?_
          refine bGo hA 8 7 (237, .ireturn, 1, 0, 0, [1], []) rfl rfl rfl ?_
          exact ((((h.2 c1).2 c2).2 c3).1 c4).2.2
        · refine bGo hA 7 14 (222, .iload_n 2, 1, 127, 0, [2], []) rfl rfl rfl ?_
          refine bGo hA 7 15 (223, .iload 7, 2, 128, 0, [7], []) rfl rfl rfl ?_
          refine bGo hA 8 0 (225, .iadd, 1, 129, 0, [], []) rfl rfl rfl ?_
          refine bEqI (bn_add l2 l7) ?_
          refine bGo hA 8 1 (226, .iload 11, 2, 130, 0, [11], []) rfl rfl rfl ?_
          refine bGo hA 8 2 (228, .iadd, 1, 131, 0, [], []) rfl rfl rfl ?_
          refine bEqI (bn_add (l2 + l7) l11) ?_
          refine bGo hA 8 3 (229, .istore 12, 2, 132, 0, [12], []) rfl rfl rfl ?_
          refine bGo hA 8 4 (231, .iload 12, 2, 133, 0, [12], []) rfl rfl rfl ?_
          refine bGo hA 8 5 (233, .sipush (1000), 3, 134, 0, [], [(1000, 0)]) rfl rfl rfl ?_
          refine bEqI bl_1000 ?_
          refine bGo hA 8 6 (236, .irem, 1, 135, 0, [], []) rfl rfl rfl ?_
          refine ⟨by decide, ?_⟩
          refine bEqI (bn_rem ((((h.2 c1).2 c2).2 c3).2 c4).2.1 (by decide) ((((h.2 c1).2 c2).2 c3).2 c4).2.2.1) ?_
          refine bGo hA 8 7 (237, .ireturn, 1, 0, 0, [1], []) rfl rfl rfl ?_
          exact ((((h.2 c1).2 c2).2 c3).2 c4).2.2.2

theorem sq260_0 {lvl : Nat} {C : bCall} {Q : bPost} {A : bPt → Prop} (hC : bMono C) (hA : bClosed lvl bm260 C Q A) {x1 : Int} {x2 : Int} {x3 : Int64} {σ : bSt}  (h_x1 : bRg x1) (h_x2 : bRg x2)
  (h : A (4, [.ref 12, .int (bn x1), .int (bn x2), .long x3, .float 0, .int (bn 0), .int (bn x1), .float 0, .float 0, .float 0], [], σ)) : A (0, [.ref 12, .int (bn x1), .int (bn x2), .long x3, .float 0, .float 0, .float 0, .float 0, .float 0, .float 0], [], σ) := by
  refine bGo hA 0 0 (0, .iconst (0), 1, 1, 0, [], [(0, 0)]) rfl rfl rfl ?_
  refine bEqI bl_0 ?_
  refine bGo hA 0 1 (1, .istore 5, 2, 2, 0, [5], []) rfl rfl rfl ?_
  refine bGo hA 0 2 (3, .iload_n 1, 1, 3, 0, [1], []) rfl rfl rfl ?_
  refine bGo hA 0 3 (4, .istore 6, 2, 4, 0, [6], []) rfl rfl rfl ?_
  exact h

theorem sq260_4 {lvl : Nat} {C : bCall} {Q : bPost} {A : bPt → Prop} (hC : bMono C) (hA : bClosed lvl bm260 C Q A) {v1 : Value} {l2 : Int} {l3 : Int64} {l5 : Int} {l6 : Int} {v7 : Value} {v8 : Value} {v9 : Value} {σ : bSt}  (h_l2 : bRg l2) (h_l5 : bRg l5) (h_l6 : bRg l6)
  (h : ((l6 < 500 → Q (.inl (some (.int (bn l5)))) σ) ∧ (¬ l6 < 500 → (0 ≤ l6 ∧ A (17, [.ref 12, v1, .int (bn l2), .long l3, .float 0, .int (bn l5), .int (bn 0), .int (bn (l6 % 48)), .int (bn 1), .int (bn 0)], [], σ))))) : A (4, [.ref 12, v1, .int (bn l2), .long l3, .float 0, .int (bn l5), .int (bn l6), v7, v8, v9], [], σ) := by
  refine bGo hA 0 4 (6, .iload 6, 2, 5, 0, [6], []) rfl rfl rfl ?_
  refine bGo hA 0 5 (8, .sipush (500), 3, 6, 0, [], [(500, 0)]) rfl rfl rfl ?_
  refine bEqI bl_500 ?_
  refine bGo hA 0 6 (11, .if_icmp .lt (168), 3, 7, 94, [], []) rfl rfl rfl ?_
  refine bB_lt (x := l6) (y := 500) h_l6 (by decide : bRg 500) (fun c1 => ?_) (fun c1 => ?_)
  · refine bGo hA 5 14 (179, .iload 5, 2, 95, 0, [5], []) rfl rfl rfl ?_
    refine bGo hA 5 15 (181, .ireturn, 1, 0, 0, [1], []) rfl rfl rfl ?_
    exact (h.1 c1)
  · refine bGo hA 0 7 (14, .iload 6, 2, 8, 0, [6], []) rfl rfl rfl ?_
    refine bGo hA 0 8 (16, .bipush (48), 2, 9, 0, [], [(48, 0)]) rfl rfl rfl ?_
    refine bEqI bl_48 ?_
    refine bGo hA 0 9 (18, .irem, 1, 10, 0, [], []) rfl rfl rfl ?_
    refine ⟨by decide, ?_⟩
    refine bEqI (bn_rem h_l6 (by decide) (h.2 c1).1) ?_
    refine bGo hA 0 10 (19, .istore 7, 2, 11, 0, [7], []) rfl rfl rfl ?_
    refine bGo hA 0 11 (21, .iconst (0), 1, 12, 0, [], [(0, 0)]) rfl rfl rfl ?_
    refine bEqI bl_0 ?_
    refine bGo hA 0 12 (22, .istore 6, 2, 13, 0, [6], []) rfl rfl rfl ?_
    refine bGo hA 0 13 (24, .iconst (1), 1, 14, 0, [], [(1, 0)]) rfl rfl rfl ?_
    refine bEqI bl_1 ?_
    refine bGo hA 0 14 (25, .istore 8, 2, 15, 0, [8], []) rfl rfl rfl ?_
    refine bGo hA 0 15 (27, .iconst (0), 1, 16, 0, [], [(0, 0)]) rfl rfl rfl ?_
    refine bEqI bl_0 ?_
    refine bGo hA 1 0 (28, .istore 9, 2, 17, 0, [9], []) rfl rfl rfl ?_
    exact (h.2 c1).2

theorem sq260_17 {lvl : Nat} {C : bCall} {Q : bPost} {A : bPt → Prop} (hC : bMono C) (hA : bClosed lvl bm260 C Q A) {v1 : Value} {l2 : Int} {l3 : Int64} {l5 : Int} {l6 : Int} {l7 : Int} {l8 : Int} {l9 : Int} {σ : bSt}  (h_l2 : bRg l2) (h_l5 : bRg l5) (h_l6 : bRg l6) (h_l7 : bRg l7) (h_l8 : bRg l8) (h_l9 : bRg l9)
  (h : ((l9 < (bi σ 12 70) → ((l8 = 0 → (bRg (l9 + 1) ∧ A (17, [.ref 12, v1, .int (bn l2), .long l3, .float 0, .int (bn l5), .int (bn l6), .int (bn l7), .int (bn 0), .int (bn (l9 + 1))], [], σ))) ∧ (¬ l8 = 0 → ((0 ≤ l9 ∧ l9 < 48) ∧ (0 ≤ (bi σ 120 l9) ∧ ((((bi σ 120 l9) / 1001) = l7 → (bRg (l9 + 1) ∧ A (17, [.ref 12, v1, .int (bn l2), .long l3, .float 0, .int (bn l5), .int (bn l6), .int (bn l7), .int (bn 0), .int (bn (l9 + 1))], [], σ))) ∧ (¬ ((bi σ 120 l9) / 1001) = l7 → (bRg (l9 + 1) ∧ A (17, [.ref 12, v1, .int (bn l2), .long l3, .float 0, .int (bn l5), .int (bn l6), .int (bn l7), .int (bn 1), .int (bn (l9 + 1))], [], σ))))))))) ∧ (¬ l9 < (bi σ 12 70) → ((l8 = 0 → A (4, [.ref 12, v1, .int (bn l2), .long l3, .float 0, .int (bn l5), .int (bn l6), .int (bn l7), .int (bn l8), .int (bn l9)], [], σ)) ∧ (¬ l8 = 0 → (C 258 [.ref 12, .int (bn l2), .long l3, .int (bn l7)] σ (bRn (fun r7 s5 => (bRg (1001 * l7) ∧ (bRg ((1001 * l7) + r7) ∧ (bRg (((1001 * l7) + r7) + 1) ∧ ((0 ≤ (bi s5 12 70) ∧ (bi s5 12 70) < 48) ∧ (bRg ((bi s5 12 70) + 1) ∧ (((bi s5 12 72) = 0 → (C 257 [.ref 12, .int (bn l2), .long l3, .int (bn l7)] (bw (bw s5 120 (bi s5 12 70) (((1001 * l7) + r7) + 1)) 12 70 ((bi s5 12 70) + 1)) (bRn (fun r12 s10 => ((r12 = 0 → ((r7 = (-1) → (bRg (l5 + 0) ∧ ((r7 = (-1) → A (4, [.ref 12, v1, .int (bn l2), .long l3, .float 0, .int (bn (l5 + 0)), .int (bn 0), .int (bn l7), .int (bn l8), .int (bn r7)], [], (bw s10 12 72 1))) ∧ (¬ r7 = (-1) → A (4, [.ref 12, v1, .int (bn l2), .long l3, .float 0, .int (bn (l5 + 0)), .int (bn r7), .int (bn l7), .int (bn l8), .int (bn r7)], [], (bw s10 12 72 1)))))) ∧ (¬ r7 = (-1) → (bRg (l5 + r7) ∧ ((r7 = (-1) → A (4, [.ref 12, v1, .int (bn l2), .long l3, .float 0, .int (bn (l5 + r7)), .int (bn 0), .int (bn l7), .int (bn l8), .int (bn r7)], [], (bw s10 12 72 1))) ∧ (¬ r7 = (-1) → A (4, [.ref 12, v1, .int (bn l2), .long l3, .float 0, .int (bn (l5 + r7)), .int (bn r7), .int (bn l7), .int (bn l8), .int (bn r7)], [], (bw s10 12 72 1)))))))) ∧ (¬ r12 = 0 → ((r7 = (-1) → (bRg (l5 + 0) ∧ ((r7 = (-1) → A (4, [.ref 12, v1, .int (bn l2), .long l3, .float 0, .int (bn (l5 + 0)), .int (bn 0), .int (bn l7), .int (bn l8), .int (bn r7)], [], (bw s10 12 72 0))) ∧ (¬ r7 = (-1) → A (4, [.ref 12, v1, .int (bn l2), .long l3, .float 0, .int (bn (l5 + 0)), .int (bn r7), .int (bn l7), .int (bn l8), .int (bn r7)], [], (bw s10 12 72 0)))))) ∧ (¬ r7 = (-1) → (bRg (l5 + r7) ∧ ((r7 = (-1) → A (4, [.ref 12, v1, .int (bn l2), .long l3, .float 0, .int (bn (l5 + r7)), .int (bn 0), .int (bn l7), .int (bn l8), .int (bn r7)], [], (bw s10 12 72 0))) ∧ (¬ r7 = (-1) → A (4, [.ref 12, v1, .int (bn l2), .long l3, .float 0, .int (bn (l5 + r7)), .int (bn r7), .int (bn l7), .int (bn l8), .int (bn r7)], [], (bw s10 12 72 0))))))))))))) ∧ (¬ (bi s5 12 72) = 0 → ((r7 = (-1) → (bRg (l5 + 0) ∧ ((r7 = (-1) → A (4, [.ref 12, v1, .int (bn l2), .long l3, .float 0, .int (bn (l5 + 0)), .int (bn 0), .int (bn l7), .int (bn l8), .int (bn r7)], [], (bw (bw (bw s5 120 (bi s5 12 70) (((1001 * l7) + r7) + 1)) 12 70 ((bi s5 12 70) + 1)) 12 72 1))) ∧ (¬ r7 = (-1) → A (4, [.ref 12, v1, .int (bn l2), .long l3, .float 0, .int (bn (l5 + 0)), .int (bn r7), .int (bn l7), .int (bn l8), .int (bn r7)], [], (bw (bw (bw s5 120 (bi s5 12 70) (((1001 * l7) + r7) + 1)) 12 70 ((bi s5 12 70) + 1)) 12 72 1)))))) ∧ (¬ r7 = (-1) → (bRg (l5 + r7) ∧ ((r7 = (-1) → A (4, [.ref 12, v1, .int (bn l2), .long l3, .float 0, .int (bn (l5 + r7)), .int (bn 0), .int (bn l7), .int (bn l8), .int (bn r7)], [], (bw (bw (bw s5 120 (bi s5 12 70) (((1001 * l7) + r7) + 1)) 12 70 ((bi s5 12 70) + 1)) 12 72 1))) ∧ (¬ r7 = (-1) → A (4, [.ref 12, v1, .int (bn l2), .long l3, .float 0, .int (bn (l5 + r7)), .int (bn r7), .int (bn l7), .int (bn l8), .int (bn r7)], [], (bw (bw (bw s5 120 (bi s5 12 70) (((1001 * l7) + r7) + 1)) 12 70 ((bi s5 12 70) + 1)) 12 72 1)))))))))))))))))))))) : A (17, [.ref 12, v1, .int (bn l2), .long l3, .float 0, .int (bn l5), .int (bn l6), .int (bn l7), .int (bn l8), .int (bn l9)], [], σ) := by
  refine bGo hA 1 1 (30, .iload 9, 2, 18, 0, [9], []) rfl rfl rfl ?_
  refine bGo hA 1 2 (32, .aload_n 0, 1, 19, 0, [0], []) rfl rfl rfl ?_
  refine bGo hA 1 3 (33, .getfield 438, 3, 20, 0, [12, 70, 0, 0, 0, 0], []) rfl rfl rfl ?_
  refine ⟨rfl, ?_⟩
  refine bEqI (bn_bi σ 12 70) ?_
  refine bGo hA 1 4 (36, .if_icmp .ge (37), 3, 21, 37, [], []) rfl rfl rfl ?_
  refine bB_lt (x := l9) (y := (bi σ 12 70)) h_l9 (bi_rg _ _ _) (fun c1 => ?_) (fun c1 => ?_)
  · refine bGo hA 1 5 (39, .iload 8, 2, 22, 0, [8], []) rfl rfl rfl ?_
    refine bGo hA 1 6 (41, .ifCond .eq (23), 3, 23, 33, [], []) rfl rfl rfl ?_
    refine bB_eq0 (x := l8) h_l8 (fun c2 => ?_) (fun c2 => ?_)
    · refine bGo hA 2 1 (64, .iconst (0), 1, 34, 0, [], [(0, 0)]) rfl rfl rfl ?_
      refine bEqI bl_0 ?_
      refine bGo hA 2 2 (65, .istore 8, 2, 35, 0, [8], []) rfl rfl rfl ?_
      refine bGo hA 2 3 (67, .iinc 9 (1), 3, 36, 0, [9], [(1, 0)]) rfl rfl rfl ?_
      refine bEqC (fun v => A (36, [.ref 12, v1, .int (bn l2), .long l3, .float 0, .int (bn l5), .int (bn l6), .int (bn l7), .int (bn 0), .int v], [], σ)) ((congrArg (fun w => bn l9 + w) bl_1).trans (bn_add l9 1)) ?_
      refine bGo hA 2 4 (70, .goto (-40), 3, 37, 17, [], []) rfl rfl rfl ?_
      exact ((h.1 c1).1 c2).2
    · refine bGo hA 1 7 (44, .aload_n 0, 1, 24, 0, [0], []) rfl rfl rfl ?_
      refine bGo hA 1 8 (45, .getfield 203, 3, 25, 0, [12, 71, 3, 120, 1, 0], []) rfl rfl rfl ?_
      refine ⟨rfl, ?_⟩
      refine bGo hA 1 9 (48, .iload 9, 2, 26, 0, [9], []) rfl rfl rfl ?_
      refine bGo hA 1 10 (50, .iaload, 1, 27, 0, [], []) rfl rfl rfl ?_
      refine ⟨rfl, (bIxP (x := l9) (n := 48) h_l9 ((h.1 c1).2 c2).1), ?_⟩
      refine bEqL (x := l9) h_l9 ?_
      refine bGo hA 1 11 (51, .sipush (1001), 3, 28, 0, [], [(1001, 0)]) rfl rfl rfl ?_
      refine bEqI bl_1001 ?_
      refine bGo hA 1 12 (54, .idiv, 1, 29, 0, [], []) rfl rfl rfl ?_
      refine ⟨by decide, ?_⟩
      refine bEqI (bn_div (bi_rg _ _ _) (by decide) ((h.1 c1).2 c2).2.1) ?_
      refine bGo hA 1 13 (55, .iload 7, 2, 30, 0, [7], []) rfl rfl rfl ?_
      refine bGo hA 1 14 (57, .if_icmp .eq (7), 3, 31, 33, [], []) rfl rfl rfl ?_
      refine bB_eq (x := ((bi σ 120 l9) / 1001)) (y := l7) (bRg_div (bi_rg _ _ _) ((h.1 c1).2 c2).2.1) h_l7 (fun c3 => ?_) (fun c3 => ?_)
      · refine bGo hA 2 1 (64, .iconst (0), 1, 34, 0, [], [(0, 0)]) rfl rfl rfl ?_
        refine bEqI bl_0 ?_
        refine bGo hA 2 2 (65, .istore 8, 2, 35, 0, [8], []) rfl rfl rfl ?_
        refine bGo hA 2 3 (67, .iinc 9 (1), 3, 36, 0, [9], [(1, 0)]) rfl rfl rfl ?_
        refine bEqC (fun v => A (36, [.ref 12, v1, .int (bn l2), .long l3, .float 0, .int (bn l5), .int (bn l6), .int (bn l7), .int (bn 0), .int v], [], σ)) ((congrArg (fun w => bn l9 + w) bl_1).trans (bn_add l9 1)) ?_
        refine bGo hA 2 4 (70, .goto (-40), 3, 37, 17, [], []) rfl rfl rfl ?_
        exact (((h.1 c1).2 c2).2.2.1 c3).2
      · refine bGo hA 1 15 (60, .iconst (1), 1, 32, 0, [], [(1, 0)]) rfl rfl rfl ?_
        refine bEqI bl_1 ?_
        refine bGo hA 2 0 (61, .goto (4), 3, 33, 34, [], []) rfl rfl rfl ?_
        refine bGo hA 2 2 (65, .istore 8, 2, 35, 0, [8], []) rfl rfl rfl ?_
        refine bGo hA 2 3 (67, .iinc 9 (1), 3, 36, 0, [9], [(1, 0)]) rfl rfl rfl ?_
        refine bEqC (fun v => A (36, [.ref 12, v1, .int (bn l2), .long l3, .float 0, .int (bn l5), .int (bn l6), .int (bn l7), .int (bn 1), .int v], [], σ)) ((congrArg (fun w => bn l9 + w) bl_1).trans (bn_add l9 1)) ?_
        refine bGo hA 2 4 (70, .goto (-40), 3, 37, 17, [], []) rfl rfl rfl ?_
        exact (((h.1 c1).2 c2).2.2.2 c3).2
  · refine bGo hA 2 5 (73, .iload 8, 2, 38, 0, [8], []) rfl rfl rfl ?_
    refine bGo hA 2 6 (75, .ifCond .eq (101), 3, 39, 93, [], []) rfl rfl rfl ?_
    refine bB_eq0 (x := l8) h_l8 (fun c4 => ?_) (fun c4 => ?_)
    · refine bGo hA 5 13 (176, .goto (-170), 3, 94, 4, [], []) rfl rfl rfl ?_
      exact ((h.2 c1).1 c4)
    · refine bGo hA 2 7 (78, .aload_n 0, 1, 40, 0, [0], []) rfl rfl rfl ?_
      refine bGo hA 2 8 (79, .iload_n 2, 1, 41, 0, [2], []) rfl rfl rfl ?_
      refine bGo hA 2 9 (80, .lload_n 3, 1, 42, 0, [3], []) rfl rfl rfl ?_
      refine bGo hA 2 10 (81, .iload 7, 2, 43, 0, [7], []) rfl rfl rfl ?_
      refine bGo hA 2 11 (83, .invokevirtual 448, 3, 44, 0, [0, 12, 258, 3], []) rfl rfl rfl ?_
      refine ⟨rfl, ?_⟩
      refine hC _ _ _ _ _ (bRn_e (fun r7 s5 q8 k6 => ?_)) ((h.2 c1).2 c4)
      show A (44, [.ref 12, v1, .int (bn l2), .long l3, .float 0, .int (bn l5), .int (bn l6), .int (bn l7), .int (bn l8), .int (bn l9)], [.int (bn r7)], s5)
      refine bGo hA 2 12 (86, .istore 9, 2, 45, 0, [9], []) rfl rfl rfl ?_
      refine bGo hA 2 13 (88, .aload_n 0, 1, 46, 0, [0], []) rfl rfl rfl ?_
      refine bGo hA 2 14 (89, .getfield 203, 3, 47, 0, [12, 71, 3, 120, 1, 0], []) rfl rfl rfl ?_
      refine ⟨rfl, ?_⟩
      refine bGo hA 2 15 (92, .aload_n 0, 1, 48, 0, [0], []) rfl rfl rfl ?_
      refine bGo hA 3 0 (93, .getfield 438, 3, 49, 0, [12, 70, 0, 0, 0, 0], []) rfl rfl rfl ?_
      refine ⟨rfl, ?_⟩
      refine bEqI (bn_bi s5 12 70) ?_
      refine bGo hA 3 1 (96, .sipush (1001), 3, 50, 0, [], [(1001, 0)]) rfl rfl rfl ?_
      refine bEqI bl_1001 ?_
      refine bGo hA 3 2 (99, .iload 7, 2, 51, 0, [7], []) rfl rfl rfl ?_
      refine bGo hA 3 3 (101, .imul, 1, 52, 0, [], []) rfl rfl rfl ?_
      refine bEqI (bn_mul 1001 l7) ?_
      refine bGo hA 3 4 (102, .iload 9, 2, 53, 0, [9], []) rfl rfl rfl ?_
      refine bGo hA 3 5 (104, .iadd, 1, 54, 0, [], []) rfl rfl rfl ?_
      refine bEqI (bn_add (1001 * l7) r7) ?_
      refine bGo hA 3 6 (105, .iconst (1), 1, 55, 0, [], [(1, 0)]) rfl rfl rfl ?_
      refine bEqI bl_1 ?_
      refine bGo hA 3 7 (106, .iadd, 1, 56, 0, [], []) rfl rfl rfl ?_
      refine bEqI (bn_add ((1001 * l7) + r7) 1) ?_
      refine bGo hA 3 8 (107, .iastore, 1, 57, 0, [], []) rfl rfl rfl ?_
      refine ⟨rfl, (bIxP (x := (bi s5 12 70)) (n := 48) (bi_rg _ _ _) k6.2.2.2.1), by decide, ?_⟩
      refine bEqS (x := (bi s5 12 70)) (bi_rg _ _ _) ?_
      refine bGo hA 3 9 (108, .aload_n 0, 1, 58, 0, [0], []) rfl rfl rfl ?_
      refine bGo hA 3 10 (109, .dup, 1, 59, 0, [], []) rfl rfl rfl ?_
      refine bGo hA 3 11 (110, .getfield 438, 3, 60, 0, [12, 70, 0, 0, 0, 0], []) rfl rfl rfl ?_
      refine ⟨rfl, ?_⟩
      refine bEqI ((bn_bi (bw s5 120 (bi s5 12 70) (((1001 * l7) + r7) + 1)) 12 70).trans (congrArg bn (bi_ne (by decide)))) ?_
      refine bGo hA 3 12 (113, .iconst (1), 1, 61, 0, [], [(1, 0)]) rfl rfl rfl ?_
      refine bEqI bl_1 ?_
      refine bGo hA 3 13 (114, .iadd, 1, 62, 0, [], []) rfl rfl rfl ?_
      refine bEqI (bn_add (bi s5 12 70) 1) ?_
      refine bGo hA 3 14 (115, .putfield 438, 3, 63, 0, [12, 70, 0, 0, 0, 0], []) rfl rfl rfl ?_
      refine ⟨rfl, ?_⟩
      refine bGo hA 3 15 (118, .aload_n 0, 1, 64, 0, [0], []) rfl rfl rfl ?_
      refine bGo hA 4 0 (119, .aload_n 0, 1, 65, 0, [0], []) rfl rfl rfl ?_
      refine bGo hA 4 1 (120, .getfield 441, 3, 66, 0, [12, 72, 1, 0, 0, 0], []) rfl rfl rfl ?_
      refine ⟨rfl, ?_⟩
      refine bEqI ((bn_bi (bw (bw s5 120 (bi s5 12 70) (((1001 * l7) + r7) + 1)) 12 70 ((bi s5 12 70) + 1)) 12 72).trans (congrArg bn ((bi_nj (by decide) (by decide) (by decide)).trans (bi_ne (by decide))))) ?_
      refine bGo hA 4 2 (123, .ifCond .ne (14), 3, 67, 73, [], []) rfl rfl rfl ?_
      refine bB_eq0 (x := (bi s5 12 72)) (bi_rg _ _ _) (fun c9 => ?_) (fun c9 => ?_)
      · refine bGo hA 4 3 (126, .aload_n 0, 1, 68, 0, [0], []) rfl rfl rfl ?_
        refine bGo hA 4 4 (127, .iload_n 2, 1, 69, 0, [2], []) rfl rfl rfl ?_
        refine bGo hA 4 5 (128, .lload_n 3, 1, 70, 0, [3], []) rfl rfl rfl ?_
        refine bGo hA 4 6 (129, .iload 7, 2, 71, 0, [7], []) rfl rfl rfl ?_
        refine bGo hA 4 7 (131, .invokevirtual 434, 3, 72, 0, [0, 12, 257, 3], []) rfl rfl rfl ?_
        refine ⟨rfl, ?_⟩
        refine hC _ _ _ _ _ (bRn_e (fun r12 s10 q13 k11 => ?_)) (k6.2.2.2.2.2.1 c9)
        show A (72, [.ref 12, v1, .int (bn l2), .long l3, .float 0, .int (bn l5), .int (bn l6), .int (bn l7), .int (bn l8), .int (bn r7)], [.int (bn r12), .ref 12], s10)
        refine bGo hA 4 8 (134, .ifCond .ne (7), 3, 73, 75, [], []) rfl rfl rfl ?_
        refine bB_eq0 (x := r12) q13 (fun c14 => ?_) (fun c14 => ?_)
        · refine bGo hA 4 9 (137, .iconst (1), 1, 74, 0, [], [(1, 0)]) rfl rfl rfl ?_
          refine bEqI bl_1 ?_
          refine bGo hA 4 10 (138, .goto (4), 3, 75, 76, [], []) rfl rfl rfl ?_
          refine bGo hA 4 12 (142, .putfield 441, 3, 77, 0, [12, 72, 1, 0, 0, 0], []) rfl rfl rfl ?_
          refine ⟨rfl, b01 (Or.inr rfl), ?_⟩
          refine bGo hA 4 13 (145, .iload 5, 2, 78, 0, [5], []) rfl rfl rfl ?_
          refine bGo hA 4 14 (147, .iload 9, 2, 79, 0, [9], []) rfl rfl rfl ?_
          refine bGo hA 4 15 (149, .iconst (-1), 1, 80, 0, [], [(-1, 0)]) rfl rfl rfl ?_
          refine bEqI bl_m1 ?_
          refine bGo hA 5 0 (150, .if_icmp .ne (7), 3, 81, 83, [], []) rfl rfl rfl ?_
          refine bB_eq (x := r7) (y := (-1)) q8 (by decide : bRg (-1)) (fun c15 => ?_) (fun c15 => ?_)
          · refine bGo hA 5 1 (153, .iconst (0), 1, 82, 0, [], [(0, 0)]) rfl rfl rfl ?_
            refine bEqI bl_0 ?_
            refine bGo hA 5 2 (154, .goto (5), 3, 83, 84, [], []) rfl rfl rfl ?_
            refine bGo hA 5 4 (159, .iadd, 1, 85, 0, [], []) rfl rfl rfl ?_
            refine bEqI (bn_add l5 0) ?_
            refine bGo hA 5 5 (160, .istore 5, 2, 86, 0, [5], []) rfl rfl rfl ?_
            refine bGo hA 5 6 (162, .iload 9, 2, 87, 0, [9], []) rfl rfl rfl ?_
            refine bGo hA 5 7 (164, .iconst (-1), 1, 88, 0, [], [(-1, 0)]) rfl rfl rfl ?_
            refine bEqI bl_m1 ?_
            refine bGo hA 5 8 (165, .if_icmp .ne (7), 3, 89, 91, [], []) rfl rfl rfl ?_
            refine bB_eq (x := r7) (y := (-1)) q8 (by decide : bRg (-1)) (fun c16 => ?_) (fun c16 => ?_)
            · refine bGo hA 5 9 (168, .iconst (0), 1, 90, 0, [], [(0, 0)]) rfl rfl rfl ?_
              refine bEqI bl_0 ?_
              refine bGo hA 5 10 (169, .goto (5), 3, 91, 92, [], []) rfl rfl rfl ?_
              refine bGo hA 5 12 (174, .istore 6, 2, 93, 0, [6], []) rfl rfl rfl ?_
              refine bGo hA 5 13 (176, .goto (-170), 3, 94, 4, [], []) rfl rfl rfl ?_
              exact (((k11.1 c14).1 c15).2.1 c16)
            · refine bGo hA 5 11 (172, .iload 9, 2, 92, 0, [9], []) rfl rfl rfl ?_
              refine bGo hA 5 12 (174, .istore 6, 2, 93, 0, [6], []) rfl rfl rfl ?_
              refine bGo hA 5 13 (176, .goto (-170), 3, 94, 4, [], []) rfl rfl rfl ?_
              exact (((k11.1 c14).1 c15).2.2 c16)
          · refine bGo hA 5 3 (157, .iload 9, 2, 84, 0, [9], []) rfl rfl rfl ?_
            refine bGo hA 5 4 (159, .iadd, 1, 85, 0, [], []) rfl rfl rfl ?_
            refine bEqI (bn_add l5 r7) ?_
            refine bGo hA 5 5 (160, .istore 5, 2, 86, 0, [5], []) rfl rfl rfl ?_
            refine bGo hA 5 6 (162, .iload 9, 2, 87, 0, [9], []) rfl rfl rfl ?_
            refine bGo hA 5 7 (164, .iconst (-1), 1, 88, 0, [], [(-1, 0)]) rfl rfl rfl ?_
            refine bEqI bl_m1 ?_
            refine bGo hA 5 8 (165, .if_icmp .ne (7), 3, 89, 91, [], []) rfl rfl rfl ?_
            refine bB_eq (x := r7) (y := (-1)) q8 (by decide : bRg (-1)) (fun c17 => ?_) (fun c17 => ?_)
            · refine bGo hA 5 9 (168, .iconst (0), 1, 90, 0, [], [(0, 0)]) rfl rfl rfl ?_
              refine bEqI bl_0 ?_
              refine bGo hA 5 10 (169, .goto (5), 3, 91, 92, [], []) rfl rfl rfl ?_
              refine bGo hA 5 12 (174, .istore 6, 2, 93, 0, [6], []) rfl rfl rfl ?_
              refine bGo hA 5 13 (176, .goto (-170), 3, 94, 4, [], []) rfl rfl rfl ?_
              exact (((k11.1 c14).2 c15).2.1 c17)
            · refine bGo hA 5 11 (172, .iload 9, 2, 92, 0, [9], []) rfl rfl rfl ?_
              refine bGo hA 5 12 (174, .istore 6, 2, 93, 0, [6], []) rfl rfl rfl ?_
              refine bGo hA 5 13 (176, .goto (-170), 3, 94, 4, [], []) rfl rfl rfl ?_
              exact (((k11.1 c14).2 c15).2.2 c17)
        · refine bGo hA 4 11 (141, .iconst (0), 1, 76, 0, [], [(0, 0)]) rfl rfl rfl ?_
          refine bEqI bl_0 ?_
          refine bGo hA 4 12 (142, .putfield 441, 3, 77, 0, [12, 72, 1, 0, 0, 0], []) rfl rfl rfl ?_
          refine ⟨rfl, b01 (Or.inl rfl), ?_⟩
          refine bGo hA 4 13 (145, .iload 5, 2, 78, 0, [5], []) rfl rfl rfl ?_
          refine bGo hA 4 14 (147, .iload 9, 2, 79, 0, [9], []) rfl rfl rfl ?_
          refine bGo hA 4 15 (149, .iconst (-1), 1, 80, 0, [], [(-1, 0)]) rfl rfl rfl ?_
          refine bEqI bl_m1 ?_
          refine bGo hA 5 0 (150, .if_icmp .ne (7), 3, 81, 83, [], []) rfl rfl rfl ?_
          refine bB_eq (x := r7) (y := (-1)) q8 (by decide : bRg (-1)) (fun c18 => ?_) (fun c18 => ?_)
          · refine bGo hA 5 1 (153, .iconst (0), 1, 82, 0, [], [(0, 0)]) rfl rfl rfl ?_
            refine bEqI bl_0 ?_
            refine bGo hA 5 2 (154, .goto (5), 3, 83, 84, [], []) rfl rfl rfl ?_
            refine bGo hA 5 4 (159, .iadd, 1, 85, 0, [], []) rfl rfl rfl ?_
            refine bEqI (bn_add l5 0) ?_
            refine bGo hA 5 5 (160, .istore 5, 2, 86, 0, [5], []) rfl rfl rfl ?_
            refine bGo hA 5 6 (162, .iload 9, 2, 87, 0, [9], []) rfl rfl rfl ?_
            refine bGo hA 5 7 (164, .iconst (-1), 1, 88, 0, [], [(-1, 0)]) rfl rfl rfl ?_
            refine bEqI bl_m1 ?_
            refine bGo hA 5 8 (165, .if_icmp .ne (7), 3, 89, 91, [], []) rfl rfl rfl ?_
            refine bB_eq (x := r7) (y := (-1)) q8 (by decide : bRg (-1)) (fun c19 => ?_) (fun c19 => ?_)
            · refine bGo hA 5 9 (168, .iconst (0), 1, 90, 0, [], [(0, 0)]) rfl rfl rfl ?_
              refine bEqI bl_0 ?_
              refine bGo hA 5 10 (169, .goto (5), 3, 91, 92, [], []) rfl rfl rfl ?_
              refine bGo hA 5 12 (174, .istore 6, 2, 93, 0, [6], []) rfl rfl rfl ?_
              refine bGo hA 5 13 (176, .goto (-170), 3, 94, 4, [], []) rfl rfl rfl ?_
              exact (((k11.2 c14).1 c18).2.1 c19)
            · refine bGo hA 5 11 (172, .iload 9, 2, 92, 0, [9], []) rfl rfl rfl ?_
              refine bGo hA 5 12 (174, .istore 6, 2, 93, 0, [6], []) rfl rfl rfl ?_
              refine bGo hA 5 13 (176, .goto (-170), 3, 94, 4, [], []) rfl rfl rfl ?_
              exact (((k11.2 c14).1 c18).2.2 c19)
          · refine bGo hA 5 3 (157, .iload 9, 2, 84, 0, [9], []) rfl rfl rfl ?_
            refine bGo hA 5 4 (159, .iadd, 1, 85, 0, [], []) rfl rfl rfl ?_
            refine bEqI (bn_add l5 r7) ?_
            refine bGo hA 5 5 (160, .istore 5, 2, 86, 0, [5], []) rfl rfl rfl ?_
            refine bGo hA 5 6 (162, .iload 9, 2, 87, 0, [9], []) rfl rfl rfl ?_
            refine bGo hA 5 7 (164, .iconst (-1), 1, 88, 0, [], [(-1, 0)]) rfl rfl rfl ?_
            refine bEqI bl_m1 ?_
            refine bGo hA 5 8 (165, .if_icmp .ne (7), 3, 89, 91, [], []) rfl rfl rfl ?_
            refine bB_eq (x := r7) (y := (-1)) q8 (by decide : bRg (-1)) (fun c20 => ?_) (fun c20 => ?_)
            · refine bGo hA 5 9 (168, .iconst (0), 1, 90, 0, [], [(0, 0)]) rfl rfl rfl ?_
              refine bEqI bl_0 ?_
              refine bGo hA 5 10 (169, .goto (5), 3, 91, 92, [], []) rfl rfl rfl ?_
              refine bGo hA 5 12 (174, .istore 6, 2, 93, 0, [6], []) rfl rfl rfl ?_
              refine bGo hA 5 13 (176, .goto (-170), 3, 94, 4, [], []) rfl rfl rfl ?_
              exact (((k11.2 c14).2 c18).2.1 c20)
            · refine bGo hA 5 11 (172, .iload 9, 2, 92, 0, [9], []) rfl rfl rfl ?_
              refine bGo hA 5 12 (174, .istore 6, 2, 93, 0, [6], []) rfl rfl rfl ?_
              refine bGo hA 5 13 (176, .goto (-170), 3, 94, 4, [], []) rfl rfl rfl ?_
              exact (((k11.2 c14).2 c18).2.2 c20)
      · refine bGo hA 4 9 (137, .iconst (1), 1, 74, 0, [], [(1, 0)]) rfl rfl rfl ?_
        refine bEqI bl_1 ?_
        refine bGo hA 4 10 (138, .goto (4), 3, 75, 76, [], []) rfl rfl rfl ?_
        refine bGo hA 4 12 (142, .putfield 441, 3, 77, 0, [12, 72, 1, 0, 0, 0], []) rfl rfl rfl ?_
        refine ⟨rfl, b01 (Or.inr rfl), ?_⟩
        refine bGo hA 4 13 (145, .iload 5, 2, 78, 0, [5], []) rfl rfl rfl ?_
        refine bGo hA 4 14 (147, .iload 9, 2, 79, 0, [9], []) rfl rfl rfl ?_
        refine bGo hA 4 15 (149, .iconst (-1), 1, 80, 0, [], [(-1, 0)]) rfl rfl rfl ?_
        refine bEqI bl_m1 ?_
        refine bGo hA 5 0 (150, .if_icmp .ne (7), 3, 81, 83, [], []) rfl rfl rfl ?_
        refine bB_eq (x := r7) (y := (-1)) q8 (by decide : bRg (-1)) (fun c21 => ?_) (fun c21 => ?_)
        · refine bGo hA 5 1 (153, .iconst (0), 1, 82, 0, [], [(0, 0)]) rfl rfl rfl ?_
          refine bEqI bl_0 ?_
          refine bGo hA 5 2 (154, .goto (5), 3, 83, 84, [], []) rfl rfl rfl ?_
          refine bGo hA 5 4 (159, .iadd, 1, 85, 0, [], []) rfl rfl rfl ?_
          refine bEqI (bn_add l5 0) ?_
          refine bGo hA 5 5 (160, .istore 5, 2, 86, 0, [5], []) rfl rfl rfl ?_
          refine bGo hA 5 6 (162, .iload 9, 2, 87, 0, [9], []) rfl rfl rfl ?_
          refine bGo hA 5 7 (164, .iconst (-1), 1, 88, 0, [], [(-1, 0)]) rfl rfl rfl ?_
          refine bEqI bl_m1 ?_
          refine bGo hA 5 8 (165, .if_icmp .ne (7), 3, 89, 91, [], []) rfl rfl rfl ?_
          refine bB_eq (x := r7) (y := (-1)) q8 (by decide : bRg (-1)) (fun c22 => ?_) (fun c22 => ?_)
          · refine bGo hA 5 9 (168, .iconst (0), 1, 90, 0, [], [(0, 0)]) rfl rfl rfl ?_
            refine bEqI bl_0 ?_
            refine bGo hA 5 10 (169, .goto (5), 3, 91, 92, [], []) rfl rfl rfl ?_
            refine bGo hA 5 12 (174, .istore 6, 2, 93, 0, [6], []) rfl rfl rfl ?_
            refine bGo hA 5 13 (176, .goto (-170), 3, 94, 4, [], []) rfl rfl rfl ?_
            exact (((k6.2.2.2.2.2.2 c9).1 c21).2.1 c22)
          · refine bGo hA 5 11 (172, .iload 9, 2, 92, 0, [9], []) rfl rfl rfl ?_
            refine bGo hA 5 12 (174, .istore 6, 2, 93, 0, [6], []) rfl rfl rfl ?_
            refine bGo hA 5 13 (176, .goto (-170), 3, 94, 4, [], []) rfl rfl rfl ?_
            exact (((k6.2.2.2.2.2.2 c9).1 c21).2.2 c22)
        · refine bGo hA 5 3 (157, .iload 9, 2, 84, 0, [9], []) rfl rfl rfl ?_
          refine bGo hA 5 4 (159, .iadd, 1, 85, 0, [], []) rfl rfl rfl ?_
          refine bEqI (bn_add l5 r7) ?_
          refine bGo hA 5 5 (160, .istore 5, 2, 86, 0, [5], []) rfl rfl rfl ?_
          refine bGo hA 5 6 (162, .iload 9, 2, 87, 0, [9], []) rfl rfl rfl ?_
          refine bGo hA 5 7 (164, .iconst (-1), 1, 88, 0, [], [(-1, 0)]) rfl rfl rfl ?_
          refine bEqI bl_m1 ?_
          refine bGo hA 5 8 (165, .if_icmp .ne (7), 3, 89, 91, [], []) rfl rfl rfl ?_
          refine bB_eq (x := r7) (y := (-1)) q8 (by decide : bRg (-1)) (fun c23 => ?_) (fun c23 => ?_)
          · refine bGo hA 5 9 (168, .iconst (0), 1, 90, 0, [], [(0, 0)]) rfl rfl rfl ?_
            refine bEqI bl_0 ?_
            refine bGo hA 5 10 (169, .goto (5), 3, 91, 92, [], []) rfl rfl rfl ?_
            refine bGo hA 5 12 (174, .istore 6, 2, 93, 0, [6], []) rfl rfl rfl ?_
            refine bGo hA 5 13 (176, .goto (-170), 3, 94, 4, [], []) rfl rfl rfl ?_
            exact (((k6.2.2.2.2.2.2 c9).2 c21).2.1 c23)
          · refine bGo hA 5 11 (172, .iload 9, 2, 92, 0, [9], []) rfl rfl rfl ?_
            refine bGo hA 5 12 (174, .istore 6, 2, 93, 0, [6], []) rfl rfl rfl ?_
            refine bGo hA 5 13 (176, .goto (-170), 3, 94, 4, [], []) rfl rfl rfl ?_
            exact (((k6.2.2.2.2.2.2 c9).2 c21).2.2 c23)

theorem sq264_0 {lvl : Nat} {C : bCall} {Q : bPost} {A : bPt → Prop} (hC : bMono C) (hA : bClosed lvl bm264 C Q A) {x1 : Int} {σ : bSt}  (h_x1 : bRg x1)
  (h : (0 ≤ x1 ∧ (bRg (6 * (x1 / 256)) ∧ A (14, [.ref 12, .int (bn x1), .int (bn (x1 / 256)), .int (bn 0), .long (Int64.ofNat 0), .float 0, .int (bn 1), .int (bn (6 * (x1 / 256))), .float 0, .float 0], [], σ)))) : A (0, [.ref 12, .int (bn x1), .float 0, .float 0, .float 0, .float 0, .float 0, .float 0, .float 0, .float 0], [], σ) := by
  refine bGo hA 0 0 (0, .iload_n 1, 1, 1, 0, [1], []) rfl rfl rfl ?_
  refine bGo hA 0 1 (1, .sipush (256), 3, 2, 0, [], [(256, 0)]) rfl rfl rfl ?_
  refine bEqI bl_256 ?_
  refine bGo hA 0 2 (4, .idiv, 1, 3, 0, [], []) rfl rfl rfl ?_
  refine ⟨by decide, ?_⟩
  refine bEqI (bn_div h_x1 (by decide) h.1) ?_
  refine bGo hA 0 3 (5, .istore_n 2, 1, 4, 0, [2], []) rfl rfl rfl ?_
  refine bGo hA 0 4 (6, .iconst (0), 1, 5, 0, [], [(0, 0)]) rfl rfl rfl ?_
  refine bEqI bl_0 ?_
  refine bGo hA 0 5 (7, .istore_n 3, 1, 6, 0, [3], []) rfl rfl rfl ?_
  refine bGo hA 0 6 (8, .lconst 0, 1, 7, 0, [0], []) rfl rfl rfl ?_
  refine bGo hA 0 7 (9, .lstore 4, 2, 8, 0, [4], []) rfl rfl rfl ?_
  refine bGo hA 0 8 (11, .iconst (1), 1, 9, 0, [], [(1, 0)]) rfl rfl rfl ?_
  refine bEqI bl_1 ?_
  refine bGo hA 0 9 (12, .istore 6, 2, 10, 0, [6], []) rfl rfl rfl ?_
  refine bGo hA 0 10 (14, .bipush (6), 2, 11, 0, [], [(6, 0)]) rfl rfl rfl ?_
  refine bEqI bl_6 ?_
  refine bGo hA 0 11 (16, .iload_n 2, 1, 12, 0, [2], []) rfl rfl rfl ?_
  refine bGo hA 0 12 (17, .imul, 1, 13, 0, [], []) rfl rfl rfl ?_
  refine bEqI (bn_mul 6 (x1 / 256)) ?_
  refine bGo hA 0 13 (18, .istore 7, 2, 14, 0, [7], []) rfl rfl rfl ?_
  exact h.2.2

theorem sq264_14 {lvl : Nat} {C : bCall} {Q : bPost} {A : bPt → Prop} (hC : bMono C) (hA : bClosed lvl bm264 C Q A) {l1 : Int} {l2 : Int} {l3 : Int} {l4 : Int64} {l6 : Int} {l7 : Int} {v8 : Value} {v9 : Value} {σ : bSt}  (h_l1 : bRg l1) (h_l2 : bRg l2) (h_l3 : bRg l3) (h_l6 : bRg l6) (h_l7 : bRg l7)
  (h : (bRg (6 * l2) ∧ ((0 ≤ l2 ∧ l2 < 16) ∧ (bRg ((6 * l2) + (bi σ 85 l2)) ∧ ((l7 < ((6 * l2) + (bi σ 85 l2)) → A (26, [.ref 12, .int (bn l1), .int (bn l2), .int (bn l3), .long l4, .float 0, .int (bn l6), .int (bn l7), .int (bn 0), v9], [], σ)) ∧ (¬ l7 < ((6 * l2) + (bi σ 85 l2)) → ((l6 = 0 → Q (.inl (some (.int (bn (-5))))) σ) ∧ (¬ l6 = 0 → ((0 ≤ l1 ∧ l1 < 4096) ∧ (bRg ((bi σ 97 l1) + (bi σ 98 l1)) ∧ (C 259 [.ref 12, .int (bn (bi σ 76 l2)), .int (bn ((bi σ 97 l1) + (bi σ 98 l1))), .int (bn l3), .int (bn (bi σ 75 l2)), .long l4] σ (bRn (fun r5 s3 => Q (.inl (some (.int (bn r5)))) s3))))))))))))) : A (14, [.ref 12, .int (bn l1), .int (bn l2), .int (bn l3), .long l4, .float 0, .int (bn l6), .int (bn l7), v8, v9], [], σ) := by
  refine bGo hA 0 14 (20, .iload 7, 2, 15, 0, [7], []) rfl rfl rfl ?_
  refine bGo hA 0 15 (22, .bipush (6), 2, 16, 0, [], [(6, 0)]) rfl rfl rfl ?_
  refine bEqI bl_6 ?_
  refine bGo hA 1 0 (24, .iload_n 2, 1, 17, 0, [2], []) rfl rfl rfl ?_
  refine bGo hA 1 1 (25, .imul, 1, 18, 0, [], []) rfl rfl rfl ?_
  refine bEqI (bn_mul 6 l2) ?_
  refine bGo hA 1 2 (26, .aload_n 0, 1, 19, 0, [0], []) rfl rfl rfl ?_
  refine bGo hA 1 3 (27, .getfield 98, 3, 20, 0, [12, 33, 3, 85, 1, 0], []) rfl rfl rfl ?_
  refine ⟨rfl, ?_⟩
  refine bGo hA 1 4 (30, .iload_n 2, 1, 21, 0, [2], []) rfl rfl rfl ?_
  refine bGo hA 1 5 (31, .iaload, 1, 22, 0, [], []) rfl rfl rfl ?_
  refine ⟨rfl, (bIxP (x := l2) (n := 16) h_l2 h.2.1), ?_⟩
  refine bEqL (x := l2) h_l2 ?_
  refine bGo hA 1 6 (32, .iadd, 1, 23, 0, [], []) rfl rfl rfl ?_
  refine bEqI (bn_add (6 * l2) (bi σ 85 l2)) ?_
  refine bGo hA 1 7 (33, .if_icmp .ge (202), 3, 24, 130, [], []) rfl rfl rfl ?_
  refine bB_lt (x := l7) (y := ((6 * l2) + (bi σ 85 l2))) h_l7 h.2.2.1 (fun c1 => ?_) (fun c1 => ?_)
  · refine bGo hA 1 8 (36, .iconst (0), 1, 25, 0, [], [(0, 0)]) rfl rfl rfl ?_
    refine bEqI bl_0 ?_
    refine bGo hA 1 9 (37, .istore 8, 2, 26, 0, [8], []) rfl rfl rfl ?_
    exact (h.2.2.2.1 c1)
  · refine bGo hA 8 2 (235, .iload 6, 2, 131, 0, [6], []) rfl rfl rfl ?_
    refine bGo hA 8 3 (237, .ifCond .eq (38), 3, 132, 154, [], []) rfl rfl rfl ?_
    refine bB_eq0 (x := l6) h_l6 (fun c2 => ?_) (fun c2 => ?_)
    · refine bGo hA 9 10 (275, .bipush (-5), 2, 155, 0, [], [(-5, 0)]) rfl rfl rfl ?_
      refine bEqI bl_m5 ?_
      refine bGo hA 9 11 (277, .ireturn, 1, 0, 0, [1], []) rfl rfl rfl ?_
      exact ((h.2.2.2.2 c1).1 c2)
    · refine bGo hA 8 4 (240, .aload_n 0, 1, 133, 0, [0], []) rfl rfl rfl ?_
      refine bGo hA 8 5 (241, .aload_n 0, 1, 134, 0, [0], []) rfl rfl rfl ?_
      refine bGo hA 8 6 (242, .getfield 71, 3, 135, 0, [12, 24, 3, 76, 1, 0], []) rfl rfl rfl ?_
      refine ⟨rfl, ?_⟩
      refine bGo hA 8 7 (245, .iload_n 2, 1, 136, 0, [2], []) rfl rfl rfl ?_
      refine bGo hA 8 8 (246, .iaload, 1, 137, 0, [], []) rfl rfl rfl ?_
      refine ⟨rfl, (bIxP (x := l2) (n := 16) h_l2 h.2.1), ?_⟩
      refine bEqL (x := l2) h_l2 ?_
      refine bGo hA 8 9 (247, .aload_n 0, 1, 138, 0, [0], []) rfl rfl rfl ?_
      refine bGo hA 8 10 (248, .getfield 134, 3, 139, 0, [12, 45, 3, 97, 1, 0], []) rfl rfl rfl ?_
      refine ⟨rfl, ?_⟩
      refine bGo hA 8 11 (251, .iload_n 1, 1, 140, 0, [1], []) rfl rfl rfl ?_
      refine bGo hA 8 12 (252, .iaload, 1, 141, 0, [], []) rfl rfl rfl ?_
      refine ⟨rfl, (bIxP (x := l1) (n := 4096) h_l1 ((h.2.2.2.2 c1).2 c2).1), ?_⟩
      refine bEqL (x := l1) h_l1 ?_
      refine bGo hA 8 13 (253, .aload_n 0, 1, 142, 0, [0], []) rfl rfl rfl ?_
      refine bGo hA 8 14 (254, .getfield 137, 3, 143, 0, [12, 46, 3, 98, 1, 0], []) rfl rfl rfl ?_
      refine ⟨rfl, ?_⟩
      refine bGo hA 8 15 (257, .iload_n 1, 1, 144, 0, [1], []) rfl rfl rfl ?_
      refine bGo hA 9 0 (258, .iaload, 1, 145, 0, [], []) rfl rfl rfl ?_
      refine ⟨rfl, (bIxP (x := l1) (n := 4096) h_l1 ((h.2.2.2.2 c1).2 c2).1), ?_⟩
      refine bEqL (x := l1) h_l1 ?_
      refine bGo hA 9 1 (259, .iadd, 1, 146, 0, [], []) rfl rfl rfl ?_
      refine bEqI (bn_add (bi σ 97 l1) (bi σ 98 l1)) ?_
      refine bGo hA 9 2 (260, .iload_n 3, 1, 147, 0, [3], []) rfl rfl rfl ?_
      refine bGo hA 9 3 (261, .aload_n 0, 1, 148, 0, [0], []) rfl rfl rfl ?_
      refine bGo hA 9 4 (262, .getfield 68, 3, 149, 0, [12, 23, 3, 75, 1, 0], []) rfl rfl rfl ?_
      refine ⟨rfl, ?_⟩
      refine bGo hA 9 5 (265, .iload_n 2, 1, 150, 0, [2], []) rfl rfl rfl ?_
      refine bGo hA 9 6 (266, .iaload, 1, 151, 0, [], []) rfl rfl rfl ?_
      refine ⟨rfl, (bIxP (x := l2) (n := 16) h_l2 h.2.1), ?_⟩
      refine bEqL (x := l2) h_l2 ?_
      refine bGo hA 9 7 (267, .lload 4, 2, 152, 0, [4], []) rfl rfl rfl ?_
      refine bGo hA 9 8 (269, .invokevirtual 455, 3, 153, 0, [0, 12, 259, 5], []) rfl rfl rfl ?_
      refine ⟨rfl, ?_⟩
      refine hC _ _ _ _ _ (bRn_e (fun r5 s3 q6 k4 => ?_)) ((h.2.2.2.2 c1).2 c2).2.2
      show A (153, [.ref 12, .int (bn l1), .int (bn l2), .int (bn l3), .long l4, .float 0, .int (bn l6), .int (bn l7), v8, v9], [.int (bn r5)], s3)
      refine bGo hA 9 9 (272, .goto (5), 3, 154, 155, [], []) rfl rfl rfl ?_
      refine bGo hA 9 11 (277, .ireturn, 1, 0, 0, [1], []) rfl rfl rfl ?_
      exact k4

theorem sq264_26 {lvl : Nat} {C : bCall} {Q : bPost} {A : bPt → Prop} (hC : bMono C) (hA : bClosed lvl bm264 C Q A) {l1 : Int} {l2 : Int} {l3 : Int} {l4 : Int64} {l6 : Int} {l7 : Int} {l8 : Int} {v9 : Value} {σ : bSt}  (h_l1 : bRg l1) (h_l2 : bRg l2) (h_l3 : bRg l3) (h_l6 : bRg l6) (h_l7 : bRg l7) (h_l8 : bRg l8)
  (h : ((l8 < 48 → ((0 ≤ l7 ∧ l7 < 96) ∧ (((bi σ 86 l7) = 2 → A (98, [.ref 12, .int (bn l1), .int (bn l2), .int (bn l3), .long l4, .float 0, .int (bn l6), .int (bn l7), .int (bn l8), v9], [], σ)) ∧ (¬ (bi σ 86 l7) = 2 → (((bi σ 86 l7) = 0 → (((bi σ 87 l7) = l8 → ((0 ≤ l8 ∧ l8 < 48) ∧ A (77, [.ref 12, .int (bn l1), .int (bn l2), .int (bn l3), .long l4, .float 0, .int (bn l6), .int (bn l7), .int (bn l8), .int (bn 1)], [.int (bn (bi σ 56 l8)), .int (bn l3), .ref 119], σ))) ∧ (¬ (bi σ 87 l7) = l8 → A (77, [.ref 12, .int (bn l1), .int (bn l2), .int (bn l3), .long l4, .float 0, .int (bn l6), .int (bn l7), .int (bn l8), .int (bn 0)], [.int (bn 0), .int (bn l3), .ref 119], σ)))) ∧ (¬ (bi σ 86 l7) = 0 → ((0 ≤ l2 ∧ l2 < 16) ∧ (C 208 [.ref 12, .int (bn (bi σ 75 l2)), .int (bn (bi σ 87 l7)), .int (bn (bi σ 88 l7)), .int (bn l8)] σ (bRn (fun r9 s7 => ((r9 = 0 → A (77, [.ref 12, .int (bn l1), .int (bn l2), .int (bn l3), .long l4, .float 0, .int (bn l6), .int (bn l7), .int (bn l8), .int (bn r9)], [.int (bn 0), .int (bn l3), .ref 119], s7)) ∧ (¬ r9 = 0 → ((0 ≤ l8 ∧ l8 < 48) ∧ A (77, [.ref 12, .int (bn l1), .int (bn l2), .int (bn l3), .long l4, .float 0, .int (bn l6), .int (bn l7), .int (bn l8), .int (bn r9)], [.int (bn (bi s7 56 l8)), .int (bn l3), .ref 119], s7)))))))))))))) ∧ (¬ l8 < 48 → A (98, [.ref 12, .int (bn l1), .int (bn l2), .int (bn l3), .long l4, .float 0, .int (bn l6), .int (bn l7), .int (bn l8), v9], [], σ)))) : A (26, [.ref 12, .int (bn l1), .int (bn l2), .int (bn l3), .long l4, .float 0, .int (bn l6), .int (bn l7), .int (bn l8), v9], [], σ) := by
  refine bGo hA 1 10 (39, .iload 8, 2, 27, 0, [8], []) rfl rfl rfl ?_
  refine bGo hA 1 11 (41, .bipush (48), 2, 28, 0, [], [(48, 0)]) rfl rfl rfl ?_
  refine bEqI bl_48 ?_
  refine bGo hA 1 12 (43, .if_icmp .ge (131), 3, 29, 98, [], []) rfl rfl rfl ?_
  refine bB_lt (x := l8) (y := 48) h_l8 (by decide : bRg 48) (fun c1 => ?_) (fun c1 => ?_)
  · refine bGo hA 1 13 (46, .aload_n 0, 1, 30, 0, [0], []) rfl rfl rfl ?_
    refine bGo hA 1 14 (47, .getfield 101, 3, 31, 0, [12, 34, 3, 86, 1, 0], []) rfl rfl rfl ?_
    refine ⟨rfl, ?_⟩
    refine bGo hA 1 15 (50, .iload 7, 2, 32, 0, [7], []) rfl rfl rfl ?_
    refine bGo hA 2 0 (52, .iaload, 1, 33, 0, [], []) rfl rfl rfl ?_
    refine ⟨rfl, (bIxP (x := l7) (n := 96) h_l7 (h.1 c1).1), ?_⟩
    refine bEqL (x := l7) h_l7 ?_
    refine bGo hA 2 1 (53, .iconst (2), 1, 34, 0, [], [(2, 0)]) rfl rfl rfl ?_
    refine bEqI bl_2 ?_
    refine bGo hA 2 2 (54, .if_icmp .eq (120), 3, 35, 98, [], []) rfl rfl rfl ?_
    refine bB_eq (x := (bi σ 86 l7)) (y := 2) (bi_rg _ _ _) (by decide : bRg 2) (fun c2 => ?_) (fun c2 => ?_)
    · exact ((h.1 c1).2.1 c2)
    · refine bGo hA 2 3 (57, .aload_n 0, 1, 36, 0, [0], []) rfl rfl rfl ?_
      refine bGo hA 2 4 (58, .getfield 101, 3, 37, 0, [12, 34, 3, 86, 1, 0], []) rfl rfl rfl ?_
      refine ⟨rfl, ?_⟩
      refine bGo hA 2 5 (61, .iload 7, 2, 38, 0, [7], []) rfl rfl rfl ?_
      refine bGo hA 2 6 (63, .iaload, 1, 39, 0, [], []) rfl rfl rfl ?_
      refine ⟨rfl, (bIxP (x := l7) (n := 96) h_l7 (h.1 c1).1), ?_⟩
      refine bEqL (x := l7) h_l7 ?_
      refine bGo hA 2 7 (64, .ifCond .ne (23), 3, 40, 50, [], []) rfl rfl rfl ?_
      refine bB_eq0 (x := (bi σ 86 l7)) (bi_rg _ _ _) (fun c3 => ?_) (fun c3 => ?_)
      · refine bGo hA 2 8 (67, .aload_n 0, 1, 41, 0, [0], []) rfl rfl rfl ?_
        refine bGo hA 2 9 (68, .getfield 104, 3, 42, 0, [12, 35, 3, 87, 1, 0], []) rfl rfl rfl ?_
        refine ⟨rfl, ?_⟩
        refine bGo hA 2 10 (71, .iload 7, 2, 43, 0, [7], []) rfl rfl rfl ?_
        refine bGo hA 2 11 (73, .iaload, 1, 44, 0, [], []) rfl rfl rfl ?_
        refine ⟨rfl, (bIxP (x := l7) (n := 96) h_l7 (h.1 c1).1), ?_⟩
        refine bEqL (x := l7) h_l7 ?_
        refine bGo hA 2 12 (74, .iload 8, 2, 45, 0, [8], []) rfl rfl rfl ?_
        refine bGo hA 2 13 (76, .if_icmp .ne (7), 3, 46, 48, [], []) rfl rfl rfl ?_
        refine bB_eq (x := (bi σ 87 l7)) (y := l8) (bi_rg _ _ _) h_l8 (fun c4 => ?_) (fun c4 => ?_)
        · refine bGo hA 2 14 (79, .iconst (1), 1, 47, 0, [], [(1, 0)]) rfl rfl rfl ?_
          refine bEqI bl_1 ?_
          refine bGo hA 2 15 (80, .goto (33), 3, 48, 65, [], []) rfl rfl rfl ?_
          refine bGo hA 4 1 (113, .istore 9, 2, 66, 0, [9], []) rfl rfl rfl ?_
          refine bGo hA 4 2 (115, .aload_n 0, 1, 67, 0, [0], []) rfl rfl rfl ?_
          refine bGo hA 4 3 (116, .getfield 200, 3, 68, 0, [12, 69, 3, 119, 1, 0], []) rfl rfl rfl ?_
          refine ⟨rfl, ?_⟩
          refine bGo hA 4 4 (119, .iload_n 3, 1, 69, 0, [3], []) rfl rfl rfl ?_
          refine bGo hA 4 5 (120, .iload 9, 2, 70, 0, [9], []) rfl rfl rfl ?_
          refine bGo hA 4 6 (122, .ifCond .eq (13), 3, 71, 76, [], []) rfl rfl rfl ?_
          refine ⟨fun c => absurd c (by decide), fun _ => ?_⟩
          refine bGo hA 4 7 (125, .aload_n 0, 1, 72, 0, [0], []) rfl rfl rfl ?_
          refine bGo hA 4 8 (126, .getfield 7, 3, 73, 0, [12, 1, 3, 56, 1, 0], []) rfl rfl rfl ?_
          refine ⟨rfl, ?_⟩
          refine bGo hA 4 9 (129, .iload 8, 2, 74, 0, [8], []) rfl rfl rfl ?_
          refine bGo hA 4 10 (131, .iaload, 1, 75, 0, [], []) rfl rfl rfl ?_
          refine ⟨rfl, (bIxP (x := l8) (n := 48) h_l8 ((((h.1 c1).2.2 c2).1 c3).1 c4).1), ?_⟩
          refine bEqL (x := l8) h_l8 ?_
          refine bGo hA 4 11 (132, .goto (4), 3, 76, 77, [], []) rfl rfl rfl ?_
          exact ((((h.1 c1).2.2 c2).1 c3).1 c4).2
        · refine bGo hA 3 0 (83, .iconst (0), 1, 49, 0, [], [(0, 0)]) rfl rfl rfl ?_
          refine bEqI bl_0 ?_
          refine bGo hA 3 1 (84, .goto (29), 3, 50, 65, [], []) rfl rfl rfl ?_
          refine bGo hA 4 1 (113, .istore 9, 2, 66, 0, [9], []) rfl rfl rfl ?_
          refine bGo hA 4 2 (115, .aload_n 0, 1, 67, 0, [0], []) rfl rfl rfl ?_
          refine bGo hA 4 3 (116, .getfield 200, 3, 68, 0, [12, 69, 3, 119, 1, 0], []) rfl rfl rfl ?_
          refine ⟨rfl, ?_⟩
          refine bGo hA 4 4 (119, .iload_n 3, 1, 69, 0, [3], []) rfl rfl rfl ?_
          refine bGo hA 4 5 (120, .iload 9, 2, 70, 0, [9], []) rfl rfl rfl ?_
          refine bGo hA 4 6 (122, .ifCond .eq (13), 3, 71, 76, [], []) rfl rfl rfl ?_
          refine ⟨fun _ => ?_, fun c => absurd (by decide) c⟩
          refine bGo hA 4 12 (135, .iconst (0), 1, 77, 0, [], [(0, 0)]) rfl rfl rfl ?_
          refine bEqI bl_0 ?_
          exact ((((h.1 c1).2.2 c2).1 c3).2 c4)
      · refine bGo hA 3 2 (87, .aload_n 0, 1, 51, 0, [0], []) rfl rfl rfl ?_
        refine bGo hA 3 3 (88, .aload_n 0, 1, 52, 0, [0], []) rfl rfl rfl ?_
        refine bGo hA 3 4 (89, .getfield 68, 3, 53, 0, [12, 23, 3, 75, 1, 0], []) rfl rfl rfl ?_
        refine ⟨rfl, ?_⟩
        refine bGo hA 3 5 (92, .iload_n 2, 1, 54, 0, [2], []) rfl rfl rfl ?_
        refine bGo hA 3 6 (93, .iaload, 1, 55, 0, [], []) rfl rfl rfl ?_
        refine ⟨rfl, (bIxP (x := l2) (n := 16) h_l2 (((h.1 c1).2.2 c2).2 c3).1), ?_⟩
        refine bEqL (x := l2) h_l2 ?_
        refine bGo hA 3 7 (94, .aload_n 0, 1, 56, 0, [0], []) rfl rfl rfl ?_
        refine bGo hA 3 8 (95, .getfield 104, 3, 57, 0, [12, 35, 3, 87, 1, 0], []) rfl rfl rfl ?_
        refine ⟨rfl, ?_⟩
        refine bGo hA 3 9 (98, .iload 7, 2, 58, 0, [7], []) rfl rfl rfl ?_
        refine bGo hA 3 10 (100, .iaload, 1, 59, 0, [], []) rfl rfl rfl ?_
        refine ⟨rfl, (bIxP (x := l7) (n := 96) h_l7 (h.1 c1).1), ?_⟩
        refine bEqL (x := l7) h_l7 ?_
        refine bGo hA 3 11 (101, .aload_n 0, 1, 60, 0, [0], []) rfl rfl rfl ?_
        refine bGo hA 3 12 (102, .getfield 107, 3, 61, 0, [12, 36, 3, 88, 1, 0], []) rfl rfl rfl ?_
        refine ⟨rfl, ?_⟩
        refine bGo hA 3 13 (105, .iload 7, 2, 62, 0, [7], []) rfl rfl rfl ?_
        refine bGo hA 3 14 (107, .baload, 1, 63, 0, [], []) rfl rfl rfl ?_
        refine ⟨rfl, (bIxP (x := l7) (n := 96) h_l7 (h.1 c1).1), ?_⟩
        refine bEqL (x := l7) h_l7 ?_
        refine bGo hA 3 15 (108, .iload 8, 2, 64, 0, [8], []) rfl rfl rfl ?_
        refine bGo hA 4 0 (110, .invokevirtual 346, 3, 65, 0, [0, 12, 208, 4], []) rfl rfl rfl ?_
        refine ⟨rfl, ?_⟩
        refine hC _ _ _ _ _ (bRn_e (fun r9 s7 q10 k8 => ?_)) (((h.1 c1).2.2 c2).2 c3).2
        show A (65, [.ref 12, .int (bn l1), .int (bn l2), .int (bn l3), .long l4, .float 0, .int (bn l6), .int (bn l7), .int (bn l8), v9], [.int (bn r9)], s7)
        refine bGo hA 4 1 (113, .istore 9, 2, 66, 0, [9], []) rfl rfl rfl ?_
        refine bGo hA 4 2 (115, .aload_n 0, 1, 67, 0, [0], []) rfl rfl rfl ?_
        refine bGo hA 4 3 (116, .getfield 200, 3, 68, 0, [12, 69, 3, 119, 1, 0], []) rfl rfl rfl ?_
        refine ⟨rfl, ?_⟩
        refine bGo hA 4 4 (119, .iload_n 3, 1, 69, 0, [3], []) rfl rfl rfl ?_
        refine bGo hA 4 5 (120, .iload 9, 2, 70, 0, [9], []) rfl rfl rfl ?_
        refine bGo hA 4 6 (122, .ifCond .eq (13), 3, 71, 76, [], []) rfl rfl rfl ?_
        refine bB_eq0 (x := r9) q10 (fun c11 => ?_) (fun c11 => ?_)
        · refine bGo hA 4 12 (135, .iconst (0), 1, 77, 0, [], [(0, 0)]) rfl rfl rfl ?_
          refine bEqI bl_0 ?_
          exact (k8.1 c11)
        · refine bGo hA 4 7 (125, .aload_n 0, 1, 72, 0, [0], []) rfl rfl rfl ?_
          refine bGo hA 4 8 (126, .getfield 7, 3, 73, 0, [12, 1, 3, 56, 1, 0], []) rfl rfl rfl ?_
          refine ⟨rfl, ?_⟩
          refine bGo hA 4 9 (129, .iload 8, 2, 74, 0, [8], []) rfl rfl rfl ?_
          refine bGo hA 4 10 (131, .iaload, 1, 75, 0, [], []) rfl rfl rfl ?_
          refine ⟨rfl, (bIxP (x := l8) (n := 48) h_l8 (k8.2 c11).1), ?_⟩
          refine bEqL (x := l8) h_l8 ?_
          refine bGo hA 4 11 (132, .goto (4), 3, 76, 77, [], []) rfl rfl rfl ?_
          exact (k8.2 c11).2
  · exact (h.2 c1)

theorem sq264_98 {lvl : Nat} {C : bCall} {Q : bPost} {A : bPt → Prop} (hC : bMono C) (hA : bClosed lvl bm264 C Q A) {l1 : Int} {l2 : Int} {l3 : Int} {l4 : Int64} {l6 : Int} {l7 : Int} {v8 : Value} {v9 : Value} {σ : bSt}  (h_l1 : bRg l1) (h_l2 : bRg l2) (h_l3 : bRg l3) (h_l6 : bRg l6) (h_l7 : bRg l7)
  (h : ((0 ≤ l7 ∧ l7 < 96) ∧ (((bi σ 86 l7) = 2 → (C 240 [.ref 12, .int (bn l1), .int (bn l7)] σ (bRn (fun r4 s2 => ((0 ≤ r4 ∧ r4 < 4096) ∧ ((0 ≤ l3 ∧ l3 < 64) ∧ ((l6 = 0 → (bRg (l3 + 1) ∧ (bRg (l7 + 1) ∧ A (14, [.ref 12, .int (bn l1), .int (bn l2), .int (bn (l3 + 1)), .long l4, .float 0, .int (bn 0), .int (bn (l7 + 1)), v8, v9], [], (bw s2 119 l3 (bi s2 100 r4)))))) ∧ (¬ l6 = 0 → (((bi s2 100 r4) = (-5) → (bRg (l3 + 1) ∧ (bRg (l7 + 1) ∧ A (14, [.ref 12, .int (bn l1), .int (bn l2), .int (bn (l3 + 1)), .long l4, .float 0, .int (bn 0), .int (bn (l7 + 1)), v8, v9], [], (bw s2 119 l3 (bi s2 100 r4)))))) ∧ (¬ (bi s2 100 r4) = (-5) → (bRg (l3 + 1) ∧ (bRg (l7 + 1) ∧ A (14, [.ref 12, .int (bn l1), .int (bn l2), .int (bn (l3 + 1)), .long l4, .float 0, .int (bn 1), .int (bn (l7 + 1)), v8, v9], [], (bw s2 119 l3 (bi s2 100 r4))))))))))))))) ∧ (¬ (bi σ 86 l7) = 2 → (bRg (l7 + 1) ∧ A (14, [.ref 12, .int (bn l1), .int (bn l2), .int (bn l3), .long l4, .float 0, .int (bn l6), .int (bn (l7 + 1)), v8, v9], [], σ)))))) : A (98, [.ref 12, .int (bn l1), .int (bn l2), .int (bn l3), .long l4, .float 0, .int (bn l6), .int (bn l7), v8, v9], [], σ) := by
  refine bGo hA 6 2 (174, .aload_n 0, 1, 99, 0, [0], []) rfl rfl rfl ?_
  refine bGo hA 6 3 (175, .getfield 101, 3, 100, 0, [12, 34, 3, 86, 1, 0], []) rfl rfl rfl ?_
  refine ⟨rfl, ?_⟩
  refine bGo hA 6 4 (178, .iload 7, 2, 101, 0, [7], []) rfl rfl rfl ?_
  refine bGo hA 6 5 (180, .iaload, 1, 102, 0, [], []) rfl rfl rfl ?_
  refine ⟨rfl, (bIxP (x := l7) (n := 96) h_l7 h.1), ?_⟩
  refine bEqL (x := l7) h_l7 ?_
  refine bGo hA 6 6 (181, .iconst (2), 1, 103, 0, [], [(2, 0)]) rfl rfl rfl ?_
  refine bEqI bl_2 ?_
  refine bGo hA 6 7 (182, .if_icmp .ne (47), 3, 104, 128, [], []) rfl rfl rfl ?_
  refine bB_eq (x := (bi σ 86 l7)) (y := 2) (bi_rg _ _ _) (by decide : bRg 2) (fun c1 => ?_) (fun c1 => ?_)
  · refine bGo hA 6 8 (185, .aload_n 0, 1, 105, 0, [0], []) rfl rfl rfl ?_
    refine bGo hA 6 9 (186, .getfield 200, 3, 106, 0, [12, 69, 3, 119, 1, 0], []) rfl rfl rfl ?_
    refine ⟨rfl, ?_⟩
    refine bGo hA 6 10 (189, .iload_n 3, 1, 107, 0, [3], []) rfl rfl rfl ?_
    refine bGo hA 6 11 (190, .aload_n 0, 1, 108, 0, [0], []) rfl rfl rfl ?_
    refine bGo hA 6 12 (191, .getfield 143, 3, 109, 0, [12, 48, 3, 100, 1, 0], []) rfl rfl rfl ?_
    refine ⟨rfl, ?_⟩
    refine bGo hA 6 13 (194, .aload_n 0, 1, 110, 0, [0], []) rfl rfl rfl ?_
    refine bGo hA 6 14 (195, .iload_n 1, 1, 111, 0, [1], []) rfl rfl rfl ?_
    refine bGo hA 6 15 (196, .iload 7, 2, 112, 0, [7], []) rfl rfl rfl ?_
    refine bGo hA 7 0 (198, .invokevirtual 398, 3, 113, 0, [0, 12, 240, 2], []) rfl rfl rfl ?_
    refine ⟨rfl, ?_⟩
    refine hC _ _ _ _ _ (bRn_e (fun r4 s2 q5 k3 => ?_)) (h.2.1 c1)
    show A (113, [.ref 12, .int (bn l1), .int (bn l2), .int (bn l3), .long l4, .float 0, .int (bn l6), .int (bn l7), v8, v9], [.int (bn r4), .ref 100, .int (bn l3), .ref 119], s2)
    refine bGo hA 7 1 (201, .iaload, 1, 114, 0, [], []) rfl rfl rfl ?_
    refine ⟨rfl, (bIxP (x := r4) (n := 4096) q5 k3.1), ?_⟩
    refine bEqL (x := r4) q5 ?_
    refine bGo hA 7 2 (202, .iastore, 1, 115, 0, [], []) rfl rfl rfl ?_
    refine ⟨rfl, (bIxP (x := l3) (n := 64) h_l3 k3.2.1), by decide, ?_⟩
    refine bEqS (x := l3) h_l3 ?_
    refine bGo hA 7 3 (203, .iload 6, 2, 116, 0, [6], []) rfl rfl rfl ?_
    refine bGo hA 7 4 (205, .ifCond .eq (18), 3, 117, 125, [], []) rfl rfl rfl ?_
    refine bB_eq0 (x := l6) h_l6 (fun c6 => ?_) (fun c6 => ?_)
    · refine bGo hA 7 13 (223, .iconst (0), 1, 126, 0, [], [(0, 0)]) rfl rfl rfl ?_
      refine bEqI bl_0 ?_
      refine bGo hA 7 14 (224, .istore 6, 2, 127, 0, [6], []) rfl rfl rfl ?_
      refine bGo hA 7 15 (226, .iinc 3 (1), 3, 128, 0, [3], [(1, 0)]) rfl rfl rfl ?_
      refine bEqC (fun v => A (128, [.ref 12, .int (bn l1), .int (bn l2), .int v, .long l4, .float 0, .int (bn 0), .int (bn l7), v8, v9], [], (bw s2 119 l3 (bi s2 100 r4)))) ((congrArg (fun w => bn l3 + w) bl_1).trans (bn_add l3 1)) ?_
      refine bGo hA 8 0 (229, .iinc 7 (1), 3, 129, 0, [7], [(1, 0)]) rfl rfl rfl ?_
      refine bEqC (fun v => A (129, [.ref 12, .int (bn l1), .int (bn l2), .int (bn (l3 + 1)), .long l4, .float 0, .int (bn 0), .int v, v8, v9], [], (bw s2 119 l3 (bi s2 100 r4)))) ((congrArg (fun w => bn l7 + w) bl_1).trans (bn_add l7 1)) ?_
      refine bGo hA 8 1 (232, .goto (-212), 3, 130, 14, [], []) rfl rfl rfl ?_
      exact (k3.2.2.1 c6).2.2
    · refine bGo hA 7 5 (208, .aload_n 0, 1, 118, 0, [0], []) rfl rfl rfl ?_
      refine bGo hA 7 6 (209, .getfield 200, 3, 119, 0, [12, 69, 3, 119, 1, 0], []) rfl rfl rfl ?_
      refine ⟨rfl, ?_⟩
      refine bGo hA 7 7 (212, .iload_n 3, 1, 120, 0, [3], []) rfl rfl rfl ?_
      refine bGo hA 7 8 (213, .iaload, 1, 121, 0, [], []) rfl rfl rfl ?_
      refine ⟨rfl, (bIxP (x := l3) (n := 64) h_l3 k3.2.1), ?_⟩
      refine bEqL (x := l3) h_l3 ?_
      refine bEqI (congrArg bn (bi_eq (bi_rg _ _ _))) ?_
      refine bGo hA 7 9 (214, .bipush (-5), 2, 122, 0, [], [(-5, 0)]) rfl rfl rfl ?_
      refine bEqI bl_m5 ?_
      refine bGo hA 7 10 (216, .if_icmp .eq (7), 3, 123, 125, [], []) rfl rfl rfl ?_
      refine bB_eq (x := (bi s2 100 r4)) (y := (-5)) (bi_rg _ _ _) (by decide : bRg (-5)) (fun c7 => ?_) (fun c7 => ?_)
      · refine bGo hA 7 13 (223, .iconst (0), 1, 126, 0, [], [(0, 0)]) rfl rfl rfl ?_
        refine bEqI bl_0 ?_
        refine bGo hA 7 14 (224, .istore 6, 2, 127, 0, [6], []) rfl rfl rfl ?_
        refine bGo hA 7 15 (226, .iinc 3 (1), 3, 128, 0, [3], [(1, 0)]) rfl rfl rfl ?_
        refine bEqC (fun v => A (128, [.ref 12, .int (bn l1), .int (bn l2), .int v, .long l4, .float 0, .int (bn 0), .int (bn l7), v8, v9], [], (bw s2 119 l3 (bi s2 100 r4)))) ((congrArg (fun w => bn l3 + w) bl_1).trans (bn_add l3 1)) ?_
        refine bGo hA 8 0 (229, .iinc 7 (1), 3, 129, 0, [7], [(1, 0)]) rfl rfl rfl ?_
        refine bEqC (fun v => A (129, [.ref 12, .int (bn l1), .int (bn l2), .int (bn (l3 + 1)), .long l4, .float 0, .int (bn 0), .int v, v8, v9], [], (bw s2 119 l3 (bi s2 100 r4)))) ((congrArg (fun w => bn l7 + w) bl_1).trans (bn_add l7 1)) ?_
        refine bGo hA 8 1 (232, .goto (-212), 3, 130, 14, [], []) rfl rfl rfl ?_
        exact ((k3.2.2.2 c6).1 c7).2.2
      · refine bGo hA 7 11 (219, .iconst (1), 1, 124, 0, [], [(1, 0)]) rfl rfl rfl ?_
        refine bEqI bl_1 ?_
        refine bGo hA 7 12 (220, .goto (4), 3, 125, 126, [], []) rfl rfl rfl ?_
        refine bGo hA 7 14 (224, .istore 6, 2, 127, 0, [6], []) rfl rfl rfl ?_
        refine bGo hA 7 15 (226, .iinc 3 (1), 3, 128, 0, [3], [(1, 0)]) rfl rfl rfl ?_
        refine bEqC (fun v => A (128, [.ref 12, .int (bn l1), .int (bn l2), .int v, .long l4, .float 0, .int (bn 1), .int (bn l7), v8, v9], [], (bw s2 119 l3 (bi s2 100 r4)))) ((congrArg (fun w => bn l3 + w) bl_1).trans (bn_add l3 1)) ?_
        refine bGo hA 8 0 (229, .iinc 7 (1), 3, 129, 0, [7], [(1, 0)]) rfl rfl rfl ?_
        refine bEqC (fun v => A (129, [.ref 12, .int (bn l1), .int (bn l2), .int (bn (l3 + 1)), .long l4, .float 0, .int (bn 1), .int v, v8, v9], [], (bw s2 119 l3 (bi s2 100 r4)))) ((congrArg (fun w => bn l7 + w) bl_1).trans (bn_add l7 1)) ?_
        refine bGo hA 8 1 (232, .goto (-212), 3, 130, 14, [], []) rfl rfl rfl ?_
        exact ((k3.2.2.2 c6).2 c7).2.2
  · refine bGo hA 8 0 (229, .iinc 7 (1), 3, 129, 0, [7], [(1, 0)]) rfl rfl rfl ?_
    refine bEqC (fun v => A (129, [.ref 12, .int (bn l1), .int (bn l2), .int (bn l3), .long l4, .float 0, .int (bn l6), .int v, v8, v9], [], σ)) ((congrArg (fun w => bn l7 + w) bl_1).trans (bn_add l7 1)) ?_
    refine bGo hA 8 1 (232, .goto (-212), 3, 130, 14, [], []) rfl rfl rfl ?_
    exact (h.2.2 c1).2

theorem sq264_77 {lvl : Nat} {C : bCall} {Q : bPost} {A : bPt → Prop} (hC : bMono C) (hA : bClosed lvl bm264 C Q A) {l1 : Int} {l2 : Int} {l3 : Int} {l4 : Int64} {l6 : Int} {l7 : Int} {l8 : Int} {l9 : Int} {t0 : Int} {t1 : Int} {σ : bSt}  (h_l1 : bRg l1) (h_l2 : bRg l2) (h_l3 : bRg l3) (h_l6 : bRg l6) (h_l7 : bRg l7) (h_l8 : bRg l8) (h_l9 : bRg l9) (h_t0 : bRg t0) (h_t1 : bRg t1)
  (h : ((0 ≤ t1 ∧ t1 < 64) ∧ ((l9 = 0 → (bRg (l3 + 0) ∧ ((l9 = 0 → (bRg (l8 + 1) ∧ A (26, [.ref 12, .int (bn l1), .int (bn l2), .int (bn (l3 + 0)), .long (l4 ||| (Int64.ofNat 0)), .float 0, .int (bn l6), .int (bn l7), .int (bn (l8 + 1)), .int (bn l9)], [], (bw σ 119 t1 t0)))) ∧ (¬ l9 = 0 → (bRg (l8 + 1) ∧ A (26, [.ref 12, .int (bn l1), .int (bn l2), .int (bn (l3 + 0)), .long (l4 ||| ((Int64.ofNat 1) <<< (bL l8 &&& 63))), .float 0, .int (bn l6), .int (bn l7), .int (bn (l8 + 1)), .int (bn l9)], [], (bw σ 119 t1 t0))))))) ∧ (¬ l9 = 0 → (bRg (l3 + 1) ∧ ((l9 = 0 → (bRg (l8 + 1) ∧ A (26, [.ref 12, .int (bn l1), .int (bn l2), .int (bn (l3 + 1)), .long (l4 ||| (Int64.ofNat 0)), .float 0, .int (bn l6), .int (bn l7), .int (bn (l8 + 1)), .int (bn l9)], [], (bw σ 119 t1 t0)))) ∧ (¬ l9 = 0 → (bRg (l8 + 1) ∧ A (26, [.ref 12, .int (bn l1), .int (bn l2), .int (bn (l3 + 1)), .long (l4 ||| ((Int64.ofNat 1) <<< (bL l8 &&& 63))), .float 0, .int (bn l6), .int (bn l7), .int (bn (l8 + 1)), .int (bn l9)], [], (bw σ 119 t1 t0)))))))))) : A (77, [.ref 12, .int (bn l1), .int (bn l2), .int (bn l3), .long l4, .float 0, .int (bn l6), .int (bn l7), .int (bn l8), .int (bn l9)], [.int (bn t0), .int (bn t1), .ref 119], σ) := by
  refine bGo hA 4 13 (136, .iastore, 1, 78, 0, [], []) rfl rfl rfl ?_
  refine ⟨rfl, (bIxP (x := t1) (n := 64) h_t1 h.1), by decide, ?_⟩
  refine bEqS (x := t1) h_t1 ?_
  refine bGo hA 4 14 (137, .iload_n 3, 1, 79, 0, [3], []) rfl rfl rfl ?_
  refine bGo hA 4 15 (138, .iload 9, 2, 80, 0, [9], []) rfl rfl rfl ?_
  refine bGo hA 5 0 (140, .ifCond .eq (7), 3, 81, 83, [], []) rfl rfl rfl ?_
  refine bB_eq0 (x := l9) h_l9 (fun c1 => ?_) (fun c1 => ?_)
  · refine bGo hA 5 3 (147, .iconst (0), 1, 84, 0, [], [(0, 0)]) rfl rfl rfl ?_
    refine bEqI bl_0 ?_
    refine bGo hA 5 4 (148, .iadd, 1, 85, 0, [], []) rfl rfl rfl ?_
    refine bEqI (bn_add l3 0) ?_
    refine bGo hA 5 5 (149, .istore_n 3, 1, 86, 0, [3], []) rfl rfl rfl ?_
    refine bGo hA 5 6 (150, .lload 4, 2, 87, 0, [4], []) rfl rfl rfl ?_
    refine bGo hA 5 7 (152, .iload 9, 2, 88, 0, [9], []) rfl rfl rfl ?_
    refine bGo hA 5 8 (154, .ifCond .eq (10), 3, 89, 93, [], []) rfl rfl rfl ?_
    refine bB_eq0 (x := l9) h_l9 (fun c2 => ?_) (fun c2 => ?_)
    · refine bGo hA 5 13 (164, .lconst 0, 1, 94, 0, [0], []) rfl rfl rfl ?_
      refine bGo hA 5 14 (165, .lor, 1, 95, 0, [], []) rfl rfl rfl ?_
      refine bGo hA 5 15 (166, .lstore 4, 2, 96, 0, [4], []) rfl rfl rfl ?_
      refine bGo hA 6 0 (168, .iinc 8 (1), 3, 97, 0, [8], [(1, 0)]) rfl rfl rfl ?_
      refine bEqC (fun v => A (97, [.ref 12, .int (bn l1), .int (bn l2), .int (bn (l3 + 0)), .long (l4 ||| (Int64.ofNat 0)), .float 0, .int (bn l6), .int (bn l7), .int v, .int (bn l9)], [], (bw σ 119 t1 t0))) ((congrArg (fun w => bn l8 + w) bl_1).trans (bn_add l8 1)) ?_
      refine bGo hA 6 1 (171, .goto (-132), 3, 98, 26, [], []) rfl rfl rfl ?_
      exact ((h.2.1 c1).2.1 c2).2
    · refine bGo hA 5 9 (157, .lconst 1, 1, 90, 0, [1], []) rfl rfl rfl ?_
      refine bGo hA 5 10 (158, .iload 8, 2, 91, 0, [8], []) rfl rfl rfl ?_
      refine bGo hA 5 11 (160, .lshl, 1, 92, 0, [], []) rfl rfl rfl ?_
      refine bGo hA 5 12 (161, .goto (4), 3, 93, 94, [], []) rfl rfl rfl ?_
      refine bGo hA 5 14 (165, .lor, 1, 95, 0, [], []) rfl rfl rfl ?_
      refine bGo hA 5 15 (166, .lstore 4, 2, 96, 0, [4], []) rfl rfl rfl ?_
      refine bGo hA 6 0 (168, .iinc 8 (1), 3, 97, 0, [8], [(1, 0)]) rfl rfl rfl ?_
      refine bEqC (fun v => A (97, [.ref 12, .int (bn l1), .int (bn l2), .int (bn (l3 + 0)), .long (l4 ||| ((Int64.ofNat 1) <<< (bL l8 &&& 63))), .float 0, .int (bn l6), .int (bn l7), .int v, .int (bn l9)], [], (bw σ 119 t1 t0))) ((congrArg (fun w => bn l8 + w) bl_1).trans (bn_add l8 1)) ?_
      refine bGo hA 6 1 (171, .goto (-132), 3, 98, 26, [], []) rfl rfl rfl ?_
      exact ((h.2.1 c1).2.2 c2).2
  · refine bGo hA 5 1 (143, .iconst (1), 1, 82, 0, [], [(1, 0)]) rfl rfl rfl ?_
    refine bEqI bl_1 ?_
    refine bGo hA 5 2 (144, .goto (4), 3, 83, 84, [], []) rfl rfl rfl ?_
    refine bGo hA 5 4 (148, .iadd, 1, 85, 0, [], []) rfl rfl rfl ?_
    refine bEqI (bn_add l3 1) ?_
    refine bGo hA 5 5 (149, .istore_n 3, 1, 86, 0, [3], []) rfl rfl rfl ?_
    refine bGo hA 5 6 (150, .lload 4, 2, 87, 0, [4], []) rfl rfl rfl ?_
    refine bGo hA 5 7 (152, .iload 9, 2, 88, 0, [9], []) rfl rfl rfl ?_
    refine bGo hA 5 8 (154, .ifCond .eq (10), 3, 89, 93, [], []) rfl rfl rfl ?_
    refine bB_eq0 (x := l9) h_l9 (fun c3 => ?_) (fun c3 => ?_)
    · refine bGo hA 5 13 (164, .lconst 0, 1, 94, 0, [0], []) rfl rfl rfl ?_
      refine bGo hA 5 14 (165, .lor, 1, 95, 0, [], []) rfl rfl rfl ?_
      refine bGo hA 5 15 (166, .lstore 4, 2, 96, 0, [4], []) rfl rfl rfl ?_
      refine bGo hA 6 0 (168, .iinc 8 (1), 3, 97, 0, [8], [(1, 0)]) rfl rfl rfl ?_
      refine bEqC (fun v => A (97, [.ref 12, .int (bn l1), .int (bn l2), .int (bn (l3 + 1)), .long (l4 ||| (Int64.ofNat 0)), .float 0, .int (bn l6), .int (bn l7), .int v, .int (bn l9)], [], (bw σ 119 t1 t0))) ((congrArg (fun w => bn l8 + w) bl_1).trans (bn_add l8 1)) ?_
      refine bGo hA 6 1 (171, .goto (-132), 3, 98, 26, [], []) rfl rfl rfl ?_
      exact ((h.2.2 c1).2.1 c3).2
    · refine bGo hA 5 9 (157, .lconst 1, 1, 90, 0, [1], []) rfl rfl rfl ?_
      refine bGo hA 5 10 (158, .iload 8, 2, 91, 0, [8], []) rfl rfl rfl ?_
      refine bGo hA 5 11 (160, .lshl, 1, 92, 0, [], []) rfl rfl rfl ?_
      refine bGo hA 5 12 (161, .goto (4), 3, 93, 94, [], []) rfl rfl rfl ?_
      refine bGo hA 5 14 (165, .lor, 1, 95, 0, [], []) rfl rfl rfl ?_
      refine bGo hA 5 15 (166, .lstore 4, 2, 96, 0, [4], []) rfl rfl rfl ?_
      refine bGo hA 6 0 (168, .iinc 8 (1), 3, 97, 0, [8], [(1, 0)]) rfl rfl rfl ?_
      refine bEqC (fun v => A (97, [.ref 12, .int (bn l1), .int (bn l2), .int (bn (l3 + 1)), .long (l4 ||| ((Int64.ofNat 1) <<< (bL l8 &&& 63))), .float 0, .int (bn l6), .int (bn l7), .int v, .int (bn l9)], [], (bw σ 119 t1 t0))) ((congrArg (fun w => bn l8 + w) bl_1).trans (bn_add l8 1)) ?_
      refine bGo hA 6 1 (171, .goto (-132), 3, 98, 26, [], []) rfl rfl rfl ?_
      exact ((h.2.2 c1).2.2 c3).2


/-! segments of methods 186-188,304,305, by program (wip/whole/gen13.py): from a cut of a method on to the next cuts -/
theorem sq186_0 {lvl : Nat} {C : bCall} {Q : bPost} {A : bPt → Prop} (hC : bMono C) (hA : bClosed lvl bm186 C Q A) {a1 : Nat} {x2 : Int} {σ : bSt} (h_a1 : a1 % 256 = 8) (h_x2 : bRg x2)
  (h : A (4, [.ref 11, .ref a1, .int (bn x2), .int (bn 0), .int (bn 0), .float 0, .float 0], [], σ)) : A (0, [.ref 11, .ref a1, .int (bn x2), .float 0, .float 0, .float 0, .float 0], [], σ) := by
  refine bGo hA 0 0 (0, .iconst (0), 1, 1, 0, [], [(0, 0)]) rfl rfl rfl ?_
  refine bEqI bl_0 ?_
  refine bGo hA 0 1 (1, .istore_n 3, 1, 2, 0, [3], []) rfl rfl rfl ?_
  refine bGo hA 0 2 (2, .iconst (0), 1, 3, 0, [], [(0, 0)]) rfl rfl rfl ?_
  refine bEqI bl_0 ?_
  refine bGo hA 0 3 (3, .istore 4, 2, 4, 0, [4], []) rfl rfl rfl ?_
  exact h

theorem sq186_4 {lvl : Nat} {C : bCall} {Q : bPost} {A : bPt → Prop} (hC : bMono C) (hA : bClosed lvl bm186 C Q A) {l1 : Nat} {l2 : Int} {l3 : Int} {l4 : Int} {v5 : Value} {v6 : Value} {σ : bSt}  (h_l2 : bRg l2) (h_l3 : bRg l3) (h_l4 : bRg l4)
  (h : ((l4 < 4 → (l1 % 256 = 8 ∧ ((l4 < (bi σ l1 11) → (bRg (l2 + l4) ∧ (0 ≤ (l2 + l4) ∧ ((((l2 + l4) % 4) = 3 → A (23, [.ref 11, .ref l1, .int (bn l2), .int (bn l3), .int (bn l4), .int (bn (-1)), v6], [.int (bn 0)], σ)) ∧ (¬ ((l2 + l4) % 4) = 3 → A (23, [.ref 11, .ref l1, .int (bn l2), .int (bn l3), .int (bn l4), .int (bn (-1)), v6], [.int (bn 1)], σ)))))) ∧ (¬ l4 < (bi σ l1 11) → (C 141 [.ref (256 * (1 * (l1 / 256) + 0) + 48), .int (bn l4), .int (bn (-1))] σ (bRv (fun s4 => (bRg (l3 + 0) ∧ (bRg (l4 + 1) ∧ A (4, [.ref 11, .ref l1, .int (bn l2), .int (bn (l3 + 0)), .int (bn (l4 + 1)), .int (bn (-1)), v6], [], s4)))))))))) ∧ (¬ l4 < 4 → Q (.inl (some (.int (bn l3)))) σ))) : A (4, [.ref 11, .ref l1, .int (bn l2), .int (bn l3), .int (bn l4), v5, v6], [], σ) := by
  refine bGo hA 0 4 (5, .iload 4, 2, 5, 0, [4], []) rfl rfl rfl ?_
  refine bGo hA 0 5 (7, .iconst (4), 1, 6, 0, [], [(4, 0)]) rfl rfl rfl ?_
  refine bEqI bl_4 ?_
  refine bGo hA 0 6 (8, .if_icmp .ge (97), 3, 7, 58, [], []) rfl rfl rfl ?_
  refine bB_lt (x := l4) (y := 4) h_l4 (by decide : bRg 4) (fun c1 => ?_) (fun c1 => ?_)
  · refine bGo hA 0 7 (11, .iconst (-1), 1, 8, 0, [], [(-1, 0)]) rfl rfl rfl ?_
    refine bEqI bl_m1 ?_
    refine bGo hA 0 8 (12, .istore 5, 2, 9, 0, [5], []) rfl rfl rfl ?_
    refine bGo hA 0 9 (14, .iload 4, 2, 10, 0, [4], []) rfl rfl rfl ?_
    refine bGo hA 0 10 (16, .aload_n 1, 1, 11, 0, [1], []) rfl rfl rfl ?_
    refine bGo hA 0 11 (17, .getfield 182, 3, 12, 0, [8, 11, 0, 0, 0, 0], []) rfl rfl rfl ?_
    refine ⟨(h.1 c1).1, ?_⟩
    refine bEqI (bn_bi σ l1 11) ?_
    refine bGo hA 0 12 (20, .if_icmp .ge (55), 3, 13, 43, [], []) rfl rfl rfl ?_
    refine bB_lt (x := l4) (y := (bi σ l1 11)) h_l4 (bi_rg _ _ _) (fun c2 => ?_) (fun c2 => ?_)
    · refine bGo hA 0 13 (23, .iload_n 2, 1, 14, 0, [2], []) rfl rfl rfl ?_
      refine bGo hA 0 14 (24, .iload 4, 2, 15, 0, [4], []) rfl rfl rfl ?_
      refine bGo hA 0 15 (26, .iadd, 1, 16, 0, [], []) rfl rfl rfl ?_
      refine bEqI (bn_add l2 l4) ?_
      refine bGo hA 1 0 (27, .iconst (4), 1, 17, 0, [], [(4, 0)]) rfl rfl rfl ?_
      refine bEqI bl_4 ?_
      refine bGo hA 1 1 (28, .irem, 1, 18, 0, [], []) rfl rfl rfl ?_
      refine ⟨by decide, ?_⟩
      refine bEqI (bn_rem ((h.1 c1).2.1 c2).1 (by decide) ((h.1 c1).2.1 c2).2.1) ?_
      refine bGo hA 1 2 (29, .iconst (3), 1, 19, 0, [], [(3, 0)]) rfl rfl rfl ?_
      refine bEqI bl_3 ?_
      refine bGo hA 1 3 (30, .if_icmp .eq (7), 3, 20, 22, [], []) rfl rfl rfl ?_
      refine bB_eq (x := ((l2 + l4) % 4)) (y := 3) (bRg_mod (by decide) (by decide)) (by decide : bRg 3) (fun c3 => ?_) (fun c3 => ?_)
      · refine bGo hA 1 6 (37, .iconst (0), 1, 23, 0, [], [(0, 0)]) rfl rfl rfl ?_
        refine bEqI bl_0 ?_
        exact (((h.1 c1).2.1 c2).2.2.1 c3)
      · refine bGo hA 1 4 (33, .iconst (1), 1, 21, 0, [], [(1, 0)]) rfl rfl rfl ?_
        refine bEqI bl_1 ?_
        refine bGo hA 1 5 (34, .goto (4), 3, 22, 23, [], []) rfl rfl rfl ?_
        exact (((h.1 c1).2.1 c2).2.2.2 c3)
    · refine bGo hA 2 11 (75, .aload_n 1, 1, 44, 0, [1], []) rfl rfl rfl ?_
      refine bGo hA 2 12 (76, .getfield 295, 3, 45, 0, [8, 17, 3, 48, 1, 0], []) rfl rfl rfl ?_
      refine ⟨(h.1 c1).1, ?_⟩
      refine bGo hA 2 13 (79, .iload 4, 2, 46, 0, [4], []) rfl rfl rfl ?_
      refine bGo hA 2 14 (81, .iload 5, 2, 47, 0, [5], []) rfl rfl rfl ?_
      refine bGo hA 2 15 (83, .invokestatic 72, 3, 48, 0, [2, 141, 3], []) rfl rfl rfl ?_
      refine hC _ _ _ _ _ (bRv_e (fun s4 k5 => ?_)) ((h.1 c1).2.2 c2)
      show A (48, [.ref 11, .ref l1, .int (bn l2), .int (bn l3), .int (bn l4), .int (bn (-1)), v6], [], s4)
      refine bGo hA 3 0 (86, .iload_n 3, 1, 49, 0, [3], []) rfl rfl rfl ?_
      refine bGo hA 3 1 (87, .iload 5, 2, 50, 0, [5], []) rfl rfl rfl ?_
      refine bGo hA 3 2 (89, .ifCond .ne (7), 3, 51, 53, [], []) rfl rfl rfl ?_
      refine ⟨fun c => absurd c (by decide), fun _ => ?_⟩
      refine bGo hA 3 5 (96, .iconst (0), 1, 54, 0, [], [(0, 0)]) rfl rfl rfl ?_
      refine bEqI bl_0 ?_
      refine bGo hA 3 6 (97, .iadd, 1, 55, 0, [], []) rfl rfl rfl ?_
      refine bEqI (bn_add l3 0) ?_
      refine bGo hA 3 7 (98, .istore_n 3, 1, 56, 0, [3], []) rfl rfl rfl ?_
      refine bGo hA 3 8 (99, .iinc 4 (1), 3, 57, 0, [4], [(1, 0)]) rfl rfl rfl ?_
      refine bEqC (fun v => A (57, [.ref 11, .ref l1, .int (bn l2), .int (bn (l3 + 0)), .int v, .int (bn (-1)), v6], [], s4)) ((congrArg (fun w => bn l4 + w) bl_1).trans (bn_add l4 1)) ?_
      refine bGo hA 3 9 (102, .goto (-97), 3, 58, 4, [], []) rfl rfl rfl ?_
      exact k5.2.2
  · refine bGo hA 3 10 (105, .iload_n 3, 1, 59, 0, [3], []) rfl rfl rfl ?_
    refine bGo hA 3 11 (106, .ireturn, 1, 0, 0, [1], []) rfl rfl rfl ?_
    exact (h.2 c1)

theorem sq186_23 {lvl : Nat} {C : bCall} {Q : bPost} {A : bPt → Prop} (hC : bMono C) (hA : bClosed lvl bm186 C Q A) {l1 : Nat} {l2 : Int} {l3 : Int} {l4 : Int} {v5 : Value} {v6 : Value} {t0 : Int} {σ : bSt}  (h_l2 : bRg l2) (h_l3 : bRg l3) (h_l4 : bRg l4) (h_t0 : bRg t0)
  (h : (l1 % 256 = 8 ∧ (((bi σ l1 12) = 0 → (bRg (l2 * 4) ∧ (bRg ((l2 * 4) + l4) ∧ (C 187 [.ref 11, .ref l1, .int (bn ((l2 * 4) + l4)), .int (bn t0)] σ (bRn (fun r4 s2 => (C 141 [.ref (256 * (1 * (l1 / 256) + 0) + 48), .int (bn l4), .int (bn r4)] s2 (bRv (fun s6 => ((r4 = 0 → (bRg (l3 + 1) ∧ (bRg (l4 + 1) ∧ A (4, [.ref 11, .ref l1, .int (bn l2), .int (bn (l3 + 1)), .int (bn (l4 + 1)), .int (bn r4), .int (bn t0)], [], s6)))) ∧ (¬ r4 = 0 → (bRg (l3 + 0) ∧ (bRg (l4 + 1) ∧ A (4, [.ref 11, .ref l1, .int (bn l2), .int (bn (l3 + 0)), .int (bn (l4 + 1)), .int (bn r4), .int (bn t0)], [], s6)))))))))))))) ∧ (¬ (bi σ l1 12) = 0 → (C 188 [.ref 11, .int (bn (bi σ l1 12)), .int (bn t0)] σ (bRn (fun r11 s9 => (C 141 [.ref (256 * (1 * (l1 / 256) + 0) + 48), .int (bn l4), .int (bn r11)] s9 (bRv (fun s13 => ((r11 = 0 → (bRg (l3 + 1) ∧ (bRg (l4 + 1) ∧ A (4, [.ref 11, .ref l1, .int (bn l2), .int (bn (l3 + 1)), .int (bn (l4 + 1)), .int (bn r11), .int (bn t0)], [], s13)))) ∧ (¬ r11 = 0 → (bRg (l3 + 0) ∧ (bRg (l4 + 1) ∧ A (4, [.ref 11, .ref l1, .int (bn l2), .int (bn (l3 + 0)), .int (bn (l4 + 1)), .int (bn r11), .int (bn t0)], [], s13))))))))))))))) : A (23, [.ref 11, .ref l1, .int (bn l2), .int (bn l3), .int (bn l4), v5, v6], [.int (bn t0)], σ) := by
  refine bGo hA 1 7 (38, .istore 6, 2, 24, 0, [6], []) rfl rfl rfl ?_
  refine bGo hA 1 8 (40, .aload_n 1, 1, 25, 0, [1], []) rfl rfl rfl ?_
  refine bGo hA 1 9 (41, .getfield 185, 3, 26, 0, [8, 12, 0, 0, 0, 0], []) rfl rfl rfl ?_
  refine ⟨h.1, ?_⟩
  refine bEqI (bn_bi σ l1 12) ?_
  refine bGo hA 1 10 (44, .ifCond .ne (19), 3, 27, 37, [], []) rfl rfl rfl ?_
  refine bB_eq0 (x := (bi σ l1 12)) (bi_rg _ _ _) (fun c1 => ?_) (fun c1 => ?_)
  · refine bGo hA 1 11 (47, .aload_n 0, 1, 28, 0, [0], []) rfl rfl rfl ?_
    refine bGo hA 1 12 (48, .aload_n 1, 1, 29, 0, [1], []) rfl rfl rfl ?_
    refine bGo hA 1 13 (49, .iload_n 2, 1, 30, 0, [2], []) rfl rfl rfl ?_
    refine bGo hA 1 14 (50, .iconst (4), 1, 31, 0, [], [(4, 0)]) rfl rfl rfl ?_
    refine bEqI bl_4 ?_
    refine bGo hA 1 15 (51, .imul, 1, 32, 0, [], []) rfl rfl rfl ?_
    refine bEqI (bn_mul l2 4) ?_
    refine bGo hA 2 0 (52, .iload 4, 2, 33, 0, [4], []) rfl rfl rfl ?_
    refine bGo hA 2 1 (54, .iadd, 1, 34, 0, [], []) rfl rfl rfl ?_
    refine bEqI (bn_add (l2 * 4) l4) ?_
    refine bGo hA 2 2 (55, .iload 6, 2, 35, 0, [6], []) rfl rfl rfl ?_
    refine bGo hA 2 3 (57, .invokevirtual 287, 3, 36, 0, [0, 11, 187, 3], []) rfl rfl rfl ?_
    refine ⟨rfl, ?_⟩
    refine hC _ _ _ _ _ (bRn_e (fun r4 s2 q5 k3 => ?_)) (h.2.1 c1).2.2
    show A (36, [.ref 11, .ref l1, .int (bn l2), .int (bn l3), .int (bn l4), (bUnl v5), .int (bn t0)], [.int (bn r4)], s2)
    refine bGo hA 2 4 (60, .goto (13), 3, 37, 42, [], []) rfl rfl rfl ?_
    refine bGo hA 2 10 (73, .istore 5, 2, 43, 0, [5], []) rfl rfl rfl ?_
    refine bGo hA 2 11 (75, .aload_n 1, 1, 44, 0, [1], []) rfl rfl rfl ?_
    refine bGo hA 2 12 (76, .getfield 295, 3, 45, 0, [8, 17, 3, 48, 1, 0], []) rfl rfl rfl ?_
    refine ⟨h.1, ?_⟩
    refine bGo hA 2 13 (79, .iload 4, 2, 46, 0, [4], []) rfl rfl rfl ?_
    refine bGo hA 2 14 (81, .iload 5, 2, 47, 0, [5], []) rfl rfl rfl ?_
    refine bGo hA 2 15 (83, .invokestatic 72, 3, 48, 0, [2, 141, 3], []) rfl rfl rfl ?_
    refine hC _ _ _ _ _ (bRv_e (fun s6 k7 => ?_)) k3
    show A (48, [.ref 11, .ref l1, .int (bn l2), .int (bn l3), .int (bn l4), .int (bn r4), .int (bn t0)], [], s6)
    refine bGo hA 3 0 (86, .iload_n 3, 1, 49, 0, [3], []) rfl rfl rfl ?_
    refine bGo hA 3 1 (87, .iload 5, 2, 50, 0, [5], []) rfl rfl rfl ?_
    refine bGo hA 3 2 (89, .ifCond .ne (7), 3, 51, 53, [], []) rfl rfl rfl ?_
    refine bB_eq0 (x := r4) q5 (fun c8 => ?_) (fun c8 => ?_)
    · refine bGo hA 3 3 (92, .iconst (1), 1, 52, 0, [], [(1, 0)]) rfl rfl rfl ?_
      refine bEqI bl_1 ?_
      refine bGo hA 3 4 (93, .goto (4), 3, 53, 54, [], []) rfl rfl rfl ?_
      refine bGo hA 3 6 (97, .iadd, 1, 55, 0, [], []) rfl rfl rfl ?_
      refine bEqI (bn_add l3 1) ?_
      refine bGo hA 3 7 (98, .istore_n 3, 1, 56, 0, [3], []) rfl rfl rfl ?_
      refine bGo hA 3 8 (99, .iinc 4 (1), 3, 57, 0, [4], [(1, 0)]) rfl rfl rfl ?_
      refine bEqC (fun v => A (57, [.ref 11, .ref l1, .int (bn l2), .int (bn (l3 + 1)), .int v, .int (bn r4), .int (bn t0)], [], s6)) ((congrArg (fun w => bn l4 + w) bl_1).trans (bn_add l4 1)) ?_
      refine bGo hA 3 9 (102, .goto (-97), 3, 58, 4, [], []) rfl rfl rfl ?_
      exact (k7.1 c8).2.2
    · refine bGo hA 3 5 (96, .iconst (0), 1, 54, 0, [], [(0, 0)]) rfl rfl rfl ?_
      refine bEqI bl_0 ?_
      refine bGo hA 3 6 (97, .iadd, 1, 55, 0, [], []) rfl rfl rfl ?_
      refine bEqI (bn_add l3 0) ?_
      refine bGo hA 3 7 (98, .istore_n 3, 1, 56, 0, [3], []) rfl rfl rfl ?_
      refine bGo hA 3 8 (99, .iinc 4 (1), 3, 57, 0, [4], [(1, 0)]) rfl rfl rfl ?_
      refine bEqC (fun v => A (57, [.ref 11, .ref l1, .int (bn l2), .int (bn (l3 + 0)), .int v, .int (bn r4), .int (bn t0)], [], s6)) ((congrArg (fun w => bn l4 + w) bl_1).trans (bn_add l4 1)) ?_
      refine bGo hA 3 9 (102, .goto (-97), 3, 58, 4, [], []) rfl rfl rfl ?_
      exact (k7.2 c8).2.2
  · refine bGo hA 2 5 (63, .aload_n 0, 1, 38, 0, [0], []) rfl rfl rfl ?_
    refine bGo hA 2 6 (64, .aload_n 1, 1, 39, 0, [1], []) rfl rfl rfl ?_
    refine bGo hA 2 7 (65, .getfield 185, 3, 40, 0, [8, 12, 0, 0, 0, 0], []) rfl rfl rfl ?_
    refine ⟨h.1, ?_⟩
    refine bEqI (bn_bi σ l1 12) ?_
    refine bGo hA 2 8 (68, .iload 6, 2, 41, 0, [6], []) rfl rfl rfl ?_
    refine bGo hA 2 9 (70, .invokevirtual 291, 3, 42, 0, [0, 11, 188, 2], []) rfl rfl rfl ?_
    refine ⟨rfl, ?_⟩
    refine hC _ _ _ _ _ (bRn_e (fun r11 s9 q12 k10 => ?_)) (h.2.2 c1)
    show A (42, [.ref 11, .ref l1, .int (bn l2), .int (bn l3), .int (bn l4), (bUnl v5), .int (bn t0)], [.int (bn r11)], s9)
    refine bGo hA 2 10 (73, .istore 5, 2, 43, 0, [5], []) rfl rfl rfl ?_
    refine bGo hA 2 11 (75, .aload_n 1, 1, 44, 0, [1], []) rfl rfl rfl ?_
    refine bGo hA 2 12 (76, .getfield 295, 3, 45, 0, [8, 17, 3, 48, 1, 0], []) rfl rfl rfl ?_
    refine ⟨h.1, ?_⟩
    refine bGo hA 2 13 (79, .iload 4, 2, 46, 0, [4], []) rfl rfl rfl ?_
    refine bGo hA 2 14 (81, .iload 5, 2, 47, 0, [5], []) rfl rfl rfl ?_
    refine bGo hA 2 15 (83, .invokestatic 72, 3, 48, 0, [2, 141, 3], []) rfl rfl rfl ?_
    refine hC _ _ _ _ _ (bRv_e (fun s13 k14 => ?_)) k10
    show A (48, [.ref 11, .ref l1, .int (bn l2), .int (bn l3), .int (bn l4), .int (bn r11), .int (bn t0)], [], s13)
    refine bGo hA 3 0 (86, .iload_n 3, 1, 49, 0, [3], []) rfl rfl rfl ?_
    refine bGo hA 3 1 (87, .iload 5, 2, 50, 0, [5], []) rfl rfl rfl ?_
    refine bGo hA 3 2 (89, .ifCond .ne (7), 3, 51, 53, [], []) rfl rfl rfl ?_
    refine bB_eq0 (x := r11) q12 (fun c15 => ?_) (fun c15 => ?_)
    · refine bGo hA 3 3 (92, .iconst (1), 1, 52, 0, [], [(1, 0)]) rfl rfl rfl ?_
      refine bEqI bl_1 ?_
      refine bGo hA 3 4 (93, .goto (4), 3, 53, 54, [], []) rfl rfl rfl ?_
      refine bGo hA 3 6 (97, .iadd, 1, 55, 0, [], []) rfl rfl rfl ?_
      refine bEqI (bn_add l3 1) ?_
      refine bGo hA 3 7 (98, .istore_n 3, 1, 56, 0, [3], []) rfl rfl rfl ?_
      refine bGo hA 3 8 (99, .iinc 4 (1), 3, 57, 0, [4], [(1, 0)]) rfl rfl rfl ?_
      refine bEqC (fun v => A (57, [.ref 11, .ref l1, .int (bn l2), .int (bn (l3 + 1)), .int v, .int (bn r11), .int (bn t0)], [], s13)) ((congrArg (fun w => bn l4 + w) bl_1).trans (bn_add l4 1)) ?_
      refine bGo hA 3 9 (102, .goto (-97), 3, 58, 4, [], []) rfl rfl rfl ?_
      exact (k14.1 c15).2.2
    · refine bGo hA 3 5 (96, .iconst (0), 1, 54, 0, [], [(0, 0)]) rfl rfl rfl ?_
      refine bEqI bl_0 ?_
      refine bGo hA 3 6 (97, .iadd, 1, 55, 0, [], []) rfl rfl rfl ?_
      refine bEqI (bn_add l3 0) ?_
      refine bGo hA 3 7 (98, .istore_n 3, 1, 56, 0, [3], []) rfl rfl rfl ?_
      refine bGo hA 3 8 (99, .iinc 4 (1), 3, 57, 0, [4], [(1, 0)]) rfl rfl rfl ?_
      refine bEqC (fun v => A (57, [.ref 11, .ref l1, .int (bn l2), .int (bn (l3 + 0)), .int v, .int (bn r11), .int (bn t0)], [], s13)) ((congrArg (fun w => bn l4 + w) bl_1).trans (bn_add l4 1)) ?_
      refine bGo hA 3 9 (102, .goto (-97), 3, 58, 4, [], []) rfl rfl rfl ?_
      exact (k14.2 c15).2.2

theorem sq187_0 {lvl : Nat} {C : bCall} {Q : bPost} {A : bPt → Prop} (hC : bMono C) (hA : bClosed lvl bm187 C Q A) {a1 : Nat} {x2 : Int} {x3 : Int} {σ : bSt} (h_a1 : a1 % 256 = 8) (h_x2 : bRg x2) (h_x3 : bRg x3)
  (h : (C 118 [.ref a1, .int (bn x2)] σ (bRn (fun r3 s1 => ((r3 = 0 → ((x3 = 0 → Q (.inl (some (.int (bn 2)))) s1) ∧ (¬ x3 = 0 → Q (.inl (some (.int (bn 0)))) s1))) ∧ (¬ r3 = 0 → (bRg ((bi s1 11 6) + 1) ∧ ((x3 = 0 → Q (.inl (some (.int (bn 2)))) (bw s1 11 6 ((bi s1 11 6) + 1))) ∧ (¬ x3 = 0 → Q (.inl (some (.int (bn 0)))) (bw s1 11 6 ((bi s1 11 6) + 1))))))))))) : A (0, [.ref 11, .ref a1, .int (bn x2), .int (bn x3)], [], σ) := by
  refine bGo hA 0 0 (0, .aload_n 1, 1, 1, 0, [1], []) rfl rfl rfl ?_
  refine bGo hA 0 1 (1, .iload_n 2, 1, 2, 0, [2], []) rfl rfl rfl ?_
  refine bGo hA 0 2 (2, .invokevirtual 298, 3, 3, 0, [0, 8, 118, 1], []) rfl rfl rfl ?_
  refine ⟨h_a1, ?_⟩
  refine hC _ _ _ _ _ (bRn_e (fun r3 s1 q4 k2 => ?_)) h
  show A (3, [.ref 11, .ref a1, .int (bn x2), .int (bn x3)], [.int (bn r3)], s1)
  refine bGo hA 0 3 (5, .ifCond .eq (13), 3, 4, 10, [], []) rfl rfl rfl ?_
  refine bB_eq0 (x := r3) q4 (fun c5 => ?_) (fun c5 => ?_)
  · refine bGo hA 0 10 (18, .iload_n 3, 1, 11, 0, [3], []) rfl rfl rfl ?_
    refine bGo hA 0 11 (19, .ifCond .eq (7), 3, 12, 14, [], []) rfl rfl rfl ?_
    refine bB_eq0 (x := x3) h_x3 (fun c6 => ?_) (fun c6 => ?_)
    · refine bGo hA 0 14 (26, .iconst (2), 1, 15, 0, [], [(2, 0)]) rfl rfl rfl ?_
      refine bEqI bl_2 ?_
      refine bGo hA 0 15 (27, .ireturn, 1, 0, 0, [1], []) rfl rfl rfl ?_
      exact ((k2.1 c5).1 c6)
    · refine bGo hA 0 12 (22, .iconst (0), 1, 13, 0, [], [(0, 0)]) rfl rfl rfl ?_
      refine bEqI bl_0 ?_
      refine bGo hA 0 13 (23, .goto (4), 3, 14, 15, [], []) rfl rfl rfl ?_
      refine bGo hA 0 15 (27, .ireturn, 1, 0, 0, [1], []) rfl rfl rfl ?_
      exact ((k2.1 c5).2 c6)
  · refine bGo hA 0 4 (8, .aload_n 0, 1, 5, 0, [0], []) rfl rfl rfl ?_
    refine bGo hA 0 5 (9, .dup, 1, 6, 0, [], []) rfl rfl rfl ?_
    refine bGo hA 0 6 (10, .getfield 274, 3, 7, 0, [11, 6, 0, 0, 0, 0], []) rfl rfl rfl ?_
    refine ⟨rfl, ?_⟩
    refine bEqI (bn_bi s1 11 6) ?_
    refine bGo hA 0 7 (13, .iconst (1), 1, 8, 0, [], [(1, 0)]) rfl rfl rfl ?_
    refine bEqI bl_1 ?_
    refine bGo hA 0 8 (14, .iadd, 1, 9, 0, [], []) rfl rfl rfl ?_
    refine bEqI (bn_add (bi s1 11 6) 1) ?_
    refine bGo hA 0 9 (15, .putfield 274, 3, 10, 0, [11, 6, 0, 0, 0, 0], []) rfl rfl rfl ?_
    refine ⟨rfl, ?_⟩
    refine bGo hA 0 10 (18, .iload_n 3, 1, 11, 0, [3], []) rfl rfl rfl ?_
    refine bGo hA 0 11 (19, .ifCond .eq (7), 3, 12, 14, [], []) rfl rfl rfl ?_
    refine bB_eq0 (x := x3) h_x3 (fun c7 => ?_) (fun c7 => ?_)
    · refine bGo hA 0 14 (26, .iconst (2), 1, 15, 0, [], [(2, 0)]) rfl rfl rfl ?_
      refine bEqI bl_2 ?_
      refine bGo hA 0 15 (27, .ireturn, 1, 0, 0, [1], []) rfl rfl rfl ?_
      exact ((k2.2 c5).2.1 c7)
    · refine bGo hA 0 12 (22, .iconst (0), 1, 13, 0, [], [(0, 0)]) rfl rfl rfl ?_
      refine bEqI bl_0 ?_
      refine bGo hA 0 13 (23, .goto (4), 3, 14, 15, [], []) rfl rfl rfl ?_
      refine bGo hA 0 15 (27, .ireturn, 1, 0, 0, [1], []) rfl rfl rfl ?_
      exact ((k2.2 c5).2.2 c7)

theorem sq188_0 {lvl : Nat} {C : bCall} {Q : bPost} {A : bPt → Prop} (hC : bMono C) (hA : bClosed lvl bm188 C Q A) {x1 : Int} {x2 : Int} {σ : bSt}  (h_x1 : bRg x1) (h_x2 : bRg x2)
  (h : A (2, [.ref 11, .int (bn x1), .int (bn x2), .int (bn 0)], [], σ)) : A (0, [.ref 11, .int (bn x1), .int (bn x2), .float 0], [], σ) := by
  refine bGo hA 0 0 (0, .iconst (0), 1, 1, 0, [], [(0, 0)]) rfl rfl rfl ?_
  refine bEqI bl_0 ?_
  refine bGo hA 0 1 (1, .istore_n 3, 1, 2, 0, [3], []) rfl rfl rfl ?_
  exact h

theorem sq188_2 {lvl : Nat} {C : bCall} {Q : bPost} {A : bPt → Prop} (hC : bMono C) (hA : bClosed lvl bm188 C Q A) {l1 : Int} {l2 : Int} {l3 : Int} {σ : bSt}  (h_l1 : bRg l1) (h_l2 : bRg l2) (h_l3 : bRg l3)
  (h : ((l3 < 3 → (bRg ((bi σ 11 6) + 1) ∧ (((bCmp (((bj (bwj (bw σ 11 6 ((bi σ 11 6) + 1)) 11 7 ((((bj (bw σ 11 6 ((bi σ 11 6) + 1)) 11 7) * (Int64.ofNat 1103515245)) + (Int64.ofNat 12345)) - (((bj (bw σ 11 6 ((bi σ 11 6) + 1)) 11 7) * (Int64.ofNat 1103515245)) + (Int64.ofNat 12345)) / (Int64.ofNat 2147483648) * (Int64.ofNat 2147483648))) 11 7) / (Int64.ofNat 65536)) - ((bj (bwj (bw σ 11 6 ((bi σ 11 6) + 1)) 11 7 ((((bj (bw σ 11 6 ((bi σ 11 6) + 1)) 11 7) * (Int64.ofNat 1103515245)) + (Int64.ofNat 12345)) - (((bj (bw σ 11 6 ((bi σ 11 6) + 1)) 11 7) * (Int64.ofNat 1103515245)) + (Int64.ofNat 12345)) / (Int64.ofNat 2147483648) * (Int64.ofNat 2147483648))) 11 7) / (Int64.ofNat 65536)) / (Int64.ofNat 10) * (Int64.ofNat 10)) (bL l1)) < 0 → (bRg (l3 + 1) ∧ A (2, [.ref 11, .int (bn l1), .int (bn l2), .int (bn (l3 + 1))], [], (bwj (bw σ 11 6 ((bi σ 11 6) + 1)) 11 7 ((((bj (bw σ 11 6 ((bi σ 11 6) + 1)) 11 7) * (Int64.ofNat 1103515245)) + (Int64.ofNat 12345)) - (((bj (bw σ 11 6 ((bi σ 11 6) + 1)) 11 7) * (Int64.ofNat 1103515245)) + (Int64.ofNat 12345)) / (Int64.ofNat 2147483648) * (Int64.ofNat 2147483648)))))) ∧ (¬ (bCmp (((bj (bwj (bw σ 11 6 ((bi σ 11 6) + 1)) 11 7 ((((bj (bw σ 11 6 ((bi σ 11 6) + 1)) 11 7) * (Int64.ofNat 1103515245)) + (Int64.ofNat 12345)) - (((bj (bw σ 11 6 ((bi σ 11 6) + 1)) 11 7) * (Int64.ofNat 1103515245)) + (Int64.ofNat 12345)) / (Int64.ofNat 2147483648) * (Int64.ofNat 2147483648))) 11 7) / (Int64.ofNat 65536)) - ((bj (bwj (bw σ 11 6 ((bi σ 11 6) + 1)) 11 7 ((((bj (bw σ 11 6 ((bi σ 11 6) + 1)) 11 7) * (Int64.ofNat 1103515245)) + (Int64.ofNat 12345)) - (((bj (bw σ 11 6 ((bi σ 11 6) + 1)) 11 7) * (Int64.ofNat 1103515245)) + (Int64.ofNat 12345)) / (Int64.ofNat 2147483648) * (Int64.ofNat 2147483648))) 11 7) / (Int64.ofNat 65536)) / (Int64.ofNat 10) * (Int64.ofNat 10)) (bL l1)) < 0 → ((l2 = 0 → (bRg (l3 + 1) ∧ A (2, [.ref 11, .int (bn l1), .int (bn l2), .int (bn (l3 + 1))], [], (bwj (bw σ 11 6 ((bi σ 11 6) + 1)) 11 7 ((((bj (bw σ 11 6 ((bi σ 11 6) + 1)) 11 7) * (Int64.ofNat 1103515245)) + (Int64.ofNat 12345)) - (((bj (bw σ 11 6 ((bi σ 11 6) + 1)) 11 7) * (Int64.ofNat 1103515245)) + (Int64.ofNat 12345)) / (Int64.ofNat 2147483648) * (Int64.ofNat 2147483648)))))) ∧ (¬ l2 = 0 → ((l3 = 0 → Q (.inl (some (.int (bn 0)))) (bwj (bw σ 11 6 ((bi σ 11 6) + 1)) 11 7 ((((bj (bw σ 11 6 ((bi σ 11 6) + 1)) 11 7) * (Int64.ofNat 1103515245)) + (Int64.ofNat 12345)) - (((bj (bw σ 11 6 ((bi σ 11 6) + 1)) 11 7) * (Int64.ofNat 1103515245)) + (Int64.ofNat 12345)) / (Int64.ofNat 2147483648) * (Int64.ofNat 2147483648)))) ∧ (¬ l3 = 0 → Q (.inl (some (.int (bn 1)))) (bwj (bw σ 11 6 ((bi σ 11 6) + 1)) 11 7 ((((bj (bw σ 11 6 ((bi σ 11 6) + 1)) 11 7) * (Int64.ofNat 1103515245)) + (Int64.ofNat 12345)) - (((bj (bw σ 11 6 ((bi σ 11 6) + 1)) 11 7) * (Int64.ofNat 1103515245)) + (Int64.ofNat 12345)) / (Int64.ofNat 2147483648) * (Int64.ofNat 2147483648))))))))))) ∧ (¬ l3 < 3 → Q (.inl (some (.int (bn 2)))) σ))) : A (2, [.ref 11, .int (bn l1), .int (bn l2), .int (bn l3)], [], σ) := by
  refine bGo hA 0 2 (2, .iload_n 3, 1, 3, 0, [3], []) rfl rfl rfl ?_
  refine bGo hA 0 3 (3, .iconst (3), 1, 4, 0, [], [(3, 0)]) rfl rfl rfl ?_
  refine bEqI bl_3 ?_
  refine bGo hA 0 4 (4, .if_icmp .ge (71), 3, 5, 41, [], []) rfl rfl rfl ?_
  refine bB_lt (x := l3) (y := 3) h_l3 (by decide : bRg 3) (fun c1 => ?_) (fun c1 => ?_)
  · refine bGo hA 0 5 (7, .aload_n 0, 1, 6, 0, [0], []) rfl rfl rfl ?_
    refine bGo hA 0 6 (8, .dup, 1, 7, 0, [], []) rfl rfl rfl ?_
    refine bGo hA 0 7 (9, .getfield 274, 3, 8, 0, [11, 6, 0, 0, 0, 0], []) rfl rfl rfl ?_
    refine ⟨rfl, ?_⟩
    refine bEqI (bn_bi σ 11 6) ?_
    refine bGo hA 0 8 (12, .iconst (1), 1, 9, 0, [], [(1, 0)]) rfl rfl rfl ?_
    refine bEqI bl_1 ?_
    refine bGo hA 0 9 (13, .iadd, 1, 10, 0, [], []) rfl rfl rfl ?_
    refine bEqI (bn_add (bi σ 11 6) 1) ?_
    refine bGo hA 0 10 (14, .putfield 274, 3, 11, 0, [11, 6, 0, 0, 0, 0], []) rfl rfl rfl ?_
    refine ⟨rfl, ?_⟩
    refine bGo hA 0 11 (17, .aload_n 0, 1, 12, 0, [0], []) rfl rfl rfl ?_
    refine bGo hA 0 12 (18, .aload_n 0, 1, 13, 0, [0], []) rfl rfl rfl ?_
    refine bGo hA 0 13 (19, .getfield 55, 3, 14, 0, [11, 7, 2, 0, 0, 0], []) rfl rfl rfl ?_
    refine ⟨rfl, ?_⟩
    refine bGo hA 0 14 (22, .ldc2_w 301, 3, 15, 0, [1103515245], []) rfl rfl rfl ?_
    refine bGo hA 0 15 (25, .lmul, 1, 16, 0, [], []) rfl rfl rfl ?_
    refine bGo hA 1 0 (26, .ldc2_w 303, 3, 17, 0, [12345], []) rfl rfl rfl ?_
    refine bGo hA 1 1 (29, .ladd, 1, 18, 0, [], []) rfl rfl rfl ?_
    refine bGo hA 1 2 (30, .ldc2_w 305, 3, 19, 0, [2147483648], []) rfl rfl rfl ?_
    refine bGo hA 1 3 (33, .lrem, 1, 20, 0, [], []) rfl rfl rfl ?_
    refine ⟨by decide, ?_⟩
    refine bGo hA 1 4 (34, .putfield 55, 3, 21, 0, [11, 7, 2, 0, 0, 0], []) rfl rfl rfl ?_
    refine ⟨rfl, ?_⟩
    refine bGo hA 1 5 (37, .aload_n 0, 1, 22, 0, [0], []) rfl rfl rfl ?_
    refine bGo hA 1 6 (38, .getfield 55, 3, 23, 0, [11, 7, 2, 0, 0, 0], []) rfl rfl rfl ?_
    refine ⟨rfl, ?_⟩
    refine bGo hA 1 7 (41, .ldc2_w 307, 3, 24, 0, [65536], []) rfl rfl rfl ?_
    refine bGo hA 1 8 (44, .ldiv, 1, 25, 0, [], []) rfl rfl rfl ?_
    refine ⟨by decide, ?_⟩
    refine bGo hA 1 9 (45, .ldc2_w 309, 3, 26, 0, [10], []) rfl rfl rfl ?_
    refine bGo hA 1 10 (48, .lrem, 1, 27, 0, [], []) rfl rfl rfl ?_
    refine ⟨by decide, ?_⟩
    refine bGo hA 1 11 (49, .iload_n 1, 1, 28, 0, [1], []) rfl rfl rfl ?_
    refine bGo hA 1 12 (50, .i2l, 1, 29, 0, [], []) rfl rfl rfl ?_
    refine bGo hA 1 13 (51, .lcmp, 1, 30, 0, [], []) rfl rfl rfl ?_
    refine bEqI (bn_cmp (((bj (bwj (bw σ 11 6 ((bi σ 11 6) + 1)) 11 7 ((((bj (bw σ 11 6 ((bi σ 11 6) + 1)) 11 7) * (Int64.ofNat 1103515245)) + (Int64.ofNat 12345)) - (((bj (bw σ 11 6 ((bi σ 11 6) + 1)) 11 7) * (Int64.ofNat 1103515245)) + (Int64.ofNat 12345)) / (Int64.ofNat 2147483648) * (Int64.ofNat 2147483648))) 11 7) / (Int64.ofNat 65536)) - ((bj (bwj (bw σ 11 6 ((bi σ 11 6) + 1)) 11 7 ((((bj (bw σ 11 6 ((bi σ 11 6) + 1)) 11 7) * (Int64.ofNat 1103515245)) + (Int64.ofNat 12345)) - (((bj (bw σ 11 6 ((bi σ 11 6) + 1)) 11 7) * (Int64.ofNat 1103515245)) + (Int64.ofNat 12345)) / (Int64.ofNat 2147483648) * (Int64.ofNat 2147483648))) 11 7) / (Int64.ofNat 65536)) / (Int64.ofNat 10) * (Int64.ofNat 10)) (bL l1)) ?_
    refine bGo hA 1 14 (52, .ifCond .lt (17), 3, 31, 39, [], []) rfl rfl rfl ?_
    refine bB_lt0 (x := (bCmp (((bj (bwj (bw σ 11 6 ((bi σ 11 6) + 1)) 11 7 ((((bj (bw σ 11 6 ((bi σ 11 6) + 1)) 11 7) * (Int64.ofNat 1103515245)) + (Int64.ofNat 12345)) - (((bj (bw σ 11 6 ((bi σ 11 6) + 1)) 11 7) * (Int64.ofNat 1103515245)) + (Int64.ofNat 12345)) / (Int64.ofNat 2147483648) * (Int64.ofNat 2147483648))) 11 7) / (Int64.ofNat 65536)) - ((bj (bwj (bw σ 11 6 ((bi σ 11 6) + 1)) 11 7 ((((bj (bw σ 11 6 ((bi σ 11 6) + 1)) 11 7) * (Int64.ofNat 1103515245)) + (Int64.ofNat 12345)) - (((bj (bw σ 11 6 ((bi σ 11 6) + 1)) 11 7) * (Int64.ofNat 1103515245)) + (Int64.ofNat 12345)) / (Int64.ofNat 2147483648) * (Int64.ofNat 2147483648))) 11 7) / (Int64.ofNat 65536)) / (Int64.ofNat 10) * (Int64.ofNat 10)) (bL l1))) (bRgI _) (fun c2 => ?_) (fun c2 => ?_)
    · refine bGo hA 2 7 (69, .iinc 3 (1), 3, 40, 0, [3], [(1, 0)]) rfl rfl rfl ?_
      refine bEqC (fun v => A (40, [.ref 11, .int (bn l1), .int (bn l2), .int v], [], (bwj (bw σ 11 6 ((bi σ 11 6) + 1)) 11 7 ((((bj (bw σ 11 6 ((bi σ 11 6) + 1)) 11 7) * (Int64.ofNat 1103515245)) + (Int64.ofNat 12345)) - (((bj (bw σ 11 6 ((bi σ 11 6) + 1)) 11 7) * (Int64.ofNat 1103515245)) + (Int64.ofNat 12345)) / (Int64.ofNat 2147483648) * (Int64.ofNat 2147483648))))) ((congrArg (fun w => bn l3 + w) bl_1).trans (bn_add l3 1)) ?_
      refine bGo hA 2 8 (72, .goto (-70), 3, 41, 2, [], []) rfl rfl rfl ?_
      exact ((h.1 c1).2.1 c2).2
    · refine bGo hA 1 15 (55, .iload_n 2, 1, 32, 0, [2], []) rfl rfl rfl ?_
      refine bGo hA 2 0 (56, .ifCond .eq (13), 3, 33, 39, [], []) rfl rfl rfl ?_
      refine bB_eq0 (x := l2) h_l2 (fun c3 => ?_) (fun c3 => ?_)
      · refine bGo hA 2 7 (69, .iinc 3 (1), 3, 40, 0, [3], [(1, 0)]) rfl rfl rfl ?_
        refine bEqC (fun v => A (40, [.ref 11, .int (bn l1), .int (bn l2), .int v], [], (bwj (bw σ 11 6 ((bi σ 11 6) + 1)) 11 7 ((((bj (bw σ 11 6 ((bi σ 11 6) + 1)) 11 7) * (Int64.ofNat 1103515245)) + (Int64.ofNat 12345)) - (((bj (bw σ 11 6 ((bi σ 11 6) + 1)) 11 7) * (Int64.ofNat 1103515245)) + (Int64.ofNat 12345)) / (Int64.ofNat 2147483648) * (Int64.ofNat 2147483648))))) ((congrArg (fun w => bn l3 + w) bl_1).trans (bn_add l3 1)) ?_
        refine bGo hA 2 8 (72, .goto (-70), 3, 41, 2, [], []) rfl rfl rfl ?_
        exact (((h.1 c1).2.2 c2).1 c3).2
      · refine bGo hA 2 1 (59, .iload_n 3, 1, 34, 0, [3], []) rfl rfl rfl ?_
        refine bGo hA 2 2 (60, .ifCond .ne (7), 3, 35, 37, [], []) rfl rfl rfl ?_
        refine bB_eq0 (x := l3) h_l3 (fun c4 => ?_) (fun c4 => ?_)
        · refine bGo hA 2 3 (63, .iconst (0), 1, 36, 0, [], [(0, 0)]) rfl rfl rfl ?_
          refine bEqI bl_0 ?_
          refine bGo hA 2 4 (64, .goto (4), 3, 37, 38, [], []) rfl rfl rfl ?_
          refine bGo hA 2 6 (68, .ireturn, 1, 39, 0, [1], []) rfl rfl rfl ?_
          exact ((((h.1 c1).2.2 c2).2 c3).1 c4)
        · refine bGo hA 2 5 (67, .iconst (1), 1, 38, 0, [], [(1, 0)]) rfl rfl rfl ?_
          refine bEqI bl_1 ?_
          refine bGo hA 2 6 (68, .ireturn, 1, 39, 0, [1], []) rfl rfl rfl ?_
          exact ((((h.1 c1).2.2 c2).2 c3).2 c4)
  · refine bGo hA 2 9 (75, .iconst (2), 1, 42, 0, [], [(2, 0)]) rfl rfl rfl ?_
    refine bEqI bl_2 ?_
    refine bGo hA 2 10 (76, .ireturn, 1, 0, 0, [1], []) rfl rfl rfl ?_
    exact (h.2 c1)

theorem sq304_0 {lvl : Nat} {C : bCall} {Q : bPost} {A : bPt → Prop} (hC : bMono C) (hA : bClosed lvl bm304 C Q A) {x1 : Int} {σ : bSt}  (h_x1 : bRg x1)
  (h : (C 225 [.ref 12, .int (bn x1)] σ (bRn (fun r3 s1 => ((r3 = 0 → A (42, [.ref 12, .int (bn x1), .int (bn r3), .int (bn 0), .int (bn 0), .float 0, .float 0, .float 0, .float 0], [], s1)) ∧ (¬ r3 = 0 → ((0 ≤ x1 ∧ x1 < 16) ∧ (((0 : Int) < (bi s1 92 x1) → (C 241 [.ref 12, .int (bn (bShl 1 x1))] s1 (bRv (fun s9 => (C 284 [.ref 12, .int (bn (bShl 1 x1))] s9 (bRn (fun r13 s11 => ((r13 = 0 → (C 283 [.ref 12, .int (bn (bShl 1 x1))] s11 (bRn (fun r18 s16 => ((r18 = 0 → A (42, [.ref 12, .int (bn x1), .int (bn r3), .int (bn r13), .int (bn 0), .float 0, .float 0, .float 0, .float 0], [], s16)) ∧ (¬ r18 = 0 → A (42, [.ref 12, .int (bn x1), .int (bn r3), .int (bn r13), .int (bn 1), .float 0, .float 0, .float 0, .float 0], [], s16))))))) ∧ (¬ r13 = 0 → A (42, [.ref 12, .int (bn x1), .int (bn r3), .int (bn r13), .int (bn 1), .float 0, .float 0, .float 0, .float 0], [], s11)))))))))) ∧ (¬ (0 : Int) < (bi s1 92 x1) → A (42, [.ref 12, .int (bn x1), .int (bn r3), .int (bn 0), .int (bn 0), .float 0, .float 0, .float 0, .float 0], [], s1)))))))))) : A (0, [.ref 12, .int (bn x1), .float 0, .float 0, .float 0, .float 0, .float 0, .float 0, .float 0], [], σ) := by
  refine bGo hA 0 0 (0, .aload_n 0, 1, 1, 0, [0], []) rfl rfl rfl ?_
  refine bGo hA 0 1 (1, .iload_n 1, 1, 2, 0, [1], []) rfl rfl rfl ?_
  refine bGo hA 0 2 (2, .invokevirtual 383, 3, 3, 0, [0, 12, 225, 1], []) rfl rfl rfl ?_
  refine ⟨rfl, ?_⟩
  refine hC _ _ _ _ _ (bRn_e (fun r3 s1 q4 k2 => ?_)) h
  show A (3, [.ref 12, .int (bn x1), .float 0, .float 0, .float 0, .float 0, .float 0, .float 0, .float 0], [.int (bn r3)], s1)
  refine bGo hA 0 3 (5, .istore_n 2, 1, 4, 0, [2], []) rfl rfl rfl ?_
  refine bGo hA 0 4 (6, .iconst (0), 1, 5, 0, [], [(0, 0)]) rfl rfl rfl ?_
  refine bEqI bl_0 ?_
  refine bGo hA 0 5 (7, .istore_n 3, 1, 6, 0, [3], []) rfl rfl rfl ?_
  refine bGo hA 0 6 (8, .iload_n 2, 1, 7, 0, [2], []) rfl rfl rfl ?_
  refine bGo hA 0 7 (9, .ifCond .eq (16), 3, 8, 15, [], []) rfl rfl rfl ?_
  refine bB_eq0 (x := r3) q4 (fun c5 => ?_) (fun c5 => ?_)
  · refine bGo hA 0 15 (25, .iconst (0), 1, 16, 0, [], [(0, 0)]) rfl rfl rfl ?_
    refine bEqI bl_0 ?_
    refine bGo hA 1 0 (26, .istore 4, 2, 17, 0, [4], []) rfl rfl rfl ?_
    refine bGo hA 1 1 (28, .iload 4, 2, 18, 0, [4], []) rfl rfl rfl ?_
    refine bGo hA 1 2 (30, .ifCond .eq (39), 3, 19, 42, [], []) rfl rfl rfl ?_
    refine ⟨fun _ => ?_, fun c => absurd (by decide) c⟩
    exact (k2.1 c5)
  · refine bGo hA 0 8 (12, .aload_n 0, 1, 9, 0, [0], []) rfl rfl rfl ?_
    refine bGo hA 0 9 (13, .getfield 119, 3, 10, 0, [12, 40, 3, 92, 1, 0], []) rfl rfl rfl ?_
    refine ⟨rfl, ?_⟩
    refine bGo hA 0 10 (16, .iload_n 1, 1, 11, 0, [1], []) rfl rfl rfl ?_
    refine bGo hA 0 11 (17, .iaload, 1, 12, 0, [], []) rfl rfl rfl ?_
    refine ⟨rfl, (bIxP (x := x1) (n := 16) h_x1 (k2.2 c5).1), ?_⟩
    refine bEqL (x := x1) h_x1 ?_
    refine bGo hA 0 12 (18, .ifCond .le (7), 3, 13, 15, [], []) rfl rfl rfl ?_
    refine bB_gt0 (x := (bi s1 92 x1)) (bi_rg _ _ _) (fun c7 => ?_) (fun c7 => ?_)
    · refine bGo hA 0 13 (21, .iconst (1), 1, 14, 0, [], [(1, 0)]) rfl rfl rfl ?_
      refine bEqI bl_1 ?_
      refine bGo hA 0 14 (22, .goto (4), 3, 15, 16, [], []) rfl rfl rfl ?_
      refine bGo hA 1 0 (26, .istore 4, 2, 17, 0, [4], []) rfl rfl rfl ?_
      refine bGo hA 1 1 (28, .iload 4, 2, 18, 0, [4], []) rfl rfl rfl ?_
      refine bGo hA 1 2 (30, .ifCond .eq (39), 3, 19, 42, [], []) rfl rfl rfl ?_
      refine ⟨fun c => absurd c (by decide), fun _ => ?_⟩
      refine bGo hA 1 3 (33, .aload_n 0, 1, 20, 0, [0], []) rfl rfl rfl ?_
      refine bGo hA 1 4 (34, .iconst (1), 1, 21, 0, [], [(1, 0)]) rfl rfl rfl ?_
      refine bEqI bl_1 ?_
      refine bGo hA 1 5 (35, .iload_n 1, 1, 22, 0, [1], []) rfl rfl rfl ?_
      refine bGo hA 1 6 (36, .ishl, 1, 23, 0, [], []) rfl rfl rfl ?_
      refine bEqI (bn_shl 1 x1) ?_
      refine bGo hA 1 7 (37, .invokevirtual 407, 3, 24, 0, [0, 12, 241, 1], []) rfl rfl rfl ?_
      refine ⟨rfl, ?_⟩
      refine hC _ _ _ _ _ (bRv_e (fun s9 k10 => ?_)) ((k2.2 c5).2.1 c7)
      show A (24, [.ref 12, .int (bn x1), .int (bn r3), .int (bn 0), .int (bn 1), .float 0, .float 0, .float 0, .float 0], [], s9)
      refine bGo hA 1 8 (40, .aload_n 0, 1, 25, 0, [0], []) rfl rfl rfl ?_
      refine bGo hA 1 9 (41, .iconst (1), 1, 26, 0, [], [(1, 0)]) rfl rfl rfl ?_
      refine bEqI bl_1 ?_
      refine bGo hA 1 10 (42, .iload_n 1, 1, 27, 0, [1], []) rfl rfl rfl ?_
      refine bGo hA 1 11 (43, .ishl, 1, 28, 0, [], []) rfl rfl rfl ?_
      refine bEqI (bn_shl 1 x1) ?_
      refine bGo hA 1 12 (44, .invokevirtual 489, 3, 29, 0, [0, 12, 284, 1], []) rfl rfl rfl ?_
      refine ⟨rfl, ?_⟩
      refine hC _ _ _ _ _ (bRn_e (fun r13 s11 q14 k12 => ?_)) k10
      show A (29, [.ref 12, .int (bn x1), .int (bn r3), .int (bn 0), .int (bn 1), .float 0, .float 0, .float 0, .float 0], [.int (bn r13)], s11)
      refine bGo hA 1 13 (47, .istore_n 3, 1, 30, 0, [3], []) rfl rfl rfl ?_
      refine bGo hA 1 14 (48, .iload_n 3, 1, 31, 0, [3], []) rfl rfl rfl ?_
      refine bGo hA 1 15 (49, .ifCond .ne (13), 3, 32, 38, [], []) rfl rfl rfl ?_
      refine bB_eq0 (x := r13) q14 (fun c15 => ?_) (fun c15 => ?_)
      · refine bGo hA 2 0 (52, .aload_n 0, 1, 33, 0, [0], []) rfl rfl rfl ?_
        refine bGo hA 2 1 (53, .iconst (1), 1, 34, 0, [], [(1, 0)]) rfl rfl rfl ?_
        refine bEqI bl_1 ?_
        refine bGo hA 2 2 (54, .iload_n 1, 1, 35, 0, [1], []) rfl rfl rfl ?_
        refine bGo hA 2 3 (55, .ishl, 1, 36, 0, [], []) rfl rfl rfl ?_
        refine bEqI (bn_shl 1 x1) ?_
        refine bGo hA 2 4 (56, .invokevirtual 492, 3, 37, 0, [0, 12, 283, 1], []) rfl rfl rfl ?_
        refine ⟨rfl, ?_⟩
        refine hC _ _ _ _ _ (bRn_e (fun r18 s16 q19 k17 => ?_)) (k12.1 c15)
        show A (37, [.ref 12, .int (bn x1), .int (bn r3), .int (bn r13), .int (bn 1), .float 0, .float 0, .float 0, .float 0], [.int (bn r18)], s16)
        refine bGo hA 2 5 (59, .ifCond .eq (7), 3, 38, 40, [], []) rfl rfl rfl ?_
        refine bB_eq0 (x := r18) q19 (fun c20 => ?_) (fun c20 => ?_)
        · refine bGo hA 2 8 (66, .iconst (0), 1, 41, 0, [], [(0, 0)]) rfl rfl rfl ?_
          refine bEqI bl_0 ?_
          refine bGo hA 2 9 (67, .istore 4, 2, 42, 0, [4], []) rfl rfl rfl ?_
          exact (k17.1 c20)
        · refine bGo hA 2 6 (62, .iconst (1), 1, 39, 0, [], [(1, 0)]) rfl rfl rfl ?_
          refine bEqI bl_1 ?_
          refine bGo hA 2 7 (63, .goto (4), 3, 40, 41, [], []) rfl rfl rfl ?_
          refine bGo hA 2 9 (67, .istore 4, 2, 42, 0, [4], []) rfl rfl rfl ?_
          exact (k17.2 c20)
      · refine bGo hA 2 6 (62, .iconst (1), 1, 39, 0, [], [(1, 0)]) rfl rfl rfl ?_
        refine bEqI bl_1 ?_
        refine bGo hA 2 7 (63, .goto (4), 3, 40, 41, [], []) rfl rfl rfl ?_
        refine bGo hA 2 9 (67, .istore 4, 2, 42, 0, [4], []) rfl rfl rfl ?_
        exact (k12.2 c15)
    · refine bGo hA 0 15 (25, .iconst (0), 1, 16, 0, [], [(0, 0)]) rfl rfl rfl ?_
      refine bEqI bl_0 ?_
      refine bGo hA 1 0 (26, .istore 4, 2, 17, 0, [4], []) rfl rfl rfl ?_
      refine bGo hA 1 1 (28, .iload 4, 2, 18, 0, [4], []) rfl rfl rfl ?_
      refine bGo hA 1 2 (30, .ifCond .eq (39), 3, 19, 42, [], []) rfl rfl rfl ?_
      refine ⟨fun _ => ?_, fun c => absurd (by decide) c⟩
      exact ((k2.2 c5).2.2 c7)

theorem sq304_42 {lvl : Nat} {C : bCall} {Q : bPost} {A : bPt → Prop} (hC : bMono C) (hA : bClosed lvl bm304 C Q A) {l1 : Int} {l2 : Int} {l3 : Int} {l4 : Int} {v5 : Value} {v6 : Value} {v7 : Value} {v8 : Value} {σ : bSt}  (h_l1 : bRg l1) (h_l2 : bRg l2) (h_l3 : bRg l3) (h_l4 : bRg l4)
  (h : ((l2 = 0 → (C 197 [.ref 12, .int (bn 1)] σ (bRn (fun r4 s2 => ((r4 = 0 → (C 286 [.ref 12, .int (bn (bShl 1 l1)), .int (bn l3), .int (bn 0), .int (bn 0)] (bw s2 12 111 0) (bRn (fun r9 s7 => ((r9 = 1 → (bRg (256 * l1) ∧ (C 238 [.ref 12] s7 (bRn (fun r14 s12 => (bRg ((256 * l1) + r14) ∧ ((0 ≤ ((256 * l1) + r14) ∧ ((256 * l1) + r14) < 4096) ∧ ((0 ≤ (bi s12 99 ((256 * l1) + r14)) ∧ (bi s12 99 ((256 * l1) + r14)) < 120) ∧ A (90, [.ref 12, .int (bn l1), .int (bn l2), .int (bn l3), .int (bn l4), .int (bn r9), .int (bn (bi s12 112 (bi s12 99 ((256 * l1) + r14)))), .int (bn 0), .int (bn 0)], [], s12))))))))) ∧ (¬ r9 = 1 → Q (.inl (some (.int (bn (-1))))) s7)))))) ∧ (¬ r4 = 0 → Q (.inl (some (.int (bn 0)))) s2)))))) ∧ (¬ l2 = 0 → ((l4 = 0 → (C 197 [.ref 12, .int (bn 2)] σ (bRn (fun r19 s17 => ((r19 = 0 → (C 286 [.ref 12, .int (bn (bShl 1 l1)), .int (bn l3), .int (bn 0), .int (bn 0)] (bw s17 12 111 0) (bRn (fun r24 s22 => ((r24 = 1 → (bRg (256 * l1) ∧ (C 238 [.ref 12] s22 (bRn (fun r29 s27 => (bRg ((256 * l1) + r29) ∧ ((0 ≤ ((256 * l1) + r29) ∧ ((256 * l1) + r29) < 4096) ∧ ((0 ≤ (bi s27 99 ((256 * l1) + r29)) ∧ (bi s27 99 ((256 * l1) + r29)) < 120) ∧ A (90, [.ref 12, .int (bn l1), .int (bn l2), .int (bn l3), .int (bn l4), .int (bn r24), .int (bn (bi s27 112 (bi s27 99 ((256 * l1) + r29)))), .int (bn 0), .int (bn 0)], [], s27))))))))) ∧ (¬ r24 = 1 → Q (.inl (some (.int (bn (-1))))) s22)))))) ∧ (¬ r19 = 0 → Q (.inl (some (.int (bn 0)))) s17)))))) ∧ (¬ l4 = 0 → (C 197 [.ref 12, .int (bn 0)] σ (bRn (fun r33 s31 => ((r33 = 0 → (C 286 [.ref 12, .int (bn (bShl 1 l1)), .int (bn l3), .int (bn 0), .int (bn 0)] (bw s31 12 111 0) (bRn (fun r38 s36 => ((r38 = 1 → (bRg (256 * l1) ∧ (C 238 [.ref 12] s36 (bRn (fun r43 s41 => (bRg ((256 * l1) + r43) ∧ ((0 ≤ ((256 * l1) + r43) ∧ ((256 * l1) + r43) < 4096) ∧ ((0 ≤ (bi s41 99 ((256 * l1) + r43)) ∧ (bi s41 99 ((256 * l1) + r43)) < 120) ∧ A (90, [.ref 12, .int (bn l1), .int (bn l2), .int (bn l3), .int (bn l4), .int (bn r38), .int (bn (bi s41 112 (bi s41 99 ((256 * l1) + r43)))), .int (bn 0), .int (bn 0)], [], s41))))))))) ∧ (¬ r38 = 1 → Q (.inl (some (.int (bn (-1))))) s36)))))) ∧ (¬ r33 = 0 → Q (.inl (some (.int (bn 0)))) s31)))))))))) : A (42, [.ref 12, .int (bn l1), .int (bn l2), .int (bn l3), .int (bn l4), v5, v6, v7, v8], [], σ) := by
  refine bGo hA 2 10 (69, .aload_n 0, 1, 43, 0, [0], []) rfl rfl rfl ?_
  refine bGo hA 2 11 (70, .iload_n 2, 1, 44, 0, [2], []) rfl rfl rfl ?_
  refine bGo hA 2 12 (71, .ifCond .ne (7), 3, 45, 47, [], []) rfl rfl rfl ?_
  refine bB_eq0 (x := l2) h_l2 (fun c1 => ?_) (fun c1 => ?_)
  · refine bGo hA 2 13 (74, .iconst (1), 1, 46, 0, [], [(1, 0)]) rfl rfl rfl ?_
    refine bEqI bl_1 ?_
    refine bGo hA 2 14 (75, .goto (13), 3, 47, 52, [], []) rfl rfl rfl ?_
    refine bGo hA 3 4 (88, .invokevirtual 333, 3, 53, 0, [0, 12, 197, 1], []) rfl rfl rfl ?_
    refine ⟨rfl, ?_⟩
    refine hC _ _ _ _ _ (bRn_e (fun r4 s2 q5 k3 => ?_)) (h.1 c1)
    show A (53, [.ref 12, .int (bn l1), .int (bn l2), .int (bn l3), .int (bn l4), v5, v6, v7, v8], [.int (bn r4)], s2)
    refine bGo hA 3 5 (91, .ifCond .eq (5), 3, 54, 56, [], []) rfl rfl rfl ?_
    refine bB_eq0 (x := r4) q5 (fun c6 => ?_) (fun c6 => ?_)
    · refine bGo hA 3 8 (96, .aload_n 0, 1, 57, 0, [0], []) rfl rfl rfl ?_
      refine bGo hA 3 9 (97, .iconst (0), 1, 58, 0, [], [(0, 0)]) rfl rfl rfl ?_
      refine bEqI bl_0 ?_
      refine bGo hA 3 10 (98, .putfield 569, 3, 59, 0, [12, 111, 0, 0, 0, 0], []) rfl rfl rfl ?_
      refine ⟨rfl, ?_⟩
      refine bGo hA 3 11 (101, .aload_n 0, 1, 60, 0, [0], []) rfl rfl rfl ?_
      refine bGo hA 3 12 (102, .iconst (1), 1, 61, 0, [], [(1, 0)]) rfl rfl rfl ?_
      refine bEqI bl_1 ?_
      refine bGo hA 3 13 (103, .iload_n 1, 1, 62, 0, [1], []) rfl rfl rfl ?_
      refine bGo hA 3 14 (104, .ishl, 1, 63, 0, [], []) rfl rfl rfl ?_
      refine bEqI (bn_shl 1 l1) ?_
      refine bGo hA 3 15 (105, .iload_n 3, 1, 64, 0, [3], []) rfl rfl rfl ?_
      refine bGo hA 4 0 (106, .iconst (0), 1, 65, 0, [], [(0, 0)]) rfl rfl rfl ?_
      refine bEqI bl_0 ?_
      refine bGo hA 4 1 (107, .iconst (0), 1, 66, 0, [], [(0, 0)]) rfl rfl rfl ?_
      refine bEqI bl_0 ?_
      refine bGo hA 4 2 (108, .invokevirtual 495, 3, 67, 0, [0, 12, 286, 4], []) rfl rfl rfl ?_
      refine ⟨rfl, ?_⟩
      refine hC _ _ _ _ _ (bRn_e (fun r9 s7 q10 k8 => ?_)) (k3.1 c6)
      show A (67, [.ref 12, .int (bn l1), .int (bn l2), .int (bn l3), .int (bn l4), v5, v6, v7, v8], [.int (bn r9)], s7)
      refine bGo hA 4 3 (111, .istore 5, 2, 68, 0, [5], []) rfl rfl rfl ?_
      refine bGo hA 4 4 (113, .iload 5, 2, 69, 0, [5], []) rfl rfl rfl ?_
      refine bGo hA 4 5 (115, .iconst (1), 1, 70, 0, [], [(1, 0)]) rfl rfl rfl ?_
      refine bEqI bl_1 ?_
      refine bGo hA 4 6 (116, .if_icmp .eq (5), 3, 71, 73, [], []) rfl rfl rfl ?_
      refine bB_eq (x := r9) (y := 1) q10 (by decide : bRg 1) (fun c11 => ?_) (fun c11 => ?_)
      · refine bGo hA 4 9 (121, .aload_n 0, 1, 74, 0, [0], []) rfl rfl rfl ?_
        refine bGo hA 4 10 (122, .getfield 179, 3, 75, 0, [12, 61, 3, 112, 1, 0], []) rfl rfl rfl ?_
        refine ⟨rfl, ?_⟩
        refine bGo hA 4 11 (125, .aload_n 0, 1, 76, 0, [0], []) rfl rfl rfl ?_
        refine bGo hA 4 12 (126, .getfield 140, 3, 77, 0, [12, 47, 3, 99, 1, 0], []) rfl rfl rfl ?_
        refine ⟨rfl, ?_⟩
        refine bGo hA 4 13 (129, .sipush (256), 3, 78, 0, [], [(256, 0)]) rfl rfl rfl ?_
        refine bEqI bl_256 ?_
        refine bGo hA 4 14 (132, .iload_n 1, 1, 79, 0, [1], []) rfl rfl rfl ?_
        refine bGo hA 4 15 (133, .imul, 1, 80, 0, [], []) rfl rfl rfl ?_
        refine bEqI (bn_mul 256 l1) ?_
        refine bGo hA 5 0 (134, .aload_n 0, 1, 81, 0, [0], []) rfl rfl rfl ?_
        refine bGo hA 5 1 (135, .invokevirtual 394, 3, 82, 0, [0, 12, 238, 0], []) rfl rfl rfl ?_
        refine ⟨rfl, ?_⟩
        refine hC _ _ _ _ _ (bRn_e (fun r14 s12 q15 k13 => ?_)) (k8.1 c11).2
        show A (82, [.ref 12, .int (bn l1), .int (bn l2), .int (bn l3), .int (bn l4), .int (bn r9), v6, v7, v8], [.int (bn r14), .int (bn (256 * l1)), .ref 99, .ref 112], s12)
        refine bGo hA 5 2 (138, .iadd, 1, 83, 0, [], []) rfl rfl rfl ?_
        refine bEqI (bn_add (256 * l1) r14) ?_
        refine bGo hA 5 3 (139, .iaload, 1, 84, 0, [], []) rfl rfl rfl ?_
        refine ⟨rfl, (bIxP (x := ((256 * l1) + r14)) (n := 4096) k13.1 k13.2.1), ?_⟩
        refine bEqL (x := ((256 * l1) + r14)) k13.1 ?_
        refine bGo hA 5 4 (140, .iaload, 1, 85, 0, [], []) rfl rfl rfl ?_
        refine ⟨rfl, (bIxP (x := (bi s12 99 ((256 * l1) + r14))) (n := 120) (bi_rg _ _ _) k13.2.2.1), ?_⟩
        refine bEqL (x := (bi s12 99 ((256 * l1) + r14))) (bi_rg _ _ _) ?_
        refine bGo hA 5 5 (141, .istore 6, 2, 86, 0, [6], []) rfl rfl rfl ?_
        refine bGo hA 5 6 (143, .iconst (0), 1, 87, 0, [], [(0, 0)]) rfl rfl rfl ?_
        refine bEqI bl_0 ?_
        refine bGo hA 5 7 (144, .istore 7, 2, 88, 0, [7], []) rfl rfl rfl ?_
        refine bGo hA 5 8 (146, .iconst (0), 1, 89, 0, [], [(0, 0)]) rfl rfl rfl ?_
        refine bEqI bl_0 ?_
        refine bGo hA 5 9 (147, .istore 8, 2, 90, 0, [8], []) rfl rfl rfl ?_
        exact k13.2.2.2
      · refine bGo hA 4 7 (119, .iconst (-1), 1, 72, 0, [], [(-1, 0)]) rfl rfl rfl ?_
        refine bEqI bl_m1 ?_
        refine bGo hA 4 8 (120, .ireturn, 1, 73, 0, [1], []) rfl rfl rfl ?_
        exact (k8.2 c11)
    · refine bGo hA 3 6 (94, .iconst (0), 1, 55, 0, [], [(0, 0)]) rfl rfl rfl ?_
      refine bEqI bl_0 ?_
      refine bGo hA 3 7 (95, .ireturn, 1, 56, 0, [1], []) rfl rfl rfl ?_
      exact (k3.2 c6)
  · refine bGo hA 2 15 (78, .iload 4, 2, 48, 0, [4], []) rfl rfl rfl ?_
    refine bGo hA 3 0 (80, .ifCond .eq (7), 3, 49, 51, [], []) rfl rfl rfl ?_
    refine bB_eq0 (x := l4) h_l4 (fun c16 => ?_) (fun c16 => ?_)
    · refine bGo hA 3 3 (87, .iconst (2), 1, 52, 0, [], [(2, 0)]) rfl rfl rfl ?_
      refine bEqI bl_2 ?_
      refine bGo hA 3 4 (88, .invokevirtual 333, 3, 53, 0, [0, 12, 197, 1], []) rfl rfl rfl ?_
      refine ⟨rfl, ?_⟩
      refine hC _ _ _ _ _ (bRn_e (fun r19 s17 q20 k18 => ?_)) ((h.2 c1).1 c16)
      show A (53, [.ref 12, .int (bn l1), .int (bn l2), .int (bn l3), .int (bn l4), v5, v6, v7, v8], [.int (bn r19)], s17)
      refine bGo hA 3 5 (91, .ifCond .eq (5), 3, 54, 56, [], []) rfl rfl rfl ?_
      refine bB_eq0 (x := r19) q20 (fun c21 => ?_) (fun c21 => ?_)
      · refine bGo hA 3 8 (96, .aload_n 0, 1, 57, 0, [0], []) rfl rfl rfl ?_
        refine bGo hA 3 9 (97, .iconst (0), 1, 58, 0, [], [(0, 0)]) rfl rfl rfl ?_
        refine bEqI bl_0 ?_
        refine bGo hA 3 10 (98, .putfield 569, 3, 59, 0, [12, 111, 0, 0, 0, 0], []) rfl rfl rfl ?_
        refine ⟨rfl, ?_⟩
        refine bGo hA 3 11 (101, .aload_n 0, 1, 60, 0, [0], []) rfl rfl rfl ?_
        refine bGo hA 3 12 (102, .iconst (1), 1, 61, 0, [], [(1, 0)]) rfl rfl rfl ?_
        refine bEqI bl_1 ?_
        refine bGo hA 3 13 (103, .iload_n 1, 1, 62, 0, [1], []) rfl rfl rfl ?_
        refine bGo hA 3 14 (104, .ishl, 1, 63, 0, [], []) rfl rfl rfl ?_
        refine bEqI (bn_shl 1 l1) ?_
        refine bGo hA 3 15 (105, .iload_n 3, 1, 64, 0, [3], []) rfl rfl rfl ?_
        refine bGo hA 4 0 (106, .iconst (0), 1, 65, 0, [], [(0, 0)]) rfl rfl rfl ?_
        refine bEqI bl_0 ?_
        refine bGo hA 4 1 (107, .iconst (0), 1, 66, 0, [], [(0, 0)]) rfl rfl rfl ?_
        refine bEqI bl_0 ?_
        refine bGo hA 4 2 (108, .invokevirtual 495, 3, 67, 0, [0, 12, 286, 4], []) rfl rfl rfl ?_
        refine ⟨rfl, ?_⟩
        refine hC _ _ _ _ _ (bRn_e (fun r24 s22 q25 k23 => ?_)) (k18.1 c21)
        show A (67, [.ref 12, .int (bn l1), .int (bn l2), .int (bn l3), .int (bn l4), v5, v6, v7, v8], [.int (bn r24)], s22)
        refine bGo hA 4 3 (111, .istore 5, 2, 68, 0, [5], []) rfl rfl rfl ?_
        refine bGo hA 4 4 (113, .iload 5, 2, 69, 0, [5], []) rfl rfl rfl ?_
        refine bGo hA 4 5 (115, .iconst (1), 1, 70, 0, [], [(1, 0)]) rfl rfl rfl ?_
        refine bEqI bl_1 ?_
        refine bGo hA 4 6 (116, .if_icmp .eq (5), 3, 71, 73, [], []) rfl rfl rfl ?_
        refine bB_eq (x := r24) (y := 1) q25 (by decide : bRg 1) (fun c26 => ?_) (fun c26 => ?_)
        · refine bGo hA 4 9 (121, .aload_n 0, 1, 74, 0, [0], []) rfl rfl rfl ?_
          refine bGo hA 4 10 (122, .getfield 179, 3, 75, 0, [12, 61, 3, 112, 1, 0], []) rfl rfl rfl ?_
          refine ⟨rfl, ?_⟩
          refine bGo hA 4 11 (125, .aload_n 0, 1, 76, 0, [0], []) rfl rfl rfl ?_
          refine bGo hA 4 12 (126, .getfield 140, 3, 77, 0, [12, 47, 3, 99, 1, 0], []) rfl rfl rfl ?_
          refine ⟨rfl, ?_⟩
          refine bGo hA 4 13 (129, .sipush (256), 3, 78, 0, [], [(256, 0)]) rfl rfl rfl ?_
          refine bEqI bl_256 ?_
          refine bGo hA 4 14 (132, .iload_n 1, 1, 79, 0, [1], []) rfl rfl rfl ?_
          refine bGo hA 4 15 (133, .imul, 1, 80, 0, [], []) rfl rfl rfl ?_
          refine bEqI (bn_mul 256 l1) ?_
          refine bGo hA 5 0 (134, .aload_n 0, 1, 81, 0, [0], []) rfl rfl rfl ?_
          refine bGo hA 5 1 (135, .invokevirtual 394, 3, 82, 0, [0, 12, 238, 0], []) rfl rfl rfl ?_
          refine ⟨rfl, ?_⟩
          refine hC _ _ _ _ _ (bRn_e (fun r29 s27 q30 k28 => ?_)) (k23.1 c26).2
          show A (82, [.ref 12, .int (bn l1), .int (bn l2), .int (bn l3), .int (bn l4), .int (bn r24), v6, v7, v8], [.int (bn r29), .int (bn (256 * l1)), .ref 99, .ref 112], s27)
          refine bGo hA 5 2 (138, .iadd, 1, 83, 0, [], []) rfl rfl rfl ?_
          refine bEqI (bn_add (256 * l1) r29) ?_
          refine bGo hA 5 3 (139, .iaload, 1, 84, 0, [], []) rfl rfl rfl ?_
          refine ⟨rfl, (bIxP (x := ((256 * l1) + r29)) (n := 4096) k28.1 k28.2.1), ?_⟩
          refine bEqL (x := ((256 * l1) + r29)) k28.1 ?_
          refine bGo hA 5 4 (140, .iaload, 1, 85, 0, [], []) rfl rfl rfl ?_
          refine ⟨rfl, (bIxP (x := (bi s27 99 ((256 * l1) + r29))) (n := 120) (bi_rg _ _ _) k28.2.2.1), ?_⟩
          refine bEqL (x := (bi s27 99 ((256 * l1) + r29))) (bi_rg _ _ _) ?_
          refine bGo hA 5 5 (141, .istore 6, 2, 86, 0, [6], []) rfl rfl rfl ?_
          refine bGo hA 5 6 (143, .iconst (0), 1, 87, 0, [], [(0, 0)]) rfl rfl rfl ?_
          refine bEqI bl_0 ?_
          refine bGo hA 5 7 (144, .istore 7, 2, 88, 0, [7], []) rfl rfl rfl ?_
          refine bGo hA 5 8 (146, .iconst (0), 1, 89, 0, [], [(0, 0)]) rfl rfl rfl ?_
          refine bEqI bl_0 ?_
          refine bGo hA 5 9 (147, .istore 8, 2, 90, 0, [8], []) rfl rfl rfl ?_
          exact k28.2.2.2
        · refine bGo hA 4 7 (119, .iconst (-1), 1, 72, 0, [], [(-1, 0)]) rfl rfl rfl ?_
          refine bEqI bl_m1 ?_
          refine bGo hA 4 8 (120, .ireturn, 1, 73, 0, [1], []) rfl rfl rfl ?_
          exact (k23.2 c26)
      · refine bGo hA 3 6 (94, .iconst (0), 1, 55, 0, [], [(0, 0)]) rfl rfl rfl ?_
        refine bEqI bl_0 ?_
        refine bGo hA 3 7 (95, .ireturn, 1, 56, 0, [1], []) rfl rfl rfl ?_
        exact (k18.2 c21)
    · refine bGo hA 3 1 (83, .iconst (0), 1, 50, 0, [], [(0, 0)]) rfl rfl rfl ?_
      refine bEqI bl_0 ?_
      refine bGo hA 3 2 (84, .goto (4), 3, 51, 52, [], []) rfl rfl rfl ?_
      refine bGo hA 3 4 (88, .invokevirtual 333, 3, 53, 0, [0, 12, 197, 1], []) rfl rfl rfl ?_
      refine ⟨rfl, ?_⟩
      refine hC _ _ _ _ _ (bRn_e (fun r33 s31 q34 k32 => ?_)) ((h.2 c1).2 c16)
      show A (53, [.ref 12, .int (bn l1), .int (bn l2), .int (bn l3), .int (bn l4), v5, v6, v7, v8], [.int (bn r33)], s31)
      refine bGo hA 3 5 (91, .ifCond .eq (5), 3, 54, 56, [], []) rfl rfl rfl ?_
      refine bB_eq0 (x := r33) q34 (fun c35 => ?_) (fun c35 => ?_)
      · refine bGo hA 3 8 (96, .aload_n 0, 1, 57, 0, [0], []) rfl rfl rfl ?_
        refine bGo hA 3 9 (97, .iconst (0), 1, 58, 0, [], [(0, 0)]) rfl rfl rfl ?_
        refine bEqI bl_0 ?_
        refine bGo hA 3 10 (98, .putfield 569, 3, 59, 0, [12, 111, 0, 0, 0, 0], []) rfl rfl rfl ?_
        refine ⟨rfl, ?_⟩
        refine bGo hA 3 11 (101, .aload_n 0, 1, 60, 0, [0], []) rfl rfl rfl ?_
        refine bGo hA 3 12 (102, .iconst (1), 1, 61, 0, [], [(1, 0)]) rfl rfl rfl ?_
        refine bEqI bl_1 ?_
        refine bGo hA 3 13 (103, .iload_n 1, 1, 62, 0, [1], []) rfl rfl rfl ?_
        refine bGo hA 3 14 (104, .ishl, 1, 63, 0, [], []) rfl rfl rfl ?_
        refine bEqI (bn_shl 1 l1) ?_
        refine bGo hA 3 15 (105, .iload_n 3, 1, 64, 0, [3], []) rfl rfl rfl ?_
        refine bGo hA 4 0 (106, .iconst (0), 1, 65, 0, [], [(0, 0)]) rfl rfl rfl ?_
        refine bEqI bl_0 ?_
        refine bGo hA 4 1 (107, .iconst (0), 1, 66, 0, [], [(0, 0)]) rfl rfl rfl ?_
        refine bEqI bl_0 ?_
        refine bGo hA 4 2 (108, .invokevirtual 495, 3, 67, 0, [0, 12, 286, 4], []) rfl rfl rfl ?_
        refine ⟨rfl, ?_⟩
        refine hC _ _ _ _ _ (bRn_e (fun r38 s36 q39 k37 => ?_)) (k32.1 c35)
        show A (67, [.ref 12, .int (bn l1), .int (bn l2), .int (bn l3), .int (bn l4), v5, v6, v7, v8], [.int (bn r38)], s36)
        refine bGo hA 4 3 (111, .istore 5, 2, 68, 0, [5], []) rfl rfl rfl ?_
        refine bGo hA 4 4 (113, .iload 5, 2, 69, 0, [5], []) rfl rfl rfl ?_
        refine bGo hA 4 5 (115, .iconst (1), 1, 70, 0, [], [(1, 0)]) rfl rfl rfl ?_
        refine bEqI bl_1 ?_
        refine bGo hA 4 6 (116, .if_icmp .eq (5), 3, 71, 73, [], []) rfl rfl rfl ?_
        refine bB_eq (x := r38) (y := 1) q39 (by decide : bRg 1) (fun c40 => ?_) (fun c40 => ?_)
        · refine bGo hA 4 9 (121, .aload_n 0, 1, 74, 0, [0], []) rfl rfl rfl ?_
          refine bGo hA 4 10 (122, .getfield 179, 3, 75, 0, [12, 61, 3, 112, 1, 0], []) rfl rfl rfl ?_
          refine ⟨rfl, ?_⟩
          refine bGo hA 4 11 (125, .aload_n 0, 1, 76, 0, [0], []) rfl rfl rfl ?_
          refine bGo hA 4 12 (126, .getfield 140, 3, 77, 0, [12, 47, 3, 99, 1, 0], []) rfl rfl rfl ?_
          refine ⟨rfl, ?_⟩
          refine bGo hA 4 13 (129, .sipush (256), 3, 78, 0, [], [(256, 0)]) rfl rfl rfl ?_
          refine bEqI bl_256 ?_
          refine bGo hA 4 14 (132, .iload_n 1, 1, 79, 0, [1], []) rfl rfl rfl ?_
          refine bGo hA 4 15 (133, .imul, 1, 80, 0, [], []) rfl rfl rfl ?_
          refine bEqI (bn_mul 256 l1) ?_
          refine bGo hA 5 0 (134, .aload_n 0, 1, 81, 0, [0], []) rfl rfl rfl ?_
          refine bGo hA 5 1 (135, .invokevirtual 394, 3, 82, 0, [0, 12, 238, 0], []) rfl rfl rfl ?_
          refine ⟨rfl, ?_⟩
          refine hC _ _ _ _ _ (bRn_e (fun r43 s41 q44 k42 => ?_)) (k37.1 c40).2
          show A (82, [.ref 12, .int (bn l1), .int (bn l2), .int (bn l3), .int (bn l4), .int (bn r38), v6, v7, v8], [.int (bn r43), .int (bn (256 * l1)), .ref 99, .ref 112], s41)
          refine bGo hA 5 2 (138, .iadd, 1, 83, 0, [], []) rfl rfl rfl ?_
          refine bEqI (bn_add (256 * l1) r43) ?_
          refine bGo hA 5 3 (139, .iaload, 1, 84, 0, [], []) rfl rfl rfl ?_
          refine ⟨rfl, (bIxP (x := ((256 * l1) + r43)) (n := 4096) k42.1 k42.2.1), ?_⟩
          refine bEqL (x := ((256 * l1) + r43)) k42.1 ?_
          refine bGo hA 5 4 (140, .iaload, 1, 85, 0, [], []) rfl rfl rfl ?_
          refine ⟨rfl, (bIxP (x := (bi s41 99 ((256 * l1) + r43))) (n := 120) (bi_rg _ _ _) k42.2.2.1), ?_⟩
          refine bEqL (x := (bi s41 99 ((256 * l1) + r43))) (bi_rg _ _ _) ?_
          refine bGo hA 5 5 (141, .istore 6, 2, 86, 0, [6], []) rfl rfl rfl ?_
          refine bGo hA 5 6 (143, .iconst (0), 1, 87, 0, [], [(0, 0)]) rfl rfl rfl ?_
          refine bEqI bl_0 ?_
          refine bGo hA 5 7 (144, .istore 7, 2, 88, 0, [7], []) rfl rfl rfl ?_
          refine bGo hA 5 8 (146, .iconst (0), 1, 89, 0, [], [(0, 0)]) rfl rfl rfl ?_
          refine bEqI bl_0 ?_
          refine bGo hA 5 9 (147, .istore 8, 2, 90, 0, [8], []) rfl rfl rfl ?_
          exact k42.2.2.2
        · refine bGo hA 4 7 (119, .iconst (-1), 1, 72, 0, [], [(-1, 0)]) rfl rfl rfl ?_
          refine bEqI bl_m1 ?_
          refine bGo hA 4 8 (120, .ireturn, 1, 73, 0, [1], []) rfl rfl rfl ?_
          exact (k37.2 c40)
      · refine bGo hA 3 6 (94, .iconst (0), 1, 55, 0, [], [(0, 0)]) rfl rfl rfl ?_
        refine bEqI bl_0 ?_
        refine bGo hA 3 7 (95, .ireturn, 1, 56, 0, [1], []) rfl rfl rfl ?_
        exact (k32.2 c35)

theorem sq304_90 {lvl : Nat} {C : bCall} {Q : bPost} {A : bPt → Prop} (hC : bMono C) (hA : bClosed lvl bm304 C Q A) {l1 : Int} {v2 : Value} {v3 : Value} {v4 : Value} {v5 : Value} {l6 : Int} {l7 : Int} {l8 : Int} {σ : bSt}  (h_l1 : bRg l1) (h_l6 : bRg l6) (h_l7 : bRg l7) (h_l8 : bRg l8)
  (h : ((l8 < 4 → (bRg (4 * l1) ∧ (bRg ((4 * l1) + l8) ∧ ((0 ≤ l1 ∧ l1 < 16) ∧ ((l8 < (bi σ 92 l1) → (C 305 [.ref 12, .int (bn l1), .int (bn l6), .int (bn l8)] σ (bRn (fun r5 s3 => ((0 ≤ ((4 * l1) + l8) ∧ ((4 * l1) + l8) < 64) ∧ ((r5 = 0 → (bRg (l7 + 1) ∧ (bRg (l8 + 1) ∧ A (90, [.ref 12, .int (bn l1), v2, v3, v4, v5, .int (bn l6), .int (bn (l7 + 1)), .int (bn (l8 + 1))], [], (bw s3 151 ((4 * l1) + l8) r5))))) ∧ (¬ r5 = 0 → (bRg (l7 + 0) ∧ (bRg (l8 + 1) ∧ A (90, [.ref 12, .int (bn l1), v2, v3, v4, v5, .int (bn l6), .int (bn (l7 + 0)), .int (bn (l8 + 1))], [], (bw s3 151 ((4 * l1) + l8) r5))))))))))) ∧ (¬ l8 < (bi σ 92 l1) → ((0 ≤ ((4 * l1) + l8) ∧ ((4 * l1) + l8) < 64) ∧ (bRg (l7 + 0) ∧ (bRg (l8 + 1) ∧ A (90, [.ref 12, .int (bn l1), v2, v3, v4, v5, .int (bn l6), .int (bn (l7 + 0)), .int (bn (l8 + 1))], [], (bw σ 151 ((4 * l1) + l8) (-1)))))))))))) ∧ (¬ l8 < 4 → Q (.inl (some (.int (bn l7)))) σ))) : A (90, [.ref 12, .int (bn l1), v2, v3, v4, v5, .int (bn l6), .int (bn l7), .int (bn l8)], [], σ) := by
  refine bGo hA 5 10 (149, .iload 8, 2, 91, 0, [8], []) rfl rfl rfl ?_
  refine bGo hA 5 11 (151, .iconst (4), 1, 92, 0, [], [(4, 0)]) rfl rfl rfl ?_
  refine bEqI bl_4 ?_
  refine bGo hA 5 12 (152, .if_icmp .ge (68), 3, 93, 131, [], []) rfl rfl rfl ?_
  refine bB_lt (x := l8) (y := 4) h_l8 (by decide : bRg 4) (fun c1 => ?_) (fun c1 => ?_)
  · refine bGo hA 5 13 (155, .aload_n 0, 1, 94, 0, [0], []) rfl rfl rfl ?_
    refine bGo hA 5 14 (156, .getfield 296, 3, 95, 0, [12, 109, 3, 151, 1, 0], []) rfl rfl rfl ?_
    refine ⟨rfl, ?_⟩
    refine bGo hA 5 15 (159, .iconst (4), 1, 96, 0, [], [(4, 0)]) rfl rfl rfl ?_
    refine bEqI bl_4 ?_
    refine bGo hA 6 0 (160, .iload_n 1, 1, 97, 0, [1], []) rfl rfl rfl ?_
    refine bGo hA 6 1 (161, .imul, 1, 98, 0, [], []) rfl rfl rfl ?_
    refine bEqI (bn_mul 4 l1) ?_
    refine bGo hA 6 2 (162, .iload 8, 2, 99, 0, [8], []) rfl rfl rfl ?_
    refine bGo hA 6 3 (164, .iadd, 1, 100, 0, [], []) rfl rfl rfl ?_
    refine bEqI (bn_add (4 * l1) l8) ?_
    refine bGo hA 6 4 (165, .iload 8, 2, 101, 0, [8], []) rfl rfl rfl ?_
    refine bGo hA 6 5 (167, .aload_n 0, 1, 102, 0, [0], []) rfl rfl rfl ?_
    refine bGo hA 6 6 (168, .getfield 119, 3, 103, 0, [12, 40, 3, 92, 1, 0], []) rfl rfl rfl ?_
    refine ⟨rfl, ?_⟩
    refine bGo hA 6 7 (171, .iload_n 1, 1, 104, 0, [1], []) rfl rfl rfl ?_
    refine bGo hA 6 8 (172, .iaload, 1, 105, 0, [], []) rfl rfl rfl ?_
    refine ⟨rfl, (bIxP (x := l1) (n := 16) h_l1 (h.1 c1).2.2.1), ?_⟩
    refine bEqL (x := l1) h_l1 ?_
    refine bGo hA 6 9 (173, .if_icmp .ge (15), 3, 106, 112, [], []) rfl rfl rfl ?_
    refine bB_lt (x := l8) (y := (bi σ 92 l1)) h_l8 (bi_rg _ _ _) (fun c2 => ?_) (fun c2 => ?_)
    · refine bGo hA 6 10 (176, .aload_n 0, 1, 107, 0, [0], []) rfl rfl rfl ?_
      refine bGo hA 6 11 (177, .iload_n 1, 1, 108, 0, [1], []) rfl rfl rfl ?_
      refine bGo hA 6 12 (178, .iload 6, 2, 109, 0, [6], []) rfl rfl rfl ?_
      refine bGo hA 6 13 (180, .iload 8, 2, 110, 0, [8], []) rfl rfl rfl ?_
      refine bGo hA 6 14 (182, .invokevirtual 572, 3, 111, 0, [0, 12, 305, 3], []) rfl rfl rfl ?_
      refine ⟨rfl, ?_⟩
      refine hC _ _ _ _ _ (bRn_e (fun r5 s3 q6 k4 => ?_)) ((h.1 c1).2.2.2.1 c2)
      show A (111, [.ref 12, .int (bn l1), v2, v3, v4, v5, .int (bn l6), .int (bn l7), .int (bn l8)], [.int (bn r5), .int (bn ((4 * l1) + l8)), .ref 151], s3)
      refine bGo hA 6 15 (185, .goto (4), 3, 112, 113, [], []) rfl rfl rfl ?_
      refine bGo hA 7 1 (189, .iastore, 1, 114, 0, [], []) rfl rfl rfl ?_
      refine ⟨rfl, (bIxP (x := ((4 * l1) + l8)) (n := 64) (h.1 c1).2.1 k4.1), by decide, ?_⟩
      refine bEqS (x := ((4 * l1) + l8)) (h.1 c1).2.1 ?_
      refine bGo hA 7 2 (190, .iload 7, 2, 115, 0, [7], []) rfl rfl rfl ?_
      refine bGo hA 7 3 (192, .aload_n 0, 1, 116, 0, [0], []) rfl rfl rfl ?_
      refine bGo hA 7 4 (193, .getfield 296, 3, 117, 0, [12, 109, 3, 151, 1, 0], []) rfl rfl rfl ?_
      refine ⟨rfl, ?_⟩
      refine bGo hA 7 5 (196, .iconst (4), 1, 118, 0, [], [(4, 0)]) rfl rfl rfl ?_
      refine bEqI bl_4 ?_
      refine bGo hA 7 6 (197, .iload_n 1, 1, 119, 0, [1], []) rfl rfl rfl ?_
      refine bGo hA 7 7 (198, .imul, 1, 120, 0, [], []) rfl rfl rfl ?_
      refine bEqI (bn_mul 4 l1) ?_
      refine bGo hA 7 8 (199, .iload 8, 2, 121, 0, [8], []) rfl rfl rfl ?_
      refine bGo hA 7 9 (201, .iadd, 1, 122, 0, [], []) rfl rfl rfl ?_
      refine bEqI (bn_add (4 * l1) l8) ?_
      refine bGo hA 7 10 (202, .iaload, 1, 123, 0, [], []) rfl rfl rfl ?_
      refine ⟨rfl, (bIxP (x := ((4 * l1) + l8)) (n := 64) (h.1 c1).2.1 k4.1), ?_⟩
      refine bEqL (x := ((4 * l1) + l8)) (h.1 c1).2.1 ?_
      refine bEqI (congrArg bn (show bi (bw s3 151 ((4 * l1) + l8) r5) 151 ((4 * l1) + l8) = r5 from (bi_eq q6))) ?_
      refine bGo hA 7 11 (203, .ifCond .ne (7), 3, 124, 126, [], []) rfl rfl rfl ?_
      refine bB_eq0 (x := r5) q6 (fun c7 => ?_) (fun c7 => ?_)
      · refine bGo hA 7 12 (206, .iconst (1), 1, 125, 0, [], [(1, 0)]) rfl rfl rfl ?_
        refine bEqI bl_1 ?_
        refine bGo hA 7 13 (207, .goto (4), 3, 126, 127, [], []) rfl rfl rfl ?_
        refine bGo hA 7 15 (211, .iadd, 1, 128, 0, [], []) rfl rfl rfl ?_
        refine bEqI (bn_add l7 1) ?_
        refine bGo hA 8 0 (212, .istore 7, 2, 129, 0, [7], []) rfl rfl rfl ?_
        refine bGo hA 8 1 (214, .iinc 8 (1), 3, 130, 0, [8], [(1, 0)]) rfl rfl rfl ?_
        refine bEqC (fun v => A (130, [.ref 12, .int (bn l1), v2, v3, v4, v5, .int (bn l6), .int (bn (l7 + 1)), .int v], [], (bw s3 151 ((4 * l1) + l8) r5))) ((congrArg (fun w => bn l8 + w) bl_1).trans (bn_add l8 1)) ?_
        refine bGo hA 8 2 (217, .goto (-68), 3, 131, 90, [], []) rfl rfl rfl ?_
        exact (k4.2.1 c7).2.2
      · refine bGo hA 7 14 (210, .iconst (0), 1, 127, 0, [], [(0, 0)]) rfl rfl rfl ?_
        refine bEqI bl_0 ?_
        refine bGo hA 7 15 (211, .iadd, 1, 128, 0, [], []) rfl rfl rfl ?_
        refine bEqI (bn_add l7 0) ?_
        refine bGo hA 8 0 (212, .istore 7, 2, 129, 0, [7], []) rfl rfl rfl ?_
        refine bGo hA 8 1 (214, .iinc 8 (1), 3, 130, 0, [8], [(1, 0)]) rfl rfl rfl ?_
        refine bEqC (fun v => A (130, [.ref 12, .int (bn l1), v2, v3, v4, v5, .int (bn l6), .int (bn (l7 + 0)), .int v], [], (bw s3 151 ((4 * l1) + l8) r5))) ((congrArg (fun w => bn l8 + w) bl_1).trans (bn_add l8 1)) ?_
        refine bGo hA 8 2 (217, .goto (-68), 3, 131, 90, [], []) rfl rfl rfl ?_
        exact (k4.2.2 c7).2.2
    · refine bGo hA 7 0 (188, .iconst (-1), 1, 113, 0, [], [(-1, 0)]) rfl rfl rfl ?_
      refine bEqI bl_m1 ?_
      refine bGo hA 7 1 (189, .iastore, 1, 114, 0, [], []) rfl rfl rfl ?_
      refine ⟨rfl, (bIxP (x := ((4 * l1) + l8)) (n := 64) (h.1 c1).2.1 ((h.1 c1).2.2.2.2 c2).1), by decide, ?_⟩
      refine bEqS (x := ((4 * l1) + l8)) (h.1 c1).2.1 ?_
      refine bGo hA 7 2 (190, .iload 7, 2, 115, 0, [7], []) rfl rfl rfl ?_
      refine bGo hA 7 3 (192, .aload_n 0, 1, 116, 0, [0], []) rfl rfl rfl ?_
      refine bGo hA 7 4 (193, .getfield 296, 3, 117, 0, [12, 109, 3, 151, 1, 0], []) rfl rfl rfl ?_
      refine ⟨rfl, ?_⟩
      refine bGo hA 7 5 (196, .iconst (4), 1, 118, 0, [], [(4, 0)]) rfl rfl rfl ?_
      refine bEqI bl_4 ?_
      refine bGo hA 7 6 (197, .iload_n 1, 1, 119, 0, [1], []) rfl rfl rfl ?_
      refine bGo hA 7 7 (198, .imul, 1, 120, 0, [], []) rfl rfl rfl ?_
      refine bEqI (bn_mul 4 l1) ?_
      refine bGo hA 7 8 (199, .iload 8, 2, 121, 0, [8], []) rfl rfl rfl ?_
      refine bGo hA 7 9 (201, .iadd, 1, 122, 0, [], []) rfl rfl rfl ?_
      refine bEqI (bn_add (4 * l1) l8) ?_
      refine bGo hA 7 10 (202, .iaload, 1, 123, 0, [], []) rfl rfl rfl ?_
      refine ⟨rfl, (bIxP (x := ((4 * l1) + l8)) (n := 64) (h.1 c1).2.1 ((h.1 c1).2.2.2.2 c2).1), ?_⟩
      refine bEqL (x := ((4 * l1) + l8)) (h.1 c1).2.1 ?_
      refine bEqI (congrArg bn (show bi (bw σ 151 ((4 * l1) + l8) (-1)) 151 ((4 * l1) + l8) = (-1) from (bi_eq (by decide : bRg (-1))))) ?_
      refine bGo hA 7 11 (203, .ifCond .ne (7), 3, 124, 126, [], []) rfl rfl rfl ?_
      refine ⟨fun c => absurd c (by decide), fun _ => ?_⟩
      refine bGo hA 7 14 (210, .iconst (0), 1, 127, 0, [], [(0, 0)]) rfl rfl rfl ?_
      refine bEqI bl_0 ?_
      refine bGo hA 7 15 (211, .iadd, 1, 128, 0, [], []) rfl rfl rfl ?_
      refine bEqI (bn_add l7 0) ?_
      refine bGo hA 8 0 (212, .istore 7, 2, 129, 0, [7], []) rfl rfl rfl ?_
      refine bGo hA 8 1 (214, .iinc 8 (1), 3, 130, 0, [8], [(1, 0)]) rfl rfl rfl ?_
      refine bEqC (fun v => A (130, [.ref 12, .int (bn l1), v2, v3, v4, v5, .int (bn l6), .int (bn (l7 + 0)), .int v], [], (bw σ 151 ((4 * l1) + l8) (-1)))) ((congrArg (fun w => bn l8 + w) bl_1).trans (bn_add l8 1)) ?_
      refine bGo hA 8 2 (217, .goto (-68), 3, 131, 90, [], []) rfl rfl rfl ?_
      exact ((h.1 c1).2.2.2.2 c2).2.2.2
  · refine bGo hA 8 3 (220, .iload 7, 2, 132, 0, [7], []) rfl rfl rfl ?_
    refine bGo hA 8 4 (222, .ireturn, 1, 0, 0, [1], []) rfl rfl rfl ?_
    exact (h.2 c1)

theorem sq305_0 {lvl : Nat} {C : bCall} {Q : bPost} {A : bPt → Prop} (hC : bMono C) (hA : bClosed lvl bm305 C Q A) {x1 : Int} {x2 : Int} {x3 : Int} {σ : bSt}  (h_x1 : bRg x1) (h_x2 : bRg x2) (h_x3 : bRg x3)
  (h : (bRg (x2 + x3) ∧ (0 ≤ (x2 + x3) ∧ ((((x2 + x3) % 4) = 3 → A (10, [.ref 12, .int (bn x1), .int (bn x2), .int (bn x3), .float 0, .float 0], [.int (bn 0)], σ)) ∧ (¬ ((x2 + x3) % 4) = 3 → A (10, [.ref 12, .int (bn x1), .int (bn x2), .int (bn x3), .float 0, .float 0], [.int (bn 1)], σ)))))) : A (0, [.ref 12, .int (bn x1), .int (bn x2), .int (bn x3), .float 0, .float 0], [], σ) := by
  refine bGo hA 0 0 (0, .iload_n 2, 1, 1, 0, [2], []) rfl rfl rfl ?_
  refine bGo hA 0 1 (1, .iload_n 3, 1, 2, 0, [3], []) rfl rfl rfl ?_
  refine bGo hA 0 2 (2, .iadd, 1, 3, 0, [], []) rfl rfl rfl ?_
  refine bEqI (bn_add x2 x3) ?_
  refine bGo hA 0 3 (3, .iconst (4), 1, 4, 0, [], [(4, 0)]) rfl rfl rfl ?_
  refine bEqI bl_4 ?_
  refine bGo hA 0 4 (4, .irem, 1, 5, 0, [], []) rfl rfl rfl ?_
  refine ⟨by decide, ?_⟩
  refine bEqI (bn_rem h.1 (by decide) h.2.1) ?_
  refine bGo hA 0 5 (5, .iconst (3), 1, 6, 0, [], [(3, 0)]) rfl rfl rfl ?_
  refine bEqI bl_3 ?_
  refine bGo hA 0 6 (6, .if_icmp .eq (7), 3, 7, 9, [], []) rfl rfl rfl ?_
  refine bB_eq (x := ((x2 + x3) % 4)) (y := 3) (bRg_mod (by decide) (by decide)) (by decide : bRg 3) (fun c1 => ?_) (fun c1 => ?_)
  · refine bGo hA 0 9 (13, .iconst (0), 1, 10, 0, [], [(0, 0)]) rfl rfl rfl ?_
    refine bEqI bl_0 ?_
    exact (h.2.2.1 c1)
  · refine bGo hA 0 7 (9, .iconst (1), 1, 8, 0, [], [(1, 0)]) rfl rfl rfl ?_
    refine bEqI bl_1 ?_
    refine bGo hA 0 8 (10, .goto (4), 3, 9, 10, [], []) rfl rfl rfl ?_
    exact (h.2.2.2 c1)

theorem sq305_10 {lvl : Nat} {C : bCall} {Q : bPost} {A : bPt → Prop} (hC : bMono C) (hA : bClosed lvl bm305 C Q A) {l1 : Int} {l2 : Int} {l3 : Int} {v4 : Value} {v5 : Value} {t0 : Int} {σ : bSt}  (h_l1 : bRg l1) (h_l2 : bRg l2) (h_l3 : bRg l3) (h_t0 : bRg t0)
  (h : ((0 ≤ l1 ∧ l1 < 16) ∧ (((bi σ 93 l1) = 0 → (bRg (4000 * l1) ∧ (bRg (4 * l2) ∧ (bRg ((4000 * l1) + (4 * l2)) ∧ (bRg (((4000 * l1) + (4 * l2)) + l3) ∧ (0 ≤ (((4000 * l1) + (4 * l2)) + l3) ∧ ((0 ≤ ((((4000 * l1) + (4 * l2)) + l3) / 32) ∧ ((((4000 * l1) + (4 * l2)) + l3) / 32) < 2048) ∧ (((bAnd (bShr (bi σ 152 ((((4000 * l1) + (4 * l2)) + l3) / 32)) ((((4000 * l1) + (4 * l2)) + l3) % 32)) 1) = 1 → (bRg ((bi σ 12 111) + 0) ∧ ((t0 = 0 → Q (.inl (some (.int (bn 2)))) (bw (bw σ 12 111 ((bi σ 12 111) + 0)) 152 ((((4000 * l1) + (4 * l2)) + l3) / 32) (bOr (bi σ 152 ((((4000 * l1) + (4 * l2)) + l3) / 32)) (bShl 1 ((((4000 * l1) + (4 * l2)) + l3) % 32))))) ∧ (¬ t0 = 0 → Q (.inl (some (.int (bn 0)))) (bw (bw σ 12 111 ((bi σ 12 111) + 0)) 152 ((((4000 * l1) + (4 * l2)) + l3) / 32) (bOr (bi σ 152 ((((4000 * l1) + (4 * l2)) + l3) / 32)) (bShl 1 ((((4000 * l1) + (4 * l2)) + l3) % 32)))))))) ∧ (¬ (bAnd (bShr (bi σ 152 ((((4000 * l1) + (4 * l2)) + l3) / 32)) ((((4000 * l1) + (4 * l2)) + l3) % 32)) 1) = 1 → (bRg ((bi σ 12 111) + 1) ∧ ((t0 = 0 → Q (.inl (some (.int (bn 2)))) (bw (bw σ 12 111 ((bi σ 12 111) + 1)) 152 ((((4000 * l1) + (4 * l2)) + l3) / 32) (bOr (bi σ 152 ((((4000 * l1) + (4 * l2)) + l3) / 32)) (bShl 1 ((((4000 * l1) + (4 * l2)) + l3) % 32))))) ∧ (¬ t0 = 0 → Q (.inl (some (.int (bn 0)))) (bw (bw σ 12 111 ((bi σ 12 111) + 1)) 152 ((((4000 * l1) + (4 * l2)) + l3) / 32) (bOr (bi σ 152 ((((4000 * l1) + (4 * l2)) + l3) / 32)) (bShl 1 ((((4000 * l1) + (4 * l2)) + l3) % 32)))))))))))))))) ∧ (¬ (bi σ 93 l1) = 0 → A (70, [.ref 12, .int (bn l1), .int (bn l2), .int (bn l3), .int (bn t0), .int (bn 0)], [], σ))))) : A (10, [.ref 12, .int (bn l1), .int (bn l2), .int (bn l3), v4, v5], [.int (bn t0)], σ) := by
  refine bGo hA 0 10 (14, .istore 4, 2, 11, 0, [4], []) rfl rfl rfl ?_
  refine bGo hA 0 11 (16, .aload_n 0, 1, 12, 0, [0], []) rfl rfl rfl ?_
  refine bGo hA 0 12 (17, .getfield 122, 3, 13, 0, [12, 41, 3, 93, 1, 0], []) rfl rfl rfl ?_
  refine ⟨rfl, ?_⟩
  refine bGo hA 0 13 (20, .iload_n 1, 1, 14, 0, [1], []) rfl rfl rfl ?_
  refine bGo hA 0 14 (21, .iaload, 1, 15, 0, [], []) rfl rfl rfl ?_
  refine ⟨rfl, (bIxP (x := l1) (n := 16) h_l1 h.1), ?_⟩
  refine bEqL (x := l1) h_l1 ?_
  refine bGo hA 0 15 (22, .ifCond .ne (83), 3, 16, 68, [], []) rfl rfl rfl ?_
  refine bB_eq0 (x := (bi σ 93 l1)) (bi_rg _ _ _) (fun c1 => ?_) (fun c1 => ?_)
  · refine bGo hA 1 0 (25, .sipush (4000), 3, 17, 0, [], [(4000, 0)]) rfl rfl rfl ?_
    refine bEqI bl_4000 ?_
    refine bGo hA 1 1 (28, .iload_n 1, 1, 18, 0, [1], []) rfl rfl rfl ?_
    refine bGo hA 1 2 (29, .imul, 1, 19, 0, [], []) rfl rfl rfl ?_
    refine bEqI (bn_mul 4000 l1) ?_
    refine bGo hA 1 3 (30, .iconst (4), 1, 20, 0, [], [(4, 0)]) rfl rfl rfl ?_
    refine bEqI bl_4 ?_
    refine bGo hA 1 4 (31, .iload_n 2, 1, 21, 0, [2], []) rfl rfl rfl ?_
    refine bGo hA 1 5 (32, .imul, 1, 22, 0, [], []) rfl rfl rfl ?_
    refine bEqI (bn_mul 4 l2) ?_
    refine bGo hA 1 6 (33, .iadd, 1, 23, 0, [], []) rfl rfl rfl ?_
    refine bEqI (bn_add (4000 * l1) (4 * l2)) ?_
    refine bGo hA 1 7 (34, .iload_n 3, 1, 24, 0, [3], []) rfl rfl rfl ?_
    refine bGo hA 1 8 (35, .iadd, 1, 25, 0, [], []) rfl rfl rfl ?_
    refine bEqI (bn_add ((4000 * l1) + (4 * l2)) l3) ?_
    refine bGo hA 1 9 (36, .istore 5, 2, 26, 0, [5], []) rfl rfl rfl ?_
    refine bGo hA 1 10 (38, .aload_n 0, 1, 27, 0, [0], []) rfl rfl rfl ?_
    refine bGo hA 1 11 (39, .dup, 1, 28, 0, [], []) rfl rfl rfl ?_
    refine bGo hA 1 12 (40, .getfield 569, 3, 29, 0, [12, 111, 0, 0, 0, 0], []) rfl rfl rfl ?_
    refine ⟨rfl, ?_⟩
    refine bEqI (bn_bi σ 12 111) ?_
    refine bGo hA 1 13 (43, .aload_n 0, 1, 30, 0, [0], []) rfl rfl rfl ?_
    refine bGo hA 1 14 (44, .getfield 299, 3, 31, 0, [12, 110, 3, 152, 1, 0], []) rfl rfl rfl ?_
    refine ⟨rfl, ?_⟩
    refine bGo hA 1 15 (47, .iload 5, 2, 32, 0, [5], []) rfl rfl rfl ?_
    refine bGo hA 2 0 (49, .bipush (32), 2, 33, 0, [], [(32, 0)]) rfl rfl rfl ?_
    refine bEqI bl_32 ?_
    refine bGo hA 2 1 (51, .idiv, 1, 34, 0, [], []) rfl rfl rfl ?_
    refine ⟨by decide, ?_⟩
    refine bEqI (bn_div (h.2.1 c1).2.2.2.1 (by decide) (h.2.1 c1).2.2.2.2.1) ?_
    refine bGo hA 2 2 (52, .iaload, 1, 35, 0, [], []) rfl rfl rfl ?_
    refine ⟨rfl, (bIxP (x := ((((4000 * l1) + (4 * l2)) + l3) / 32)) (n := 2048) (bRg_div (h.2.1 c1).2.2.2.1 (h.2.1 c1).2.2.2.2.1) (h.2.1 c1).2.2.2.2.2.1), ?_⟩
    refine bEqL (x := ((((4000 * l1) + (4 * l2)) + l3) / 32)) (bRg_div (h.2.1 c1).2.2.2.1 (h.2.1 c1).2.2.2.2.1) ?_
    refine bGo hA 2 3 (53, .iload 5, 2, 36, 0, [5], []) rfl rfl rfl ?_
    refine bGo hA 2 4 (55, .bipush (32), 2, 37, 0, [], [(32, 0)]) rfl rfl rfl ?_
    refine bEqI bl_32 ?_
    refine bGo hA 2 5 (57, .irem, 1, 38, 0, [], []) rfl rfl rfl ?_
    refine ⟨by decide, ?_⟩
    refine bEqI (bn_rem (h.2.1 c1).2.2.2.1 (by decide) (h.2.1 c1).2.2.2.2.1) ?_
    refine bGo hA 2 6 (58, .ishr, 1, 39, 0, [], []) rfl rfl rfl ?_
    refine bEqI (bn_shr (bi σ 152 ((((4000 * l1) + (4 * l2)) + l3) / 32)) ((((4000 * l1) + (4 * l2)) + l3) % 32)) ?_
    refine bGo hA 2 7 (59, .iconst (1), 1, 40, 0, [], [(1, 0)]) rfl rfl rfl ?_
    refine bEqI bl_1 ?_
    refine bGo hA 2 8 (60, .iand, 1, 41, 0, [], []) rfl rfl rfl ?_
    refine bEqI (bn_and (bShr (bi σ 152 ((((4000 * l1) + (4 * l2)) + l3) / 32)) ((((4000 * l1) + (4 * l2)) + l3) % 32)) 1) ?_
    refine bGo hA 2 9 (61, .iconst (1), 1, 42, 0, [], [(1, 0)]) rfl rfl rfl ?_
    refine bEqI bl_1 ?_
    refine bGo hA 2 10 (62, .if_icmp .ne (7), 3, 43, 45, [], []) rfl rfl rfl ?_
    refine bB_eq (x := (bAnd (bShr (bi σ 152 ((((4000 * l1) + (4 * l2)) + l3) / 32)) ((((4000 * l1) + (4 * l2)) + l3) % 32)) 1)) (y := 1) (bRgI _) (by decide : bRg 1) (fun c2 => ?_) (fun c2 => ?_)
    · refine bGo hA 2 11 (65, .iconst (0), 1, 44, 0, [], [(0, 0)]) rfl rfl rfl ?_
      refine bEqI bl_0 ?_
      refine bGo hA 2 12 (66, .goto (4), 3, 45, 46, [], []) rfl rfl rfl ?_
      refine bGo hA 2 14 (70, .iadd, 1, 47, 0, [], []) rfl rfl rfl ?_
      refine bEqI (bn_add (bi σ 12 111) 0) ?_
      refine bGo hA 2 15 (71, .putfield 569, 3, 48, 0, [12, 111, 0, 0, 0, 0], []) rfl rfl rfl ?_
      refine ⟨rfl, ?_⟩
      refine bGo hA 3 0 (74, .aload_n 0, 1, 49, 0, [0], []) rfl rfl rfl ?_
      refine bGo hA 3 1 (75, .getfield 299, 3, 50, 0, [12, 110, 3, 152, 1, 0], []) rfl rfl rfl ?_
      refine ⟨rfl, ?_⟩
      refine bGo hA 3 2 (78, .iload 5, 2, 51, 0, [5], []) rfl rfl rfl ?_
      refine bGo hA 3 3 (80, .bipush (32), 2, 52, 0, [], [(32, 0)]) rfl rfl rfl ?_
      refine bEqI bl_32 ?_
      refine bGo hA 3 4 (82, .idiv, 1, 53, 0, [], []) rfl rfl rfl ?_
      refine ⟨by decide, ?_⟩
      refine bEqI (bn_div (h.2.1 c1).2.2.2.1 (by decide) (h.2.1 c1).2.2.2.2.1) ?_
      refine bGo hA 3 5 (83, .dup2, 1, 54, 0, [], []) rfl rfl rfl ?_
      refine bGo hA 3 6 (84, .iaload, 1, 55, 0, [], []) rfl rfl rfl ?_
      refine ⟨rfl, (bIxP (x := ((((4000 * l1) + (4 * l2)) + l3) / 32)) (n := 2048) (bRg_div (h.2.1 c1).2.2.2.1 (h.2.1 c1).2.2.2.2.1) (h.2.1 c1).2.2.2.2.2.1), ?_⟩
      refine bEqL (x := ((((4000 * l1) + (4 * l2)) + l3) / 32)) (bRg_div (h.2.1 c1).2.2.2.1 (h.2.1 c1).2.2.2.2.1) ?_
      refine bEqI (congrArg bn (show bi (bw σ 12 111 ((bi σ 12 111) + 0)) 152 ((((4000 * l1) + (4 * l2)) + l3) / 32) = (bi σ 152 ((((4000 * l1) + (4 * l2)) + l3) / 32)) from (bi_ne (by decide)))) ?_
      refine bGo hA 3 7 (85, .iconst (1), 1, 56, 0, [], [(1, 0)]) rfl rfl rfl ?_
      refine bEqI bl_1 ?_
      refine bGo hA 3 8 (86, .iload 5, 2, 57, 0, [5], []) rfl rfl rfl ?_
      refine bGo hA 3 9 (88, .bipush (32), 2, 58, 0, [], [(32, 0)]) rfl rfl rfl ?_
      refine bEqI bl_32 ?_
      refine bGo hA 3 10 (90, .irem, 1, 59, 0, [], []) rfl rfl rfl ?_
      refine ⟨by decide, ?_⟩
      refine bEqI (bn_rem (h.2.1 c1).2.2.2.1 (by decide) (h.2.1 c1).2.2.2.2.1) ?_
      refine bGo hA 3 11 (91, .ishl, 1, 60, 0, [], []) rfl rfl rfl ?_
      refine bEqI (bn_shl 1 ((((4000 * l1) + (4 * l2)) + l3) % 32)) ?_
      refine bGo hA 3 12 (92, .ior, 1, 61, 0, [], []) rfl rfl rfl ?_
      refine bEqI (bn_or (bi σ 152 ((((4000 * l1) + (4 * l2)) + l3) / 32)) (bShl 1 ((((4000 * l1) + (4 * l2)) + l3) % 32))) ?_
      refine bGo hA 3 13 (93, .iastore, 1, 62, 0, [], []) rfl rfl rfl ?_
      refine ⟨rfl, (bIxP (x := ((((4000 * l1) + (4 * l2)) + l3) / 32)) (n := 2048) (bRg_div (h.2.1 c1).2.2.2.1 (h.2.1 c1).2.2.2.2.1) (h.2.1 c1).2.2.2.2.2.1), by decide, ?_⟩
      refine bEqS (x := ((((4000 * l1) + (4 * l2)) + l3) / 32)) (bRg_div (h.2.1 c1).2.2.2.1 (h.2.1 c1).2.2.2.2.1) ?_
      refine bGo hA 3 14 (94, .iload 4, 2, 63, 0, [4], []) rfl rfl rfl ?_
      refine bGo hA 3 15 (96, .ifCond .eq (7), 3, 64, 66, [], []) rfl rfl rfl ?_
      refine bB_eq0 (x := t0) h_t0 (fun c3 => ?_) (fun c3 => ?_)
      · refine bGo hA 4 2 (103, .iconst (2), 1, 67, 0, [], [(2, 0)]) rfl rfl rfl ?_
        refine bEqI bl_2 ?_
        refine bGo hA 4 3 (104, .ireturn, 1, 68, 0, [1], []) rfl rfl rfl ?_
        exact (((h.2.1 c1).2.2.2.2.2.2.1 c2).2.1 c3)
      · refine bGo hA 4 0 (99, .iconst (0), 1, 65, 0, [], [(0, 0)]) rfl rfl rfl ?_
        refine bEqI bl_0 ?_
        refine bGo hA 4 1 (100, .goto (4), 3, 66, 67, [], []) rfl rfl rfl ?_
        refine bGo hA 4 3 (104, .ireturn, 1, 68, 0, [1], []) rfl rfl rfl ?_
        exact (((h.2.1 c1).2.2.2.2.2.2.1 c2).2.2 c3)
    · refine bGo hA 2 13 (69, .iconst (1), 1, 46, 0, [], [(1, 0)]) rfl rfl rfl ?_
      refine bEqI bl_1 ?_
      refine bGo hA 2 14 (70, .iadd, 1, 47, 0, [], []) rfl rfl rfl ?_
      refine bEqI (bn_add (bi σ 12 111) 1) ?_
      refine bGo hA 2 15 (71, .putfield 569, 3, 48, 0, [12, 111, 0, 0, 0, 0], []) rfl rfl rfl ?_
      refine ⟨rfl, ?_⟩
      refine bGo hA 3 0 (74, .aload_n 0, 1, 49, 0, [0], []) rfl rfl rfl ?_
      refine bGo hA 3 1 (75, .getfield 299, 3, 50, 0, [12, 110, 3, 152, 1, 0], []) rfl rfl rfl ?_
      refine ⟨rfl, ?_⟩
      refine bGo hA 3 2 (78, .iload 5, 2, 51, 0, [5], []) rfl rfl rfl ?_
      refine bGo hA 3 3 (80, .bipush (32), 2, 52, 0, [], [(32, 0)]) rfl rfl rfl ?_
      refine bEqI bl_32 ?_
      refine bGo hA 3 4 (82, .idiv, 1, 53, 0, [], []) rfl rfl rfl ?_
      refine ⟨by decide, ?_⟩
      refine bEqI (bn_div (h.2.1 c1).2.2.2.1 (by decide) (h.2.1 c1).2.2.2.2.1) ?_
      refine bGo hA 3 5 (83, .dup2, 1, 54, 0, [], []) rfl rfl rfl ?_
      refine bGo hA 3 6 (84, .iaload, 1, 55, 0, [], []) rfl rfl rfl ?_
      refine ⟨rfl, (bIxP (x := ((((4000 * l1) + (4 * l2)) + l3) / 32)) (n := 2048) (bRg_div (h.2.1 c1).2.2.2.1 (h.2.1 c1).2.2.2.2.1) (h.2.1 c1).2.2.2.2.2.1), ?_⟩
      refine bEqL (x := ((((4000 * l1) + (4 * l2)) + l3) / 32)) (bRg_div (h.2.1 c1).2.2.2.1 (h.2.1 c1).2.2.2.2.1) ?_
      refine bEqI (congrArg bn (show bi (bw σ 12 111 ((bi σ 12 111) + 1)) 152 ((((4000 * l1) + (4 * l2)) + l3) / 32) = (bi σ 152 ((((4000 * l1) + (4 * l2)) + l3) / 32)) from (bi_ne (by decide)))) ?_
      refine bGo hA 3 7 (85, .iconst (1), 1, 56, 0, [], [(1, 0)]) rfl rfl rfl ?_
      refine bEqI bl_1 ?_
      refine bGo hA 3 8 (86, .iload 5, 2, 57, 0, [5], []) rfl rfl rfl ?_
      refine bGo hA 3 9 (88, .bipush (32), 2, 58, 0, [], [(32, 0)]) rfl rfl rfl ?_
      refine bEqI bl_32 ?_
      refine bGo hA 3 10 (90, .irem, 1, 59, 0, [], []) rfl rfl rfl ?_
      refine ⟨by decide, ?_⟩
      refine bEqI (bn_rem (h.2.1 c1).2.2.2.1 (by decide) (h.2.1 c1).2.2.2.2.1) ?_
      refine bGo hA 3 11 (91, .ishl, 1, 60, 0, [], []) rfl rfl rfl ?_
      refine bEqI (bn_shl 1 ((((4000 * l1) + (4 * l2)) + l3) % 32)) ?_
      refine bGo hA 3 12 (92, .ior, 1, 61, 0, [], []) rfl rfl rfl ?_
      refine bEqI (bn_or (bi σ 152 ((((4000 * l1) + (4 * l2)) + l3) / 32)) (bShl 1 ((((4000 * l1) + (4 * l2)) + l3) % 32))) ?_
      refine bGo hA 3 13 (93, .iastore, 1, 62, 0, [], []) rfl rfl rfl ?_
      refine ⟨rfl, (bIxP (x := ((((4000 * l1) + (4 * l2)) + l3) / 32)) (n := 2048) (bRg_div (h.2.1 c1).2.2.2.1 (h.2.1 c1).2.2.2.2.1) (h.2.1 c1).2.2.2.2.2.1), by decide, ?_⟩
      refine bEqS (x := ((((4000 * l1) + (4 * l2)) + l3) / 32)) (bRg_div (h.2.1 c1).2.2.2.1 (h.2.1 c1).2.2.2.2.1) ?_
      refine bGo hA 3 14 (94, .iload 4, 2, 63, 0, [4], []) rfl rfl rfl ?_
      refine bGo hA 3 15 (96, .ifCond .eq (7), 3, 64, 66, [], []) rfl rfl rfl ?_
      refine bB_eq0 (x := t0) h_t0 (fun c4 => ?_) (fun c4 => ?_)
      · refine bGo hA 4 2 (103, .iconst (2), 1, 67, 0, [], [(2, 0)]) rfl rfl rfl ?_
        refine bEqI bl_2 ?_
        refine bGo hA 4 3 (104, .ireturn, 1, 68, 0, [1], []) rfl rfl rfl ?_
        exact (((h.2.1 c1).2.2.2.2.2.2.2 c2).2.1 c4)
      · refine bGo hA 4 0 (99, .iconst (0), 1, 65, 0, [], [(0, 0)]) rfl rfl rfl ?_
        refine bEqI bl_0 ?_
        refine bGo hA 4 1 (100, .goto (4), 3, 66, 67, [], []) rfl rfl rfl ?_
        refine bGo hA 4 3 (104, .ireturn, 1, 68, 0, [1], []) rfl rfl rfl ?_
        exact (((h.2.1 c1).2.2.2.2.2.2.2 c2).2.2 c4)
  · refine bGo hA 4 4 (105, .iconst (0), 1, 69, 0, [], [(0, 0)]) rfl rfl rfl ?_
    refine bEqI bl_0 ?_
    refine bGo hA 4 5 (106, .istore 5, 2, 70, 0, [5], []) rfl rfl rfl ?_
    exact (h.2.2 c1)

theorem sq305_70 {lvl : Nat} {C : bCall} {Q : bPost} {A : bPt → Prop} (hC : bMono C) (hA : bClosed lvl bm305 C Q A) {l1 : Int} {v2 : Value} {v3 : Value} {l4 : Int} {l5 : Int} {σ : bSt}  (h_l1 : bRg l1) (h_l4 : bRg l4) (h_l5 : bRg l5)
  (h : ((l5 < 3 → (bRg ((bi σ 12 111) + 1) ∧ (0 ≤ (bLi ((((Int64.ofNat 1103515245) * (bL (bi σ 12 112))) + (Int64.ofNat 12345)) - (((Int64.ofNat 1103515245) * (bL (bi σ 12 112))) + (Int64.ofNat 12345)) / (Int64.ofNat 2147483648) * (Int64.ofNat 2147483648))) ∧ ((0 ≤ l1 ∧ l1 < 16) ∧ (((((bLi ((((Int64.ofNat 1103515245) * (bL (bi σ 12 112))) + (Int64.ofNat 12345)) - (((Int64.ofNat 1103515245) * (bL (bi σ 12 112))) + (Int64.ofNat 12345)) / (Int64.ofNat 2147483648) * (Int64.ofNat 2147483648))) / 65536) % 10) < (bi σ 93 l1) → (bRg (l5 + 1) ∧ A (70, [.ref 12, .int (bn l1), v2, v3, .int (bn l4), .int (bn (l5 + 1))], [], (bw (bw σ 12 111 ((bi σ 12 111) + 1)) 12 112 (bLi ((((Int64.ofNat 1103515245) * (bL (bi σ 12 112))) + (Int64.ofNat 12345)) - (((Int64.ofNat 1103515245) * (bL (bi σ 12 112))) + (Int64.ofNat 12345)) / (Int64.ofNat 2147483648) * (Int64.ofNat 2147483648))))))) ∧ (¬ (((bLi ((((Int64.ofNat 1103515245) * (bL (bi σ 12 112))) + (Int64.ofNat 12345)) - (((Int64.ofNat 1103515245) * (bL (bi σ 12 112))) + (Int64.ofNat 12345)) / (Int64.ofNat 2147483648) * (Int64.ofNat 2147483648))) / 65536) % 10) < (bi σ 93 l1) → ((l4 = 0 → (bRg (l5 + 1) ∧ A (70, [.ref 12, .int (bn l1), v2, v3, .int (bn l4), .int (bn (l5 + 1))], [], (bw (bw σ 12 111 ((bi σ 12 111) + 1)) 12 112 (bLi ((((Int64.ofNat 1103515245) * (bL (bi σ 12 112))) + (Int64.ofNat 12345)) - (((Int64.ofNat 1103515245) * (bL (bi σ 12 112))) + (Int64.ofNat 12345)) / (Int64.ofNat 2147483648) * (Int64.ofNat 2147483648))))))) ∧ (¬ l4 = 0 → ((l5 = 0 → Q (.inl (some (.int (bn 0)))) (bw (bw σ 12 111 ((bi σ 12 111) + 1)) 12 112 (bLi ((((Int64.ofNat 1103515245) * (bL (bi σ 12 112))) + (Int64.ofNat 12345)) - (((Int64.ofNat 1103515245) * (bL (bi σ 12 112))) + (Int64.ofNat 12345)) / (Int64.ofNat 2147483648) * (Int64.ofNat 2147483648))))) ∧ (¬ l5 = 0 → Q (.inl (some (.int (bn 1)))) (bw (bw σ 12 111 ((bi σ 12 111) + 1)) 12 112 (bLi ((((Int64.ofNat 1103515245) * (bL (bi σ 12 112))) + (Int64.ofNat 12345)) - (((Int64.ofNat 1103515245) * (bL (bi σ 12 112))) + (Int64.ofNat 12345)) / (Int64.ofNat 2147483648) * (Int64.ofNat 2147483648)))))))))))))) ∧ (¬ l5 < 3 → Q (.inl (some (.int (bn 2)))) σ))) : A (70, [.ref 12, .int (bn l1), v2, v3, .int (bn l4), .int (bn l5)], [], σ) := by
  refine bGo hA 4 6 (108, .iload 5, 2, 71, 0, [5], []) rfl rfl rfl ?_
  refine bGo hA 4 7 (110, .iconst (3), 1, 72, 0, [], [(3, 0)]) rfl rfl rfl ?_
  refine bEqI bl_3 ?_
  refine bGo hA 4 8 (111, .if_icmp .ge (77), 3, 73, 112, [], []) rfl rfl rfl ?_
  refine bB_lt (x := l5) (y := 3) h_l5 (by decide : bRg 3) (fun c1 => ?_) (fun c1 => ?_)
  · refine bGo hA 4 9 (114, .aload_n 0, 1, 74, 0, [0], []) rfl rfl rfl ?_
    refine bGo hA 4 10 (115, .dup, 1, 75, 0, [], []) rfl rfl rfl ?_
    refine bGo hA 4 11 (116, .getfield 569, 3, 76, 0, [12, 111, 0, 0, 0, 0], []) rfl rfl rfl ?_
    refine ⟨rfl, ?_⟩
    refine bEqI (bn_bi σ 12 111) ?_
    refine bGo hA 4 12 (119, .iconst (1), 1, 77, 0, [], [(1, 0)]) rfl rfl rfl ?_
    refine bEqI bl_1 ?_
    refine bGo hA 4 13 (120, .iadd, 1, 78, 0, [], []) rfl rfl rfl ?_
    refine bEqI (bn_add (bi σ 12 111) 1) ?_
    refine bGo hA 4 14 (121, .putfield 569, 3, 79, 0, [12, 111, 0, 0, 0, 0], []) rfl rfl rfl ?_
    refine ⟨rfl, ?_⟩
    refine bGo hA 4 15 (124, .aload_n 0, 1, 80, 0, [0], []) rfl rfl rfl ?_
    refine bGo hA 5 0 (125, .ldc2_w 575, 3, 81, 0, [1103515245], []) rfl rfl rfl ?_
    refine bGo hA 5 1 (128, .aload_n 0, 1, 82, 0, [0], []) rfl rfl rfl ?_
    refine bGo hA 5 2 (129, .getfield 319, 3, 83, 0, [12, 112, 0, 0, 0, 0], []) rfl rfl rfl ?_
    refine ⟨rfl, ?_⟩
    refine bEqI ((bn_bi (bw σ 12 111 ((bi σ 12 111) + 1)) 12 112).trans (congrArg bn (bi_nj (by decide) (by decide) (by decide)))) ?_
    refine bGo hA 5 3 (132, .i2l, 1, 84, 0, [], []) rfl rfl rfl ?_
    refine bGo hA 5 4 (133, .lmul, 1, 85, 0, [], []) rfl rfl rfl ?_
    refine bGo hA 5 5 (134, .ldc2_w 577, 3, 86, 0, [12345], []) rfl rfl rfl ?_
    refine bGo hA 5 6 (137, .ladd, 1, 87, 0, [], []) rfl rfl rfl ?_
    refine bGo hA 5 7 (138, .ldc2_w 579, 3, 88, 0, [2147483648], []) rfl rfl rfl ?_
    refine bGo hA 5 8 (141, .lrem, 1, 89, 0, [], []) rfl rfl rfl ?_
    refine ⟨by decide, ?_⟩
    refine bGo hA 5 9 (142, .l2i, 1, 90, 0, [], []) rfl rfl rfl ?_
    refine bEqI (bn_li ((((Int64.ofNat 1103515245) * (bL (bi σ 12 112))) + (Int64.ofNat 12345)) - (((Int64.ofNat 1103515245) * (bL (bi σ 12 112))) + (Int64.ofNat 12345)) / (Int64.ofNat 2147483648) * (Int64.ofNat 2147483648))) ?_
    refine bGo hA 5 10 (143, .putfield 319, 3, 91, 0, [12, 112, 0, 0, 0, 0], []) rfl rfl rfl ?_
    refine ⟨rfl, ?_⟩
    refine bGo hA 5 11 (146, .aload_n 0, 1, 92, 0, [0], []) rfl rfl rfl ?_
    refine bGo hA 5 12 (147, .getfield 319, 3, 93, 0, [12, 112, 0, 0, 0, 0], []) rfl rfl rfl ?_
    refine ⟨rfl, ?_⟩
    refine bEqI ((bn_bi (bw (bw σ 12 111 ((bi σ 12 111) + 1)) 12 112 (bLi ((((Int64.ofNat 1103515245) * (bL (bi σ 12 112))) + (Int64.ofNat 12345)) - (((Int64.ofNat 1103515245) * (bL (bi σ 12 112))) + (Int64.ofNat 12345)) / (Int64.ofNat 2147483648) * (Int64.ofNat 2147483648)))) 12 112).trans (congrArg bn (bi_eq (bRgI _)))) ?_
    refine bGo hA 5 13 (150, .ldc_w 581, 3, 94, 0, [581], [(65536, 0)]) rfl rfl rfl ?_
    refine bEqI bl_65536 ?_
    refine bGo hA 5 14 (153, .idiv, 1, 95, 0, [], []) rfl rfl rfl ?_
    refine ⟨by decide, ?_⟩
    refine bEqI (bn_div (bRgI _) (by decide) (h.1 c1).2.1) ?_
    refine bGo hA 5 15 (154, .bipush (10), 2, 96, 0, [], [(10, 0)]) rfl rfl rfl ?_
    refine bEqI bl_10 ?_
    refine bGo hA 6 0 (156, .irem, 1, 97, 0, [], []) rfl rfl rfl ?_
    refine ⟨by decide, ?_⟩
    refine bEqI (bn_rem (bRg_div (bRgI _) (h.1 c1).2.1) (by decide) (Int.ediv_nonneg (h.1 c1).2.1 (by decide))) ?_
    refine bGo hA 6 1 (157, .aload_n 0, 1, 98, 0, [0], []) rfl rfl rfl ?_
    refine bGo hA 6 2 (158, .getfield 122, 3, 99, 0, [12, 41, 3, 93, 1, 0], []) rfl rfl rfl ?_
    refine ⟨rfl, ?_⟩
    refine bGo hA 6 3 (161, .iload_n 1, 1, 100, 0, [1], []) rfl rfl rfl ?_
    refine bGo hA 6 4 (162, .iaload, 1, 101, 0, [], []) rfl rfl rfl ?_
    refine ⟨rfl, (bIxP (x := l1) (n := 16) h_l1 (h.1 c1).2.2.1), ?_⟩
    refine bEqL (x := l1) h_l1 ?_
    refine bEqI (congrArg bn (show bi (bw (bw σ 12 111 ((bi σ 12 111) + 1)) 12 112 (bLi ((((Int64.ofNat 1103515245) * (bL (bi σ 12 112))) + (Int64.ofNat 12345)) - (((Int64.ofNat 1103515245) * (bL (bi σ 12 112))) + (Int64.ofNat 12345)) / (Int64.ofNat 2147483648) * (Int64.ofNat 2147483648)))) 93 l1 = (bi σ 93 l1) from ((bi_ne (by decide)).trans (bi_ne (by decide))))) ?_
    refine bGo hA 6 5 (163, .if_icmp .lt (19), 3, 102, 110, [], []) rfl rfl rfl ?_
    refine bB_lt (x := (((bLi ((((Int64.ofNat 1103515245) * (bL (bi σ 12 112))) + (Int64.ofNat 12345)) - (((Int64.ofNat 1103515245) * (bL (bi σ 12 112))) + (Int64.ofNat 12345)) / (Int64.ofNat 2147483648) * (Int64.ofNat 2147483648))) / 65536) % 10)) (y := (bi σ 93 l1)) (bRg_mod (by decide) (by decide)) (bi_rg _ _ _) (fun c2 => ?_) (fun c2 => ?_)
    · refine bGo hA 6 14 (182, .iinc 5 (1), 3, 111, 0, [5], [(1, 0)]) rfl rfl rfl ?_
      refine bEqC (fun v => A (111, [.ref 12, .int (bn l1), v2, v3, .int (bn l4), .int v], [], (bw (bw σ 12 111 ((bi σ 12 111) + 1)) 12 112 (bLi ((((Int64.ofNat 1103515245) * (bL (bi σ 12 112))) + (Int64.ofNat 12345)) - (((Int64.ofNat 1103515245) * (bL (bi σ 12 112))) + (Int64.ofNat 12345)) / (Int64.ofNat 2147483648) * (Int64.ofNat 2147483648)))))) ((congrArg (fun w => bn l5 + w) bl_1).trans (bn_add l5 1)) ?_
      refine bGo hA 6 15 (185, .goto (-77), 3, 112, 70, [], []) rfl rfl rfl ?_
      exact ((h.1 c1).2.2.2.1 c2).2
    · refine bGo hA 6 6 (166, .iload 4, 2, 103, 0, [4], []) rfl rfl rfl ?_
      refine bGo hA 6 7 (168, .ifCond .eq (14), 3, 104, 110, [], []) rfl rfl rfl ?_
      refine bB_eq0 (x := l4) h_l4 (fun c3 => ?_) (fun c3 => ?_)
      · refine bGo hA 6 14 (182, .iinc 5 (1), 3, 111, 0, [5], [(1, 0)]) rfl rfl rfl ?_
        refine bEqC (fun v => A (111, [.ref 12, .int (bn l1), v2, v3, .int (bn l4), .int v], [], (bw (bw σ 12 111 ((bi σ 12 111) + 1)) 12 112 (bLi ((((Int64.ofNat 1103515245) * (bL (bi σ 12 112))) + (Int64.ofNat 12345)) - (((Int64.ofNat 1103515245) * (bL (bi σ 12 112))) + (Int64.ofNat 12345)) / (Int64.ofNat 2147483648) * (Int64.ofNat 2147483648)))))) ((congrArg (fun w => bn l5 + w) bl_1).trans (bn_add l5 1)) ?_
        refine bGo hA 6 15 (185, .goto (-77), 3, 112, 70, [], []) rfl rfl rfl ?_
        exact (((h.1 c1).2.2.2.2 c2).1 c3).2
      · refine bGo hA 6 8 (171, .iload 5, 2, 105, 0, [5], []) rfl rfl rfl ?_
        refine bGo hA 6 9 (173, .ifCond .ne (7), 3, 106, 108, [], []) rfl rfl rfl ?_
        refine bB_eq0 (x := l5) h_l5 (fun c4 => ?_) (fun c4 => ?_)
        · refine bGo hA 6 10 (176, .iconst (0), 1, 107, 0, [], [(0, 0)]) rfl rfl rfl ?_
          refine bEqI bl_0 ?_
          refine bGo hA 6 11 (177, .goto (4), 3, 108, 109, [], []) rfl rfl rfl ?_
          refine bGo hA 6 13 (181, .ireturn, 1, 110, 0, [1], []) rfl rfl rfl ?_
          exact ((((h.1 c1).2.2.2.2 c2).2 c3).1 c4)
        · refine bGo hA 6 12 (180, .iconst (1), 1, 109, 0, [], [(1, 0)]) rfl rfl rfl ?_
          refine bEqI bl_1 ?_
          refine bGo hA 6 13 (181, .ireturn, 1, 110, 0, [1], []) rfl rfl rfl ?_
          exact ((((h.1 c1).2.2.2.2 c2).2 c3).2 c4)
  · refine bGo hA 7 0 (188, .iconst (2), 1, 113, 0, [], [(2, 0)]) rfl rfl rfl ?_
    refine bEqI bl_2 ?_
    refine bGo hA 7 1 (189, .ireturn, 1, 0, 0, [1], []) rfl rfl rfl ?_
    exact (h.2 c1)


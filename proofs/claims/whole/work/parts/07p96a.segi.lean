/-! segments of methods 4,89,253,180,181,182,14,39,254,255,303, by program (wip/whole/gen13.py): from a cut of a method on to the next cuts -/
theorem sq4_0 {lvl : Nat} {C : bCall} {Q : bPost} {A : bPt → Prop} (hC : bMono C) (hA : bClosed lvl bm4 C Q A) {a0 : Nat} {x1 : Int} {σ : bSt} (h_a0 : a0 % 256 = 0) (h_x1 : bRg x1)
  (h : ((x1 < 0 → Q (.inl (some (.int (bn (-1))))) σ) ∧ (¬ x1 < 0 → ((x1 < (bi σ a0 1) → (¬ bTy (256 * (1 * (a0 / 256) + 0) + 13) = 9 ∧ (bRg (bLen σ (256 * (1 * (a0 / 256) + 0) + 13) : Int) ∧ ((x1 < (bLen σ (256 * (1 * (a0 / 256) + 0) + 13) : Int) → (bTy (256 * (1 * (a0 / 256) + 0) + 13) = 0 ∧ ((0 ≤ x1 ∧ x1 < (bLen σ (256 * (1 * (a0 / 256) + 0) + 13) : Int)) ∧ Q (.inl (some (.int (bn (bi σ (256 * (1 * (a0 / 256) + 0) + 13) x1))))) σ))) ∧ (¬ x1 < (bLen σ (256 * (1 * (a0 / 256) + 0) + 13) : Int) → Q (.inl (some (.int (bn (-1))))) σ))))) ∧ (¬ x1 < (bi σ a0 1) → Q (.inl (some (.int (bn (-1))))) σ))))) : A (0, [.ref a0, .int (bn x1)], [], σ) := by
  refine bGo hA 0 0 (0, .iload_n 1, 1, 1, 0, [1], []) rfl rfl rfl ?_
  refine bGo hA 0 1 (1, .ifCond .lt (29), 3, 2, 16, [], []) rfl rfl rfl ?_
  refine bB_lt0 (x := x1) h_x1 (fun c1 => ?_) (fun c1 => ?_)
  · refine bGo hA 1 0 (30, .iconst (-1), 1, 17, 0, [], [(-1, 0)]) rfl rfl rfl ?_
    refine bEqI bl_m1 ?_
    refine bGo hA 1 1 (31, .ireturn, 1, 0, 0, [1], []) rfl rfl rfl ?_
    exact (h.1 c1)
  · refine bGo hA 0 2 (4, .iload_n 1, 1, 3, 0, [1], []) rfl rfl rfl ?_
    refine bGo hA 0 3 (5, .aload_n 0, 1, 4, 0, [0], []) rfl rfl rfl ?_
    refine bGo hA 0 4 (6, .getfield 57, 3, 5, 0, [0, 1, 0, 0, 0, 0], []) rfl rfl rfl ?_
    refine ⟨h_a0, ?_⟩
    refine bEqI (bn_bi σ a0 1) ?_
    refine bGo hA 0 5 (9, .if_icmp .ge (21), 3, 6, 16, [], []) rfl rfl rfl ?_
    refine bB_lt (x := x1) (y := (bi σ a0 1)) h_x1 (bi_rg _ _ _) (fun c2 => ?_) (fun c2 => ?_)
    · refine bGo hA 0 6 (12, .iload_n 1, 1, 7, 0, [1], []) rfl rfl rfl ?_
      refine bGo hA 0 7 (13, .aload_n 0, 1, 8, 0, [0], []) rfl rfl rfl ?_
      refine bGo hA 0 8 (14, .getfield 9, 3, 9, 0, [0, 2, 3, 13, 1, 0], []) rfl rfl rfl ?_
      refine ⟨h_a0, ?_⟩
      refine bGo hA 0 9 (17, .arraylength, 1, 10, 0, [], []) rfl rfl rfl ?_
      refine ⟨((h.2 c1).1 c2).1, ?_⟩
      refine bEqI (bn_nat _).symm ?_
      refine bGo hA 0 10 (18, .if_icmp .ge (12), 3, 11, 16, [], []) rfl rfl rfl ?_
      refine bB_lt (x := x1) (y := (bLen σ (256 * (1 * (a0 / 256) + 0) + 13) : Int)) h_x1 ((h.2 c1).1 c2).2.1 (fun c3 => ?_) (fun c3 => ?_)
      · refine bGo hA 0 11 (21, .aload_n 0, 1, 12, 0, [0], []) rfl rfl rfl ?_
        refine bGo hA 0 12 (22, .getfield 9, 3, 13, 0, [0, 2, 3, 13, 1, 0], []) rfl rfl rfl ?_
        refine ⟨h_a0, ?_⟩
        refine bGo hA 0 13 (25, .iload_n 1, 1, 14, 0, [1], []) rfl rfl rfl ?_
        refine bGo hA 0 14 (26, .iaload, 1, 15, 0, [], []) rfl rfl rfl ?_
        refine ⟨(((h.2 c1).1 c2).2.2.1 c3).1, (bIxP (x := x1) (n := bLen σ (256 * (1 * (a0 / 256) + 0) + 13)) h_x1 (((h.2 c1).1 c2).2.2.1 c3).2.1), ?_⟩
        refine bEqL (x := x1) h_x1 ?_
        refine bGo hA 0 15 (27, .goto (4), 3, 16, 17, [], []) rfl rfl rfl ?_
        refine bGo hA 1 1 (31, .ireturn, 1, 0, 0, [1], []) rfl rfl rfl ?_
        exact (((h.2 c1).1 c2).2.2.1 c3).2.2
      · refine bGo hA 1 0 (30, .iconst (-1), 1, 17, 0, [], [(-1, 0)]) rfl rfl rfl ?_
        refine bEqI bl_m1 ?_
        refine bGo hA 1 1 (31, .ireturn, 1, 0, 0, [1], []) rfl rfl rfl ?_
        exact (((h.2 c1).1 c2).2.2.2 c3)
    · refine bGo hA 1 0 (30, .iconst (-1), 1, 17, 0, [], [(-1, 0)]) rfl rfl rfl ?_
      refine bEqI bl_m1 ?_
      refine bGo hA 1 1 (31, .ireturn, 1, 0, 0, [1], []) rfl rfl rfl ?_
      exact ((h.2 c1).2 c2)

theorem sq89_0 {lvl : Nat} {C : bCall} {Q : bPost} {A : bPt → Prop} (hC : bMono C) (hA : bClosed lvl bm89 C Q A) {x1 : Int} {σ : bSt}  (h_x1 : bRg x1)
  (h : ((x1 < 0 → Q (.inl (some (.ref 0))) σ) ∧ (¬ x1 < 0 → ((x1 < 121 → ((0 ≤ x1 ∧ x1 < 121) ∧ ((br σ 33 x1 = none → Q (.inl (some (.ref 0))) σ) ∧ (∀ z3 : Nat, br σ 33 x1 = some z3 → Q (.inl (some (.ref z3))) σ)))) ∧ (¬ x1 < 121 → Q (.inl (some (.ref 0))) σ))))) : A (0, [.ref 6, .int (bn x1), .float 0], [], σ) := by
  refine bGo hA 0 0 (0, .iload_n 1, 1, 1, 0, [1], []) rfl rfl rfl ?_
  refine bGo hA 0 1 (1, .ifCond .lt (21), 3, 2, 12, [], []) rfl rfl rfl ?_
  refine bB_lt0 (x := x1) h_x1 (fun c1 => ?_) (fun c1 => ?_)
  · refine bGo hA 0 12 (22, .aconst_null, 1, 13, 0, [], []) rfl rfl rfl ?_
    refine bGo hA 0 13 (23, .astore_n 2, 1, 14, 0, [2], []) rfl rfl rfl ?_
    refine bGo hA 0 14 (24, .aload_n 2, 1, 15, 0, [2], []) rfl rfl rfl ?_
    refine bGo hA 0 15 (25, .ifnonnull (10), 3, 16, 19, [], []) rfl rfl rfl ?_
    refine bGo hA 1 0 (28, .aload_n 0, 1, 17, 0, [0], []) rfl rfl rfl ?_
    refine bGo hA 1 1 (29, .getfield 37, 3, 18, 0, [6, 15, 3, 0, 0, 0], []) rfl rfl rfl ?_
    refine ⟨rfl, ?_⟩
    refine bGo hA 1 2 (32, .goto (4), 3, 19, 20, [], []) rfl rfl rfl ?_
    refine bGo hA 1 4 (36, .areturn, 1, 0, 0, [4], []) rfl rfl rfl ?_
    exact (h.1 c1)
  · refine bGo hA 0 2 (4, .iload_n 1, 1, 3, 0, [1], []) rfl rfl rfl ?_
    refine bGo hA 0 3 (5, .aload_n 0, 1, 4, 0, [0], []) rfl rfl rfl ?_
    refine bGo hA 0 4 (6, .getfield 32, 3, 5, 0, [6, 14, 3, 33, 1, 0], []) rfl rfl rfl ?_
    refine ⟨rfl, ?_⟩
    refine bGo hA 0 5 (9, .arraylength, 1, 6, 0, [], []) rfl rfl rfl ?_
    refine ⟨by decide, ?_⟩
    refine bEqI (bn_nat 121).symm ?_
    refine bGo hA 0 6 (10, .if_icmp .ge (12), 3, 7, 12, [], []) rfl rfl rfl ?_
    refine bB_lt (x := x1) (y := 121) h_x1 (by decide : bRg 121) (fun c2 => ?_) (fun c2 => ?_)
    · refine bGo hA 0 7 (13, .aload_n 0, 1, 8, 0, [0], []) rfl rfl rfl ?_
      refine bGo hA 0 8 (14, .getfield 32, 3, 9, 0, [6, 14, 3, 33, 1, 0], []) rfl rfl rfl ?_
      refine ⟨rfl, ?_⟩
      refine bGo hA 0 9 (17, .iload_n 1, 1, 10, 0, [1], []) rfl rfl rfl ?_
      refine bGo hA 0 10 (18, .aaload, 1, 11, 0, [10, 0], []) rfl rfl rfl ?_
      refine ⟨rfl, (bIxP (x := x1) (n := 121) h_x1 ((h.2 c1).1 c2).1), ?_⟩
      refine bOptX (P := fun v => A (11, [.ref 6, .int (bn x1), .float 0], v :: [], σ)) (a := 33) (x := x1) h_x1 (fun c4 => ?_) (fun z3 c4 => ?_)
      · refine bGo hA 0 11 (19, .goto (4), 3, 12, 13, [], []) rfl rfl rfl ?_
        refine bGo hA 0 13 (23, .astore_n 2, 1, 14, 0, [2], []) rfl rfl rfl ?_
        refine bGo hA 0 14 (24, .aload_n 2, 1, 15, 0, [2], []) rfl rfl rfl ?_
        refine bGo hA 0 15 (25, .ifnonnull (10), 3, 16, 19, [], []) rfl rfl rfl ?_
        refine bGo hA 1 0 (28, .aload_n 0, 1, 17, 0, [0], []) rfl rfl rfl ?_
        refine bGo hA 1 1 (29, .getfield 37, 3, 18, 0, [6, 15, 3, 0, 0, 0], []) rfl rfl rfl ?_
        refine ⟨rfl, ?_⟩
        refine bGo hA 1 2 (32, .goto (4), 3, 19, 20, [], []) rfl rfl rfl ?_
        refine bGo hA 1 4 (36, .areturn, 1, 0, 0, [4], []) rfl rfl rfl ?_
        exact (((h.2 c1).1 c2).2.1 c4)
      · refine bGo hA 0 11 (19, .goto (4), 3, 12, 13, [], []) rfl rfl rfl ?_
        refine bGo hA 0 13 (23, .astore_n 2, 1, 14, 0, [2], []) rfl rfl rfl ?_
        refine bGo hA 0 14 (24, .aload_n 2, 1, 15, 0, [2], []) rfl rfl rfl ?_
        refine bGo hA 0 15 (25, .ifnonnull (10), 3, 16, 19, [], []) rfl rfl rfl ?_
        refine bGo hA 1 3 (35, .aload_n 2, 1, 20, 0, [2], []) rfl rfl rfl ?_
        refine bGo hA 1 4 (36, .areturn, 1, 0, 0, [4], []) rfl rfl rfl ?_
        exact (((h.2 c1).1 c2).2.2 z3 c4)
    · refine bGo hA 0 12 (22, .aconst_null, 1, 13, 0, [], []) rfl rfl rfl ?_
      refine bGo hA 0 13 (23, .astore_n 2, 1, 14, 0, [2], []) rfl rfl rfl ?_
      refine bGo hA 0 14 (24, .aload_n 2, 1, 15, 0, [2], []) rfl rfl rfl ?_
      refine bGo hA 0 15 (25, .ifnonnull (10), 3, 16, 19, [], []) rfl rfl rfl ?_
      refine bGo hA 1 0 (28, .aload_n 0, 1, 17, 0, [0], []) rfl rfl rfl ?_
      refine bGo hA 1 1 (29, .getfield 37, 3, 18, 0, [6, 15, 3, 0, 0, 0], []) rfl rfl rfl ?_
      refine ⟨rfl, ?_⟩
      refine bGo hA 1 2 (32, .goto (4), 3, 19, 20, [], []) rfl rfl rfl ?_
      refine bGo hA 1 4 (36, .areturn, 1, 0, 0, [4], []) rfl rfl rfl ?_
      exact ((h.2 c1).2 c2)

theorem sq253_0 {lvl : Nat} {C : bCall} {Q : bPost} {A : bPt → Prop} (hC : bMono C) (hA : bClosed lvl bm253 C Q A) {x1 : Int} {σ : bSt}  (h_x1 : bRg x1)
  (h : (bRg ((bi σ 12 49) - 1) ∧ (C 199 [.int (bn x1), .int (bn 0), .int (bn ((bi σ 12 49) - 1))] σ (bRn (fun r3 s1 => ((r3 = 0 ∨ r3 = 1) ∧ Q (.inl (some (.int (bn r3)))) s1)))))) : A (0, [.ref 12, .int (bn x1)], [], σ) := by
  refine bGo hA 0 0 (0, .iload_n 1, 1, 1, 0, [1], []) rfl rfl rfl ?_
  refine bGo hA 0 1 (1, .iconst (0), 1, 2, 0, [], [(0, 0)]) rfl rfl rfl ?_
  refine bEqI bl_0 ?_
  refine bGo hA 0 2 (2, .aload_n 0, 1, 3, 0, [0], []) rfl rfl rfl ?_
  refine bGo hA 0 3 (3, .getfield 410, 3, 4, 0, [12, 49, 0, 0, 0, 0], []) rfl rfl rfl ?_
  refine ⟨rfl, ?_⟩
  refine bEqI (bn_bi σ 12 49) ?_
  refine bGo hA 0 4 (6, .iconst (1), 1, 5, 0, [], [(1, 0)]) rfl rfl rfl ?_
  refine bEqI bl_1 ?_
  refine bGo hA 0 5 (7, .isub, 1, 6, 0, [], []) rfl rfl rfl ?_
  refine bEqI (bn_sub (bi σ 12 49) 1) ?_
  refine bGo hA 0 6 (8, .invokestatic 325, 3, 7, 0, [2, 199, 3], []) rfl rfl rfl ?_
  refine hC _ _ _ _ _ (bRn_e (fun r3 s1 q4 k2 => ?_)) h.2
  show A (7, [.ref 12, .int (bn x1)], [.int (bn r3)], s1)
  refine bGo hA 0 7 (11, .ireturn, 1, 0, 0, [2], []) rfl rfl rfl ?_
  exact ⟨b01 k2.1, k2.2⟩

theorem sq180_0 {lvl : Nat} {C : bCall} {Q : bPost} {A : bPt → Prop} (hC : bMono C) (hA : bClosed lvl bm180 C Q A) {x1 : Int} {x2 : Int} {σ : bSt}  (h_x1 : bRg x1) (h_x2 : bRg x2)
  (h : (C 136 [.int (bn x1), .int (bn (bi σ 6 13))] σ (bRvx (fun s1 => (C 137 [.int (bn x2)] s1 (bRvx (fun s3 => (C 89 [.ref 6, .int (bn x1)] s3 (bRa (fun r7 s5 => (r7 % 256 = 0 ∧ (C 4 [.ref r7, .int (bn x2)] s5 (bRn (fun r10 s8 => Q (.inl (some (.int (bn r10)))) s8)))))))) (fun E s3 => Q (.inr E) s3)))) (fun E s1 => Q (.inr E) s1)))) : A (0, [.ref 11, .int (bn x1), .int (bn x2)], [], σ) := by
  refine bGo hA 0 0 (0, .iload_n 1, 1, 1, 0, [1], []) rfl rfl rfl ?_
  refine bGo hA 0 1 (1, .aload_n 0, 1, 2, 0, [0], []) rfl rfl rfl ?_
  refine bGo hA 0 2 (2, .getfield 42, 3, 3, 0, [11, 4, 3, 6, 0, 0], []) rfl rfl rfl ?_
  refine ⟨rfl, ?_⟩
  refine bGo hA 0 3 (5, .getfield 243, 3, 4, 0, [6, 13, 0, 0, 0, 0], []) rfl rfl rfl ?_
  refine ⟨rfl, ?_⟩
  refine bEqI (bn_bi σ 6 13) ?_
  refine bGo hA 0 4 (8, .invokestatic 76, 3, 5, 0, [2, 136, 2], []) rfl rfl rfl ?_
  refine hC _ _ _ _ _ (bRvx_e (fun s1 k2 => ?_) (fun E s1 k2 => ?_)) h
  · show A (5, [.ref 11, .int (bn x1), .int (bn x2)], [], s1)
    refine bGo hA 0 5 (11, .iload_n 2, 1, 6, 0, [2], []) rfl rfl rfl ?_
    refine bGo hA 0 6 (12, .invokestatic 121, 3, 7, 0, [2, 137, 1], []) rfl rfl rfl ?_
    refine hC _ _ _ _ _ (bRvx_e (fun s3 k4 => ?_) (fun E s3 k4 => ?_)) k2
    · show A (7, [.ref 11, .int (bn x1), .int (bn x2)], [], s3)
      refine bGo hA 0 7 (15, .aload_n 0, 1, 8, 0, [0], []) rfl rfl rfl ?_
      refine bGo hA 0 8 (16, .getfield 42, 3, 9, 0, [11, 4, 3, 6, 0, 0], []) rfl rfl rfl ?_
      refine ⟨rfl, ?_⟩
      refine bGo hA 0 9 (19, .iload_n 1, 1, 10, 0, [1], []) rfl rfl rfl ?_
      refine bGo hA 0 10 (20, .invokevirtual 247, 3, 11, 0, [0, 6, 89, 1], []) rfl rfl rfl ?_
      refine ⟨rfl, ?_⟩
      refine hC _ _ _ _ _ (bRa_e (fun r7 s5 k6 => ?_)) k4
      show A (11, [.ref 11, .int (bn x1), .int (bn x2)], [.ref r7], s5)
      refine bGo hA 0 11 (23, .iload_n 2, 1, 12, 0, [2], []) rfl rfl rfl ?_
      refine bGo hA 0 12 (24, .invokevirtual 251, 3, 13, 0, [0, 0, 4, 1], []) rfl rfl rfl ?_
      refine ⟨k6.1, ?_⟩
      refine hC _ _ _ _ _ (bRn_e (fun r10 s8 q11 k9 => ?_)) k6.2
      show A (13, [.ref 11, .int (bn x1), .int (bn x2)], [.int (bn r10)], s8)
      refine bGo hA 0 13 (27, .ireturn, 1, 0, 0, [1], []) rfl rfl rfl ?_
      exact k9
    · exact k4
  · exact k2

theorem sq181_0 {lvl : Nat} {C : bCall} {Q : bPost} {A : bPt → Prop} (hC : bMono C) (hA : bClosed lvl bm181 C Q A) {x1 : Int} {x2 : Int} {σ : bSt}  (h_x1 : bRg x1) (h_x2 : bRg x2)
  (h : (C 136 [.int (bn x1), .int (bn (bi σ 6 13))] σ (bRvx (fun s1 => (C 138 [.int (bn x2), .int (bn 0), .int (bn 2)] s1 (bRvx (fun s3 => (C 89 [.ref 6, .int (bn x1)] s3 (bRa (fun r7 s5 => (r7 % 256 = 0 ∧ (C 14 [.ref r7, .int (bn x2)] s5 (bRn (fun r10 s8 => Q (.inl (some (.int (bn r10)))) s8)))))))) (fun E s3 => Q (.inr E) s3)))) (fun E s1 => Q (.inr E) s1)))) : A (0, [.ref 11, .int (bn x1), .int (bn x2)], [], σ) := by
  refine bGo hA 0 0 (0, .iload_n 1, 1, 1, 0, [1], []) rfl rfl rfl ?_
  refine bGo hA 0 1 (1, .aload_n 0, 1, 2, 0, [0], []) rfl rfl rfl ?_
  refine bGo hA 0 2 (2, .getfield 42, 3, 3, 0, [11, 4, 3, 6, 0, 0], []) rfl rfl rfl ?_
  refine ⟨rfl, ?_⟩
  refine bGo hA 0 3 (5, .getfield 243, 3, 4, 0, [6, 13, 0, 0, 0, 0], []) rfl rfl rfl ?_
  refine ⟨rfl, ?_⟩
  refine bEqI (bn_bi σ 6 13) ?_
  refine bGo hA 0 4 (8, .invokestatic 76, 3, 5, 0, [2, 136, 2], []) rfl rfl rfl ?_
  refine hC _ _ _ _ _ (bRvx_e (fun s1 k2 => ?_) (fun E s1 k2 => ?_)) h
  · show A (5, [.ref 11, .int (bn x1), .int (bn x2)], [], s1)
    refine bGo hA 0 5 (11, .iload_n 2, 1, 6, 0, [2], []) rfl rfl rfl ?_
    refine bGo hA 0 6 (12, .iconst (0), 1, 7, 0, [], [(0, 0)]) rfl rfl rfl ?_
    refine bEqI bl_0 ?_
    refine bGo hA 0 7 (13, .iconst (2), 1, 8, 0, [], [(2, 0)]) rfl rfl rfl ?_
    refine bEqI bl_2 ?_
    refine bGo hA 0 8 (14, .invokestatic 80, 3, 9, 0, [2, 138, 3], []) rfl rfl rfl ?_
    refine hC _ _ _ _ _ (bRvx_e (fun s3 k4 => ?_) (fun E s3 k4 => ?_)) k2
    · show A (9, [.ref 11, .int (bn x1), .int (bn x2)], [], s3)
      refine bGo hA 0 9 (17, .aload_n 0, 1, 10, 0, [0], []) rfl rfl rfl ?_
      refine bGo hA 0 10 (18, .getfield 42, 3, 11, 0, [11, 4, 3, 6, 0, 0], []) rfl rfl rfl ?_
      refine ⟨rfl, ?_⟩
      refine bGo hA 0 11 (21, .iload_n 1, 1, 12, 0, [1], []) rfl rfl rfl ?_
      refine bGo hA 0 12 (22, .invokevirtual 247, 3, 13, 0, [0, 6, 89, 1], []) rfl rfl rfl ?_
      refine ⟨rfl, ?_⟩
      refine hC _ _ _ _ _ (bRa_e (fun r7 s5 k6 => ?_)) k4
      show A (13, [.ref 11, .int (bn x1), .int (bn x2)], [.ref r7], s5)
      refine bGo hA 0 13 (25, .iload_n 2, 1, 14, 0, [2], []) rfl rfl rfl ?_
      refine bGo hA 0 14 (26, .invokevirtual 256, 3, 15, 0, [0, 0, 14, 1], []) rfl rfl rfl ?_
      refine ⟨k6.1, ?_⟩
      refine hC _ _ _ _ _ (bRn_e (fun r10 s8 q11 k9 => ?_)) k6.2
      show A (15, [.ref 11, .int (bn x1), .int (bn x2)], [.int (bn r10)], s8)
      refine bGo hA 0 15 (29, .ireturn, 1, 0, 0, [1], []) rfl rfl rfl ?_
      exact k9
    · exact k4
  · exact k2

theorem sq182_0 {lvl : Nat} {C : bCall} {Q : bPost} {A : bPt → Prop} (hC : bMono C) (hA : bClosed lvl bm182 C Q A) {x1 : Int} {x2 : Int} {σ : bSt}  (h_x1 : bRg x1) (h_x2 : bRg x2)
  (h : (C 136 [.int (bn x1), .int (bn (bi σ 6 13))] σ (bRvx (fun s1 => (C 137 [.int (bn x2)] s1 (bRvx (fun s3 => (C 89 [.ref 6, .int (bn x1)] s3 (bRa (fun r7 s5 => (r7 % 256 = 0 ∧ ((256 * (2 * (r7 / 256) + 1) + 4) % 256 = 4 ∧ (C 39 [.ref (256 * (2 * (r7 / 256) + 1) + 4), .int (bn x2)] s5 (bRn (fun r10 s8 => Q (.inl (some (.int (bn r10)))) s8))))))))) (fun E s3 => Q (.inr E) s3)))) (fun E s1 => Q (.inr E) s1)))) : A (0, [.ref 11, .int (bn x1), .int (bn x2)], [], σ) := by
  refine bGo hA 0 0 (0, .iload_n 1, 1, 1, 0, [1], []) rfl rfl rfl ?_
  refine bGo hA 0 1 (1, .aload_n 0, 1, 2, 0, [0], []) rfl rfl rfl ?_
  refine bGo hA 0 2 (2, .getfield 42, 3, 3, 0, [11, 4, 3, 6, 0, 0], []) rfl rfl rfl ?_
  refine ⟨rfl, ?_⟩
  refine bGo hA 0 3 (5, .getfield 243, 3, 4, 0, [6, 13, 0, 0, 0, 0], []) rfl rfl rfl ?_
  refine ⟨rfl, ?_⟩
  refine bEqI (bn_bi σ 6 13) ?_
  refine bGo hA 0 4 (8, .invokestatic 76, 3, 5, 0, [2, 136, 2], []) rfl rfl rfl ?_
  refine hC _ _ _ _ _ (bRvx_e (fun s1 k2 => ?_) (fun E s1 k2 => ?_)) h
  · show A (5, [.ref 11, .int (bn x1), .int (bn x2)], [], s1)
    refine bGo hA 0 5 (11, .iload_n 2, 1, 6, 0, [2], []) rfl rfl rfl ?_
    refine bGo hA 0 6 (12, .invokestatic 121, 3, 7, 0, [2, 137, 1], []) rfl rfl rfl ?_
    refine hC _ _ _ _ _ (bRvx_e (fun s3 k4 => ?_) (fun E s3 k4 => ?_)) k2
    · show A (7, [.ref 11, .int (bn x1), .int (bn x2)], [], s3)
      refine bGo hA 0 7 (15, .aload_n 0, 1, 8, 0, [0], []) rfl rfl rfl ?_
      refine bGo hA 0 8 (16, .getfield 42, 3, 9, 0, [11, 4, 3, 6, 0, 0], []) rfl rfl rfl ?_
      refine ⟨rfl, ?_⟩
      refine bGo hA 0 9 (19, .iload_n 1, 1, 10, 0, [1], []) rfl rfl rfl ?_
      refine bGo hA 0 10 (20, .invokevirtual 247, 3, 11, 0, [0, 6, 89, 1], []) rfl rfl rfl ?_
      refine ⟨rfl, ?_⟩
      refine hC _ _ _ _ _ (bRa_e (fun r7 s5 k6 => ?_)) k4
      show A (11, [.ref 11, .int (bn x1), .int (bn x2)], [.ref r7], s5)
      refine bGo hA 0 11 (23, .getfield 259, 3, 12, 0, [0, 4, 3, 4, 2, 1], []) rfl rfl rfl ?_
      refine ⟨k6.1, ?_⟩
      refine bGo hA 0 12 (26, .iload_n 2, 1, 13, 0, [2], []) rfl rfl rfl ?_
      refine bGo hA 0 13 (27, .invokevirtual 263, 3, 14, 0, [0, 4, 39, 1], []) rfl rfl rfl ?_
      refine ⟨k6.2.1, ?_⟩
      refine hC _ _ _ _ _ (bRn_e (fun r10 s8 q11 k9 => ?_)) k6.2.2
      show A (14, [.ref 11, .int (bn x1), .int (bn x2)], [.int (bn r10)], s8)
      refine bGo hA 0 14 (30, .ireturn, 1, 0, 0, [1], []) rfl rfl rfl ?_
      exact k9
    · exact k4
  · exact k2

theorem sq14_0 {lvl : Nat} {C : bCall} {Q : bPost} {A : bPt → Prop} (hC : bMono C) (hA : bClosed lvl bm14 C Q A) {a0 : Nat} {x1 : Int} {σ : bSt} (h_a0 : a0 % 256 = 0) (h_x1 : bRg x1)
  (h : (((bi σ a0 5) = 0 → Q (.inl (some (.int (bn (-1))))) σ) ∧ (¬ (bi σ a0 5) = 0 → ((x1 = 0 → Q (.inl (some (.int (bn (bi σ a0 10))))) σ) ∧ (¬ x1 = 0 → ((x1 = 1 → Q (.inl (some (.int (bn (bi σ a0 11))))) σ) ∧ (¬ x1 = 1 → Q (.inl (some (.int (bn (bi σ a0 12))))) σ))))))) : A (0, [.ref a0, .int (bn x1)], [], σ) := by
  refine bGo hA 0 0 (0, .aload_n 0, 1, 1, 0, [0], []) rfl rfl rfl ?_
  refine bGo hA 0 1 (1, .getfield 99, 3, 2, 0, [0, 5, 1, 0, 0, 0], []) rfl rfl rfl ?_
  refine ⟨h_a0, ?_⟩
  refine bEqI (bn_bi σ a0 5) ?_
  refine bGo hA 0 2 (4, .ifCond .ne (5), 3, 3, 5, [], []) rfl rfl rfl ?_
  refine bB_eq0 (x := (bi σ a0 5)) (bi_rg _ _ _) (fun c1 => ?_) (fun c1 => ?_)
  · refine bGo hA 0 3 (7, .iconst (-1), 1, 4, 0, [], [(-1, 0)]) rfl rfl rfl ?_
    refine bEqI bl_m1 ?_
    refine bGo hA 0 4 (8, .ireturn, 1, 5, 0, [1], []) rfl rfl rfl ?_
    exact (h.1 c1)
  · refine bGo hA 0 5 (9, .iload_n 1, 1, 6, 0, [1], []) rfl rfl rfl ?_
    refine bGo hA 0 6 (10, .ifCond .ne (10), 3, 7, 10, [], []) rfl rfl rfl ?_
    refine bB_eq0 (x := x1) h_x1 (fun c2 => ?_) (fun c2 => ?_)
    · refine bGo hA 0 7 (13, .aload_n 0, 1, 8, 0, [0], []) rfl rfl rfl ?_
      refine bGo hA 0 8 (14, .getfield 25, 3, 9, 0, [0, 10, 0, 0, 0, 0], []) rfl rfl rfl ?_
      refine ⟨h_a0, ?_⟩
      refine bEqI (bn_bi σ a0 10) ?_
      refine bGo hA 0 9 (17, .goto (19), 3, 10, 18, [], []) rfl rfl rfl ?_
      refine bGo hA 1 2 (36, .ireturn, 1, 0, 0, [1], []) rfl rfl rfl ?_
      exact ((h.2 c1).1 c2)
    · refine bGo hA 0 10 (20, .iload_n 1, 1, 11, 0, [1], []) rfl rfl rfl ?_
      refine bGo hA 0 11 (21, .iconst (1), 1, 12, 0, [], [(1, 0)]) rfl rfl rfl ?_
      refine bEqI bl_1 ?_
      refine bGo hA 0 12 (22, .if_icmp .ne (10), 3, 13, 16, [], []) rfl rfl rfl ?_
      refine bB_eq (x := x1) (y := 1) h_x1 (by decide : bRg 1) (fun c3 => ?_) (fun c3 => ?_)
      · refine bGo hA 0 13 (25, .aload_n 0, 1, 14, 0, [0], []) rfl rfl rfl ?_
        refine bGo hA 0 14 (26, .getfield 29, 3, 15, 0, [0, 11, 0, 0, 0, 0], []) rfl rfl rfl ?_
        refine ⟨h_a0, ?_⟩
        refine bEqI (bn_bi σ a0 11) ?_
        refine bGo hA 0 15 (29, .goto (7), 3, 16, 18, [], []) rfl rfl rfl ?_
        refine bGo hA 1 2 (36, .ireturn, 1, 0, 0, [1], []) rfl rfl rfl ?_
        exact (((h.2 c1).2 c2).1 c3)
      · refine bGo hA 1 0 (32, .aload_n 0, 1, 17, 0, [0], []) rfl rfl rfl ?_
        refine bGo hA 1 1 (33, .getfield 32, 3, 18, 0, [0, 12, 0, 0, 0, 0], []) rfl rfl rfl ?_
        refine ⟨h_a0, ?_⟩
        refine bEqI (bn_bi σ a0 12) ?_
        refine bGo hA 1 2 (36, .ireturn, 1, 0, 0, [1], []) rfl rfl rfl ?_
        exact (((h.2 c1).2 c2).2 c3)

theorem sq39_0 {lvl : Nat} {C : bCall} {Q : bPost} {A : bPt → Prop} (hC : bMono C) (hA : bClosed lvl bm39 C Q A) {a0 : Nat} {x1 : Int} {σ : bSt} (h_a0 : a0 % 256 = 4) (h_x1 : bRg x1)
  (h : ((x1 < (bi σ a0 5) → (C 140 [.ref (256 * (1 * (a0 / 256) + 0) + 23), .int (bn x1)] σ (bRn (fun r4 s2 => Q (.inl (some (.int (bn r4)))) s2)))) ∧ (¬ x1 < (bi σ a0 5) → Q (.inl (some (.int (bn (-1))))) σ))) : A (0, [.ref a0, .int (bn x1)], [], σ) := by
  refine bGo hA 0 0 (0, .iload_n 1, 1, 1, 0, [1], []) rfl rfl rfl ?_
  refine bGo hA 0 1 (1, .aload_n 0, 1, 2, 0, [0], []) rfl rfl rfl ?_
  refine bGo hA 0 2 (2, .getfield 31, 3, 3, 0, [4, 5, 0, 0, 0, 0], []) rfl rfl rfl ?_
  refine ⟨h_a0, ?_⟩
  refine bEqI (bn_bi σ a0 5) ?_
  refine bGo hA 0 3 (5, .if_icmp .ge (14), 3, 4, 9, [], []) rfl rfl rfl ?_
  refine bB_lt (x := x1) (y := (bi σ a0 5)) h_x1 (bi_rg _ _ _) (fun c1 => ?_) (fun c1 => ?_)
  · refine bGo hA 0 4 (8, .aload_n 0, 1, 5, 0, [0], []) rfl rfl rfl ?_
    refine bGo hA 0 5 (9, .getfield 19, 3, 6, 0, [4, 6, 3, 23, 1, 0], []) rfl rfl rfl ?_
    refine ⟨h_a0, ?_⟩
    refine bGo hA 0 6 (12, .iload_n 1, 1, 7, 0, [1], []) rfl rfl rfl ?_
    refine bGo hA 0 7 (13, .invokestatic 34, 3, 8, 1, [2, 140, 2], []) rfl rfl rfl ?_
    refine hC _ _ _ _ _ (bRn_e (fun r4 s2 q5 k3 => ?_)) (h.1 c1)
    show A (8, [.ref a0, .int (bn x1)], [.int (bn r4)], s2)
    refine bGo hA 0 8 (16, .goto (4), 3, 9, 10, [], []) rfl rfl rfl ?_
    refine bGo hA 0 10 (20, .ireturn, 1, 0, 0, [1], []) rfl rfl rfl ?_
    exact k3
  · refine bGo hA 0 9 (19, .iconst (-1), 1, 10, 0, [], [(-1, 0)]) rfl rfl rfl ?_
    refine bEqI bl_m1 ?_
    refine bGo hA 0 10 (20, .ireturn, 1, 0, 0, [1], []) rfl rfl rfl ?_
    exact (h.2 c1)

theorem sq254_0 {lvl : Nat} {C : bCall} {Q : bPost} {A : bPt → Prop} (hC : bMono C) (hA : bClosed lvl bm254 C Q A) {x1 : Int} {x2 : Int} {σ : bSt}  (h_x1 : bRg x1) (h_x2 : bRg x2)
  (h : (C 253 [.ref 12, .int (bn x1)] σ (bRn (fun r3 s1 => ((r3 = 0 → (C 197 [.ref 12, .int (bn 1)] s1 (bRn (fun r8 s6 => ((r8 = 0 → ((0 ≤ x1 ∧ x1 < 120) ∧ ((x2 < (bi s6 105 x1) → (bRg (40 * x1) ∧ (bRg ((40 * x1) + x2) ∧ ((0 ≤ ((40 * x1) + x2) ∧ ((40 * x1) + x2) < 4800) ∧ Q (.inl (some (.int (bn (bi s6 106 ((40 * x1) + x2)))))) s6)))) ∧ (¬ x2 < (bi s6 105 x1) → Q (.inl (some (.int (bn (-1))))) s6)))) ∧ (¬ r8 = 0 → Q (.inl (some (.int (bn 0)))) s6)))))) ∧ (¬ r3 = 0 → ((x2 < 0 → (C 197 [.ref 12, .int (bn 1)] s1 (bRn (fun r15 s13 => ((r15 = 0 → ((0 ≤ x1 ∧ x1 < 120) ∧ ((x2 < (bi s13 105 x1) → (bRg (40 * x1) ∧ (bRg ((40 * x1) + x2) ∧ ((0 ≤ ((40 * x1) + x2) ∧ ((40 * x1) + x2) < 4800) ∧ Q (.inl (some (.int (bn (bi s13 106 ((40 * x1) + x2)))))) s13)))) ∧ (¬ x2 < (bi s13 105 x1) → Q (.inl (some (.int (bn (-1))))) s13)))) ∧ (¬ r15 = 0 → Q (.inl (some (.int (bn 0)))) s13)))))) ∧ (¬ x2 < 0 → (C 197 [.ref 12, .int (bn 0)] s1 (bRn (fun r21 s19 => ((r21 = 0 → ((0 ≤ x1 ∧ x1 < 120) ∧ ((x2 < (bi s19 105 x1) → (bRg (40 * x1) ∧ (bRg ((40 * x1) + x2) ∧ ((0 ≤ ((40 * x1) + x2) ∧ ((40 * x1) + x2) < 4800) ∧ Q (.inl (some (.int (bn (bi s19 106 ((40 * x1) + x2)))))) s19)))) ∧ (¬ x2 < (bi s19 105 x1) → Q (.inl (some (.int (bn (-1))))) s19)))) ∧ (¬ r21 = 0 → Q (.inl (some (.int (bn 0)))) s19))))))))))))) : A (0, [.ref 12, .int (bn x1), .int (bn x2)], [], σ) := by
  refine bGo hA 0 0 (0, .aload_n 0, 1, 1, 0, [0], []) rfl rfl rfl ?_
  refine bGo hA 0 1 (1, .aload_n 0, 1, 2, 0, [0], []) rfl rfl rfl ?_
  refine bGo hA 0 2 (2, .iload_n 1, 1, 3, 0, [1], []) rfl rfl rfl ?_
  refine bGo hA 0 3 (3, .invokevirtual 431, 3, 4, 0, [0, 12, 253, 1], []) rfl rfl rfl ?_
  refine ⟨rfl, ?_⟩
  refine hC _ _ _ _ _ (bRn_e (fun r3 s1 q4 k2 => ?_)) h
  show A (4, [.ref 12, .int (bn x1), .int (bn x2)], [.int (bn r3), .ref 12], s1)
  refine bGo hA 0 4 (6, .ifCond .eq (11), 3, 5, 9, [], []) rfl rfl rfl ?_
  refine bB_eq0 (x := r3) q4 (fun c5 => ?_) (fun c5 => ?_)
  · refine bGo hA 0 9 (17, .iconst (1), 1, 10, 0, [], [(1, 0)]) rfl rfl rfl ?_
    refine bEqI bl_1 ?_
    refine bGo hA 0 10 (18, .invokevirtual 333, 3, 11, 0, [0, 12, 197, 1], []) rfl rfl rfl ?_
    refine ⟨rfl, ?_⟩
    refine hC _ _ _ _ _ (bRn_e (fun r8 s6 q9 k7 => ?_)) (k2.1 c5)
    show A (11, [.ref 12, .int (bn x1), .int (bn x2)], [.int (bn r8)], s6)
    refine bGo hA 0 11 (21, .ifCond .eq (5), 3, 12, 14, [], []) rfl rfl rfl ?_
    refine bB_eq0 (x := r8) q9 (fun c10 => ?_) (fun c10 => ?_)
    · refine bGo hA 0 14 (26, .iload_n 2, 1, 15, 0, [2], []) rfl rfl rfl ?_
      refine bGo hA 0 15 (27, .aload_n 0, 1, 16, 0, [0], []) rfl rfl rfl ?_
      refine bGo hA 1 0 (28, .getfield 158, 3, 17, 0, [12, 54, 3, 105, 1, 0], []) rfl rfl rfl ?_
      refine ⟨rfl, ?_⟩
      refine bGo hA 1 1 (31, .iload_n 1, 1, 18, 0, [1], []) rfl rfl rfl ?_
      refine bGo hA 1 2 (32, .iaload, 1, 19, 0, [], []) rfl rfl rfl ?_
      refine ⟨rfl, (bIxP (x := x1) (n := 120) h_x1 (k7.1 c10).1), ?_⟩
      refine bEqL (x := x1) h_x1 ?_
      refine bGo hA 1 3 (33, .if_icmp .ge (17), 3, 20, 29, [], []) rfl rfl rfl ?_
      refine bB_lt (x := x2) (y := (bi s6 105 x1)) h_x2 (bi_rg _ _ _) (fun c11 => ?_) (fun c11 => ?_)
      · refine bGo hA 1 4 (36, .aload_n 0, 1, 21, 0, [0], []) rfl rfl rfl ?_
        refine bGo hA 1 5 (37, .getfield 161, 3, 22, 0, [12, 55, 3, 106, 1, 0], []) rfl rfl rfl ?_
        refine ⟨rfl, ?_⟩
        refine bGo hA 1 6 (40, .bipush (40), 2, 23, 0, [], [(40, 0)]) rfl rfl rfl ?_
        refine bEqI bl_40 ?_
        refine bGo hA 1 7 (42, .iload_n 1, 1, 24, 0, [1], []) rfl rfl rfl ?_
        refine bGo hA 1 8 (43, .imul, 1, 25, 0, [], []) rfl rfl rfl ?_
        refine bEqI (bn_mul 40 x1) ?_
        refine bGo hA 1 9 (44, .iload_n 2, 1, 26, 0, [2], []) rfl rfl rfl ?_
        refine bGo hA 1 10 (45, .iadd, 1, 27, 0, [], []) rfl rfl rfl ?_
        refine bEqI (bn_add (40 * x1) x2) ?_
        refine bGo hA 1 11 (46, .iaload, 1, 28, 0, [], []) rfl rfl rfl ?_
        refine ⟨rfl, (bIxP (x := ((40 * x1) + x2)) (n := 4800) ((k7.1 c10).2.1 c11).2.1 ((k7.1 c10).2.1 c11).2.2.1), ?_⟩
        refine bEqL (x := ((40 * x1) + x2)) ((k7.1 c10).2.1 c11).2.1 ?_
        refine bGo hA 1 12 (47, .goto (4), 3, 29, 30, [], []) rfl rfl rfl ?_
        refine bGo hA 1 14 (51, .ireturn, 1, 0, 0, [1], []) rfl rfl rfl ?_
        exact ((k7.1 c10).2.1 c11).2.2.2
      · refine bGo hA 1 13 (50, .iconst (-1), 1, 30, 0, [], [(-1, 0)]) rfl rfl rfl ?_
        refine bEqI bl_m1 ?_
        refine bGo hA 1 14 (51, .ireturn, 1, 0, 0, [1], []) rfl rfl rfl ?_
        exact ((k7.1 c10).2.2 c11)
    · refine bGo hA 0 12 (24, .iconst (0), 1, 13, 0, [], [(0, 0)]) rfl rfl rfl ?_
      refine bEqI bl_0 ?_
      refine bGo hA 0 13 (25, .ireturn, 1, 14, 0, [1], []) rfl rfl rfl ?_
      exact (k7.2 c10)
  · refine bGo hA 0 5 (9, .iload_n 2, 1, 6, 0, [2], []) rfl rfl rfl ?_
    refine bGo hA 0 6 (10, .ifCond .lt (7), 3, 7, 9, [], []) rfl rfl rfl ?_
    refine bB_lt0 (x := x2) h_x2 (fun c12 => ?_) (fun c12 => ?_)
    · refine bGo hA 0 9 (17, .iconst (1), 1, 10, 0, [], [(1, 0)]) rfl rfl rfl ?_
      refine bEqI bl_1 ?_
      refine bGo hA 0 10 (18, .invokevirtual 333, 3, 11, 0, [0, 12, 197, 1], []) rfl rfl rfl ?_
      refine ⟨rfl, ?_⟩
      refine hC _ _ _ _ _ (bRn_e (fun r15 s13 q16 k14 => ?_)) ((k2.2 c5).1 c12)
      show A (11, [.ref 12, .int (bn x1), .int (bn x2)], [.int (bn r15)], s13)
      refine bGo hA 0 11 (21, .ifCond .eq (5), 3, 12, 14, [], []) rfl rfl rfl ?_
      refine bB_eq0 (x := r15) q16 (fun c17 => ?_) (fun c17 => ?_)
      · refine bGo hA 0 14 (26, .iload_n 2, 1, 15, 0, [2], []) rfl rfl rfl ?_
        refine bGo hA 0 15 (27, .aload_n 0, 1, 16, 0, [0], []) rfl rfl rfl ?_
        refine bGo hA 1 0 (28, .getfield 158, 3, 17, 0, [12, 54, 3, 105, 1, 0], []) rfl rfl rfl ?_
        refine ⟨rfl, ?_⟩
        refine bGo hA 1 1 (31, .iload_n 1, 1, 18, 0, [1], []) rfl rfl rfl ?_
        refine bGo hA 1 2 (32, .iaload, 1, 19, 0, [], []) rfl rfl rfl ?_
        refine ⟨rfl, (bIxP (x := x1) (n := 120) h_x1 (k14.1 c17).1), ?_⟩
        refine bEqL (x := x1) h_x1 ?_
        refine bGo hA 1 3 (33, .if_icmp .ge (17), 3, 20, 29, [], []) rfl rfl rfl ?_
        refine bB_lt (x := x2) (y := (bi s13 105 x1)) h_x2 (bi_rg _ _ _) (fun c18 => ?_) (fun c18 => ?_)
        · refine bGo hA 1 4 (36, .aload_n 0, 1, 21, 0, [0], []) rfl rfl rfl ?_
          refine bGo hA 1 5 (37, .getfield 161, 3, 22, 0, [12, 55, 3, 106, 1, 0], []) rfl rfl rfl ?_
          refine ⟨rfl, ?_⟩
          refine bGo hA 1 6 (40, .bipush (40), 2, 23, 0, [], [(40, 0)]) rfl rfl rfl ?_
          refine bEqI bl_40 ?_
          refine bGo hA 1 7 (42, .iload_n 1, 1, 24, 0, [1], []) rfl rfl rfl ?_
          refine bGo hA 1 8 (43, .imul, 1, 25, 0, [], []) rfl rfl rfl ?_
          refine bEqI (bn_mul 40 x1) ?_
          refine bGo hA 1 9 (44, .iload_n 2, 1, 26, 0, [2], []) rfl rfl rfl ?_
          refine bGo hA 1 10 (45, .iadd, 1, 27, 0, [], []) rfl rfl rfl ?_
          refine bEqI (bn_add (40 * x1) x2) ?_
          refine bGo hA 1 11 (46, .iaload, 1, 28, 0, [], []) rfl rfl rfl ?_
          refine ⟨rfl, (bIxP (x := ((40 * x1) + x2)) (n := 4800) ((k14.1 c17).2.1 c18).2.1 ((k14.1 c17).2.1 c18).2.2.1), ?_⟩
          refine bEqL (x := ((40 * x1) + x2)) ((k14.1 c17).2.1 c18).2.1 ?_
          refine bGo hA 1 12 (47, .goto (4), 3, 29, 30, [], []) rfl rfl rfl ?_
          refine bGo hA 1 14 (51, .ireturn, 1, 0, 0, [1], []) rfl rfl rfl ?_
          exact ((k14.1 c17).2.1 c18).2.2.2
        · refine bGo hA 1 13 (50, .iconst (-1), 1, 30, 0, [], [(-1, 0)]) rfl rfl rfl ?_
          refine bEqI bl_m1 ?_
          refine bGo hA 1 14 (51, .ireturn, 1, 0, 0, [1], []) rfl rfl rfl ?_
          exact ((k14.1 c17).2.2 c18)
      · refine bGo hA 0 12 (24, .iconst (0), 1, 13, 0, [], [(0, 0)]) rfl rfl rfl ?_
        refine bEqI bl_0 ?_
        refine bGo hA 0 13 (25, .ireturn, 1, 14, 0, [1], []) rfl rfl rfl ?_
        exact (k14.2 c17)
    · refine bGo hA 0 7 (13, .iconst (0), 1, 8, 0, [], [(0, 0)]) rfl rfl rfl ?_
      refine bEqI bl_0 ?_
      refine bGo hA 0 8 (14, .goto (4), 3, 9, 10, [], []) rfl rfl rfl ?_
      refine bGo hA 0 10 (18, .invokevirtual 333, 3, 11, 0, [0, 12, 197, 1], []) rfl rfl rfl ?_
      refine ⟨rfl, ?_⟩
      refine hC _ _ _ _ _ (bRn_e (fun r21 s19 q22 k20 => ?_)) ((k2.2 c5).2 c12)
      show A (11, [.ref 12, .int (bn x1), .int (bn x2)], [.int (bn r21)], s19)
      refine bGo hA 0 11 (21, .ifCond .eq (5), 3, 12, 14, [], []) rfl rfl rfl ?_
      refine bB_eq0 (x := r21) q22 (fun c23 => ?_) (fun c23 => ?_)
      · refine bGo hA 0 14 (26, .iload_n 2, 1, 15, 0, [2], []) rfl rfl rfl ?_
        refine bGo hA 0 15 (27, .aload_n 0, 1, 16, 0, [0], []) rfl rfl rfl ?_
        refine bGo hA 1 0 (28, .getfield 158, 3, 17, 0, [12, 54, 3, 105, 1, 0], []) rfl rfl rfl ?_
        refine ⟨rfl, ?_⟩
        refine bGo hA 1 1 (31, .iload_n 1, 1, 18, 0, [1], []) rfl rfl rfl ?_
        refine bGo hA 1 2 (32, .iaload, 1, 19, 0, [], []) rfl rfl rfl ?_
        refine ⟨rfl, (bIxP (x := x1) (n := 120) h_x1 (k20.1 c23).1), ?_⟩
        refine bEqL (x := x1) h_x1 ?_
        refine bGo hA 1 3 (33, .if_icmp .ge (17), 3, 20, 29, [], []) rfl rfl rfl ?_
        refine bB_lt (x := x2) (y := (bi s19 105 x1)) h_x2 (bi_rg _ _ _) (fun c24 => ?_) (fun c24 => ?_)
        · refine bGo hA 1 4 (36, .aload_n 0, 1, 21, 0, [0], []) rfl rfl rfl ?_
          refine bGo hA 1 5 (37, .getfield 161, 3, 22, 0, [12, 55, 3, 106, 1, 0], []) rfl rfl rfl ?_
          refine ⟨rfl, ?_⟩
          refine bGo hA 1 6 (40, .bipush (40), 2, 23, 0, [], [(40, 0)]) rfl rfl rfl ?_
          refine bEqI bl_40 ?_
          refine bGo hA 1 7 (42, .iload_n 1, 1, 24, 0, [1], []) rfl rfl rfl ?_
          refine bGo hA 1 8 (43, .imul, 1, 25, 0, [], []) rfl rfl rfl ?_
          refine bEqI (bn_mul 40 x1) ?_
          refine bGo hA 1 9 (44, .iload_n 2, 1, 26, 0, [2], []) rfl rfl rfl ?_
          refine bGo hA 1 10 (45, .iadd, 1, 27, 0, [], []) rfl rfl rfl ?_
          refine bEqI (bn_add (40 * x1) x2) ?_
          refine bGo hA 1 11 (46, .iaload, 1, 28, 0, [], []) rfl rfl rfl ?_
          refine ⟨rfl, (bIxP (x := ((40 * x1) + x2)) (n := 4800) ((k20.1 c23).2.1 c24).2.1 ((k20.1 c23).2.1 c24).2.2.1), ?_⟩
          refine bEqL (x := ((40 * x1) + x2)) ((k20.1 c23).2.1 c24).2.1 ?_
          refine bGo hA 1 12 (47, .goto (4), 3, 29, 30, [], []) rfl rfl rfl ?_
          refine bGo hA 1 14 (51, .ireturn, 1, 0, 0, [1], []) rfl rfl rfl ?_
          exact ((k20.1 c23).2.1 c24).2.2.2
        · refine bGo hA 1 13 (50, .iconst (-1), 1, 30, 0, [], [(-1, 0)]) rfl rfl rfl ?_
          refine bEqI bl_m1 ?_
          refine bGo hA 1 14 (51, .ireturn, 1, 0, 0, [1], []) rfl rfl rfl ?_
          exact ((k20.1 c23).2.2 c24)
      · refine bGo hA 0 12 (24, .iconst (0), 1, 13, 0, [], [(0, 0)]) rfl rfl rfl ?_
        refine bEqI bl_0 ?_
        refine bGo hA 0 13 (25, .ireturn, 1, 14, 0, [1], []) rfl rfl rfl ?_
        exact (k20.2 c23)

theorem sq255_0 {lvl : Nat} {C : bCall} {Q : bPost} {A : bPt → Prop} (hC : bMono C) (hA : bClosed lvl bm255 C Q A) {x1 : Int} {x2 : Int} {σ : bSt}  (h_x1 : bRg x1) (h_x2 : bRg x2)
  (h : (C 253 [.ref 12, .int (bn x1)] σ (bRn (fun r3 s1 => ((r3 = 0 → A (10, [.ref 12, .int (bn x1), .int (bn x2), .float 0], [.int (bn 1), .ref 12], s1)) ∧ (¬ r3 = 0 → ((x2 < 0 → A (10, [.ref 12, .int (bn x1), .int (bn x2), .float 0], [.int (bn 1), .ref 12], s1)) ∧ (¬ x2 < 0 → A (10, [.ref 12, .int (bn x1), .int (bn x2), .float 0], [.int (bn 0), .ref 12], s1))))))))) : A (0, [.ref 12, .int (bn x1), .int (bn x2), .float 0], [], σ) := by
  refine bGo hA 0 0 (0, .aload_n 0, 1, 1, 0, [0], []) rfl rfl rfl ?_
  refine bGo hA 0 1 (1, .aload_n 0, 1, 2, 0, [0], []) rfl rfl rfl ?_
  refine bGo hA 0 2 (2, .iload_n 1, 1, 3, 0, [1], []) rfl rfl rfl ?_
  refine bGo hA 0 3 (3, .invokevirtual 431, 3, 4, 0, [0, 12, 253, 1], []) rfl rfl rfl ?_
  refine ⟨rfl, ?_⟩
  refine hC _ _ _ _ _ (bRn_e (fun r3 s1 q4 k2 => ?_)) h
  show A (4, [.ref 12, .int (bn x1), .int (bn x2), .float 0], [.int (bn r3), .ref 12], s1)
  refine bGo hA 0 4 (6, .ifCond .eq (11), 3, 5, 9, [], []) rfl rfl rfl ?_
  refine bB_eq0 (x := r3) q4 (fun c5 => ?_) (fun c5 => ?_)
  · refine bGo hA 0 9 (17, .iconst (1), 1, 10, 0, [], [(1, 0)]) rfl rfl rfl ?_
    refine bEqI bl_1 ?_
    exact (k2.1 c5)
  · refine bGo hA 0 5 (9, .iload_n 2, 1, 6, 0, [2], []) rfl rfl rfl ?_
    refine bGo hA 0 6 (10, .ifCond .lt (7), 3, 7, 9, [], []) rfl rfl rfl ?_
    refine bB_lt0 (x := x2) h_x2 (fun c6 => ?_) (fun c6 => ?_)
    · refine bGo hA 0 9 (17, .iconst (1), 1, 10, 0, [], [(1, 0)]) rfl rfl rfl ?_
      refine bEqI bl_1 ?_
      exact ((k2.2 c5).1 c6)
    · refine bGo hA 0 7 (13, .iconst (0), 1, 8, 0, [], [(0, 0)]) rfl rfl rfl ?_
      refine bEqI bl_0 ?_
      refine bGo hA 0 8 (14, .goto (4), 3, 9, 10, [], []) rfl rfl rfl ?_
      exact ((k2.2 c5).2 c6)

theorem sq255_10 {lvl : Nat} {C : bCall} {Q : bPost} {A : bPt → Prop} (hC : bMono C) (hA : bClosed lvl bm255 C Q A) {l1 : Int} {l2 : Int} {v3 : Value} {t0 : Int} {σ : bSt}  (h_l1 : bRg l1) (h_l2 : bRg l2) (h_t0 : bRg t0)
  (h : (C 197 [.ref 12, .int (bn t0)] σ (bRn (fun r3 s1 => ((r3 = 0 → ((0 ≤ l1 ∧ l1 < 120) ∧ (((bi s1 110 l1) = 0 → Q (.inl (some (.int (bn (-1))))) s1) ∧ (¬ (bi s1 110 l1) = 0 → ((l2 < (bi s1 114 l1) → (bRg (48 * l1) ∧ (bRg ((48 * l1) + l2) ∧ ((0 ≤ ((48 * l1) + l2) ∧ ((48 * l1) + l2) < 5760) ∧ (0 ≤ (bi s1 115 ((48 * l1) + l2)) ∧ ((((bi s1 115 ((48 * l1) + l2)) % 1001) = 0 → (bRg ((-2) - ((bi s1 115 ((48 * l1) + l2)) / 1001)) ∧ Q (.inl (some (.int (bn ((-2) - ((bi s1 115 ((48 * l1) + l2)) / 1001)))))) s1)) ∧ (¬ ((bi s1 115 ((48 * l1) + l2)) % 1001) = 0 → (bRg (1000 * ((bi s1 115 ((48 * l1) + l2)) / 1001)) ∧ (bRg ((1000 * ((bi s1 115 ((48 * l1) + l2)) / 1001)) + ((bi s1 115 ((48 * l1) + l2)) % 1001)) ∧ (bRg (((1000 * ((bi s1 115 ((48 * l1) + l2)) / 1001)) + ((bi s1 115 ((48 * l1) + l2)) % 1001)) - 1) ∧ Q (.inl (some (.int (bn (((1000 * ((bi s1 115 ((48 * l1) + l2)) / 1001)) + ((bi s1 115 ((48 * l1) + l2)) % 1001)) - 1))))) s1)))))))))) ∧ (¬ l2 < (bi s1 114 l1) → Q (.inl (some (.int (bn (-1))))) s1)))))) ∧ (¬ r3 = 0 → Q (.inl (some (.int (bn 0)))) s1)))))) : A (10, [.ref 12, .int (bn l1), .int (bn l2), v3], [.int (bn t0), .ref 12], σ) := by
  refine bGo hA 0 10 (18, .invokevirtual 333, 3, 11, 0, [0, 12, 197, 1], []) rfl rfl rfl ?_
  refine ⟨rfl, ?_⟩
  refine hC _ _ _ _ _ (bRn_e (fun r3 s1 q4 k2 => ?_)) h
  show A (11, [.ref 12, .int (bn l1), .int (bn l2), v3], [.int (bn r3)], s1)
  refine bGo hA 0 11 (21, .ifCond .eq (5), 3, 12, 14, [], []) rfl rfl rfl ?_
  refine bB_eq0 (x := r3) q4 (fun c5 => ?_) (fun c5 => ?_)
  · refine bGo hA 0 14 (26, .aload_n 0, 1, 15, 0, [0], []) rfl rfl rfl ?_
    refine bGo hA 0 15 (27, .getfield 173, 3, 16, 0, [12, 59, 3, 110, 1, 0], []) rfl rfl rfl ?_
    refine ⟨rfl, ?_⟩
    refine bGo hA 1 0 (30, .iload_n 1, 1, 17, 0, [1], []) rfl rfl rfl ?_
    refine bGo hA 1 1 (31, .baload, 1, 18, 0, [], []) rfl rfl rfl ?_
    refine ⟨rfl, (bIxP (x := l1) (n := 120) h_l1 (k2.1 c5).1), ?_⟩
    refine bEqL (x := l1) h_l1 ?_
    refine bGo hA 1 2 (32, .ifCond .eq (13), 3, 19, 25, [], []) rfl rfl rfl ?_
    refine bB_eq0 (x := (bi s1 110 l1)) (bi_rg _ _ _) (fun c6 => ?_) (fun c6 => ?_)
    · refine bGo hA 1 9 (45, .iconst (-1), 1, 26, 0, [], [(-1, 0)]) rfl rfl rfl ?_
      refine bEqI bl_m1 ?_
      refine bGo hA 1 10 (46, .ireturn, 1, 27, 0, [1], []) rfl rfl rfl ?_
      exact ((k2.1 c5).2.1 c6)
    · refine bGo hA 1 3 (35, .iload_n 2, 1, 20, 0, [2], []) rfl rfl rfl ?_
      refine bGo hA 1 4 (36, .aload_n 0, 1, 21, 0, [0], []) rfl rfl rfl ?_
      refine bGo hA 1 5 (37, .getfield 185, 3, 22, 0, [12, 63, 3, 114, 1, 0], []) rfl rfl rfl ?_
      refine ⟨rfl, ?_⟩
      refine bGo hA 1 6 (40, .iload_n 1, 1, 23, 0, [1], []) rfl rfl rfl ?_
      refine bGo hA 1 7 (41, .iaload, 1, 24, 0, [], []) rfl rfl rfl ?_
      refine ⟨rfl, (bIxP (x := l1) (n := 120) h_l1 (k2.1 c5).1), ?_⟩
      refine bEqL (x := l1) h_l1 ?_
      refine bGo hA 1 8 (42, .if_icmp .lt (5), 3, 25, 27, [], []) rfl rfl rfl ?_
      refine bB_lt (x := l2) (y := (bi s1 114 l1)) h_l2 (bi_rg _ _ _) (fun c7 => ?_) (fun c7 => ?_)
      · refine bGo hA 1 11 (47, .aload_n 0, 1, 28, 0, [0], []) rfl rfl rfl ?_
        refine bGo hA 1 12 (48, .getfield 188, 3, 29, 0, [12, 64, 3, 115, 1, 0], []) rfl rfl rfl ?_
        refine ⟨rfl, ?_⟩
        refine bGo hA 1 13 (51, .bipush (48), 2, 30, 0, [], [(48, 0)]) rfl rfl rfl ?_
        refine bEqI bl_48 ?_
        refine bGo hA 1 14 (53, .iload_n 1, 1, 31, 0, [1], []) rfl rfl rfl ?_
        refine bGo hA 1 15 (54, .imul, 1, 32, 0, [], []) rfl rfl rfl ?_
        refine bEqI (bn_mul 48 l1) ?_
        refine bGo hA 2 0 (55, .iload_n 2, 1, 33, 0, [2], []) rfl rfl rfl ?_
        refine bGo hA 2 1 (56, .iadd, 1, 34, 0, [], []) rfl rfl rfl ?_
        refine bEqI (bn_add (48 * l1) l2) ?_
        refine bGo hA 2 2 (57, .iaload, 1, 35, 0, [], []) rfl rfl rfl ?_
        refine ⟨rfl, (bIxP (x := ((48 * l1) + l2)) (n := 5760) (((k2.1 c5).2.2 c6).1 c7).2.1 (((k2.1 c5).2.2 c6).1 c7).2.2.1), ?_⟩
        refine bEqL (x := ((48 * l1) + l2)) (((k2.1 c5).2.2 c6).1 c7).2.1 ?_
        refine bGo hA 2 3 (58, .istore_n 3, 1, 36, 0, [3], []) rfl rfl rfl ?_
        refine bGo hA 2 4 (59, .iload_n 3, 1, 37, 0, [3], []) rfl rfl rfl ?_
        refine bGo hA 2 5 (60, .sipush (1001), 3, 38, 0, [], [(1001, 0)]) rfl rfl rfl ?_
        refine bEqI bl_1001 ?_
        refine bGo hA 2 6 (63, .irem, 1, 39, 0, [], []) rfl rfl rfl ?_
        refine ⟨by decide, ?_⟩
        refine bEqI (bn_rem (bi_rg _ _ _) (by decide) (((k2.1 c5).2.2 c6).1 c7).2.2.2.1) ?_
        refine bGo hA 2 7 (64, .ifCond .ne (14), 3, 40, 46, [], []) rfl rfl rfl ?_
        refine bB_eq0 (x := ((bi s1 115 ((48 * l1) + l2)) % 1001)) (bRg_mod (by decide) (by decide)) (fun c8 => ?_) (fun c8 => ?_)
        · refine bGo hA 2 8 (67, .bipush (-2), 2, 41, 0, [], [(-2, 0)]) rfl rfl rfl ?_
          refine bEqI bl_m2 ?_
          refine bGo hA 2 9 (69, .iload_n 3, 1, 42, 0, [3], []) rfl rfl rfl ?_
          refine bGo hA 2 10 (70, .sipush (1001), 3, 43, 0, [], [(1001, 0)]) rfl rfl rfl ?_
          refine bEqI bl_1001 ?_
          refine bGo hA 2 11 (73, .idiv, 1, 44, 0, [], []) rfl rfl rfl ?_
          refine ⟨by decide, ?_⟩
          refine bEqI (bn_div (bi_rg _ _ _) (by decide) (((k2.1 c5).2.2 c6).1 c7).2.2.2.1) ?_
          refine bGo hA 2 12 (74, .isub, 1, 45, 0, [], []) rfl rfl rfl ?_
          refine bEqI (bn_sub (-2) ((bi s1 115 ((48 * l1) + l2)) / 1001)) ?_
          refine bGo hA 2 13 (75, .goto (20), 3, 46, 57, [], []) rfl rfl rfl ?_
          refine bGo hA 3 9 (95, .ireturn, 1, 0, 0, [1], []) rfl rfl rfl ?_
          exact ((((k2.1 c5).2.2 c6).1 c7).2.2.2.2.1 c8).2
        · refine bGo hA 2 14 (78, .sipush (1000), 3, 47, 0, [], [(1000, 0)]) rfl rfl rfl ?_
          refine bEqI bl_1000 ?_
          refine bGo hA 2 15 (81, .iload_n 3, 1, 48, 0, [3], []) rfl rfl rfl ?_
          refine bGo hA 3 0 (82, .sipush (1001), 3, 49, 0, [], [(1001, 0)]) rfl rfl rfl ?_
          refine bEqI bl_1001 ?_
          refine bGo hA 3 1 (85, .idiv, 1, 50, 0, [], []) rfl rfl rfl ?_
          refine ⟨by decide, ?_⟩
          refine bEqI (bn_div (bi_rg _ _ _) (by decide) (((k2.1 c5).2.2 c6).1 c7).2.2.2.1) ?_
          refine bGo hA 3 2 (86, .imul, 1, 51, 0, [], []) rfl rfl rfl ?_
          refine bEqI (bn_mul 1000 ((bi s1 115 ((48 * l1) + l2)) / 1001)) ?_
          refine bGo hA 3 3 (87, .iload_n 3, 1, 52, 0, [3], []) rfl rfl rfl ?_
          refine bGo hA 3 4 (88, .sipush (1001), 3, 53, 0, [], [(1001, 0)]) rfl rfl rfl ?_
          refine bEqI bl_1001 ?_
          refine bGo hA 3 5 (91, .irem, 1, 54, 0, [], []) rfl rfl rfl ?_
          refine ⟨by decide, ?_⟩
          refine bEqI (bn_rem (bi_rg _ _ _) (by decide) (((k2.1 c5).2.2 c6).1 c7).2.2.2.1) ?_
          refine bGo hA 3 6 (92, .iadd, 1, 55, 0, [], []) rfl rfl rfl ?_
          refine bEqI (bn_add (1000 * ((bi s1 115 ((48 * l1) + l2)) / 1001)) ((bi s1 115 ((48 * l1) + l2)) % 1001)) ?_
          refine bGo hA 3 7 (93, .iconst (1), 1, 56, 0, [], [(1, 0)]) rfl rfl rfl ?_
          refine bEqI bl_1 ?_
          refine bGo hA 3 8 (94, .isub, 1, 57, 0, [], []) rfl rfl rfl ?_
          refine bEqI (bn_sub ((1000 * ((bi s1 115 ((48 * l1) + l2)) / 1001)) + ((bi s1 115 ((48 * l1) + l2)) % 1001)) 1) ?_
          refine bGo hA 3 9 (95, .ireturn, 1, 0, 0, [1], []) rfl rfl rfl ?_
          exact ((((k2.1 c5).2.2 c6).1 c7).2.2.2.2.2 c8).2.2.2
      · refine bGo hA 1 9 (45, .iconst (-1), 1, 26, 0, [], [(-1, 0)]) rfl rfl rfl ?_
        refine bEqI bl_m1 ?_
        refine bGo hA 1 10 (46, .ireturn, 1, 27, 0, [1], []) rfl rfl rfl ?_
        exact (((k2.1 c5).2.2 c6).2 c7)
  · refine bGo hA 0 12 (24, .iconst (0), 1, 13, 0, [], [(0, 0)]) rfl rfl rfl ?_
    refine bEqI bl_0 ?_
    refine bGo hA 0 13 (25, .ireturn, 1, 14, 0, [1], []) rfl rfl rfl ?_
    exact (k2.2 c5)

theorem sq303_0 {lvl : Nat} {C : bCall} {Q : bPost} {A : bPt → Prop} (hC : bMono C) (hA : bClosed lvl bm303 C Q A) {x1 : Int} {x2 : Int} {σ : bSt}  (h_x1 : bRg x1) (h_x2 : bRg x2)
  (h : (C 253 [.ref 12, .int (bn x1)] σ (bRn (fun r3 s1 => ((r3 = 0 → (C 197 [.ref 12, .int (bn 1)] s1 (bRn (fun r8 s6 => ((r8 = 0 → ((0 ≤ x1 ∧ x1 < 120) ∧ (((bi s6 140 x1) = 0 → Q (.inl (some (.int (bn (-1))))) s6) ∧ (¬ (bi s6 140 x1) = 0 → ((x2 = 0 → Q (.inl (some (.int (bn (bi s6 142 x1))))) s6) ∧ (¬ x2 = 0 → ((x2 = 1 → Q (.inl (some (.int (bn (bi s6 143 x1))))) s6) ∧ (¬ x2 = 1 → Q (.inl (some (.int (bn (bi s6 144 x1))))) s6)))))))) ∧ (¬ r8 = 0 → Q (.inl (some (.int (bn 0)))) s6)))))) ∧ (¬ r3 = 0 → (C 199 [.int (bn x2), .int (bn 0), .int (bn 2)] s1 (bRn (fun r16 s14 => ((r16 = 0 → (C 197 [.ref 12, .int (bn 2)] s14 (bRn (fun r21 s19 => ((r21 = 0 → ((0 ≤ x1 ∧ x1 < 120) ∧ (((bi s19 140 x1) = 0 → Q (.inl (some (.int (bn (-1))))) s19) ∧ (¬ (bi s19 140 x1) = 0 → ((x2 = 0 → Q (.inl (some (.int (bn (bi s19 142 x1))))) s19) ∧ (¬ x2 = 0 → ((x2 = 1 → Q (.inl (some (.int (bn (bi s19 143 x1))))) s19) ∧ (¬ x2 = 1 → Q (.inl (some (.int (bn (bi s19 144 x1))))) s19)))))))) ∧ (¬ r21 = 0 → Q (.inl (some (.int (bn 0)))) s19)))))) ∧ (¬ r16 = 0 → (C 197 [.ref 12, .int (bn 0)] s14 (bRn (fun r29 s27 => ((r29 = 0 → ((0 ≤ x1 ∧ x1 < 120) ∧ (((bi s27 140 x1) = 0 → Q (.inl (some (.int (bn (-1))))) s27) ∧ (¬ (bi s27 140 x1) = 0 → ((x2 = 0 → Q (.inl (some (.int (bn (bi s27 142 x1))))) s27) ∧ (¬ x2 = 0 → ((x2 = 1 → Q (.inl (some (.int (bn (bi s27 143 x1))))) s27) ∧ (¬ x2 = 1 → Q (.inl (some (.int (bn (bi s27 144 x1))))) s27)))))))) ∧ (¬ r29 = 0 → Q (.inl (some (.int (bn 0)))) s27)))))))))))))))) : A (0, [.ref 12, .int (bn x1), .int (bn x2)], [], σ) := by
  refine bGo hA 0 0 (0, .aload_n 0, 1, 1, 0, [0], []) rfl rfl rfl ?_
  refine bGo hA 0 1 (1, .aload_n 0, 1, 2, 0, [0], []) rfl rfl rfl ?_
  refine bGo hA 0 2 (2, .iload_n 1, 1, 3, 0, [1], []) rfl rfl rfl ?_
  refine bGo hA 0 3 (3, .invokevirtual 431, 3, 4, 0, [0, 12, 253, 1], []) rfl rfl rfl ?_
  refine ⟨rfl, ?_⟩
  refine hC _ _ _ _ _ (bRn_e (fun r3 s1 q4 k2 => ?_)) h
  show A (4, [.ref 12, .int (bn x1), .int (bn x2)], [.int (bn r3), .ref 12], s1)
  refine bGo hA 0 4 (6, .ifCond .ne (7), 3, 5, 7, [], []) rfl rfl rfl ?_
  refine bB_eq0 (x := r3) q4 (fun c5 => ?_) (fun c5 => ?_)
  · refine bGo hA 0 5 (9, .iconst (1), 1, 6, 0, [], [(1, 0)]) rfl rfl rfl ?_
    refine bEqI bl_1 ?_
    refine bGo hA 0 6 (10, .goto (17), 3, 7, 15, [], []) rfl rfl rfl ?_
    refine bGo hA 0 15 (27, .invokevirtual 333, 3, 16, 0, [0, 12, 197, 1], []) rfl rfl rfl ?_
    refine ⟨rfl, ?_⟩
    refine hC _ _ _ _ _ (bRn_e (fun r8 s6 q9 k7 => ?_)) (k2.1 c5)
    show A (16, [.ref 12, .int (bn x1), .int (bn x2)], [.int (bn r8)], s6)
    refine bGo hA 1 0 (30, .ifCond .eq (5), 3, 17, 19, [], []) rfl rfl rfl ?_
    refine bB_eq0 (x := r8) q9 (fun c10 => ?_) (fun c10 => ?_)
    · refine bGo hA 1 3 (35, .aload_n 0, 1, 20, 0, [0], []) rfl rfl rfl ?_
      refine bGo hA 1 4 (36, .getfield 263, 3, 21, 0, [12, 96, 3, 140, 1, 0], []) rfl rfl rfl ?_
      refine ⟨rfl, ?_⟩
      refine bGo hA 1 5 (39, .iload_n 1, 1, 22, 0, [1], []) rfl rfl rfl ?_
      refine bGo hA 1 6 (40, .baload, 1, 23, 0, [], []) rfl rfl rfl ?_
      refine ⟨rfl, (bIxP (x := x1) (n := 120) h_x1 (k7.1 c10).1), ?_⟩
      refine bEqL (x := x1) h_x1 ?_
      refine bGo hA 1 7 (41, .ifCond .ne (7), 3, 24, 26, [], []) rfl rfl rfl ?_
      refine bB_eq0 (x := (bi s6 140 x1)) (bi_rg _ _ _) (fun c11 => ?_) (fun c11 => ?_)
      · refine bGo hA 1 8 (44, .iconst (-1), 1, 25, 0, [], [(-1, 0)]) rfl rfl rfl ?_
        refine bEqI bl_m1 ?_
        refine bGo hA 1 9 (45, .goto (36), 3, 26, 45, [], []) rfl rfl rfl ?_
        refine bGo hA 2 13 (81, .ireturn, 1, 0, 0, [1], []) rfl rfl rfl ?_
        exact ((k7.1 c10).2.1 c11)
      · refine bGo hA 1 10 (48, .iload_n 2, 1, 27, 0, [2], []) rfl rfl rfl ?_
        refine bGo hA 1 11 (49, .ifCond .ne (12), 3, 28, 33, [], []) rfl rfl rfl ?_
        refine bB_eq0 (x := x2) h_x2 (fun c12 => ?_) (fun c12 => ?_)
        · refine bGo hA 1 12 (52, .aload_n 0, 1, 29, 0, [0], []) rfl rfl rfl ?_
          refine bGo hA 1 13 (53, .getfield 269, 3, 30, 0, [12, 98, 3, 142, 1, 0], []) rfl rfl rfl ?_
          refine ⟨rfl, ?_⟩
          refine bGo hA 1 14 (56, .iload_n 1, 1, 31, 0, [1], []) rfl rfl rfl ?_
          refine bGo hA 1 15 (57, .iaload, 1, 32, 0, [], []) rfl rfl rfl ?_
          refine ⟨rfl, (bIxP (x := x1) (n := 120) h_x1 (k7.1 c10).1), ?_⟩
          refine bEqL (x := x1) h_x1 ?_
          refine bGo hA 2 0 (58, .goto (23), 3, 33, 45, [], []) rfl rfl rfl ?_
          refine bGo hA 2 13 (81, .ireturn, 1, 0, 0, [1], []) rfl rfl rfl ?_
          exact (((k7.1 c10).2.2 c11).1 c12)
        · refine bGo hA 2 1 (61, .iload_n 2, 1, 34, 0, [2], []) rfl rfl rfl ?_
          refine bGo hA 2 2 (62, .iconst (1), 1, 35, 0, [], [(1, 0)]) rfl rfl rfl ?_
          refine bEqI bl_1 ?_
          refine bGo hA 2 3 (63, .if_icmp .ne (12), 3, 36, 41, [], []) rfl rfl rfl ?_
          refine bB_eq (x := x2) (y := 1) h_x2 (by decide : bRg 1) (fun c13 => ?_) (fun c13 => ?_)
          · refine bGo hA 2 4 (66, .aload_n 0, 1, 37, 0, [0], []) rfl rfl rfl ?_
            refine bGo hA 2 5 (67, .getfield 272, 3, 38, 0, [12, 99, 3, 143, 1, 0], []) rfl rfl rfl ?_
            refine ⟨rfl, ?_⟩
            refine bGo hA 2 6 (70, .iload_n 1, 1, 39, 0, [1], []) rfl rfl rfl ?_
            refine bGo hA 2 7 (71, .iaload, 1, 40, 0, [], []) rfl rfl rfl ?_
            refine ⟨rfl, (bIxP (x := x1) (n := 120) h_x1 (k7.1 c10).1), ?_⟩
            refine bEqL (x := x1) h_x1 ?_
            refine bGo hA 2 8 (72, .goto (9), 3, 41, 45, [], []) rfl rfl rfl ?_
            refine bGo hA 2 13 (81, .ireturn, 1, 0, 0, [1], []) rfl rfl rfl ?_
            exact ((((k7.1 c10).2.2 c11).2 c12).1 c13)
          · refine bGo hA 2 9 (75, .aload_n 0, 1, 42, 0, [0], []) rfl rfl rfl ?_
            refine bGo hA 2 10 (76, .getfield 275, 3, 43, 0, [12, 100, 3, 144, 1, 0], []) rfl rfl rfl ?_
            refine ⟨rfl, ?_⟩
            refine bGo hA 2 11 (79, .iload_n 1, 1, 44, 0, [1], []) rfl rfl rfl ?_
            refine bGo hA 2 12 (80, .iaload, 1, 45, 0, [], []) rfl rfl rfl ?_
            refine ⟨rfl, (bIxP (x := x1) (n := 120) h_x1 (k7.1 c10).1), ?_⟩
            refine bEqL (x := x1) h_x1 ?_
            refine bGo hA 2 13 (81, .ireturn, 1, 0, 0, [1], []) rfl rfl rfl ?_
            exact ((((k7.1 c10).2.2 c11).2 c12).2 c13)
    · refine bGo hA 1 1 (33, .iconst (0), 1, 18, 0, [], [(0, 0)]) rfl rfl rfl ?_
      refine bEqI bl_0 ?_
      refine bGo hA 1 2 (34, .ireturn, 1, 19, 0, [1], []) rfl rfl rfl ?_
      exact (k7.2 c10)
  · refine bGo hA 0 7 (13, .iload_n 2, 1, 8, 0, [2], []) rfl rfl rfl ?_
    refine bGo hA 0 8 (14, .iconst (0), 1, 9, 0, [], [(0, 0)]) rfl rfl rfl ?_
    refine bEqI bl_0 ?_
    refine bGo hA 0 9 (15, .iconst (2), 1, 10, 0, [], [(2, 0)]) rfl rfl rfl ?_
    refine bEqI bl_2 ?_
    refine bGo hA 0 10 (16, .invokestatic 325, 3, 11, 0, [2, 199, 3], []) rfl rfl rfl ?_
    refine hC _ _ _ _ _ (bRn_e (fun r16 s14 q17 k15 => ?_)) (k2.2 c5)
    show A (11, [.ref 12, .int (bn x1), .int (bn x2)], [.int (bn r16), .ref 12], s14)
    refine bGo hA 0 11 (19, .ifCond .eq (7), 3, 12, 14, [], []) rfl rfl rfl ?_
    refine bB_eq0 (x := r16) q17 (fun c18 => ?_) (fun c18 => ?_)
    · refine bGo hA 0 14 (26, .iconst (2), 1, 15, 0, [], [(2, 0)]) rfl rfl rfl ?_
      refine bEqI bl_2 ?_
      refine bGo hA 0 15 (27, .invokevirtual 333, 3, 16, 0, [0, 12, 197, 1], []) rfl rfl rfl ?_
      refine ⟨rfl, ?_⟩
      refine hC _ _ _ _ _ (bRn_e (fun r21 s19 q22 k20 => ?_)) (k15.1 c18)
      show A (16, [.ref 12, .int (bn x1), .int (bn x2)], [.int (bn r21)], s19)
      refine bGo hA 1 0 (30, .ifCond .eq (5), 3, 17, 19, [], []) rfl rfl rfl ?_
      refine bB_eq0 (x := r21) q22 (fun c23 => ?_) (fun c23 => ?_)
      · refine bGo hA 1 3 (35, .aload_n 0, 1, 20, 0, [0], []) rfl rfl rfl ?_
        refine bGo hA 1 4 (36, .getfield 263, 3, 21, 0, [12, 96, 3, 140, 1, 0], []) rfl rfl rfl ?_
        refine ⟨rfl, ?_⟩
        refine bGo hA 1 5 (39, .iload_n 1, 1, 22, 0, [1], []) rfl rfl rfl ?_
        refine bGo hA 1 6 (40, .baload, 1, 23, 0, [], []) rfl rfl rfl ?_
        refine ⟨rfl, (bIxP (x := x1) (n := 120) h_x1 (k20.1 c23).1), ?_⟩
        refine bEqL (x := x1) h_x1 ?_
        refine bGo hA 1 7 (41, .ifCond .ne (7), 3, 24, 26, [], []) rfl rfl rfl ?_
        refine bB_eq0 (x := (bi s19 140 x1)) (bi_rg _ _ _) (fun c24 => ?_) (fun c24 => ?_)
        · refine bGo hA 1 8 (44, .iconst (-1), 1, 25, 0, [], [(-1, 0)]) rfl rfl rfl ?_
          refine bEqI bl_m1 ?_
          refine bGo hA 1 9 (45, .goto (36), 3, 26, 45, [], []) rfl rfl rfl ?_
          refine bGo hA 2 13 (81, .ireturn, 1, 0, 0, [1], []) rfl rfl rfl ?_
          exact ((k20.1 c23).2.1 c24)
        · refine bGo hA 1 10 (48, .iload_n 2, 1, 27, 0, [2], []) rfl rfl rfl ?_
          refine bGo hA 1 11 (49, .ifCond .ne (12), 3, 28, 33, [], []) rfl rfl rfl ?_
          refine bB_eq0 (x := x2) h_x2 (fun c25 => ?_) (fun c25 => ?_)
          · refine bGo hA 1 12 (52, .aload_n 0, 1, 29, 0, [0], []) rfl rfl rfl ?_
            refine bGo hA 1 13 (53, .getfield 269, 3, 30, 0, [12, 98, 3, 142, 1, 0], []) rfl rfl rfl ?_
            refine ⟨rfl, ?_⟩
            refine bGo hA 1 14 (56, .iload_n 1, 1, 31, 0, [1], []) rfl rfl rfl ?_
            refine bGo hA 1 15 (57, .iaload, 1, 32, 0, [], []) rfl rfl rfl ?_
            refine ⟨rfl, (bIxP (x := x1) (n := 120) h_x1 (k20.1 c23).1), ?_⟩
            refine bEqL (x := x1) h_x1 ?_
            refine bGo hA 2 0 (58, .goto (23), 3, 33, 45, [], []) rfl rfl rfl ?_
            refine bGo hA 2 13 (81, .ireturn, 1, 0, 0, [1], []) rfl rfl rfl ?_
            exact (((k20.1 c23).2.2 c24).1 c25)
          · refine bGo hA 2 1 (61, .iload_n 2, 1, 34, 0, [2], []) rfl rfl rfl ?_
            refine bGo hA 2 2 (62, .iconst (1), 1, 35, 0, [], [(1, 0)]) rfl rfl rfl ?_
            refine bEqI bl_1 ?_
            refine bGo hA 2 3 (63, .if_icmp .ne (12), 3, 36, 41, [], []) rfl rfl rfl ?_
            refine bB_eq (x := x2) (y := 1) h_x2 (by decide : bRg 1) (fun c26 => ?_) (fun c26 => ?_)
            · refine bGo hA 2 4 (66, .aload_n 0, 1, 37, 0, [0], []) rfl rfl rfl ?_
              refine bGo hA 2 5 (67, .getfield 272, 3, 38, 0, [12, 99, 3, 143, 1, 0], []) rfl rfl rfl ?_
              refine ⟨rfl, ?_⟩
              refine bGo hA 2 6 (70, .iload_n 1, 1, 39, 0, [1], []) rfl rfl rfl ?_
              refine bGo hA 2 7 (71, .iaload, 1, 40, 0, [], []) rfl rfl rfl ?_
              refine ⟨rfl, (bIxP (x := x1) (n := 120) h_x1 (k20.1 c23).1), ?_⟩
              refine bEqL (x := x1) h_x1 ?_
              refine bGo hA 2 8 (72, .goto (9), 3, 41, 45, [], []) rfl rfl rfl ?_
              refine bGo hA 2 13 (81, .ireturn, 1, 0, 0, [1], []) rfl rfl rfl ?_
              exact ((((k20.1 c23).2.2 c24).2 c25).1 c26)
            · refine bGo hA 2 9 (75, .aload_n 0, 1, 42, 0, [0], []) rfl rfl rfl ?_
              refine bGo hA 2 10 (76, .getfield 275, 3, 43, 0, [12, 100, 3, 144, 1, 0], []) rfl rfl rfl ?_
              refine ⟨rfl, ?_⟩
              refine bGo hA 2 11 (79, .iload_n 1, 1, 44, 0, [1], []) rfl rfl rfl ?_
              refine bGo hA 2 12 (80, .iaload, 1, 45, 0, [], []) rfl rfl rfl ?_
              refine ⟨rfl, (bIxP (x := x1) (n := 120) h_x1 (k20.1 c23).1), ?_⟩
              refine bEqL (x := x1) h_x1 ?_
              refine bGo hA 2 13 (81, .ireturn, 1, 0, 0, [1], []) rfl rfl rfl ?_
              exact ((((k20.1 c23).2.2 c24).2 c25).2 c26)
      · refine bGo hA 1 1 (33, .iconst (0), 1, 18, 0, [], [(0, 0)]) rfl rfl rfl ?_
        refine bEqI bl_0 ?_
        refine bGo hA 1 2 (34, .ireturn, 1, 19, 0, [1], []) rfl rfl rfl ?_
        exact (k20.2 c23)
    · refine bGo hA 0 12 (22, .iconst (0), 1, 13, 0, [], [(0, 0)]) rfl rfl rfl ?_
      refine bEqI bl_0 ?_
      refine bGo hA 0 13 (23, .goto (4), 3, 14, 15, [], []) rfl rfl rfl ?_
      refine bGo hA 0 15 (27, .invokevirtual 333, 3, 16, 0, [0, 12, 197, 1], []) rfl rfl rfl ?_
      refine ⟨rfl, ?_⟩
      refine hC _ _ _ _ _ (bRn_e (fun r29 s27 q30 k28 => ?_)) (k15.2 c18)
      show A (16, [.ref 12, .int (bn x1), .int (bn x2)], [.int (bn r29)], s27)
      refine bGo hA 1 0 (30, .ifCond .eq (5), 3, 17, 19, [], []) rfl rfl rfl ?_
      refine bB_eq0 (x := r29) q30 (fun c31 => ?_) (fun c31 => ?_)
      · refine bGo hA 1 3 (35, .aload_n 0, 1, 20, 0, [0], []) rfl rfl rfl ?_
        refine bGo hA 1 4 (36, .getfield 263, 3, 21, 0, [12, 96, 3, 140, 1, 0], []) rfl rfl rfl ?_
        refine ⟨rfl, ?_⟩
        refine bGo hA 1 5 (39, .iload_n 1, 1, 22, 0, [1], []) rfl rfl rfl ?_
        refine bGo hA 1 6 (40, .baload, 1, 23, 0, [], []) rfl rfl rfl ?_
        refine ⟨rfl, (bIxP (x := x1) (n := 120) h_x1 (k28.1 c31).1), ?_⟩
        refine bEqL (x := x1) h_x1 ?_
        refine bGo hA 1 7 (41, .ifCond .ne (7), 3, 24, 26, [], []) rfl rfl rfl ?_
        refine bB_eq0 (x := (bi s27 140 x1)) (bi_rg _ _ _) (fun c32 => ?_) (fun c32 => ?_)
        · refine bGo hA 1 8 (44, .iconst (-1), 1, 25, 0, [], [(-1, 0)]) rfl rfl rfl ?_
          refine bEqI bl_m1 ?_
          refine bGo hA 1 9 (45, .goto (36), 3, 26, 45, [], []) rfl rfl rfl ?_
          refine bGo hA 2 13 (81, .ireturn, 1, 0, 0, [1], []) rfl rfl rfl ?_
          exact ((k28.1 c31).2.1 c32)
        · refine bGo hA 1 10 (48, .iload_n 2, 1, 27, 0, [2], []) rfl rfl rfl ?_
          refine bGo hA 1 11 (49, .ifCond .ne (12), 3, 28, 33, [], []) rfl rfl rfl ?_
          refine bB_eq0 (x := x2) h_x2 (fun c33 => ?_) (fun c33 => ?_)
          · refine bGo hA 1 12 (52, .aload_n 0, 1, 29, 0, [0], []) rfl rfl rfl ?_
            refine bGo hA 1 13 (53, .getfield 269, 3, 30, 0, [12, 98, 3, 142, 1, 0], []) rfl rfl rfl ?_
            refine ⟨rfl, ?_⟩
            refine bGo hA 1 14 (56, .iload_n 1, 1, 31, 0, [1], []) rfl rfl rfl ?_
            refine bGo hA 1 15 (57, .iaload, 1, 32, 0, [], []) rfl rfl rfl ?_
            refine ⟨rfl, (bIxP (x := x1) (n := 120) h_x1 (k28.1 c31).1), ?_⟩
            refine bEqL (x := x1) h_x1 ?_
            refine bGo hA 2 0 (58, .goto (23), 3, 33, 45, [], []) rfl rfl rfl ?_
            refine bGo hA 2 13 (81, .ireturn, 1, 0, 0, [1], []) rfl rfl rfl ?_
            exact (((k28.1 c31).2.2 c32).1 c33)
          · refine bGo hA 2 1 (61, .iload_n 2, 1, 34, 0, [2], []) rfl rfl rfl ?_
            refine bGo hA 2 2 (62, .iconst (1), 1, 35, 0, [], [(1, 0)]) rfl rfl rfl ?_
            refine bEqI bl_1 ?_
            refine bGo hA 2 3 (63, .if_icmp .ne (12), 3, 36, 41, [], []) rfl rfl rfl ?_
            refine bB_eq (x := x2) (y := 1) h_x2 (by decide : bRg 1) (fun c34 => ?_) (fun c34 => ?_)
            · refine bGo hA 2 4 (66, .aload_n 0, 1, 37, 0, [0], []) rfl rfl rfl ?_
              refine bGo hA 2 5 (67, .getfield 272, 3, 38, 0, [12, 99, 3, 143, 1, 0], []) rfl rfl rfl ?_
              refine ⟨rfl, ?_⟩
              refine bGo hA 2 6 (70, .iload_n 1, 1, 39, 0, [1], []) rfl rfl rfl ?_
              refine bGo hA 2 7 (71, .iaload, 1, 40, 0, [], []) rfl rfl rfl ?_
              refine ⟨rfl, (bIxP (x := x1) (n := 120) h_x1 (k28.1 c31).1), ?_⟩
              refine bEqL (x := x1) h_x1 ?_
              refine bGo hA 2 8 (72, .goto (9), 3, 41, 45, [], []) rfl rfl rfl ?_
              refine bGo hA 2 13 (81, .ireturn, 1, 0, 0, [1], []) rfl rfl rfl ?_
              exact ((((k28.1 c31).2.2 c32).2 c33).1 c34)
            · refine bGo hA 2 9 (75, .aload_n 0, 1, 42, 0, [0], []) rfl rfl rfl ?_
              refine bGo hA 2 10 (76, .getfield 275, 3, 43, 0, [12, 100, 3, 144, 1, 0], []) rfl rfl rfl ?_
              refine ⟨rfl, ?_⟩
              refine bGo hA 2 11 (79, .iload_n 1, 1, 44, 0, [1], []) rfl rfl rfl ?_
              refine bGo hA 2 12 (80, .iaload, 1, 45, 0, [], []) rfl rfl rfl ?_
              refine ⟨rfl, (bIxP (x := x1) (n := 120) h_x1 (k28.1 c31).1), ?_⟩
              refine bEqL (x := x1) h_x1 ?_
              refine bGo hA 2 13 (81, .ireturn, 1, 0, 0, [1], []) rfl rfl rfl ?_
              exact ((((k28.1 c31).2.2 c32).2 c33).2 c34)
      · refine bGo hA 1 1 (33, .iconst (0), 1, 18, 0, [], [(0, 0)]) rfl rfl rfl ?_
        refine bEqI bl_0 ?_
        refine bGo hA 1 2 (34, .ireturn, 1, 19, 0, [1], []) rfl rfl rfl ?_
        exact (k28.2 c31)


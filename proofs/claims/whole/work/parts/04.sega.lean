theorem sg0_0 {lvl : Nat} {C : bCall} {Q : bPost} {A : bPt → Prop} (hC : bMono C) (hA : bClosed lvl bm0 C Q A) {a0 : Nat} {σ : bSt} (h_a0 : a0 % 256 = 0)
  (h : (σ.2.2.2.1 (256 * (1 * (a0 / 256) + 0) + 13) = 0 ∧ (40 = Int32.ofNat (bLen σ (256 * (1 * (a0 / 256) + 0) + 13)) ∧ ((256 * (1 * (a0 / 256) + 0) + 13) % 256 < 200 ∧ ((bR (bNew σ (256 * (1 * (a0 / 256) + 0) + 13) 2 (bLen σ (256 * (1 * (a0 / 256) + 0) + 13))) a0 2 (some (256 * (1 * (a0 / 256) + 0) + 13))).2.2.2.1 (256 * (2 * (a0 / 256) + 0) + 4) = 0 ∧ ((256 * (2 * (a0 / 256) + 0) + 4) % 256 = 4 ∧ (C 37 [.retAddr (256 * (2 * (a0 / 256) + 0) + 4)] (bNew (bR (bNew σ (256 * (1 * (a0 / 256) + 0) + 13) 2 (bLen σ (256 * (1 * (a0 / 256) + 0) + 13))) a0 2 (some (256 * (1 * (a0 / 256) + 0) + 13))) (256 * (2 * (a0 / 256) + 0) + 4) 1 9) (bRv (fun s1 => ((bR s1 a0 3 (some (256 * (2 * (a0 / 256) + 0) + 4))).2.2.2.1 (256 * (2 * (a0 / 256) + 1) + 4) = 0 ∧ ((256 * (2 * (a0 / 256) + 1) + 4) % 256 = 4 ∧ (C 37 [.retAddr (256 * (2 * (a0 / 256) + 1) + 4)] (bNew (bR s1 a0 3 (some (256 * (2 * (a0 / 256) + 0) + 4))) (256 * (2 * (a0 / 256) + 1) + 4) 1 9) (bRv (fun s3 => (bAll (bI (bI (bI (bI (bI (bI (bI (bI (bR s3 a0 4 (some (256 * (2 * (a0 / 256) + 1) + 4))) a0 10 (-1)) a0 11 (-1)) a0 12 (-1)) a0 13 (-1)) a0 14 (-1)) a0 15 2147483647) a0 16 2147483647) a0 17 2147483647) a0 [2, 3, 4] ∧ Q (.inl none) (bA (bI (bI (bI (bI (bI (bI (bI (bI (bR s3 a0 4 (some (256 * (2 * (a0 / 256) + 1) + 4))) a0 10 (-1)) a0 11 (-1)) a0 12 (-1)) a0 13 (-1)) a0 14 (-1)) a0 15 2147483647) a0 16 2147483647) a0 17 2147483647) a0 2)))))))))))))))) : A (0, [.retAddr a0], [], σ) := by
  refine bGo hA 0 0 (0, .aload_n 0, 1, 1, 0, [0], []) rfl rfl rfl ?_
  refine bGo hA 0 1 (1, .invokespecial 3, 3, 2, 0, [6, 0, 0], []) rfl rfl rfl ?_
  refine bGo hA 0 2 (4, .aload_n 0, 1, 3, 0, [0], []) rfl rfl rfl ?_
  refine bGo hA 0 3 (5, .bipush (40), 2, 4, 0, [], [(40, 0)]) rfl rfl rfl ?_
  refine bGo hA 0 4 (7, .newarray .int, 2, 5, 0, [13], []) rfl rfl rfl ?_
  refine ⟨h.1, h.2.1, h.2.2.1, ?_⟩
  refine bGo hA 0 5 (9, .putfield 9, 3, 6, 0, [0, 2, 3, 13, 1, 0], []) rfl rfl rfl ?_
  refine ⟨h_a0, rfl, ?_⟩
  refine bGo hA 0 6 (12, .aload_n 0, 1, 7, 0, [0], []) rfl rfl rfl ?_
  refine bGo hA 0 7 (13, .new 15, 3, 8, 0, [0, 4, 9, 2, 0], []) rfl rfl rfl ?_
  refine ⟨h.2.2.2.1, ?_⟩
  refine bGo hA 0 8 (16, .dup, 1, 9, 0, [], []) rfl rfl rfl ?_
  refine bGo hA 0 9 (17, .invokespecial 17, 3, 10, 1, [4, 4, 37, 0], []) rfl rfl rfl ?_
  refine ⟨h.2.2.2.2.1, rfl, ?_⟩
  refine hC _ _ _ _ _ (bRv_e (fun s1 k2 => ?_)) h.2.2.2.2.2
  show A (10, [.retAddr a0], [.ref (256 * (2 * (a0 / 256) + 0) + 4), .retAddr a0], s1)
  refine bGo hA 0 10 (20, .putfield 18, 3, 11, 0, [0, 3, 3, 4, 2, 0], []) rfl rfl rfl ?_
  refine ⟨h_a0, rfl, ?_⟩
  refine bGo hA 0 11 (23, .aload_n 0, 1, 12, 0, [0], []) rfl rfl rfl ?_
  refine bGo hA 0 12 (24, .new 15, 3, 13, 0, [0, 4, 9, 2, 1], []) rfl rfl rfl ?_
  refine ⟨k2.1, ?_⟩
  refine bGo hA 0 13 (27, .dup, 1, 14, 0, [], []) rfl rfl rfl ?_
  refine bGo hA 0 14 (28, .invokespecial 17, 3, 15, 1, [4, 4, 37, 0], []) rfl rfl rfl ?_
  refine ⟨k2.2.1, rfl, ?_⟩
  refine hC _ _ _ _ _ (bRv_e (fun s3 k4 => ?_)) k2.2.2
  show A (15, [.retAddr a0], [.ref (256 * (2 * (a0 / 256) + 1) + 4), .retAddr a0], s3)
  refine bGo hA 0 15 (31, .putfield 22, 3, 16, 0, [0, 4, 3, 4, 2, 1], []) rfl rfl rfl ?_
  refine ⟨h_a0, rfl, ?_⟩
  refine bGo hA 1 0 (34, .aload_n 0, 1, 17, 0, [0], []) rfl rfl rfl ?_
  refine bGo hA 1 1 (35, .iconst (-1), 1, 18, 0, [], [(-1, 0)]) rfl rfl rfl ?_
  refine bGo hA 1 2 (36, .putfield 25, 3, 19, 0, [0, 10, 0, 0, 0, 0], []) rfl rfl rfl ?_
  refine ⟨h_a0, ?_⟩
  refine bGo hA 1 3 (39, .aload_n 0, 1, 20, 0, [0], []) rfl rfl rfl ?_
  refine bGo hA 1 4 (40, .iconst (-1), 1, 21, 0, [], [(-1, 0)]) rfl rfl rfl ?_
  refine bGo hA 1 5 (41, .putfield 29, 3, 22, 0, [0, 11, 0, 0, 0, 0], []) rfl rfl rfl ?_
  refine ⟨h_a0, ?_⟩
  refine bGo hA 1 6 (44, .aload_n 0, 1, 23, 0, [0], []) rfl rfl rfl ?_
  refine bGo hA 1 7 (45, .iconst (-1), 1, 24, 0, [], [(-1, 0)]) rfl rfl rfl ?_
  refine bGo hA 1 8 (46, .putfield 32, 3, 25, 0, [0, 12, 0, 0, 0, 0], []) rfl rfl rfl ?_
  refine ⟨h_a0, ?_⟩
  refine bGo hA 1 9 (49, .aload_n 0, 1, 26, 0, [0], []) rfl rfl rfl ?_
  refine bGo hA 1 10 (50, .iconst (-1), 1, 27, 0, [], [(-1, 0)]) rfl rfl rfl ?_
  refine bGo hA 1 11 (51, .putfield 35, 3, 28, 0, [0, 13, 0, 0, 0, 0], []) rfl rfl rfl ?_
  refine ⟨h_a0, ?_⟩
  refine bGo hA 1 12 (54, .aload_n 0, 1, 29, 0, [0], []) rfl rfl rfl ?_
  refine bGo hA 1 13 (55, .iconst (-1), 1, 30, 0, [], [(-1, 0)]) rfl rfl rfl ?_
  refine bGo hA 1 14 (56, .putfield 38, 3, 31, 0, [0, 14, 0, 0, 0, 0], []) rfl rfl rfl ?_
  refine ⟨h_a0, ?_⟩
  refine bGo hA 1 15 (59, .aload_n 0, 1, 32, 0, [0], []) rfl rfl rfl ?_
  refine bGo hA 2 0 (60, .ldc 41, 2, 33, 0, [41], [(2147483647, 0)]) rfl rfl rfl ?_
  refine bGo hA 2 1 (62, .putfield 42, 3, 34, 0, [0, 15, 0, 0, 0, 0], []) rfl rfl rfl ?_
  refine ⟨h_a0, ?_⟩
  refine bGo hA 2 2 (65, .aload_n 0, 1, 35, 0, [0], []) rfl rfl rfl ?_
  refine bGo hA 2 3 (66, .ldc 41, 2, 36, 0, [41], [(2147483647, 0)]) rfl rfl rfl ?_
  refine bGo hA 2 4 (68, .putfield 45, 3, 37, 0, [0, 16, 0, 0, 0, 0], []) rfl rfl rfl ?_
  refine ⟨h_a0, ?_⟩
  refine bGo hA 2 5 (71, .aload_n 0, 1, 38, 0, [0], []) rfl rfl rfl ?_
  refine bGo hA 2 6 (72, .ldc 41, 2, 39, 0, [41], [(2147483647, 0)]) rfl rfl rfl ?_
  refine bGo hA 2 7 (74, .putfield 48, 3, 40, 0, [0, 17, 0, 0, 0, 0], []) rfl rfl rfl ?_
  refine ⟨h_a0, ?_⟩
  refine bGo hA 2 8 (77, .return_, 1, 0, 0, [5, 2, 3, 4], []) rfl rfl rfl ?_
  exact k4

theorem sg1_0 {lvl : Nat} {C : bCall} {Q : bPost} {A : bPt → Prop} (hC : bMono C) (hA : bClosed lvl bm1 C Q A) {a0 : Nat} {a1 : Nat} {x2 : Int32} {x3 : Int32} {σ : bSt} (h_a0 : a0 % 256 = 0) (h_a1 : a1 % 256 = 8)
  (h : ((256 * (2 * (a0 / 256) + 0) + 4) % 256 = 4 ∧ (C 38 [.ref (256 * (2 * (a0 / 256) + 0) + 4), .int ((bI (bI σ a0 0 (σ.1 a1 0)) a0 1 0).1 a1 1), .int x2, .int x3] (bI (bI σ a0 0 (σ.1 a1 0)) a0 1 0) (bRv (fun s1 => Q (.inl none) s1))))) : A (0, [.ref a0, .ref a1, .int x2, .int x3], [], σ) := by
  refine bGo hA 0 0 (0, .aload_n 0, 1, 1, 0, [0], []) rfl rfl rfl ?_
  refine bGo hA 0 1 (1, .aload_n 1, 1, 2, 0, [1], []) rfl rfl rfl ?_
  refine bGo hA 0 2 (2, .getfield 51, 3, 3, 0, [8, 0, 0, 0, 0, 0], []) rfl rfl rfl ?_
  refine ⟨h_a1, ?_⟩
  refine bGo hA 0 3 (5, .putfield 56, 3, 4, 0, [0, 0, 0, 0, 0, 0], []) rfl rfl rfl ?_
  refine ⟨h_a0, ?_⟩
  refine bGo hA 0 4 (8, .aload_n 0, 1, 5, 0, [0], []) rfl rfl rfl ?_
  refine bGo hA 0 5 (9, .iconst (0), 1, 6, 0, [], [(0, 0)]) rfl rfl rfl ?_
  refine bGo hA 0 6 (10, .putfield 57, 3, 7, 0, [0, 1, 0, 0, 0, 0], []) rfl rfl rfl ?_
  refine ⟨h_a0, ?_⟩
  refine bGo hA 0 7 (13, .aload_n 0, 1, 8, 0, [0], []) rfl rfl rfl ?_
  refine bGo hA 0 8 (14, .getfield 18, 3, 9, 0, [0, 3, 3, 4, 2, 0], []) rfl rfl rfl ?_
  refine ⟨h_a0, ?_⟩
  refine bGo hA 0 9 (17, .aload_n 1, 1, 10, 0, [1], []) rfl rfl rfl ?_
  refine bGo hA 0 10 (18, .getfield 60, 3, 11, 0, [8, 1, 0, 0, 0, 0], []) rfl rfl rfl ?_
  refine ⟨h_a1, ?_⟩
  refine bGo hA 0 11 (21, .iload_n 2, 1, 12, 0, [2], []) rfl rfl rfl ?_
  refine bGo hA 0 12 (22, .iload_n 3, 1, 13, 0, [3], []) rfl rfl rfl ?_
  refine bGo hA 0 13 (23, .invokevirtual 63, 3, 14, 0, [0, 4, 38, 3], []) rfl rfl rfl ?_
  refine ⟨h.1, ?_⟩
  refine hC _ _ _ _ _ (bRv_e (fun s1 k2 => ?_)) h.2
  show A (14, [.ref a0, .ref a1, .int x2, .int x3], [], s1)
  refine bGo hA 0 14 (26, .return_, 1, 0, 0, [0], []) rfl rfl rfl ?_
  exact k2

theorem sg2_0 {lvl : Nat} {C : bCall} {Q : bPost} {A : bPt → Prop} (hC : bMono C) (hA : bClosed lvl bm2 C Q A) {a0 : Nat} {x1 : Int32} {σ : bSt} (h_a0 : a0 % 256 = 0)
  (h : (C 141 [.ref (256 * (1 * (a0 / 256) + 0) + 13), .int (σ.1 a0 1), .int x1] σ (bRv (fun s1 => Q (.inl none) (bI s1 a0 1 ((s1.1 a0 1) + 1)))))) : A (0, [.ref a0, .int x1], [], σ) := by
  refine bGo hA 0 0 (0, .aload_n 0, 1, 1, 0, [0], []) rfl rfl rfl ?_
  refine bGo hA 0 1 (1, .getfield 9, 3, 2, 0, [0, 2, 3, 13, 1, 0], []) rfl rfl rfl ?_
  refine ⟨h_a0, ?_⟩
  refine bGo hA 0 2 (4, .aload_n 0, 1, 3, 0, [0], []) rfl rfl rfl ?_
  refine bGo hA 0 3 (5, .getfield 57, 3, 4, 0, [0, 1, 0, 0, 0, 0], []) rfl rfl rfl ?_
  refine ⟨h_a0, ?_⟩
  refine bGo hA 0 4 (8, .iload_n 1, 1, 5, 0, [1], []) rfl rfl rfl ?_
  refine bGo hA 0 5 (9, .invokestatic 67, 3, 6, 1, [2, 141, 3], []) rfl rfl rfl ?_
  refine hC _ _ _ _ _ (bRv_e (fun s1 k2 => ?_)) h
  show A (6, [.ref a0, .int x1], [], s1)
  refine bGo hA 0 6 (12, .aload_n 0, 1, 7, 0, [0], []) rfl rfl rfl ?_
  refine bGo hA 0 7 (13, .dup, 1, 8, 0, [], []) rfl rfl rfl ?_
  refine bGo hA 0 8 (14, .getfield 57, 3, 9, 0, [0, 1, 0, 0, 0, 0], []) rfl rfl rfl ?_
  refine ⟨h_a0, ?_⟩
  refine bGo hA 0 9 (17, .iconst (1), 1, 10, 0, [], [(1, 0)]) rfl rfl rfl ?_
  refine bGo hA 0 10 (18, .iadd, 1, 11, 0, [], []) rfl rfl rfl ?_
  refine bGo hA 0 11 (19, .putfield 57, 3, 12, 0, [0, 1, 0, 0, 0, 0], []) rfl rfl rfl ?_
  refine ⟨h_a0, ?_⟩
  refine bGo hA 0 12 (22, .return_, 1, 0, 0, [0], []) rfl rfl rfl ?_
  exact k2

theorem sg3_0 {lvl : Nat} {C : bCall} {Q : bPost} {A : bPt → Prop} (hC : bMono C) (hA : bClosed lvl bm3 C Q A) {a0 : Nat} {x1 : Int64} {σ : bSt} (h_a0 : a0 % 256 = 0)
  (h : A (2, [.ref a0, .long x1, .float 0, .int 0], [], σ)) : A (0, [.ref a0, .long x1, .float 0, .float 0], [], σ) := by
  refine bGo hA 0 0 (0, .iconst (0), 1, 1, 0, [], [(0, 0)]) rfl rfl rfl ?_
  refine bGo hA 0 1 (1, .istore_n 3, 1, 2, 0, [3], []) rfl rfl rfl ?_
  exact h

theorem sg3_2 {lvl : Nat} {C : bCall} {Q : bPost} {A : bPt → Prop} (hC : bMono C) (hA : bClosed lvl bm3 C Q A) {l0 : Nat} {l1 : Int64} {l3 : Int32} {σ : bSt} 
  (h : ((l3 < 48 → (((lg_cmp ((l1 >>> (Int32.toInt64 l3 &&& 63)) &&& (Int64.ofNat 1)) (Int64.ofNat 1)) = 0 → (l0 % 256 = 0 ∧ (C 2 [.ref l0, .int l3] σ (bRv (fun s3 => A (2, [.ref l0, .long l1, .float 0, .int (l3 + 1)], [], s3)))))) ∧ (¬ (lg_cmp ((l1 >>> (Int32.toInt64 l3 &&& 63)) &&& (Int64.ofNat 1)) (Int64.ofNat 1)) = 0 → A (2, [.ref l0, .long l1, .float 0, .int (l3 + 1)], [], σ)))) ∧ (¬ l3 < 48 → Q (.inl none) σ))) : A (2, [.ref l0, .long l1, .float 0, .int l3], [], σ) := by
  refine bGo hA 0 2 (2, .iload_n 3, 1, 3, 0, [3], []) rfl rfl rfl ?_
  refine bGo hA 0 3 (3, .bipush (48), 2, 4, 0, [], [(48, 0)]) rfl rfl rfl ?_
  refine bGo hA 0 4 (5, .if_icmp .ge (24), 3, 5, 18, [], []) rfl rfl rfl ?_
  refine ⟨fun c1 => ?_, fun c1 => ?_⟩
  · refine bGo hA 0 5 (8, .lload_n 1, 1, 6, 0, [1], []) rfl rfl rfl ?_
    refine bGo hA 0 6 (9, .iload_n 3, 1, 7, 0, [3], []) rfl rfl rfl ?_
    refine bGo hA 0 7 (10, .lshr, 1, 8, 0, [], []) rfl rfl rfl ?_
    refine bGo hA 0 8 (11, .lconst 1, 1, 9, 0, [1], []) rfl rfl rfl ?_
    refine bGo hA 0 9 (12, .land, 1, 10, 0, [], []) rfl rfl rfl ?_
    refine bGo hA 0 10 (13, .lconst 1, 1, 11, 0, [1], []) rfl rfl rfl ?_
    refine bGo hA 0 11 (14, .lcmp, 1, 12, 0, [], []) rfl rfl rfl ?_
    refine bGo hA 0 12 (15, .ifCond .ne (8), 3, 13, 16, [], []) rfl rfl rfl ?_
    refine ⟨fun c2 => ?_, fun c2 => ?_⟩
    · refine bGo hA 0 13 (18, .aload_n 0, 1, 14, 0, [0], []) rfl rfl rfl ?_
      refine bGo hA 0 14 (19, .iload_n 3, 1, 15, 0, [3], []) rfl rfl rfl ?_
      refine bGo hA 0 15 (20, .invokevirtual 71, 3, 16, 0, [0, 0, 2, 1], []) rfl rfl rfl ?_
      refine ⟨((h.1 c1).1 c2).1, ?_⟩
      refine hC _ _ _ _ _ (bRv_e (fun s3 k4 => ?_)) ((h.1 c1).1 c2).2
      show A (16, [.ref l0, .long l1, .float 0, .int l3], [], s3)
      refine bGo hA 1 0 (23, .iinc 3 (1), 3, 17, 0, [3], [(1, 0)]) rfl rfl rfl ?_
      refine bGo hA 1 1 (26, .goto (-24), 3, 18, 2, [], []) rfl rfl rfl ?_
      exact k4
    · refine bGo hA 1 0 (23, .iinc 3 (1), 3, 17, 0, [3], [(1, 0)]) rfl rfl rfl ?_
      refine bGo hA 1 1 (26, .goto (-24), 3, 18, 2, [], []) rfl rfl rfl ?_
      exact ((h.1 c1).2 c2)
  · refine bGo hA 1 2 (29, .return_, 1, 0, 0, [0], []) rfl rfl rfl ?_
    exact (h.2 c1)

theorem sg4_0 {lvl : Nat} {C : bCall} {Q : bPost} {A : bPt → Prop} (hC : bMono C) (hA : bClosed lvl bm4 C Q A) {a0 : Nat} {x1 : Int32} {σ : bSt} (h_a0 : a0 % 256 = 0)
  (h : ((x1 < 0 → Q (.inl (some (.int (-1)))) σ) ∧ (¬ x1 < 0 → ((x1 < (σ.1 a0 1) → (¬ bTy (256 * (1 * (a0 / 256) + 0) + 13) = 9 ∧ ((x1 < (Int32.ofNat (bLen σ (256 * (1 * (a0 / 256) + 0) + 13))) → (bTy (256 * (1 * (a0 / 256) + 0) + 13) = 0 ∧ (vp_in x1 (bLen σ (256 * (1 * (a0 / 256) + 0) + 13)) ∧ Q (.inl (some (.int (σ.1 (256 * (1 * (a0 / 256) + 0) + 13) (x1).toNatClampNeg)))) σ))) ∧ (¬ x1 < (Int32.ofNat (bLen σ (256 * (1 * (a0 / 256) + 0) + 13))) → Q (.inl (some (.int (-1)))) σ)))) ∧ (¬ x1 < (σ.1 a0 1) → Q (.inl (some (.int (-1)))) σ))))) : A (0, [.ref a0, .int x1], [], σ) := by
  refine bGo hA 0 0 (0, .iload_n 1, 1, 1, 0, [1], []) rfl rfl rfl ?_
  refine bGo hA 0 1 (1, .ifCond .lt (29), 3, 2, 16, [], []) rfl rfl rfl ?_
  refine ⟨fun c1 => ?_, fun c1 => ?_⟩
  · refine bGo hA 1 0 (30, .iconst (-1), 1, 17, 0, [], [(-1, 0)]) rfl rfl rfl ?_
    refine bGo hA 1 1 (31, .ireturn, 1, 0, 0, [1], []) rfl rfl rfl ?_
    exact (h.1 c1)
  · refine bGo hA 0 2 (4, .iload_n 1, 1, 3, 0, [1], []) rfl rfl rfl ?_
    refine bGo hA 0 3 (5, .aload_n 0, 1, 4, 0, [0], []) rfl rfl rfl ?_
    refine bGo hA 0 4 (6, .getfield 57, 3, 5, 0, [0, 1, 0, 0, 0, 0], []) rfl rfl rfl ?_
    refine ⟨h_a0, ?_⟩
    refine bGo hA 0 5 (9, .if_icmp .ge (21), 3, 6, 16, [], []) rfl rfl rfl ?_
    refine ⟨fun c2 => ?_, fun c2 => ?_⟩
    · refine bGo hA 0 6 (12, .iload_n 1, 1, 7, 0, [1], []) rfl rfl rfl ?_
      refine bGo hA 0 7 (13, .aload_n 0, 1, 8, 0, [0], []) rfl rfl rfl ?_
      refine bGo hA 0 8 (14, .getfield 9, 3, 9, 0, [0, 2, 3, 13, 1, 0], []) rfl rfl rfl ?_
      refine ⟨h_a0, ?_⟩
      refine bGo hA 0 9 (17, .arraylength, 1, 10, 0, [], []) rfl rfl rfl ?_
      refine ⟨((h.2 c1).1 c2).1, ?_⟩
      refine bGo hA 0 10 (18, .if_icmp .ge (12), 3, 11, 16, [], []) rfl rfl rfl ?_
      refine ⟨fun c3 => ?_, fun c3 => ?_⟩
      · refine bGo hA 0 11 (21, .aload_n 0, 1, 12, 0, [0], []) rfl rfl rfl ?_
        refine bGo hA 0 12 (22, .getfield 9, 3, 13, 0, [0, 2, 3, 13, 1, 0], []) rfl rfl rfl ?_
        refine ⟨h_a0, ?_⟩
        refine bGo hA 0 13 (25, .iload_n 1, 1, 14, 0, [1], []) rfl rfl rfl ?_
        refine bGo hA 0 14 (26, .iaload, 1, 15, 0, [], []) rfl rfl rfl ?_
        refine ⟨(((h.2 c1).1 c2).2.1 c3).1, (((h.2 c1).1 c2).2.1 c3).2.1, ?_⟩
        refine bGo hA 0 15 (27, .goto (4), 3, 16, 17, [], []) rfl rfl rfl ?_
        refine bGo hA 1 1 (31, .ireturn, 1, 0, 0, [1], []) rfl rfl rfl ?_
        exact (((h.2 c1).1 c2).2.1 c3).2.2
      · refine bGo hA 1 0 (30, .iconst (-1), 1, 17, 0, [], [(-1, 0)]) rfl rfl rfl ?_
        refine bGo hA 1 1 (31, .ireturn, 1, 0, 0, [1], []) rfl rfl rfl ?_
        exact (((h.2 c1).1 c2).2.2 c3)
    · refine bGo hA 1 0 (30, .iconst (-1), 1, 17, 0, [], [(-1, 0)]) rfl rfl rfl ?_
      refine bGo hA 1 1 (31, .ireturn, 1, 0, 0, [1], []) rfl rfl rfl ?_
      exact ((h.2 c1).2 c2)

theorem sg5_0 {lvl : Nat} {C : bCall} {Q : bPost} {A : bPt → Prop} (hC : bMono C) (hA : bClosed lvl bm5 C Q A) {a0 : Nat} {x1 : Int32} {σ : bSt} (h_a0 : a0 % 256 = 0)
  (h : ((x1 < 0 → Q (.inl (some (.int (-1)))) σ) ∧ (¬ x1 < 0 → ((x1 < (σ.1 a0 1) → (¬ bTy (256 * (1 * (a0 / 256) + 0) + 13) = 9 ∧ ((x1 < (Int32.ofNat (bLen σ (256 * (1 * (a0 / 256) + 0) + 13))) → (bTy (256 * (1 * (a0 / 256) + 0) + 13) = 0 ∧ (vp_in x1 (bLen σ (256 * (1 * (a0 / 256) + 0) + 13)) ∧ (((σ.1 (256 * (1 * (a0 / 256) + 0) + 13) (x1).toNatClampNeg) < 100 → Q (.inl (some (.int (-1)))) σ) ∧ (¬ (σ.1 (256 * (1 * (a0 / 256) + 0) + 13) (x1).toNatClampNeg) < 100 → (vp_in x1 (bLen σ (256 * (1 * (a0 / 256) + 0) + 13)) ∧ Q (.inl (some (.int ((σ.1 (256 * (1 * (a0 / 256) + 0) + 13) (x1).toNatClampNeg) - 100)))) σ)))))) ∧ (¬ x1 < (Int32.ofNat (bLen σ (256 * (1 * (a0 / 256) + 0) + 13))) → Q (.inl (some (.int (-1)))) σ)))) ∧ (¬ x1 < (σ.1 a0 1) → Q (.inl (some (.int (-1)))) σ))))) : A (0, [.ref a0, .int x1, .float 0], [], σ) := by
  refine bGo hA 0 0 (0, .iload_n 1, 1, 1, 0, [1], []) rfl rfl rfl ?_
  refine bGo hA 0 1 (1, .ifCond .lt (24), 3, 2, 13, [], []) rfl rfl rfl ?_
  refine ⟨fun c1 => ?_, fun c1 => ?_⟩
  · refine bGo hA 0 13 (25, .iconst (0), 1, 14, 0, [], [(0, 0)]) rfl rfl rfl ?_
    refine bGo hA 0 14 (26, .istore_n 2, 1, 15, 0, [2], []) rfl rfl rfl ?_
    refine bGo hA 0 15 (27, .iload_n 2, 1, 16, 0, [2], []) rfl rfl rfl ?_
    refine bGo hA 1 0 (28, .ifCond .eq (26), 3, 17, 30, [], []) rfl rfl rfl ?_
    refine ⟨fun _ => ?_, fun c => absurd (by decide) c⟩
    refine bGo hA 1 14 (54, .iconst (-1), 1, 31, 0, [], [(-1, 0)]) rfl rfl rfl ?_
    refine bGo hA 1 15 (55, .ireturn, 1, 0, 0, [1], []) rfl rfl rfl ?_
    exact (h.1 c1)
  · refine bGo hA 0 2 (4, .iload_n 1, 1, 3, 0, [1], []) rfl rfl rfl ?_
    refine bGo hA 0 3 (5, .aload_n 0, 1, 4, 0, [0], []) rfl rfl rfl ?_
    refine bGo hA 0 4 (6, .getfield 57, 3, 5, 0, [0, 1, 0, 0, 0, 0], []) rfl rfl rfl ?_
    refine ⟨h_a0, ?_⟩
    refine bGo hA 0 5 (9, .if_icmp .ge (16), 3, 6, 13, [], []) rfl rfl rfl ?_
    refine ⟨fun c3 => ?_, fun c3 => ?_⟩
    · refine bGo hA 0 6 (12, .iload_n 1, 1, 7, 0, [1], []) rfl rfl rfl ?_
      refine bGo hA 0 7 (13, .aload_n 0, 1, 8, 0, [0], []) rfl rfl rfl ?_
      refine bGo hA 0 8 (14, .getfield 9, 3, 9, 0, [0, 2, 3, 13, 1, 0], []) rfl rfl rfl ?_
      refine ⟨h_a0, ?_⟩
      refine bGo hA 0 9 (17, .arraylength, 1, 10, 0, [], []) rfl rfl rfl ?_
      refine ⟨((h.2 c1).1 c3).1, ?_⟩
      refine bGo hA 0 10 (18, .if_icmp .ge (7), 3, 11, 13, [], []) rfl rfl rfl ?_
      refine ⟨fun c4 => ?_, fun c4 => ?_⟩
      · refine bGo hA 0 11 (21, .iconst (1), 1, 12, 0, [], [(1, 0)]) rfl rfl rfl ?_
        refine bGo hA 0 12 (22, .goto (4), 3, 13, 14, [], []) rfl rfl rfl ?_
        refine bGo hA 0 14 (26, .istore_n 2, 1, 15, 0, [2], []) rfl rfl rfl ?_
        refine bGo hA 0 15 (27, .iload_n 2, 1, 16, 0, [2], []) rfl rfl rfl ?_
        refine bGo hA 1 0 (28, .ifCond .eq (26), 3, 17, 30, [], []) rfl rfl rfl ?_
        refine ⟨fun c => absurd c (by decide), fun _ => ?_⟩
        refine bGo hA 1 1 (31, .aload_n 0, 1, 18, 0, [0], []) rfl rfl rfl ?_
        refine bGo hA 1 2 (32, .getfield 9, 3, 19, 0, [0, 2, 3, 13, 1, 0], []) rfl rfl rfl ?_
        refine ⟨h_a0, ?_⟩
        refine bGo hA 1 3 (35, .iload_n 1, 1, 20, 0, [1], []) rfl rfl rfl ?_
        refine bGo hA 1 4 (36, .iaload, 1, 21, 0, [], []) rfl rfl rfl ?_
        refine ⟨(((h.2 c1).1 c3).2.1 c4).1, (((h.2 c1).1 c3).2.1 c4).2.1, ?_⟩
        refine bGo hA 1 5 (37, .bipush (100), 2, 22, 0, [], [(100, 0)]) rfl rfl rfl ?_
        refine bGo hA 1 6 (39, .if_icmp .lt (15), 3, 23, 30, [], []) rfl rfl rfl ?_
        refine ⟨fun c6 => ?_, fun c6 => ?_⟩
        · refine bGo hA 1 14 (54, .iconst (-1), 1, 31, 0, [], [(-1, 0)]) rfl rfl rfl ?_
          refine bGo hA 1 15 (55, .ireturn, 1, 0, 0, [1], []) rfl rfl rfl ?_
          exact ((((h.2 c1).1 c3).2.1 c4).2.2.1 c6)
        · refine bGo hA 1 7 (42, .aload_n 0, 1, 24, 0, [0], []) rfl rfl rfl ?_
          refine bGo hA 1 8 (43, .getfield 9, 3, 25, 0, [0, 2, 3, 13, 1, 0], []) rfl rfl rfl ?_
          refine ⟨h_a0, ?_⟩
          refine bGo hA 1 9 (46, .iload_n 1, 1, 26, 0, [1], []) rfl rfl rfl ?_
          refine bGo hA 1 10 (47, .iaload, 1, 27, 0, [], []) rfl rfl rfl ?_
          refine ⟨(((h.2 c1).1 c3).2.1 c4).1, ((((h.2 c1).1 c3).2.1 c4).2.2.2 c6).1, ?_⟩
          refine bGo hA 1 11 (48, .bipush (100), 2, 28, 0, [], [(100, 0)]) rfl rfl rfl ?_
          refine bGo hA 1 12 (50, .isub, 1, 29, 0, [], []) rfl rfl rfl ?_
          refine bGo hA 1 13 (51, .goto (4), 3, 30, 31, [], []) rfl rfl rfl ?_
          refine bGo hA 1 15 (55, .ireturn, 1, 0, 0, [1], []) rfl rfl rfl ?_
          exact ((((h.2 c1).1 c3).2.1 c4).2.2.2 c6).2
      · refine bGo hA 0 13 (25, .iconst (0), 1, 14, 0, [], [(0, 0)]) rfl rfl rfl ?_
        refine bGo hA 0 14 (26, .istore_n 2, 1, 15, 0, [2], []) rfl rfl rfl ?_
        refine bGo hA 0 15 (27, .iload_n 2, 1, 16, 0, [2], []) rfl rfl rfl ?_
        refine bGo hA 1 0 (28, .ifCond .eq (26), 3, 17, 30, [], []) rfl rfl rfl ?_
        refine ⟨fun _ => ?_, fun c => absurd (by decide) c⟩
        refine bGo hA 1 14 (54, .iconst (-1), 1, 31, 0, [], [(-1, 0)]) rfl rfl rfl ?_
        refine bGo hA 1 15 (55, .ireturn, 1, 0, 0, [1], []) rfl rfl rfl ?_
        exact (((h.2 c1).1 c3).2.2 c4)
    · refine bGo hA 0 13 (25, .iconst (0), 1, 14, 0, [], [(0, 0)]) rfl rfl rfl ?_
      refine bGo hA 0 14 (26, .istore_n 2, 1, 15, 0, [2], []) rfl rfl rfl ?_
      refine bGo hA 0 15 (27, .iload_n 2, 1, 16, 0, [2], []) rfl rfl rfl ?_
      refine bGo hA 1 0 (28, .ifCond .eq (26), 3, 17, 30, [], []) rfl rfl rfl ?_
      refine ⟨fun _ => ?_, fun c => absurd (by decide) c⟩
      refine bGo hA 1 14 (54, .iconst (-1), 1, 31, 0, [], [(-1, 0)]) rfl rfl rfl ?_
      refine bGo hA 1 15 (55, .ireturn, 1, 0, 0, [1], []) rfl rfl rfl ?_
      exact ((h.2 c1).2 c3)

theorem sg6_0 {lvl : Nat} {C : bCall} {Q : bPost} {A : bPt → Prop} (hC : bMono C) (hA : bClosed lvl bm6 C Q A) {a0 : Nat} {a1 : Nat} {σ : bSt} (h_a0 : a0 % 256 = 0) (h_a1 : a1 % 256 = 0)
  (h : ((256 * (2 * (a0 / 256) + 0) + 4) % 256 = 4 ∧ ((256 * (2 * (a1 / 256) + 0) + 4) % 256 = 4 ∧ (((σ.1 (256 * (2 * (a0 / 256) + 0) + 4) 0) = (σ.1 (256 * (2 * (a1 / 256) + 0) + 4) 0) → (((σ.1 (256 * (2 * (a0 / 256) + 0) + 4) 1) = (σ.1 (256 * (2 * (a1 / 256) + 0) + 4) 1) → (((σ.1 (256 * (2 * (a0 / 256) + 0) + 4) 2) = (σ.1 (256 * (2 * (a1 / 256) + 0) + 4) 2) → (((σ.1 a0 1) = (σ.1 a1 1) → (((σ.1 (256 * (2 * (a0 / 256) + 0) + 4) 0) = 5 → (((σ.1 a0 0) = (σ.1 a1 0) → A (42, [.ref a0, .ref a1, .int 1, .int 0], [], σ)) ∧ (¬ (σ.1 a0 0) = (σ.1 a1 0) → A (42, [.ref a0, .ref a1, .int 0, .int 0], [], σ)))) ∧ (¬ (σ.1 (256 * (2 * (a0 / 256) + 0) + 4) 0) = 5 → A (42, [.ref a0, .ref a1, .int 1, .int 0], [], σ)))) ∧ (¬ (σ.1 a0 1) = (σ.1 a1 1) → A (42, [.ref a0, .ref a1, .int 0, .int 0], [], σ)))) ∧ (¬ (σ.1 (256 * (2 * (a0 / 256) + 0) + 4) 2) = (σ.1 (256 * (2 * (a1 / 256) + 0) + 4) 2) → A (42, [.ref a0, .ref a1, .int 0, .int 0], [], σ)))) ∧ (¬ (σ.1 (256 * (2 * (a0 / 256) + 0) + 4) 1) = (σ.1 (256 * (2 * (a1 / 256) + 0) + 4) 1) → A (42, [.ref a0, .ref a1, .int 0, .int 0], [], σ)))) ∧ (¬ (σ.1 (256 * (2 * (a0 / 256) + 0) + 4) 0) = (σ.1 (256 * (2 * (a1 / 256) + 0) + 4) 0) → A (42, [.ref a0, .ref a1, .int 0, .int 0], [], σ)))))) : A (0, [.ref a0, .ref a1, .float 0, .float 0], [], σ) := by
  refine bGo hA 0 0 (0, .aload_n 0, 1, 1, 0, [0], []) rfl rfl rfl ?_
  refine bGo hA 0 1 (1, .getfield 18, 3, 2, 0, [0, 3, 3, 4, 2, 0], []) rfl rfl rfl ?_
  refine ⟨h_a0, ?_⟩
  refine bGo hA 0 2 (4, .getfield 75, 3, 3, 0, [4, 0, 0, 0, 0, 0], []) rfl rfl rfl ?_
  refine ⟨h.1, ?_⟩
  refine bGo hA 0 3 (7, .aload_n 1, 1, 4, 0, [1], []) rfl rfl rfl ?_
  refine bGo hA 0 4 (8, .getfield 18, 3, 5, 0, [0, 3, 3, 4, 2, 0], []) rfl rfl rfl ?_
  refine ⟨h_a1, ?_⟩
  refine bGo hA 0 5 (11, .getfield 75, 3, 6, 0, [4, 0, 0, 0, 0, 0], []) rfl rfl rfl ?_
  refine ⟨h.2.1, ?_⟩
  refine bGo hA 0 6 (14, .if_icmp .ne (74), 3, 7, 38, [], []) rfl rfl rfl ?_
  refine ⟨fun c1 => ?_, fun c1 => ?_⟩
  · refine bGo hA 0 7 (17, .aload_n 0, 1, 8, 0, [0], []) rfl rfl rfl ?_
    refine bGo hA 0 8 (18, .getfield 18, 3, 9, 0, [0, 3, 3, 4, 2, 0], []) rfl rfl rfl ?_
    refine ⟨h_a0, ?_⟩
    refine bGo hA 0 9 (21, .getfield 76, 3, 10, 0, [4, 1, 0, 0, 0, 0], []) rfl rfl rfl ?_
    refine ⟨h.1, ?_⟩
    refine bGo hA 0 10 (24, .aload_n 1, 1, 11, 0, [1], []) rfl rfl rfl ?_
    refine bGo hA 0 11 (25, .getfield 18, 3, 12, 0, [0, 3, 3, 4, 2, 0], []) rfl rfl rfl ?_
    refine ⟨h_a1, ?_⟩
    refine bGo hA 0 12 (28, .getfield 76, 3, 13, 0, [4, 1, 0, 0, 0, 0], []) rfl rfl rfl ?_
    refine ⟨h.2.1, ?_⟩
    refine bGo hA 0 13 (31, .if_icmp .ne (57), 3, 14, 38, [], []) rfl rfl rfl ?_
    refine ⟨fun c2 => ?_, fun c2 => ?_⟩
    · refine bGo hA 0 14 (34, .aload_n 0, 1, 15, 0, [0], []) rfl rfl rfl ?_
      refine bGo hA 0 15 (35, .getfield 18, 3, 16, 0, [0, 3, 3, 4, 2, 0], []) rfl rfl rfl ?_
      refine ⟨h_a0, ?_⟩
      refine bGo hA 1 0 (38, .getfield 79, 3, 17, 0, [4, 2, 0, 0, 0, 0], []) rfl rfl rfl ?_
      refine ⟨h.1, ?_⟩
      refine bGo hA 1 1 (41, .aload_n 1, 1, 18, 0, [1], []) rfl rfl rfl ?_
      refine bGo hA 1 2 (42, .getfield 18, 3, 19, 0, [0, 3, 3, 4, 2, 0], []) rfl rfl rfl ?_
      refine ⟨h_a1, ?_⟩
      refine bGo hA 1 3 (45, .getfield 79, 3, 20, 0, [4, 2, 0, 0, 0, 0], []) rfl rfl rfl ?_
      refine ⟨h.2.1, ?_⟩
      refine bGo hA 1 4 (48, .if_icmp .ne (40), 3, 21, 38, [], []) rfl rfl rfl ?_
      refine ⟨fun c3 => ?_, fun c3 => ?_⟩
      · refine bGo hA 1 5 (51, .aload_n 0, 1, 22, 0, [0], []) rfl rfl rfl ?_
        refine bGo hA 1 6 (52, .getfield 57, 3, 23, 0, [0, 1, 0, 0, 0, 0], []) rfl rfl rfl ?_
        refine ⟨h_a0, ?_⟩
        refine bGo hA 1 7 (55, .aload_n 1, 1, 24, 0, [1], []) rfl rfl rfl ?_
        refine bGo hA 1 8 (56, .getfield 57, 3, 25, 0, [0, 1, 0, 0, 0, 0], []) rfl rfl rfl ?_
        refine ⟨h_a1, ?_⟩
        refine bGo hA 1 9 (59, .if_icmp .ne (29), 3, 26, 38, [], []) rfl rfl rfl ?_
        refine ⟨fun c4 => ?_, fun c4 => ?_⟩
        · refine bGo hA 1 10 (62, .aload_n 0, 1, 27, 0, [0], []) rfl rfl rfl ?_
          refine bGo hA 1 11 (63, .getfield 18, 3, 28, 0, [0, 3, 3, 4, 2, 0], []) rfl rfl rfl ?_
          refine ⟨h_a0, ?_⟩
          refine bGo hA 1 12 (66, .getfield 75, 3, 29, 0, [4, 0, 0, 0, 0, 0], []) rfl rfl rfl ?_
          refine ⟨h.1, ?_⟩
          refine bGo hA 1 13 (69, .iconst (5), 1, 30, 0, [], [(5, 0)]) rfl rfl rfl ?_
          refine bGo hA 1 14 (70, .if_icmp .ne (14), 3, 31, 36, [], []) rfl rfl rfl ?_
          refine ⟨fun c5 => ?_, fun c5 => ?_⟩
          · refine bGo hA 1 15 (73, .aload_n 0, 1, 32, 0, [0], []) rfl rfl rfl ?_
            refine bGo hA 2 0 (74, .getfield 56, 3, 33, 0, [0, 0, 0, 0, 0, 0], []) rfl rfl rfl ?_
            refine ⟨h_a0, ?_⟩
            refine bGo hA 2 1 (77, .aload_n 1, 1, 34, 0, [1], []) rfl rfl rfl ?_
            refine bGo hA 2 2 (78, .getfield 56, 3, 35, 0, [0, 0, 0, 0, 0, 0], []) rfl rfl rfl ?_
            refine ⟨h_a1, ?_⟩
            refine bGo hA 2 3 (81, .if_icmp .ne (7), 3, 36, 38, [], []) rfl rfl rfl ?_
            refine ⟨fun c6 => ?_, fun c6 => ?_⟩
            · refine bGo hA 2 4 (84, .iconst (1), 1, 37, 0, [], [(1, 0)]) rfl rfl rfl ?_
              refine bGo hA 2 5 (85, .goto (4), 3, 38, 39, [], []) rfl rfl rfl ?_
              refine bGo hA 2 7 (89, .istore_n 2, 1, 40, 0, [2], []) rfl rfl rfl ?_
              refine bGo hA 2 8 (90, .iconst (0), 1, 41, 0, [], [(0, 0)]) rfl rfl rfl ?_
              refine bGo hA 2 9 (91, .istore_n 3, 1, 42, 0, [3], []) rfl rfl rfl ?_
              exact ((((((h.2.2.1 c1).1 c2).1 c3).1 c4).1 c5).1 c6)
            · refine bGo hA 2 6 (88, .iconst (0), 1, 39, 0, [], [(0, 0)]) rfl rfl rfl ?_
              refine bGo hA 2 7 (89, .istore_n 2, 1, 40, 0, [2], []) rfl rfl rfl ?_
              refine bGo hA 2 8 (90, .iconst (0), 1, 41, 0, [], [(0, 0)]) rfl rfl rfl ?_
              refine bGo hA 2 9 (91, .istore_n 3, 1, 42, 0, [3], []) rfl rfl rfl ?_
              exact ((((((h.2.2.1 c1).1 c2).1 c3).1 c4).1 c5).2 c6)
          · refine bGo hA 2 4 (84, .iconst (1), 1, 37, 0, [], [(1, 0)]) rfl rfl rfl ?_
            refine bGo hA 2 5 (85, .goto (4), 3, 38, 39, [], []) rfl rfl rfl ?_
            refine bGo hA 2 7 (89, .istore_n 2, 1, 40, 0, [2], []) rfl rfl rfl ?_
            refine bGo hA 2 8 (90, .iconst (0), 1, 41, 0, [], [(0, 0)]) rfl rfl rfl ?_
            refine bGo hA 2 9 (91, .istore_n 3, 1, 42, 0, [3], []) rfl rfl rfl ?_
            exact (((((h.2.2.1 c1).1 c2).1 c3).1 c4).2 c5)
        · refine bGo hA 2 6 (88, .iconst (0), 1, 39, 0, [], [(0, 0)]) rfl rfl rfl ?_
          refine bGo hA 2 7 (89, .istore_n 2, 1, 40, 0, [2], []) rfl rfl rfl ?_
          refine bGo hA 2 8 (90, .iconst (0), 1, 41, 0, [], [(0, 0)]) rfl rfl rfl ?_
          refine bGo hA 2 9 (91, .istore_n 3, 1, 42, 0, [3], []) rfl rfl rfl ?_
          exact ((((h.2.2.1 c1).1 c2).1 c3).2 c4)
      · refine bGo hA 2 6 (88, .iconst (0), 1, 39, 0, [], [(0, 0)]) rfl rfl rfl ?_
        refine bGo hA 2 7 (89, .istore_n 2, 1, 40, 0, [2], []) rfl rfl rfl ?_
        refine bGo hA 2 8 (90, .iconst (0), 1, 41, 0, [], [(0, 0)]) rfl rfl rfl ?_
        refine bGo hA 2 9 (91, .istore_n 3, 1, 42, 0, [3], []) rfl rfl rfl ?_
        exact (((h.2.2.1 c1).1 c2).2 c3)
    · refine bGo hA 2 6 (88, .iconst (0), 1, 39, 0, [], [(0, 0)]) rfl rfl rfl ?_
      refine bGo hA 2 7 (89, .istore_n 2, 1, 40, 0, [2], []) rfl rfl rfl ?_
      refine bGo hA 2 8 (90, .iconst (0), 1, 41, 0, [], [(0, 0)]) rfl rfl rfl ?_
      refine bGo hA 2 9 (91, .istore_n 3, 1, 42, 0, [3], []) rfl rfl rfl ?_
      exact ((h.2.2.1 c1).2 c2)
  · refine bGo hA 2 6 (88, .iconst (0), 1, 39, 0, [], [(0, 0)]) rfl rfl rfl ?_
    refine bGo hA 2 7 (89, .istore_n 2, 1, 40, 0, [2], []) rfl rfl rfl ?_
    refine bGo hA 2 8 (90, .iconst (0), 1, 41, 0, [], [(0, 0)]) rfl rfl rfl ?_
    refine bGo hA 2 9 (91, .istore_n 3, 1, 42, 0, [3], []) rfl rfl rfl ?_
    exact (h.2.2.2 c1)

theorem sg6_42 {lvl : Nat} {C : bCall} {Q : bPost} {A : bPt → Prop} (hC : bMono C) (hA : bClosed lvl bm6 C Q A) {l0 : Nat} {l1 : Nat} {l2 : Int32} {l3 : Int32} {σ : bSt} 
  (h : ((l2 = 0 → ((l2 = 0 ∨ l2 = 1) ∧ Q (.inl (some (.int l2))) σ)) ∧ (¬ l2 = 0 → (l0 % 256 = 0 ∧ ((l3 < (σ.1 l0 1) → (C 140 [.ref (256 * (1 * (l0 / 256) + 0) + 13), .int l3] σ (bRi (fun r5 s3 => (l1 % 256 = 0 ∧ (C 140 [.ref (256 * (1 * (l1 / 256) + 0) + 13), .int l3] s3 (bRi (fun r8 s6 => ((r5 = r8 → A (42, [.ref l0, .ref l1, .int 1, .int (l3 + 1)], [], s6)) ∧ (¬ r5 = r8 → A (42, [.ref l0, .ref l1, .int 0, .int (l3 + 1)], [], s6))))))))))) ∧ (¬ l3 < (σ.1 l0 1) → ((l2 = 0 ∨ l2 = 1) ∧ Q (.inl (some (.int l2))) σ))))))) : A (42, [.ref l0, .ref l1, .int l2, .int l3], [], σ) := by
  refine bGo hA 2 10 (92, .iload_n 2, 1, 43, 0, [2], []) rfl rfl rfl ?_
  refine bGo hA 2 11 (93, .ifCond .eq (42), 3, 44, 63, [], []) rfl rfl rfl ?_
  refine ⟨fun c1 => ?_, fun c1 => ?_⟩
  · refine bGo hA 3 15 (135, .iload_n 2, 1, 64, 0, [2], []) rfl rfl rfl ?_
    refine bGo hA 4 0 (136, .ireturn, 1, 0, 0, [2], []) rfl rfl rfl ?_
    exact (h.1 c1)
  · refine bGo hA 2 12 (96, .iload_n 3, 1, 45, 0, [3], []) rfl rfl rfl ?_
    refine bGo hA 2 13 (97, .aload_n 0, 1, 46, 0, [0], []) rfl rfl rfl ?_
    refine bGo hA 2 14 (98, .getfield 57, 3, 47, 0, [0, 1, 0, 0, 0, 0], []) rfl rfl rfl ?_
    refine ⟨(h.2 c1).1, ?_⟩
    refine bGo hA 2 15 (101, .if_icmp .ge (34), 3, 48, 63, [], []) rfl rfl rfl ?_
    refine ⟨fun c2 => ?_, fun c2 => ?_⟩
    · refine bGo hA 3 0 (104, .aload_n 0, 1, 49, 0, [0], []) rfl rfl rfl ?_
      refine bGo hA 3 1 (105, .getfield 9, 3, 50, 0, [0, 2, 3, 13, 1, 0], []) rfl rfl rfl ?_
      refine ⟨(h.2 c1).1, ?_⟩
      refine bGo hA 3 2 (108, .iload_n 3, 1, 51, 0, [3], []) rfl rfl rfl ?_
      refine bGo hA 3 3 (109, .invokestatic 82, 3, 52, 1, [2, 140, 2], []) rfl rfl rfl ?_
      refine hC _ _ _ _ _ (bRi_e (fun r5 s3 k4 => ?_)) ((h.2 c1).2.1 c2)
      show A (52, [.ref l0, .ref l1, .int l2, .int l3], [.int r5], s3)
      refine bGo hA 3 4 (112, .aload_n 1, 1, 53, 0, [1], []) rfl rfl rfl ?_
      refine bGo hA 3 5 (113, .getfield 9, 3, 54, 0, [0, 2, 3, 13, 1, 0], []) rfl rfl rfl ?_
      refine ⟨k4.1, ?_⟩
      refine bGo hA 3 6 (116, .iload_n 3, 1, 55, 0, [3], []) rfl rfl rfl ?_
      refine bGo hA 3 7 (117, .invokestatic 82, 3, 56, 1, [2, 140, 2], []) rfl rfl rfl ?_
      refine hC _ _ _ _ _ (bRi_e (fun r8 s6 k7 => ?_)) k4.2
      show A (56, [.ref l0, .ref l1, .int l2, .int l3], [.int r8, .int r5], s6)
      refine bGo hA 3 8 (120, .if_icmp .ne (7), 3, 57, 59, [], []) rfl rfl rfl ?_
      refine ⟨fun c9 => ?_, fun c9 => ?_⟩
      · refine bGo hA 3 9 (123, .iconst (1), 1, 58, 0, [], [(1, 0)]) rfl rfl rfl ?_
        refine bGo hA 3 10 (124, .goto (4), 3, 59, 60, [], []) rfl rfl rfl ?_
        refine bGo hA 3 12 (128, .istore_n 2, 1, 61, 0, [2], []) rfl rfl rfl ?_
        refine bGo hA 3 13 (129, .iinc 3 (1), 3, 62, 0, [3], [(1, 0)]) rfl rfl rfl ?_
        refine bGo hA 3 14 (132, .goto (-40), 3, 63, 42, [], []) rfl rfl rfl ?_
        exact (k7.1 c9)
      · refine bGo hA 3 11 (127, .iconst (0), 1, 60, 0, [], [(0, 0)]) rfl rfl rfl ?_
        refine bGo hA 3 12 (128, .istore_n 2, 1, 61, 0, [2], []) rfl rfl rfl ?_
        refine bGo hA 3 13 (129, .iinc 3 (1), 3, 62, 0, [3], [(1, 0)]) rfl rfl rfl ?_
        refine bGo hA 3 14 (132, .goto (-40), 3, 63, 42, [], []) rfl rfl rfl ?_
        exact (k7.2 c9)
    · refine bGo hA 3 15 (135, .iload_n 2, 1, 64, 0, [2], []) rfl rfl rfl ?_
      refine bGo hA 4 0 (136, .ireturn, 1, 0, 0, [2], []) rfl rfl rfl ?_
      exact ((h.2 c1).2.2 c2)

theorem sg7_0 {lvl : Nat} {C : bCall} {Q : bPost} {A : bPt → Prop} (hC : bMono C) (hA : bClosed lvl bm7 C Q A) {a0 : Nat} {a1 : Nat} {σ : bSt} (h_a0 : a0 % 256 = 0) (h_a1 : a1 % 256 = 8)
  (h : ((((bI (bI σ a0 6 (σ.1 a1 8)) a0 7 ((bI σ a0 6 (σ.1 a1 8)).1 a1 9)).1 a1 10) = 0 ∨ ((bI (bI σ a0 6 (σ.1 a1 8)) a0 7 ((bI σ a0 6 (σ.1 a1 8)).1 a1 9)).1 a1 10) = 1) ∧ Q (.inl none) (bI (bI (bI σ a0 6 (σ.1 a1 8)) a0 7 ((bI σ a0 6 (σ.1 a1 8)).1 a1 9)) a0 8 ((bI (bI σ a0 6 (σ.1 a1 8)) a0 7 ((bI σ a0 6 (σ.1 a1 8)).1 a1 9)).1 a1 10)))) : A (0, [.ref a0, .ref a1], [], σ) := by
  refine bGo hA 0 0 (0, .aload_n 0, 1, 1, 0, [0], []) rfl rfl rfl ?_
  refine bGo hA 0 1 (1, .aload_n 1, 1, 2, 0, [1], []) rfl rfl rfl ?_
  refine bGo hA 0 2 (2, .getfield 86, 3, 3, 0, [8, 8, 0, 0, 0, 0], []) rfl rfl rfl ?_
  refine ⟨h_a1, ?_⟩
  refine bGo hA 0 3 (5, .putfield 89, 3, 4, 0, [0, 6, 0, 0, 0, 0], []) rfl rfl rfl ?_
  refine ⟨h_a0, ?_⟩
  refine bGo hA 0 4 (8, .aload_n 0, 1, 5, 0, [0], []) rfl rfl rfl ?_
  refine bGo hA 0 5 (9, .aload_n 1, 1, 6, 0, [1], []) rfl rfl rfl ?_
  refine bGo hA 0 6 (10, .getfield 90, 3, 7, 0, [8, 9, 0, 0, 0, 0], []) rfl rfl rfl ?_
  refine ⟨h_a1, ?_⟩
  refine bGo hA 0 7 (13, .putfield 93, 3, 8, 0, [0, 7, 0, 0, 0, 0], []) rfl rfl rfl ?_
  refine ⟨h_a0, ?_⟩
  refine bGo hA 0 8 (16, .aload_n 0, 1, 9, 0, [0], []) rfl rfl rfl ?_
  refine bGo hA 0 9 (17, .aload_n 1, 1, 10, 0, [1], []) rfl rfl rfl ?_
  refine bGo hA 0 10 (18, .getfield 94, 3, 11, 0, [8, 10, 1, 0, 0, 0], []) rfl rfl rfl ?_
  refine ⟨h_a1, ?_⟩
  refine bGo hA 0 11 (21, .putfield 98, 3, 12, 0, [0, 8, 1, 0, 0, 0], []) rfl rfl rfl ?_
  refine ⟨h_a0, h.1, ?_⟩
  refine bGo hA 0 12 (24, .return_, 1, 0, 0, [0], []) rfl rfl rfl ?_
  exact h.2

theorem sg8_0 {lvl : Nat} {C : bCall} {Q : bPost} {A : bPt → Prop} (hC : bMono C) (hA : bClosed lvl bm8 C Q A) {a0 : Nat} {σ : bSt} (h_a0 : a0 % 256 = 0)
  (h : (C 9 [.ref a0] (bI (bI (bI (bI (bI (bI (bI σ a0 5 0) a0 9 0) a0 10 (-1)) a0 11 (-1)) a0 12 (-1)) a0 13 (-1)) a0 14 (-1)) (bRv (fun s1 => Q (.inl none) s1)))) : A (0, [.ref a0], [], σ) := by
  refine bGo hA 0 0 (0, .aload_n 0, 1, 1, 0, [0], []) rfl rfl rfl ?_
  refine bGo hA 0 1 (1, .iconst (0), 1, 2, 0, [], [(0, 0)]) rfl rfl rfl ?_
  refine bGo hA 0 2 (2, .putfield 99, 3, 3, 0, [0, 5, 1, 0, 0, 0], []) rfl rfl rfl ?_
  refine ⟨h_a0, Or.inl rfl, ?_⟩
  refine bGo hA 0 3 (5, .aload_n 0, 1, 4, 0, [0], []) rfl rfl rfl ?_
  refine bGo hA 0 4 (6, .iconst (0), 1, 5, 0, [], [(0, 0)]) rfl rfl rfl ?_
  refine bGo hA 0 5 (7, .putfield 102, 3, 6, 0, [0, 9, 0, 0, 0, 0], []) rfl rfl rfl ?_
  refine ⟨h_a0, ?_⟩
  refine bGo hA 0 6 (10, .aload_n 0, 1, 7, 0, [0], []) rfl rfl rfl ?_
  refine bGo hA 0 7 (11, .iconst (-1), 1, 8, 0, [], [(-1, 0)]) rfl rfl rfl ?_
  refine bGo hA 0 8 (12, .putfield 25, 3, 9, 0, [0, 10, 0, 0, 0, 0], []) rfl rfl rfl ?_
  refine ⟨h_a0, ?_⟩
  refine bGo hA 0 9 (15, .aload_n 0, 1, 10, 0, [0], []) rfl rfl rfl ?_
  refine bGo hA 0 10 (16, .iconst (-1), 1, 11, 0, [], [(-1, 0)]) rfl rfl rfl ?_
  refine bGo hA 0 11 (17, .putfield 29, 3, 12, 0, [0, 11, 0, 0, 0, 0], []) rfl rfl rfl ?_
  refine ⟨h_a0, ?_⟩
  refine bGo hA 0 12 (20, .aload_n 0, 1, 13, 0, [0], []) rfl rfl rfl ?_
  refine bGo hA 0 13 (21, .iconst (-1), 1, 14, 0, [], [(-1, 0)]) rfl rfl rfl ?_
  refine bGo hA 0 14 (22, .putfield 32, 3, 15, 0, [0, 12, 0, 0, 0, 0], []) rfl rfl rfl ?_
  refine ⟨h_a0, ?_⟩
  refine bGo hA 0 15 (25, .aload_n 0, 1, 16, 0, [0], []) rfl rfl rfl ?_
  refine bGo hA 1 0 (26, .iconst (-1), 1, 17, 0, [], [(-1, 0)]) rfl rfl rfl ?_
  refine bGo hA 1 1 (27, .putfield 35, 3, 18, 0, [0, 13, 0, 0, 0, 0], []) rfl rfl rfl ?_
  refine ⟨h_a0, ?_⟩
  refine bGo hA 1 2 (30, .aload_n 0, 1, 19, 0, [0], []) rfl rfl rfl ?_
  refine bGo hA 1 3 (31, .iconst (-1), 1, 20, 0, [], [(-1, 0)]) rfl rfl rfl ?_
  refine bGo hA 1 4 (32, .putfield 38, 3, 21, 0, [0, 14, 0, 0, 0, 0], []) rfl rfl rfl ?_
  refine ⟨h_a0, ?_⟩
  refine bGo hA 1 5 (35, .aload_n 0, 1, 22, 0, [0], []) rfl rfl rfl ?_
  refine bGo hA 1 6 (36, .invokevirtual 105, 3, 23, 0, [0, 0, 9, 0], []) rfl rfl rfl ?_
  refine ⟨h_a0, ?_⟩
  refine hC _ _ _ _ _ (bRv_e (fun s1 k2 => ?_)) h
  show A (23, [.ref a0], [], s1)
  refine bGo hA 1 7 (39, .return_, 1, 0, 0, [0], []) rfl rfl rfl ?_
  exact k2

theorem sg9_0 {lvl : Nat} {C : bCall} {Q : bPost} {A : bPt → Prop} (hC : bMono C) (hA : bClosed lvl bm9 C Q A) {a0 : Nat} {σ : bSt} (h_a0 : a0 % 256 = 0)
  (h : Q (.inl none) (bI (bI (bI σ a0 15 2147483647) a0 16 2147483647) a0 17 2147483647)) : A (0, [.ref a0], [], σ) := by
  refine bGo hA 0 0 (0, .aload_n 0, 1, 1, 0, [0], []) rfl rfl rfl ?_
  refine bGo hA 0 1 (1, .ldc 41, 2, 2, 0, [41], [(2147483647, 0)]) rfl rfl rfl ?_
  refine bGo hA 0 2 (3, .putfield 42, 3, 3, 0, [0, 15, 0, 0, 0, 0], []) rfl rfl rfl ?_
  refine ⟨h_a0, ?_⟩
  refine bGo hA 0 3 (6, .aload_n 0, 1, 4, 0, [0], []) rfl rfl rfl ?_
  refine bGo hA 0 4 (7, .ldc 41, 2, 5, 0, [41], [(2147483647, 0)]) rfl rfl rfl ?_
  refine bGo hA 0 5 (9, .putfield 45, 3, 6, 0, [0, 16, 0, 0, 0, 0], []) rfl rfl rfl ?_
  refine ⟨h_a0, ?_⟩
  refine bGo hA 0 6 (12, .aload_n 0, 1, 7, 0, [0], []) rfl rfl rfl ?_
  refine bGo hA 0 7 (13, .ldc 41, 2, 8, 0, [41], [(2147483647, 0)]) rfl rfl rfl ?_
  refine bGo hA 0 8 (15, .putfield 48, 3, 9, 0, [0, 17, 0, 0, 0, 0], []) rfl rfl rfl ?_
  refine ⟨h_a0, ?_⟩
  refine bGo hA 0 9 (18, .return_, 1, 0, 0, [0], []) rfl rfl rfl ?_
  exact h

theorem sg10_0 {lvl : Nat} {C : bCall} {Q : bPost} {A : bPt → Prop} (hC : bMono C) (hA : bClosed lvl bm10 C Q A) {a0 : Nat} {σ : bSt} (h_a0 : a0 % 256 = 0)
  (h : (((σ.1 a0 10) = (-1) → Q (.inl (some (.int 0))) σ) ∧ (¬ (σ.1 a0 10) = (-1) → ((4 < (σ.1 a0 10) → Q (.inl (some (.int 0))) σ) ∧ (¬ 4 < (σ.1 a0 10) → Q (.inl (some (.int 1))) σ))))) : A (0, [.ref a0], [], σ) := by
  refine bGo hA 0 0 (0, .aload_n 0, 1, 1, 0, [0], []) rfl rfl rfl ?_
  refine bGo hA 0 1 (1, .getfield 25, 3, 2, 0, [0, 10, 0, 0, 0, 0], []) rfl rfl rfl ?_
  refine ⟨h_a0, ?_⟩
  refine bGo hA 0 2 (4, .iconst (-1), 1, 3, 0, [], [(-1, 0)]) rfl rfl rfl ?_
  refine bGo hA 0 3 (5, .if_icmp .eq (15), 3, 4, 10, [], []) rfl rfl rfl ?_
  refine ⟨fun c1 => ?_, fun c1 => ?_⟩
  · refine bGo hA 0 10 (20, .iconst (0), 1, 11, 0, [], [(0, 0)]) rfl rfl rfl ?_
    refine bGo hA 0 11 (21, .ireturn, 1, 0, 0, [2], []) rfl rfl rfl ?_
    exact ⟨Or.inl rfl, (h.1 c1)⟩
  · refine bGo hA 0 4 (8, .aload_n 0, 1, 5, 0, [0], []) rfl rfl rfl ?_
    refine bGo hA 0 5 (9, .getfield 25, 3, 6, 0, [0, 10, 0, 0, 0, 0], []) rfl rfl rfl ?_
    refine ⟨h_a0, ?_⟩
    refine bGo hA 0 6 (12, .iconst (4), 1, 7, 0, [], [(4, 0)]) rfl rfl rfl ?_
    refine bGo hA 0 7 (13, .if_icmp .gt (7), 3, 8, 10, [], []) rfl rfl rfl ?_
    refine ⟨fun c2 => ?_, fun c2 => ?_⟩
    · refine bGo hA 0 10 (20, .iconst (0), 1, 11, 0, [], [(0, 0)]) rfl rfl rfl ?_
      refine bGo hA 0 11 (21, .ireturn, 1, 0, 0, [2], []) rfl rfl rfl ?_
      exact ⟨Or.inl rfl, ((h.2 c1).1 c2)⟩
    · refine bGo hA 0 8 (16, .iconst (1), 1, 9, 0, [], [(1, 0)]) rfl rfl rfl ?_
      refine bGo hA 0 9 (17, .goto (4), 3, 10, 11, [], []) rfl rfl rfl ?_
      refine bGo hA 0 11 (21, .ireturn, 1, 0, 0, [2], []) rfl rfl rfl ?_
      exact ⟨Or.inr rfl, ((h.2 c1).2 c2)⟩

theorem sg11_0 {lvl : Nat} {C : bCall} {Q : bPost} {A : bPt → Prop} (hC : bMono C) (hA : bClosed lvl bm11 C Q A) {a0 : Nat} {σ : bSt} (h_a0 : a0 % 256 = 0)
  (h : (((σ.1 a0 11) = (-1) → Q (.inl (some (.int 0))) σ) ∧ (¬ (σ.1 a0 11) = (-1) → (((σ.1 a0 10) = (-1) → Q (.inl (some (.int 1))) σ) ∧ (¬ (σ.1 a0 10) = (-1) → Q (.inl (some (.int 0))) σ))))) : A (0, [.ref a0], [], σ) := by
  refine bGo hA 0 0 (0, .aload_n 0, 1, 1, 0, [0], []) rfl rfl rfl ?_
  refine bGo hA 0 1 (1, .getfield 29, 3, 2, 0, [0, 11, 0, 0, 0, 0], []) rfl rfl rfl ?_
  refine ⟨h_a0, ?_⟩
  refine bGo hA 0 2 (4, .iconst (-1), 1, 3, 0, [], [(-1, 0)]) rfl rfl rfl ?_
  refine bGo hA 0 3 (5, .if_icmp .eq (15), 3, 4, 10, [], []) rfl rfl rfl ?_
  refine ⟨fun c1 => ?_, fun c1 => ?_⟩
  · refine bGo hA 0 10 (20, .iconst (0), 1, 11, 0, [], [(0, 0)]) rfl rfl rfl ?_
    refine bGo hA 0 11 (21, .ireturn, 1, 0, 0, [2], []) rfl rfl rfl ?_
    exact ⟨Or.inl rfl, (h.1 c1)⟩
  · refine bGo hA 0 4 (8, .aload_n 0, 1, 5, 0, [0], []) rfl rfl rfl ?_
    refine bGo hA 0 5 (9, .getfield 25, 3, 6, 0, [0, 10, 0, 0, 0, 0], []) rfl rfl rfl ?_
    refine ⟨h_a0, ?_⟩
    refine bGo hA 0 6 (12, .iconst (-1), 1, 7, 0, [], [(-1, 0)]) rfl rfl rfl ?_
    refine bGo hA 0 7 (13, .if_icmp .ne (7), 3, 8, 10, [], []) rfl rfl rfl ?_
    refine ⟨fun c2 => ?_, fun c2 => ?_⟩
    · refine bGo hA 0 8 (16, .iconst (1), 1, 9, 0, [], [(1, 0)]) rfl rfl rfl ?_
      refine bGo hA 0 9 (17, .goto (4), 3, 10, 11, [], []) rfl rfl rfl ?_
      refine bGo hA 0 11 (21, .ireturn, 1, 0, 0, [2], []) rfl rfl rfl ?_
      exact ⟨Or.inr rfl, ((h.2 c1).1 c2)⟩
    · refine bGo hA 0 10 (20, .iconst (0), 1, 11, 0, [], [(0, 0)]) rfl rfl rfl ?_
      refine bGo hA 0 11 (21, .ireturn, 1, 0, 0, [2], []) rfl rfl rfl ?_
      exact ⟨Or.inl rfl, ((h.2 c1).2 c2)⟩

theorem sg12_0 {lvl : Nat} {C : bCall} {Q : bPost} {A : bPt → Prop} (hC : bMono C) (hA : bClosed lvl bm12 C Q A) {a0 : Nat} {σ : bSt} (h_a0 : a0 % 256 = 0)
  (h : (C 360 [.int (σ.1 a0 16), .int (σ.1 a0 17)] σ (bRi (fun r3 s1 => (C 360 [.int (σ.1 a0 15), .int r3] s1 (bRi (fun r6 s4 => Q (.inl (some (.int r6))) s4))))))) : A (0, [.ref a0], [], σ) := by
  refine bGo hA 0 0 (0, .aload_n 0, 1, 1, 0, [0], []) rfl rfl rfl ?_
  refine bGo hA 0 1 (1, .getfield 42, 3, 2, 0, [0, 15, 0, 0, 0, 0], []) rfl rfl rfl ?_
  refine ⟨h_a0, ?_⟩
  refine bGo hA 0 2 (4, .aload_n 0, 1, 3, 0, [0], []) rfl rfl rfl ?_
  refine bGo hA 0 3 (5, .getfield 45, 3, 4, 0, [0, 16, 0, 0, 0, 0], []) rfl rfl rfl ?_
  refine ⟨h_a0, ?_⟩
  refine bGo hA 0 4 (8, .aload_n 0, 1, 5, 0, [0], []) rfl rfl rfl ?_
  refine bGo hA 0 5 (9, .getfield 48, 3, 6, 0, [0, 17, 0, 0, 0, 0], []) rfl rfl rfl ?_
  refine ⟨h_a0, ?_⟩
  refine bGo hA 0 6 (12, .invokestatic 108, 3, 7, 0, [2, 360, 2], []) rfl rfl rfl ?_
  refine hC _ _ _ _ _ (bRi_e (fun r3 s1 k2 => ?_)) h
  show A (7, [.ref a0], [.int r3, .int (σ.1 a0 15)], s1)
  refine bGo hA 0 7 (15, .invokestatic 108, 3, 8, 0, [2, 360, 2], []) rfl rfl rfl ?_
  refine hC _ _ _ _ _ (bRi_e (fun r6 s4 k5 => ?_)) k2
  show A (8, [.ref a0], [.int r6], s4)
  refine bGo hA 0 8 (18, .ireturn, 1, 0, 0, [1], []) rfl rfl rfl ?_
  exact k5

theorem sg13_0 {lvl : Nat} {C : bCall} {Q : bPost} {A : bPt → Prop} (hC : bMono C) (hA : bClosed lvl bm13 C Q A) {a0 : Nat} {x1 : Int32} {x2 : Int32} {σ : bSt} (h_a0 : a0 % 256 = 0)
  (h : (C 9 [.ref a0] (bI (bI σ a0 10 x1) a0 12 x2) (bRv (fun s1 => (C 10 [.ref a0] s1 (bRi (fun r5 s3 => ((r5 = 0 → Q (.inl none) s3) ∧ (¬ r5 = 0 → ((256 * (2 * (a0 / 256) + 1) + 4) % 256 = 4 ∧ (C 44 [.ref (256 * (2 * (a0 / 256) + 1) + 4), .ref (256 * (2 * (a0 / 256) + 0) + 4)] s3 (bRv (fun s7 => Q (.inl none) s7))))))))))))) : A (0, [.ref a0, .int x1, .int x2], [], σ) := by
  refine bGo hA 0 0 (0, .aload_n 0, 1, 1, 0, [0], []) rfl rfl rfl ?_
  refine bGo hA 0 1 (1, .iload_n 1, 1, 2, 0, [1], []) rfl rfl rfl ?_
  refine bGo hA 0 2 (2, .putfield 25, 3, 3, 0, [0, 10, 0, 0, 0, 0], []) rfl rfl rfl ?_
  refine ⟨h_a0, ?_⟩
  refine bGo hA 0 3 (5, .aload_n 0, 1, 4, 0, [0], []) rfl rfl rfl ?_
  refine bGo hA 0 4 (6, .iload_n 2, 1, 5, 0, [2], []) rfl rfl rfl ?_
  refine bGo hA 0 5 (7, .putfield 32, 3, 6, 0, [0, 12, 0, 0, 0, 0], []) rfl rfl rfl ?_
  refine ⟨h_a0, ?_⟩
  refine bGo hA 0 6 (10, .aload_n 0, 1, 7, 0, [0], []) rfl rfl rfl ?_
  refine bGo hA 0 7 (11, .invokevirtual 105, 3, 8, 0, [0, 0, 9, 0], []) rfl rfl rfl ?_
  refine ⟨h_a0, ?_⟩
  refine hC _ _ _ _ _ (bRv_e (fun s1 k2 => ?_)) h
  show A (8, [.ref a0, .int x1, .int x2], [], s1)
  refine bGo hA 0 8 (14, .aload_n 0, 1, 9, 0, [0], []) rfl rfl rfl ?_
  refine bGo hA 0 9 (15, .invokevirtual 114, 3, 10, 0, [0, 0, 10, 0], []) rfl rfl rfl ?_
  refine ⟨h_a0, ?_⟩
  refine hC _ _ _ _ _ (bRi_e (fun r5 s3 k4 => ?_)) k2
  show A (10, [.ref a0, .int x1, .int x2], [.int r5], s3)
  refine bGo hA 0 10 (18, .ifCond .eq (14), 3, 11, 16, [], []) rfl rfl rfl ?_
  refine ⟨fun c6 => ?_, fun c6 => ?_⟩
  · refine bGo hA 1 0 (32, .return_, 1, 0, 0, [0], []) rfl rfl rfl ?_
    exact (k4.1 c6)
  · refine bGo hA 0 11 (21, .aload_n 0, 1, 12, 0, [0], []) rfl rfl rfl ?_
    refine bGo hA 0 12 (22, .getfield 22, 3, 13, 0, [0, 4, 3, 4, 2, 1], []) rfl rfl rfl ?_
    refine ⟨h_a0, ?_⟩
    refine bGo hA 0 13 (25, .aload_n 0, 1, 14, 0, [0], []) rfl rfl rfl ?_
    refine bGo hA 0 14 (26, .getfield 18, 3, 15, 0, [0, 3, 3, 4, 2, 0], []) rfl rfl rfl ?_
    refine ⟨h_a0, ?_⟩
    refine bGo hA 0 15 (29, .invokevirtual 118, 3, 16, 0, [0, 4, 44, 1], []) rfl rfl rfl ?_
    refine ⟨(k4.2 c6).1, ?_⟩
    refine hC _ _ _ _ _ (bRv_e (fun s7 k8 => ?_)) (k4.2 c6).2
    show A (16, [.ref a0, .int x1, .int x2], [], s7)
    refine bGo hA 1 0 (32, .return_, 1, 0, 0, [0], []) rfl rfl rfl ?_
    exact k8

theorem sg14_0 {lvl : Nat} {C : bCall} {Q : bPost} {A : bPt → Prop} (hC : bMono C) (hA : bClosed lvl bm14 C Q A) {a0 : Nat} {x1 : Int32} {σ : bSt} (h_a0 : a0 % 256 = 0)
  (h : (((σ.1 a0 5) = 0 → Q (.inl (some (.int (-1)))) σ) ∧ (¬ (σ.1 a0 5) = 0 → ((x1 = 0 → Q (.inl (some (.int (σ.1 a0 10)))) σ) ∧ (¬ x1 = 0 → ((x1 = 1 → Q (.inl (some (.int (σ.1 a0 11)))) σ) ∧ (¬ x1 = 1 → Q (.inl (some (.int (σ.1 a0 12)))) σ))))))) : A (0, [.ref a0, .int x1], [], σ) := by
  refine bGo hA 0 0 (0, .aload_n 0, 1, 1, 0, [0], []) rfl rfl rfl ?_
  refine bGo hA 0 1 (1, .getfield 99, 3, 2, 0, [0, 5, 1, 0, 0, 0], []) rfl rfl rfl ?_
  refine ⟨h_a0, ?_⟩
  refine bGo hA 0 2 (4, .ifCond .ne (5), 3, 3, 5, [], []) rfl rfl rfl ?_
  refine ⟨fun c1 => ?_, fun c1 => ?_⟩
  · refine bGo hA 0 3 (7, .iconst (-1), 1, 4, 0, [], [(-1, 0)]) rfl rfl rfl ?_
    refine bGo hA 0 4 (8, .ireturn, 1, 5, 0, [1], []) rfl rfl rfl ?_
    exact (h.1 c1)
  · refine bGo hA 0 5 (9, .iload_n 1, 1, 6, 0, [1], []) rfl rfl rfl ?_
    refine bGo hA 0 6 (10, .ifCond .ne (10), 3, 7, 10, [], []) rfl rfl rfl ?_
    refine ⟨fun c2 => ?_, fun c2 => ?_⟩
    · refine bGo hA 0 7 (13, .aload_n 0, 1, 8, 0, [0], []) rfl rfl rfl ?_
      refine bGo hA 0 8 (14, .getfield 25, 3, 9, 0, [0, 10, 0, 0, 0, 0], []) rfl rfl rfl ?_
      refine ⟨h_a0, ?_⟩
      refine bGo hA 0 9 (17, .goto (19), 3, 10, 18, [], []) rfl rfl rfl ?_
      refine bGo hA 1 2 (36, .ireturn, 1, 0, 0, [1], []) rfl rfl rfl ?_
      exact ((h.2 c1).1 c2)
    · refine bGo hA 0 10 (20, .iload_n 1, 1, 11, 0, [1], []) rfl rfl rfl ?_
      refine bGo hA 0 11 (21, .iconst (1), 1, 12, 0, [], [(1, 0)]) rfl rfl rfl ?_
      refine bGo hA 0 12 (22, .if_icmp .ne (10), 3, 13, 16, [], []) rfl rfl rfl ?_
      refine ⟨fun c3 => ?_, fun c3 => ?_⟩
      · refine bGo hA 0 13 (25, .aload_n 0, 1, 14, 0, [0], []) rfl rfl rfl ?_
        refine bGo hA 0 14 (26, .getfield 29, 3, 15, 0, [0, 11, 0, 0, 0, 0], []) rfl rfl rfl ?_
        refine ⟨h_a0, ?_⟩
        refine bGo hA 0 15 (29, .goto (7), 3, 16, 18, [], []) rfl rfl rfl ?_
        refine bGo hA 1 2 (36, .ireturn, 1, 0, 0, [1], []) rfl rfl rfl ?_
        exact (((h.2 c1).2 c2).1 c3)
      · refine bGo hA 1 0 (32, .aload_n 0, 1, 17, 0, [0], []) rfl rfl rfl ?_
        refine bGo hA 1 1 (33, .getfield 32, 3, 18, 0, [0, 12, 0, 0, 0, 0], []) rfl rfl rfl ?_
        refine ⟨h_a0, ?_⟩
        refine bGo hA 1 2 (36, .ireturn, 1, 0, 0, [1], []) rfl rfl rfl ?_
        exact (((h.2 c1).2 c2).2 c3)

theorem sg15_0 {lvl : Nat} {C : bCall} {Q : bPost} {A : bPt → Prop} (hC : bMono C) (hA : bClosed lvl bm15 C Q A) {a0 : Nat} {x1 : Int32} {σ : bSt} (h_a0 : a0 % 256 = 1)
  (h : (σ.2.2.2.1 (256 * (1 * (a0 / 256) + 0) + 15) = 0 ∧ (1000 = Int32.ofNat (bLen σ (256 * (1 * (a0 / 256) + 0) + 15)) ∧ ((256 * (1 * (a0 / 256) + 0) + 15) % 256 < 200 ∧ ((0 < x1 → ((bR (bNew σ (256 * (1 * (a0 / 256) + 0) + 15) 2 (bLen σ (256 * (1 * (a0 / 256) + 0) + 15))) a0 2 (some (256 * (1 * (a0 / 256) + 0) + 15))).2.2.2.1 (256 * (1 * (a0 / 256) + 0) + 14) = 0 ∧ (x1 = Int32.ofNat (bLen (bR (bNew σ (256 * (1 * (a0 / 256) + 0) + 15) 2 (bLen σ (256 * (1 * (a0 / 256) + 0) + 15))) a0 2 (some (256 * (1 * (a0 / 256) + 0) + 15))) (256 * (1 * (a0 / 256) + 0) + 14)) ∧ ((256 * (1 * (a0 / 256) + 0) + 14) % 256 < 200 ∧ (∀ s2 : bSt, s2 = (bR (bNew (bR (bNew σ (256 * (1 * (a0 / 256) + 0) + 15) 2 (bLen σ (256 * (1 * (a0 / 256) + 0) + 15))) a0 2 (some (256 * (1 * (a0 / 256) + 0) + 15))) (256 * (1 * (a0 / 256) + 0) + 14) 2 (bLen (bR (bNew σ (256 * (1 * (a0 / 256) + 0) + 15) 2 (bLen σ (256 * (1 * (a0 / 256) + 0) + 15))) a0 2 (some (256 * (1 * (a0 / 256) + 0) + 15))) (256 * (1 * (a0 / 256) + 0) + 14))) a0 1 (some (256 * (1 * (a0 / 256) + 0) + 14))) → (bAll s2 a0 [1, 2] ∧ Q (.inl none) (bA s2 a0 2))))))) ∧ (¬ 0 < x1 → ((bR (bNew σ (256 * (1 * (a0 / 256) + 0) + 15) 2 (bLen σ (256 * (1 * (a0 / 256) + 0) + 15))) a0 2 (some (256 * (1 * (a0 / 256) + 0) + 15))).2.2.2.1 (256 * (1 * (a0 / 256) + 0) + 14) = 0 ∧ (1 = Int32.ofNat (bLen (bR (bNew σ (256 * (1 * (a0 / 256) + 0) + 15) 2 (bLen σ (256 * (1 * (a0 / 256) + 0) + 15))) a0 2 (some (256 * (1 * (a0 / 256) + 0) + 15))) (256 * (1 * (a0 / 256) + 0) + 14)) ∧ ((256 * (1 * (a0 / 256) + 0) + 14) % 256 < 200 ∧ (∀ s3 : bSt, s3 = (bR (bNew (bR (bNew σ (256 * (1 * (a0 / 256) + 0) + 15) 2 (bLen σ (256 * (1 * (a0 / 256) + 0) + 15))) a0 2 (some (256 * (1 * (a0 / 256) + 0) + 15))) (256 * (1 * (a0 / 256) + 0) + 14) 2 (bLen (bR (bNew σ (256 * (1 * (a0 / 256) + 0) + 15) 2 (bLen σ (256 * (1 * (a0 / 256) + 0) + 15))) a0 2 (some (256 * (1 * (a0 / 256) + 0) + 15))) (256 * (1 * (a0 / 256) + 0) + 14))) a0 1 (some (256 * (1 * (a0 / 256) + 0) + 14))) → (bAll s3 a0 [1, 2] ∧ Q (.inl none) (bA s3 a0 2)))))))))))) : A (0, [.retAddr a0, .int x1], [], σ) := by
  refine bGo hA 0 0 (0, .aload_n 0, 1, 1, 0, [0], []) rfl rfl rfl ?_
  refine bGo hA 0 1 (1, .invokespecial 3, 3, 2, 0, [6, 0, 0], []) rfl rfl rfl ?_
  refine bGo hA 0 2 (4, .aload_n 0, 1, 3, 0, [0], []) rfl rfl rfl ?_
  refine bGo hA 0 3 (5, .sipush (1000), 3, 4, 0, [], [(1000, 0)]) rfl rfl rfl ?_
  refine bGo hA 0 4 (8, .newarray .boolean, 2, 5, 0, [15], []) rfl rfl rfl ?_
  refine ⟨h.1, h.2.1, h.2.2.1, ?_⟩
  refine bGo hA 0 5 (10, .putfield 9, 3, 6, 0, [1, 2, 3, 15, 1, 0], []) rfl rfl rfl ?_
  refine ⟨h_a0, rfl, ?_⟩
  refine bGo hA 0 6 (13, .aload_n 0, 1, 7, 0, [0], []) rfl rfl rfl ?_
  refine bGo hA 0 7 (14, .iload_n 1, 1, 8, 0, [1], []) rfl rfl rfl ?_
  refine bGo hA 0 8 (15, .ifCond .le (7), 3, 9, 11, [], []) rfl rfl rfl ?_
  refine ⟨fun c1 => ?_, fun c1 => ?_⟩
  · refine bGo hA 0 9 (18, .iload_n 1, 1, 10, 0, [1], []) rfl rfl rfl ?_
    refine bGo hA 0 10 (19, .goto (4), 3, 11, 12, [], []) rfl rfl rfl ?_
    refine bGo hA 0 12 (23, .anewarray 15, 3, 13, 0, [14], []) rfl rfl rfl ?_
    refine ⟨(h.2.2.2.1 c1).1, (h.2.2.2.1 c1).2.1, (h.2.2.2.1 c1).2.2.1, ?_⟩
    refine bGo hA 0 13 (26, .putfield 17, 3, 14, 0, [1, 1, 3, 14, 1, 0], []) rfl rfl rfl ?_
    refine ⟨h_a0, rfl, ?_⟩
    refine bGo hA 0 14 (29, .return_, 1, 0, 0, [5, 1, 2], []) rfl rfl rfl ?_
    exact ((h.2.2.2.1 c1).2.2.2 _ rfl)
  · refine bGo hA 0 11 (22, .iconst (1), 1, 12, 0, [], [(1, 0)]) rfl rfl rfl ?_
    refine bGo hA 0 12 (23, .anewarray 15, 3, 13, 0, [14], []) rfl rfl rfl ?_
    refine ⟨(h.2.2.2.2 c1).1, (h.2.2.2.2 c1).2.1, (h.2.2.2.2 c1).2.2.1, ?_⟩
    refine bGo hA 0 13 (26, .putfield 17, 3, 14, 0, [1, 1, 3, 14, 1, 0], []) rfl rfl rfl ?_
    refine ⟨h_a0, rfl, ?_⟩
    refine bGo hA 0 14 (29, .return_, 1, 0, 0, [5, 1, 2], []) rfl rfl rfl ?_
    exact ((h.2.2.2.2 c1).2.2.2 _ rfl)

theorem sg16_0 {lvl : Nat} {C : bCall} {Q : bPost} {A : bPt → Prop} (hC : bMono C) (hA : bClosed lvl bm16 C Q A) {a0 : Nat} {a1 : Nat} {σ : bSt} (h_a0 : a0 % 256 = 1) (h_a1 : a1 % 256 = 4)
  (h : A (5, [.ref a0, .ref a1, .int ((σ.1 a0 0) - 1), .float 0], [], σ)) : A (0, [.ref a0, .ref a1, .float 0, .float 0], [], σ) := by
  refine bGo hA 0 0 (0, .aload_n 0, 1, 1, 0, [0], []) rfl rfl rfl ?_
  refine bGo hA 0 1 (1, .getfield 21, 3, 2, 0, [1, 0, 0, 0, 0, 0], []) rfl rfl rfl ?_
  refine ⟨h_a0, ?_⟩
  refine bGo hA 0 2 (4, .iconst (1), 1, 3, 0, [], [(1, 0)]) rfl rfl rfl ?_
  refine bGo hA 0 3 (5, .isub, 1, 4, 0, [], []) rfl rfl rfl ?_
  refine bGo hA 0 4 (6, .istore_n 2, 1, 5, 0, [2], []) rfl rfl rfl ?_
  exact h

theorem sg16_5 {lvl : Nat} {C : bCall} {Q : bPost} {A : bPt → Prop} (hC : bMono C) (hA : bClosed lvl bm16 C Q A) {l0 : Nat} {l1 : Nat} {l2 : Int32} {v3 : Value} {σ : bSt} 
  (h : ((l2 < 0 → Q (.inl (some (.int (-1)))) σ) ∧ (¬ l2 < 0 → (l0 % 256 = 1 ∧ (¬ bTy (256 * (1 * (l0 / 256) + 0) + 14) = 9 ∧ ((l2 < (Int32.ofNat (bLen σ (256 * (1 * (l0 / 256) + 0) + 14))) → (bTy (256 * (1 * (l0 / 256) + 0) + 14) = 14 ∧ (vp_in l2 (bLen σ (256 * (1 * (l0 / 256) + 0) + 14)) ∧ ((σ.2.2.1 (256 * (1 * (l0 / 256) + 0) + 14) ((l2).toNatClampNeg) = none → A (5, [.ref l0, .ref l1, .int (l2 + (-1)), .null], [], σ)) ∧ (∀ z3 : Nat, σ.2.2.1 (256 * (1 * (l0 / 256) + 0) + 14) ((l2).toNatClampNeg) = some z3 → (z3 % 256 = 4 ∧ (C 43 [.ref z3, .ref l1] σ (bRi (fun r7 s5 => ((r7 = 0 → A (5, [.ref l0, .ref l1, .int (l2 + (-1)), .ref z3], [], s5)) ∧ (¬ r7 = 0 → Q (.inl (some (.int l2))) s5))))))))))) ∧ (¬ l2 < (Int32.ofNat (bLen σ (256 * (1 * (l0 / 256) + 0) + 14))) → A (5, [.ref l0, .ref l1, .int (l2 + (-1)), .null], [], σ)))))))) : A (5, [.ref l0, .ref l1, .int l2, v3], [], σ) := by
  refine bGo hA 0 5 (7, .iload_n 2, 1, 6, 0, [2], []) rfl rfl rfl ?_
  refine bGo hA 0 6 (8, .ifCond .lt (43), 3, 7, 29, [], []) rfl rfl rfl ?_
  refine ⟨fun c1 => ?_, fun c1 => ?_⟩
  · refine bGo hA 1 13 (51, .iconst (-1), 1, 30, 0, [], [(-1, 0)]) rfl rfl rfl ?_
    refine bGo hA 1 14 (52, .ireturn, 1, 0, 0, [1], []) rfl rfl rfl ?_
    exact (h.1 c1)
  · refine bGo hA 0 7 (11, .iload_n 2, 1, 8, 0, [2], []) rfl rfl rfl ?_
    refine bGo hA 0 8 (12, .aload_n 0, 1, 9, 0, [0], []) rfl rfl rfl ?_
    refine bGo hA 0 9 (13, .getfield 17, 3, 10, 0, [1, 1, 3, 14, 1, 0], []) rfl rfl rfl ?_
    refine ⟨(h.2 c1).1, ?_⟩
    refine bGo hA 0 10 (16, .arraylength, 1, 11, 0, [], []) rfl rfl rfl ?_
    refine ⟨(h.2 c1).2.1, ?_⟩
    refine bGo hA 0 11 (17, .if_icmp .ge (12), 3, 12, 17, [], []) rfl rfl rfl ?_
    refine ⟨fun c2 => ?_, fun c2 => ?_⟩
    · refine bGo hA 0 12 (20, .aload_n 0, 1, 13, 0, [0], []) rfl rfl rfl ?_
      refine bGo hA 0 13 (21, .getfield 17, 3, 14, 0, [1, 1, 3, 14, 1, 0], []) rfl rfl rfl ?_
      refine ⟨(h.2 c1).1, ?_⟩
      refine bGo hA 0 14 (24, .iload_n 2, 1, 15, 0, [2], []) rfl rfl rfl ?_
      refine bGo hA 0 15 (25, .aaload, 1, 16, 0, [14, 4], []) rfl rfl rfl ?_
      refine ⟨((h.2 c1).2.2.1 c2).1, ((h.2 c1).2.2.1 c2).2.1, ?_⟩
      refine bOptC (P := fun v => A (16, [.ref l0, .ref l1, .int l2, v3], v :: [], σ)) (σ.2.2.1 (256 * (1 * (l0 / 256) + 0) + 14) ((l2).toNatClampNeg)) (fun c4 => ?_) (fun z3 c4 => ?_)
      · refine bGo hA 1 0 (26, .goto (4), 3, 17, 18, [], []) rfl rfl rfl ?_
        refine bGo hA 1 2 (30, .astore_n 3, 1, 19, 0, [3], []) rfl rfl rfl ?_
        refine bGo hA 1 3 (31, .aload_n 3, 1, 20, 0, [3], []) rfl rfl rfl ?_
        refine bGo hA 1 4 (32, .ifnull (13), 3, 21, 27, [], []) rfl rfl rfl ?_
        refine bGo hA 1 11 (45, .iinc 2 (-1), 3, 28, 0, [2], [(-1, 0)]) rfl rfl rfl ?_
        refine bGo hA 1 12 (48, .goto (-41), 3, 29, 5, [], []) rfl rfl rfl ?_
        exact (((h.2 c1).2.2.1 c2).2.2.1 c4)
      · refine bGo hA 1 0 (26, .goto (4), 3, 17, 18, [], []) rfl rfl rfl ?_
        refine bGo hA 1 2 (30, .astore_n 3, 1, 19, 0, [3], []) rfl rfl rfl ?_
        refine bGo hA 1 3 (31, .aload_n 3, 1, 20, 0, [3], []) rfl rfl rfl ?_
        refine bGo hA 1 4 (32, .ifnull (13), 3, 21, 27, [], []) rfl rfl rfl ?_
        refine bGo hA 1 5 (35, .aload_n 3, 1, 22, 0, [3], []) rfl rfl rfl ?_
        refine bGo hA 1 6 (36, .aload_n 1, 1, 23, 0, [1], []) rfl rfl rfl ?_
        refine bGo hA 1 7 (37, .invokevirtual 25, 3, 24, 0, [0, 4, 43, 1], []) rfl rfl rfl ?_
        refine ⟨(((h.2 c1).2.2.1 c2).2.2.2 z3 c4).1, ?_⟩
        refine hC _ _ _ _ _ (bRi_e (fun r7 s5 k6 => ?_)) (((h.2 c1).2.2.1 c2).2.2.2 z3 c4).2
        show A (24, [.ref l0, .ref l1, .int l2, .ref z3], [.int r7], s5)
        refine bGo hA 1 8 (40, .ifCond .eq (5), 3, 25, 27, [], []) rfl rfl rfl ?_
        refine ⟨fun c8 => ?_, fun c8 => ?_⟩
        · refine bGo hA 1 11 (45, .iinc 2 (-1), 3, 28, 0, [2], [(-1, 0)]) rfl rfl rfl ?_
          refine bGo hA 1 12 (48, .goto (-41), 3, 29, 5, [], []) rfl rfl rfl ?_
          exact (k6.1 c8)
        · refine bGo hA 1 9 (43, .iload_n 2, 1, 26, 0, [2], []) rfl rfl rfl ?_
          refine bGo hA 1 10 (44, .ireturn, 1, 27, 0, [1], []) rfl rfl rfl ?_
          exact (k6.2 c8)
    · refine bGo hA 1 1 (29, .aconst_null, 1, 18, 0, [], []) rfl rfl rfl ?_
      refine bGo hA 1 2 (30, .astore_n 3, 1, 19, 0, [3], []) rfl rfl rfl ?_
      refine bGo hA 1 3 (31, .aload_n 3, 1, 20, 0, [3], []) rfl rfl rfl ?_
      refine bGo hA 1 4 (32, .ifnull (13), 3, 21, 27, [], []) rfl rfl rfl ?_
      refine bGo hA 1 11 (45, .iinc 2 (-1), 3, 28, 0, [2], [(-1, 0)]) rfl rfl rfl ?_
      refine bGo hA 1 12 (48, .goto (-41), 3, 29, 5, [], []) rfl rfl rfl ?_
      exact ((h.2 c1).2.2.2 c2)

theorem sg17_0 {lvl : Nat} {C : bCall} {Q : bPost} {A : bPt → Prop} (hC : bMono C) (hA : bClosed lvl bm17 C Q A) {a0 : Nat} {a1 : Nat} {σ : bSt} (h_a0 : a0 % 256 = 1) (h_a1 : a1 % 256 = 4)
  (h : (C 16 [.ref a0, .ref a1] σ (bRi (fun r3 s1 => ((r3 = (-1) → (¬ bTy (256 * (1 * (a0 / 256) + 0) + 14) = 9 ∧ (((s1.1 a0 0) < (Int32.ofNat (bLen s1 (256 * (1 * (a0 / 256) + 0) + 14))) → (((s1.1 a0 0) = (-1) → (C 18 [.ref a0, .int 0, .ref a1] (bI s1 a0 0 ((s1.1 a0 0) + 1)) (bRv (fun s7 => Q (.inl none) s7)))) ∧ (¬ (s1.1 a0 0) = (-1) → (C 18 [.ref a0, .int (s1.1 a0 0), .ref a1] (bI s1 a0 0 ((s1.1 a0 0) + 1)) (bRv (fun s9 => Q (.inl none) s9)))))) ∧ (¬ (s1.1 a0 0) < (Int32.ofNat (bLen s1 (256 * (1 * (a0 / 256) + 0) + 14))) → ((r3 = (-1) → (C 18 [.ref a0, .int 0, .ref a1] s1 (bRv (fun s12 => Q (.inl none) s12)))) ∧ (¬ r3 = (-1) → (C 18 [.ref a0, .int r3, .ref a1] s1 (bRv (fun s14 => Q (.inl none) s14))))))))) ∧ (¬ r3 = (-1) → ((r3 = (-1) → (C 18 [.ref a0, .int 0, .ref a1] s1 (bRv (fun s17 => Q (.inl none) s17)))) ∧ (¬ r3 = (-1) → (C 18 [.ref a0, .int r3, .ref a1] s1 (bRv (fun s19 => Q (.inl none) s19))))))))))) : A (0, [.ref a0, .ref a1, .float 0], [], σ) := by
  refine bGo hA 0 0 (0, .aload_n 0, 1, 1, 0, [0], []) rfl rfl rfl ?_
  refine bGo hA 0 1 (1, .aload_n 1, 1, 2, 0, [1], []) rfl rfl rfl ?_
  refine bGo hA 0 2 (2, .invokevirtual 29, 3, 3, 0, [0, 1, 16, 1], []) rfl rfl rfl ?_
  refine ⟨h_a0, ?_⟩
  refine hC _ _ _ _ _ (bRi_e (fun r3 s1 k2 => ?_)) h
  show A (3, [.ref a0, .ref a1, .float 0], [.int r3], s1)
  refine bGo hA 0 3 (5, .istore_n 2, 1, 4, 0, [2], []) rfl rfl rfl ?_
  refine bGo hA 0 4 (6, .iload_n 2, 1, 5, 0, [2], []) rfl rfl rfl ?_
  refine bGo hA 0 5 (7, .iconst (-1), 1, 6, 0, [], [(-1, 0)]) rfl rfl rfl ?_
  refine bGo hA 0 6 (8, .if_icmp .ne (30), 3, 7, 22, [], []) rfl rfl rfl ?_
  refine ⟨fun c4 => ?_, fun c4 => ?_⟩
  · refine bGo hA 0 7 (11, .aload_n 0, 1, 8, 0, [0], []) rfl rfl rfl ?_
    refine bGo hA 0 8 (12, .getfield 21, 3, 9, 0, [1, 0, 0, 0, 0, 0], []) rfl rfl rfl ?_
    refine ⟨h_a0, ?_⟩
    refine bGo hA 0 9 (15, .aload_n 0, 1, 10, 0, [0], []) rfl rfl rfl ?_
    refine bGo hA 0 10 (16, .getfield 17, 3, 11, 0, [1, 1, 3, 14, 1, 0], []) rfl rfl rfl ?_
    refine ⟨h_a0, ?_⟩
    refine bGo hA 0 11 (19, .arraylength, 1, 12, 0, [], []) rfl rfl rfl ?_
    refine ⟨(k2.1 c4).1, ?_⟩
    refine bGo hA 0 12 (20, .if_icmp .ge (18), 3, 13, 22, [], []) rfl rfl rfl ?_
    refine ⟨fun c5 => ?_, fun c5 => ?_⟩
    · refine bGo hA 0 13 (23, .aload_n 0, 1, 14, 0, [0], []) rfl rfl rfl ?_
      refine bGo hA 0 14 (24, .getfield 21, 3, 15, 0, [1, 0, 0, 0, 0, 0], []) rfl rfl rfl ?_
      refine ⟨h_a0, ?_⟩
      refine bGo hA 0 15 (27, .istore_n 2, 1, 16, 0, [2], []) rfl rfl rfl ?_
      refine bGo hA 1 0 (28, .aload_n 0, 1, 17, 0, [0], []) rfl rfl rfl ?_
      refine bGo hA 1 1 (29, .dup, 1, 18, 0, [], []) rfl rfl rfl ?_
      refine bGo hA 1 2 (30, .getfield 21, 3, 19, 0, [1, 0, 0, 0, 0, 0], []) rfl rfl rfl ?_
      refine ⟨h_a0, ?_⟩
      refine bGo hA 1 3 (33, .iconst (1), 1, 20, 0, [], [(1, 0)]) rfl rfl rfl ?_
      refine bGo hA 1 4 (34, .iadd, 1, 21, 0, [], []) rfl rfl rfl ?_
      refine bGo hA 1 5 (35, .putfield 21, 3, 22, 0, [1, 0, 0, 0, 0, 0], []) rfl rfl rfl ?_
      refine ⟨h_a0, ?_⟩
      refine bGo hA 1 6 (38, .aload_n 0, 1, 23, 0, [0], []) rfl rfl rfl ?_
      refine bGo hA 1 7 (39, .iload_n 2, 1, 24, 0, [2], []) rfl rfl rfl ?_
      refine bGo hA 1 8 (40, .iconst (-1), 1, 25, 0, [], [(-1, 0)]) rfl rfl rfl ?_
      refine bGo hA 1 9 (41, .if_icmp .ne (7), 3, 26, 28, [], []) rfl rfl rfl ?_
      refine ⟨fun c6 => ?_, fun c6 => ?_⟩
      · refine bGo hA 1 10 (44, .iconst (0), 1, 27, 0, [], [(0, 0)]) rfl rfl rfl ?_
        refine bGo hA 1 11 (45, .goto (4), 3, 28, 29, [], []) rfl rfl rfl ?_
        refine bGo hA 1 13 (49, .aload_n 1, 1, 30, 0, [1], []) rfl rfl rfl ?_
        refine bGo hA 1 14 (50, .invokevirtual 33, 3, 31, 0, [0, 1, 18, 2], []) rfl rfl rfl ?_
        refine ⟨h_a0, ?_⟩
        refine hC _ _ _ _ _ (bRv_e (fun s7 k8 => ?_)) (((k2.1 c4).2.1 c5).1 c6)
        show A (31, [.ref a0, .ref a1, .int (s1.1 a0 0)], [], s7)
        refine bGo hA 1 15 (53, .return_, 1, 0, 0, [0], []) rfl rfl rfl ?_
        exact k8
      · refine bGo hA 1 12 (48, .iload_n 2, 1, 29, 0, [2], []) rfl rfl rfl ?_
        refine bGo hA 1 13 (49, .aload_n 1, 1, 30, 0, [1], []) rfl rfl rfl ?_
        refine bGo hA 1 14 (50, .invokevirtual 33, 3, 31, 0, [0, 1, 18, 2], []) rfl rfl rfl ?_
        refine ⟨h_a0, ?_⟩
        refine hC _ _ _ _ _ (bRv_e (fun s9 k10 => ?_)) (((k2.1 c4).2.1 c5).2 c6)
        show A (31, [.ref a0, .ref a1, .int (s1.1 a0 0)], [], s9)
        refine bGo hA 1 15 (53, .return_, 1, 0, 0, [0], []) rfl rfl rfl ?_
        exact k10
    · refine bGo hA 1 6 (38, .aload_n 0, 1, 23, 0, [0], []) rfl rfl rfl ?_
      refine bGo hA 1 7 (39, .iload_n 2, 1, 24, 0, [2], []) rfl rfl rfl ?_
      refine bGo hA 1 8 (40, .iconst (-1), 1, 25, 0, [], [(-1, 0)]) rfl rfl rfl ?_
      refine bGo hA 1 9 (41, .if_icmp .ne (7), 3, 26, 28, [], []) rfl rfl rfl ?_
      refine ⟨fun c11 => ?_, fun c11 => ?_⟩
      · refine bGo hA 1 10 (44, .iconst (0), 1, 27, 0, [], [(0, 0)]) rfl rfl rfl ?_
        refine bGo hA 1 11 (45, .goto (4), 3, 28, 29, [], []) rfl rfl rfl ?_
        refine bGo hA 1 13 (49, .aload_n 1, 1, 30, 0, [1], []) rfl rfl rfl ?_
        refine bGo hA 1 14 (50, .invokevirtual 33, 3, 31, 0, [0, 1, 18, 2], []) rfl rfl rfl ?_
        refine ⟨h_a0, ?_⟩
        refine hC _ _ _ _ _ (bRv_e (fun s12 k13 => ?_)) (((k2.1 c4).2.2 c5).1 c11)
        show A (31, [.ref a0, .ref a1, .int r3], [], s12)
        refine bGo hA 1 15 (53, .return_, 1, 0, 0, [0], []) rfl rfl rfl ?_
        exact k13
      · refine bGo hA 1 12 (48, .iload_n 2, 1, 29, 0, [2], []) rfl rfl rfl ?_
        refine bGo hA 1 13 (49, .aload_n 1, 1, 30, 0, [1], []) rfl rfl rfl ?_
        refine bGo hA 1 14 (50, .invokevirtual 33, 3, 31, 0, [0, 1, 18, 2], []) rfl rfl rfl ?_
        refine ⟨h_a0, ?_⟩
        refine hC _ _ _ _ _ (bRv_e (fun s14 k15 => ?_)) (((k2.1 c4).2.2 c5).2 c11)
        show A (31, [.ref a0, .ref a1, .int r3], [], s14)
        refine bGo hA 1 15 (53, .return_, 1, 0, 0, [0], []) rfl rfl rfl ?_
        exact k15
  · refine bGo hA 1 6 (38, .aload_n 0, 1, 23, 0, [0], []) rfl rfl rfl ?_
    refine bGo hA 1 7 (39, .iload_n 2, 1, 24, 0, [2], []) rfl rfl rfl ?_
    refine bGo hA 1 8 (40, .iconst (-1), 1, 25, 0, [], [(-1, 0)]) rfl rfl rfl ?_
    refine bGo hA 1 9 (41, .if_icmp .ne (7), 3, 26, 28, [], []) rfl rfl rfl ?_
    refine ⟨fun c16 => ?_, fun c16 => ?_⟩
    · refine bGo hA 1 10 (44, .iconst (0), 1, 27, 0, [], [(0, 0)]) rfl rfl rfl ?_
      refine bGo hA 1 11 (45, .goto (4), 3, 28, 29, [], []) rfl rfl rfl ?_
      refine bGo hA 1 13 (49, .aload_n 1, 1, 30, 0, [1], []) rfl rfl rfl ?_
      refine bGo hA 1 14 (50, .invokevirtual 33, 3, 31, 0, [0, 1, 18, 2], []) rfl rfl rfl ?_
      refine ⟨h_a0, ?_⟩
      refine hC _ _ _ _ _ (bRv_e (fun s17 k18 => ?_)) ((k2.2 c4).1 c16)
      show A (31, [.ref a0, .ref a1, .int r3], [], s17)
      refine bGo hA 1 15 (53, .return_, 1, 0, 0, [0], []) rfl rfl rfl ?_
      exact k18
    · refine bGo hA 1 12 (48, .iload_n 2, 1, 29, 0, [2], []) rfl rfl rfl ?_
      refine bGo hA 1 13 (49, .aload_n 1, 1, 30, 0, [1], []) rfl rfl rfl ?_
      refine bGo hA 1 14 (50, .invokevirtual 33, 3, 31, 0, [0, 1, 18, 2], []) rfl rfl rfl ?_
      refine ⟨h_a0, ?_⟩
      refine hC _ _ _ _ _ (bRv_e (fun s19 k20 => ?_)) ((k2.2 c4).2 c16)
      show A (31, [.ref a0, .ref a1, .int r3], [], s19)
      refine bGo hA 1 15 (53, .return_, 1, 0, 0, [0], []) rfl rfl rfl ?_
      exact k20

theorem sg18_0 {lvl : Nat} {C : bCall} {Q : bPost} {A : bPt → Prop} (hC : bMono C) (hA : bClosed lvl bm18 C Q A) {a0 : Nat} {x1 : Int32} {a2 : Nat} {σ : bSt} (h_a0 : a0 % 256 = 1) (h_a2 : a2 % 256 = 4)
  (h : ((x1 < 0 → Q (.inl none) σ) ∧ (¬ x1 < 0 → ((x1 < (σ.1 a0 0) → (¬ bTy (256 * (1 * (a0 / 256) + 0) + 14) = 9 ∧ (((Int32.ofNat (bLen σ (256 * (1 * (a0 / 256) + 0) + 14))) < (σ.1 a0 0) → Q (.inl none) σ) ∧ (¬ (Int32.ofNat (bLen σ (256 * (1 * (a0 / 256) + 0) + 14))) < (σ.1 a0 0) → (bTy (256 * (1 * (a0 / 256) + 0) + 14) = 14 ∧ (vp_in x1 (bLen σ (256 * (1 * (a0 / 256) + 0) + 14)) ∧ ((σ.2.2.1 (256 * (1 * (a0 / 256) + 0) + 14) ((x1).toNatClampNeg) = none → A (20, [.ref a0, .int x1, .ref a2, .null, .int x1], [], σ)) ∧ (∀ z4 : Nat, σ.2.2.1 (256 * (1 * (a0 / 256) + 0) + 14) ((x1).toNatClampNeg) = some z4 → A (20, [.ref a0, .int x1, .ref a2, .ref z4, .int x1], [], σ))))))))) ∧ (¬ x1 < (σ.1 a0 0) → Q (.inl none) σ))))) : A (0, [.ref a0, .int x1, .ref a2, .float 0, .float 0], [], σ) := by
  refine bGo hA 0 0 (0, .iload_n 1, 1, 1, 0, [1], []) rfl rfl rfl ?_
  refine bGo hA 0 1 (1, .ifCond .lt (23), 3, 2, 12, [], []) rfl rfl rfl ?_
  refine ⟨fun c1 => ?_, fun c1 => ?_⟩
  · refine bGo hA 0 12 (24, .return_, 1, 13, 0, [0], []) rfl rfl rfl ?_
    exact (h.1 c1)
  · refine bGo hA 0 2 (4, .iload_n 1, 1, 3, 0, [1], []) rfl rfl rfl ?_
    refine bGo hA 0 3 (5, .aload_n 0, 1, 4, 0, [0], []) rfl rfl rfl ?_
    refine bGo hA 0 4 (6, .getfield 21, 3, 5, 0, [1, 0, 0, 0, 0, 0], []) rfl rfl rfl ?_
    refine ⟨h_a0, ?_⟩
    refine bGo hA 0 5 (9, .if_icmp .ge (15), 3, 6, 12, [], []) rfl rfl rfl ?_
    refine ⟨fun c2 => ?_, fun c2 => ?_⟩
    · refine bGo hA 0 6 (12, .aload_n 0, 1, 7, 0, [0], []) rfl rfl rfl ?_
      refine bGo hA 0 7 (13, .getfield 21, 3, 8, 0, [1, 0, 0, 0, 0, 0], []) rfl rfl rfl ?_
      refine ⟨h_a0, ?_⟩
      refine bGo hA 0 8 (16, .aload_n 0, 1, 9, 0, [0], []) rfl rfl rfl ?_
      refine bGo hA 0 9 (17, .getfield 17, 3, 10, 0, [1, 1, 3, 14, 1, 0], []) rfl rfl rfl ?_
      refine ⟨h_a0, ?_⟩
      refine bGo hA 0 10 (20, .arraylength, 1, 11, 0, [], []) rfl rfl rfl ?_
      refine ⟨((h.2 c1).1 c2).1, ?_⟩
      refine bGo hA 0 11 (21, .if_icmp .le (4), 3, 12, 13, [], []) rfl rfl rfl ?_
      refine ⟨fun c3 => ?_, fun c3 => ?_⟩
      · refine bGo hA 0 12 (24, .return_, 1, 13, 0, [0], []) rfl rfl rfl ?_
        exact (((h.2 c1).1 c2).2.1 c3)
      · refine bGo hA 0 13 (25, .aload_n 0, 1, 14, 0, [0], []) rfl rfl rfl ?_
        refine bGo hA 0 14 (26, .getfield 17, 3, 15, 0, [1, 1, 3, 14, 1, 0], []) rfl rfl rfl ?_
        refine ⟨h_a0, ?_⟩
        refine bGo hA 0 15 (29, .iload_n 1, 1, 16, 0, [1], []) rfl rfl rfl ?_
        refine bGo hA 1 0 (30, .aaload, 1, 17, 0, [14, 4], []) rfl rfl rfl ?_
        refine ⟨(((h.2 c1).1 c2).2.2 c3).1, (((h.2 c1).1 c2).2.2 c3).2.1, ?_⟩
        refine bOptC (P := fun v => A (17, [.ref a0, .int x1, .ref a2, .float 0, .float 0], v :: [], σ)) (σ.2.2.1 (256 * (1 * (a0 / 256) + 0) + 14) ((x1).toNatClampNeg)) (fun c5 => ?_) (fun z4 c5 => ?_)
        · refine bGo hA 1 1 (31, .astore_n 3, 1, 18, 0, [3], []) rfl rfl rfl ?_
          refine bGo hA 1 2 (32, .iload_n 1, 1, 19, 0, [1], []) rfl rfl rfl ?_
          refine bGo hA 1 3 (33, .istore 4, 2, 20, 0, [4], []) rfl rfl rfl ?_
          exact ((((h.2 c1).1 c2).2.2 c3).2.2.1 c5)
        · refine bGo hA 1 1 (31, .astore_n 3, 1, 18, 0, [3], []) rfl rfl rfl ?_
          refine bGo hA 1 2 (32, .iload_n 1, 1, 19, 0, [1], []) rfl rfl rfl ?_
          refine bGo hA 1 3 (33, .istore 4, 2, 20, 0, [4], []) rfl rfl rfl ?_
          exact ((((h.2 c1).1 c2).2.2 c3).2.2.2 z4 c5)
    · refine bGo hA 0 12 (24, .return_, 1, 13, 0, [0], []) rfl rfl rfl ?_
      exact ((h.2 c1).2 c2)

theorem sg18_20 {lvl : Nat} {C : bCall} {Q : bPost} {A : bPt → Prop} (hC : bMono C) (hA : bClosed lvl bm18 C Q A) {l0 : Nat} {v1 : Value} {l2 : Nat} {l4 : Int32} {σ : bSt} 
  (h : (l0 % 256 = 1 ∧ (((l4 + 1) < (σ.1 l0 0) → (bTy (256 * (1 * (l0 / 256) + 0) + 14) = 14 ∧ (vp_in (l4 + 1) (bLen σ (256 * (1 * (l0 / 256) + 0) + 14)) ∧ ((σ.2.2.1 (256 * (1 * (l0 / 256) + 0) + 14) (((l4 + 1)).toNatClampNeg) = none → (vp_in l4 (bLen σ (256 * (1 * (l0 / 256) + 0) + 14)) ∧ ((256 * (1 * (l0 / 256) + 0) + 14) % 256 < 200 ∧ A (20, [.ref l0, v1, .ref l2, .null, .int (l4 + 1)], [], (bR σ (256 * (1 * (l0 / 256) + 0) + 14) (l4).toNatClampNeg none))))) ∧ (∀ z2 : Nat, σ.2.2.1 (256 * (1 * (l0 / 256) + 0) + 14) (((l4 + 1)).toNatClampNeg) = some z2 → (vp_in l4 (bLen σ (256 * (1 * (l0 / 256) + 0) + 14)) ∧ ((256 * (1 * (l0 / 256) + 0) + 14) % 256 < 200 ∧ (z2 % 256 = 4 ∧ A (20, [.ref l0, v1, .ref l2, .null, .int (l4 + 1)], [], (bR σ (256 * (1 * (l0 / 256) + 0) + 14) (l4).toNatClampNeg (some z2))))))))))) ∧ (¬ (l4 + 1) < (σ.1 l0 0) → (σ.2.2.2.1 (256 * (1000 + σ.2.2.2.2.1) + 4) = 0 ∧ ((256 * (1000 + σ.2.2.2.2.1) + 4) % 256 = 4 ∧ (C 37 [.retAddr (256 * (1000 + σ.2.2.2.2.1) + 4)] (bNew σ (256 * (1000 + σ.2.2.2.2.1) + 4) 1 9) (bRv (fun s4 => (C 44 [.ref (256 * (1000 + σ.2.2.2.2.1) + 4), .ref l2] s4 (bRv (fun s6 => (bTy (256 * (1 * (l0 / 256) + 0) + 14) = 14 ∧ (vp_in ((s6.1 l0 0) - 1) (bLen s6 (256 * (1 * (l0 / 256) + 0) + 14)) ∧ ((256 * (1 * (l0 / 256) + 0) + 14) % 256 < 200 ∧ Q (.inl none) (bR s6 (256 * (1 * (l0 / 256) + 0) + 14) (((s6.1 l0 0) - 1)).toNatClampNeg (some (256 * (1000 + σ.2.2.2.2.1) + 4)))))))))))))))))) : A (20, [.ref l0, v1, .ref l2, .null, .int l4], [], σ) := by
  refine bGo hA 1 4 (35, .iload 4, 2, 21, 0, [4], []) rfl rfl rfl ?_
  refine bGo hA 1 5 (37, .iconst (1), 1, 22, 0, [], [(1, 0)]) rfl rfl rfl ?_
  refine bGo hA 1 6 (38, .iadd, 1, 23, 0, [], []) rfl rfl rfl ?_
  refine bGo hA 1 7 (39, .aload_n 0, 1, 24, 0, [0], []) rfl rfl rfl ?_
  refine bGo hA 1 8 (40, .getfield 21, 3, 25, 0, [1, 0, 0, 0, 0, 0], []) rfl rfl rfl ?_
  refine ⟨h.1, ?_⟩
  refine bGo hA 1 9 (43, .if_icmp .ge (25), 3, 26, 38, [], []) rfl rfl rfl ?_
  refine ⟨fun c1 => ?_, fun c1 => ?_⟩
  · refine bGo hA 1 10 (46, .aload_n 0, 1, 27, 0, [0], []) rfl rfl rfl ?_
    refine bGo hA 1 11 (47, .getfield 17, 3, 28, 0, [1, 1, 3, 14, 1, 0], []) rfl rfl rfl ?_
    refine ⟨h.1, ?_⟩
    refine bGo hA 1 12 (50, .iload 4, 2, 29, 0, [4], []) rfl rfl rfl ?_
    refine bGo hA 1 13 (52, .aload_n 0, 1, 30, 0, [0], []) rfl rfl rfl ?_
    refine bGo hA 1 14 (53, .getfield 17, 3, 31, 0, [1, 1, 3, 14, 1, 0], []) rfl rfl rfl ?_
    refine ⟨h.1, ?_⟩
    refine bGo hA 1 15 (56, .iload 4, 2, 32, 0, [4], []) rfl rfl rfl ?_
    refine bGo hA 2 0 (58, .iconst (1), 1, 33, 0, [], [(1, 0)]) rfl rfl rfl ?_
    refine bGo hA 2 1 (59, .iadd, 1, 34, 0, [], []) rfl rfl rfl ?_
    refine bGo hA 2 2 (60, .aaload, 1, 35, 0, [14, 4], []) rfl rfl rfl ?_
    refine ⟨(h.2.1 c1).1, (h.2.1 c1).2.1, ?_⟩
    refine bOptC (P := fun v => A (35, [.ref l0, v1, .ref l2, .null, .int l4], v :: [.int l4, .ref (256 * (1 * (l0 / 256) + 0) + 14)], σ)) (σ.2.2.1 (256 * (1 * (l0 / 256) + 0) + 14) (((l4 + 1)).toNatClampNeg)) (fun c3 => ?_) (fun z2 c3 => ?_)
    · refine bGo hA 2 3 (61, .aastore, 1, 36, 0, [14, 4], []) rfl rfl rfl ?_
      refine ⟨(h.2.1 c1).1, ((h.2.1 c1).2.2.1 c3).1, ((h.2.1 c1).2.2.1 c3).2.1, (fun _ h => by cases h), ?_⟩
      refine bGo hA 2 4 (62, .iinc 4 (1), 3, 37, 0, [4], [(1, 0)]) rfl rfl rfl ?_
      refine bGo hA 2 5 (65, .goto (-30), 3, 38, 20, [], []) rfl rfl rfl ?_
      exact ((h.2.1 c1).2.2.1 c3).2.2
    · refine bGo hA 2 3 (61, .aastore, 1, 36, 0, [14, 4], []) rfl rfl rfl ?_
      refine ⟨(h.2.1 c1).1, ((h.2.1 c1).2.2.2 z2 c3).1, ((h.2.1 c1).2.2.2 z2 c3).2.1, (fun _ h => by cases h; exact ((h.2.1 c1).2.2.2 z2 c3).2.2.1), ?_⟩
      refine bGo hA 2 4 (62, .iinc 4 (1), 3, 37, 0, [4], [(1, 0)]) rfl rfl rfl ?_
      refine bGo hA 2 5 (65, .goto (-30), 3, 38, 20, [], []) rfl rfl rfl ?_
      exact ((h.2.1 c1).2.2.2 z2 c3).2.2.2
  · refine bGo hA 2 6 (68, .aload_n 3, 1, 39, 0, [3], []) rfl rfl rfl ?_
    refine bGo hA 2 7 (69, .ifnonnull (13), 3, 40, 44, [], []) rfl rfl rfl ?_
    refine bGo hA 2 8 (72, .new 15, 3, 41, 0, [3, 4, 9, 0, 0], []) rfl rfl rfl ?_
    refine ⟨(h.2.2 c1).1, ?_⟩
    refine bGo hA 2 9 (75, .dup, 1, 42, 0, [], []) rfl rfl rfl ?_
    refine bGo hA 2 10 (76, .invokespecial 37, 3, 43, 1, [4, 4, 37, 0], []) rfl rfl rfl ?_
    refine ⟨(h.2.2 c1).2.1, rfl, ?_⟩
    refine hC _ _ _ _ _ (bRv_e (fun s4 k5 => ?_)) (h.2.2 c1).2.2
    show A (43, [.ref l0, v1, .ref l2, .null, .int l4], [.ref (256 * (1000 + σ.2.2.2.2.1) + 4)], s4)
    refine bGo hA 2 11 (79, .goto (4), 3, 44, 45, [], []) rfl rfl rfl ?_
    refine bGo hA 2 13 (83, .astore 4, 2, 46, 0, [4], []) rfl rfl rfl ?_
    refine bGo hA 2 14 (85, .aload 4, 2, 47, 0, [4], []) rfl rfl rfl ?_
    refine bGo hA 2 15 (87, .aload_n 2, 1, 48, 0, [2], []) rfl rfl rfl ?_
    refine bGo hA 3 0 (88, .invokevirtual 38, 3, 49, 0, [0, 4, 44, 1], []) rfl rfl rfl ?_
    refine ⟨(h.2.2 c1).2.1, ?_⟩
    refine hC _ _ _ _ _ (bRv_e (fun s6 k7 => ?_)) k5
    show A (49, [.ref l0, v1, .ref l2, .null, .ref (256 * (1000 + σ.2.2.2.2.1) + 4)], [], s6)
    refine bGo hA 3 1 (91, .aload_n 0, 1, 50, 0, [0], []) rfl rfl rfl ?_
    refine bGo hA 3 2 (92, .getfield 17, 3, 51, 0, [1, 1, 3, 14, 1, 0], []) rfl rfl rfl ?_
    refine ⟨h.1, ?_⟩
    refine bGo hA 3 3 (95, .aload_n 0, 1, 52, 0, [0], []) rfl rfl rfl ?_
    refine bGo hA 3 4 (96, .getfield 21, 3, 53, 0, [1, 0, 0, 0, 0, 0], []) rfl rfl rfl ?_
    refine ⟨h.1, ?_⟩
    refine bGo hA 3 5 (99, .iconst (1), 1, 54, 0, [], [(1, 0)]) rfl rfl rfl ?_
    refine bGo hA 3 6 (100, .isub, 1, 55, 0, [], []) rfl rfl rfl ?_
    refine bGo hA 3 7 (101, .aload 4, 2, 56, 0, [4], []) rfl rfl rfl ?_
    refine bGo hA 3 8 (103, .aastore, 1, 57, 0, [14, 4], []) rfl rfl rfl ?_
    refine ⟨k7.1, k7.2.1, k7.2.2.1, (fun _ h => by cases h; exact (h.2.2 c1).2.1), ?_⟩
    refine bGo hA 3 9 (104, .return_, 1, 0, 0, [0], []) rfl rfl rfl ?_
    exact k7.2.2.2

theorem sg19_0 {lvl : Nat} {C : bCall} {Q : bPost} {A : bPt → Prop} (hC : bMono C) (hA : bClosed lvl bm19 C Q A) {a0 : Nat} {σ : bSt} (h_a0 : a0 % 256 = 1)
  (h : Q (.inl (some (.int (σ.1 a0 0)))) (bI σ a0 0 0)) : A (0, [.ref a0, .float 0], [], σ) := by
  refine bGo hA 0 0 (0, .aload_n 0, 1, 1, 0, [0], []) rfl rfl rfl ?_
  refine bGo hA 0 1 (1, .getfield 21, 3, 2, 0, [1, 0, 0, 0, 0, 0], []) rfl rfl rfl ?_
  refine ⟨h_a0, ?_⟩
  refine bGo hA 0 2 (4, .istore_n 1, 1, 3, 0, [1], []) rfl rfl rfl ?_
  refine bGo hA 0 3 (5, .aload_n 0, 1, 4, 0, [0], []) rfl rfl rfl ?_
  refine bGo hA 0 4 (6, .iconst (0), 1, 5, 0, [], [(0, 0)]) rfl rfl rfl ?_
  refine bGo hA 0 5 (7, .putfield 21, 3, 6, 0, [1, 0, 0, 0, 0, 0], []) rfl rfl rfl ?_
  refine ⟨h_a0, ?_⟩
  refine bGo hA 0 6 (10, .iload_n 1, 1, 7, 0, [1], []) rfl rfl rfl ?_
  refine bGo hA 0 7 (11, .ireturn, 1, 0, 0, [1], []) rfl rfl rfl ?_
  exact h

theorem sg20_0 {lvl : Nat} {C : bCall} {Q : bPost} {A : bPt → Prop} (hC : bMono C) (hA : bClosed lvl bm20 C Q A) {a0 : Nat} {x1 : Int32} {σ : bSt} (h_a0 : a0 % 256 = 1)
  (h : ((x1 < 0 → Q (.inl (some (.int 0))) σ) ∧ (¬ x1 < 0 → (¬ bTy (256 * (1 * (a0 / 256) + 0) + 15) = 9 ∧ ((x1 < (Int32.ofNat (bLen σ (256 * (1 * (a0 / 256) + 0) + 15))) → (bTy (256 * (1 * (a0 / 256) + 0) + 15) = 1 ∧ (vp_in x1 (bLen σ (256 * (1 * (a0 / 256) + 0) + 15)) ∧ (((σ.1 (256 * (1 * (a0 / 256) + 0) + 15) (x1).toNatClampNeg) = 0 → Q (.inl (some (.int 0))) σ) ∧ (¬ (σ.1 (256 * (1 * (a0 / 256) + 0) + 15) (x1).toNatClampNeg) = 0 → Q (.inl (some (.int 1))) σ))))) ∧ (¬ x1 < (Int32.ofNat (bLen σ (256 * (1 * (a0 / 256) + 0) + 15))) → Q (.inl (some (.int 0))) σ)))))) : A (0, [.ref a0, .int x1], [], σ) := by
  refine bGo hA 0 0 (0, .iload_n 1, 1, 1, 0, [1], []) rfl rfl rfl ?_
  refine bGo hA 0 1 (1, .ifCond .lt (25), 3, 2, 14, [], []) rfl rfl rfl ?_
  refine ⟨fun c1 => ?_, fun c1 => ?_⟩
  · refine bGo hA 0 14 (26, .iconst (0), 1, 15, 0, [], [(0, 0)]) rfl rfl rfl ?_
    refine bGo hA 0 15 (27, .ireturn, 1, 0, 0, [2], []) rfl rfl rfl ?_
    exact ⟨Or.inl rfl, (h.1 c1)⟩
  · refine bGo hA 0 2 (4, .iload_n 1, 1, 3, 0, [1], []) rfl rfl rfl ?_
    refine bGo hA 0 3 (5, .aload_n 0, 1, 4, 0, [0], []) rfl rfl rfl ?_
    refine bGo hA 0 4 (6, .getfield 9, 3, 5, 0, [1, 2, 3, 15, 1, 0], []) rfl rfl rfl ?_
    refine ⟨h_a0, ?_⟩
    refine bGo hA 0 5 (9, .arraylength, 1, 6, 0, [], []) rfl rfl rfl ?_
    refine ⟨(h.2 c1).1, ?_⟩
    refine bGo hA 0 6 (10, .if_icmp .ge (16), 3, 7, 14, [], []) rfl rfl rfl ?_
    refine ⟨fun c2 => ?_, fun c2 => ?_⟩
    · refine bGo hA 0 7 (13, .aload_n 0, 1, 8, 0, [0], []) rfl rfl rfl ?_
      refine bGo hA 0 8 (14, .getfield 9, 3, 9, 0, [1, 2, 3, 15, 1, 0], []) rfl rfl rfl ?_
      refine ⟨h_a0, ?_⟩
      refine bGo hA 0 9 (17, .iload_n 1, 1, 10, 0, [1], []) rfl rfl rfl ?_
      refine bGo hA 0 10 (18, .baload, 1, 11, 0, [], []) rfl rfl rfl ?_
      refine ⟨((h.2 c1).2.1 c2).1, ((h.2 c1).2.1 c2).2.1, ?_⟩
      refine bGo hA 0 11 (19, .ifCond .eq (7), 3, 12, 14, [], []) rfl rfl rfl ?_
      refine ⟨fun c3 => ?_, fun c3 => ?_⟩
      · refine bGo hA 0 14 (26, .iconst (0), 1, 15, 0, [], [(0, 0)]) rfl rfl rfl ?_
        refine bGo hA 0 15 (27, .ireturn, 1, 0, 0, [2], []) rfl rfl rfl ?_
        exact ⟨Or.inl rfl, (((h.2 c1).2.1 c2).2.2.1 c3)⟩
      · refine bGo hA 0 12 (22, .iconst (1), 1, 13, 0, [], [(1, 0)]) rfl rfl rfl ?_
        refine bGo hA 0 13 (23, .goto (4), 3, 14, 15, [], []) rfl rfl rfl ?_
        refine bGo hA 0 15 (27, .ireturn, 1, 0, 0, [2], []) rfl rfl rfl ?_
        exact ⟨Or.inr rfl, (((h.2 c1).2.1 c2).2.2.2 c3)⟩
    · refine bGo hA 0 14 (26, .iconst (0), 1, 15, 0, [], [(0, 0)]) rfl rfl rfl ?_
      refine bGo hA 0 15 (27, .ireturn, 1, 0, 0, [2], []) rfl rfl rfl ?_
      exact ⟨Or.inl rfl, ((h.2 c1).2.2 c2)⟩

theorem sg21_0 {lvl : Nat} {C : bCall} {Q : bPost} {A : bPt → Prop} (hC : bMono C) (hA : bClosed lvl bm21 C Q A) {a0 : Nat} {x1 : Int32} {σ : bSt} (h_a0 : a0 % 256 = 1)
  (h : ((x1 < 0 → Q (.inl none) σ) ∧ (¬ x1 < 0 → (¬ bTy (256 * (1 * (a0 / 256) + 0) + 15) = 9 ∧ ((x1 < (Int32.ofNat (bLen σ (256 * (1 * (a0 / 256) + 0) + 15))) → (bTy (256 * (1 * (a0 / 256) + 0) + 15) = 1 ∧ (vp_in x1 (bLen σ (256 * (1 * (a0 / 256) + 0) + 15)) ∧ ((256 * (1 * (a0 / 256) + 0) + 15) % 256 < 200 ∧ Q (.inl none) (bI σ (256 * (1 * (a0 / 256) + 0) + 15) (x1).toNatClampNeg 1))))) ∧ (¬ x1 < (Int32.ofNat (bLen σ (256 * (1 * (a0 / 256) + 0) + 15))) → Q (.inl none) σ)))))) : A (0, [.ref a0, .int x1], [], σ) := by
  refine bGo hA 0 0 (0, .iload_n 1, 1, 1, 0, [1], []) rfl rfl rfl ?_
  refine bGo hA 0 1 (1, .ifCond .lt (19), 3, 2, 12, [], []) rfl rfl rfl ?_
  refine ⟨fun c1 => ?_, fun c1 => ?_⟩
  · refine bGo hA 0 12 (20, .return_, 1, 0, 0, [0], []) rfl rfl rfl ?_
    exact (h.1 c1)
  · refine bGo hA 0 2 (4, .iload_n 1, 1, 3, 0, [1], []) rfl rfl rfl ?_
    refine bGo hA 0 3 (5, .aload_n 0, 1, 4, 0, [0], []) rfl rfl rfl ?_
    refine bGo hA 0 4 (6, .getfield 9, 3, 5, 0, [1, 2, 3, 15, 1, 0], []) rfl rfl rfl ?_
    refine ⟨h_a0, ?_⟩
    refine bGo hA 0 5 (9, .arraylength, 1, 6, 0, [], []) rfl rfl rfl ?_
    refine ⟨(h.2 c1).1, ?_⟩
    refine bGo hA 0 6 (10, .if_icmp .ge (10), 3, 7, 12, [], []) rfl rfl rfl ?_
    refine ⟨fun c2 => ?_, fun c2 => ?_⟩
    · refine bGo hA 0 7 (13, .aload_n 0, 1, 8, 0, [0], []) rfl rfl rfl ?_
      refine bGo hA 0 8 (14, .getfield 9, 3, 9, 0, [1, 2, 3, 15, 1, 0], []) rfl rfl rfl ?_
      refine ⟨h_a0, ?_⟩
      refine bGo hA 0 9 (17, .iload_n 1, 1, 10, 0, [1], []) rfl rfl rfl ?_
      refine bGo hA 0 10 (18, .iconst (1), 1, 11, 0, [], [(1, 0)]) rfl rfl rfl ?_
      refine bGo hA 0 11 (19, .bastore, 1, 12, 0, [], []) rfl rfl rfl ?_
      refine ⟨((h.2 c1).2.1 c2).1, ((h.2 c1).2.1 c2).2.1, ((h.2 c1).2.1 c2).2.2.1, Or.inr rfl, ?_⟩
      refine bGo hA 0 12 (20, .return_, 1, 0, 0, [0], []) rfl rfl rfl ?_
      exact ((h.2 c1).2.1 c2).2.2.2
    · refine bGo hA 0 12 (20, .return_, 1, 0, 0, [0], []) rfl rfl rfl ?_
      exact ((h.2 c1).2.2 c2)

theorem sg22_0 {lvl : Nat} {C : bCall} {Q : bPost} {A : bPt → Prop} (hC : bMono C) (hA : bClosed lvl bm22 C Q A) {a0 : Nat} {x1 : Int32} {σ : bSt} (h_a0 : a0 % 256 = 1)
  (h : (C 20 [.ref a0, .int x1] σ (bRi (fun r3 s1 => ((r3 = 0 → ((r3 = 0 ∨ r3 = 1) ∧ Q (.inl (some (.int r3))) s1)) ∧ (¬ r3 = 0 → (bTy (256 * (1 * (a0 / 256) + 0) + 15) = 1 ∧ (vp_in x1 (bLen s1 (256 * (1 * (a0 / 256) + 0) + 15)) ∧ ((256 * (1 * (a0 / 256) + 0) + 15) % 256 < 200 ∧ ((r3 = 0 ∨ r3 = 1) ∧ Q (.inl (some (.int r3))) (bI s1 (256 * (1 * (a0 / 256) + 0) + 15) (x1).toNatClampNeg 0))))))))))) : A (0, [.ref a0, .int x1, .float 0], [], σ) := by
  refine bGo hA 0 0 (0, .aload_n 0, 1, 1, 0, [0], []) rfl rfl rfl ?_
  refine bGo hA 0 1 (1, .iload_n 1, 1, 2, 0, [1], []) rfl rfl rfl ?_
  refine bGo hA 0 2 (2, .invokevirtual 42, 3, 3, 0, [0, 1, 20, 1], []) rfl rfl rfl ?_
  refine ⟨h_a0, ?_⟩
  refine hC _ _ _ _ _ (bRi_e (fun r3 s1 k2 => ?_)) h
  show A (3, [.ref a0, .int x1, .float 0], [.int r3], s1)
  refine bGo hA 0 3 (5, .istore_n 2, 1, 4, 0, [2], []) rfl rfl rfl ?_
  refine bGo hA 0 4 (6, .iload_n 2, 1, 5, 0, [2], []) rfl rfl rfl ?_
  refine bGo hA 0 5 (7, .ifCond .eq (10), 3, 6, 11, [], []) rfl rfl rfl ?_
  refine ⟨fun c4 => ?_, fun c4 => ?_⟩
  · refine bGo hA 0 11 (17, .iload_n 2, 1, 12, 0, [2], []) rfl rfl rfl ?_
    refine bGo hA 0 12 (18, .ireturn, 1, 0, 0, [2], []) rfl rfl rfl ?_
    exact (k2.1 c4)
  · refine bGo hA 0 6 (10, .aload_n 0, 1, 7, 0, [0], []) rfl rfl rfl ?_
    refine bGo hA 0 7 (11, .getfield 9, 3, 8, 0, [1, 2, 3, 15, 1, 0], []) rfl rfl rfl ?_
    refine ⟨h_a0, ?_⟩
    refine bGo hA 0 8 (14, .iload_n 1, 1, 9, 0, [1], []) rfl rfl rfl ?_
    refine bGo hA 0 9 (15, .iconst (0), 1, 10, 0, [], [(0, 0)]) rfl rfl rfl ?_
    refine bGo hA 0 10 (16, .bastore, 1, 11, 0, [], []) rfl rfl rfl ?_
    refine ⟨(k2.2 c4).1, (k2.2 c4).2.1, (k2.2 c4).2.2.1, Or.inl rfl, ?_⟩
    refine bGo hA 0 11 (17, .iload_n 2, 1, 12, 0, [2], []) rfl rfl rfl ?_
    refine bGo hA 0 12 (18, .ireturn, 1, 0, 0, [2], []) rfl rfl rfl ?_
    exact (k2.2 c4).2.2.2

theorem sg23_0 {lvl : Nat} {C : bCall} {Q : bPost} {A : bPt → Prop} (hC : bMono C) (hA : bClosed lvl bm23 C Q A)  {σ : bSt} 
  (h : (σ.2.2.2.1 16 = 0 ∧ ((bR (bNew σ 16 2 3) 2 0 (some 16)).2.2.2.1 17 = 0 ∧ ((bR (bNew (bR (bNew σ 16 2 3) 2 0 (some 16)) 17 2 12) 2 1 (some 17)).2.2.2.1 18 = 0 ∧ (((bR (bNew (bR (bNew (bR (bNew σ 16 2 3) 2 0 (some 16)) 17 2 12) 2 1 (some 17)) 18 2 12) 2 2 (some 18)).2.2.1 2 0).isSome = true ∧ (C 361 [.ref 16, .int 1] (bR (bNew (bR (bNew (bR (bNew σ 16 2 3) 2 0 (some 16)) 17 2 12) 2 1 (some 17)) 18 2 12) 2 2 (some 18)) (bRv (fun s1 => ((s1.2.2.1 2 1).isSome = true ∧ (C 361 [.ref 17, .int (-1)] s1 (bRv (fun s3 => (bAll s3 2 [0, 1, 2] ∧ Q (.inl none) (bA s3 2 2)))))))))))))) : A (0, [.retAddr 2], [], σ) := by
  refine bGo hA 0 0 (0, .aload_n 0, 1, 1, 0, [0], []) rfl rfl rfl ?_
  refine bGo hA 0 1 (1, .invokespecial 3, 3, 2, 0, [6, 0, 0], []) rfl rfl rfl ?_
  refine bGo hA 0 2 (4, .aload_n 0, 1, 3, 0, [0], []) rfl rfl rfl ?_
  refine bGo hA 0 3 (5, .iconst (3), 1, 4, 0, [], [(3, 0)]) rfl rfl rfl ?_
  refine bGo hA 0 4 (6, .newarray .int, 2, 5, 0, [16], []) rfl rfl rfl ?_
  refine ⟨h.1, rfl, by decide, ?_⟩
  refine bGo hA 0 5 (8, .putfield 9, 3, 6, 0, [2, 0, 3, 16, 1, 0], []) rfl rfl rfl ?_
  refine ⟨rfl, rfl, ?_⟩
  refine bGo hA 0 6 (11, .aload_n 0, 1, 7, 0, [0], []) rfl rfl rfl ?_
  refine bGo hA 0 7 (12, .bipush (12), 2, 8, 0, [], [(12, 0)]) rfl rfl rfl ?_
  refine bGo hA 0 8 (14, .newarray .int, 2, 9, 0, [17], []) rfl rfl rfl ?_
  refine ⟨h.2.1, rfl, by decide, ?_⟩
  refine bGo hA 0 9 (16, .putfield 15, 3, 10, 0, [2, 1, 3, 17, 1, 0], []) rfl rfl rfl ?_
  refine ⟨rfl, rfl, ?_⟩
  refine bGo hA 0 10 (19, .aload_n 0, 1, 11, 0, [0], []) rfl rfl rfl ?_
  refine bGo hA 0 11 (20, .bipush (12), 2, 12, 0, [], [(12, 0)]) rfl rfl rfl ?_
  refine bGo hA 0 12 (22, .newarray .boolean, 2, 13, 0, [18], []) rfl rfl rfl ?_
  refine ⟨h.2.2.1, rfl, by decide, ?_⟩
  refine bGo hA 0 13 (24, .putfield 18, 3, 14, 0, [2, 2, 3, 18, 1, 0], []) rfl rfl rfl ?_
  refine ⟨rfl, rfl, ?_⟩
  refine bGo hA 0 14 (27, .aload_n 0, 1, 15, 0, [0], []) rfl rfl rfl ?_
  refine bGo hA 0 15 (28, .getfield 9, 3, 16, 0, [2, 0, 3, 16, 1, 0], []) rfl rfl rfl ?_
  refine ⟨rfl, h.2.2.2.1, ?_⟩
  refine bGo hA 1 0 (31, .iconst (1), 1, 17, 0, [], [(1, 0)]) rfl rfl rfl ?_
  refine bGo hA 1 1 (32, .invokestatic 22, 3, 18, 0, [2, 361, 2], []) rfl rfl rfl ?_
  refine hC _ _ _ _ _ (bRv_e (fun s1 k2 => ?_)) h.2.2.2.2
  show A (18, [.retAddr 2], [], s1)
  refine bGo hA 1 2 (35, .aload_n 0, 1, 19, 0, [0], []) rfl rfl rfl ?_
  refine bGo hA 1 3 (36, .getfield 15, 3, 20, 0, [2, 1, 3, 17, 1, 0], []) rfl rfl rfl ?_
  refine ⟨rfl, k2.1, ?_⟩
  refine bGo hA 1 4 (39, .iconst (-1), 1, 21, 0, [], [(-1, 0)]) rfl rfl rfl ?_
  refine bGo hA 1 5 (40, .invokestatic 22, 3, 22, 0, [2, 361, 2], []) rfl rfl rfl ?_
  refine hC _ _ _ _ _ (bRv_e (fun s3 k4 => ?_)) k2.2
  show A (22, [.retAddr 2], [], s3)
  refine bGo hA 1 6 (43, .return_, 1, 0, 0, [5, 0, 1, 2], []) rfl rfl rfl ?_
  exact k4

theorem sg24_0 {lvl : Nat} {C : bCall} {Q : bPost} {A : bPt → Prop} (hC : bMono C) (hA : bClosed lvl bm24 C Q A) {x1 : Int32} {x2 : Int32} {σ : bSt} 
  (h : (C 140 [.ref 16, .int x1] σ (bRi (fun r3 s1 => A (7, [.ref 2, .int x1, .int x2, .int r3, .int x2], [], s1))))) : A (0, [.ref 2, .int x1, .int x2, .float 0, .float 0], [], σ) := by
  refine bGo hA 0 0 (0, .aload_n 0, 1, 1, 0, [0], []) rfl rfl rfl ?_
  refine bGo hA 0 1 (1, .getfield 9, 3, 2, 0, [2, 0, 3, 16, 1, 0], []) rfl rfl rfl ?_
  refine ⟨rfl, ?_⟩
  refine bGo hA 0 2 (4, .iload_n 1, 1, 3, 0, [1], []) rfl rfl rfl ?_
  refine bGo hA 0 3 (5, .invokestatic 28, 3, 4, 1, [2, 140, 2], []) rfl rfl rfl ?_
  refine hC _ _ _ _ _ (bRi_e (fun r3 s1 k2 => ?_)) h
  show A (4, [.ref 2, .int x1, .int x2, .float 0, .float 0], [.int r3], s1)
  refine bGo hA 0 4 (8, .istore_n 3, 1, 5, 0, [3], []) rfl rfl rfl ?_
  refine bGo hA 0 5 (9, .iload_n 2, 1, 6, 0, [2], []) rfl rfl rfl ?_
  refine bGo hA 0 6 (10, .istore 4, 2, 7, 0, [4], []) rfl rfl rfl ?_
  exact k2

theorem sg24_7 {lvl : Nat} {C : bCall} {Q : bPost} {A : bPt → Prop} (hC : bMono C) (hA : bClosed lvl bm24 C Q A) {l1 : Int32} {l2 : Int32} {l3 : Int32} {l4 : Int32} {σ : bSt} 
  (h : ((l4 < 4 → (C 141 [.ref 17, .int ((l1 * 4) + l4), .int (-1)] σ (bRv (fun s2 => A (7, [.ref 2, .int l1, .int l2, .int l3, .int (l4 + 1)], [], s2))))) ∧ (¬ l4 < 4 → (C 141 [.ref 16, .int l1, .int l2] σ (bRv (fun s4 => Q (.inl (some (.int l3))) s4)))))) : A (7, [.ref 2, .int l1, .int l2, .int l3, .int l4], [], σ) := by
  refine bGo hA 0 7 (12, .iload 4, 2, 8, 0, [4], []) rfl rfl rfl ?_
  refine bGo hA 0 8 (14, .iconst (4), 1, 9, 0, [], [(4, 0)]) rfl rfl rfl ?_
  refine bGo hA 0 9 (15, .if_icmp .ge (23), 3, 10, 21, [], []) rfl rfl rfl ?_
  refine ⟨fun c1 => ?_, fun c1 => ?_⟩
  · refine bGo hA 0 10 (18, .aload_n 0, 1, 11, 0, [0], []) rfl rfl rfl ?_
    refine bGo hA 0 11 (19, .getfield 15, 3, 12, 0, [2, 1, 3, 17, 1, 0], []) rfl rfl rfl ?_
    refine ⟨rfl, ?_⟩
    refine bGo hA 0 12 (22, .iload_n 1, 1, 13, 0, [1], []) rfl rfl rfl ?_
    refine bGo hA 0 13 (23, .iconst (4), 1, 14, 0, [], [(4, 0)]) rfl rfl rfl ?_
    refine bGo hA 0 14 (24, .imul, 1, 15, 0, [], []) rfl rfl rfl ?_
    refine bGo hA 0 15 (25, .iload 4, 2, 16, 0, [4], []) rfl rfl rfl ?_
    refine bGo hA 1 0 (27, .iadd, 1, 17, 0, [], []) rfl rfl rfl ?_
    refine bGo hA 1 1 (28, .iconst (-1), 1, 18, 0, [], [(-1, 0)]) rfl rfl rfl ?_
    refine bGo hA 1 2 (29, .invokestatic 32, 3, 19, 1, [2, 141, 3], []) rfl rfl rfl ?_
    refine hC _ _ _ _ _ (bRv_e (fun s2 k3 => ?_)) (h.1 c1)
    show A (19, [.ref 2, .int l1, .int l2, .int l3, .int l4], [], s2)
    refine bGo hA 1 3 (32, .iinc 4 (1), 3, 20, 0, [4], [(1, 0)]) rfl rfl rfl ?_
    refine bGo hA 1 4 (35, .goto (-23), 3, 21, 7, [], []) rfl rfl rfl ?_
    exact k3
  · refine bGo hA 1 5 (38, .aload_n 0, 1, 22, 0, [0], []) rfl rfl rfl ?_
    refine bGo hA 1 6 (39, .getfield 9, 3, 23, 0, [2, 0, 3, 16, 1, 0], []) rfl rfl rfl ?_
    refine ⟨rfl, ?_⟩
    refine bGo hA 1 7 (42, .iload_n 1, 1, 24, 0, [1], []) rfl rfl rfl ?_
    refine bGo hA 1 8 (43, .iload_n 2, 1, 25, 0, [2], []) rfl rfl rfl ?_
    refine bGo hA 1 9 (44, .invokestatic 32, 3, 26, 1, [2, 141, 3], []) rfl rfl rfl ?_
    refine hC _ _ _ _ _ (bRv_e (fun s4 k5 => ?_)) (h.2 c1)
    show A (26, [.ref 2, .int l1, .int l2, .int l3, .int l4], [], s4)
    refine bGo hA 1 10 (47, .iload_n 3, 1, 27, 0, [3], []) rfl rfl rfl ?_
    refine bGo hA 1 11 (48, .ireturn, 1, 0, 0, [1], []) rfl rfl rfl ?_
    exact k5

theorem sg25_0 {lvl : Nat} {C : bCall} {Q : bPost} {A : bPt → Prop} (hC : bMono C) (hA : bClosed lvl bm25 C Q A) {x1 : Int32} {x2 : Int32} {σ : bSt} 
  (h : (C 140 [.ref 16, .int x1] σ (bRi (fun r3 s1 => A (9, [.ref 2, .int x1, .int x2, .int (-1), .int (r3 - 1), .float 0, .float 0], [], s1))))) : A (0, [.ref 2, .int x1, .int x2, .float 0, .float 0, .float 0, .float 0], [], σ) := by
  refine bGo hA 0 0 (0, .iconst (-1), 1, 1, 0, [], [(-1, 0)]) rfl rfl rfl ?_
  refine bGo hA 0 1 (1, .istore_n 3, 1, 2, 0, [3], []) rfl rfl rfl ?_
  refine bGo hA 0 2 (2, .aload_n 0, 1, 3, 0, [0], []) rfl rfl rfl ?_
  refine bGo hA 0 3 (3, .getfield 9, 3, 4, 0, [2, 0, 3, 16, 1, 0], []) rfl rfl rfl ?_
  refine ⟨rfl, ?_⟩
  refine bGo hA 0 4 (6, .iload_n 1, 1, 5, 0, [1], []) rfl rfl rfl ?_
  refine bGo hA 0 5 (7, .invokestatic 28, 3, 6, 1, [2, 140, 2], []) rfl rfl rfl ?_
  refine hC _ _ _ _ _ (bRi_e (fun r3 s1 k2 => ?_)) h
  show A (6, [.ref 2, .int x1, .int x2, .int (-1), .float 0, .float 0, .float 0], [.int r3], s1)
  refine bGo hA 0 6 (10, .iconst (1), 1, 7, 0, [], [(1, 0)]) rfl rfl rfl ?_
  refine bGo hA 0 7 (11, .isub, 1, 8, 0, [], []) rfl rfl rfl ?_
  refine bGo hA 0 8 (12, .istore 4, 2, 9, 0, [4], []) rfl rfl rfl ?_
  exact k2

theorem sg25_9 {lvl : Nat} {C : bCall} {Q : bPost} {A : bPt → Prop} (hC : bMono C) (hA : bClosed lvl bm25 C Q A) {l1 : Int32} {l2 : Int32} {l3 : Int32} {l4 : Int32} {v5 : Value} {v6 : Value} {σ : bSt} 
  (h : ((l4 < 0 → Q (.inl (some (.int l3))) σ) ∧ (¬ l4 < 0 → ((l3 = (-1) → (C 27 [.ref 2, .int ((l1 * 4) + l4)] σ (bRi (fun r6 s4 => ((r6 = 0 → A (9, [.ref 2, .int l1, .int l2, .int ((l1 * 4) + l4), .int (l4 + (-1)), .int ((l1 * 4) + l4), .int 1], [], s4)) ∧ (¬ r6 = 0 → A (9, [.ref 2, .int l1, .int l2, .int l3, .int (l4 + (-1)), .int ((l1 * 4) + l4), .int 1], [], s4))))))) ∧ (¬ l3 = (-1) → (C 26 [.ref 2, .int ((l1 * 4) + l4), .int l2] σ (bRi (fun r10 s8 => ((r10 = 0 → (C 26 [.ref 2, .int l3, .int l2] s8 (bRi (fun r14 s12 => ((r14 = 0 → (C 27 [.ref 2, .int ((l1 * 4) + l4)] s12 (bRi (fun r19 s17 => ((r19 = 0 → A (9, [.ref 2, .int l1, .int l2, .int ((l1 * 4) + l4), .int (l4 + (-1)), .int ((l1 * 4) + l4), .int 1], [], s17)) ∧ (¬ r19 = 0 → A (9, [.ref 2, .int l1, .int l2, .int l3, .int (l4 + (-1)), .int ((l1 * 4) + l4), .int 1], [], s17))))))) ∧ (¬ r14 = 0 → A (9, [.ref 2, .int l1, .int l2, .int l3, .int (l4 + (-1)), .int ((l1 * 4) + l4), .int 0], [], s12))))))) ∧ (¬ r10 = 0 → (C 27 [.ref 2, .int ((l1 * 4) + l4)] s8 (bRi (fun r25 s23 => ((r25 = 0 → A (9, [.ref 2, .int l1, .int l2, .int ((l1 * 4) + l4), .int (l4 + (-1)), .int ((l1 * 4) + l4), .int 1], [], s23)) ∧ (¬ r25 = 0 → A (9, [.ref 2, .int l1, .int l2, .int l3, .int (l4 + (-1)), .int ((l1 * 4) + l4), .int 1], [], s23)))))))))))))))) : A (9, [.ref 2, .int l1, .int l2, .int l3, .int l4, v5, v6], [], σ) := by
  refine bGo hA 0 9 (14, .iload 4, 2, 10, 0, [4], []) rfl rfl rfl ?_
  refine bGo hA 0 10 (16, .ifCond .lt (65), 3, 11, 44, [], []) rfl rfl rfl ?_
  refine ⟨fun c1 => ?_, fun c1 => ?_⟩
  · refine bGo hA 2 12 (81, .iload_n 3, 1, 45, 0, [3], []) rfl rfl rfl ?_
    refine bGo hA 2 13 (82, .ireturn, 1, 0, 0, [1], []) rfl rfl rfl ?_
    exact (h.1 c1)
  · refine bGo hA 0 11 (19, .iload_n 1, 1, 12, 0, [1], []) rfl rfl rfl ?_
    refine bGo hA 0 12 (20, .iconst (4), 1, 13, 0, [], [(4, 0)]) rfl rfl rfl ?_
    refine bGo hA 0 13 (21, .imul, 1, 14, 0, [], []) rfl rfl rfl ?_
    refine bGo hA 0 14 (22, .iload 4, 2, 15, 0, [4], []) rfl rfl rfl ?_
    refine bGo hA 0 15 (24, .iadd, 1, 16, 0, [], []) rfl rfl rfl ?_
    refine bGo hA 1 0 (25, .istore 5, 2, 17, 0, [5], []) rfl rfl rfl ?_
    refine bGo hA 1 1 (27, .iload_n 3, 1, 18, 0, [3], []) rfl rfl rfl ?_
    refine bGo hA 1 2 (28, .iconst (-1), 1, 19, 0, [], [(-1, 0)]) rfl rfl rfl ?_
    refine bGo hA 1 3 (29, .if_icmp .eq (22), 3, 20, 30, [], []) rfl rfl rfl ?_
    refine ⟨fun c2 => ?_, fun c2 => ?_⟩
    · refine bGo hA 1 14 (51, .iconst (1), 1, 31, 0, [], [(1, 0)]) rfl rfl rfl ?_
      refine bGo hA 1 15 (52, .goto (4), 3, 32, 33, [], []) rfl rfl rfl ?_
      refine bGo hA 2 1 (56, .istore 6, 2, 34, 0, [6], []) rfl rfl rfl ?_
      refine bGo hA 2 2 (58, .iload 6, 2, 35, 0, [6], []) rfl rfl rfl ?_
      refine bGo hA 2 3 (60, .ifCond .eq (15), 3, 36, 42, [], []) rfl rfl rfl ?_
      refine ⟨fun c => absurd c (by decide), fun _ => ?_⟩
      refine bGo hA 2 4 (63, .aload_n 0, 1, 37, 0, [0], []) rfl rfl rfl ?_
      refine bGo hA 2 5 (64, .iload 5, 2, 38, 0, [5], []) rfl rfl rfl ?_
      refine bGo hA 2 6 (66, .invokevirtual 40, 3, 39, 0, [0, 2, 27, 1], []) rfl rfl rfl ?_
      refine ⟨rfl, ?_⟩
      refine hC _ _ _ _ _ (bRi_e (fun r6 s4 k5 => ?_)) ((h.2 c1).1 c2)
      show A (39, [.ref 2, .int l1, .int l2, .int l3, .int l4, .int ((l1 * 4) + l4), .int 1], [.int r6], s4)
      refine bGo hA 2 7 (69, .ifCond .ne (6), 3, 40, 42, [], []) rfl rfl rfl ?_
      refine ⟨fun c7 => ?_, fun c7 => ?_⟩
      · refine bGo hA 2 8 (72, .iload 5, 2, 41, 0, [5], []) rfl rfl rfl ?_
        refine bGo hA 2 9 (74, .istore_n 3, 1, 42, 0, [3], []) rfl rfl rfl ?_
        refine bGo hA 2 10 (75, .iinc 4 (-1), 3, 43, 0, [4], [(-1, 0)]) rfl rfl rfl ?_
        refine bGo hA 2 11 (78, .goto (-64), 3, 44, 9, [], []) rfl rfl rfl ?_
        exact (k5.1 c7)
      · refine bGo hA 2 10 (75, .iinc 4 (-1), 3, 43, 0, [4], [(-1, 0)]) rfl rfl rfl ?_
        refine bGo hA 2 11 (78, .goto (-64), 3, 44, 9, [], []) rfl rfl rfl ?_
        exact (k5.2 c7)
    · refine bGo hA 1 4 (32, .aload_n 0, 1, 21, 0, [0], []) rfl rfl rfl ?_
      refine bGo hA 1 5 (33, .iload 5, 2, 22, 0, [5], []) rfl rfl rfl ?_
      refine bGo hA 1 6 (35, .iload_n 2, 1, 23, 0, [2], []) rfl rfl rfl ?_
      refine bGo hA 1 7 (36, .invokevirtual 36, 3, 24, 0, [0, 2, 26, 2], []) rfl rfl rfl ?_
      refine ⟨rfl, ?_⟩
      refine hC _ _ _ _ _ (bRi_e (fun r10 s8 k9 => ?_)) ((h.2 c1).2 c2)
      show A (24, [.ref 2, .int l1, .int l2, .int l3, .int l4, .int ((l1 * 4) + l4), v6], [.int r10], s8)
      refine bGo hA 1 8 (39, .ifCond .ne (12), 3, 25, 30, [], []) rfl rfl rfl ?_
      refine ⟨fun c11 => ?_, fun c11 => ?_⟩
      · refine bGo hA 1 9 (42, .aload_n 0, 1, 26, 0, [0], []) rfl rfl rfl ?_
        refine bGo hA 1 10 (43, .iload_n 3, 1, 27, 0, [3], []) rfl rfl rfl ?_
        refine bGo hA 1 11 (44, .iload_n 2, 1, 28, 0, [2], []) rfl rfl rfl ?_
        refine bGo hA 1 12 (45, .invokevirtual 36, 3, 29, 0, [0, 2, 26, 2], []) rfl rfl rfl ?_
        refine ⟨rfl, ?_⟩
        refine hC _ _ _ _ _ (bRi_e (fun r14 s12 k13 => ?_)) (k9.1 c11)
        show A (29, [.ref 2, .int l1, .int l2, .int l3, .int l4, .int ((l1 * 4) + l4), v6], [.int r14], s12)
        refine bGo hA 1 13 (48, .ifCond .ne (7), 3, 30, 32, [], []) rfl rfl rfl ?_
        refine ⟨fun c15 => ?_, fun c15 => ?_⟩
        · refine bGo hA 1 14 (51, .iconst (1), 1, 31, 0, [], [(1, 0)]) rfl rfl rfl ?_
          refine bGo hA 1 15 (52, .goto (4), 3, 32, 33, [], []) rfl rfl rfl ?_
          refine bGo hA 2 1 (56, .istore 6, 2, 34, 0, [6], []) rfl rfl rfl ?_
          refine bGo hA 2 2 (58, .iload 6, 2, 35, 0, [6], []) rfl rfl rfl ?_
          refine bGo hA 2 3 (60, .ifCond .eq (15), 3, 36, 42, [], []) rfl rfl rfl ?_
          refine ⟨fun c => absurd c (by decide), fun _ => ?_⟩
          refine bGo hA 2 4 (63, .aload_n 0, 1, 37, 0, [0], []) rfl rfl rfl ?_
          refine bGo hA 2 5 (64, .iload 5, 2, 38, 0, [5], []) rfl rfl rfl ?_
          refine bGo hA 2 6 (66, .invokevirtual 40, 3, 39, 0, [0, 2, 27, 1], []) rfl rfl rfl ?_
          refine ⟨rfl, ?_⟩
          refine hC _ _ _ _ _ (bRi_e (fun r19 s17 k18 => ?_)) (k13.1 c15)
          show A (39, [.ref 2, .int l1, .int l2, .int l3, .int l4, .int ((l1 * 4) + l4), .int 1], [.int r19], s17)
          refine bGo hA 2 7 (69, .ifCond .ne (6), 3, 40, 42, [], []) rfl rfl rfl ?_
          refine ⟨fun c20 => ?_, fun c20 => ?_⟩
          · refine bGo hA 2 8 (72, .iload 5, 2, 41, 0, [5], []) rfl rfl rfl ?_
            refine bGo hA 2 9 (74, .istore_n 3, 1, 42, 0, [3], []) rfl rfl rfl ?_
            refine bGo hA 2 10 (75, .iinc 4 (-1), 3, 43, 0, [4], [(-1, 0)]) rfl rfl rfl ?_
            refine bGo hA 2 11 (78, .goto (-64), 3, 44, 9, [], []) rfl rfl rfl ?_
            exact (k18.1 c20)
          · refine bGo hA 2 10 (75, .iinc 4 (-1), 3, 43, 0, [4], [(-1, 0)]) rfl rfl rfl ?_
            refine bGo hA 2 11 (78, .goto (-64), 3, 44, 9, [], []) rfl rfl rfl ?_
            exact (k18.2 c20)
        · refine bGo hA 2 0 (55, .iconst (0), 1, 33, 0, [], [(0, 0)]) rfl rfl rfl ?_
          refine bGo hA 2 1 (56, .istore 6, 2, 34, 0, [6], []) rfl rfl rfl ?_
          refine bGo hA 2 2 (58, .iload 6, 2, 35, 0, [6], []) rfl rfl rfl ?_
          refine bGo hA 2 3 (60, .ifCond .eq (15), 3, 36, 42, [], []) rfl rfl rfl ?_
          refine ⟨fun _ => ?_, fun c => absurd (by decide) c⟩
          refine bGo hA 2 10 (75, .iinc 4 (-1), 3, 43, 0, [4], [(-1, 0)]) rfl rfl rfl ?_
          refine bGo hA 2 11 (78, .goto (-64), 3, 44, 9, [], []) rfl rfl rfl ?_
          exact (k13.2 c15)
      · refine bGo hA 1 14 (51, .iconst (1), 1, 31, 0, [], [(1, 0)]) rfl rfl rfl ?_
        refine bGo hA 1 15 (52, .goto (4), 3, 32, 33, [], []) rfl rfl rfl ?_
        refine bGo hA 2 1 (56, .istore 6, 2, 34, 0, [6], []) rfl rfl rfl ?_
        refine bGo hA 2 2 (58, .iload 6, 2, 35, 0, [6], []) rfl rfl rfl ?_
        refine bGo hA 2 3 (60, .ifCond .eq (15), 3, 36, 42, [], []) rfl rfl rfl ?_
        refine ⟨fun c => absurd c (by decide), fun _ => ?_⟩
        refine bGo hA 2 4 (63, .aload_n 0, 1, 37, 0, [0], []) rfl rfl rfl ?_
        refine bGo hA 2 5 (64, .iload 5, 2, 38, 0, [5], []) rfl rfl rfl ?_
        refine bGo hA 2 6 (66, .invokevirtual 40, 3, 39, 0, [0, 2, 27, 1], []) rfl rfl rfl ?_
        refine ⟨rfl, ?_⟩
        refine hC _ _ _ _ _ (bRi_e (fun r25 s23 k24 => ?_)) (k9.2 c11)
        show A (39, [.ref 2, .int l1, .int l2, .int l3, .int l4, .int ((l1 * 4) + l4), .int 1], [.int r25], s23)
        refine bGo hA 2 7 (69, .ifCond .ne (6), 3, 40, 42, [], []) rfl rfl rfl ?_
        refine ⟨fun c26 => ?_, fun c26 => ?_⟩
        · refine bGo hA 2 8 (72, .iload 5, 2, 41, 0, [5], []) rfl rfl rfl ?_
          refine bGo hA 2 9 (74, .istore_n 3, 1, 42, 0, [3], []) rfl rfl rfl ?_
          refine bGo hA 2 10 (75, .iinc 4 (-1), 3, 43, 0, [4], [(-1, 0)]) rfl rfl rfl ?_
          refine bGo hA 2 11 (78, .goto (-64), 3, 44, 9, [], []) rfl rfl rfl ?_
          exact (k24.1 c26)
        · refine bGo hA 2 10 (75, .iinc 4 (-1), 3, 43, 0, [4], [(-1, 0)]) rfl rfl rfl ?_
          refine bGo hA 2 11 (78, .goto (-64), 3, 44, 9, [], []) rfl rfl rfl ?_
          exact (k24.2 c26)

theorem sg26_0 {lvl : Nat} {C : bCall} {Q : bPost} {A : bPt → Prop} (hC : bMono C) (hA : bClosed lvl bm26 C Q A) {x1 : Int32} {x2 : Int32} {σ : bSt} 
  (h : ((x1 < 0 → Q (.inl (some (.int 0))) σ) ∧ (¬ x1 < 0 → ((x1 < 12 → (vp_in x1 12 ∧ (((σ.1 17 (x1).toNatClampNeg) = x2 → Q (.inl (some (.int 1))) σ) ∧ (¬ (σ.1 17 (x1).toNatClampNeg) = x2 → Q (.inl (some (.int 0))) σ)))) ∧ (¬ x1 < 12 → Q (.inl (some (.int 0))) σ))))) : A (0, [.ref 2, .int x1, .int x2], [], σ) := by
  refine bGo hA 0 0 (0, .iload_n 1, 1, 1, 0, [1], []) rfl rfl rfl ?_
  refine bGo hA 0 1 (1, .ifCond .lt (26), 3, 2, 15, [], []) rfl rfl rfl ?_
  refine ⟨fun c1 => ?_, fun c1 => ?_⟩
  · refine bGo hA 0 15 (27, .iconst (0), 1, 16, 0, [], [(0, 0)]) rfl rfl rfl ?_
    refine bGo hA 1 0 (28, .ireturn, 1, 0, 0, [2], []) rfl rfl rfl ?_
    exact ⟨Or.inl rfl, (h.1 c1)⟩
  · refine bGo hA 0 2 (4, .iload_n 1, 1, 3, 0, [1], []) rfl rfl rfl ?_
    refine bGo hA 0 3 (5, .aload_n 0, 1, 4, 0, [0], []) rfl rfl rfl ?_
    refine bGo hA 0 4 (6, .getfield 15, 3, 5, 0, [2, 1, 3, 17, 1, 0], []) rfl rfl rfl ?_
    refine ⟨rfl, ?_⟩
    refine bGo hA 0 5 (9, .arraylength, 1, 6, 0, [], []) rfl rfl rfl ?_
    refine ⟨by decide, ?_⟩
    refine bGo hA 0 6 (10, .if_icmp .ge (17), 3, 7, 15, [], []) rfl rfl rfl ?_
    refine ⟨fun c2 => ?_, fun c2 => ?_⟩
    · refine bGo hA 0 7 (13, .aload_n 0, 1, 8, 0, [0], []) rfl rfl rfl ?_
      refine bGo hA 0 8 (14, .getfield 15, 3, 9, 0, [2, 1, 3, 17, 1, 0], []) rfl rfl rfl ?_
      refine ⟨rfl, ?_⟩
      refine bGo hA 0 9 (17, .iload_n 1, 1, 10, 0, [1], []) rfl rfl rfl ?_
      refine bGo hA 0 10 (18, .iaload, 1, 11, 0, [], []) rfl rfl rfl ?_
      refine ⟨rfl, ((h.2 c1).1 c2).1, ?_⟩
      refine bGo hA 0 11 (19, .iload_n 2, 1, 12, 0, [2], []) rfl rfl rfl ?_
      refine bGo hA 0 12 (20, .if_icmp .ne (7), 3, 13, 15, [], []) rfl rfl rfl ?_
      refine ⟨fun c3 => ?_, fun c3 => ?_⟩
      · refine bGo hA 0 13 (23, .iconst (1), 1, 14, 0, [], [(1, 0)]) rfl rfl rfl ?_
        refine bGo hA 0 14 (24, .goto (4), 3, 15, 16, [], []) rfl rfl rfl ?_
        refine bGo hA 1 0 (28, .ireturn, 1, 0, 0, [2], []) rfl rfl rfl ?_
        exact ⟨Or.inr rfl, (((h.2 c1).1 c2).2.1 c3)⟩
      · refine bGo hA 0 15 (27, .iconst (0), 1, 16, 0, [], [(0, 0)]) rfl rfl rfl ?_
        refine bGo hA 1 0 (28, .ireturn, 1, 0, 0, [2], []) rfl rfl rfl ?_
        exact ⟨Or.inl rfl, (((h.2 c1).1 c2).2.2 c3)⟩
    · refine bGo hA 0 15 (27, .iconst (0), 1, 16, 0, [], [(0, 0)]) rfl rfl rfl ?_
      refine bGo hA 1 0 (28, .ireturn, 1, 0, 0, [2], []) rfl rfl rfl ?_
      exact ⟨Or.inl rfl, ((h.2 c1).2 c2)⟩

theorem sg27_0 {lvl : Nat} {C : bCall} {Q : bPost} {A : bPt → Prop} (hC : bMono C) (hA : bClosed lvl bm27 C Q A) {x1 : Int32} {σ : bSt} 
  (h : ((x1 < 0 → Q (.inl (some (.int 0))) σ) ∧ (¬ x1 < 0 → ((x1 < 12 → (vp_in x1 12 ∧ (((σ.1 18 (x1).toNatClampNeg) = 0 → Q (.inl (some (.int 0))) σ) ∧ (¬ (σ.1 18 (x1).toNatClampNeg) = 0 → Q (.inl (some (.int 1))) σ)))) ∧ (¬ x1 < 12 → Q (.inl (some (.int 0))) σ))))) : A (0, [.ref 2, .int x1], [], σ) := by
  refine bGo hA 0 0 (0, .iload_n 1, 1, 1, 0, [1], []) rfl rfl rfl ?_
  refine bGo hA 0 1 (1, .ifCond .lt (25), 3, 2, 14, [], []) rfl rfl rfl ?_
  refine ⟨fun c1 => ?_, fun c1 => ?_⟩
  · refine bGo hA 0 14 (26, .iconst (0), 1, 15, 0, [], [(0, 0)]) rfl rfl rfl ?_
    refine bGo hA 0 15 (27, .ireturn, 1, 0, 0, [2], []) rfl rfl rfl ?_
    exact ⟨Or.inl rfl, (h.1 c1)⟩
  · refine bGo hA 0 2 (4, .iload_n 1, 1, 3, 0, [1], []) rfl rfl rfl ?_
    refine bGo hA 0 3 (5, .aload_n 0, 1, 4, 0, [0], []) rfl rfl rfl ?_
    refine bGo hA 0 4 (6, .getfield 18, 3, 5, 0, [2, 2, 3, 18, 1, 0], []) rfl rfl rfl ?_
    refine ⟨rfl, ?_⟩
    refine bGo hA 0 5 (9, .arraylength, 1, 6, 0, [], []) rfl rfl rfl ?_
    refine ⟨by decide, ?_⟩
    refine bGo hA 0 6 (10, .if_icmp .ge (16), 3, 7, 14, [], []) rfl rfl rfl ?_
    refine ⟨fun c2 => ?_, fun c2 => ?_⟩
    · refine bGo hA 0 7 (13, .aload_n 0, 1, 8, 0, [0], []) rfl rfl rfl ?_
      refine bGo hA 0 8 (14, .getfield 18, 3, 9, 0, [2, 2, 3, 18, 1, 0], []) rfl rfl rfl ?_
      refine ⟨rfl, ?_⟩
      refine bGo hA 0 9 (17, .iload_n 1, 1, 10, 0, [1], []) rfl rfl rfl ?_
      refine bGo hA 0 10 (18, .baload, 1, 11, 0, [], []) rfl rfl rfl ?_
      refine ⟨rfl, ((h.2 c1).1 c2).1, ?_⟩
      refine bGo hA 0 11 (19, .ifCond .eq (7), 3, 12, 14, [], []) rfl rfl rfl ?_
      refine ⟨fun c3 => ?_, fun c3 => ?_⟩
      · refine bGo hA 0 14 (26, .iconst (0), 1, 15, 0, [], [(0, 0)]) rfl rfl rfl ?_
        refine bGo hA 0 15 (27, .ireturn, 1, 0, 0, [2], []) rfl rfl rfl ?_
        exact ⟨Or.inl rfl, (((h.2 c1).1 c2).2.1 c3)⟩
      · refine bGo hA 0 12 (22, .iconst (1), 1, 13, 0, [], [(1, 0)]) rfl rfl rfl ?_
        refine bGo hA 0 13 (23, .goto (4), 3, 14, 15, [], []) rfl rfl rfl ?_
        refine bGo hA 0 15 (27, .ireturn, 1, 0, 0, [2], []) rfl rfl rfl ?_
        exact ⟨Or.inr rfl, (((h.2 c1).1 c2).2.2 c3)⟩
    · refine bGo hA 0 14 (26, .iconst (0), 1, 15, 0, [], [(0, 0)]) rfl rfl rfl ?_
      refine bGo hA 0 15 (27, .ireturn, 1, 0, 0, [2], []) rfl rfl rfl ?_
      exact ⟨Or.inl rfl, ((h.2 c1).2 c2)⟩

theorem sg28_0 {lvl : Nat} {C : bCall} {Q : bPost} {A : bPt → Prop} (hC : bMono C) (hA : bClosed lvl bm28 C Q A) {x1 : Int32} {σ : bSt} 
  (h : ((x1 < 0 → Q (.inl none) σ) ∧ (¬ x1 < 0 → ((x1 < 12 → (vp_in x1 12 ∧ Q (.inl none) (bI σ 18 (x1).toNatClampNeg 1))) ∧ (¬ x1 < 12 → Q (.inl none) σ))))) : A (0, [.ref 2, .int x1], [], σ) := by
  refine bGo hA 0 0 (0, .iload_n 1, 1, 1, 0, [1], []) rfl rfl rfl ?_
  refine bGo hA 0 1 (1, .ifCond .lt (19), 3, 2, 12, [], []) rfl rfl rfl ?_
  refine ⟨fun c1 => ?_, fun c1 => ?_⟩
  · refine bGo hA 0 12 (20, .return_, 1, 0, 0, [0], []) rfl rfl rfl ?_
    exact (h.1 c1)
  · refine bGo hA 0 2 (4, .iload_n 1, 1, 3, 0, [1], []) rfl rfl rfl ?_
    refine bGo hA 0 3 (5, .aload_n 0, 1, 4, 0, [0], []) rfl rfl rfl ?_
    refine bGo hA 0 4 (6, .getfield 18, 3, 5, 0, [2, 2, 3, 18, 1, 0], []) rfl rfl rfl ?_
    refine ⟨rfl, ?_⟩
    refine bGo hA 0 5 (9, .arraylength, 1, 6, 0, [], []) rfl rfl rfl ?_
    refine ⟨by decide, ?_⟩
    refine bGo hA 0 6 (10, .if_icmp .ge (10), 3, 7, 12, [], []) rfl rfl rfl ?_
    refine ⟨fun c2 => ?_, fun c2 => ?_⟩
    · refine bGo hA 0 7 (13, .aload_n 0, 1, 8, 0, [0], []) rfl rfl rfl ?_
      refine bGo hA 0 8 (14, .getfield 18, 3, 9, 0, [2, 2, 3, 18, 1, 0], []) rfl rfl rfl ?_
      refine ⟨rfl, ?_⟩
      refine bGo hA 0 9 (17, .iload_n 1, 1, 10, 0, [1], []) rfl rfl rfl ?_
      refine bGo hA 0 10 (18, .iconst (1), 1, 11, 0, [], [(1, 0)]) rfl rfl rfl ?_
      refine bGo hA 0 11 (19, .bastore, 1, 12, 0, [], []) rfl rfl rfl ?_
      refine ⟨rfl, ((h.2 c1).1 c2).1, by decide, Or.inr rfl, ?_⟩
      refine bGo hA 0 12 (20, .return_, 1, 0, 0, [0], []) rfl rfl rfl ?_
      exact ((h.2 c1).1 c2).2
    · refine bGo hA 0 12 (20, .return_, 1, 0, 0, [0], []) rfl rfl rfl ?_
      exact ((h.2 c1).2 c2)

theorem sg29_0 {lvl : Nat} {C : bCall} {Q : bPost} {A : bPt → Prop} (hC : bMono C) (hA : bClosed lvl bm29 C Q A) {x1 : Int32} {x2 : Int32} {σ : bSt} 
  (h : ((x1 < 0 → Q (.inl none) σ) ∧ (¬ x1 < 0 → ((x1 < 12 → (vp_in x1 12 ∧ (C 141 [.ref 17, .int x1, .int x2] (bI σ 18 (x1).toNatClampNeg 0) (bRv (fun s3 => Q (.inl none) s3))))) ∧ (¬ x1 < 12 → Q (.inl none) σ))))) : A (0, [.ref 2, .int x1, .int x2], [], σ) := by
  refine bGo hA 0 0 (0, .iload_n 1, 1, 1, 0, [1], []) rfl rfl rfl ?_
  refine bGo hA 0 1 (1, .ifCond .lt (28), 3, 2, 17, [], []) rfl rfl rfl ?_
  refine ⟨fun c1 => ?_, fun c1 => ?_⟩
  · refine bGo hA 1 1 (29, .return_, 1, 0, 0, [0], []) rfl rfl rfl ?_
    exact (h.1 c1)
  · refine bGo hA 0 2 (4, .iload_n 1, 1, 3, 0, [1], []) rfl rfl rfl ?_
    refine bGo hA 0 3 (5, .aload_n 0, 1, 4, 0, [0], []) rfl rfl rfl ?_
    refine bGo hA 0 4 (6, .getfield 18, 3, 5, 0, [2, 2, 3, 18, 1, 0], []) rfl rfl rfl ?_
    refine ⟨rfl, ?_⟩
    refine bGo hA 0 5 (9, .arraylength, 1, 6, 0, [], []) rfl rfl rfl ?_
    refine ⟨by decide, ?_⟩
    refine bGo hA 0 6 (10, .if_icmp .ge (19), 3, 7, 17, [], []) rfl rfl rfl ?_
    refine ⟨fun c2 => ?_, fun c2 => ?_⟩
    · refine bGo hA 0 7 (13, .aload_n 0, 1, 8, 0, [0], []) rfl rfl rfl ?_
      refine bGo hA 0 8 (14, .getfield 18, 3, 9, 0, [2, 2, 3, 18, 1, 0], []) rfl rfl rfl ?_
      refine ⟨rfl, ?_⟩
      refine bGo hA 0 9 (17, .iload_n 1, 1, 10, 0, [1], []) rfl rfl rfl ?_
      refine bGo hA 0 10 (18, .iconst (0), 1, 11, 0, [], [(0, 0)]) rfl rfl rfl ?_
      refine bGo hA 0 11 (19, .bastore, 1, 12, 0, [], []) rfl rfl rfl ?_
      refine ⟨rfl, ((h.2 c1).1 c2).1, by decide, Or.inl rfl, ?_⟩
      refine bGo hA 0 12 (20, .aload_n 0, 1, 13, 0, [0], []) rfl rfl rfl ?_
      refine bGo hA 0 13 (21, .getfield 15, 3, 14, 0, [2, 1, 3, 17, 1, 0], []) rfl rfl rfl ?_
      refine ⟨rfl, ?_⟩
      refine bGo hA 0 14 (24, .iload_n 1, 1, 15, 0, [1], []) rfl rfl rfl ?_
      refine bGo hA 0 15 (25, .iload_n 2, 1, 16, 0, [2], []) rfl rfl rfl ?_
      refine bGo hA 1 0 (26, .invokestatic 32, 3, 17, 1, [2, 141, 3], []) rfl rfl rfl ?_
      refine hC _ _ _ _ _ (bRv_e (fun s3 k4 => ?_)) ((h.2 c1).1 c2).2
      show A (17, [.ref 2, .int x1, .int x2], [], s3)
      refine bGo hA 1 1 (29, .return_, 1, 0, 0, [0], []) rfl rfl rfl ?_
      exact k4
    · refine bGo hA 1 1 (29, .return_, 1, 0, 0, [0], []) rfl rfl rfl ?_
      exact ((h.2 c1).2 c2)

theorem sg30_0 {lvl : Nat} {C : bCall} {Q : bPost} {A : bPt → Prop} (hC : bMono C) (hA : bClosed lvl bm30 C Q A)  {σ : bSt} 
  (h : (σ.2.2.2.1 19 = 0 ∧ ((bR (bNew σ 19 2 48) 3 0 (some 19)).2.2.2.1 20 = 0 ∧ ((bR (bNew (bR (bNew σ 19 2 48) 3 0 (some 19)) 20 2 6) 3 1 (some 20)).2.2.2.1 21 = 0 ∧ (((bI (bR (bNew (bR (bNew (bR (bNew σ 19 2 48) 3 0 (some 19)) 20 2 6) 3 1 (some 20)) 21 2 6) 3 2 (some 21)) 3 3 1).2.2.1 3 0).isSome = true ∧ (C 361 [.ref 19, .int (-1)] (bI (bR (bNew (bR (bNew (bR (bNew σ 19 2 48) 3 0 (some 19)) 20 2 6) 3 1 (some 20)) 21 2 6) 3 2 (some 21)) 3 3 1) (bRv (fun s1 => (bAll s1 3 [0, 1, 2] ∧ Q (.inl none) (bA s1 3 2)))))))))) : A (0, [.retAddr 3], [], σ) := by
  refine bGo hA 0 0 (0, .aload_n 0, 1, 1, 0, [0], []) rfl rfl rfl ?_
  refine bGo hA 0 1 (1, .invokespecial 3, 3, 2, 0, [6, 0, 0], []) rfl rfl rfl ?_
  refine bGo hA 0 2 (4, .aload_n 0, 1, 3, 0, [0], []) rfl rfl rfl ?_
  refine bGo hA 0 3 (5, .bipush (48), 2, 4, 0, [], [(48, 0)]) rfl rfl rfl ?_
  refine bGo hA 0 4 (7, .newarray .int, 2, 5, 0, [19], []) rfl rfl rfl ?_
  refine ⟨h.1, rfl, by decide, ?_⟩
  refine bGo hA 0 5 (9, .putfield 9, 3, 6, 0, [3, 0, 3, 19, 1, 0], []) rfl rfl rfl ?_
  refine ⟨rfl, rfl, ?_⟩
  refine bGo hA 0 6 (12, .aload_n 0, 1, 7, 0, [0], []) rfl rfl rfl ?_
  refine bGo hA 0 7 (13, .bipush (6), 2, 8, 0, [], [(6, 0)]) rfl rfl rfl ?_
  refine bGo hA 0 8 (15, .newarray .boolean, 2, 9, 0, [20], []) rfl rfl rfl ?_
  refine ⟨h.2.1, rfl, by decide, ?_⟩
  refine bGo hA 0 9 (17, .putfield 15, 3, 10, 0, [3, 1, 3, 20, 1, 0], []) rfl rfl rfl ?_
  refine ⟨rfl, rfl, ?_⟩
  refine bGo hA 0 10 (20, .aload_n 0, 1, 11, 0, [0], []) rfl rfl rfl ?_
  refine bGo hA 0 11 (21, .bipush (6), 2, 12, 0, [], [(6, 0)]) rfl rfl rfl ?_
  refine bGo hA 0 12 (23, .newarray .int, 2, 13, 0, [21], []) rfl rfl rfl ?_
  refine ⟨h.2.2.1, rfl, by decide, ?_⟩
  refine bGo hA 0 13 (25, .putfield 19, 3, 14, 0, [3, 2, 3, 21, 1, 0], []) rfl rfl rfl ?_
  refine ⟨rfl, rfl, ?_⟩
  refine bGo hA 0 14 (28, .aload_n 0, 1, 15, 0, [0], []) rfl rfl rfl ?_
  refine bGo hA 0 15 (29, .iconst (1), 1, 16, 0, [], [(1, 0)]) rfl rfl rfl ?_
  refine bGo hA 1 0 (30, .putfield 22, 3, 17, 0, [3, 3, 1, 0, 0, 0], []) rfl rfl rfl ?_
  refine ⟨rfl, Or.inr rfl, ?_⟩
  refine bGo hA 1 1 (33, .aload_n 0, 1, 18, 0, [0], []) rfl rfl rfl ?_
  refine bGo hA 1 2 (34, .getfield 9, 3, 19, 0, [3, 0, 3, 19, 1, 0], []) rfl rfl rfl ?_
  refine ⟨rfl, h.2.2.2.1, ?_⟩
  refine bGo hA 1 3 (37, .iconst (-1), 1, 20, 0, [], [(-1, 0)]) rfl rfl rfl ?_
  refine bGo hA 1 4 (38, .invokestatic 26, 3, 21, 0, [2, 361, 2], []) rfl rfl rfl ?_
  refine hC _ _ _ _ _ (bRv_e (fun s1 k2 => ?_)) h.2.2.2.2
  show A (21, [.retAddr 3], [], s1)
  refine bGo hA 1 5 (41, .return_, 1, 0, 0, [5, 0, 1, 2], []) rfl rfl rfl ?_
  exact k2

theorem sg31_0 {lvl : Nat} {C : bCall} {Q : bPost} {A : bPt → Prop} (hC : bMono C) (hA : bClosed lvl bm31 C Q A) {x1 : Int32} {σ : bSt} 
  (h : ((x1 < 0 → Q (.inl (some (.int (-1)))) σ) ∧ (¬ x1 < 0 → ((x1 < 48 → (vp_in x1 48 ∧ Q (.inl (some (.int (σ.1 19 (x1).toNatClampNeg)))) σ)) ∧ (¬ x1 < 48 → Q (.inl (some (.int (-1)))) σ))))) : A (0, [.ref 3, .int x1], [], σ) := by
  refine bGo hA 0 0 (0, .iload_n 1, 1, 1, 0, [1], []) rfl rfl rfl ?_
  refine bGo hA 0 1 (1, .ifCond .lt (21), 3, 2, 12, [], []) rfl rfl rfl ?_
  refine ⟨fun c1 => ?_, fun c1 => ?_⟩
  · refine bGo hA 0 12 (22, .iconst (-1), 1, 13, 0, [], [(-1, 0)]) rfl rfl rfl ?_
    refine bGo hA 0 13 (23, .ireturn, 1, 0, 0, [1], []) rfl rfl rfl ?_
    exact (h.1 c1)
  · refine bGo hA 0 2 (4, .iload_n 1, 1, 3, 0, [1], []) rfl rfl rfl ?_
    refine bGo hA 0 3 (5, .aload_n 0, 1, 4, 0, [0], []) rfl rfl rfl ?_
    refine bGo hA 0 4 (6, .getfield 9, 3, 5, 0, [3, 0, 3, 19, 1, 0], []) rfl rfl rfl ?_
    refine ⟨rfl, ?_⟩
    refine bGo hA 0 5 (9, .arraylength, 1, 6, 0, [], []) rfl rfl rfl ?_
    refine ⟨by decide, ?_⟩
    refine bGo hA 0 6 (10, .if_icmp .ge (12), 3, 7, 12, [], []) rfl rfl rfl ?_
    refine ⟨fun c2 => ?_, fun c2 => ?_⟩
    · refine bGo hA 0 7 (13, .aload_n 0, 1, 8, 0, [0], []) rfl rfl rfl ?_
      refine bGo hA 0 8 (14, .getfield 9, 3, 9, 0, [3, 0, 3, 19, 1, 0], []) rfl rfl rfl ?_
      refine ⟨rfl, ?_⟩
      refine bGo hA 0 9 (17, .iload_n 1, 1, 10, 0, [1], []) rfl rfl rfl ?_
      refine bGo hA 0 10 (18, .iaload, 1, 11, 0, [], []) rfl rfl rfl ?_
      refine ⟨rfl, ((h.2 c1).1 c2).1, ?_⟩
      refine bGo hA 0 11 (19, .goto (4), 3, 12, 13, [], []) rfl rfl rfl ?_
      refine bGo hA 0 13 (23, .ireturn, 1, 0, 0, [1], []) rfl rfl rfl ?_
      exact ((h.2 c1).1 c2).2
    · refine bGo hA 0 12 (22, .iconst (-1), 1, 13, 0, [], [(-1, 0)]) rfl rfl rfl ?_
      refine bGo hA 0 13 (23, .ireturn, 1, 0, 0, [1], []) rfl rfl rfl ?_
      exact ((h.2 c1).2 c2)

theorem sg32_0 {lvl : Nat} {C : bCall} {Q : bPost} {A : bPt → Prop} (hC : bMono C) (hA : bClosed lvl bm32 C Q A) {x1 : Int32} {x2 : Int32} {σ : bSt} 
  (h : (C 31 [.ref 3, .int x1] σ (bRi (fun r3 s1 => (C 141 [.ref 19, .int x1, .int x2] s1 (bRv (fun s4 => Q (.inl (some (.int r3))) s4))))))) : A (0, [.ref 3, .int x1, .int x2, .float 0], [], σ) := by
  refine bGo hA 0 0 (0, .aload_n 0, 1, 1, 0, [0], []) rfl rfl rfl ?_
  refine bGo hA 0 1 (1, .iload_n 1, 1, 2, 0, [1], []) rfl rfl rfl ?_
  refine bGo hA 0 2 (2, .invokevirtual 32, 3, 3, 0, [0, 3, 31, 1], []) rfl rfl rfl ?_
  refine ⟨rfl, ?_⟩
  refine hC _ _ _ _ _ (bRi_e (fun r3 s1 k2 => ?_)) h
  show A (3, [.ref 3, .int x1, .int x2, .float 0], [.int r3], s1)
  refine bGo hA 0 3 (5, .istore_n 3, 1, 4, 0, [3], []) rfl rfl rfl ?_
  refine bGo hA 0 4 (6, .aload_n 0, 1, 5, 0, [0], []) rfl rfl rfl ?_
  refine bGo hA 0 5 (7, .getfield 9, 3, 6, 0, [3, 0, 3, 19, 1, 0], []) rfl rfl rfl ?_
  refine ⟨rfl, ?_⟩
  refine bGo hA 0 6 (10, .iload_n 1, 1, 7, 0, [1], []) rfl rfl rfl ?_
  refine bGo hA 0 7 (11, .iload_n 2, 1, 8, 0, [2], []) rfl rfl rfl ?_
  refine bGo hA 0 8 (12, .invokestatic 36, 3, 9, 1, [2, 141, 3], []) rfl rfl rfl ?_
  refine hC _ _ _ _ _ (bRv_e (fun s4 k5 => ?_)) k2
  show A (9, [.ref 3, .int x1, .int x2, .int r3], [], s4)
  refine bGo hA 0 9 (15, .iload_n 3, 1, 10, 0, [3], []) rfl rfl rfl ?_
  refine bGo hA 0 10 (16, .ireturn, 1, 0, 0, [1], []) rfl rfl rfl ?_
  exact k5

theorem sg33_0 {lvl : Nat} {C : bCall} {Q : bPost} {A : bPt → Prop} (hC : bMono C) (hA : bClosed lvl bm33 C Q A) {x1 : Int32} {σ : bSt} 
  (h : ((x1 = 0 → Q (.inl (some (.int 1))) σ) ∧ (¬ x1 = 0 → ((0 < x1 → ((x1 < 6 → (vp_in x1 6 ∧ (((σ.1 20 (x1).toNatClampNeg) = 0 → Q (.inl (some (.int 0))) σ) ∧ (¬ (σ.1 20 (x1).toNatClampNeg) = 0 → Q (.inl (some (.int 1))) σ)))) ∧ (¬ x1 < 6 → Q (.inl (some (.int 0))) σ))) ∧ (¬ 0 < x1 → Q (.inl (some (.int 0))) σ))))) : A (0, [.ref 3, .int x1], [], σ) := by
  refine bGo hA 0 0 (0, .iload_n 1, 1, 1, 0, [1], []) rfl rfl rfl ?_
  refine bGo hA 0 1 (1, .ifCond .eq (25), 3, 2, 14, [], []) rfl rfl rfl ?_
  refine ⟨fun c1 => ?_, fun c1 => ?_⟩
  · refine bGo hA 0 14 (26, .iconst (1), 1, 15, 0, [], [(1, 0)]) rfl rfl rfl ?_
    refine bGo hA 0 15 (27, .goto (4), 3, 16, 17, [], []) rfl rfl rfl ?_
    refine bGo hA 1 1 (31, .ireturn, 1, 0, 0, [2], []) rfl rfl rfl ?_
    exact ⟨Or.inr rfl, (h.1 c1)⟩
  · refine bGo hA 0 2 (4, .iload_n 1, 1, 3, 0, [1], []) rfl rfl rfl ?_
    refine bGo hA 0 3 (5, .ifCond .le (25), 3, 4, 16, [], []) rfl rfl rfl ?_
    refine ⟨fun c2 => ?_, fun c2 => ?_⟩
    · refine bGo hA 0 4 (8, .iload_n 1, 1, 5, 0, [1], []) rfl rfl rfl ?_
      refine bGo hA 0 5 (9, .aload_n 0, 1, 6, 0, [0], []) rfl rfl rfl ?_
      refine bGo hA 0 6 (10, .getfield 15, 3, 7, 0, [3, 1, 3, 20, 1, 0], []) rfl rfl rfl ?_
      refine ⟨rfl, ?_⟩
      refine bGo hA 0 7 (13, .arraylength, 1, 8, 0, [], []) rfl rfl rfl ?_
      refine ⟨by decide, ?_⟩
      refine bGo hA 0 8 (14, .if_icmp .ge (16), 3, 9, 16, [], []) rfl rfl rfl ?_
      refine ⟨fun c3 => ?_, fun c3 => ?_⟩
      · refine bGo hA 0 9 (17, .aload_n 0, 1, 10, 0, [0], []) rfl rfl rfl ?_
        refine bGo hA 0 10 (18, .getfield 15, 3, 11, 0, [3, 1, 3, 20, 1, 0], []) rfl rfl rfl ?_
        refine ⟨rfl, ?_⟩
        refine bGo hA 0 11 (21, .iload_n 1, 1, 12, 0, [1], []) rfl rfl rfl ?_
        refine bGo hA 0 12 (22, .baload, 1, 13, 0, [], []) rfl rfl rfl ?_
        refine ⟨rfl, (((h.2 c1).1 c2).1 c3).1, ?_⟩
        refine bGo hA 0 13 (23, .ifCond .eq (7), 3, 14, 16, [], []) rfl rfl rfl ?_
        refine ⟨fun c4 => ?_, fun c4 => ?_⟩
        · refine bGo hA 1 0 (30, .iconst (0), 1, 17, 0, [], [(0, 0)]) rfl rfl rfl ?_
          refine bGo hA 1 1 (31, .ireturn, 1, 0, 0, [2], []) rfl rfl rfl ?_
          exact ⟨Or.inl rfl, ((((h.2 c1).1 c2).1 c3).2.1 c4)⟩
        · refine bGo hA 0 14 (26, .iconst (1), 1, 15, 0, [], [(1, 0)]) rfl rfl rfl ?_
          refine bGo hA 0 15 (27, .goto (4), 3, 16, 17, [], []) rfl rfl rfl ?_
          refine bGo hA 1 1 (31, .ireturn, 1, 0, 0, [2], []) rfl rfl rfl ?_
          exact ⟨Or.inr rfl, ((((h.2 c1).1 c2).1 c3).2.2 c4)⟩
      · refine bGo hA 1 0 (30, .iconst (0), 1, 17, 0, [], [(0, 0)]) rfl rfl rfl ?_
        refine bGo hA 1 1 (31, .ireturn, 1, 0, 0, [2], []) rfl rfl rfl ?_
        exact ⟨Or.inl rfl, (((h.2 c1).1 c2).2 c3)⟩
    · refine bGo hA 1 0 (30, .iconst (0), 1, 17, 0, [], [(0, 0)]) rfl rfl rfl ?_
      refine bGo hA 1 1 (31, .ireturn, 1, 0, 0, [2], []) rfl rfl rfl ?_
      exact ⟨Or.inl rfl, ((h.2 c1).2 c2)⟩

theorem sg34_0 {lvl : Nat} {C : bCall} {Q : bPost} {A : bPt → Prop} (hC : bMono C) (hA : bClosed lvl bm34 C Q A) {x1 : Int32} {x2 : Int32} {σ : bSt} 
  (h : (C 33 [.ref 3, .int x1] σ (bRi (fun r3 s1 => ((0 < x1 → ((x1 < 6 → (vp_in x1 6 ∧ ((x2 = 0 ∨ x2 = 1) ∧ A (18, [.ref 3, .int x1, .int x2, .int r3, .int 1], [], (bI s1 20 (x1).toNatClampNeg x2))))) ∧ (¬ x1 < 6 → A (18, [.ref 3, .int x1, .int x2, .int r3, .int 1], [], s1)))) ∧ (¬ 0 < x1 → A (18, [.ref 3, .int x1, .int x2, .int r3, .int 1], [], s1))))))) : A (0, [.ref 3, .int x1, .int x2, .float 0, .float 0], [], σ) := by
  refine bGo hA 0 0 (0, .aload_n 0, 1, 1, 0, [0], []) rfl rfl rfl ?_
  refine bGo hA 0 1 (1, .iload_n 1, 1, 2, 0, [1], []) rfl rfl rfl ?_
  refine bGo hA 0 2 (2, .invokevirtual 40, 3, 3, 0, [0, 3, 33, 1], []) rfl rfl rfl ?_
  refine ⟨rfl, ?_⟩
  refine hC _ _ _ _ _ (bRi_e (fun r3 s1 k2 => ?_)) h
  show A (3, [.ref 3, .int x1, .int x2, .float 0, .float 0], [.int r3], s1)
  refine bGo hA 0 3 (5, .istore_n 3, 1, 4, 0, [3], []) rfl rfl rfl ?_
  refine bGo hA 0 4 (6, .iload_n 1, 1, 5, 0, [1], []) rfl rfl rfl ?_
  refine bGo hA 0 5 (7, .ifCond .le (19), 3, 6, 16, [], []) rfl rfl rfl ?_
  refine ⟨fun c4 => ?_, fun c4 => ?_⟩
  · refine bGo hA 0 6 (10, .iload_n 1, 1, 7, 0, [1], []) rfl rfl rfl ?_
    refine bGo hA 0 7 (11, .aload_n 0, 1, 8, 0, [0], []) rfl rfl rfl ?_
    refine bGo hA 0 8 (12, .getfield 15, 3, 9, 0, [3, 1, 3, 20, 1, 0], []) rfl rfl rfl ?_
    refine ⟨rfl, ?_⟩
    refine bGo hA 0 9 (15, .arraylength, 1, 10, 0, [], []) rfl rfl rfl ?_
    refine ⟨by decide, ?_⟩
    refine bGo hA 0 10 (16, .if_icmp .ge (10), 3, 11, 16, [], []) rfl rfl rfl ?_
    refine ⟨fun c5 => ?_, fun c5 => ?_⟩
    · refine bGo hA 0 11 (19, .aload_n 0, 1, 12, 0, [0], []) rfl rfl rfl ?_
      refine bGo hA 0 12 (20, .getfield 15, 3, 13, 0, [3, 1, 3, 20, 1, 0], []) rfl rfl rfl ?_
      refine ⟨rfl, ?_⟩
      refine bGo hA 0 13 (23, .iload_n 1, 1, 14, 0, [1], []) rfl rfl rfl ?_
      refine bGo hA 0 14 (24, .iload_n 2, 1, 15, 0, [2], []) rfl rfl rfl ?_
      refine bGo hA 0 15 (25, .bastore, 1, 16, 0, [], []) rfl rfl rfl ?_
      refine ⟨rfl, ((k2.1 c4).1 c5).1, by decide, ((k2.1 c4).1 c5).2.1, ?_⟩
      refine bGo hA 1 0 (26, .iconst (1), 1, 17, 0, [], [(1, 0)]) rfl rfl rfl ?_
      refine bGo hA 1 1 (27, .istore 4, 2, 18, 0, [4], []) rfl rfl rfl ?_
      exact ((k2.1 c4).1 c5).2.2
    · refine bGo hA 1 0 (26, .iconst (1), 1, 17, 0, [], [(1, 0)]) rfl rfl rfl ?_
      refine bGo hA 1 1 (27, .istore 4, 2, 18, 0, [4], []) rfl rfl rfl ?_
      exact ((k2.1 c4).2 c5)
  · refine bGo hA 1 0 (26, .iconst (1), 1, 17, 0, [], [(1, 0)]) rfl rfl rfl ?_
    refine bGo hA 1 1 (27, .istore 4, 2, 18, 0, [4], []) rfl rfl rfl ?_
    exact (k2.2 c4)

theorem sg34_18 {lvl : Nat} {C : bCall} {Q : bPost} {A : bPt → Prop} (hC : bMono C) (hA : bClosed lvl bm34 C Q A) {v1 : Value} {v2 : Value} {l3 : Int32} {l4 : Int32} {σ : bSt} 
  (h : ((l4 < 6 → (C 33 [.ref 3, .int l4] σ (bRi (fun r4 s2 => ((r4 = 0 → (C 140 [.ref 201, .int l4] s2 (bRi (fun r8 s6 => (C 140 [.ref 21, .int r8] s6 (bRi (fun r11 s9 => (C 141 [.ref 21, .int l4, .int r11] s9 (bRv (fun s12 => A (18, [.ref 3, v1, v2, .int l3, .int (l4 + 1)], [], s12))))))))))) ∧ (¬ r4 = 0 → (C 141 [.ref 21, .int l4, .int l4] s2 (bRv (fun s14 => A (18, [.ref 3, v1, v2, .int l3, .int (l4 + 1)], [], s14)))))))))) ∧ (¬ l4 < 6 → ((l3 = 0 ∨ l3 = 1) ∧ Q (.inl (some (.int l3))) σ)))) : A (18, [.ref 3, v1, v2, .int l3, .int l4], [], σ) := by
  refine bGo hA 1 2 (29, .iload 4, 2, 19, 0, [4], []) rfl rfl rfl ?_
  refine bGo hA 1 3 (31, .bipush (6), 2, 20, 0, [], [(6, 0)]) rfl rfl rfl ?_
  refine bGo hA 1 4 (33, .if_icmp .ge (47), 3, 21, 39, [], []) rfl rfl rfl ?_
  refine ⟨fun c1 => ?_, fun c1 => ?_⟩
  · refine bGo hA 1 5 (36, .aload_n 0, 1, 22, 0, [0], []) rfl rfl rfl ?_
    refine bGo hA 1 6 (37, .getfield 19, 3, 23, 0, [3, 2, 3, 21, 1, 0], []) rfl rfl rfl ?_
    refine ⟨rfl, ?_⟩
    refine bGo hA 1 7 (40, .iload 4, 2, 24, 0, [4], []) rfl rfl rfl ?_
    refine bGo hA 1 8 (42, .aload_n 0, 1, 25, 0, [0], []) rfl rfl rfl ?_
    refine bGo hA 1 9 (43, .iload 4, 2, 26, 0, [4], []) rfl rfl rfl ?_
    refine bGo hA 1 10 (45, .invokevirtual 40, 3, 27, 0, [0, 3, 33, 1], []) rfl rfl rfl ?_
    refine ⟨rfl, ?_⟩
    refine hC _ _ _ _ _ (bRi_e (fun r4 s2 k3 => ?_)) (h.1 c1)
    show A (27, [.ref 3, v1, v2, .int l3, .int l4], [.int r4, .int l4, .ref 21], s2)
    refine bGo hA 1 11 (48, .ifCond .eq (8), 3, 28, 30, [], []) rfl rfl rfl ?_
    refine ⟨fun c5 => ?_, fun c5 => ?_⟩
    · refine bGo hA 1 14 (56, .aload_n 0, 1, 31, 0, [0], []) rfl rfl rfl ?_
      refine bGo hA 1 15 (57, .getfield 19, 3, 32, 0, [3, 2, 3, 21, 1, 0], []) rfl rfl rfl ?_
      refine ⟨rfl, ?_⟩
      refine bGo hA 2 0 (60, .getstatic 44, 3, 33, 0, [201], []) rfl rfl rfl ?_
      refine bGo hA 2 1 (63, .iload 4, 2, 34, 0, [4], []) rfl rfl rfl ?_
      refine bGo hA 2 2 (65, .invokestatic 47, 3, 35, 1, [2, 140, 2], []) rfl rfl rfl ?_
      refine hC _ _ _ _ _ (bRi_e (fun r8 s6 k7 => ?_)) (k3.1 c5)
      show A (35, [.ref 3, v1, v2, .int l3, .int l4], [.int r8, .ref 21, .int l4, .ref 21], s6)
      refine bGo hA 2 3 (68, .invokestatic 47, 3, 36, 1, [2, 140, 2], []) rfl rfl rfl ?_
      refine hC _ _ _ _ _ (bRi_e (fun r11 s9 k10 => ?_)) k7
      show A (36, [.ref 3, v1, v2, .int l3, .int l4], [.int r11, .int l4, .ref 21], s9)
      refine bGo hA 2 4 (71, .invokestatic 36, 3, 37, 1, [2, 141, 3], []) rfl rfl rfl ?_
      refine hC _ _ _ _ _ (bRv_e (fun s12 k13 => ?_)) k10
      show A (37, [.ref 3, v1, v2, .int l3, .int l4], [], s12)
      refine bGo hA 2 5 (74, .iinc 4 (1), 3, 38, 0, [4], [(1, 0)]) rfl rfl rfl ?_
      refine bGo hA 2 6 (77, .goto (-48), 3, 39, 18, [], []) rfl rfl rfl ?_
      exact k13
    · refine bGo hA 1 12 (51, .iload 4, 2, 29, 0, [4], []) rfl rfl rfl ?_
      refine bGo hA 1 13 (53, .goto (18), 3, 30, 36, [], []) rfl rfl rfl ?_
      refine bGo hA 2 4 (71, .invokestatic 36, 3, 37, 1, [2, 141, 3], []) rfl rfl rfl ?_
      refine hC _ _ _ _ _ (bRv_e (fun s14 k15 => ?_)) (k3.2 c5)
      show A (37, [.ref 3, v1, v2, .int l3, .int l4], [], s14)
      refine bGo hA 2 5 (74, .iinc 4 (1), 3, 38, 0, [4], [(1, 0)]) rfl rfl rfl ?_
      refine bGo hA 2 6 (77, .goto (-48), 3, 39, 18, [], []) rfl rfl rfl ?_
      exact k15
  · refine bGo hA 2 7 (80, .iload_n 3, 1, 40, 0, [3], []) rfl rfl rfl ?_
    refine bGo hA 2 8 (81, .ireturn, 1, 0, 0, [2], []) rfl rfl rfl ?_
    exact (h.2 c1)

theorem sg35_0 {lvl : Nat} {C : bCall} {Q : bPost} {A : bPt → Prop} (hC : bMono C) (hA : bClosed lvl bm35 C Q A) {x1 : Int32} {σ : bSt} 
  (h : (((x1 >>> (3 &&& 31)) < 0 → Q (.inl (some (.int (-1)))) σ) ∧ (¬ (x1 >>> (3 &&& 31)) < 0 → (((x1 >>> (3 &&& 31)) < 6 → (vp_in (x1 >>> (3 &&& 31)) 6 ∧ Q (.inl (some (.int (σ.1 21 ((x1 >>> (3 &&& 31))).toNatClampNeg)))) σ)) ∧ (¬ (x1 >>> (3 &&& 31)) < 6 → Q (.inl (some (.int (-1)))) σ))))) : A (0, [.ref 3, .int x1, .float 0], [], σ) := by
  refine bGo hA 0 0 (0, .iload_n 1, 1, 1, 0, [1], []) rfl rfl rfl ?_
  refine bGo hA 0 1 (1, .iconst (3), 1, 2, 0, [], [(3, 0)]) rfl rfl rfl ?_
  refine bGo hA 0 2 (2, .ishr, 1, 3, 0, [], []) rfl rfl rfl ?_
  refine bGo hA 0 3 (3, .istore_n 2, 1, 4, 0, [2], []) rfl rfl rfl ?_
  refine bGo hA 0 4 (4, .iload_n 2, 1, 5, 0, [2], []) rfl rfl rfl ?_
  refine bGo hA 0 5 (5, .ifCond .lt (21), 3, 6, 16, [], []) rfl rfl rfl ?_
  refine ⟨fun c1 => ?_, fun c1 => ?_⟩
  · refine bGo hA 1 0 (26, .iconst (-1), 1, 17, 0, [], [(-1, 0)]) rfl rfl rfl ?_
    refine bGo hA 1 1 (27, .ireturn, 1, 0, 0, [1], []) rfl rfl rfl ?_
    exact (h.1 c1)
  · refine bGo hA 0 6 (8, .iload_n 2, 1, 7, 0, [2], []) rfl rfl rfl ?_
    refine bGo hA 0 7 (9, .aload_n 0, 1, 8, 0, [0], []) rfl rfl rfl ?_
    refine bGo hA 0 8 (10, .getfield 19, 3, 9, 0, [3, 2, 3, 21, 1, 0], []) rfl rfl rfl ?_
    refine ⟨rfl, ?_⟩
    refine bGo hA 0 9 (13, .arraylength, 1, 10, 0, [], []) rfl rfl rfl ?_
    refine ⟨by decide, ?_⟩
    refine bGo hA 0 10 (14, .if_icmp .ge (12), 3, 11, 16, [], []) rfl rfl rfl ?_
    refine ⟨fun c2 => ?_, fun c2 => ?_⟩
    · refine bGo hA 0 11 (17, .aload_n 0, 1, 12, 0, [0], []) rfl rfl rfl ?_
      refine bGo hA 0 12 (18, .getfield 19, 3, 13, 0, [3, 2, 3, 21, 1, 0], []) rfl rfl rfl ?_
      refine ⟨rfl, ?_⟩
      refine bGo hA 0 13 (21, .iload_n 2, 1, 14, 0, [2], []) rfl rfl rfl ?_
      refine bGo hA 0 14 (22, .iaload, 1, 15, 0, [], []) rfl rfl rfl ?_
      refine ⟨rfl, ((h.2 c1).1 c2).1, ?_⟩
      refine bGo hA 0 15 (23, .goto (4), 3, 16, 17, [], []) rfl rfl rfl ?_
      refine bGo hA 1 1 (27, .ireturn, 1, 0, 0, [1], []) rfl rfl rfl ?_
      exact ((h.2 c1).1 c2).2
    · refine bGo hA 1 0 (26, .iconst (-1), 1, 17, 0, [], [(-1, 0)]) rfl rfl rfl ?_
      refine bGo hA 1 1 (27, .ireturn, 1, 0, 0, [1], []) rfl rfl rfl ?_
      exact ((h.2 c1).2 c2)

theorem sg36_0 {lvl : Nat} {C : bCall} {Q : bPost} {A : bPt → Prop} (hC : bMono C) (hA : bClosed lvl bm36 C Q A) {x1 : Int32} {x2 : Int32} {x3 : Int32} {σ : bSt} 
  (h : A (4, [.ref 3, .int x1, .int x2, .int x3, .long (Int64.ofNat 0), .float 0, .int 0, .float 0], [], σ)) : A (0, [.ref 3, .int x1, .int x2, .int x3, .float 0, .float 0, .float 0, .float 0], [], σ) := by
  refine bGo hA 0 0 (0, .lconst 0, 1, 1, 0, [0], []) rfl rfl rfl ?_
  refine bGo hA 0 1 (1, .lstore 4, 2, 2, 0, [4], []) rfl rfl rfl ?_
  refine bGo hA 0 2 (3, .iconst (0), 1, 3, 0, [], [(0, 0)]) rfl rfl rfl ?_
  refine bGo hA 0 3 (4, .istore 6, 2, 4, 0, [6], []) rfl rfl rfl ?_
  exact h

theorem sg36_4 {lvl : Nat} {C : bCall} {Q : bPost} {A : bPt → Prop} (hC : bMono C) (hA : bClosed lvl bm36 C Q A) {l1 : Int32} {l2 : Int32} {l3 : Int32} {l4 : Int64} {l6 : Int32} {v7 : Value} {σ : bSt} 
  (h : ((l6 < 48 → ((l3 = 0 → A (16, [.ref 3, .int l1, .int l2, .int l3, .long l4, .float 0, .int l6, v7], [.int (l6 >>> (3 &&& 31))], σ)) ∧ (¬ l3 = 0 → (C 35 [.ref 3, .int l6] σ (bRi (fun r5 s3 => A (16, [.ref 3, .int l1, .int l2, .int l3, .long l4, .float 0, .int l6, v7], [.int r5], s3))))))) ∧ (¬ l6 < 48 → Q (.inl (some (.long l4))) σ))) : A (4, [.ref 3, .int l1, .int l2, .int l3, .long l4, .float 0, .int l6, v7], [], σ) := by
  refine bGo hA 0 4 (6, .iload 6, 2, 5, 0, [6], []) rfl rfl rfl ?_
  refine bGo hA 0 5 (8, .bipush (48), 2, 6, 0, [], [(48, 0)]) rfl rfl rfl ?_
  refine bGo hA 0 6 (10, .if_icmp .ge (74), 3, 7, 46, [], []) rfl rfl rfl ?_
  refine ⟨fun c1 => ?_, fun c1 => ?_⟩
  · refine bGo hA 0 7 (13, .iload_n 3, 1, 8, 0, [3], []) rfl rfl rfl ?_
    refine bGo hA 0 8 (14, .ifCond .eq (12), 3, 9, 13, [], []) rfl rfl rfl ?_
    refine ⟨fun c2 => ?_, fun c2 => ?_⟩
    · refine bGo hA 0 13 (26, .iload 6, 2, 14, 0, [6], []) rfl rfl rfl ?_
      refine bGo hA 0 14 (28, .iconst (3), 1, 15, 0, [], [(3, 0)]) rfl rfl rfl ?_
      refine bGo hA 0 15 (29, .ishr, 1, 16, 0, [], []) rfl rfl rfl ?_
      exact ((h.1 c1).1 c2)
    · refine bGo hA 0 9 (17, .aload_n 0, 1, 10, 0, [0], []) rfl rfl rfl ?_
      refine bGo hA 0 10 (18, .iload 6, 2, 11, 0, [6], []) rfl rfl rfl ?_
      refine bGo hA 0 11 (20, .invokevirtual 51, 3, 12, 0, [0, 3, 35, 1], []) rfl rfl rfl ?_
      refine ⟨rfl, ?_⟩
      refine hC _ _ _ _ _ (bRi_e (fun r5 s3 k4 => ?_)) ((h.1 c1).2 c2)
      show A (12, [.ref 3, .int l1, .int l2, .int l3, .long l4, .float 0, .int l6, v7], [.int r5], s3)
      refine bGo hA 0 12 (23, .goto (7), 3, 13, 16, [], []) rfl rfl rfl ?_
      exact k4
  · refine bGo hA 2 14 (84, .lload 4, 2, 47, 0, [4], []) rfl rfl rfl ?_
    refine bGo hA 2 15 (86, .lreturn, 1, 0, 0, [3], []) rfl rfl rfl ?_
    exact (h.2 c1)

theorem sg36_16 {lvl : Nat} {C : bCall} {Q : bPost} {A : bPt → Prop} (hC : bMono C) (hA : bClosed lvl bm36 C Q A) {l1 : Int32} {l2 : Int32} {l3 : Int32} {l4 : Int64} {l6 : Int32} {v7 : Value} {t0 : Int32} {σ : bSt} 
  (h : ((t0 = l1 → ((((l2 >>> ((l6 &&& 7) &&& 31)) &&& 1) = 1 → (C 31 [.ref 3, .int l6] σ (bRi (fun r6 s4 => ((r6 = (-1) → A (4, [.ref 3, .int l1, .int l2, .int l3, .long l4, .float 0, .int (l6 + 1), .int 1], [], s4)) ∧ (¬ r6 = (-1) → A (4, [.ref 3, .int l1, .int l2, .int l3, .long (l4 ||| ((Int64.ofNat 1) <<< (Int32.toInt64 l6 &&& 63))), .float 0, .int (l6 + 1), .int 1], [], s4))))))) ∧ (¬ ((l2 >>> ((l6 &&& 7) &&& 31)) &&& 1) = 1 → A (4, [.ref 3, .int l1, .int l2, .int l3, .long l4, .float 0, .int (l6 + 1), .int 1], [], σ)))) ∧ (¬ t0 = l1 → A (4, [.ref 3, .int l1, .int l2, .int l3, .long l4, .float 0, .int (l6 + 1), .int 0], [], σ)))) : A (16, [.ref 3, .int l1, .int l2, .int l3, .long l4, .float 0, .int l6, v7], [.int t0], σ) := by
  refine bGo hA 1 0 (30, .iload_n 1, 1, 17, 0, [1], []) rfl rfl rfl ?_
  refine bGo hA 1 1 (31, .if_icmp .ne (7), 3, 18, 20, [], []) rfl rfl rfl ?_
  refine ⟨fun c1 => ?_, fun c1 => ?_⟩
  · refine bGo hA 1 2 (34, .iconst (1), 1, 19, 0, [], [(1, 0)]) rfl rfl rfl ?_
    refine bGo hA 1 3 (35, .goto (4), 3, 20, 21, [], []) rfl rfl rfl ?_
    refine bGo hA 1 5 (39, .istore 7, 2, 22, 0, [7], []) rfl rfl rfl ?_
    refine bGo hA 1 6 (41, .iload 7, 2, 23, 0, [7], []) rfl rfl rfl ?_
    refine bGo hA 1 7 (43, .ifCond .eq (35), 3, 24, 44, [], []) rfl rfl rfl ?_
    refine ⟨fun c => absurd c (by decide), fun _ => ?_⟩
    refine bGo hA 1 8 (46, .iload_n 2, 1, 25, 0, [2], []) rfl rfl rfl ?_
    refine bGo hA 1 9 (47, .iload 6, 2, 26, 0, [6], []) rfl rfl rfl ?_
    refine bGo hA 1 10 (49, .bipush (7), 2, 27, 0, [], [(7, 0)]) rfl rfl rfl ?_
    refine bGo hA 1 11 (51, .iand, 1, 28, 0, [], []) rfl rfl rfl ?_
    refine bGo hA 1 12 (52, .ishr, 1, 29, 0, [], []) rfl rfl rfl ?_
    refine bGo hA 1 13 (53, .iconst (1), 1, 30, 0, [], [(1, 0)]) rfl rfl rfl ?_
    refine bGo hA 1 14 (54, .iand, 1, 31, 0, [], []) rfl rfl rfl ?_
    refine bGo hA 1 15 (55, .iconst (1), 1, 32, 0, [], [(1, 0)]) rfl rfl rfl ?_
    refine bGo hA 2 0 (56, .if_icmp .ne (22), 3, 33, 44, [], []) rfl rfl rfl ?_
    refine ⟨fun c3 => ?_, fun c3 => ?_⟩
    · refine bGo hA 2 1 (59, .aload_n 0, 1, 34, 0, [0], []) rfl rfl rfl ?_
      refine bGo hA 2 2 (60, .iload 6, 2, 35, 0, [6], []) rfl rfl rfl ?_
      refine bGo hA 2 3 (62, .invokevirtual 32, 3, 36, 0, [0, 3, 31, 1], []) rfl rfl rfl ?_
      refine ⟨rfl, ?_⟩
      refine hC _ _ _ _ _ (bRi_e (fun r6 s4 k5 => ?_)) ((h.1 c1).1 c3)
      show A (36, [.ref 3, .int l1, .int l2, .int l3, .long l4, .float 0, .int l6, .int 1], [.int r6], s4)
      refine bGo hA 2 4 (65, .iconst (-1), 1, 37, 0, [], [(-1, 0)]) rfl rfl rfl ?_
      refine bGo hA 2 5 (66, .if_icmp .eq (12), 3, 38, 44, [], []) rfl rfl rfl ?_
      refine ⟨fun c7 => ?_, fun c7 => ?_⟩
      · refine bGo hA 2 12 (78, .iinc 6 (1), 3, 45, 0, [6], [(1, 0)]) rfl rfl rfl ?_
        refine bGo hA 2 13 (81, .goto (-75), 3, 46, 4, [], []) rfl rfl rfl ?_
        exact (k5.1 c7)
      · refine bGo hA 2 6 (69, .lload 4, 2, 39, 0, [4], []) rfl rfl rfl ?_
        refine bGo hA 2 7 (71, .lconst 1, 1, 40, 0, [1], []) rfl rfl rfl ?_
        refine bGo hA 2 8 (72, .iload 6, 2, 41, 0, [6], []) rfl rfl rfl ?_
        refine bGo hA 2 9 (74, .lshl, 1, 42, 0, [], []) rfl rfl rfl ?_
        refine bGo hA 2 10 (75, .lor, 1, 43, 0, [], []) rfl rfl rfl ?_
        refine bGo hA 2 11 (76, .lstore 4, 2, 44, 0, [4], []) rfl rfl rfl ?_
        refine bGo hA 2 12 (78, .iinc 6 (1), 3, 45, 0, [6], [(1, 0)]) rfl rfl rfl ?_
        refine bGo hA 2 13 (81, .goto (-75), 3, 46, 4, [], []) rfl rfl rfl ?_
        exact (k5.2 c7)
    · refine bGo hA 2 12 (78, .iinc 6 (1), 3, 45, 0, [6], [(1, 0)]) rfl rfl rfl ?_
      refine bGo hA 2 13 (81, .goto (-75), 3, 46, 4, [], []) rfl rfl rfl ?_
      exact ((h.1 c1).2 c3)
  · refine bGo hA 1 4 (38, .iconst (0), 1, 21, 0, [], [(0, 0)]) rfl rfl rfl ?_
    refine bGo hA 1 5 (39, .istore 7, 2, 22, 0, [7], []) rfl rfl rfl ?_
    refine bGo hA 1 6 (41, .iload 7, 2, 23, 0, [7], []) rfl rfl rfl ?_
    refine bGo hA 1 7 (43, .ifCond .eq (35), 3, 24, 44, [], []) rfl rfl rfl ?_
    refine ⟨fun _ => ?_, fun c => absurd (by decide) c⟩
    refine bGo hA 2 12 (78, .iinc 6 (1), 3, 45, 0, [6], [(1, 0)]) rfl rfl rfl ?_
    refine bGo hA 2 13 (81, .goto (-75), 3, 46, 4, [], []) rfl rfl rfl ?_
    exact (h.2 c1)

theorem sg37_0 {lvl : Nat} {C : bCall} {Q : bPost} {A : bPt → Prop} (hC : bMono C) (hA : bClosed lvl bm37 C Q A) {a0 : Nat} {σ : bSt} (h_a0 : a0 % 256 = 4)
  (h : ((bI σ a0 0 (-1)).2.2.2.1 (256 * (1 * (a0 / 256) + 0) + 22) = 0 ∧ (40 = Int32.ofNat (bLen (bI σ a0 0 (-1)) (256 * (1 * (a0 / 256) + 0) + 22)) ∧ ((256 * (1 * (a0 / 256) + 0) + 22) % 256 < 200 ∧ ((bR (bNew (bI σ a0 0 (-1)) (256 * (1 * (a0 / 256) + 0) + 22) 2 (bLen (bI σ a0 0 (-1)) (256 * (1 * (a0 / 256) + 0) + 22))) a0 4 (some (256 * (1 * (a0 / 256) + 0) + 22))).2.2.2.1 (256 * (1 * (a0 / 256) + 0) + 23) = 0 ∧ (48 = Int32.ofNat (bLen (bR (bNew (bI σ a0 0 (-1)) (256 * (1 * (a0 / 256) + 0) + 22) 2 (bLen (bI σ a0 0 (-1)) (256 * (1 * (a0 / 256) + 0) + 22))) a0 4 (some (256 * (1 * (a0 / 256) + 0) + 22))) (256 * (1 * (a0 / 256) + 0) + 23)) ∧ ((256 * (1 * (a0 / 256) + 0) + 23) % 256 < 200 ∧ (∀ s1 : bSt, s1 = (bNew (bR (bNew (bI σ a0 0 (-1)) (256 * (1 * (a0 / 256) + 0) + 22) 2 (bLen (bI σ a0 0 (-1)) (256 * (1 * (a0 / 256) + 0) + 22))) a0 4 (some (256 * (1 * (a0 / 256) + 0) + 22))) (256 * (1 * (a0 / 256) + 0) + 23) 2 (bLen (bR (bNew (bI σ a0 0 (-1)) (256 * (1 * (a0 / 256) + 0) + 22) 2 (bLen (bI σ a0 0 (-1)) (256 * (1 * (a0 / 256) + 0) + 22))) a0 4 (some (256 * (1 * (a0 / 256) + 0) + 22))) (256 * (1 * (a0 / 256) + 0) + 23))) → (bAll (bI (bR s1 a0 6 (some (256 * (1 * (a0 / 256) + 0) + 23))) a0 8 (-1)) a0 [4, 6] ∧ Q (.inl none) (bA (bI (bR s1 a0 6 (some (256 * (1 * (a0 / 256) + 0) + 23))) a0 8 (-1)) a0 2)))))))))) : A (0, [.retAddr a0], [], σ) := by
  refine bGo hA 0 0 (0, .aload_n 0, 1, 1, 0, [0], []) rfl rfl rfl ?_
  refine bGo hA 0 1 (1, .invokespecial 3, 3, 2, 0, [6, 0, 0], []) rfl rfl rfl ?_
  refine bGo hA 0 2 (4, .aload_n 0, 1, 3, 0, [0], []) rfl rfl rfl ?_
  refine bGo hA 0 3 (5, .iconst (-1), 1, 4, 0, [], [(-1, 0)]) rfl rfl rfl ?_
  refine bGo hA 0 4 (6, .putfield 9, 3, 5, 0, [4, 0, 0, 0, 0, 0], []) rfl rfl rfl ?_
  refine ⟨h_a0, ?_⟩
  refine bGo hA 0 5 (9, .aload_n 0, 1, 6, 0, [0], []) rfl rfl rfl ?_
  refine bGo hA 0 6 (10, .bipush (40), 2, 7, 0, [], [(40, 0)]) rfl rfl rfl ?_
  refine bGo hA 0 7 (12, .newarray .int, 2, 8, 0, [22], []) rfl rfl rfl ?_
  refine ⟨h.1, h.2.1, h.2.2.1, ?_⟩
  refine bGo hA 0 8 (14, .putfield 15, 3, 9, 0, [4, 4, 3, 22, 1, 0], []) rfl rfl rfl ?_
  refine ⟨h_a0, rfl, ?_⟩
  refine bGo hA 0 9 (17, .aload_n 0, 1, 10, 0, [0], []) rfl rfl rfl ?_
  refine bGo hA 0 10 (18, .bipush (48), 2, 11, 0, [], [(48, 0)]) rfl rfl rfl ?_
  refine bGo hA 0 11 (20, .newarray .int, 2, 12, 0, [23], []) rfl rfl rfl ?_
  refine ⟨h.2.2.2.1, h.2.2.2.2.1, h.2.2.2.2.2.1, ?_⟩
  refine bGo hA 0 12 (22, .putfield 19, 3, 13, 0, [4, 6, 3, 23, 1, 0], []) rfl rfl rfl ?_
  refine ⟨h_a0, rfl, ?_⟩
  refine bGo hA 0 13 (25, .aload_n 0, 1, 14, 0, [0], []) rfl rfl rfl ?_
  refine bGo hA 0 14 (26, .iconst (-1), 1, 15, 0, [], [(-1, 0)]) rfl rfl rfl ?_
  refine bGo hA 0 15 (27, .putfield 22, 3, 16, 0, [4, 8, 0, 0, 0, 0], []) rfl rfl rfl ?_
  refine ⟨h_a0, ?_⟩
  refine bGo hA 1 0 (30, .return_, 1, 0, 0, [5, 4, 6], []) rfl rfl rfl ?_
  exact (h.2.2.2.2.2.2 _ rfl)

theorem sg38_0 {lvl : Nat} {C : bCall} {Q : bPost} {A : bPt → Prop} (hC : bMono C) (hA : bClosed lvl bm38 C Q A) {a0 : Nat} {x1 : Int32} {x2 : Int32} {x3 : Int32} {σ : bSt} (h_a0 : a0 % 256 = 4)
  (h : Q (.inl none) (bI (bI (bI σ a0 0 x1) a0 1 x2) a0 2 x3)) : A (0, [.ref a0, .int x1, .int x2, .int x3], [], σ) := by
  refine bGo hA 0 0 (0, .aload_n 0, 1, 1, 0, [0], []) rfl rfl rfl ?_
  refine bGo hA 0 1 (1, .iload_n 1, 1, 2, 0, [1], []) rfl rfl rfl ?_
  refine bGo hA 0 2 (2, .putfield 9, 3, 3, 0, [4, 0, 0, 0, 0, 0], []) rfl rfl rfl ?_
  refine ⟨h_a0, ?_⟩
  refine bGo hA 0 3 (5, .aload_n 0, 1, 4, 0, [0], []) rfl rfl rfl ?_
  refine bGo hA 0 4 (6, .iload_n 2, 1, 5, 0, [2], []) rfl rfl rfl ?_
  refine bGo hA 0 5 (7, .putfield 25, 3, 6, 0, [4, 1, 0, 0, 0, 0], []) rfl rfl rfl ?_
  refine ⟨h_a0, ?_⟩
  refine bGo hA 0 6 (10, .aload_n 0, 1, 7, 0, [0], []) rfl rfl rfl ?_
  refine bGo hA 0 7 (11, .iload_n 3, 1, 8, 0, [3], []) rfl rfl rfl ?_
  refine bGo hA 0 8 (12, .putfield 28, 3, 9, 0, [4, 2, 0, 0, 0, 0], []) rfl rfl rfl ?_
  refine ⟨h_a0, ?_⟩
  refine bGo hA 0 9 (15, .return_, 1, 0, 0, [0], []) rfl rfl rfl ?_
  exact h

theorem sg39_0 {lvl : Nat} {C : bCall} {Q : bPost} {A : bPt → Prop} (hC : bMono C) (hA : bClosed lvl bm39 C Q A) {a0 : Nat} {x1 : Int32} {σ : bSt} (h_a0 : a0 % 256 = 4)
  (h : ((x1 < (σ.1 a0 5) → (C 140 [.ref (256 * (1 * (a0 / 256) + 0) + 23), .int x1] σ (bRi (fun r4 s2 => Q (.inl (some (.int r4))) s2)))) ∧ (¬ x1 < (σ.1 a0 5) → Q (.inl (some (.int (-1)))) σ))) : A (0, [.ref a0, .int x1], [], σ) := by
  refine bGo hA 0 0 (0, .iload_n 1, 1, 1, 0, [1], []) rfl rfl rfl ?_
  refine bGo hA 0 1 (1, .aload_n 0, 1, 2, 0, [0], []) rfl rfl rfl ?_
  refine bGo hA 0 2 (2, .getfield 31, 3, 3, 0, [4, 5, 0, 0, 0, 0], []) rfl rfl rfl ?_
  refine ⟨h_a0, ?_⟩
  refine bGo hA 0 3 (5, .if_icmp .ge (14), 3, 4, 9, [], []) rfl rfl rfl ?_
  refine ⟨fun c1 => ?_, fun c1 => ?_⟩
  · refine bGo hA 0 4 (8, .aload_n 0, 1, 5, 0, [0], []) rfl rfl rfl ?_
    refine bGo hA 0 5 (9, .getfield 19, 3, 6, 0, [4, 6, 3, 23, 1, 0], []) rfl rfl rfl ?_
    refine ⟨h_a0, ?_⟩
    refine bGo hA 0 6 (12, .iload_n 1, 1, 7, 0, [1], []) rfl rfl rfl ?_
    refine bGo hA 0 7 (13, .invokestatic 34, 3, 8, 1, [2, 140, 2], []) rfl rfl rfl ?_
    refine hC _ _ _ _ _ (bRi_e (fun r4 s2 k3 => ?_)) (h.1 c1)
    show A (8, [.ref a0, .int x1], [.int r4], s2)
    refine bGo hA 0 8 (16, .goto (4), 3, 9, 10, [], []) rfl rfl rfl ?_
    refine bGo hA 0 10 (20, .ireturn, 1, 0, 0, [1], []) rfl rfl rfl ?_
    exact k3
  · refine bGo hA 0 9 (19, .iconst (-1), 1, 10, 0, [], [(-1, 0)]) rfl rfl rfl ?_
    refine bGo hA 0 10 (20, .ireturn, 1, 0, 0, [1], []) rfl rfl rfl ?_
    exact (h.2 c1)

theorem sg40_0 {lvl : Nat} {C : bCall} {Q : bPost} {A : bPt → Prop} (hC : bMono C) (hA : bClosed lvl bm40 C Q A) {a0 : Nat} {x2 : Int32} {σ : bSt} (h_a0 : a0 % 256 = 4)
  (h : A (16, [.ref a0, .ref 3, .int x2, .int (((bI (bI σ a0 5 0) a0 7 0).1 a0 1) + ((bI (bI σ a0 5 0) a0 7 0).1 a0 2)), .int 0, .int 0, .float 0], [], (bI (bI σ a0 5 0) a0 7 0))) : A (0, [.ref a0, .ref 3, .int x2, .float 0, .float 0, .float 0, .float 0], [], σ) := by
  refine bGo hA 0 0 (0, .aload_n 0, 1, 1, 0, [0], []) rfl rfl rfl ?_
  refine bGo hA 0 1 (1, .iconst (0), 1, 2, 0, [], [(0, 0)]) rfl rfl rfl ?_
  refine bGo hA 0 2 (2, .putfield 31, 3, 3, 0, [4, 5, 0, 0, 0, 0], []) rfl rfl rfl ?_
  refine ⟨h_a0, ?_⟩
  refine bGo hA 0 3 (5, .aload_n 0, 1, 4, 0, [0], []) rfl rfl rfl ?_
  refine bGo hA 0 4 (6, .iconst (0), 1, 5, 0, [], [(0, 0)]) rfl rfl rfl ?_
  refine bGo hA 0 5 (7, .putfield 38, 3, 6, 0, [4, 7, 1, 0, 0, 0], []) rfl rfl rfl ?_
  refine ⟨h_a0, Or.inl rfl, ?_⟩
  refine bGo hA 0 6 (10, .aload_n 0, 1, 7, 0, [0], []) rfl rfl rfl ?_
  refine bGo hA 0 7 (11, .getfield 25, 3, 8, 0, [4, 1, 0, 0, 0, 0], []) rfl rfl rfl ?_
  refine ⟨h_a0, ?_⟩
  refine bGo hA 0 8 (14, .aload_n 0, 1, 9, 0, [0], []) rfl rfl rfl ?_
  refine bGo hA 0 9 (15, .getfield 28, 3, 10, 0, [4, 2, 0, 0, 0, 0], []) rfl rfl rfl ?_
  refine ⟨h_a0, ?_⟩
  refine bGo hA 0 10 (18, .iadd, 1, 11, 0, [], []) rfl rfl rfl ?_
  refine bGo hA 0 11 (19, .istore_n 3, 1, 12, 0, [3], []) rfl rfl rfl ?_
  refine bGo hA 0 12 (20, .iconst (0), 1, 13, 0, [], [(0, 0)]) rfl rfl rfl ?_
  refine bGo hA 0 13 (21, .istore 4, 2, 14, 0, [4], []) rfl rfl rfl ?_
  refine bGo hA 0 14 (23, .iconst (0), 1, 15, 0, [], [(0, 0)]) rfl rfl rfl ?_
  refine bGo hA 0 15 (24, .istore 5, 2, 16, 0, [5], []) rfl rfl rfl ?_
  exact h

theorem sg40_16 {lvl : Nat} {C : bCall} {Q : bPost} {A : bPt → Prop} (hC : bMono C) (hA : bClosed lvl bm40 C Q A) {l0 : Nat} {l2 : Int32} {l3 : Int32} {l4 : Int32} {l5 : Int32} {v6 : Value} {σ : bSt} 
  (h : (l0 % 256 = 4 ∧ ((l5 < (σ.1 l0 3) → (¬ bTy (256 * (1 * (l0 / 256) + 0) + 22) = 9 ∧ ((l5 < (Int32.ofNat (bLen σ (256 * (1 * (l0 / 256) + 0) + 22))) → (bTy (256 * (1 * (l0 / 256) + 0) + 22) = 0 ∧ (vp_in l5 (bLen σ (256 * (1 * (l0 / 256) + 0) + 22)) ∧ A (31, [.ref l0, .ref 3, .int l2, .int l3, .int l4, .int l5, v6], [.int (σ.1 (256 * (1 * (l0 / 256) + 0) + 22) (l5).toNatClampNeg)], σ)))) ∧ (¬ l5 < (Int32.ofNat (bLen σ (256 * (1 * (l0 / 256) + 0) + 22))) → A (31, [.ref l0, .ref 3, .int l2, .int l3, .int l4, .int l5, v6], [.int 0], σ))))) ∧ (¬ l5 < (σ.1 l0 3) → (((σ.1 l0 0) = 4 → (((l3 - l3 / 7 * 7) = 0 → Q (.inl none) (bI σ l0 8 (-1))) ∧ (¬ (l3 - l3 / 7 * 7) = 0 → Q (.inl none) (bI σ l0 8 (((σ.1 l0 1) + (σ.1 l0 2)) - ((σ.1 l0 1) + (σ.1 l0 2)) / 1000 * 1000))))) ∧ (¬ (σ.1 l0 0) = 4 → (((σ.1 l0 0) = 5 → (C 41 [.ref l0, .ref 3, .int l2] σ (bRi (fun r8 s6 => Q (.inl none) (bI s6 l0 8 ((l3 + r8) - (l3 + r8) / 1000 * 1000)))))) ∧ (¬ (σ.1 l0 0) = 5 → (((σ.1 l0 0) = 2 → Q (.inl none) (bI σ l0 8 ((l3 + l4) - (l3 + l4) / 1000 * 1000))) ∧ (¬ (σ.1 l0 0) = 2 → (((σ.1 l0 0) = 3 → Q (.inl none) (bI σ l0 8 ((l3 + (σ.1 l0 3)) - (l3 + (σ.1 l0 3)) / 1000 * 1000))) ∧ (¬ (σ.1 l0 0) = 3 → Q (.inl none) (bI σ l0 8 ((l3 + 0) - (l3 + 0) / 1000 * 1000)))))))))))))) : A (16, [.ref l0, .ref 3, .int l2, .int l3, .int l4, .int l5, v6], [], σ) := by
  refine bGo hA 1 0 (26, .iload 5, 2, 17, 0, [5], []) rfl rfl rfl ?_
  refine bGo hA 1 1 (28, .aload_n 0, 1, 18, 0, [0], []) rfl rfl rfl ?_
  refine bGo hA 1 2 (29, .getfield 42, 3, 19, 0, [4, 3, 0, 0, 0, 0], []) rfl rfl rfl ?_
  refine ⟨h.1, ?_⟩
  refine bGo hA 1 3 (32, .if_icmp .ge (101), 3, 20, 73, [], []) rfl rfl rfl ?_
  refine ⟨fun c1 => ?_, fun c1 => ?_⟩
  · refine bGo hA 1 4 (35, .iload 5, 2, 21, 0, [5], []) rfl rfl rfl ?_
    refine bGo hA 1 5 (37, .aload_n 0, 1, 22, 0, [0], []) rfl rfl rfl ?_
    refine bGo hA 1 6 (38, .getfield 15, 3, 23, 0, [4, 4, 3, 22, 1, 0], []) rfl rfl rfl ?_
    refine ⟨h.1, ?_⟩
    refine bGo hA 1 7 (41, .arraylength, 1, 24, 0, [], []) rfl rfl rfl ?_
    refine ⟨(h.2.1 c1).1, ?_⟩
    refine bGo hA 1 8 (42, .if_icmp .ge (13), 3, 25, 30, [], []) rfl rfl rfl ?_
    refine ⟨fun c2 => ?_, fun c2 => ?_⟩
    · refine bGo hA 1 9 (45, .aload_n 0, 1, 26, 0, [0], []) rfl rfl rfl ?_
      refine bGo hA 1 10 (46, .getfield 15, 3, 27, 0, [4, 4, 3, 22, 1, 0], []) rfl rfl rfl ?_
      refine ⟨h.1, ?_⟩
      refine bGo hA 1 11 (49, .iload 5, 2, 28, 0, [5], []) rfl rfl rfl ?_
      refine bGo hA 1 12 (51, .iaload, 1, 29, 0, [], []) rfl rfl rfl ?_
      refine ⟨((h.2.1 c1).2.1 c2).1, ((h.2.1 c1).2.1 c2).2.1, ?_⟩
      refine bGo hA 1 13 (52, .goto (4), 3, 30, 31, [], []) rfl rfl rfl ?_
      exact ((h.2.1 c1).2.1 c2).2.2
    · refine bGo hA 1 14 (55, .iconst (0), 1, 31, 0, [], [(0, 0)]) rfl rfl rfl ?_
      exact ((h.2.1 c1).2.2 c2)
  · refine bGo hA 4 9 (133, .aload_n 0, 1, 74, 0, [0], []) rfl rfl rfl ?_
    refine bGo hA 4 10 (134, .getfield 9, 3, 75, 0, [4, 0, 0, 0, 0, 0], []) rfl rfl rfl ?_
    refine ⟨h.1, ?_⟩
    refine bGo hA 4 11 (137, .iconst (4), 1, 76, 0, [], [(4, 0)]) rfl rfl rfl ?_
    refine bGo hA 4 12 (138, .if_icmp .ne (34), 3, 77, 93, [], []) rfl rfl rfl ?_
    refine ⟨fun c3 => ?_, fun c3 => ?_⟩
    · refine bGo hA 4 13 (141, .aload_n 0, 1, 78, 0, [0], []) rfl rfl rfl ?_
      refine bGo hA 4 14 (142, .iload_n 3, 1, 79, 0, [3], []) rfl rfl rfl ?_
      refine bGo hA 4 15 (143, .bipush (7), 2, 80, 0, [], [(7, 0)]) rfl rfl rfl ?_
      refine bGo hA 5 0 (145, .irem, 1, 81, 0, [], []) rfl rfl rfl ?_
      refine ⟨by decide, ?_⟩
      refine bGo hA 5 1 (146, .ifCond .ne (7), 3, 82, 84, [], []) rfl rfl rfl ?_
      refine ⟨fun c4 => ?_, fun c4 => ?_⟩
      · refine bGo hA 5 2 (149, .iconst (-1), 1, 83, 0, [], [(-1, 0)]) rfl rfl rfl ?_
        refine bGo hA 5 3 (150, .goto (16), 3, 84, 91, [], []) rfl rfl rfl ?_
        refine bGo hA 5 11 (166, .putfield 22, 3, 92, 0, [4, 8, 0, 0, 0, 0], []) rfl rfl rfl ?_
        refine ⟨h.1, ?_⟩
        refine bGo hA 5 12 (169, .goto (69), 3, 93, 128, [], []) rfl rfl rfl ?_
        refine bGo hA 8 0 (238, .return_, 1, 0, 0, [0], []) rfl rfl rfl ?_
        exact (((h.2.2 c1).1 c3).1 c4)
      · refine bGo hA 5 4 (153, .aload_n 0, 1, 85, 0, [0], []) rfl rfl rfl ?_
        refine bGo hA 5 5 (154, .getfield 25, 3, 86, 0, [4, 1, 0, 0, 0, 0], []) rfl rfl rfl ?_
        refine ⟨h.1, ?_⟩
        refine bGo hA 5 6 (157, .aload_n 0, 1, 87, 0, [0], []) rfl rfl rfl ?_
        refine bGo hA 5 7 (158, .getfield 28, 3, 88, 0, [4, 2, 0, 0, 0, 0], []) rfl rfl rfl ?_
        refine ⟨h.1, ?_⟩
        refine bGo hA 5 8 (161, .iadd, 1, 89, 0, [], []) rfl rfl rfl ?_
        refine bGo hA 5 9 (162, .sipush (1000), 3, 90, 0, [], [(1000, 0)]) rfl rfl rfl ?_
        refine bGo hA 5 10 (165, .irem, 1, 91, 0, [], []) rfl rfl rfl ?_
        refine ⟨by decide, ?_⟩
        refine bGo hA 5 11 (166, .putfield 22, 3, 92, 0, [4, 8, 0, 0, 0, 0], []) rfl rfl rfl ?_
        refine ⟨h.1, ?_⟩
        refine bGo hA 5 12 (169, .goto (69), 3, 93, 128, [], []) rfl rfl rfl ?_
        refine bGo hA 8 0 (238, .return_, 1, 0, 0, [0], []) rfl rfl rfl ?_
        exact (((h.2.2 c1).1 c3).2 c4)
    · refine bGo hA 5 13 (172, .aload_n 0, 1, 94, 0, [0], []) rfl rfl rfl ?_
      refine bGo hA 5 14 (173, .getfield 9, 3, 95, 0, [4, 0, 0, 0, 0, 0], []) rfl rfl rfl ?_
      refine ⟨h.1, ?_⟩
      refine bGo hA 5 15 (176, .iconst (5), 1, 96, 0, [], [(5, 0)]) rfl rfl rfl ?_
      refine bGo hA 6 0 (177, .if_icmp .ne (22), 3, 97, 108, [], []) rfl rfl rfl ?_
      refine ⟨fun c5 => ?_, fun c5 => ?_⟩
      · refine bGo hA 6 1 (180, .aload_n 0, 1, 98, 0, [0], []) rfl rfl rfl ?_
        refine bGo hA 6 2 (181, .iload_n 3, 1, 99, 0, [3], []) rfl rfl rfl ?_
        refine bGo hA 6 3 (182, .aload_n 0, 1, 100, 0, [0], []) rfl rfl rfl ?_
        refine bGo hA 6 4 (183, .aload_n 1, 1, 101, 0, [1], []) rfl rfl rfl ?_
        refine bGo hA 6 5 (184, .iload_n 2, 1, 102, 0, [2], []) rfl rfl rfl ?_
        refine bGo hA 6 6 (185, .invokevirtual 51, 3, 103, 0, [0, 4, 41, 2], []) rfl rfl rfl ?_
        refine ⟨h.1, ?_⟩
        refine hC _ _ _ _ _ (bRi_e (fun r8 s6 k7 => ?_)) (((h.2.2 c1).2 c3).1 c5)
        show A (103, [.ref l0, .ref 3, .int l2, .int l3, .int l4, .int l5, v6], [.int r8, .int l3, .ref l0], s6)
        refine bGo hA 6 7 (188, .iadd, 1, 104, 0, [], []) rfl rfl rfl ?_
        refine bGo hA 6 8 (189, .sipush (1000), 3, 105, 0, [], [(1000, 0)]) rfl rfl rfl ?_
        refine bGo hA 6 9 (192, .irem, 1, 106, 0, [], []) rfl rfl rfl ?_
        refine ⟨by decide, ?_⟩
        refine bGo hA 6 10 (193, .putfield 22, 3, 107, 0, [4, 8, 0, 0, 0, 0], []) rfl rfl rfl ?_
        refine ⟨h.1, ?_⟩
        refine bGo hA 6 11 (196, .goto (42), 3, 108, 128, [], []) rfl rfl rfl ?_
        refine bGo hA 8 0 (238, .return_, 1, 0, 0, [0], []) rfl rfl rfl ?_
        exact k7
      · refine bGo hA 6 12 (199, .aload_n 0, 1, 109, 0, [0], []) rfl rfl rfl ?_
        refine bGo hA 6 13 (200, .iload_n 3, 1, 110, 0, [3], []) rfl rfl rfl ?_
        refine bGo hA 6 14 (201, .aload_n 0, 1, 111, 0, [0], []) rfl rfl rfl ?_
        refine bGo hA 6 15 (202, .getfield 9, 3, 112, 0, [4, 0, 0, 0, 0, 0], []) rfl rfl rfl ?_
        refine ⟨h.1, ?_⟩
        refine bGo hA 7 0 (205, .iconst (2), 1, 113, 0, [], [(2, 0)]) rfl rfl rfl ?_
        refine bGo hA 7 1 (206, .if_icmp .ne (8), 3, 114, 116, [], []) rfl rfl rfl ?_
        refine ⟨fun c9 => ?_, fun c9 => ?_⟩
        · refine bGo hA 7 2 (209, .iload 4, 2, 115, 0, [4], []) rfl rfl rfl ?_
          refine bGo hA 7 3 (211, .goto (19), 3, 116, 124, [], []) rfl rfl rfl ?_
          refine bGo hA 7 12 (230, .iadd, 1, 125, 0, [], []) rfl rfl rfl ?_
          refine bGo hA 7 13 (231, .sipush (1000), 3, 126, 0, [], [(1000, 0)]) rfl rfl rfl ?_
          refine bGo hA 7 14 (234, .irem, 1, 127, 0, [], []) rfl rfl rfl ?_
          refine ⟨by decide, ?_⟩
          refine bGo hA 7 15 (235, .putfield 22, 3, 128, 0, [4, 8, 0, 0, 0, 0], []) rfl rfl rfl ?_
          refine ⟨h.1, ?_⟩
          refine bGo hA 8 0 (238, .return_, 1, 0, 0, [0], []) rfl rfl rfl ?_
          exact ((((h.2.2 c1).2 c3).2 c5).1 c9)
        · refine bGo hA 7 4 (214, .aload_n 0, 1, 117, 0, [0], []) rfl rfl rfl ?_
          refine bGo hA 7 5 (215, .getfield 9, 3, 118, 0, [4, 0, 0, 0, 0, 0], []) rfl rfl rfl ?_
          refine ⟨h.1, ?_⟩
          refine bGo hA 7 6 (218, .iconst (3), 1, 119, 0, [], [(3, 0)]) rfl rfl rfl ?_
          refine bGo hA 7 7 (219, .if_icmp .ne (10), 3, 120, 123, [], []) rfl rfl rfl ?_
          refine ⟨fun c10 => ?_, fun c10 => ?_⟩
          · refine bGo hA 7 8 (222, .aload_n 0, 1, 121, 0, [0], []) rfl rfl rfl ?_
            refine bGo hA 7 9 (223, .getfield 42, 3, 122, 0, [4, 3, 0, 0, 0, 0], []) rfl rfl rfl ?_
            refine ⟨h.1, ?_⟩
            refine bGo hA 7 10 (226, .goto (4), 3, 123, 124, [], []) rfl rfl rfl ?_
            refine bGo hA 7 12 (230, .iadd, 1, 125, 0, [], []) rfl rfl rfl ?_
            refine bGo hA 7 13 (231, .sipush (1000), 3, 126, 0, [], [(1000, 0)]) rfl rfl rfl ?_
            refine bGo hA 7 14 (234, .irem, 1, 127, 0, [], []) rfl rfl rfl ?_
            refine ⟨by decide, ?_⟩
            refine bGo hA 7 15 (235, .putfield 22, 3, 128, 0, [4, 8, 0, 0, 0, 0], []) rfl rfl rfl ?_
            refine ⟨h.1, ?_⟩
            refine bGo hA 8 0 (238, .return_, 1, 0, 0, [0], []) rfl rfl rfl ?_
            exact (((((h.2.2 c1).2 c3).2 c5).2 c9).1 c10)
          · refine bGo hA 7 11 (229, .iconst (0), 1, 124, 0, [], [(0, 0)]) rfl rfl rfl ?_
            refine bGo hA 7 12 (230, .iadd, 1, 125, 0, [], []) rfl rfl rfl ?_
            refine bGo hA 7 13 (231, .sipush (1000), 3, 126, 0, [], [(1000, 0)]) rfl rfl rfl ?_
            refine bGo hA 7 14 (234, .irem, 1, 127, 0, [], []) rfl rfl rfl ?_
            refine ⟨by decide, ?_⟩
            refine bGo hA 7 15 (235, .putfield 22, 3, 128, 0, [4, 8, 0, 0, 0, 0], []) rfl rfl rfl ?_
            refine ⟨h.1, ?_⟩
            refine bGo hA 8 0 (238, .return_, 1, 0, 0, [0], []) rfl rfl rfl ?_
            exact (((((h.2.2 c1).2 c3).2 c5).2 c9).2 c10)

theorem sg40_31 {lvl : Nat} {C : bCall} {Q : bPost} {A : bPt → Prop} (hC : bMono C) (hA : bClosed lvl bm40 C Q A) {l0 : Nat} {l2 : Int32} {l3 : Int32} {l4 : Int32} {l5 : Int32} {v6 : Value} {t0 : Int32} {σ : bSt} 
  (h : (C 359 [.int l4, .int t0] σ (bRi (fun r3 s1 => (l0 % 256 = 4 ∧ (((s1.1 l0 0) = 0 → A (16, [.ref l0, .ref 3, .int l2, .int (l3 + ((l5 + 1) * t0)), .int r3, .int (l5 + 1), .int t0], [], s1)) ∧ (¬ (s1.1 l0 0) = 0 → (((s1.1 l0 0) = 1 → A (16, [.ref l0, .ref 3, .int l2, .int (l3 + (t0 / 10)), .int r3, .int (l5 + 1), .int t0], [], s1)) ∧ (¬ (s1.1 l0 0) = 1 → (((s1.1 l0 0) = 4 → A (16, [.ref l0, .ref 3, .int l2, .int (l3 + t0), .int r3, .int (l5 + 1), .int t0], [], s1)) ∧ (¬ (s1.1 l0 0) = 4 → (((s1.1 l0 0) = 5 → A (16, [.ref l0, .ref 3, .int l2, .int (l3 + t0), .int r3, .int (l5 + 1), .int t0], [], s1)) ∧ (¬ (s1.1 l0 0) = 5 → A (16, [.ref l0, .ref 3, .int l2, .int l3, .int r3, .int (l5 + 1), .int t0], [], s1)))))))))))))) : A (31, [.ref l0, .ref 3, .int l2, .int l3, .int l4, .int l5, v6], [.int t0], σ) := by
  refine bGo hA 1 15 (56, .istore 6, 2, 32, 0, [6], []) rfl rfl rfl ?_
  refine bGo hA 2 0 (58, .iload 4, 2, 33, 0, [4], []) rfl rfl rfl ?_
  refine bGo hA 2 1 (60, .iload 6, 2, 34, 0, [6], []) rfl rfl rfl ?_
  refine bGo hA 2 2 (62, .invokestatic 45, 3, 35, 0, [2, 359, 2], []) rfl rfl rfl ?_
  refine hC _ _ _ _ _ (bRi_e (fun r3 s1 k2 => ?_)) h
  show A (35, [.ref l0, .ref 3, .int l2, .int l3, .int l4, .int l5, .int t0], [.int r3], s1)
  refine bGo hA 2 3 (65, .istore 4, 2, 36, 0, [4], []) rfl rfl rfl ?_
  refine bGo hA 2 4 (67, .aload_n 0, 1, 37, 0, [0], []) rfl rfl rfl ?_
  refine bGo hA 2 5 (68, .getfield 9, 3, 38, 0, [4, 0, 0, 0, 0, 0], []) rfl rfl rfl ?_
  refine ⟨k2.1, ?_⟩
  refine bGo hA 2 6 (71, .ifCond .ne (16), 3, 39, 48, [], []) rfl rfl rfl ?_
  refine ⟨fun c4 => ?_, fun c4 => ?_⟩
  · refine bGo hA 2 7 (74, .iload_n 3, 1, 40, 0, [3], []) rfl rfl rfl ?_
    refine bGo hA 2 8 (75, .iload 5, 2, 41, 0, [5], []) rfl rfl rfl ?_
    refine bGo hA 2 9 (77, .iconst (1), 1, 42, 0, [], [(1, 0)]) rfl rfl rfl ?_
    refine bGo hA 2 10 (78, .iadd, 1, 43, 0, [], []) rfl rfl rfl ?_
    refine bGo hA 2 11 (79, .iload 6, 2, 44, 0, [6], []) rfl rfl rfl ?_
    refine bGo hA 2 12 (81, .imul, 1, 45, 0, [], []) rfl rfl rfl ?_
    refine bGo hA 2 13 (82, .iadd, 1, 46, 0, [], []) rfl rfl rfl ?_
    refine bGo hA 2 14 (83, .istore_n 3, 1, 47, 0, [3], []) rfl rfl rfl ?_
    refine bGo hA 2 15 (84, .goto (43), 3, 48, 71, [], []) rfl rfl rfl ?_
    refine bGo hA 4 7 (127, .iinc 5 (1), 3, 72, 0, [5], [(1, 0)]) rfl rfl rfl ?_
    refine bGo hA 4 8 (130, .goto (-104), 3, 73, 16, [], []) rfl rfl rfl ?_
    exact (k2.2.1 c4)
  · refine bGo hA 3 0 (87, .aload_n 0, 1, 49, 0, [0], []) rfl rfl rfl ?_
    refine bGo hA 3 1 (88, .getfield 9, 3, 50, 0, [4, 0, 0, 0, 0, 0], []) rfl rfl rfl ?_
    refine ⟨k2.1, ?_⟩
    refine bGo hA 3 2 (91, .iconst (1), 1, 51, 0, [], [(1, 0)]) rfl rfl rfl ?_
    refine bGo hA 3 3 (92, .if_icmp .ne (14), 3, 52, 59, [], []) rfl rfl rfl ?_
    refine ⟨fun c5 => ?_, fun c5 => ?_⟩
    · refine bGo hA 3 4 (95, .iload_n 3, 1, 53, 0, [3], []) rfl rfl rfl ?_
      refine bGo hA 3 5 (96, .iload 6, 2, 54, 0, [6], []) rfl rfl rfl ?_
      refine bGo hA 3 6 (98, .bipush (10), 2, 55, 0, [], [(10, 0)]) rfl rfl rfl ?_
      refine bGo hA 3 7 (100, .idiv, 1, 56, 0, [], []) rfl rfl rfl ?_
      refine ⟨by decide, ?_⟩
      refine bGo hA 3 8 (101, .iadd, 1, 57, 0, [], []) rfl rfl rfl ?_
      refine bGo hA 3 9 (102, .istore_n 3, 1, 58, 0, [3], []) rfl rfl rfl ?_
      refine bGo hA 3 10 (103, .goto (24), 3, 59, 71, [], []) rfl rfl rfl ?_
      refine bGo hA 4 7 (127, .iinc 5 (1), 3, 72, 0, [5], [(1, 0)]) rfl rfl rfl ?_
      refine bGo hA 4 8 (130, .goto (-104), 3, 73, 16, [], []) rfl rfl rfl ?_
      exact ((k2.2.2 c4).1 c5)
    · refine bGo hA 3 11 (106, .aload_n 0, 1, 60, 0, [0], []) rfl rfl rfl ?_
      refine bGo hA 3 12 (107, .getfield 9, 3, 61, 0, [4, 0, 0, 0, 0, 0], []) rfl rfl rfl ?_
      refine ⟨k2.1, ?_⟩
      refine bGo hA 3 13 (110, .iconst (4), 1, 62, 0, [], [(4, 0)]) rfl rfl rfl ?_
      refine bGo hA 3 14 (111, .if_icmp .eq (11), 3, 63, 67, [], []) rfl rfl rfl ?_
      refine ⟨fun c6 => ?_, fun c6 => ?_⟩
      · refine bGo hA 4 3 (122, .iload_n 3, 1, 68, 0, [3], []) rfl rfl rfl ?_
        refine bGo hA 4 4 (123, .iload 6, 2, 69, 0, [6], []) rfl rfl rfl ?_
        refine bGo hA 4 5 (125, .iadd, 1, 70, 0, [], []) rfl rfl rfl ?_
        refine bGo hA 4 6 (126, .istore_n 3, 1, 71, 0, [3], []) rfl rfl rfl ?_
        refine bGo hA 4 7 (127, .iinc 5 (1), 3, 72, 0, [5], [(1, 0)]) rfl rfl rfl ?_
        refine bGo hA 4 8 (130, .goto (-104), 3, 73, 16, [], []) rfl rfl rfl ?_
        exact (((k2.2.2 c4).2 c5).1 c6)
      · refine bGo hA 3 15 (114, .aload_n 0, 1, 64, 0, [0], []) rfl rfl rfl ?_
        refine bGo hA 4 0 (115, .getfield 9, 3, 65, 0, [4, 0, 0, 0, 0, 0], []) rfl rfl rfl ?_
        refine ⟨k2.1, ?_⟩
        refine bGo hA 4 1 (118, .iconst (5), 1, 66, 0, [], [(5, 0)]) rfl rfl rfl ?_
        refine bGo hA 4 2 (119, .if_icmp .ne (8), 3, 67, 71, [], []) rfl rfl rfl ?_
        refine ⟨fun c7 => ?_, fun c7 => ?_⟩
        · refine bGo hA 4 3 (122, .iload_n 3, 1, 68, 0, [3], []) rfl rfl rfl ?_
          refine bGo hA 4 4 (123, .iload 6, 2, 69, 0, [6], []) rfl rfl rfl ?_
          refine bGo hA 4 5 (125, .iadd, 1, 70, 0, [], []) rfl rfl rfl ?_
          refine bGo hA 4 6 (126, .istore_n 3, 1, 71, 0, [3], []) rfl rfl rfl ?_
          refine bGo hA 4 7 (127, .iinc 5 (1), 3, 72, 0, [5], [(1, 0)]) rfl rfl rfl ?_
          refine bGo hA 4 8 (130, .goto (-104), 3, 73, 16, [], []) rfl rfl rfl ?_
          exact ((((k2.2.2 c4).2 c5).2 c6).1 c7)
        · refine bGo hA 4 7 (127, .iinc 5 (1), 3, 72, 0, [5], [(1, 0)]) rfl rfl rfl ?_
          refine bGo hA 4 8 (130, .goto (-104), 3, 73, 16, [], []) rfl rfl rfl ?_
          exact ((((k2.2.2 c4).2 c5).2 c6).2 c7)

theorem sg41_0 {lvl : Nat} {C : bCall} {Q : bPost} {A : bPt → Prop} (hC : bMono C) (hA : bClosed lvl bm41 C Q A) {a0 : Nat} {x2 : Int32} {σ : bSt} (h_a0 : a0 % 256 = 4)
  (h : A (6, [.ref a0, .ref 3, .int x2, .int 0, .long (Int64.ofNat 0), .float 0, .int 0, .float 0, .float 0, .float 0, .float 0], [], σ)) : A (0, [.ref a0, .ref 3, .int x2, .float 0, .float 0, .float 0, .float 0, .float 0, .float 0, .float 0, .float 0], [], σ) := by
  refine bGo hA 0 0 (0, .iconst (0), 1, 1, 0, [], [(0, 0)]) rfl rfl rfl ?_
  refine bGo hA 0 1 (1, .istore_n 3, 1, 2, 0, [3], []) rfl rfl rfl ?_
  refine bGo hA 0 2 (2, .lconst 0, 1, 3, 0, [0], []) rfl rfl rfl ?_
  refine bGo hA 0 3 (3, .lstore 4, 2, 4, 0, [4], []) rfl rfl rfl ?_
  refine bGo hA 0 4 (5, .iconst (0), 1, 5, 0, [], [(0, 0)]) rfl rfl rfl ?_
  refine bGo hA 0 5 (6, .istore 6, 2, 6, 0, [6], []) rfl rfl rfl ?_
  exact h

theorem sg41_6 {lvl : Nat} {C : bCall} {Q : bPost} {A : bPt → Prop} (hC : bMono C) (hA : bClosed lvl bm41 C Q A) {l0 : Nat} {l2 : Int32} {l3 : Int32} {l4 : Int64} {l6 : Int32} {v7 : Value} {v8 : Value} {v9 : Value} {v10 : Value} {σ : bSt} 
  (h : (l0 % 256 = 4 ∧ ((l6 < (σ.1 l0 3) → (¬ bTy (256 * (1 * (l0 / 256) + 0) + 22) = 9 ∧ ((l6 < (Int32.ofNat (bLen σ (256 * (1 * (l0 / 256) + 0) + 22))) → (bTy (256 * (1 * (l0 / 256) + 0) + 22) = 0 ∧ (vp_in l6 (bLen σ (256 * (1 * (l0 / 256) + 0) + 22)) ∧ A (24, [.ref l0, .ref 3, .int l2, .int l3, .long l4, .float 0, .int l6, .int (σ.1 (256 * (1 * (l0 / 256) + 0) + 22) (l6).toNatClampNeg), .int 0, v9, v10], [], σ)))) ∧ (¬ l6 < (Int32.ofNat (bLen σ (256 * (1 * (l0 / 256) + 0) + 22))) → A (24, [.ref l0, .ref 3, .int l2, .int l3, .long l4, .float 0, .int l6, .int 0, .int 0, v9, v10], [], σ))))) ∧ (¬ l6 < (σ.1 l0 3) → Q (.inl (some (.int l3))) σ)))) : A (6, [.ref l0, .ref 3, .int l2, .int l3, .long l4, .float 0, .int l6, v7, v8, v9, v10], [], σ) := by
  refine bGo hA 0 6 (8, .iload 6, 2, 7, 0, [6], []) rfl rfl rfl ?_
  refine bGo hA 0 7 (10, .aload_n 0, 1, 8, 0, [0], []) rfl rfl rfl ?_
  refine bGo hA 0 8 (11, .getfield 42, 3, 9, 0, [4, 3, 0, 0, 0, 0], []) rfl rfl rfl ?_
  refine ⟨h.1, ?_⟩
  refine bGo hA 0 9 (14, .if_icmp .ge (175), 3, 10, 99, [], []) rfl rfl rfl ?_
  refine ⟨fun c1 => ?_, fun c1 => ?_⟩
  · refine bGo hA 0 10 (17, .iload 6, 2, 11, 0, [6], []) rfl rfl rfl ?_
    refine bGo hA 0 11 (19, .aload_n 0, 1, 12, 0, [0], []) rfl rfl rfl ?_
    refine bGo hA 0 12 (20, .getfield 15, 3, 13, 0, [4, 4, 3, 22, 1, 0], []) rfl rfl rfl ?_
    refine ⟨h.1, ?_⟩
    refine bGo hA 0 13 (23, .arraylength, 1, 14, 0, [], []) rfl rfl rfl ?_
    refine ⟨(h.2.1 c1).1, ?_⟩
    refine bGo hA 0 14 (24, .if_icmp .ge (13), 3, 15, 20, [], []) rfl rfl rfl ?_
    refine ⟨fun c2 => ?_, fun c2 => ?_⟩
    · refine bGo hA 0 15 (27, .aload_n 0, 1, 16, 0, [0], []) rfl rfl rfl ?_
      refine bGo hA 1 0 (28, .getfield 15, 3, 17, 0, [4, 4, 3, 22, 1, 0], []) rfl rfl rfl ?_
      refine ⟨h.1, ?_⟩
      refine bGo hA 1 1 (31, .iload 6, 2, 18, 0, [6], []) rfl rfl rfl ?_
      refine bGo hA 1 2 (33, .iaload, 1, 19, 0, [], []) rfl rfl rfl ?_
      refine ⟨((h.2.1 c1).2.1 c2).1, ((h.2.1 c1).2.1 c2).2.1, ?_⟩
      refine bGo hA 1 3 (34, .goto (4), 3, 20, 21, [], []) rfl rfl rfl ?_
      refine bGo hA 1 5 (38, .istore 7, 2, 22, 0, [7], []) rfl rfl rfl ?_
      refine bGo hA 1 6 (40, .iconst (0), 1, 23, 0, [], [(0, 0)]) rfl rfl rfl ?_
      refine bGo hA 1 7 (41, .istore 8, 2, 24, 0, [8], []) rfl rfl rfl ?_
      exact ((h.2.1 c1).2.1 c2).2.2
    · refine bGo hA 1 4 (37, .iconst (0), 1, 21, 0, [], [(0, 0)]) rfl rfl rfl ?_
      refine bGo hA 1 5 (38, .istore 7, 2, 22, 0, [7], []) rfl rfl rfl ?_
      refine bGo hA 1 6 (40, .iconst (0), 1, 23, 0, [], [(0, 0)]) rfl rfl rfl ?_
      refine bGo hA 1 7 (41, .istore 8, 2, 24, 0, [8], []) rfl rfl rfl ?_
      exact ((h.2.1 c1).2.2 c2)
  · refine bGo hA 6 3 (189, .iload_n 3, 1, 100, 0, [3], []) rfl rfl rfl ?_
    refine bGo hA 6 4 (190, .ireturn, 1, 0, 0, [1], []) rfl rfl rfl ?_
    exact (h.2.2 c1)

theorem sg41_24 {lvl : Nat} {C : bCall} {Q : bPost} {A : bPt → Prop} (hC : bMono C) (hA : bClosed lvl bm41 C Q A) {l0 : Nat} {l2 : Int32} {l3 : Int32} {l4 : Int64} {l6 : Int32} {l7 : Int32} {l8 : Int32} {v9 : Value} {v10 : Value} {σ : bSt} 
  (h : ((l8 < 48 → ((l7 < 500 → A (6, [.ref l0, .ref 3, .int l2, .int l3, .long l4, .float 0, .int (l6 + 1), .int l7, .int l8, v9, v10], [], σ)) ∧ (¬ l7 < 500 → (((lg_cmp ((l4 >>> (Int32.toInt64 (l7 - l7 / 48 * 48) &&& 63)) &&& (Int64.ofNat 1)) (Int64.ofNat 1)) = 0 → A (6, [.ref l0, .ref 3, .int l2, .int l3, .long l4, .float 0, .int (l6 + 1), .int l7, .int l8, .int (l7 - l7 / 48 * 48), v10], [], σ)) ∧ (¬ (lg_cmp ((l4 >>> (Int32.toInt64 (l7 - l7 / 48 * 48) &&& 63)) &&& (Int64.ofNat 1)) (Int64.ofNat 1)) = 0 → (C 35 [.ref 3, .int (l7 - l7 / 48 * 48)] σ (bRi (fun r6 s4 => ((r6 = l2 → A (57, [.ref l0, .ref 3, .int l2, .int l3, .long (l4 ||| ((Int64.ofNat 1) <<< (Int32.toInt64 (l7 - l7 / 48 * 48) &&& 63))), .float 0, .int l6, .int l7, .int l8, .int (l7 - l7 / 48 * 48), v10], [.int 0], s4)) ∧ (¬ r6 = l2 → A (57, [.ref l0, .ref 3, .int l2, .int l3, .long (l4 ||| ((Int64.ofNat 1) <<< (Int32.toInt64 (l7 - l7 / 48 * 48) &&& 63))), .float 0, .int l6, .int l7, .int l8, .int (l7 - l7 / 48 * 48), v10], [.int 1], s4))))))))))) ∧ (¬ l8 < 48 → A (6, [.ref l0, .ref 3, .int l2, .int l3, .long l4, .float 0, .int (l6 + 1), .int l7, .int l8, v9, v10], [], σ)))) : A (24, [.ref l0, .ref 3, .int l2, .int l3, .long l4, .float 0, .int l6, .int l7, .int l8, v9, v10], [], σ) := by
  refine bGo hA 1 8 (43, .iload 8, 2, 25, 0, [8], []) rfl rfl rfl ?_
  refine bGo hA 1 9 (45, .bipush (48), 2, 26, 0, [], [(48, 0)]) rfl rfl rfl ?_
  refine bGo hA 1 10 (47, .if_icmp .ge (136), 3, 27, 97, [], []) rfl rfl rfl ?_
  refine ⟨fun c1 => ?_, fun c1 => ?_⟩
  · refine bGo hA 1 11 (50, .iload 7, 2, 28, 0, [7], []) rfl rfl rfl ?_
    refine bGo hA 1 12 (52, .sipush (500), 3, 29, 0, [], [(500, 0)]) rfl rfl rfl ?_
    refine bGo hA 1 13 (55, .if_icmp .lt (128), 3, 30, 97, [], []) rfl rfl rfl ?_
    refine ⟨fun c2 => ?_, fun c2 => ?_⟩
    · refine bGo hA 6 1 (183, .iinc 6 (1), 3, 98, 0, [6], [(1, 0)]) rfl rfl rfl ?_
      refine bGo hA 6 2 (186, .goto (-178), 3, 99, 6, [], []) rfl rfl rfl ?_
      exact ((h.1 c1).1 c2)
    · refine bGo hA 1 14 (58, .iload 7, 2, 31, 0, [7], []) rfl rfl rfl ?_
      refine bGo hA 1 15 (60, .bipush (48), 2, 32, 0, [], [(48, 0)]) rfl rfl rfl ?_
      refine bGo hA 2 0 (62, .irem, 1, 33, 0, [], []) rfl rfl rfl ?_
      refine ⟨by decide, ?_⟩
      refine bGo hA 2 1 (63, .istore 9, 2, 34, 0, [9], []) rfl rfl rfl ?_
      refine bGo hA 2 2 (65, .lload 4, 2, 35, 0, [4], []) rfl rfl rfl ?_
      refine bGo hA 2 3 (67, .iload 9, 2, 36, 0, [9], []) rfl rfl rfl ?_
      refine bGo hA 2 4 (69, .lshr, 1, 37, 0, [], []) rfl rfl rfl ?_
      refine bGo hA 2 5 (70, .lconst 1, 1, 38, 0, [1], []) rfl rfl rfl ?_
      refine bGo hA 2 6 (71, .land, 1, 39, 0, [], []) rfl rfl rfl ?_
      refine bGo hA 2 7 (72, .lconst 1, 1, 40, 0, [1], []) rfl rfl rfl ?_
      refine bGo hA 2 8 (73, .lcmp, 1, 41, 0, [], []) rfl rfl rfl ?_
      refine bGo hA 2 9 (74, .ifCond .ne (6), 3, 42, 43, [], []) rfl rfl rfl ?_
      refine ⟨fun c3 => ?_, fun c3 => ?_⟩
      · refine bGo hA 2 10 (77, .goto (106), 3, 43, 97, [], []) rfl rfl rfl ?_
        refine bGo hA 6 1 (183, .iinc 6 (1), 3, 98, 0, [6], [(1, 0)]) rfl rfl rfl ?_
        refine bGo hA 6 2 (186, .goto (-178), 3, 99, 6, [], []) rfl rfl rfl ?_
        exact (((h.1 c1).2 c2).1 c3)
      · refine bGo hA 2 11 (80, .lload 4, 2, 44, 0, [4], []) rfl rfl rfl ?_
        refine bGo hA 2 12 (82, .lconst 1, 1, 45, 0, [1], []) rfl rfl rfl ?_
        refine bGo hA 2 13 (83, .iload 9, 2, 46, 0, [9], []) rfl rfl rfl ?_
        refine bGo hA 2 14 (85, .lshl, 1, 47, 0, [], []) rfl rfl rfl ?_
        refine bGo hA 2 15 (86, .lor, 1, 48, 0, [], []) rfl rfl rfl ?_
        refine bGo hA 3 0 (87, .lstore 4, 2, 49, 0, [4], []) rfl rfl rfl ?_
        refine bGo hA 3 1 (89, .aload_n 1, 1, 50, 0, [1], []) rfl rfl rfl ?_
        refine bGo hA 3 2 (90, .iload 9, 2, 51, 0, [9], []) rfl rfl rfl ?_
        refine bGo hA 3 3 (92, .invokevirtual 55, 3, 52, 0, [0, 3, 35, 1], []) rfl rfl rfl ?_
        refine ⟨rfl, ?_⟩
        refine hC _ _ _ _ _ (bRi_e (fun r6 s4 k5 => ?_)) (((h.1 c1).2 c2).2 c3)
        show A (52, [.ref l0, .ref 3, .int l2, .int l3, .long (l4 ||| ((Int64.ofNat 1) <<< (Int32.toInt64 (l7 - l7 / 48 * 48) &&& 63))), .float 0, .int l6, .int l7, .int l8, .int (l7 - l7 / 48 * 48), v10], [.int r6], s4)
        refine bGo hA 3 4 (95, .iload_n 2, 1, 53, 0, [2], []) rfl rfl rfl ?_
        refine bGo hA 3 5 (96, .if_icmp .eq (7), 3, 54, 56, [], []) rfl rfl rfl ?_
        refine ⟨fun c7 => ?_, fun c7 => ?_⟩
        · refine bGo hA 3 8 (103, .iconst (0), 1, 57, 0, [], [(0, 0)]) rfl rfl rfl ?_
          exact (k5.1 c7)
        · refine bGo hA 3 6 (99, .iconst (1), 1, 55, 0, [], [(1, 0)]) rfl rfl rfl ?_
          refine bGo hA 3 7 (100, .goto (4), 3, 56, 57, [], []) rfl rfl rfl ?_
          exact (k5.2 c7)
  · refine bGo hA 6 1 (183, .iinc 6 (1), 3, 98, 0, [6], [(1, 0)]) rfl rfl rfl ?_
    refine bGo hA 6 2 (186, .goto (-178), 3, 99, 6, [], []) rfl rfl rfl ?_
    exact (h.2 c1)

theorem sg41_57 {lvl : Nat} {C : bCall} {Q : bPost} {A : bPt → Prop} (hC : bMono C) (hA : bClosed lvl bm41 C Q A) {l0 : Nat} {l2 : Int32} {l3 : Int32} {l4 : Int64} {l6 : Int32} {v7 : Value} {l8 : Int32} {l9 : Int32} {v10 : Value} {t0 : Int32} {σ : bSt} 
  (h : (l0 % 256 = 4 ∧ ((((σ.1 l0 7) ||| t0) = 0 ∨ ((σ.1 l0 7) ||| t0) = 1) ∧ ((t0 = 0 → (C 31 [.ref 3, .int l9] (bI σ l0 7 ((σ.1 l0 7) ||| t0)) (bRi (fun r4 s2 => (C 359 [.int r4, .int 0] s2 (bRi (fun r7 s5 => ((r4 = (-1) → (C 42 [.ref l0, .int ((-2) - l9)] s5 (bRv (fun s9 => A (24, [.ref l0, .ref 3, .int l2, .int (l3 + r7), .long l4, .float 0, .int l6, .int r4, .int (l8 + 1), .int l9, .int t0], [], s9))))) ∧ (¬ r4 = (-1) → (C 42 [.ref l0, .int ((l9 * 1000) + r4)] s5 (bRv (fun s11 => A (24, [.ref l0, .ref 3, .int l2, .int (l3 + r7), .long l4, .float 0, .int l6, .int r4, .int (l8 + 1), .int l9, .int t0], [], s11))))))))))))) ∧ (¬ t0 = 0 → ((((bI σ l0 7 ((σ.1 l0 7) ||| t0)).1 3 3) = 0 → (C 31 [.ref 3, .int l9] (bI σ l0 7 ((σ.1 l0 7) ||| t0)) (bRi (fun r16 s14 => (C 359 [.int r16, .int 0] s14 (bRi (fun r19 s17 => ((r16 = (-1) → (C 42 [.ref l0, .int ((-2) - l9)] s17 (bRv (fun s21 => A (24, [.ref l0, .ref 3, .int l2, .int (l3 + r19), .long l4, .float 0, .int l6, .int r16, .int (l8 + 1), .int l9, .int t0], [], s21))))) ∧ (¬ r16 = (-1) → (C 42 [.ref l0, .int ((l9 * 1000) + r16)] s17 (bRv (fun s23 => A (24, [.ref l0, .ref 3, .int l2, .int (l3 + r19), .long l4, .float 0, .int l6, .int r16, .int (l8 + 1), .int l9, .int t0], [], s23))))))))))))) ∧ (¬ ((bI σ l0 7 ((σ.1 l0 7) ||| t0)).1 3 3) = 0 → (C 359 [.int (-1), .int 0] (bI σ l0 7 ((σ.1 l0 7) ||| t0)) (bRi (fun r27 s25 => (C 42 [.ref l0, .int ((-2) - l9)] s25 (bRv (fun s29 => A (24, [.ref l0, .ref 3, .int l2, .int (l3 + r27), .long l4, .float 0, .int l6, .int (-1), .int (l8 + 1), .int l9, .int t0], [], s29)))))))))))))) : A (57, [.ref l0, .ref 3, .int l2, .int l3, .long l4, .float 0, .int l6, v7, .int l8, .int l9, v10], [.int t0], σ) := by
  refine bGo hA 3 9 (104, .istore 10, 2, 58, 0, [10], []) rfl rfl rfl ?_
  refine bGo hA 3 10 (106, .aload_n 0, 1, 59, 0, [0], []) rfl rfl rfl ?_
  refine bGo hA 3 11 (107, .dup, 1, 60, 0, [], []) rfl rfl rfl ?_
  refine bGo hA 3 12 (108, .getfield 38, 3, 61, 0, [4, 7, 1, 0, 0, 0], []) rfl rfl rfl ?_
  refine ⟨h.1, ?_⟩
  refine bGo hA 3 13 (111, .iload 10, 2, 62, 0, [10], []) rfl rfl rfl ?_
  refine bGo hA 3 14 (113, .ior, 1, 63, 0, [], []) rfl rfl rfl ?_
  refine bGo hA 3 15 (114, .putfield 38, 3, 64, 0, [4, 7, 1, 0, 0, 0], []) rfl rfl rfl ?_
  refine ⟨h.1, h.2.1, ?_⟩
  refine bGo hA 4 0 (117, .iload 10, 2, 65, 0, [10], []) rfl rfl rfl ?_
  refine bGo hA 4 1 (119, .ifCond .eq (14), 3, 66, 71, [], []) rfl rfl rfl ?_
  refine ⟨fun c1 => ?_, fun c1 => ?_⟩
  · refine bGo hA 4 7 (133, .aload_n 1, 1, 72, 0, [1], []) rfl rfl rfl ?_
    refine bGo hA 4 8 (134, .iload 9, 2, 73, 0, [9], []) rfl rfl rfl ?_
    refine bGo hA 4 9 (136, .invokevirtual 64, 3, 74, 0, [0, 3, 31, 1], []) rfl rfl rfl ?_
    refine ⟨rfl, ?_⟩
    refine hC _ _ _ _ _ (bRi_e (fun r4 s2 k3 => ?_)) (h.2.2.1 c1)
    show A (74, [.ref l0, .ref 3, .int l2, .int l3, .long l4, .float 0, .int l6, v7, .int l8, .int l9, .int t0], [.int r4], s2)
    refine bGo hA 4 10 (139, .istore 7, 2, 75, 0, [7], []) rfl rfl rfl ?_
    refine bGo hA 4 11 (141, .iload_n 3, 1, 76, 0, [3], []) rfl rfl rfl ?_
    refine bGo hA 4 12 (142, .iload 7, 2, 77, 0, [7], []) rfl rfl rfl ?_
    refine bGo hA 4 13 (144, .iconst (0), 1, 78, 0, [], [(0, 0)]) rfl rfl rfl ?_
    refine bGo hA 4 14 (145, .invokestatic 45, 3, 79, 0, [2, 359, 2], []) rfl rfl rfl ?_
    refine hC _ _ _ _ _ (bRi_e (fun r7 s5 k6 => ?_)) k3
    show A (79, [.ref l0, .ref 3, .int l2, .int l3, .long l4, .float 0, .int l6, .int r4, .int l8, .int l9, .int t0], [.int r7, .int l3], s5)
    refine bGo hA 4 15 (148, .iadd, 1, 80, 0, [], []) rfl rfl rfl ?_
    refine bGo hA 5 0 (149, .istore_n 3, 1, 81, 0, [3], []) rfl rfl rfl ?_
    refine bGo hA 5 1 (150, .aload_n 0, 1, 82, 0, [0], []) rfl rfl rfl ?_
    refine bGo hA 5 2 (151, .iload 7, 2, 83, 0, [7], []) rfl rfl rfl ?_
    refine bGo hA 5 3 (153, .iconst (-1), 1, 84, 0, [], [(-1, 0)]) rfl rfl rfl ?_
    refine bGo hA 5 4 (154, .if_icmp .ne (11), 3, 85, 89, [], []) rfl rfl rfl ?_
    refine ⟨fun c8 => ?_, fun c8 => ?_⟩
    · refine bGo hA 5 5 (157, .bipush (-2), 2, 86, 0, [], [(-2, 0)]) rfl rfl rfl ?_
      refine bGo hA 5 6 (159, .iload 9, 2, 87, 0, [9], []) rfl rfl rfl ?_
      refine bGo hA 5 7 (161, .isub, 1, 88, 0, [], []) rfl rfl rfl ?_
      refine bGo hA 5 8 (162, .goto (12), 3, 89, 94, [], []) rfl rfl rfl ?_
      refine bGo hA 5 14 (174, .invokevirtual 67, 3, 95, 0, [0, 4, 42, 1], []) rfl rfl rfl ?_
      refine ⟨h.1, ?_⟩
      refine hC _ _ _ _ _ (bRv_e (fun s9 k10 => ?_)) (k6.1 c8)
      show A (95, [.ref l0, .ref 3, .int l2, .int (l3 + r7), .long l4, .float 0, .int l6, .int r4, .int l8, .int l9, .int t0], [], s9)
      refine bGo hA 5 15 (177, .iinc 8 (1), 3, 96, 0, [8], [(1, 0)]) rfl rfl rfl ?_
      refine bGo hA 6 0 (180, .goto (-137), 3, 97, 24, [], []) rfl rfl rfl ?_
      exact k10
    · refine bGo hA 5 9 (165, .iload 9, 2, 90, 0, [9], []) rfl rfl rfl ?_
      refine bGo hA 5 10 (167, .sipush (1000), 3, 91, 0, [], [(1000, 0)]) rfl rfl rfl ?_
      refine bGo hA 5 11 (170, .imul, 1, 92, 0, [], []) rfl rfl rfl ?_
      refine bGo hA 5 12 (171, .iload 7, 2, 93, 0, [7], []) rfl rfl rfl ?_
      refine bGo hA 5 13 (173, .iadd, 1, 94, 0, [], []) rfl rfl rfl ?_
      refine bGo hA 5 14 (174, .invokevirtual 67, 3, 95, 0, [0, 4, 42, 1], []) rfl rfl rfl ?_
      refine ⟨h.1, ?_⟩
      refine hC _ _ _ _ _ (bRv_e (fun s11 k12 => ?_)) (k6.2 c8)
      show A (95, [.ref l0, .ref 3, .int l2, .int (l3 + r7), .long l4, .float 0, .int l6, .int r4, .int l8, .int l9, .int t0], [], s11)
      refine bGo hA 5 15 (177, .iinc 8 (1), 3, 96, 0, [8], [(1, 0)]) rfl rfl rfl ?_
      refine bGo hA 6 0 (180, .goto (-137), 3, 97, 24, [], []) rfl rfl rfl ?_
      exact k12
  · refine bGo hA 4 2 (122, .aload_n 1, 1, 67, 0, [1], []) rfl rfl rfl ?_
    refine bGo hA 4 3 (123, .getfield 61, 3, 68, 0, [3, 3, 1, 0, 0, 0], []) rfl rfl rfl ?_
    refine ⟨rfl, ?_⟩
    refine bGo hA 4 4 (126, .ifCond .eq (7), 3, 69, 71, [], []) rfl rfl rfl ?_
    refine ⟨fun c13 => ?_, fun c13 => ?_⟩
    · refine bGo hA 4 7 (133, .aload_n 1, 1, 72, 0, [1], []) rfl rfl rfl ?_
      refine bGo hA 4 8 (134, .iload 9, 2, 73, 0, [9], []) rfl rfl rfl ?_
      refine bGo hA 4 9 (136, .invokevirtual 64, 3, 74, 0, [0, 3, 31, 1], []) rfl rfl rfl ?_
      refine ⟨rfl, ?_⟩
      refine hC _ _ _ _ _ (bRi_e (fun r16 s14 k15 => ?_)) ((h.2.2.2 c1).1 c13)
      show A (74, [.ref l0, .ref 3, .int l2, .int l3, .long l4, .float 0, .int l6, v7, .int l8, .int l9, .int t0], [.int r16], s14)
      refine bGo hA 4 10 (139, .istore 7, 2, 75, 0, [7], []) rfl rfl rfl ?_
      refine bGo hA 4 11 (141, .iload_n 3, 1, 76, 0, [3], []) rfl rfl rfl ?_
      refine bGo hA 4 12 (142, .iload 7, 2, 77, 0, [7], []) rfl rfl rfl ?_
      refine bGo hA 4 13 (144, .iconst (0), 1, 78, 0, [], [(0, 0)]) rfl rfl rfl ?_
      refine bGo hA 4 14 (145, .invokestatic 45, 3, 79, 0, [2, 359, 2], []) rfl rfl rfl ?_
      refine hC _ _ _ _ _ (bRi_e (fun r19 s17 k18 => ?_)) k15
      show A (79, [.ref l0, .ref 3, .int l2, .int l3, .long l4, .float 0, .int l6, .int r16, .int l8, .int l9, .int t0], [.int r19, .int l3], s17)
      refine bGo hA 4 15 (148, .iadd, 1, 80, 0, [], []) rfl rfl rfl ?_
      refine bGo hA 5 0 (149, .istore_n 3, 1, 81, 0, [3], []) rfl rfl rfl ?_
      refine bGo hA 5 1 (150, .aload_n 0, 1, 82, 0, [0], []) rfl rfl rfl ?_
      refine bGo hA 5 2 (151, .iload 7, 2, 83, 0, [7], []) rfl rfl rfl ?_
      refine bGo hA 5 3 (153, .iconst (-1), 1, 84, 0, [], [(-1, 0)]) rfl rfl rfl ?_
      refine bGo hA 5 4 (154, .if_icmp .ne (11), 3, 85, 89, [], []) rfl rfl rfl ?_
      refine ⟨fun c20 => ?_, fun c20 => ?_⟩
      · refine bGo hA 5 5 (157, .bipush (-2), 2, 86, 0, [], [(-2, 0)]) rfl rfl rfl ?_
        refine bGo hA 5 6 (159, .iload 9, 2, 87, 0, [9], []) rfl rfl rfl ?_
        refine bGo hA 5 7 (161, .isub, 1, 88, 0, [], []) rfl rfl rfl ?_
        refine bGo hA 5 8 (162, .goto (12), 3, 89, 94, [], []) rfl rfl rfl ?_
        refine bGo hA 5 14 (174, .invokevirtual 67, 3, 95, 0, [0, 4, 42, 1], []) rfl rfl rfl ?_
        refine ⟨h.1, ?_⟩
        refine hC _ _ _ _ _ (bRv_e (fun s21 k22 => ?_)) (k18.1 c20)
        show A (95, [.ref l0, .ref 3, .int l2, .int (l3 + r19), .long l4, .float 0, .int l6, .int r16, .int l8, .int l9, .int t0], [], s21)
        refine bGo hA 5 15 (177, .iinc 8 (1), 3, 96, 0, [8], [(1, 0)]) rfl rfl rfl ?_
        refine bGo hA 6 0 (180, .goto (-137), 3, 97, 24, [], []) rfl rfl rfl ?_
        exact k22
      · refine bGo hA 5 9 (165, .iload 9, 2, 90, 0, [9], []) rfl rfl rfl ?_
        refine bGo hA 5 10 (167, .sipush (1000), 3, 91, 0, [], [(1000, 0)]) rfl rfl rfl ?_
        refine bGo hA 5 11 (170, .imul, 1, 92, 0, [], []) rfl rfl rfl ?_
        refine bGo hA 5 12 (171, .iload 7, 2, 93, 0, [7], []) rfl rfl rfl ?_
        refine bGo hA 5 13 (173, .iadd, 1, 94, 0, [], []) rfl rfl rfl ?_
        refine bGo hA 5 14 (174, .invokevirtual 67, 3, 95, 0, [0, 4, 42, 1], []) rfl rfl rfl ?_
        refine ⟨h.1, ?_⟩
        refine hC _ _ _ _ _ (bRv_e (fun s23 k24 => ?_)) (k18.2 c20)
        show A (95, [.ref l0, .ref 3, .int l2, .int (l3 + r19), .long l4, .float 0, .int l6, .int r16, .int l8, .int l9, .int t0], [], s23)
        refine bGo hA 5 15 (177, .iinc 8 (1), 3, 96, 0, [8], [(1, 0)]) rfl rfl rfl ?_
        refine bGo hA 6 0 (180, .goto (-137), 3, 97, 24, [], []) rfl rfl rfl ?_
        exact k24
    · refine bGo hA 4 5 (129, .iconst (-1), 1, 70, 0, [], [(-1, 0)]) rfl rfl rfl ?_
      refine bGo hA 4 6 (130, .goto (9), 3, 71, 74, [], []) rfl rfl rfl ?_
      refine bGo hA 4 10 (139, .istore 7, 2, 75, 0, [7], []) rfl rfl rfl ?_
      refine bGo hA 4 11 (141, .iload_n 3, 1, 76, 0, [3], []) rfl rfl rfl ?_
      refine bGo hA 4 12 (142, .iload 7, 2, 77, 0, [7], []) rfl rfl rfl ?_
      refine bGo hA 4 13 (144, .iconst (0), 1, 78, 0, [], [(0, 0)]) rfl rfl rfl ?_
      refine bGo hA 4 14 (145, .invokestatic 45, 3, 79, 0, [2, 359, 2], []) rfl rfl rfl ?_
      refine hC _ _ _ _ _ (bRi_e (fun r27 s25 k26 => ?_)) ((h.2.2.2 c1).2 c13)
      show A (79, [.ref l0, .ref 3, .int l2, .int l3, .long l4, .float 0, .int l6, .int (-1), .int l8, .int l9, .int t0], [.int r27, .int l3], s25)
      refine bGo hA 4 15 (148, .iadd, 1, 80, 0, [], []) rfl rfl rfl ?_
      refine bGo hA 5 0 (149, .istore_n 3, 1, 81, 0, [3], []) rfl rfl rfl ?_
      refine bGo hA 5 1 (150, .aload_n 0, 1, 82, 0, [0], []) rfl rfl rfl ?_
      refine bGo hA 5 2 (151, .iload 7, 2, 83, 0, [7], []) rfl rfl rfl ?_
      refine bGo hA 5 3 (153, .iconst (-1), 1, 84, 0, [], [(-1, 0)]) rfl rfl rfl ?_
      refine bGo hA 5 4 (154, .if_icmp .ne (11), 3, 85, 89, [], []) rfl rfl rfl ?_
      refine ⟨fun _ => ?_, fun c => absurd (by decide) c⟩
      refine bGo hA 5 5 (157, .bipush (-2), 2, 86, 0, [], [(-2, 0)]) rfl rfl rfl ?_
      refine bGo hA 5 6 (159, .iload 9, 2, 87, 0, [9], []) rfl rfl rfl ?_
      refine bGo hA 5 7 (161, .isub, 1, 88, 0, [], []) rfl rfl rfl ?_
      refine bGo hA 5 8 (162, .goto (12), 3, 89, 94, [], []) rfl rfl rfl ?_
      refine bGo hA 5 14 (174, .invokevirtual 67, 3, 95, 0, [0, 4, 42, 1], []) rfl rfl rfl ?_
      refine ⟨h.1, ?_⟩
      refine hC _ _ _ _ _ (bRv_e (fun s29 k30 => ?_)) k26
      show A (95, [.ref l0, .ref 3, .int l2, .int (l3 + r27), .long l4, .float 0, .int l6, .int (-1), .int l8, .int l9, .int t0], [], s29)
      refine bGo hA 5 15 (177, .iinc 8 (1), 3, 96, 0, [8], [(1, 0)]) rfl rfl rfl ?_
      refine bGo hA 6 0 (180, .goto (-137), 3, 97, 24, [], []) rfl rfl rfl ?_
      exact k30

theorem sg42_0 {lvl : Nat} {C : bCall} {Q : bPost} {A : bPt → Prop} (hC : bMono C) (hA : bClosed lvl bm42 C Q A) {a0 : Nat} {x1 : Int32} {σ : bSt} (h_a0 : a0 % 256 = 4)
  (h : (((σ.1 a0 5) < 0 → Q (.inl none) σ) ∧ (¬ (σ.1 a0 5) < 0 → (¬ bTy (256 * (1 * (a0 / 256) + 0) + 23) = 9 ∧ (((σ.1 a0 5) < (Int32.ofNat (bLen σ (256 * (1 * (a0 / 256) + 0) + 23))) → (bTy (256 * (1 * (a0 / 256) + 0) + 23) = 0 ∧ (vp_in (σ.1 a0 5) (bLen σ (256 * (1 * (a0 / 256) + 0) + 23)) ∧ ((256 * (1 * (a0 / 256) + 0) + 23) % 256 < 200 ∧ Q (.inl none) (bI (bI σ (256 * (1 * (a0 / 256) + 0) + 23) ((σ.1 a0 5)).toNatClampNeg x1) a0 5 (((bI σ (256 * (1 * (a0 / 256) + 0) + 23) ((σ.1 a0 5)).toNatClampNeg x1).1 a0 5) + 1)))))) ∧ (¬ (σ.1 a0 5) < (Int32.ofNat (bLen σ (256 * (1 * (a0 / 256) + 0) + 23))) → Q (.inl none) σ)))))) : A (0, [.ref a0, .int x1], [], σ) := by
  refine bGo hA 0 0 (0, .aload_n 0, 1, 1, 0, [0], []) rfl rfl rfl ?_
  refine bGo hA 0 1 (1, .getfield 31, 3, 2, 0, [4, 5, 0, 0, 0, 0], []) rfl rfl rfl ?_
  refine ⟨h_a0, ?_⟩
  refine bGo hA 0 2 (4, .ifCond .lt (35), 3, 3, 21, [], []) rfl rfl rfl ?_
  refine ⟨fun c1 => ?_, fun c1 => ?_⟩
  · refine bGo hA 1 5 (39, .return_, 1, 0, 0, [0], []) rfl rfl rfl ?_
    exact (h.1 c1)
  · refine bGo hA 0 3 (7, .aload_n 0, 1, 4, 0, [0], []) rfl rfl rfl ?_
    refine bGo hA 0 4 (8, .getfield 31, 3, 5, 0, [4, 5, 0, 0, 0, 0], []) rfl rfl rfl ?_
    refine ⟨h_a0, ?_⟩
    refine bGo hA 0 5 (11, .aload_n 0, 1, 6, 0, [0], []) rfl rfl rfl ?_
    refine bGo hA 0 6 (12, .getfield 19, 3, 7, 0, [4, 6, 3, 23, 1, 0], []) rfl rfl rfl ?_
    refine ⟨h_a0, ?_⟩
    refine bGo hA 0 7 (15, .arraylength, 1, 8, 0, [], []) rfl rfl rfl ?_
    refine ⟨(h.2 c1).1, ?_⟩
    refine bGo hA 0 8 (16, .if_icmp .ge (23), 3, 9, 21, [], []) rfl rfl rfl ?_
    refine ⟨fun c2 => ?_, fun c2 => ?_⟩
    · refine bGo hA 0 9 (19, .aload_n 0, 1, 10, 0, [0], []) rfl rfl rfl ?_
      refine bGo hA 0 10 (20, .getfield 19, 3, 11, 0, [4, 6, 3, 23, 1, 0], []) rfl rfl rfl ?_
      refine ⟨h_a0, ?_⟩
      refine bGo hA 0 11 (23, .aload_n 0, 1, 12, 0, [0], []) rfl rfl rfl ?_
      refine bGo hA 0 12 (24, .getfield 31, 3, 13, 0, [4, 5, 0, 0, 0, 0], []) rfl rfl rfl ?_
      refine ⟨h_a0, ?_⟩
      refine bGo hA 0 13 (27, .iload_n 1, 1, 14, 0, [1], []) rfl rfl rfl ?_
      refine bGo hA 0 14 (28, .iastore, 1, 15, 0, [], []) rfl rfl rfl ?_
      refine ⟨((h.2 c1).2.1 c2).1, ((h.2 c1).2.1 c2).2.1, ((h.2 c1).2.1 c2).2.2.1, ?_⟩
      refine bGo hA 0 15 (29, .aload_n 0, 1, 16, 0, [0], []) rfl rfl rfl ?_
      refine bGo hA 1 0 (30, .dup, 1, 17, 0, [], []) rfl rfl rfl ?_
      refine bGo hA 1 1 (31, .getfield 31, 3, 18, 0, [4, 5, 0, 0, 0, 0], []) rfl rfl rfl ?_
      refine ⟨h_a0, ?_⟩
      refine bGo hA 1 2 (34, .iconst (1), 1, 19, 0, [], [(1, 0)]) rfl rfl rfl ?_
      refine bGo hA 1 3 (35, .iadd, 1, 20, 0, [], []) rfl rfl rfl ?_
      refine bGo hA 1 4 (36, .putfield 31, 3, 21, 0, [4, 5, 0, 0, 0, 0], []) rfl rfl rfl ?_
      refine ⟨h_a0, ?_⟩
      refine bGo hA 1 5 (39, .return_, 1, 0, 0, [0], []) rfl rfl rfl ?_
      exact ((h.2 c1).2.1 c2).2.2.2
    · refine bGo hA 1 5 (39, .return_, 1, 0, 0, [0], []) rfl rfl rfl ?_
      exact ((h.2 c1).2.2 c2)

theorem sg43_0 {lvl : Nat} {C : bCall} {Q : bPost} {A : bPt → Prop} (hC : bMono C) (hA : bClosed lvl bm43 C Q A) {a0 : Nat} {a1 : Nat} {σ : bSt} (h_a0 : a0 % 256 = 4) (h_a1 : a1 % 256 = 4)
  (h : (((σ.1 a0 0) = (σ.1 a1 0) → (((σ.1 a0 1) = (σ.1 a1 1) → (((σ.1 a0 2) = (σ.1 a1 2) → (((σ.1 a0 3) = (σ.1 a1 3) → (((σ.1 a0 5) = (σ.1 a1 5) → (¬ bTy (256 * (1 * (a0 / 256) + 0) + 22) = 9 ∧ (¬ bTy (256 * (1 * (a1 / 256) + 0) + 22) = 9 ∧ (C 360 [.int (Int32.ofNat (bLen σ (256 * (1 * (a0 / 256) + 0) + 22))), .int (Int32.ofNat (bLen σ (256 * (1 * (a1 / 256) + 0) + 22)))] σ (bRi (fun r8 s6 => (C 360 [.int (σ.1 a0 3), .int r8] s6 (bRi (fun r11 s9 => A (42, [.ref a0, .ref a1, .int 1, .int r11, .int 0, .float 0], [], s9)))))))))) ∧ (¬ (σ.1 a0 5) = (σ.1 a1 5) → (¬ bTy (256 * (1 * (a0 / 256) + 0) + 22) = 9 ∧ (¬ bTy (256 * (1 * (a1 / 256) + 0) + 22) = 9 ∧ (C 360 [.int (Int32.ofNat (bLen σ (256 * (1 * (a0 / 256) + 0) + 22))), .int (Int32.ofNat (bLen σ (256 * (1 * (a1 / 256) + 0) + 22)))] σ (bRi (fun r14 s12 => (C 360 [.int (σ.1 a0 3), .int r14] s12 (bRi (fun r17 s15 => A (42, [.ref a0, .ref a1, .int 0, .int r17, .int 0, .float 0], [], s15)))))))))))) ∧ (¬ (σ.1 a0 3) = (σ.1 a1 3) → (¬ bTy (256 * (1 * (a0 / 256) + 0) + 22) = 9 ∧ (¬ bTy (256 * (1 * (a1 / 256) + 0) + 22) = 9 ∧ (C 360 [.int (Int32.ofNat (bLen σ (256 * (1 * (a0 / 256) + 0) + 22))), .int (Int32.ofNat (bLen σ (256 * (1 * (a1 / 256) + 0) + 22)))] σ (bRi (fun r20 s18 => (C 360 [.int (σ.1 a0 3), .int r20] s18 (bRi (fun r23 s21 => A (42, [.ref a0, .ref a1, .int 0, .int r23, .int 0, .float 0], [], s21)))))))))))) ∧ (¬ (σ.1 a0 2) = (σ.1 a1 2) → (¬ bTy (256 * (1 * (a0 / 256) + 0) + 22) = 9 ∧ (¬ bTy (256 * (1 * (a1 / 256) + 0) + 22) = 9 ∧ (C 360 [.int (Int32.ofNat (bLen σ (256 * (1 * (a0 / 256) + 0) + 22))), .int (Int32.ofNat (bLen σ (256 * (1 * (a1 / 256) + 0) + 22)))] σ (bRi (fun r26 s24 => (C 360 [.int (σ.1 a0 3), .int r26] s24 (bRi (fun r29 s27 => A (42, [.ref a0, .ref a1, .int 0, .int r29, .int 0, .float 0], [], s27)))))))))))) ∧ (¬ (σ.1 a0 1) = (σ.1 a1 1) → (¬ bTy (256 * (1 * (a0 / 256) + 0) + 22) = 9 ∧ (¬ bTy (256 * (1 * (a1 / 256) + 0) + 22) = 9 ∧ (C 360 [.int (Int32.ofNat (bLen σ (256 * (1 * (a0 / 256) + 0) + 22))), .int (Int32.ofNat (bLen σ (256 * (1 * (a1 / 256) + 0) + 22)))] σ (bRi (fun r32 s30 => (C 360 [.int (σ.1 a0 3), .int r32] s30 (bRi (fun r35 s33 => A (42, [.ref a0, .ref a1, .int 0, .int r35, .int 0, .float 0], [], s33)))))))))))) ∧ (¬ (σ.1 a0 0) = (σ.1 a1 0) → (¬ bTy (256 * (1 * (a0 / 256) + 0) + 22) = 9 ∧ (¬ bTy (256 * (1 * (a1 / 256) + 0) + 22) = 9 ∧ (C 360 [.int (Int32.ofNat (bLen σ (256 * (1 * (a0 / 256) + 0) + 22))), .int (Int32.ofNat (bLen σ (256 * (1 * (a1 / 256) + 0) + 22)))] σ (bRi (fun r38 s36 => (C 360 [.int (σ.1 a0 3), .int r38] s36 (bRi (fun r41 s39 => A (42, [.ref a0, .ref a1, .int 0, .int r41, .int 0, .float 0], [], s39)))))))))))) : A (0, [.ref a0, .ref a1, .float 0, .float 0, .float 0, .float 0], [], σ) := by
  refine bGo hA 0 0 (0, .aload_n 0, 1, 1, 0, [0], []) rfl rfl rfl ?_
  refine bGo hA 0 1 (1, .getfield 9, 3, 2, 0, [4, 0, 0, 0, 0, 0], []) rfl rfl rfl ?_
  refine ⟨h_a0, ?_⟩
  refine bGo hA 0 2 (4, .aload_n 1, 1, 3, 0, [1], []) rfl rfl rfl ?_
  refine bGo hA 0 3 (5, .getfield 9, 3, 4, 0, [4, 0, 0, 0, 0, 0], []) rfl rfl rfl ?_
  refine ⟨h_a1, ?_⟩
  refine bGo hA 0 4 (8, .if_icmp .ne (51), 3, 5, 27, [], []) rfl rfl rfl ?_
  refine ⟨fun c1 => ?_, fun c1 => ?_⟩
  · refine bGo hA 0 5 (11, .aload_n 0, 1, 6, 0, [0], []) rfl rfl rfl ?_
    refine bGo hA 0 6 (12, .getfield 25, 3, 7, 0, [4, 1, 0, 0, 0, 0], []) rfl rfl rfl ?_
    refine ⟨h_a0, ?_⟩
    refine bGo hA 0 7 (15, .aload_n 1, 1, 8, 0, [1], []) rfl rfl rfl ?_
    refine bGo hA 0 8 (16, .getfield 25, 3, 9, 0, [4, 1, 0, 0, 0, 0], []) rfl rfl rfl ?_
    refine ⟨h_a1, ?_⟩
    refine bGo hA 0 9 (19, .if_icmp .ne (40), 3, 10, 27, [], []) rfl rfl rfl ?_
    refine ⟨fun c2 => ?_, fun c2 => ?_⟩
    · refine bGo hA 0 10 (22, .aload_n 0, 1, 11, 0, [0], []) rfl rfl rfl ?_
      refine bGo hA 0 11 (23, .getfield 28, 3, 12, 0, [4, 2, 0, 0, 0, 0], []) rfl rfl rfl ?_
      refine ⟨h_a0, ?_⟩
      refine bGo hA 0 12 (26, .aload_n 1, 1, 13, 0, [1], []) rfl rfl rfl ?_
      refine bGo hA 0 13 (27, .getfield 28, 3, 14, 0, [4, 2, 0, 0, 0, 0], []) rfl rfl rfl ?_
      refine ⟨h_a1, ?_⟩
      refine bGo hA 0 14 (30, .if_icmp .ne (29), 3, 15, 27, [], []) rfl rfl rfl ?_
      refine ⟨fun c3 => ?_, fun c3 => ?_⟩
      · refine bGo hA 0 15 (33, .aload_n 0, 1, 16, 0, [0], []) rfl rfl rfl ?_
        refine bGo hA 1 0 (34, .getfield 42, 3, 17, 0, [4, 3, 0, 0, 0, 0], []) rfl rfl rfl ?_
        refine ⟨h_a0, ?_⟩
        refine bGo hA 1 1 (37, .aload_n 1, 1, 18, 0, [1], []) rfl rfl rfl ?_
        refine bGo hA 1 2 (38, .getfield 42, 3, 19, 0, [4, 3, 0, 0, 0, 0], []) rfl rfl rfl ?_
        refine ⟨h_a1, ?_⟩
        refine bGo hA 1 3 (41, .if_icmp .ne (18), 3, 20, 27, [], []) rfl rfl rfl ?_
        refine ⟨fun c4 => ?_, fun c4 => ?_⟩
        · refine bGo hA 1 4 (44, .aload_n 0, 1, 21, 0, [0], []) rfl rfl rfl ?_
          refine bGo hA 1 5 (45, .getfield 31, 3, 22, 0, [4, 5, 0, 0, 0, 0], []) rfl rfl rfl ?_
          refine ⟨h_a0, ?_⟩
          refine bGo hA 1 6 (48, .aload_n 1, 1, 23, 0, [1], []) rfl rfl rfl ?_
          refine bGo hA 1 7 (49, .getfield 31, 3, 24, 0, [4, 5, 0, 0, 0, 0], []) rfl rfl rfl ?_
          refine ⟨h_a1, ?_⟩
          refine bGo hA 1 8 (52, .if_icmp .ne (7), 3, 25, 27, [], []) rfl rfl rfl ?_
          refine ⟨fun c5 => ?_, fun c5 => ?_⟩
          · refine bGo hA 1 9 (55, .iconst (1), 1, 26, 0, [], [(1, 0)]) rfl rfl rfl ?_
            refine bGo hA 1 10 (56, .goto (4), 3, 27, 28, [], []) rfl rfl rfl ?_
            refine bGo hA 1 12 (60, .istore_n 2, 1, 29, 0, [2], []) rfl rfl rfl ?_
            refine bGo hA 1 13 (61, .aload_n 0, 1, 30, 0, [0], []) rfl rfl rfl ?_
            refine bGo hA 1 14 (62, .getfield 42, 3, 31, 0, [4, 3, 0, 0, 0, 0], []) rfl rfl rfl ?_
            refine ⟨h_a0, ?_⟩
            refine bGo hA 1 15 (65, .aload_n 0, 1, 32, 0, [0], []) rfl rfl rfl ?_
            refine bGo hA 2 0 (66, .getfield 15, 3, 33, 0, [4, 4, 3, 22, 1, 0], []) rfl rfl rfl ?_
            refine ⟨h_a0, ?_⟩
            refine bGo hA 2 1 (69, .arraylength, 1, 34, 0, [], []) rfl rfl rfl ?_
            refine ⟨(((((h.1 c1).1 c2).1 c3).1 c4).1 c5).1, ?_⟩
            refine bGo hA 2 2 (70, .aload_n 1, 1, 35, 0, [1], []) rfl rfl rfl ?_
            refine bGo hA 2 3 (71, .getfield 15, 3, 36, 0, [4, 4, 3, 22, 1, 0], []) rfl rfl rfl ?_
            refine ⟨h_a1, ?_⟩
            refine bGo hA 2 4 (74, .arraylength, 1, 37, 0, [], []) rfl rfl rfl ?_
            refine ⟨(((((h.1 c1).1 c2).1 c3).1 c4).1 c5).2.1, ?_⟩
            refine bGo hA 2 5 (75, .invokestatic 71, 3, 38, 0, [2, 360, 2], []) rfl rfl rfl ?_
            refine hC _ _ _ _ _ (bRi_e (fun r8 s6 k7 => ?_)) (((((h.1 c1).1 c2).1 c3).1 c4).1 c5).2.2
            show A (38, [.ref a0, .ref a1, .int 1, .float 0, .float 0, .float 0], [.int r8, .int (σ.1 a0 3)], s6)
            refine bGo hA 2 6 (78, .invokestatic 71, 3, 39, 0, [2, 360, 2], []) rfl rfl rfl ?_
            refine hC _ _ _ _ _ (bRi_e (fun r11 s9 k10 => ?_)) k7
            show A (39, [.ref a0, .ref a1, .int 1, .float 0, .float 0, .float 0], [.int r11], s9)
            refine bGo hA 2 7 (81, .istore_n 3, 1, 40, 0, [3], []) rfl rfl rfl ?_
            refine bGo hA 2 8 (82, .iconst (0), 1, 41, 0, [], [(0, 0)]) rfl rfl rfl ?_
            refine bGo hA 2 9 (83, .istore 4, 2, 42, 0, [4], []) rfl rfl rfl ?_
            exact k10
          · refine bGo hA 1 11 (59, .iconst (0), 1, 28, 0, [], [(0, 0)]) rfl rfl rfl ?_
            refine bGo hA 1 12 (60, .istore_n 2, 1, 29, 0, [2], []) rfl rfl rfl ?_
            refine bGo hA 1 13 (61, .aload_n 0, 1, 30, 0, [0], []) rfl rfl rfl ?_
            refine bGo hA 1 14 (62, .getfield 42, 3, 31, 0, [4, 3, 0, 0, 0, 0], []) rfl rfl rfl ?_
            refine ⟨h_a0, ?_⟩
            refine bGo hA 1 15 (65, .aload_n 0, 1, 32, 0, [0], []) rfl rfl rfl ?_
            refine bGo hA 2 0 (66, .getfield 15, 3, 33, 0, [4, 4, 3, 22, 1, 0], []) rfl rfl rfl ?_
            refine ⟨h_a0, ?_⟩
            refine bGo hA 2 1 (69, .arraylength, 1, 34, 0, [], []) rfl rfl rfl ?_
            refine ⟨(((((h.1 c1).1 c2).1 c3).1 c4).2 c5).1, ?_⟩
            refine bGo hA 2 2 (70, .aload_n 1, 1, 35, 0, [1], []) rfl rfl rfl ?_
            refine bGo hA 2 3 (71, .getfield 15, 3, 36, 0, [4, 4, 3, 22, 1, 0], []) rfl rfl rfl ?_
            refine ⟨h_a1, ?_⟩
            refine bGo hA 2 4 (74, .arraylength, 1, 37, 0, [], []) rfl rfl rfl ?_
            refine ⟨(((((h.1 c1).1 c2).1 c3).1 c4).2 c5).2.1, ?_⟩
            refine bGo hA 2 5 (75, .invokestatic 71, 3, 38, 0, [2, 360, 2], []) rfl rfl rfl ?_
            refine hC _ _ _ _ _ (bRi_e (fun r14 s12 k13 => ?_)) (((((h.1 c1).1 c2).1 c3).1 c4).2 c5).2.2
            show A (38, [.ref a0, .ref a1, .int 0, .float 0, .float 0, .float 0], [.int r14, .int (σ.1 a0 3)], s12)
            refine bGo hA 2 6 (78, .invokestatic 71, 3, 39, 0, [2, 360, 2], []) rfl rfl rfl ?_
            refine hC _ _ _ _ _ (bRi_e (fun r17 s15 k16 => ?_)) k13
            show A (39, [.ref a0, .ref a1, .int 0, .float 0, .float 0, .float 0], [.int r17], s15)
            refine bGo hA 2 7 (81, .istore_n 3, 1, 40, 0, [3], []) rfl rfl rfl ?_
            refine bGo hA 2 8 (82, .iconst (0), 1, 41, 0, [], [(0, 0)]) rfl rfl rfl ?_
            refine bGo hA 2 9 (83, .istore 4, 2, 42, 0, [4], []) rfl rfl rfl ?_
            exact k16
        · refine bGo hA 1 11 (59, .iconst (0), 1, 28, 0, [], [(0, 0)]) rfl rfl rfl ?_
          refine bGo hA 1 12 (60, .istore_n 2, 1, 29, 0, [2], []) rfl rfl rfl ?_
          refine bGo hA 1 13 (61, .aload_n 0, 1, 30, 0, [0], []) rfl rfl rfl ?_
          refine bGo hA 1 14 (62, .getfield 42, 3, 31, 0, [4, 3, 0, 0, 0, 0], []) rfl rfl rfl ?_
          refine ⟨h_a0, ?_⟩
          refine bGo hA 1 15 (65, .aload_n 0, 1, 32, 0, [0], []) rfl rfl rfl ?_
          refine bGo hA 2 0 (66, .getfield 15, 3, 33, 0, [4, 4, 3, 22, 1, 0], []) rfl rfl rfl ?_
          refine ⟨h_a0, ?_⟩
          refine bGo hA 2 1 (69, .arraylength, 1, 34, 0, [], []) rfl rfl rfl ?_
          refine ⟨((((h.1 c1).1 c2).1 c3).2 c4).1, ?_⟩
          refine bGo hA 2 2 (70, .aload_n 1, 1, 35, 0, [1], []) rfl rfl rfl ?_
          refine bGo hA 2 3 (71, .getfield 15, 3, 36, 0, [4, 4, 3, 22, 1, 0], []) rfl rfl rfl ?_
          refine ⟨h_a1, ?_⟩
          refine bGo hA 2 4 (74, .arraylength, 1, 37, 0, [], []) rfl rfl rfl ?_
          refine ⟨((((h.1 c1).1 c2).1 c3).2 c4).2.1, ?_⟩
          refine bGo hA 2 5 (75, .invokestatic 71, 3, 38, 0, [2, 360, 2], []) rfl rfl rfl ?_
          refine hC _ _ _ _ _ (bRi_e (fun r20 s18 k19 => ?_)) ((((h.1 c1).1 c2).1 c3).2 c4).2.2
          show A (38, [.ref a0, .ref a1, .int 0, .float 0, .float 0, .float 0], [.int r20, .int (σ.1 a0 3)], s18)
          refine bGo hA 2 6 (78, .invokestatic 71, 3, 39, 0, [2, 360, 2], []) rfl rfl rfl ?_
          refine hC _ _ _ _ _ (bRi_e (fun r23 s21 k22 => ?_)) k19
          show A (39, [.ref a0, .ref a1, .int 0, .float 0, .float 0, .float 0], [.int r23], s21)
          refine bGo hA 2 7 (81, .istore_n 3, 1, 40, 0, [3], []) rfl rfl rfl ?_
          refine bGo hA 2 8 (82, .iconst (0), 1, 41, 0, [], [(0, 0)]) rfl rfl rfl ?_
          refine bGo hA 2 9 (83, .istore 4, 2, 42, 0, [4], []) rfl rfl rfl ?_
          exact k22
      · refine bGo hA 1 11 (59, .iconst (0), 1, 28, 0, [], [(0, 0)]) rfl rfl rfl ?_
        refine bGo hA 1 12 (60, .istore_n 2, 1, 29, 0, [2], []) rfl rfl rfl ?_
        refine bGo hA 1 13 (61, .aload_n 0, 1, 30, 0, [0], []) rfl rfl rfl ?_
        refine bGo hA 1 14 (62, .getfield 42, 3, 31, 0, [4, 3, 0, 0, 0, 0], []) rfl rfl rfl ?_
        refine ⟨h_a0, ?_⟩
        refine bGo hA 1 15 (65, .aload_n 0, 1, 32, 0, [0], []) rfl rfl rfl ?_
        refine bGo hA 2 0 (66, .getfield 15, 3, 33, 0, [4, 4, 3, 22, 1, 0], []) rfl rfl rfl ?_
        refine ⟨h_a0, ?_⟩
        refine bGo hA 2 1 (69, .arraylength, 1, 34, 0, [], []) rfl rfl rfl ?_
        refine ⟨(((h.1 c1).1 c2).2 c3).1, ?_⟩
        refine bGo hA 2 2 (70, .aload_n 1, 1, 35, 0, [1], []) rfl rfl rfl ?_
        refine bGo hA 2 3 (71, .getfield 15, 3, 36, 0, [4, 4, 3, 22, 1, 0], []) rfl rfl rfl ?_
        refine ⟨h_a1, ?_⟩
        refine bGo hA 2 4 (74, .arraylength, 1, 37, 0, [], []) rfl rfl rfl ?_
        refine ⟨(((h.1 c1).1 c2).2 c3).2.1, ?_⟩
        refine bGo hA 2 5 (75, .invokestatic 71, 3, 38, 0, [2, 360, 2], []) rfl rfl rfl ?_
        refine hC _ _ _ _ _ (bRi_e (fun r26 s24 k25 => ?_)) (((h.1 c1).1 c2).2 c3).2.2
        show A (38, [.ref a0, .ref a1, .int 0, .float 0, .float 0, .float 0], [.int r26, .int (σ.1 a0 3)], s24)
        refine bGo hA 2 6 (78, .invokestatic 71, 3, 39, 0, [2, 360, 2], []) rfl rfl rfl ?_
        refine hC _ _ _ _ _ (bRi_e (fun r29 s27 k28 => ?_)) k25
        show A (39, [.ref a0, .ref a1, .int 0, .float 0, .float 0, .float 0], [.int r29], s27)
        refine bGo hA 2 7 (81, .istore_n 3, 1, 40, 0, [3], []) rfl rfl rfl ?_
        refine bGo hA 2 8 (82, .iconst (0), 1, 41, 0, [], [(0, 0)]) rfl rfl rfl ?_
        refine bGo hA 2 9 (83, .istore 4, 2, 42, 0, [4], []) rfl rfl rfl ?_
        exact k28
    · refine bGo hA 1 11 (59, .iconst (0), 1, 28, 0, [], [(0, 0)]) rfl rfl rfl ?_
      refine bGo hA 1 12 (60, .istore_n 2, 1, 29, 0, [2], []) rfl rfl rfl ?_
      refine bGo hA 1 13 (61, .aload_n 0, 1, 30, 0, [0], []) rfl rfl rfl ?_
      refine bGo hA 1 14 (62, .getfield 42, 3, 31, 0, [4, 3, 0, 0, 0, 0], []) rfl rfl rfl ?_
      refine ⟨h_a0, ?_⟩
      refine bGo hA 1 15 (65, .aload_n 0, 1, 32, 0, [0], []) rfl rfl rfl ?_
      refine bGo hA 2 0 (66, .getfield 15, 3, 33, 0, [4, 4, 3, 22, 1, 0], []) rfl rfl rfl ?_
      refine ⟨h_a0, ?_⟩
      refine bGo hA 2 1 (69, .arraylength, 1, 34, 0, [], []) rfl rfl rfl ?_
      refine ⟨((h.1 c1).2 c2).1, ?_⟩
      refine bGo hA 2 2 (70, .aload_n 1, 1, 35, 0, [1], []) rfl rfl rfl ?_
      refine bGo hA 2 3 (71, .getfield 15, 3, 36, 0, [4, 4, 3, 22, 1, 0], []) rfl rfl rfl ?_
      refine ⟨h_a1, ?_⟩
      refine bGo hA 2 4 (74, .arraylength, 1, 37, 0, [], []) rfl rfl rfl ?_
      refine ⟨((h.1 c1).2 c2).2.1, ?_⟩
      refine bGo hA 2 5 (75, .invokestatic 71, 3, 38, 0, [2, 360, 2], []) rfl rfl rfl ?_
      refine hC _ _ _ _ _ (bRi_e (fun r32 s30 k31 => ?_)) ((h.1 c1).2 c2).2.2
      show A (38, [.ref a0, .ref a1, .int 0, .float 0, .float 0, .float 0], [.int r32, .int (σ.1 a0 3)], s30)
      refine bGo hA 2 6 (78, .invokestatic 71, 3, 39, 0, [2, 360, 2], []) rfl rfl rfl ?_
      refine hC _ _ _ _ _ (bRi_e (fun r35 s33 k34 => ?_)) k31
      show A (39, [.ref a0, .ref a1, .int 0, .float 0, .float 0, .float 0], [.int r35], s33)
      refine bGo hA 2 7 (81, .istore_n 3, 1, 40, 0, [3], []) rfl rfl rfl ?_
      refine bGo hA 2 8 (82, .iconst (0), 1, 41, 0, [], [(0, 0)]) rfl rfl rfl ?_
      refine bGo hA 2 9 (83, .istore 4, 2, 42, 0, [4], []) rfl rfl rfl ?_
      exact k34
  · refine bGo hA 1 11 (59, .iconst (0), 1, 28, 0, [], [(0, 0)]) rfl rfl rfl ?_
    refine bGo hA 1 12 (60, .istore_n 2, 1, 29, 0, [2], []) rfl rfl rfl ?_
    refine bGo hA 1 13 (61, .aload_n 0, 1, 30, 0, [0], []) rfl rfl rfl ?_
    refine bGo hA 1 14 (62, .getfield 42, 3, 31, 0, [4, 3, 0, 0, 0, 0], []) rfl rfl rfl ?_
    refine ⟨h_a0, ?_⟩
    refine bGo hA 1 15 (65, .aload_n 0, 1, 32, 0, [0], []) rfl rfl rfl ?_
    refine bGo hA 2 0 (66, .getfield 15, 3, 33, 0, [4, 4, 3, 22, 1, 0], []) rfl rfl rfl ?_
    refine ⟨h_a0, ?_⟩
    refine bGo hA 2 1 (69, .arraylength, 1, 34, 0, [], []) rfl rfl rfl ?_
    refine ⟨(h.2 c1).1, ?_⟩
    refine bGo hA 2 2 (70, .aload_n 1, 1, 35, 0, [1], []) rfl rfl rfl ?_
    refine bGo hA 2 3 (71, .getfield 15, 3, 36, 0, [4, 4, 3, 22, 1, 0], []) rfl rfl rfl ?_
    refine ⟨h_a1, ?_⟩
    refine bGo hA 2 4 (74, .arraylength, 1, 37, 0, [], []) rfl rfl rfl ?_
    refine ⟨(h.2 c1).2.1, ?_⟩
    refine bGo hA 2 5 (75, .invokestatic 71, 3, 38, 0, [2, 360, 2], []) rfl rfl rfl ?_
    refine hC _ _ _ _ _ (bRi_e (fun r38 s36 k37 => ?_)) (h.2 c1).2.2
    show A (38, [.ref a0, .ref a1, .int 0, .float 0, .float 0, .float 0], [.int r38, .int (σ.1 a0 3)], s36)
    refine bGo hA 2 6 (78, .invokestatic 71, 3, 39, 0, [2, 360, 2], []) rfl rfl rfl ?_
    refine hC _ _ _ _ _ (bRi_e (fun r41 s39 k40 => ?_)) k37
    show A (39, [.ref a0, .ref a1, .int 0, .float 0, .float 0, .float 0], [.int r41], s39)
    refine bGo hA 2 7 (81, .istore_n 3, 1, 40, 0, [3], []) rfl rfl rfl ?_
    refine bGo hA 2 8 (82, .iconst (0), 1, 41, 0, [], [(0, 0)]) rfl rfl rfl ?_
    refine bGo hA 2 9 (83, .istore 4, 2, 42, 0, [4], []) rfl rfl rfl ?_
    exact k40

theorem sg43_42 {lvl : Nat} {C : bCall} {Q : bPost} {A : bPt → Prop} (hC : bMono C) (hA : bClosed lvl bm43 C Q A) {l0 : Nat} {l1 : Nat} {l2 : Int32} {l3 : Int32} {l4 : Int32} {v5 : Value} {σ : bSt} 
  (h : ((l2 = 0 → (l0 % 256 = 4 ∧ (¬ bTy (256 * (1 * (l0 / 256) + 0) + 23) = 9 ∧ (l1 % 256 = 4 ∧ (¬ bTy (256 * (1 * (l1 / 256) + 0) + 23) = 9 ∧ (C 360 [.int (Int32.ofNat (bLen σ (256 * (1 * (l0 / 256) + 0) + 23))), .int (Int32.ofNat (bLen σ (256 * (1 * (l1 / 256) + 0) + 23)))] σ (bRi (fun r4 s2 => (C 360 [.int (σ.1 l0 5), .int r4] s2 (bRi (fun r7 s5 => A (75, [.ref l0, .ref l1, .int l2, .int l3, .int r7, .int 0], [], s5)))))))))))) ∧ (¬ l2 = 0 → ((l4 < l3 → (l0 % 256 = 4 ∧ (bTy (256 * (1 * (l0 / 256) + 0) + 22) = 0 ∧ (vp_in l4 (bLen σ (256 * (1 * (l0 / 256) + 0) + 22)) ∧ (l1 % 256 = 4 ∧ (bTy (256 * (1 * (l1 / 256) + 0) + 22) = 0 ∧ (vp_in l4 (bLen σ (256 * (1 * (l1 / 256) + 0) + 22)) ∧ (((σ.1 (256 * (1 * (l0 / 256) + 0) + 22) (l4).toNatClampNeg) = (σ.1 (256 * (1 * (l1 / 256) + 0) + 22) (l4).toNatClampNeg) → A (42, [.ref l0, .ref l1, .int 1, .int l3, .int (l4 + 1), v5], [], σ)) ∧ (¬ (σ.1 (256 * (1 * (l0 / 256) + 0) + 22) (l4).toNatClampNeg) = (σ.1 (256 * (1 * (l1 / 256) + 0) + 22) (l4).toNatClampNeg) → A (42, [.ref l0, .ref l1, .int 0, .int l3, .int (l4 + 1), v5], [], σ)))))))))) ∧ (¬ l4 < l3 → (l0 % 256 = 4 ∧ (¬ bTy (256 * (1 * (l0 / 256) + 0) + 23) = 9 ∧ (l1 % 256 = 4 ∧ (¬ bTy (256 * (1 * (l1 / 256) + 0) + 23) = 9 ∧ (C 360 [.int (Int32.ofNat (bLen σ (256 * (1 * (l0 / 256) + 0) + 23))), .int (Int32.ofNat (bLen σ (256 * (1 * (l1 / 256) + 0) + 23)))] σ (bRi (fun r12 s10 => (C 360 [.int (σ.1 l0 5), .int r12] s10 (bRi (fun r15 s13 => A (75, [.ref l0, .ref l1, .int l2, .int l3, .int r15, .int 0], [], s13)))))))))))))))) : A (42, [.ref l0, .ref l1, .int l2, .int l3, .int l4, v5], [], σ) := by
  refine bGo hA 2 10 (85, .iload_n 2, 1, 43, 0, [2], []) rfl rfl rfl ?_
  refine bGo hA 2 11 (86, .ifCond .eq (38), 3, 44, 62, [], []) rfl rfl rfl ?_
  refine ⟨fun c1 => ?_, fun c1 => ?_⟩
  · refine bGo hA 3 14 (124, .aload_n 0, 1, 63, 0, [0], []) rfl rfl rfl ?_
    refine bGo hA 3 15 (125, .getfield 31, 3, 64, 0, [4, 5, 0, 0, 0, 0], []) rfl rfl rfl ?_
    refine ⟨(h.1 c1).1, ?_⟩
    refine bGo hA 4 0 (128, .aload_n 0, 1, 65, 0, [0], []) rfl rfl rfl ?_
    refine bGo hA 4 1 (129, .getfield 19, 3, 66, 0, [4, 6, 3, 23, 1, 0], []) rfl rfl rfl ?_
    refine ⟨(h.1 c1).1, ?_⟩
    refine bGo hA 4 2 (132, .arraylength, 1, 67, 0, [], []) rfl rfl rfl ?_
    refine ⟨(h.1 c1).2.1, ?_⟩
    refine bGo hA 4 3 (133, .aload_n 1, 1, 68, 0, [1], []) rfl rfl rfl ?_
    refine bGo hA 4 4 (134, .getfield 19, 3, 69, 0, [4, 6, 3, 23, 1, 0], []) rfl rfl rfl ?_
    refine ⟨(h.1 c1).2.2.1, ?_⟩
    refine bGo hA 4 5 (137, .arraylength, 1, 70, 0, [], []) rfl rfl rfl ?_
    refine ⟨(h.1 c1).2.2.2.1, ?_⟩
    refine bGo hA 4 6 (138, .invokestatic 71, 3, 71, 0, [2, 360, 2], []) rfl rfl rfl ?_
    refine hC _ _ _ _ _ (bRi_e (fun r4 s2 k3 => ?_)) (h.1 c1).2.2.2.2
    show A (71, [.ref l0, .ref l1, .int l2, .int l3, .int l4, v5], [.int r4, .int (σ.1 l0 5)], s2)
    refine bGo hA 4 7 (141, .invokestatic 71, 3, 72, 0, [2, 360, 2], []) rfl rfl rfl ?_
    refine hC _ _ _ _ _ (bRi_e (fun r7 s5 k6 => ?_)) k3
    show A (72, [.ref l0, .ref l1, .int l2, .int l3, .int l4, v5], [.int r7], s5)
    refine bGo hA 4 8 (144, .istore 4, 2, 73, 0, [4], []) rfl rfl rfl ?_
    refine bGo hA 4 9 (146, .iconst (0), 1, 74, 0, [], [(0, 0)]) rfl rfl rfl ?_
    refine bGo hA 4 10 (147, .istore 5, 2, 75, 0, [5], []) rfl rfl rfl ?_
    exact k6
  · refine bGo hA 2 12 (89, .iload 4, 2, 45, 0, [4], []) rfl rfl rfl ?_
    refine bGo hA 2 13 (91, .iload_n 3, 1, 46, 0, [3], []) rfl rfl rfl ?_
    refine bGo hA 2 14 (92, .if_icmp .ge (32), 3, 47, 62, [], []) rfl rfl rfl ?_
    refine ⟨fun c8 => ?_, fun c8 => ?_⟩
    · refine bGo hA 2 15 (95, .aload_n 0, 1, 48, 0, [0], []) rfl rfl rfl ?_
      refine bGo hA 3 0 (96, .getfield 15, 3, 49, 0, [4, 4, 3, 22, 1, 0], []) rfl rfl rfl ?_
      refine ⟨((h.2 c1).1 c8).1, ?_⟩
      refine bGo hA 3 1 (99, .iload 4, 2, 50, 0, [4], []) rfl rfl rfl ?_
      refine bGo hA 3 2 (101, .iaload, 1, 51, 0, [], []) rfl rfl rfl ?_
      refine ⟨((h.2 c1).1 c8).2.1, ((h.2 c1).1 c8).2.2.1, ?_⟩
      refine bGo hA 3 3 (102, .aload_n 1, 1, 52, 0, [1], []) rfl rfl rfl ?_
      refine bGo hA 3 4 (103, .getfield 15, 3, 53, 0, [4, 4, 3, 22, 1, 0], []) rfl rfl rfl ?_
      refine ⟨((h.2 c1).1 c8).2.2.2.1, ?_⟩
      refine bGo hA 3 5 (106, .iload 4, 2, 54, 0, [4], []) rfl rfl rfl ?_
      refine bGo hA 3 6 (108, .iaload, 1, 55, 0, [], []) rfl rfl rfl ?_
      refine ⟨((h.2 c1).1 c8).2.2.2.2.1, ((h.2 c1).1 c8).2.2.2.2.2.1, ?_⟩
      refine bGo hA 3 7 (109, .if_icmp .ne (7), 3, 56, 58, [], []) rfl rfl rfl ?_
      refine ⟨fun c9 => ?_, fun c9 => ?_⟩
      · refine bGo hA 3 8 (112, .iconst (1), 1, 57, 0, [], [(1, 0)]) rfl rfl rfl ?_
        refine bGo hA 3 9 (113, .goto (4), 3, 58, 59, [], []) rfl rfl rfl ?_
        refine bGo hA 3 11 (117, .istore_n 2, 1, 60, 0, [2], []) rfl rfl rfl ?_
        refine bGo hA 3 12 (118, .iinc 4 (1), 3, 61, 0, [4], [(1, 0)]) rfl rfl rfl ?_
        refine bGo hA 3 13 (121, .goto (-36), 3, 62, 42, [], []) rfl rfl rfl ?_
        exact (((h.2 c1).1 c8).2.2.2.2.2.2.1 c9)
      · refine bGo hA 3 10 (116, .iconst (0), 1, 59, 0, [], [(0, 0)]) rfl rfl rfl ?_
        refine bGo hA 3 11 (117, .istore_n 2, 1, 60, 0, [2], []) rfl rfl rfl ?_
        refine bGo hA 3 12 (118, .iinc 4 (1), 3, 61, 0, [4], [(1, 0)]) rfl rfl rfl ?_
        refine bGo hA 3 13 (121, .goto (-36), 3, 62, 42, [], []) rfl rfl rfl ?_
        exact (((h.2 c1).1 c8).2.2.2.2.2.2.2 c9)
    · refine bGo hA 3 14 (124, .aload_n 0, 1, 63, 0, [0], []) rfl rfl rfl ?_
      refine bGo hA 3 15 (125, .getfield 31, 3, 64, 0, [4, 5, 0, 0, 0, 0], []) rfl rfl rfl ?_
      refine ⟨((h.2 c1).2 c8).1, ?_⟩
      refine bGo hA 4 0 (128, .aload_n 0, 1, 65, 0, [0], []) rfl rfl rfl ?_
      refine bGo hA 4 1 (129, .getfield 19, 3, 66, 0, [4, 6, 3, 23, 1, 0], []) rfl rfl rfl ?_
      refine ⟨((h.2 c1).2 c8).1, ?_⟩
      refine bGo hA 4 2 (132, .arraylength, 1, 67, 0, [], []) rfl rfl rfl ?_
      refine ⟨((h.2 c1).2 c8).2.1, ?_⟩
      refine bGo hA 4 3 (133, .aload_n 1, 1, 68, 0, [1], []) rfl rfl rfl ?_
      refine bGo hA 4 4 (134, .getfield 19, 3, 69, 0, [4, 6, 3, 23, 1, 0], []) rfl rfl rfl ?_
      refine ⟨((h.2 c1).2 c8).2.2.1, ?_⟩
      refine bGo hA 4 5 (137, .arraylength, 1, 70, 0, [], []) rfl rfl rfl ?_
      refine ⟨((h.2 c1).2 c8).2.2.2.1, ?_⟩
      refine bGo hA 4 6 (138, .invokestatic 71, 3, 71, 0, [2, 360, 2], []) rfl rfl rfl ?_
      refine hC _ _ _ _ _ (bRi_e (fun r12 s10 k11 => ?_)) ((h.2 c1).2 c8).2.2.2.2
      show A (71, [.ref l0, .ref l1, .int l2, .int l3, .int l4, v5], [.int r12, .int (σ.1 l0 5)], s10)
      refine bGo hA 4 7 (141, .invokestatic 71, 3, 72, 0, [2, 360, 2], []) rfl rfl rfl ?_
      refine hC _ _ _ _ _ (bRi_e (fun r15 s13 k14 => ?_)) k11
      show A (72, [.ref l0, .ref l1, .int l2, .int l3, .int l4, v5], [.int r15], s13)
      refine bGo hA 4 8 (144, .istore 4, 2, 73, 0, [4], []) rfl rfl rfl ?_
      refine bGo hA 4 9 (146, .iconst (0), 1, 74, 0, [], [(0, 0)]) rfl rfl rfl ?_
      refine bGo hA 4 10 (147, .istore 5, 2, 75, 0, [5], []) rfl rfl rfl ?_
      exact k14

theorem sg43_75 {lvl : Nat} {C : bCall} {Q : bPost} {A : bPt → Prop} (hC : bMono C) (hA : bClosed lvl bm43 C Q A) {l0 : Nat} {l1 : Nat} {l2 : Int32} {v3 : Value} {l4 : Int32} {l5 : Int32} {σ : bSt} 
  (h : ((l2 = 0 → ((l2 = 0 ∨ l2 = 1) ∧ Q (.inl (some (.int l2))) σ)) ∧ (¬ l2 = 0 → ((l5 < l4 → (l0 % 256 = 4 ∧ (bTy (256 * (1 * (l0 / 256) + 0) + 23) = 0 ∧ (vp_in l5 (bLen σ (256 * (1 * (l0 / 256) + 0) + 23)) ∧ (l1 % 256 = 4 ∧ (bTy (256 * (1 * (l1 / 256) + 0) + 23) = 0 ∧ (vp_in l5 (bLen σ (256 * (1 * (l1 / 256) + 0) + 23)) ∧ (((σ.1 (256 * (1 * (l0 / 256) + 0) + 23) (l5).toNatClampNeg) = (σ.1 (256 * (1 * (l1 / 256) + 0) + 23) (l5).toNatClampNeg) → A (75, [.ref l0, .ref l1, .int 1, v3, .int l4, .int (l5 + 1)], [], σ)) ∧ (¬ (σ.1 (256 * (1 * (l0 / 256) + 0) + 23) (l5).toNatClampNeg) = (σ.1 (256 * (1 * (l1 / 256) + 0) + 23) (l5).toNatClampNeg) → A (75, [.ref l0, .ref l1, .int 0, v3, .int l4, .int (l5 + 1)], [], σ)))))))))) ∧ (¬ l5 < l4 → ((l2 = 0 ∨ l2 = 1) ∧ Q (.inl (some (.int l2))) σ)))))) : A (75, [.ref l0, .ref l1, .int l2, v3, .int l4, .int l5], [], σ) := by
  refine bGo hA 4 11 (149, .iload_n 2, 1, 76, 0, [2], []) rfl rfl rfl ?_
  refine bGo hA 4 12 (150, .ifCond .eq (39), 3, 77, 95, [], []) rfl rfl rfl ?_
  refine ⟨fun c1 => ?_, fun c1 => ?_⟩
  · refine bGo hA 5 15 (189, .iload_n 2, 1, 96, 0, [2], []) rfl rfl rfl ?_
    refine bGo hA 6 0 (190, .ireturn, 1, 0, 0, [2], []) rfl rfl rfl ?_
    exact (h.1 c1)
  · refine bGo hA 4 13 (153, .iload 5, 2, 78, 0, [5], []) rfl rfl rfl ?_
    refine bGo hA 4 14 (155, .iload 4, 2, 79, 0, [4], []) rfl rfl rfl ?_
    refine bGo hA 4 15 (157, .if_icmp .ge (32), 3, 80, 95, [], []) rfl rfl rfl ?_
    refine ⟨fun c2 => ?_, fun c2 => ?_⟩
    · refine bGo hA 5 0 (160, .aload_n 0, 1, 81, 0, [0], []) rfl rfl rfl ?_
      refine bGo hA 5 1 (161, .getfield 19, 3, 82, 0, [4, 6, 3, 23, 1, 0], []) rfl rfl rfl ?_
      refine ⟨((h.2 c1).1 c2).1, ?_⟩
      refine bGo hA 5 2 (164, .iload 5, 2, 83, 0, [5], []) rfl rfl rfl ?_
      refine bGo hA 5 3 (166, .iaload, 1, 84, 0, [], []) rfl rfl rfl ?_
      refine ⟨((h.2 c1).1 c2).2.1, ((h.2 c1).1 c2).2.2.1, ?_⟩
      refine bGo hA 5 4 (167, .aload_n 1, 1, 85, 0, [1], []) rfl rfl rfl ?_
      refine bGo hA 5 5 (168, .getfield 19, 3, 86, 0, [4, 6, 3, 23, 1, 0], []) rfl rfl rfl ?_
      refine ⟨((h.2 c1).1 c2).2.2.2.1, ?_⟩
      refine bGo hA 5 6 (171, .iload 5, 2, 87, 0, [5], []) rfl rfl rfl ?_
      refine bGo hA 5 7 (173, .iaload, 1, 88, 0, [], []) rfl rfl rfl ?_
      refine ⟨((h.2 c1).1 c2).2.2.2.2.1, ((h.2 c1).1 c2).2.2.2.2.2.1, ?_⟩
      refine bGo hA 5 8 (174, .if_icmp .ne (7), 3, 89, 91, [], []) rfl rfl rfl ?_
      refine ⟨fun c3 => ?_, fun c3 => ?_⟩
      · refine bGo hA 5 9 (177, .iconst (1), 1, 90, 0, [], [(1, 0)]) rfl rfl rfl ?_
        refine bGo hA 5 10 (178, .goto (4), 3, 91, 92, [], []) rfl rfl rfl ?_
        refine bGo hA 5 12 (182, .istore_n 2, 1, 93, 0, [2], []) rfl rfl rfl ?_
        refine bGo hA 5 13 (183, .iinc 5 (1), 3, 94, 0, [5], [(1, 0)]) rfl rfl rfl ?_
        refine bGo hA 5 14 (186, .goto (-37), 3, 95, 75, [], []) rfl rfl rfl ?_
        exact (((h.2 c1).1 c2).2.2.2.2.2.2.1 c3)
      · refine bGo hA 5 11 (181, .iconst (0), 1, 92, 0, [], [(0, 0)]) rfl rfl rfl ?_
        refine bGo hA 5 12 (182, .istore_n 2, 1, 93, 0, [2], []) rfl rfl rfl ?_
        refine bGo hA 5 13 (183, .iinc 5 (1), 3, 94, 0, [5], [(1, 0)]) rfl rfl rfl ?_
        refine bGo hA 5 14 (186, .goto (-37), 3, 95, 75, [], []) rfl rfl rfl ?_
        exact (((h.2 c1).1 c2).2.2.2.2.2.2.2 c3)
    · refine bGo hA 5 15 (189, .iload_n 2, 1, 96, 0, [2], []) rfl rfl rfl ?_
      refine bGo hA 6 0 (190, .ireturn, 1, 0, 0, [2], []) rfl rfl rfl ?_
      exact ((h.2 c1).2 c2)

theorem sg44_0 {lvl : Nat} {C : bCall} {Q : bPost} {A : bPt → Prop} (hC : bMono C) (hA : bClosed lvl bm44 C Q A) {a0 : Nat} {a1 : Nat} {σ : bSt} (h_a0 : a0 % 256 = 4) (h_a1 : a1 % 256 = 4)
  (h : (∀ s1 : bSt, s1 = (bI (bI (bI (bI (bI σ a0 0 (σ.1 a1 0)) a0 1 ((bI σ a0 0 (σ.1 a1 0)).1 a1 1)) a0 2 ((bI (bI σ a0 0 (σ.1 a1 0)) a0 1 ((bI σ a0 0 (σ.1 a1 0)).1 a1 1)).1 a1 2)) a0 3 ((bI (bI (bI σ a0 0 (σ.1 a1 0)) a0 1 ((bI σ a0 0 (σ.1 a1 0)).1 a1 1)) a0 2 ((bI (bI σ a0 0 (σ.1 a1 0)) a0 1 ((bI σ a0 0 (σ.1 a1 0)).1 a1 1)).1 a1 2)).1 a1 3)) a0 5 ((bI (bI (bI (bI σ a0 0 (σ.1 a1 0)) a0 1 ((bI σ a0 0 (σ.1 a1 0)).1 a1 1)) a0 2 ((bI (bI σ a0 0 (σ.1 a1 0)) a0 1 ((bI σ a0 0 (σ.1 a1 0)).1 a1 1)).1 a1 2)) a0 3 ((bI (bI (bI σ a0 0 (σ.1 a1 0)) a0 1 ((bI σ a0 0 (σ.1 a1 0)).1 a1 1)) a0 2 ((bI (bI σ a0 0 (σ.1 a1 0)) a0 1 ((bI σ a0 0 (σ.1 a1 0)).1 a1 1)).1 a1 2)).1 a1 3)).1 a1 5)) → (((s1.1 a1 7) = 0 ∨ (s1.1 a1 7) = 1) ∧ (¬ bTy (256 * (1 * (a0 / 256) + 0) + 22) = 9 ∧ (¬ bTy (256 * (1 * (a1 / 256) + 0) + 22) = 9 ∧ (C 360 [.int (Int32.ofNat (bLen (bI (bI s1 a0 7 (s1.1 a1 7)) a0 8 ((bI s1 a0 7 (s1.1 a1 7)).1 a1 8)) (256 * (1 * (a0 / 256) + 0) + 22))), .int (Int32.ofNat (bLen (bI (bI s1 a0 7 (s1.1 a1 7)) a0 8 ((bI s1 a0 7 (s1.1 a1 7)).1 a1 8)) (256 * (1 * (a1 / 256) + 0) + 22)))] (bI (bI s1 a0 7 (s1.1 a1 7)) a0 8 ((bI s1 a0 7 (s1.1 a1 7)).1 a1 8)) (bRi (fun r4 s2 => (bTy (256 * (1 * (a1 / 256) + 0) + 22) = 0 ∧ (bTy (256 * (1 * (a0 / 256) + 0) + 22) = 0 ∧ (¬ (256 * (1 * (a1 / 256) + 0) + 22) = (256 * (1 * (a0 / 256) + 0) + 22) ∧ ((256 * (1 * (a0 / 256) + 0) + 22) % 256 < 200 ∧ (0 ≤ (r4 : Int32).toInt ∧ (0 ≤ (0 : Int32).toInt ∧ (0 ≤ (0 : Int32).toInt ∧ ((0 : Int32).toInt + (r4 : Int32).toInt ≤ (bLen s2 (256 * (1 * (a1 / 256) + 0) + 22) : Int) ∧ ((0 : Int32).toInt + (r4 : Int32).toInt ≤ (bLen s2 (256 * (1 * (a0 / 256) + 0) + 22) : Int) ∧ (¬ bTy (256 * (1 * (a0 / 256) + 0) + 23) = 9 ∧ (¬ bTy (256 * (1 * (a1 / 256) + 0) + 23) = 9 ∧ (C 360 [.int (Int32.ofNat (bLen ((fun a' k' => if a' = (256 * (1 * (a0 / 256) + 0) + 22) ∧ (0 : Int32).toInt.toNat ≤ k' ∧ k' < (0 : Int32).toInt.toNat + (r4 : Int32).toInt.toNat then s2.1 (256 * (1 * (a1 / 256) + 0) + 22) ((0 : Int32).toInt.toNat + (k' - (0 : Int32).toInt.toNat)) else s2.1 a' k', s2.2) : bSt) (256 * (1 * (a0 / 256) + 0) + 23))), .int (Int32.ofNat (bLen ((fun a' k' => if a' = (256 * (1 * (a0 / 256) + 0) + 22) ∧ (0 : Int32).toInt.toNat ≤ k' ∧ k' < (0 : Int32).toInt.toNat + (r4 : Int32).toInt.toNat then s2.1 (256 * (1 * (a1 / 256) + 0) + 22) ((0 : Int32).toInt.toNat + (k' - (0 : Int32).toInt.toNat)) else s2.1 a' k', s2.2) : bSt) (256 * (1 * (a1 / 256) + 0) + 23)))] ((fun a' k' => if a' = (256 * (1 * (a0 / 256) + 0) + 22) ∧ (0 : Int32).toInt.toNat ≤ k' ∧ k' < (0 : Int32).toInt.toNat + (r4 : Int32).toInt.toNat then s2.1 (256 * (1 * (a1 / 256) + 0) + 22) ((0 : Int32).toInt.toNat + (k' - (0 : Int32).toInt.toNat)) else s2.1 a' k', s2.2) : bSt) (bRi (fun r7 s5 => (bTy (256 * (1 * (a1 / 256) + 0) + 23) = 0 ∧ (bTy (256 * (1 * (a0 / 256) + 0) + 23) = 0 ∧ (¬ (256 * (1 * (a1 / 256) + 0) + 23) = (256 * (1 * (a0 / 256) + 0) + 23) ∧ ((256 * (1 * (a0 / 256) + 0) + 23) % 256 < 200 ∧ (0 ≤ (r7 : Int32).toInt ∧ (0 ≤ (0 : Int32).toInt ∧ (0 ≤ (0 : Int32).toInt ∧ ((0 : Int32).toInt + (r7 : Int32).toInt ≤ (bLen s5 (256 * (1 * (a1 / 256) + 0) + 23) : Int) ∧ ((0 : Int32).toInt + (r7 : Int32).toInt ≤ (bLen s5 (256 * (1 * (a0 / 256) + 0) + 23) : Int) ∧ Q (.inl none) ((fun a' k' => if a' = (256 * (1 * (a0 / 256) + 0) + 23) ∧ (0 : Int32).toInt.toNat ≤ k' ∧ k' < (0 : Int32).toInt.toNat + (r7 : Int32).toInt.toNat then s5.1 (256 * (1 * (a1 / 256) + 0) + 23) ((0 : Int32).toInt.toNat + (k' - (0 : Int32).toInt.toNat)) else s5.1 a' k', s5.2) : bSt)))))))))))))))))))))))))))))))) : A (0, [.ref a0, .ref a1], [], σ) := by
  refine bGo hA 0 0 (0, .aload_n 0, 1, 1, 0, [0], []) rfl rfl rfl ?_
  refine bGo hA 0 1 (1, .aload_n 1, 1, 2, 0, [1], []) rfl rfl rfl ?_
  refine bGo hA 0 2 (2, .getfield 9, 3, 3, 0, [4, 0, 0, 0, 0, 0], []) rfl rfl rfl ?_
  refine ⟨h_a1, ?_⟩
  refine bGo hA 0 3 (5, .putfield 9, 3, 4, 0, [4, 0, 0, 0, 0, 0], []) rfl rfl rfl ?_
  refine ⟨h_a0, ?_⟩
  refine bGo hA 0 4 (8, .aload_n 0, 1, 5, 0, [0], []) rfl rfl rfl ?_
  refine bGo hA 0 5 (9, .aload_n 1, 1, 6, 0, [1], []) rfl rfl rfl ?_
  refine bGo hA 0 6 (10, .getfield 25, 3, 7, 0, [4, 1, 0, 0, 0, 0], []) rfl rfl rfl ?_
  refine ⟨h_a1, ?_⟩
  refine bGo hA 0 7 (13, .putfield 25, 3, 8, 0, [4, 1, 0, 0, 0, 0], []) rfl rfl rfl ?_
  refine ⟨h_a0, ?_⟩
  refine bGo hA 0 8 (16, .aload_n 0, 1, 9, 0, [0], []) rfl rfl rfl ?_
  refine bGo hA 0 9 (17, .aload_n 1, 1, 10, 0, [1], []) rfl rfl rfl ?_
  refine bGo hA 0 10 (18, .getfield 28, 3, 11, 0, [4, 2, 0, 0, 0, 0], []) rfl rfl rfl ?_
  refine ⟨h_a1, ?_⟩
  refine bGo hA 0 11 (21, .putfield 28, 3, 12, 0, [4, 2, 0, 0, 0, 0], []) rfl rfl rfl ?_
  refine ⟨h_a0, ?_⟩
  refine bGo hA 0 12 (24, .aload_n 0, 1, 13, 0, [0], []) rfl rfl rfl ?_
  refine bGo hA 0 13 (25, .aload_n 1, 1, 14, 0, [1], []) rfl rfl rfl ?_
  refine bGo hA 0 14 (26, .getfield 42, 3, 15, 0, [4, 3, 0, 0, 0, 0], []) rfl rfl rfl ?_
  refine ⟨h_a1, ?_⟩
  refine bGo hA 0 15 (29, .putfield 42, 3, 16, 0, [4, 3, 0, 0, 0, 0], []) rfl rfl rfl ?_
  refine ⟨h_a0, ?_⟩
  refine bGo hA 1 0 (32, .aload_n 0, 1, 17, 0, [0], []) rfl rfl rfl ?_
  refine bGo hA 1 1 (33, .aload_n 1, 1, 18, 0, [1], []) rfl rfl rfl ?_
  refine bGo hA 1 2 (34, .getfield 31, 3, 19, 0, [4, 5, 0, 0, 0, 0], []) rfl rfl rfl ?_
  refine ⟨h_a1, ?_⟩
  refine bGo hA 1 3 (37, .putfield 31, 3, 20, 0, [4, 5, 0, 0, 0, 0], []) rfl rfl rfl ?_
  refine ⟨h_a0, ?_⟩
  refine bGo hA 1 4 (40, .aload_n 0, 1, 21, 0, [0], []) rfl rfl rfl ?_
  refine bGo hA 1 5 (41, .aload_n 1, 1, 22, 0, [1], []) rfl rfl rfl ?_
  refine bGo hA 1 6 (42, .getfield 38, 3, 23, 0, [4, 7, 1, 0, 0, 0], []) rfl rfl rfl ?_
  refine ⟨h_a1, ?_⟩
  refine bGo hA 1 7 (45, .putfield 38, 3, 24, 0, [4, 7, 1, 0, 0, 0], []) rfl rfl rfl ?_
  refine ⟨h_a0, (h _ rfl).1, ?_⟩
  refine bGo hA 1 8 (48, .aload_n 0, 1, 25, 0, [0], []) rfl rfl rfl ?_
  refine bGo hA 1 9 (49, .aload_n 1, 1, 26, 0, [1], []) rfl rfl rfl ?_
  refine bGo hA 1 10 (50, .getfield 22, 3, 27, 0, [4, 8, 0, 0, 0, 0], []) rfl rfl rfl ?_
  refine ⟨h_a1, ?_⟩
  refine bGo hA 1 11 (53, .putfield 22, 3, 28, 0, [4, 8, 0, 0, 0, 0], []) rfl rfl rfl ?_
  refine ⟨h_a0, ?_⟩
  refine bGo hA 1 12 (56, .aload_n 1, 1, 29, 0, [1], []) rfl rfl rfl ?_
  refine bGo hA 1 13 (57, .getfield 15, 3, 30, 0, [4, 4, 3, 22, 1, 0], []) rfl rfl rfl ?_
  refine ⟨h_a1, ?_⟩
  refine bGo hA 1 14 (60, .iconst (0), 1, 31, 0, [], [(0, 0)]) rfl rfl rfl ?_
  refine bGo hA 1 15 (61, .aload_n 0, 1, 32, 0, [0], []) rfl rfl rfl ?_
  refine bGo hA 2 0 (62, .getfield 15, 3, 33, 0, [4, 4, 3, 22, 1, 0], []) rfl rfl rfl ?_
  refine ⟨h_a0, ?_⟩
  refine bGo hA 2 1 (65, .iconst (0), 1, 34, 0, [], [(0, 0)]) rfl rfl rfl ?_
  refine bGo hA 2 2 (66, .aload_n 0, 1, 35, 0, [0], []) rfl rfl rfl ?_
  refine bGo hA 2 3 (67, .getfield 15, 3, 36, 0, [4, 4, 3, 22, 1, 0], []) rfl rfl rfl ?_
  refine ⟨h_a0, ?_⟩
  refine bGo hA 2 4 (70, .arraylength, 1, 37, 0, [], []) rfl rfl rfl ?_
  refine ⟨(h _ rfl).2.1, ?_⟩
  refine bGo hA 2 5 (71, .aload_n 1, 1, 38, 0, [1], []) rfl rfl rfl ?_
  refine bGo hA 2 6 (72, .getfield 15, 3, 39, 0, [4, 4, 3, 22, 1, 0], []) rfl rfl rfl ?_
  refine ⟨h_a1, ?_⟩
  refine bGo hA 2 7 (75, .arraylength, 1, 40, 0, [], []) rfl rfl rfl ?_
  refine ⟨(h _ rfl).2.2.1, ?_⟩
  refine bGo hA 2 8 (76, .invokestatic 71, 3, 41, 0, [2, 360, 2], []) rfl rfl rfl ?_
  refine hC _ _ _ _ _ (bRi_e (fun r4 s2 k3 => ?_)) (h _ rfl).2.2.2
  show A (41, [.ref a0, .ref a1], [.int r4, .int 0, .ref (256 * (1 * (a0 / 256) + 0) + 22), .int 0, .ref (256 * (1 * (a1 / 256) + 0) + 22)], s2)
  refine bGo hA 2 9 (79, .invokestatic 74, 3, 42, 0, [7, 0, 0], []) rfl rfl rfl ?_
  refine ⟨k3.1, k3.2.1, k3.2.2.1, k3.2.2.2.1, k3.2.2.2.2.1, k3.2.2.2.2.2.1, k3.2.2.2.2.2.2.1, k3.2.2.2.2.2.2.2.1, k3.2.2.2.2.2.2.2.2.1, ?_⟩
  refine bGo hA 2 10 (82, .aload_n 1, 1, 43, 0, [1], []) rfl rfl rfl ?_
  refine bGo hA 2 11 (83, .getfield 19, 3, 44, 0, [4, 6, 3, 23, 1, 0], []) rfl rfl rfl ?_
  refine ⟨h_a1, ?_⟩
  refine bGo hA 2 12 (86, .iconst (0), 1, 45, 0, [], [(0, 0)]) rfl rfl rfl ?_
  refine bGo hA 2 13 (87, .aload_n 0, 1, 46, 0, [0], []) rfl rfl rfl ?_
  refine bGo hA 2 14 (88, .getfield 19, 3, 47, 0, [4, 6, 3, 23, 1, 0], []) rfl rfl rfl ?_
  refine ⟨h_a0, ?_⟩
  refine bGo hA 2 15 (91, .iconst (0), 1, 48, 0, [], [(0, 0)]) rfl rfl rfl ?_
  refine bGo hA 3 0 (92, .aload_n 0, 1, 49, 0, [0], []) rfl rfl rfl ?_
  refine bGo hA 3 1 (93, .getfield 19, 3, 50, 0, [4, 6, 3, 23, 1, 0], []) rfl rfl rfl ?_
  refine ⟨h_a0, ?_⟩
  refine bGo hA 3 2 (96, .arraylength, 1, 51, 0, [], []) rfl rfl rfl ?_
  refine ⟨k3.2.2.2.2.2.2.2.2.2.1, ?_⟩
  refine bGo hA 3 3 (97, .aload_n 1, 1, 52, 0, [1], []) rfl rfl rfl ?_
  refine bGo hA 3 4 (98, .getfield 19, 3, 53, 0, [4, 6, 3, 23, 1, 0], []) rfl rfl rfl ?_
  refine ⟨h_a1, ?_⟩
  refine bGo hA 3 5 (101, .arraylength, 1, 54, 0, [], []) rfl rfl rfl ?_
  refine ⟨k3.2.2.2.2.2.2.2.2.2.2.1, ?_⟩
  refine bGo hA 3 6 (102, .invokestatic 71, 3, 55, 0, [2, 360, 2], []) rfl rfl rfl ?_
  refine hC _ _ _ _ _ (bRi_e (fun r7 s5 k6 => ?_)) k3.2.2.2.2.2.2.2.2.2.2.2
  show A (55, [.ref a0, .ref a1], [.int r7, .int 0, .ref (256 * (1 * (a0 / 256) + 0) + 23), .int 0, .ref (256 * (1 * (a1 / 256) + 0) + 23)], s5)
  refine bGo hA 3 7 (105, .invokestatic 74, 3, 56, 0, [7, 0, 0], []) rfl rfl rfl ?_
  refine ⟨k6.1, k6.2.1, k6.2.2.1, k6.2.2.2.1, k6.2.2.2.2.1, k6.2.2.2.2.2.1, k6.2.2.2.2.2.2.1, k6.2.2.2.2.2.2.2.1, k6.2.2.2.2.2.2.2.2.1, ?_⟩
  refine bGo hA 3 8 (108, .return_, 1, 0, 0, [0], []) rfl rfl rfl ?_
  exact k6.2.2.2.2.2.2.2.2.2

theorem sg45_0 {lvl : Nat} {C : bCall} {Q : bPost} {A : bPt → Prop} (hC : bMono C) (hA : bClosed lvl bm45 C Q A)  {σ : bSt} 
  (h : (σ.2.2.2.1 1 = 0 ∧ (C 15 [.retAddr 1, .int 24] (bNew σ 1 1 3) (bRv (fun s1 => ((bR s1 5 2 (some 1)).2.2.2.1 257 = 0 ∧ (C 15 [.retAddr 257, .int 40] (bNew (bR s1 5 2 (some 1)) 257 1 3) (bRv (fun s3 => ((bR s3 5 3 (some 257)).2.2.2.1 2 = 0 ∧ (C 23 [.retAddr 2] (bNew (bR s3 5 3 (some 257)) 2 1 3) (bRv (fun s5 => ((bI (bI (bR s5 5 4 (some 2)) 5 5 1) 5 6 2).2.2.2.1 24 = 0 ∧ ((bI (bR (bNew (bI (bI (bR s5 5 4 (some 2)) 5 5 1) 5 6 2) 24 2 12) 5 7 (some 24)) 5 8 (-1)).2.2.2.1 25 = 0 ∧ ((bR (bNew (bI (bR (bNew (bI (bI (bR s5 5 4 (some 2)) 5 5 1) 5 6 2) 24 2 12) 5 7 (some 24)) 5 8 (-1)) 25 2 17) 5 11 (some 25)).2.2.2.1 26 = 0 ∧ (bAll (bR (bR (bR (bNew (bR (bNew (bI (bR (bNew (bI (bI (bR s5 5 4 (some 2)) 5 5 1) 5 6 2) 24 2 12) 5 7 (some 24)) 5 8 (-1)) 25 2 17) 5 11 (some 25)) 26 2 17) 5 12 (some 26)) 5 0 (some 3)) 5 1 (some 6)) 5 [0, 1, 2, 3, 4, 7, 11, 12] ∧ Q (.inl none) (bA (bR (bR (bR (bNew (bR (bNew (bI (bR (bNew (bI (bI (bR s5 5 4 (some 2)) 5 5 1) 5 6 2) 24 2 12) 5 7 (some 24)) 5 8 (-1)) 25 2 17) 5 11 (some 25)) 26 2 17) 5 12 (some 26)) 5 0 (some 3)) 5 1 (some 6)) 5 2)))))))))))))))))) : A (0, [.retAddr 5, .ref 3, .ref 6], [], σ) := by
  refine bGo hA 0 0 (0, .aload_n 0, 1, 1, 0, [0], []) rfl rfl rfl ?_
  refine bGo hA 0 1 (1, .invokespecial 3, 3, 2, 0, [6, 0, 0], []) rfl rfl rfl ?_
  refine bGo hA 0 2 (4, .aload_n 0, 1, 3, 0, [0], []) rfl rfl rfl ?_
  refine bGo hA 0 3 (5, .new 9, 3, 4, 0, [0, 1, 3, 0, 0], []) rfl rfl rfl ?_
  refine ⟨h.1, ?_⟩
  refine bGo hA 0 4 (8, .dup, 1, 5, 0, [], []) rfl rfl rfl ?_
  refine bGo hA 0 5 (9, .bipush (24), 2, 6, 0, [], [(24, 0)]) rfl rfl rfl ?_
  refine bGo hA 0 6 (11, .invokespecial 11, 3, 7, 0, [4, 1, 15, 1], []) rfl rfl rfl ?_
  refine ⟨rfl, rfl, ?_⟩
  refine hC _ _ _ _ _ (bRv_e (fun s1 k2 => ?_)) h.2
  show A (7, [.retAddr 5, .ref 3, .ref 6], [.ref 1, .retAddr 5], s1)
  refine bGo hA 0 7 (14, .putfield 14, 3, 8, 0, [5, 2, 3, 1, 0, 0], []) rfl rfl rfl ?_
  refine ⟨rfl, rfl, ?_⟩
  refine bGo hA 0 8 (17, .aload_n 0, 1, 9, 0, [0], []) rfl rfl rfl ?_
  refine bGo hA 0 9 (18, .new 9, 3, 10, 0, [0, 1, 3, 0, 1], []) rfl rfl rfl ?_
  refine ⟨k2.1, ?_⟩
  refine bGo hA 0 10 (21, .dup, 1, 11, 0, [], []) rfl rfl rfl ?_
  refine bGo hA 0 11 (22, .bipush (40), 2, 12, 0, [], [(40, 0)]) rfl rfl rfl ?_
  refine bGo hA 0 12 (24, .invokespecial 11, 3, 13, 0, [4, 1, 15, 1], []) rfl rfl rfl ?_
  refine ⟨rfl, rfl, ?_⟩
  refine hC _ _ _ _ _ (bRv_e (fun s3 k4 => ?_)) k2.2
  show A (13, [.retAddr 5, .ref 3, .ref 6], [.ref 257, .retAddr 5], s3)
  refine bGo hA 0 13 (27, .putfield 20, 3, 14, 0, [5, 3, 3, 1, 0, 1], []) rfl rfl rfl ?_
  refine ⟨rfl, rfl, ?_⟩
  refine bGo hA 0 14 (30, .aload_n 0, 1, 15, 0, [0], []) rfl rfl rfl ?_
  refine bGo hA 0 15 (31, .new 23, 3, 16, 0, [0, 2, 3, 0, 0], []) rfl rfl rfl ?_
  refine ⟨k4.1, ?_⟩
  refine bGo hA 1 0 (34, .dup, 1, 17, 0, [], []) rfl rfl rfl ?_
  refine bGo hA 1 1 (35, .invokespecial 25, 3, 18, 0, [4, 2, 23, 0], []) rfl rfl rfl ?_
  refine ⟨rfl, rfl, ?_⟩
  refine hC _ _ _ _ _ (bRv_e (fun s5 k6 => ?_)) k4.2
  show A (18, [.retAddr 5, .ref 3, .ref 6], [.ref 2, .retAddr 5], s5)
  refine bGo hA 1 2 (38, .putfield 26, 3, 19, 0, [5, 4, 3, 2, 0, 0], []) rfl rfl rfl ?_
  refine ⟨rfl, rfl, ?_⟩
  refine bGo hA 1 3 (41, .aload_n 0, 1, 20, 0, [0], []) rfl rfl rfl ?_
  refine bGo hA 1 4 (42, .iconst (1), 1, 21, 0, [], [(1, 0)]) rfl rfl rfl ?_
  refine bGo hA 1 5 (43, .putfield 30, 3, 22, 0, [5, 5, 1, 0, 0, 0], []) rfl rfl rfl ?_
  refine ⟨rfl, Or.inr rfl, ?_⟩
  refine bGo hA 1 6 (46, .aload_n 0, 1, 23, 0, [0], []) rfl rfl rfl ?_
  refine bGo hA 1 7 (47, .iconst (2), 1, 24, 0, [], [(2, 0)]) rfl rfl rfl ?_
  refine bGo hA 1 8 (48, .putfield 34, 3, 25, 0, [5, 6, 0, 0, 0, 0], []) rfl rfl rfl ?_
  refine ⟨rfl, ?_⟩
  refine bGo hA 1 9 (51, .aload_n 0, 1, 26, 0, [0], []) rfl rfl rfl ?_
  refine bGo hA 1 10 (52, .bipush (12), 2, 27, 0, [], [(12, 0)]) rfl rfl rfl ?_
  refine bGo hA 1 11 (54, .newarray .int, 2, 28, 0, [24], []) rfl rfl rfl ?_
  refine ⟨k6.1, rfl, by decide, ?_⟩
  refine bGo hA 1 12 (56, .putfield 38, 3, 29, 0, [5, 7, 3, 24, 1, 0], []) rfl rfl rfl ?_
  refine ⟨rfl, rfl, ?_⟩
  refine bGo hA 1 13 (59, .aload_n 0, 1, 30, 0, [0], []) rfl rfl rfl ?_
  refine bGo hA 1 14 (60, .iconst (-1), 1, 31, 0, [], [(-1, 0)]) rfl rfl rfl ?_
  refine bGo hA 1 15 (61, .putfield 42, 3, 32, 0, [5, 8, 0, 0, 0, 0], []) rfl rfl rfl ?_
  refine ⟨rfl, ?_⟩
  refine bGo hA 2 0 (64, .aload_n 0, 1, 33, 0, [0], []) rfl rfl rfl ?_
  refine bGo hA 2 1 (65, .bipush (17), 2, 34, 0, [], [(17, 0)]) rfl rfl rfl ?_
  refine bGo hA 2 2 (67, .newarray .int, 2, 35, 0, [25], []) rfl rfl rfl ?_
  refine ⟨k6.2.1, rfl, by decide, ?_⟩
  refine bGo hA 2 3 (69, .putfield 45, 3, 36, 0, [5, 11, 3, 25, 1, 0], []) rfl rfl rfl ?_
  refine ⟨rfl, rfl, ?_⟩
  refine bGo hA 2 4 (72, .aload_n 0, 1, 37, 0, [0], []) rfl rfl rfl ?_
  refine bGo hA 2 5 (73, .bipush (17), 2, 38, 0, [], [(17, 0)]) rfl rfl rfl ?_
  refine bGo hA 2 6 (75, .newarray .int, 2, 39, 0, [26], []) rfl rfl rfl ?_
  refine ⟨k6.2.2.1, rfl, by decide, ?_⟩
  refine bGo hA 2 7 (77, .putfield 48, 3, 40, 0, [5, 12, 3, 26, 1, 0], []) rfl rfl rfl ?_
  refine ⟨rfl, rfl, ?_⟩
  refine bGo hA 2 8 (80, .aload_n 0, 1, 41, 0, [0], []) rfl rfl rfl ?_
  refine bGo hA 2 9 (81, .aload_n 1, 1, 42, 0, [1], []) rfl rfl rfl ?_
  refine bGo hA 2 10 (82, .putfield 51, 3, 43, 0, [5, 0, 3, 3, 0, 0], []) rfl rfl rfl ?_
  refine ⟨rfl, rfl, ?_⟩
  refine bGo hA 2 11 (85, .aload_n 0, 1, 44, 0, [0], []) rfl rfl rfl ?_
  refine bGo hA 2 12 (86, .aload_n 2, 1, 45, 0, [2], []) rfl rfl rfl ?_
  refine bGo hA 2 13 (87, .putfield 55, 3, 46, 0, [5, 1, 3, 6, 0, 0], []) rfl rfl rfl ?_
  refine ⟨rfl, rfl, ?_⟩
  refine bGo hA 2 14 (90, .return_, 1, 0, 0, [5, 0, 1, 2, 3, 4, 7, 11, 12], []) rfl rfl rfl ?_
  exact k6.2.2.2

theorem sg46_0 {lvl : Nat} {C : bCall} {Q : bPost} {A : bPt → Prop} (hC : bMono C) (hA : bClosed lvl bm46 C Q A) {x1 : Int32} {x2 : Int32} {x3 : Int32} {σ : bSt} 
  (h : (C 79 [.ref 6, .int x1] σ (bRi (fun r3 s1 => ((r3 = x1 → (C 80 [.ref 6, .int r3] s1 (bRi (fun r7 s5 => ((r7 = 0 → Q (.inl (some (.int (-2)))) s5) ∧ (¬ r7 = 0 → (C 47 [.ref 5] s5 (bRv (fun s9 => (C 48 [.ref 5] s9 (bRv (fun s11 => (C 81 [.ref 6] s11 (bRv (fun s13 => (C 49 [.ref 5] s13 (bRv (fun s15 => (C 50 [.ref 5, .int x2, .int x3] s15 (bRv (fun s17 => (C 63 [.ref 5] s17 (bRv (fun s19 => A (40, [.ref 5, .int x1, .int x2, .int x3, .int r3, .int 0, .int 0, .float 0], [], s19))))))))))))))))))))))))) ∧ (¬ r3 = x1 → ((x2 = 0 → (C 47 [.ref 5] s1 (bRv (fun s22 => Q (.inl (some (.int (-1)))) s22)))) ∧ (¬ x2 = 0 → (C 80 [.ref 6, .int r3] s1 (bRi (fun r26 s24 => ((r26 = 0 → Q (.inl (some (.int (-2)))) s24) ∧ (¬ r26 = 0 → (C 47 [.ref 5] s24 (bRv (fun s28 => (C 48 [.ref 5] s28 (bRv (fun s30 => (C 81 [.ref 6] s30 (bRv (fun s32 => (C 49 [.ref 5] s32 (bRv (fun s34 => (C 50 [.ref 5, .int x2, .int x3] s34 (bRv (fun s36 => (C 63 [.ref 5] s36 (bRv (fun s38 => A (40, [.ref 5, .int x1, .int x2, .int x3, .int r3, .int 0, .int 0, .float 0], [], s38)))))))))))))))))))))))))))))))) : A (0, [.ref 5, .int x1, .int x2, .int x3, .float 0, .float 0, .float 0, .float 0], [], σ) := by
  refine bGo hA 0 0 (0, .aload_n 0, 1, 1, 0, [0], []) rfl rfl rfl ?_
  refine bGo hA 0 1 (1, .getfield 55, 3, 2, 0, [5, 1, 3, 6, 0, 0], []) rfl rfl rfl ?_
  refine ⟨rfl, ?_⟩
  refine bGo hA 0 2 (4, .iload_n 1, 1, 3, 0, [1], []) rfl rfl rfl ?_
  refine bGo hA 0 3 (5, .invokevirtual 59, 3, 4, 0, [0, 6, 79, 1], []) rfl rfl rfl ?_
  refine ⟨rfl, ?_⟩
  refine hC _ _ _ _ _ (bRi_e (fun r3 s1 k2 => ?_)) h
  show A (4, [.ref 5, .int x1, .int x2, .int x3, .float 0, .float 0, .float 0, .float 0], [.int r3], s1)
  refine bGo hA 0 4 (8, .istore 4, 2, 5, 0, [4], []) rfl rfl rfl ?_
  refine bGo hA 0 5 (10, .iload 4, 2, 6, 0, [4], []) rfl rfl rfl ?_
  refine bGo hA 0 6 (12, .iload_n 1, 1, 7, 0, [1], []) rfl rfl rfl ?_
  refine bGo hA 0 7 (13, .if_icmp .eq (13), 3, 8, 14, [], []) rfl rfl rfl ?_
  refine ⟨fun c4 => ?_, fun c4 => ?_⟩
  · refine bGo hA 0 14 (26, .aload_n 0, 1, 15, 0, [0], []) rfl rfl rfl ?_
    refine bGo hA 0 15 (27, .getfield 55, 3, 16, 0, [5, 1, 3, 6, 0, 0], []) rfl rfl rfl ?_
    refine ⟨rfl, ?_⟩
    refine bGo hA 1 0 (30, .iload 4, 2, 17, 0, [4], []) rfl rfl rfl ?_
    refine bGo hA 1 1 (32, .invokevirtual 68, 3, 18, 0, [0, 6, 80, 1], []) rfl rfl rfl ?_
    refine ⟨rfl, ?_⟩
    refine hC _ _ _ _ _ (bRi_e (fun r7 s5 k6 => ?_)) (k2.1 c4)
    show A (18, [.ref 5, .int x1, .int x2, .int x3, .int r3, .float 0, .float 0, .float 0], [.int r7], s5)
    refine bGo hA 1 2 (35, .ifCond .ne (6), 3, 19, 21, [], []) rfl rfl rfl ?_
    refine ⟨fun c8 => ?_, fun c8 => ?_⟩
    · refine bGo hA 1 3 (38, .bipush (-2), 2, 20, 0, [], [(-2, 0)]) rfl rfl rfl ?_
      refine bGo hA 1 4 (40, .ireturn, 1, 21, 0, [1], []) rfl rfl rfl ?_
      exact (k6.1 c8)
    · refine bGo hA 1 5 (41, .aload_n 0, 1, 22, 0, [0], []) rfl rfl rfl ?_
      refine bGo hA 1 6 (42, .invokevirtual 65, 3, 23, 0, [0, 5, 47, 0], []) rfl rfl rfl ?_
      refine ⟨rfl, ?_⟩
      refine hC _ _ _ _ _ (bRv_e (fun s9 k10 => ?_)) (k6.2 c8)
      show A (23, [.ref 5, .int x1, .int x2, .int x3, .int r3, .float 0, .float 0, .float 0], [], s9)
      refine bGo hA 1 7 (45, .aload_n 0, 1, 24, 0, [0], []) rfl rfl rfl ?_
      refine bGo hA 1 8 (46, .invokevirtual 72, 3, 25, 0, [0, 5, 48, 0], []) rfl rfl rfl ?_
      refine ⟨rfl, ?_⟩
      refine hC _ _ _ _ _ (bRv_e (fun s11 k12 => ?_)) k10
      show A (25, [.ref 5, .int x1, .int x2, .int x3, .int r3, .float 0, .float 0, .float 0], [], s11)
      refine bGo hA 1 9 (49, .aload_n 0, 1, 26, 0, [0], []) rfl rfl rfl ?_
      refine bGo hA 1 10 (50, .getfield 55, 3, 27, 0, [5, 1, 3, 6, 0, 0], []) rfl rfl rfl ?_
      refine ⟨rfl, ?_⟩
      refine bGo hA 1 11 (53, .invokevirtual 75, 3, 28, 0, [0, 6, 81, 0], []) rfl rfl rfl ?_
      refine ⟨rfl, ?_⟩
      refine hC _ _ _ _ _ (bRv_e (fun s13 k14 => ?_)) k12
      show A (28, [.ref 5, .int x1, .int x2, .int x3, .int r3, .float 0, .float 0, .float 0], [], s13)
      refine bGo hA 1 12 (56, .aload_n 0, 1, 29, 0, [0], []) rfl rfl rfl ?_
      refine bGo hA 1 13 (57, .invokevirtual 78, 3, 30, 0, [0, 5, 49, 0], []) rfl rfl rfl ?_
      refine ⟨rfl, ?_⟩
      refine hC _ _ _ _ _ (bRv_e (fun s15 k16 => ?_)) k14
      show A (30, [.ref 5, .int x1, .int x2, .int x3, .int r3, .float 0, .float 0, .float 0], [], s15)
      refine bGo hA 1 14 (60, .aload_n 0, 1, 31, 0, [0], []) rfl rfl rfl ?_
      refine bGo hA 1 15 (61, .iload_n 2, 1, 32, 0, [2], []) rfl rfl rfl ?_
      refine bGo hA 2 0 (62, .iload_n 3, 1, 33, 0, [3], []) rfl rfl rfl ?_
      refine bGo hA 2 1 (63, .invokevirtual 81, 3, 34, 0, [0, 5, 50, 2], []) rfl rfl rfl ?_
      refine ⟨rfl, ?_⟩
      refine hC _ _ _ _ _ (bRv_e (fun s17 k18 => ?_)) k16
      show A (34, [.ref 5, .int x1, .int x2, .int x3, .int r3, .float 0, .float 0, .float 0], [], s17)
      refine bGo hA 2 2 (66, .aload_n 0, 1, 35, 0, [0], []) rfl rfl rfl ?_
      refine bGo hA 2 3 (67, .invokevirtual 85, 3, 36, 0, [0, 5, 63, 0], []) rfl rfl rfl ?_
      refine ⟨rfl, ?_⟩
      refine hC _ _ _ _ _ (bRv_e (fun s19 k20 => ?_)) k18
      show A (36, [.ref 5, .int x1, .int x2, .int x3, .int r3, .float 0, .float 0, .float 0], [], s19)
      refine bGo hA 2 4 (70, .iconst (0), 1, 37, 0, [], [(0, 0)]) rfl rfl rfl ?_
      refine bGo hA 2 5 (71, .istore 5, 2, 38, 0, [5], []) rfl rfl rfl ?_
      refine bGo hA 2 6 (73, .iconst (0), 1, 39, 0, [], [(0, 0)]) rfl rfl rfl ?_
      refine bGo hA 2 7 (74, .istore 6, 2, 40, 0, [6], []) rfl rfl rfl ?_
      exact k20
  · refine bGo hA 0 8 (16, .iload_n 2, 1, 9, 0, [2], []) rfl rfl rfl ?_
    refine bGo hA 0 9 (17, .ifCond .ne (9), 3, 10, 14, [], []) rfl rfl rfl ?_
    refine ⟨fun c21 => ?_, fun c21 => ?_⟩
    · refine bGo hA 0 10 (20, .aload_n 0, 1, 11, 0, [0], []) rfl rfl rfl ?_
      refine bGo hA 0 11 (21, .invokevirtual 65, 3, 12, 0, [0, 5, 47, 0], []) rfl rfl rfl ?_
      refine ⟨rfl, ?_⟩
      refine hC _ _ _ _ _ (bRv_e (fun s22 k23 => ?_)) ((k2.2 c4).1 c21)
      show A (12, [.ref 5, .int x1, .int x2, .int x3, .int r3, .float 0, .float 0, .float 0], [], s22)
      refine bGo hA 0 12 (24, .iconst (-1), 1, 13, 0, [], [(-1, 0)]) rfl rfl rfl ?_
      refine bGo hA 0 13 (25, .ireturn, 1, 14, 0, [1], []) rfl rfl rfl ?_
      exact k23
    · refine bGo hA 0 14 (26, .aload_n 0, 1, 15, 0, [0], []) rfl rfl rfl ?_
      refine bGo hA 0 15 (27, .getfield 55, 3, 16, 0, [5, 1, 3, 6, 0, 0], []) rfl rfl rfl ?_
      refine ⟨rfl, ?_⟩
      refine bGo hA 1 0 (30, .iload 4, 2, 17, 0, [4], []) rfl rfl rfl ?_
      refine bGo hA 1 1 (32, .invokevirtual 68, 3, 18, 0, [0, 6, 80, 1], []) rfl rfl rfl ?_
      refine ⟨rfl, ?_⟩
      refine hC _ _ _ _ _ (bRi_e (fun r26 s24 k25 => ?_)) ((k2.2 c4).2 c21)
      show A (18, [.ref 5, .int x1, .int x2, .int x3, .int r3, .float 0, .float 0, .float 0], [.int r26], s24)
      refine bGo hA 1 2 (35, .ifCond .ne (6), 3, 19, 21, [], []) rfl rfl rfl ?_
      refine ⟨fun c27 => ?_, fun c27 => ?_⟩
      · refine bGo hA 1 3 (38, .bipush (-2), 2, 20, 0, [], [(-2, 0)]) rfl rfl rfl ?_
        refine bGo hA 1 4 (40, .ireturn, 1, 21, 0, [1], []) rfl rfl rfl ?_
        exact (k25.1 c27)
      · refine bGo hA 1 5 (41, .aload_n 0, 1, 22, 0, [0], []) rfl rfl rfl ?_
        refine bGo hA 1 6 (42, .invokevirtual 65, 3, 23, 0, [0, 5, 47, 0], []) rfl rfl rfl ?_
        refine ⟨rfl, ?_⟩
        refine hC _ _ _ _ _ (bRv_e (fun s28 k29 => ?_)) (k25.2 c27)
        show A (23, [.ref 5, .int x1, .int x2, .int x3, .int r3, .float 0, .float 0, .float 0], [], s28)
        refine bGo hA 1 7 (45, .aload_n 0, 1, 24, 0, [0], []) rfl rfl rfl ?_
        refine bGo hA 1 8 (46, .invokevirtual 72, 3, 25, 0, [0, 5, 48, 0], []) rfl rfl rfl ?_
        refine ⟨rfl, ?_⟩
        refine hC _ _ _ _ _ (bRv_e (fun s30 k31 => ?_)) k29
        show A (25, [.ref 5, .int x1, .int x2, .int x3, .int r3, .float 0, .float 0, .float 0], [], s30)
        refine bGo hA 1 9 (49, .aload_n 0, 1, 26, 0, [0], []) rfl rfl rfl ?_
        refine bGo hA 1 10 (50, .getfield 55, 3, 27, 0, [5, 1, 3, 6, 0, 0], []) rfl rfl rfl ?_
        refine ⟨rfl, ?_⟩
        refine bGo hA 1 11 (53, .invokevirtual 75, 3, 28, 0, [0, 6, 81, 0], []) rfl rfl rfl ?_
        refine ⟨rfl, ?_⟩
        refine hC _ _ _ _ _ (bRv_e (fun s32 k33 => ?_)) k31
        show A (28, [.ref 5, .int x1, .int x2, .int x3, .int r3, .float 0, .float 0, .float 0], [], s32)
        refine bGo hA 1 12 (56, .aload_n 0, 1, 29, 0, [0], []) rfl rfl rfl ?_
        refine bGo hA 1 13 (57, .invokevirtual 78, 3, 30, 0, [0, 5, 49, 0], []) rfl rfl rfl ?_
        refine ⟨rfl, ?_⟩
        refine hC _ _ _ _ _ (bRv_e (fun s34 k35 => ?_)) k33
        show A (30, [.ref 5, .int x1, .int x2, .int x3, .int r3, .float 0, .float 0, .float 0], [], s34)
        refine bGo hA 1 14 (60, .aload_n 0, 1, 31, 0, [0], []) rfl rfl rfl ?_
        refine bGo hA 1 15 (61, .iload_n 2, 1, 32, 0, [2], []) rfl rfl rfl ?_
        refine bGo hA 2 0 (62, .iload_n 3, 1, 33, 0, [3], []) rfl rfl rfl ?_
        refine bGo hA 2 1 (63, .invokevirtual 81, 3, 34, 0, [0, 5, 50, 2], []) rfl rfl rfl ?_
        refine ⟨rfl, ?_⟩
        refine hC _ _ _ _ _ (bRv_e (fun s36 k37 => ?_)) k35
        show A (34, [.ref 5, .int x1, .int x2, .int x3, .int r3, .float 0, .float 0, .float 0], [], s36)
        refine bGo hA 2 2 (66, .aload_n 0, 1, 35, 0, [0], []) rfl rfl rfl ?_
        refine bGo hA 2 3 (67, .invokevirtual 85, 3, 36, 0, [0, 5, 63, 0], []) rfl rfl rfl ?_
        refine ⟨rfl, ?_⟩
        refine hC _ _ _ _ _ (bRv_e (fun s38 k39 => ?_)) k37
        show A (36, [.ref 5, .int x1, .int x2, .int x3, .int r3, .float 0, .float 0, .float 0], [], s38)
        refine bGo hA 2 4 (70, .iconst (0), 1, 37, 0, [], [(0, 0)]) rfl rfl rfl ?_
        refine bGo hA 2 5 (71, .istore 5, 2, 38, 0, [5], []) rfl rfl rfl ?_
        refine bGo hA 2 6 (73, .iconst (0), 1, 39, 0, [], [(0, 0)]) rfl rfl rfl ?_
        refine bGo hA 2 7 (74, .istore 6, 2, 40, 0, [6], []) rfl rfl rfl ?_
        exact k39

theorem sg46_40 {lvl : Nat} {C : bCall} {Q : bPost} {A : bPt → Prop} (hC : bMono C) (hA : bClosed lvl bm46 C Q A) {v1 : Value} {v2 : Value} {v3 : Value} {l4 : Int32} {l5 : Int32} {l6 : Int32} {v7 : Value} {σ : bSt} 
  (h : ((l6 < 16 → ((((l4 >>> (l6 &&& 31)) &&& 1) = 1 → (C 82 [.ref 6, .int l6] σ (bRa (fun r6 s4 => (r6 % 256 = 0 ∧ (C 10 [.ref r6] s4 (bRi (fun r9 s7 => ((r9 = 0 → A (40, [.ref 5, v1, v2, v3, .int l4, .int (l5 + 0), .int (l6 + 1), .int 1], [], s7)) ∧ (¬ r9 = 0 → A (40, [.ref 5, v1, v2, v3, .int l4, .int (l5 + 1), .int (l6 + 1), .int 1], [], s7))))))))))) ∧ (¬ ((l4 >>> (l6 &&& 31)) &&& 1) = 1 → A (40, [.ref 5, v1, v2, v3, .int l4, .int (l5 + 0), .int (l6 + 1), .int 0], [], σ)))) ∧ (¬ l6 < 16 → Q (.inl (some (.int l5))) σ))) : A (40, [.ref 5, v1, v2, v3, .int l4, .int l5, .int l6, v7], [], σ) := by
  refine bGo hA 2 8 (76, .iload 6, 2, 41, 0, [6], []) rfl rfl rfl ?_
  refine bGo hA 2 9 (78, .bipush (16), 2, 42, 0, [], [(16, 0)]) rfl rfl rfl ?_
  refine bGo hA 2 10 (80, .if_icmp .ge (57), 3, 43, 70, [], []) rfl rfl rfl ?_
  refine ⟨fun c1 => ?_, fun c1 => ?_⟩
  · refine bGo hA 2 11 (83, .iload 4, 2, 44, 0, [4], []) rfl rfl rfl ?_
    refine bGo hA 2 12 (85, .iload 6, 2, 45, 0, [6], []) rfl rfl rfl ?_
    refine bGo hA 2 13 (87, .ishr, 1, 46, 0, [], []) rfl rfl rfl ?_
    refine bGo hA 2 14 (88, .iconst (1), 1, 47, 0, [], [(1, 0)]) rfl rfl rfl ?_
    refine bGo hA 2 15 (89, .iand, 1, 48, 0, [], []) rfl rfl rfl ?_
    refine bGo hA 3 0 (90, .iconst (1), 1, 49, 0, [], [(1, 0)]) rfl rfl rfl ?_
    refine bGo hA 3 1 (91, .if_icmp .ne (7), 3, 50, 52, [], []) rfl rfl rfl ?_
    refine ⟨fun c2 => ?_, fun c2 => ?_⟩
    · refine bGo hA 3 2 (94, .iconst (1), 1, 51, 0, [], [(1, 0)]) rfl rfl rfl ?_
      refine bGo hA 3 3 (95, .goto (4), 3, 52, 53, [], []) rfl rfl rfl ?_
      refine bGo hA 3 5 (99, .istore 7, 2, 54, 0, [7], []) rfl rfl rfl ?_
      refine bGo hA 3 6 (101, .iload 5, 2, 55, 0, [5], []) rfl rfl rfl ?_
      refine bGo hA 3 7 (103, .iload 7, 2, 56, 0, [7], []) rfl rfl rfl ?_
      refine bGo hA 3 8 (105, .ifCond .eq (22), 3, 57, 65, [], []) rfl rfl rfl ?_
      refine ⟨fun c => absurd c (by decide), fun _ => ?_⟩
      refine bGo hA 3 9 (108, .aload_n 0, 1, 58, 0, [0], []) rfl rfl rfl ?_
      refine bGo hA 3 10 (109, .getfield 55, 3, 59, 0, [5, 1, 3, 6, 0, 0], []) rfl rfl rfl ?_
      refine ⟨rfl, ?_⟩
      refine bGo hA 3 11 (112, .iload 6, 2, 60, 0, [6], []) rfl rfl rfl ?_
      refine bGo hA 3 12 (114, .invokevirtual 88, 3, 61, 0, [0, 6, 82, 1], []) rfl rfl rfl ?_
      refine ⟨rfl, ?_⟩
      refine hC _ _ _ _ _ (bRa_e (fun r6 s4 k5 => ?_)) ((h.1 c1).1 c2)
      show A (61, [.ref 5, v1, v2, v3, .int l4, .int l5, .int l6, .int 1], [.ref r6, .int l5], s4)
      refine bGo hA 3 13 (117, .invokevirtual 92, 3, 62, 0, [0, 0, 10, 0], []) rfl rfl rfl ?_
      refine ⟨k5.1, ?_⟩
      refine hC _ _ _ _ _ (bRi_e (fun r9 s7 k8 => ?_)) k5.2
      show A (62, [.ref 5, v1, v2, v3, .int l4, .int l5, .int l6, .int 1], [.int r9, .int l5], s7)
      refine bGo hA 3 14 (120, .ifCond .eq (7), 3, 63, 65, [], []) rfl rfl rfl ?_
      refine ⟨fun c10 => ?_, fun c10 => ?_⟩
      · refine bGo hA 4 1 (127, .iconst (0), 1, 66, 0, [], [(0, 0)]) rfl rfl rfl ?_
        refine bGo hA 4 2 (128, .iadd, 1, 67, 0, [], []) rfl rfl rfl ?_
        refine bGo hA 4 3 (129, .istore 5, 2, 68, 0, [5], []) rfl rfl rfl ?_
        refine bGo hA 4 4 (131, .iinc 6 (1), 3, 69, 0, [6], [(1, 0)]) rfl rfl rfl ?_
        refine bGo hA 4 5 (134, .goto (-58), 3, 70, 40, [], []) rfl rfl rfl ?_
        exact (k8.1 c10)
      · refine bGo hA 3 15 (123, .iconst (1), 1, 64, 0, [], [(1, 0)]) rfl rfl rfl ?_
        refine bGo hA 4 0 (124, .goto (4), 3, 65, 66, [], []) rfl rfl rfl ?_
        refine bGo hA 4 2 (128, .iadd, 1, 67, 0, [], []) rfl rfl rfl ?_
        refine bGo hA 4 3 (129, .istore 5, 2, 68, 0, [5], []) rfl rfl rfl ?_
        refine bGo hA 4 4 (131, .iinc 6 (1), 3, 69, 0, [6], [(1, 0)]) rfl rfl rfl ?_
        refine bGo hA 4 5 (134, .goto (-58), 3, 70, 40, [], []) rfl rfl rfl ?_
        exact (k8.2 c10)
    · refine bGo hA 3 4 (98, .iconst (0), 1, 53, 0, [], [(0, 0)]) rfl rfl rfl ?_
      refine bGo hA 3 5 (99, .istore 7, 2, 54, 0, [7], []) rfl rfl rfl ?_
      refine bGo hA 3 6 (101, .iload 5, 2, 55, 0, [5], []) rfl rfl rfl ?_
      refine bGo hA 3 7 (103, .iload 7, 2, 56, 0, [7], []) rfl rfl rfl ?_
      refine bGo hA 3 8 (105, .ifCond .eq (22), 3, 57, 65, [], []) rfl rfl rfl ?_
      refine ⟨fun _ => ?_, fun c => absurd (by decide) c⟩
      refine bGo hA 4 1 (127, .iconst (0), 1, 66, 0, [], [(0, 0)]) rfl rfl rfl ?_
      refine bGo hA 4 2 (128, .iadd, 1, 67, 0, [], []) rfl rfl rfl ?_
      refine bGo hA 4 3 (129, .istore 5, 2, 68, 0, [5], []) rfl rfl rfl ?_
      refine bGo hA 4 4 (131, .iinc 6 (1), 3, 69, 0, [6], [(1, 0)]) rfl rfl rfl ?_
      refine bGo hA 4 5 (134, .goto (-58), 3, 70, 40, [], []) rfl rfl rfl ?_
      exact ((h.1 c1).2 c2)
  · refine bGo hA 4 6 (137, .iload 5, 2, 71, 0, [5], []) rfl rfl rfl ?_
    refine bGo hA 4 7 (139, .ireturn, 1, 0, 0, [1], []) rfl rfl rfl ?_
    exact (h.2 c1)

theorem sg47_0 {lvl : Nat} {C : bCall} {Q : bPost} {A : bPt → Prop} (hC : bMono C) (hA : bClosed lvl bm47 C Q A)  {σ : bSt} 
  (h : (C 361 [.ref 24, .int 0] σ (bRv (fun s1 => A (15, [.ref 5, .int 0], [], (bI (bI (bI s1 5 8 (-1)) 5 9 0) 5 10 0)))))) : A (0, [.ref 5, .float 0], [], σ) := by
  refine bGo hA 0 0 (0, .aload_n 0, 1, 1, 0, [0], []) rfl rfl rfl ?_
  refine bGo hA 0 1 (1, .getfield 38, 3, 2, 0, [5, 7, 3, 24, 1, 0], []) rfl rfl rfl ?_
  refine ⟨rfl, ?_⟩
  refine bGo hA 0 2 (4, .iconst (0), 1, 3, 0, [], [(0, 0)]) rfl rfl rfl ?_
  refine bGo hA 0 3 (5, .invokestatic 98, 3, 4, 0, [2, 361, 2], []) rfl rfl rfl ?_
  refine hC _ _ _ _ _ (bRv_e (fun s1 k2 => ?_)) h
  show A (4, [.ref 5, .float 0], [], s1)
  refine bGo hA 0 4 (8, .aload_n 0, 1, 5, 0, [0], []) rfl rfl rfl ?_
  refine bGo hA 0 5 (9, .iconst (-1), 1, 6, 0, [], [(-1, 0)]) rfl rfl rfl ?_
  refine bGo hA 0 6 (10, .putfield 42, 3, 7, 0, [5, 8, 0, 0, 0, 0], []) rfl rfl rfl ?_
  refine ⟨rfl, ?_⟩
  refine bGo hA 0 7 (13, .aload_n 0, 1, 8, 0, [0], []) rfl rfl rfl ?_
  refine bGo hA 0 8 (14, .iconst (0), 1, 9, 0, [], [(0, 0)]) rfl rfl rfl ?_
  refine bGo hA 0 9 (15, .putfield 104, 3, 10, 0, [5, 9, 0, 0, 0, 0], []) rfl rfl rfl ?_
  refine ⟨rfl, ?_⟩
  refine bGo hA 0 10 (18, .aload_n 0, 1, 11, 0, [0], []) rfl rfl rfl ?_
  refine bGo hA 0 11 (19, .iconst (0), 1, 12, 0, [], [(0, 0)]) rfl rfl rfl ?_
  refine bGo hA 0 12 (20, .putfield 107, 3, 13, 0, [5, 10, 1, 0, 0, 0], []) rfl rfl rfl ?_
  refine ⟨rfl, Or.inl rfl, ?_⟩
  refine bGo hA 0 13 (23, .iconst (0), 1, 14, 0, [], [(0, 0)]) rfl rfl rfl ?_
  refine bGo hA 0 14 (24, .istore_n 1, 1, 15, 0, [1], []) rfl rfl rfl ?_
  exact k2

theorem sg47_15 {lvl : Nat} {C : bCall} {Q : bPost} {A : bPt → Prop} (hC : bMono C) (hA : bClosed lvl bm47 C Q A) {l1 : Int32} {σ : bSt} 
  (h : ((l1 < (σ.1 6 13) → (C 89 [.ref 6, .int l1] σ (bRa (fun r4 s2 => (r4 % 256 = 0 ∧ (C 8 [.ref r4] s2 (bRv (fun s5 => A (15, [.ref 5, .int (l1 + 1)], [], s5))))))))) ∧ (¬ l1 < (σ.1 6 13) → Q (.inl none) σ))) : A (15, [.ref 5, .int l1], [], σ) := by
  refine bGo hA 0 15 (25, .iload_n 1, 1, 16, 0, [1], []) rfl rfl rfl ?_
  refine bGo hA 1 0 (26, .aload_n 0, 1, 17, 0, [0], []) rfl rfl rfl ?_
  refine bGo hA 1 1 (27, .getfield 55, 3, 18, 0, [5, 1, 3, 6, 0, 0], []) rfl rfl rfl ?_
  refine ⟨rfl, ?_⟩
  refine bGo hA 1 2 (30, .getfield 110, 3, 19, 0, [6, 13, 0, 0, 0, 0], []) rfl rfl rfl ?_
  refine ⟨rfl, ?_⟩
  refine bGo hA 1 3 (33, .if_icmp .ge (20), 3, 20, 27, [], []) rfl rfl rfl ?_
  refine ⟨fun c1 => ?_, fun c1 => ?_⟩
  · refine bGo hA 1 4 (36, .aload_n 0, 1, 21, 0, [0], []) rfl rfl rfl ?_
    refine bGo hA 1 5 (37, .getfield 55, 3, 22, 0, [5, 1, 3, 6, 0, 0], []) rfl rfl rfl ?_
    refine ⟨rfl, ?_⟩
    refine bGo hA 1 6 (40, .iload_n 1, 1, 23, 0, [1], []) rfl rfl rfl ?_
    refine bGo hA 1 7 (41, .invokevirtual 113, 3, 24, 0, [0, 6, 89, 1], []) rfl rfl rfl ?_
    refine ⟨rfl, ?_⟩
    refine hC _ _ _ _ _ (bRa_e (fun r4 s2 k3 => ?_)) (h.1 c1)
    show A (24, [.ref 5, .int l1], [.ref r4], s2)
    refine bGo hA 1 8 (44, .invokevirtual 116, 3, 25, 0, [0, 0, 8, 0], []) rfl rfl rfl ?_
    refine ⟨k3.1, ?_⟩
    refine hC _ _ _ _ _ (bRv_e (fun s5 k6 => ?_)) k3.2
    show A (25, [.ref 5, .int l1], [], s5)
    refine bGo hA 1 9 (47, .iinc 1 (1), 3, 26, 0, [1], [(1, 0)]) rfl rfl rfl ?_
    refine bGo hA 1 10 (50, .goto (-25), 3, 27, 15, [], []) rfl rfl rfl ?_
    exact k6
  · refine bGo hA 1 11 (53, .return_, 1, 0, 0, [0], []) rfl rfl rfl ?_
    exact (h.2 c1)

theorem sg48_0 {lvl : Nat} {C : bCall} {Q : bPost} {A : bPt → Prop} (hC : bMono C) (hA : bClosed lvl bm48 C Q A)  {σ : bSt} 
  (h : A (2, [.ref 5, .int 0], [], σ)) : A (0, [.ref 5, .float 0], [], σ) := by
  refine bGo hA 0 0 (0, .iconst (0), 1, 1, 0, [], [(0, 0)]) rfl rfl rfl ?_
  refine bGo hA 0 1 (1, .istore_n 1, 1, 2, 0, [1], []) rfl rfl rfl ?_
  exact h

theorem sg48_2 {lvl : Nat} {C : bCall} {Q : bPost} {A : bPt → Prop} (hC : bMono C) (hA : bClosed lvl bm48 C Q A) {l1 : Int32} {σ : bSt} 
  (h : ((l1 < 48 → (C 31 [.ref 3, .int l1] σ (bRi (fun r4 s2 => (C 21 [.ref 1, .int r4] s2 (bRv (fun s5 => A (2, [.ref 5, .int (l1 + 1)], [], s5)))))))) ∧ (¬ l1 < 48 → Q (.inl none) σ))) : A (2, [.ref 5, .int l1], [], σ) := by
  refine bGo hA 0 2 (2, .iload_n 1, 1, 3, 0, [1], []) rfl rfl rfl ?_
  refine bGo hA 0 3 (3, .bipush (48), 2, 4, 0, [], [(48, 0)]) rfl rfl rfl ?_
  refine bGo hA 0 4 (5, .if_icmp .ge (24), 3, 5, 14, [], []) rfl rfl rfl ?_
  refine ⟨fun c1 => ?_, fun c1 => ?_⟩
  · refine bGo hA 0 5 (8, .aload_n 0, 1, 6, 0, [0], []) rfl rfl rfl ?_
    refine bGo hA 0 6 (9, .getfield 14, 3, 7, 0, [5, 2, 3, 1, 0, 0], []) rfl rfl rfl ?_
    refine ⟨rfl, ?_⟩
    refine bGo hA 0 7 (12, .aload_n 0, 1, 8, 0, [0], []) rfl rfl rfl ?_
    refine bGo hA 0 8 (13, .getfield 51, 3, 9, 0, [5, 0, 3, 3, 0, 0], []) rfl rfl rfl ?_
    refine ⟨rfl, ?_⟩
    refine bGo hA 0 9 (16, .iload_n 1, 1, 10, 0, [1], []) rfl rfl rfl ?_
    refine bGo hA 0 10 (17, .invokevirtual 119, 3, 11, 0, [0, 3, 31, 1], []) rfl rfl rfl ?_
    refine ⟨rfl, ?_⟩
    refine hC _ _ _ _ _ (bRi_e (fun r4 s2 k3 => ?_)) (h.1 c1)
    show A (11, [.ref 5, .int l1], [.int r4, .ref 1], s2)
    refine bGo hA 0 11 (20, .invokevirtual 124, 3, 12, 0, [0, 1, 21, 1], []) rfl rfl rfl ?_
    refine ⟨rfl, ?_⟩
    refine hC _ _ _ _ _ (bRv_e (fun s5 k6 => ?_)) k3
    show A (12, [.ref 5, .int l1], [], s5)
    refine bGo hA 0 12 (23, .iinc 1 (1), 3, 13, 0, [1], [(1, 0)]) rfl rfl rfl ?_
    refine bGo hA 0 13 (26, .goto (-24), 3, 14, 2, [], []) rfl rfl rfl ?_
    exact k6
  · refine bGo hA 0 14 (29, .return_, 1, 0, 0, [0], []) rfl rfl rfl ?_
    exact (h.2 c1)

theorem sg49_0 {lvl : Nat} {C : bCall} {Q : bPost} {A : bPt → Prop} (hC : bMono C) (hA : bClosed lvl bm49 C Q A)  {σ : bSt} 
  (h : A (6, [.ref 5, .int ((σ.1 6 13) - 1), .float 0, .float 0, .float 0, .float 0], [], σ)) : A (0, [.ref 5, .float 0, .float 0, .float 0, .float 0, .float 0], [], σ) := by
  refine bGo hA 0 0 (0, .aload_n 0, 1, 1, 0, [0], []) rfl rfl rfl ?_
  refine bGo hA 0 1 (1, .getfield 55, 3, 2, 0, [5, 1, 3, 6, 0, 0], []) rfl rfl rfl ?_
  refine ⟨rfl, ?_⟩
  refine bGo hA 0 2 (4, .getfield 110, 3, 3, 0, [6, 13, 0, 0, 0, 0], []) rfl rfl rfl ?_
  refine ⟨rfl, ?_⟩
  refine bGo hA 0 3 (7, .iconst (1), 1, 4, 0, [], [(1, 0)]) rfl rfl rfl ?_
  refine bGo hA 0 4 (8, .isub, 1, 5, 0, [], []) rfl rfl rfl ?_
  refine bGo hA 0 5 (9, .istore_n 1, 1, 6, 0, [1], []) rfl rfl rfl ?_
  exact h

theorem sg49_6 {lvl : Nat} {C : bCall} {Q : bPost} {A : bPt → Prop} (hC : bMono C) (hA : bClosed lvl bm49 C Q A) {l1 : Int32} {v2 : Value} {v3 : Value} {v4 : Value} {v5 : Value} {σ : bSt} 
  (h : ((l1 < 0 → Q (.inl none) σ) ∧ (¬ l1 < 0 → (C 89 [.ref 6, .int l1] σ (bRa (fun r4 s2 => (r4 % 256 = 0 ∧ A (22, [.ref 5, .int l1, .ref r4, .int 0, v4, v5], [], (bI s2 r4 9 ((s2.1 r4 9) + (s2.1 r4 7))))))))))) : A (6, [.ref 5, .int l1, v2, v3, v4, v5], [], σ) := by
  refine bGo hA 0 6 (10, .iload_n 1, 1, 7, 0, [1], []) rfl rfl rfl ?_
  refine bGo hA 0 7 (11, .ifCond .lt (95), 3, 8, 52, [], []) rfl rfl rfl ?_
  refine ⟨fun c1 => ?_, fun c1 => ?_⟩
  · refine bGo hA 3 4 (106, .return_, 1, 0, 0, [0], []) rfl rfl rfl ?_
    exact (h.1 c1)
  · refine bGo hA 0 8 (14, .aload_n 0, 1, 9, 0, [0], []) rfl rfl rfl ?_
    refine bGo hA 0 9 (15, .getfield 55, 3, 10, 0, [5, 1, 3, 6, 0, 0], []) rfl rfl rfl ?_
    refine ⟨rfl, ?_⟩
    refine bGo hA 0 10 (18, .iload_n 1, 1, 11, 0, [1], []) rfl rfl rfl ?_
    refine bGo hA 0 11 (19, .invokevirtual 113, 3, 12, 0, [0, 6, 89, 1], []) rfl rfl rfl ?_
    refine ⟨rfl, ?_⟩
    refine hC _ _ _ _ _ (bRa_e (fun r4 s2 k3 => ?_)) (h.2 c1)
    show A (12, [.ref 5, .int l1, v2, v3, v4, v5], [.ref r4], s2)
    refine bGo hA 0 12 (22, .astore_n 2, 1, 13, 0, [2], []) rfl rfl rfl ?_
    refine bGo hA 0 13 (23, .aload_n 2, 1, 14, 0, [2], []) rfl rfl rfl ?_
    refine bGo hA 0 14 (24, .dup, 1, 15, 0, [], []) rfl rfl rfl ?_
    refine bGo hA 0 15 (25, .getfield 127, 3, 16, 0, [0, 9, 0, 0, 0, 0], []) rfl rfl rfl ?_
    refine ⟨k3.1, ?_⟩
    refine bGo hA 1 0 (28, .aload_n 2, 1, 17, 0, [2], []) rfl rfl rfl ?_
    refine bGo hA 1 1 (29, .getfield 130, 3, 18, 0, [0, 7, 0, 0, 0, 0], []) rfl rfl rfl ?_
    refine ⟨k3.1, ?_⟩
    refine bGo hA 1 2 (32, .iadd, 1, 19, 0, [], []) rfl rfl rfl ?_
    refine bGo hA 1 3 (33, .putfield 127, 3, 20, 0, [0, 9, 0, 0, 0, 0], []) rfl rfl rfl ?_
    refine ⟨k3.1, ?_⟩
    refine bGo hA 1 4 (36, .iconst (0), 1, 21, 0, [], [(0, 0)]) rfl rfl rfl ?_
    refine bGo hA 1 5 (37, .istore_n 3, 1, 22, 0, [3], []) rfl rfl rfl ?_
    exact k3.2

theorem sg49_22 {lvl : Nat} {C : bCall} {Q : bPost} {A : bPt → Prop} (hC : bMono C) (hA : bClosed lvl bm49 C Q A) {l1 : Int32} {l2 : Nat} {l3 : Int32} {v4 : Value} {v5 : Value} {σ : bSt} 
  (h : (l2 % 256 = 0 ∧ (((σ.1 l2 5) = 0 → A (6, [.ref 5, .int (l1 + (-1)), .ref l2, .int l3, v4, v5], [], σ)) ∧ (¬ (σ.1 l2 5) = 0 → ((l3 < (σ.1 l2 1) → (C 5 [.ref l2, .int l3] σ (bRi (fun r5 s3 => ((r5 = (-1) → A (22, [.ref 5, .int l1, .ref l2, .int (l3 + 1), .int r5, v5], [], s3)) ∧ (¬ r5 = (-1) → (C 89 [.ref 6, .int r5] s3 (bRa (fun r9 s7 => (r9 % 256 = 0 ∧ (C 359 [.int (s7.1 r9 9), .int (s7.1 l2 9)] s7 (bRi (fun r12 s10 => A (22, [.ref 5, .int l1, .ref l2, .int (l3 + 1), .int r5, .ref r9], [], (bI s10 r9 9 r12))))))))))))))) ∧ (¬ l3 < (σ.1 l2 1) → A (6, [.ref 5, .int (l1 + (-1)), .ref l2, .int l3, v4, v5], [], σ))))))) : A (22, [.ref 5, .int l1, .ref l2, .int l3, v4, v5], [], σ) := by
  refine bGo hA 1 6 (38, .aload_n 2, 1, 23, 0, [2], []) rfl rfl rfl ?_
  refine bGo hA 1 7 (39, .getfield 133, 3, 24, 0, [0, 5, 1, 0, 0, 0], []) rfl rfl rfl ?_
  refine ⟨h.1, ?_⟩
  refine bGo hA 1 8 (42, .ifCond .eq (58), 3, 25, 50, [], []) rfl rfl rfl ?_
  refine ⟨fun c1 => ?_, fun c1 => ?_⟩
  · refine bGo hA 3 2 (100, .iinc 1 (-1), 3, 51, 0, [1], [(-1, 0)]) rfl rfl rfl ?_
    refine bGo hA 3 3 (103, .goto (-93), 3, 52, 6, [], []) rfl rfl rfl ?_
    exact (h.2.1 c1)
  · refine bGo hA 1 9 (45, .iload_n 3, 1, 26, 0, [3], []) rfl rfl rfl ?_
    refine bGo hA 1 10 (46, .aload_n 2, 1, 27, 0, [2], []) rfl rfl rfl ?_
    refine bGo hA 1 11 (47, .getfield 136, 3, 28, 0, [0, 1, 0, 0, 0, 0], []) rfl rfl rfl ?_
    refine ⟨h.1, ?_⟩
    refine bGo hA 1 12 (50, .if_icmp .ge (50), 3, 29, 50, [], []) rfl rfl rfl ?_
    refine ⟨fun c2 => ?_, fun c2 => ?_⟩
    · refine bGo hA 1 13 (53, .aload_n 2, 1, 30, 0, [2], []) rfl rfl rfl ?_
      refine bGo hA 1 14 (54, .iload_n 3, 1, 31, 0, [3], []) rfl rfl rfl ?_
      refine bGo hA 1 15 (55, .invokevirtual 139, 3, 32, 0, [0, 0, 5, 1], []) rfl rfl rfl ?_
      refine ⟨h.1, ?_⟩
      refine hC _ _ _ _ _ (bRi_e (fun r5 s3 k4 => ?_)) ((h.2.2 c1).1 c2)
      show A (32, [.ref 5, .int l1, .ref l2, .int l3, v4, v5], [.int r5], s3)
      refine bGo hA 2 0 (58, .istore 4, 2, 33, 0, [4], []) rfl rfl rfl ?_
      refine bGo hA 2 1 (60, .iload 4, 2, 34, 0, [4], []) rfl rfl rfl ?_
      refine bGo hA 2 2 (62, .iconst (-1), 1, 35, 0, [], [(-1, 0)]) rfl rfl rfl ?_
      refine bGo hA 2 3 (63, .if_icmp .eq (31), 3, 36, 48, [], []) rfl rfl rfl ?_
      refine ⟨fun c6 => ?_, fun c6 => ?_⟩
      · refine bGo hA 3 0 (94, .iinc 3 (1), 3, 49, 0, [3], [(1, 0)]) rfl rfl rfl ?_
        refine bGo hA 3 1 (97, .goto (-59), 3, 50, 22, [], []) rfl rfl rfl ?_
        exact (k4.1 c6)
      · refine bGo hA 2 4 (66, .aload_n 0, 1, 37, 0, [0], []) rfl rfl rfl ?_
        refine bGo hA 2 5 (67, .getfield 55, 3, 38, 0, [5, 1, 3, 6, 0, 0], []) rfl rfl rfl ?_
        refine ⟨rfl, ?_⟩
        refine bGo hA 2 6 (70, .iload 4, 2, 39, 0, [4], []) rfl rfl rfl ?_
        refine bGo hA 2 7 (72, .invokevirtual 113, 3, 40, 0, [0, 6, 89, 1], []) rfl rfl rfl ?_
        refine ⟨rfl, ?_⟩
        refine hC _ _ _ _ _ (bRa_e (fun r9 s7 k8 => ?_)) (k4.2 c6)
        show A (40, [.ref 5, .int l1, .ref l2, .int l3, .int r5, v5], [.ref r9], s7)
        refine bGo hA 2 8 (75, .astore 5, 2, 41, 0, [5], []) rfl rfl rfl ?_
        refine bGo hA 2 9 (77, .aload 5, 2, 42, 0, [5], []) rfl rfl rfl ?_
        refine bGo hA 2 10 (79, .aload 5, 2, 43, 0, [5], []) rfl rfl rfl ?_
        refine bGo hA 2 11 (81, .getfield 127, 3, 44, 0, [0, 9, 0, 0, 0, 0], []) rfl rfl rfl ?_
        refine ⟨k8.1, ?_⟩
        refine bGo hA 2 12 (84, .aload_n 2, 1, 45, 0, [2], []) rfl rfl rfl ?_
        refine bGo hA 2 13 (85, .getfield 127, 3, 46, 0, [0, 9, 0, 0, 0, 0], []) rfl rfl rfl ?_
        refine ⟨h.1, ?_⟩
        refine bGo hA 2 14 (88, .invokestatic 142, 3, 47, 0, [2, 359, 2], []) rfl rfl rfl ?_
        refine hC _ _ _ _ _ (bRi_e (fun r12 s10 k11 => ?_)) k8.2
        show A (47, [.ref 5, .int l1, .ref l2, .int l3, .int r5, .ref r9], [.int r12, .ref r9], s10)
        refine bGo hA 2 15 (91, .putfield 127, 3, 48, 0, [0, 9, 0, 0, 0, 0], []) rfl rfl rfl ?_
        refine ⟨k8.1, ?_⟩
        refine bGo hA 3 0 (94, .iinc 3 (1), 3, 49, 0, [3], [(1, 0)]) rfl rfl rfl ?_
        refine bGo hA 3 1 (97, .goto (-59), 3, 50, 22, [], []) rfl rfl rfl ?_
        exact k11
    · refine bGo hA 3 2 (100, .iinc 1 (-1), 3, 51, 0, [1], [(-1, 0)]) rfl rfl rfl ?_
      refine bGo hA 3 3 (103, .goto (-93), 3, 52, 6, [], []) rfl rfl rfl ?_
      exact ((h.2.2 c1).2 c2)

theorem sg50_0 {lvl : Nat} {C : bCall} {Q : bPost} {A : bPt → Prop} (hC : bMono C) (hA : bClosed lvl bm50 C Q A) {x1 : Int32} {x2 : Int32} {σ : bSt} 
  (h : A (2, [.ref 5, .int x1, .int x2, .int 0, .float 0], [], σ)) : A (0, [.ref 5, .int x1, .int x2, .float 0, .float 0], [], σ) := by
  refine bGo hA 0 0 (0, .iconst (0), 1, 1, 0, [], [(0, 0)]) rfl rfl rfl ?_
  refine bGo hA 0 1 (1, .istore_n 3, 1, 2, 0, [3], []) rfl rfl rfl ?_
  exact h

theorem sg50_2 {lvl : Nat} {C : bCall} {Q : bPost} {A : bPt → Prop} (hC : bMono C) (hA : bClosed lvl bm50 C Q A) {l1 : Int32} {l2 : Int32} {l3 : Int32} {v4 : Value} {σ : bSt} 
  (h : ((l3 < 100000 → (C 52 [.ref 5, .int l1] σ (bRv (fun s2 => ((l2 = 0 → A (17, [.ref 5, .int l1, .int l2, .int l3, v4], [], s2)) ∧ (¬ l2 = 0 → (((s2.1 5 9) < l2 → A (17, [.ref 5, .int l1, .int l2, .int l3, v4], [], s2)) ∧ (¬ (s2.1 5 9) < l2 → (C 55 [.ref 5] s2 (bRv (fun s6 => Q (.inl none) s6))))))))))) ∧ (¬ l3 < 100000 → Q (.inl none) σ))) : A (2, [.ref 5, .int l1, .int l2, .int l3, v4], [], σ) := by
  refine bGo hA 0 2 (2, .iload_n 3, 1, 3, 0, [3], []) rfl rfl rfl ?_
  refine bGo hA 0 3 (3, .ldc 148, 2, 4, 0, [148], [(100000, 0)]) rfl rfl rfl ?_
  refine bGo hA 0 4 (5, .if_icmp .ge (76), 3, 5, 41, [], []) rfl rfl rfl ?_
  refine ⟨fun c1 => ?_, fun c1 => ?_⟩
  · refine bGo hA 0 5 (8, .aload_n 0, 1, 6, 0, [0], []) rfl rfl rfl ?_
    refine bGo hA 0 6 (9, .iload_n 1, 1, 7, 0, [1], []) rfl rfl rfl ?_
    refine bGo hA 0 7 (10, .invokevirtual 149, 3, 8, 0, [0, 5, 52, 1], []) rfl rfl rfl ?_
    refine ⟨rfl, ?_⟩
    refine hC _ _ _ _ _ (bRv_e (fun s2 k3 => ?_)) (h.1 c1)
    show A (8, [.ref 5, .int l1, .int l2, .int l3, v4], [], s2)
    refine bGo hA 0 8 (13, .iload_n 2, 1, 9, 0, [2], []) rfl rfl rfl ?_
    refine bGo hA 0 9 (14, .ifCond .eq (16), 3, 10, 17, [], []) rfl rfl rfl ?_
    refine ⟨fun c4 => ?_, fun c4 => ?_⟩
    · exact (k3.1 c4)
    · refine bGo hA 0 10 (17, .aload_n 0, 1, 11, 0, [0], []) rfl rfl rfl ?_
      refine bGo hA 0 11 (18, .getfield 104, 3, 12, 0, [5, 9, 0, 0, 0, 0], []) rfl rfl rfl ?_
      refine ⟨rfl, ?_⟩
      refine bGo hA 0 12 (21, .iload_n 2, 1, 13, 0, [2], []) rfl rfl rfl ?_
      refine bGo hA 0 13 (22, .if_icmp .lt (8), 3, 14, 17, [], []) rfl rfl rfl ?_
      refine ⟨fun c5 => ?_, fun c5 => ?_⟩
      · exact ((k3.2 c4).1 c5)
      · refine bGo hA 0 14 (25, .aload_n 0, 1, 15, 0, [0], []) rfl rfl rfl ?_
        refine bGo hA 0 15 (26, .invokevirtual 153, 3, 16, 0, [0, 5, 55, 0], []) rfl rfl rfl ?_
        refine ⟨rfl, ?_⟩
        refine hC _ _ _ _ _ (bRv_e (fun s6 k7 => ?_)) ((k3.2 c4).2 c5)
        show A (16, [.ref 5, .int l1, .int l2, .int l3, v4], [], s6)
        refine bGo hA 1 0 (29, .return_, 1, 17, 0, [0], []) rfl rfl rfl ?_
        exact k7
  · refine bGo hA 2 9 (81, .return_, 1, 0, 0, [0], []) rfl rfl rfl ?_
    exact (h.2 c1)

theorem sg50_17 {lvl : Nat} {C : bCall} {Q : bPost} {A : bPt → Prop} (hC : bMono C) (hA : bClosed lvl bm50 C Q A) {l1 : Int32} {l2 : Int32} {l3 : Int32} {v4 : Value} {σ : bSt} 
  (h : (((σ.1 5 10) = 0 → (C 56 [.ref 5] σ (bRv (fun s2 => (C 51 [.ref 5] s2 (bRi (fun r6 s4 => ((r6 = 2147483647 → Q (.inl none) s4) ∧ (¬ r6 = 2147483647 → ((l2 = 0 → A (2, [.ref 5, .int l1, .int l2, .int (l3 + 1), .int r6], [], (bI s4 5 9 r6))) ∧ (¬ l2 = 0 → ((l2 < r6 → A (2, [.ref 5, .int l1, .int l2, .int (l3 + 1), .int r6], [], (bI s4 5 9 l2))) ∧ (¬ l2 < r6 → A (2, [.ref 5, .int l1, .int l2, .int (l3 + 1), .int r6], [], (bI s4 5 9 r6))))))))))))))) ∧ (¬ (σ.1 5 10) = 0 → (C 51 [.ref 5] σ (bRi (fun r12 s10 => ((r12 = 2147483647 → Q (.inl none) s10) ∧ (¬ r12 = 2147483647 → ((l2 = 0 → A (2, [.ref 5, .int l1, .int l2, .int (l3 + 1), .int r12], [], (bI s10 5 9 r12))) ∧ (¬ l2 = 0 → ((l2 < r12 → A (2, [.ref 5, .int l1, .int l2, .int (l3 + 1), .int r12], [], (bI s10 5 9 l2))) ∧ (¬ l2 < r12 → A (2, [.ref 5, .int l1, .int l2, .int (l3 + 1), .int r12], [], (bI s10 5 9 r12)))))))))))))) : A (17, [.ref 5, .int l1, .int l2, .int l3, v4], [], σ) := by
  refine bGo hA 1 1 (30, .aload_n 0, 1, 18, 0, [0], []) rfl rfl rfl ?_
  refine bGo hA 1 2 (31, .getfield 107, 3, 19, 0, [5, 10, 1, 0, 0, 0], []) rfl rfl rfl ?_
  refine ⟨rfl, ?_⟩
  refine bGo hA 1 3 (34, .ifCond .ne (7), 3, 20, 22, [], []) rfl rfl rfl ?_
  refine ⟨fun c1 => ?_, fun c1 => ?_⟩
  · refine bGo hA 1 4 (37, .aload_n 0, 1, 21, 0, [0], []) rfl rfl rfl ?_
    refine bGo hA 1 5 (38, .invokevirtual 156, 3, 22, 0, [0, 5, 56, 0], []) rfl rfl rfl ?_
    refine ⟨rfl, ?_⟩
    refine hC _ _ _ _ _ (bRv_e (fun s2 k3 => ?_)) (h.1 c1)
    show A (22, [.ref 5, .int l1, .int l2, .int l3, v4], [], s2)
    refine bGo hA 1 6 (41, .aload_n 0, 1, 23, 0, [0], []) rfl rfl rfl ?_
    refine bGo hA 1 7 (42, .invokevirtual 159, 3, 24, 0, [0, 5, 51, 0], []) rfl rfl rfl ?_
    refine ⟨rfl, ?_⟩
    refine hC _ _ _ _ _ (bRi_e (fun r6 s4 k5 => ?_)) k3
    show A (24, [.ref 5, .int l1, .int l2, .int l3, v4], [.int r6], s4)
    refine bGo hA 1 8 (45, .istore 4, 2, 25, 0, [4], []) rfl rfl rfl ?_
    refine bGo hA 1 9 (47, .iload 4, 2, 26, 0, [4], []) rfl rfl rfl ?_
    refine bGo hA 1 10 (49, .ldc 163, 2, 27, 0, [163], [(2147483647, 0)]) rfl rfl rfl ?_
    refine bGo hA 1 11 (51, .if_icmp .ne (4), 3, 28, 29, [], []) rfl rfl rfl ?_
    refine ⟨fun c7 => ?_, fun c7 => ?_⟩
    · refine bGo hA 1 12 (54, .return_, 1, 29, 0, [0], []) rfl rfl rfl ?_
      exact (k5.1 c7)
    · refine bGo hA 1 13 (55, .aload_n 0, 1, 30, 0, [0], []) rfl rfl rfl ?_
      refine bGo hA 1 14 (56, .iload_n 2, 1, 31, 0, [2], []) rfl rfl rfl ?_
      refine bGo hA 1 15 (57, .ifCond .eq (13), 3, 32, 37, [], []) rfl rfl rfl ?_
      refine ⟨fun c8 => ?_, fun c8 => ?_⟩
      · refine bGo hA 2 5 (70, .iload 4, 2, 38, 0, [4], []) rfl rfl rfl ?_
        refine bGo hA 2 6 (72, .putfield 104, 3, 39, 0, [5, 9, 0, 0, 0, 0], []) rfl rfl rfl ?_
        refine ⟨rfl, ?_⟩
        refine bGo hA 2 7 (75, .iinc 3 (1), 3, 40, 0, [3], [(1, 0)]) rfl rfl rfl ?_
        refine bGo hA 2 8 (78, .goto (-76), 3, 41, 2, [], []) rfl rfl rfl ?_
        exact ((k5.2 c7).1 c8)
      · refine bGo hA 2 0 (60, .iload 4, 2, 33, 0, [4], []) rfl rfl rfl ?_
        refine bGo hA 2 1 (62, .iload_n 2, 1, 34, 0, [2], []) rfl rfl rfl ?_
        refine bGo hA 2 2 (63, .if_icmp .le (7), 3, 35, 37, [], []) rfl rfl rfl ?_
        refine ⟨fun c9 => ?_, fun c9 => ?_⟩
        · refine bGo hA 2 3 (66, .iload_n 2, 1, 36, 0, [2], []) rfl rfl rfl ?_
          refine bGo hA 2 4 (67, .goto (5), 3, 37, 38, [], []) rfl rfl rfl ?_
          refine bGo hA 2 6 (72, .putfield 104, 3, 39, 0, [5, 9, 0, 0, 0, 0], []) rfl rfl rfl ?_
          refine ⟨rfl, ?_⟩
          refine bGo hA 2 7 (75, .iinc 3 (1), 3, 40, 0, [3], [(1, 0)]) rfl rfl rfl ?_
          refine bGo hA 2 8 (78, .goto (-76), 3, 41, 2, [], []) rfl rfl rfl ?_
          exact (((k5.2 c7).2 c8).1 c9)
        · refine bGo hA 2 5 (70, .iload 4, 2, 38, 0, [4], []) rfl rfl rfl ?_
          refine bGo hA 2 6 (72, .putfield 104, 3, 39, 0, [5, 9, 0, 0, 0, 0], []) rfl rfl rfl ?_
          refine ⟨rfl, ?_⟩
          refine bGo hA 2 7 (75, .iinc 3 (1), 3, 40, 0, [3], [(1, 0)]) rfl rfl rfl ?_
          refine bGo hA 2 8 (78, .goto (-76), 3, 41, 2, [], []) rfl rfl rfl ?_
          exact (((k5.2 c7).2 c8).2 c9)
  · refine bGo hA 1 6 (41, .aload_n 0, 1, 23, 0, [0], []) rfl rfl rfl ?_
    refine bGo hA 1 7 (42, .invokevirtual 159, 3, 24, 0, [0, 5, 51, 0], []) rfl rfl rfl ?_
    refine ⟨rfl, ?_⟩
    refine hC _ _ _ _ _ (bRi_e (fun r12 s10 k11 => ?_)) (h.2 c1)
    show A (24, [.ref 5, .int l1, .int l2, .int l3, v4], [.int r12], s10)
    refine bGo hA 1 8 (45, .istore 4, 2, 25, 0, [4], []) rfl rfl rfl ?_
    refine bGo hA 1 9 (47, .iload 4, 2, 26, 0, [4], []) rfl rfl rfl ?_
    refine bGo hA 1 10 (49, .ldc 163, 2, 27, 0, [163], [(2147483647, 0)]) rfl rfl rfl ?_
    refine bGo hA 1 11 (51, .if_icmp .ne (4), 3, 28, 29, [], []) rfl rfl rfl ?_
    refine ⟨fun c13 => ?_, fun c13 => ?_⟩
    · refine bGo hA 1 12 (54, .return_, 1, 29, 0, [0], []) rfl rfl rfl ?_
      exact (k11.1 c13)
    · refine bGo hA 1 13 (55, .aload_n 0, 1, 30, 0, [0], []) rfl rfl rfl ?_
      refine bGo hA 1 14 (56, .iload_n 2, 1, 31, 0, [2], []) rfl rfl rfl ?_
      refine bGo hA 1 15 (57, .ifCond .eq (13), 3, 32, 37, [], []) rfl rfl rfl ?_
      refine ⟨fun c14 => ?_, fun c14 => ?_⟩
      · refine bGo hA 2 5 (70, .iload 4, 2, 38, 0, [4], []) rfl rfl rfl ?_
        refine bGo hA 2 6 (72, .putfield 104, 3, 39, 0, [5, 9, 0, 0, 0, 0], []) rfl rfl rfl ?_
        refine ⟨rfl, ?_⟩
        refine bGo hA 2 7 (75, .iinc 3 (1), 3, 40, 0, [3], [(1, 0)]) rfl rfl rfl ?_
        refine bGo hA 2 8 (78, .goto (-76), 3, 41, 2, [], []) rfl rfl rfl ?_
        exact ((k11.2 c13).1 c14)
      · refine bGo hA 2 0 (60, .iload 4, 2, 33, 0, [4], []) rfl rfl rfl ?_
        refine bGo hA 2 1 (62, .iload_n 2, 1, 34, 0, [2], []) rfl rfl rfl ?_
        refine bGo hA 2 2 (63, .if_icmp .le (7), 3, 35, 37, [], []) rfl rfl rfl ?_
        refine ⟨fun c15 => ?_, fun c15 => ?_⟩
        · refine bGo hA 2 3 (66, .iload_n 2, 1, 36, 0, [2], []) rfl rfl rfl ?_
          refine bGo hA 2 4 (67, .goto (5), 3, 37, 38, [], []) rfl rfl rfl ?_
          refine bGo hA 2 6 (72, .putfield 104, 3, 39, 0, [5, 9, 0, 0, 0, 0], []) rfl rfl rfl ?_
          refine ⟨rfl, ?_⟩
          refine bGo hA 2 7 (75, .iinc 3 (1), 3, 40, 0, [3], [(1, 0)]) rfl rfl rfl ?_
          refine bGo hA 2 8 (78, .goto (-76), 3, 41, 2, [], []) rfl rfl rfl ?_
          exact (((k11.2 c13).2 c14).1 c15)
        · refine bGo hA 2 5 (70, .iload 4, 2, 38, 0, [4], []) rfl rfl rfl ?_
          refine bGo hA 2 6 (72, .putfield 104, 3, 39, 0, [5, 9, 0, 0, 0, 0], []) rfl rfl rfl ?_
          refine ⟨rfl, ?_⟩
          refine bGo hA 2 7 (75, .iinc 3 (1), 3, 40, 0, [3], [(1, 0)]) rfl rfl rfl ?_
          refine bGo hA 2 8 (78, .goto (-76), 3, 41, 2, [], []) rfl rfl rfl ?_
          exact (((k11.2 c13).2 c14).2 c15)

theorem sg51_0 {lvl : Nat} {C : bCall} {Q : bPost} {A : bPt → Prop} (hC : bMono C) (hA : bClosed lvl bm51 C Q A)  {σ : bSt} 
  (h : A (4, [.ref 5, .int 2147483647, .int 0], [], σ)) : A (0, [.ref 5, .float 0, .float 0], [], σ) := by
  refine bGo hA 0 0 (0, .ldc 163, 2, 1, 0, [163], [(2147483647, 0)]) rfl rfl rfl ?_
  refine bGo hA 0 1 (2, .istore_n 1, 1, 2, 0, [1], []) rfl rfl rfl ?_
  refine bGo hA 0 2 (3, .iconst (0), 1, 3, 0, [], [(0, 0)]) rfl rfl rfl ?_
  refine bGo hA 0 3 (4, .istore_n 2, 1, 4, 0, [2], []) rfl rfl rfl ?_
  exact h

theorem sg51_4 {lvl : Nat} {C : bCall} {Q : bPost} {A : bPt → Prop} (hC : bMono C) (hA : bClosed lvl bm51 C Q A) {l1 : Int32} {l2 : Int32} {σ : bSt} 
  (h : ((l2 < (σ.1 6 13) → (C 89 [.ref 6, .int l2] σ (bRa (fun r4 s2 => (r4 % 256 = 0 ∧ (C 12 [.ref r4] s2 (bRi (fun r7 s5 => (C 360 [.int l1, .int r7] s5 (bRi (fun r10 s8 => A (4, [.ref 5, .int r10, .int (l2 + 1)], [], s8)))))))))))) ∧ (¬ l2 < (σ.1 6 13) → Q (.inl (some (.int l1))) σ))) : A (4, [.ref 5, .int l1, .int l2], [], σ) := by
  refine bGo hA 0 4 (5, .iload_n 2, 1, 5, 0, [2], []) rfl rfl rfl ?_
  refine bGo hA 0 5 (6, .aload_n 0, 1, 6, 0, [0], []) rfl rfl rfl ?_
  refine bGo hA 0 6 (7, .getfield 55, 3, 7, 0, [5, 1, 3, 6, 0, 0], []) rfl rfl rfl ?_
  refine ⟨rfl, ?_⟩
  refine bGo hA 0 7 (10, .getfield 110, 3, 8, 0, [6, 13, 0, 0, 0, 0], []) rfl rfl rfl ?_
  refine ⟨rfl, ?_⟩
  refine bGo hA 0 8 (13, .if_icmp .ge (25), 3, 9, 19, [], []) rfl rfl rfl ?_
  refine ⟨fun c1 => ?_, fun c1 => ?_⟩
  · refine bGo hA 0 9 (16, .iload_n 1, 1, 10, 0, [1], []) rfl rfl rfl ?_
    refine bGo hA 0 10 (17, .aload_n 0, 1, 11, 0, [0], []) rfl rfl rfl ?_
    refine bGo hA 0 11 (18, .getfield 55, 3, 12, 0, [5, 1, 3, 6, 0, 0], []) rfl rfl rfl ?_
    refine ⟨rfl, ?_⟩
    refine bGo hA 0 12 (21, .iload_n 2, 1, 13, 0, [2], []) rfl rfl rfl ?_
    refine bGo hA 0 13 (22, .invokevirtual 113, 3, 14, 0, [0, 6, 89, 1], []) rfl rfl rfl ?_
    refine ⟨rfl, ?_⟩
    refine hC _ _ _ _ _ (bRa_e (fun r4 s2 k3 => ?_)) (h.1 c1)
    show A (14, [.ref 5, .int l1, .int l2], [.ref r4, .int l1], s2)
    refine bGo hA 0 14 (25, .invokevirtual 164, 3, 15, 0, [0, 0, 12, 0], []) rfl rfl rfl ?_
    refine ⟨k3.1, ?_⟩
    refine hC _ _ _ _ _ (bRi_e (fun r7 s5 k6 => ?_)) k3.2
    show A (15, [.ref 5, .int l1, .int l2], [.int r7, .int l1], s5)
    refine bGo hA 0 15 (28, .invokestatic 165, 3, 16, 0, [2, 360, 2], []) rfl rfl rfl ?_
    refine hC _ _ _ _ _ (bRi_e (fun r10 s8 k9 => ?_)) k6
    show A (16, [.ref 5, .int l1, .int l2], [.int r10], s8)
    refine bGo hA 1 0 (31, .istore_n 1, 1, 17, 0, [1], []) rfl rfl rfl ?_
    refine bGo hA 1 1 (32, .iinc 2 (1), 3, 18, 0, [2], [(1, 0)]) rfl rfl rfl ?_
    refine bGo hA 1 2 (35, .goto (-30), 3, 19, 4, [], []) rfl rfl rfl ?_
    exact k9
  · refine bGo hA 1 3 (38, .iload_n 1, 1, 20, 0, [1], []) rfl rfl rfl ?_
    refine bGo hA 1 4 (39, .ireturn, 1, 0, 0, [1], []) rfl rfl rfl ?_
    exact (h.2 c1)

theorem sg52_0 {lvl : Nat} {C : bCall} {Q : bPost} {A : bPt → Prop} (hC : bMono C) (hA : bClosed lvl bm52 C Q A) {x1 : Int32} {σ : bSt} 
  (h : A (2, [.ref 5, .int x1, .int 0, .float 0], [], σ)) : A (0, [.ref 5, .int x1, .float 0, .float 0], [], σ) := by
  refine bGo hA 0 0 (0, .iconst (0), 1, 1, 0, [], [(0, 0)]) rfl rfl rfl ?_
  refine bGo hA 0 1 (1, .istore_n 2, 1, 2, 0, [2], []) rfl rfl rfl ?_
  exact h

theorem sg52_2 {lvl : Nat} {C : bCall} {Q : bPost} {A : bPt → Prop} (hC : bMono C) (hA : bClosed lvl bm52 C Q A) {l1 : Int32} {l2 : Int32} {v3 : Value} {σ : bSt} 
  (h : ((l2 < (σ.1 6 13) → (C 89 [.ref 6, .int l2] σ (bRa (fun r4 s2 => (r4 % 256 = 0 ∧ (((s2.1 r4 15) = (s2.1 5 9) → (C 13 [.ref r4, .int 2, .int (s2.1 5 9)] s2 (bRv (fun s6 => (C 17 [.ref 1, .ref (256 * (2 * (r4 / 256) + 0) + 4)] s6 (bRv (fun s8 => A (2, [.ref 5, .int l1, .int (l2 + 1), .ref r4], [], s8)))))))) ∧ (¬ (s2.1 r4 15) = (s2.1 5 9) → (((s2.1 r4 16) = (s2.1 5 9) → (((s2.1 r4 16) = (s2.1 5 9) → A (48, [.ref 5, .int l1, .int l2, .ref r4], [.int 1, .ref r4, .ref 5], s2)) ∧ (¬ (s2.1 r4 16) = (s2.1 5 9) → A (48, [.ref 5, .int l1, .int l2, .ref r4], [.int 0, .ref r4, .ref 5], s2)))) ∧ (¬ (s2.1 r4 16) = (s2.1 5 9) → (((s2.1 r4 17) = (s2.1 5 9) → (((s2.1 r4 16) = (s2.1 5 9) → A (48, [.ref 5, .int l1, .int l2, .ref r4], [.int 1, .ref r4, .ref 5], s2)) ∧ (¬ (s2.1 r4 16) = (s2.1 5 9) → A (48, [.ref 5, .int l1, .int l2, .ref r4], [.int 0, .ref r4, .ref 5], s2)))) ∧ (¬ (s2.1 r4 17) = (s2.1 5 9) → A (2, [.ref 5, .int l1, .int (l2 + 1), .ref r4], [], s2)))))))))))) ∧ (¬ l2 < (σ.1 6 13) → Q (.inl none) σ))) : A (2, [.ref 5, .int l1, .int l2, v3], [], σ) := by
  refine bGo hA 0 2 (2, .iload_n 2, 1, 3, 0, [2], []) rfl rfl rfl ?_
  refine bGo hA 0 3 (3, .aload_n 0, 1, 4, 0, [0], []) rfl rfl rfl ?_
  refine bGo hA 0 4 (4, .getfield 55, 3, 5, 0, [5, 1, 3, 6, 0, 0], []) rfl rfl rfl ?_
  refine ⟨rfl, ?_⟩
  refine bGo hA 0 5 (7, .getfield 110, 3, 6, 0, [6, 13, 0, 0, 0, 0], []) rfl rfl rfl ?_
  refine ⟨rfl, ?_⟩
  refine bGo hA 0 6 (10, .if_icmp .ge (141), 3, 7, 75, [], []) rfl rfl rfl ?_
  refine ⟨fun c1 => ?_, fun c1 => ?_⟩
  · refine bGo hA 0 7 (13, .aload_n 0, 1, 8, 0, [0], []) rfl rfl rfl ?_
    refine bGo hA 0 8 (14, .getfield 55, 3, 9, 0, [5, 1, 3, 6, 0, 0], []) rfl rfl rfl ?_
    refine ⟨rfl, ?_⟩
    refine bGo hA 0 9 (17, .iload_n 2, 1, 10, 0, [2], []) rfl rfl rfl ?_
    refine bGo hA 0 10 (18, .invokevirtual 113, 3, 11, 0, [0, 6, 89, 1], []) rfl rfl rfl ?_
    refine ⟨rfl, ?_⟩
    refine hC _ _ _ _ _ (bRa_e (fun r4 s2 k3 => ?_)) (h.1 c1)
    show A (11, [.ref 5, .int l1, .int l2, v3], [.ref r4], s2)
    refine bGo hA 0 11 (21, .astore_n 3, 1, 12, 0, [3], []) rfl rfl rfl ?_
    refine bGo hA 0 12 (22, .aload_n 3, 1, 13, 0, [3], []) rfl rfl rfl ?_
    refine bGo hA 0 13 (23, .getfield 168, 3, 14, 0, [0, 15, 0, 0, 0, 0], []) rfl rfl rfl ?_
    refine ⟨k3.1, ?_⟩
    refine bGo hA 0 14 (26, .aload_n 0, 1, 15, 0, [0], []) rfl rfl rfl ?_
    refine bGo hA 0 15 (27, .getfield 104, 3, 16, 0, [5, 9, 0, 0, 0, 0], []) rfl rfl rfl ?_
    refine ⟨rfl, ?_⟩
    refine bGo hA 1 0 (30, .if_icmp .ne (26), 3, 17, 28, [], []) rfl rfl rfl ?_
    refine ⟨fun c5 => ?_, fun c5 => ?_⟩
    · refine bGo hA 1 1 (33, .aload_n 3, 1, 18, 0, [3], []) rfl rfl rfl ?_
      refine bGo hA 1 2 (34, .iconst (2), 1, 19, 0, [], [(2, 0)]) rfl rfl rfl ?_
      refine bGo hA 1 3 (35, .aload_n 0, 1, 20, 0, [0], []) rfl rfl rfl ?_
      refine bGo hA 1 4 (36, .getfield 104, 3, 21, 0, [5, 9, 0, 0, 0, 0], []) rfl rfl rfl ?_
      refine ⟨rfl, ?_⟩
      refine bGo hA 1 5 (39, .invokevirtual 171, 3, 22, 0, [0, 0, 13, 2], []) rfl rfl rfl ?_
      refine ⟨k3.1, ?_⟩
      refine hC _ _ _ _ _ (bRv_e (fun s6 k7 => ?_)) (k3.2.1 c5)
      show A (22, [.ref 5, .int l1, .int l2, .ref r4], [], s6)
      refine bGo hA 1 6 (42, .aload_n 0, 1, 23, 0, [0], []) rfl rfl rfl ?_
      refine bGo hA 1 7 (43, .getfield 14, 3, 24, 0, [5, 2, 3, 1, 0, 0], []) rfl rfl rfl ?_
      refine ⟨rfl, ?_⟩
      refine bGo hA 1 8 (46, .aload_n 3, 1, 25, 0, [3], []) rfl rfl rfl ?_
      refine bGo hA 1 9 (47, .getfield 175, 3, 26, 0, [0, 3, 3, 4, 2, 0], []) rfl rfl rfl ?_
      refine ⟨k3.1, ?_⟩
      refine bGo hA 1 10 (50, .invokevirtual 179, 3, 27, 0, [0, 1, 17, 1], []) rfl rfl rfl ?_
      refine ⟨rfl, ?_⟩
      refine hC _ _ _ _ _ (bRv_e (fun s8 k9 => ?_)) k7
      show A (27, [.ref 5, .int l1, .int l2, .ref r4], [], s8)
      refine bGo hA 1 11 (53, .goto (92), 3, 28, 73, [], []) rfl rfl rfl ?_
      refine bGo hA 4 9 (145, .iinc 2 (1), 3, 74, 0, [2], [(1, 0)]) rfl rfl rfl ?_
      refine bGo hA 4 10 (148, .goto (-146), 3, 75, 2, [], []) rfl rfl rfl ?_
      exact k9
    · refine bGo hA 1 12 (56, .aload_n 3, 1, 29, 0, [3], []) rfl rfl rfl ?_
      refine bGo hA 1 13 (57, .getfield 183, 3, 30, 0, [0, 16, 0, 0, 0, 0], []) rfl rfl rfl ?_
      refine ⟨k3.1, ?_⟩
      refine bGo hA 1 14 (60, .aload_n 0, 1, 31, 0, [0], []) rfl rfl rfl ?_
      refine bGo hA 1 15 (61, .getfield 104, 3, 32, 0, [5, 9, 0, 0, 0, 0], []) rfl rfl rfl ?_
      refine ⟨rfl, ?_⟩
      refine bGo hA 2 0 (64, .if_icmp .eq (14), 3, 33, 38, [], []) rfl rfl rfl ?_
      refine ⟨fun c10 => ?_, fun c10 => ?_⟩
      · refine bGo hA 2 6 (78, .aload_n 0, 1, 39, 0, [0], []) rfl rfl rfl ?_
        refine bGo hA 2 7 (79, .aload_n 3, 1, 40, 0, [3], []) rfl rfl rfl ?_
        refine bGo hA 2 8 (80, .aload_n 3, 1, 41, 0, [3], []) rfl rfl rfl ?_
        refine bGo hA 2 9 (81, .getfield 183, 3, 42, 0, [0, 16, 0, 0, 0, 0], []) rfl rfl rfl ?_
        refine ⟨k3.1, ?_⟩
        refine bGo hA 2 10 (84, .aload_n 0, 1, 43, 0, [0], []) rfl rfl rfl ?_
        refine bGo hA 2 11 (85, .getfield 104, 3, 44, 0, [5, 9, 0, 0, 0, 0], []) rfl rfl rfl ?_
        refine ⟨rfl, ?_⟩
        refine bGo hA 2 12 (88, .if_icmp .ne (7), 3, 45, 47, [], []) rfl rfl rfl ?_
        refine ⟨fun c11 => ?_, fun c11 => ?_⟩
        · refine bGo hA 2 13 (91, .iconst (1), 1, 46, 0, [], [(1, 0)]) rfl rfl rfl ?_
          refine bGo hA 2 14 (92, .goto (4), 3, 47, 48, [], []) rfl rfl rfl ?_
          exact (((k3.2.2 c5).1 c10).1 c11)
        · refine bGo hA 2 15 (95, .iconst (0), 1, 48, 0, [], [(0, 0)]) rfl rfl rfl ?_
          exact (((k3.2.2 c5).1 c10).2 c11)
      · refine bGo hA 2 1 (67, .aload_n 3, 1, 34, 0, [3], []) rfl rfl rfl ?_
        refine bGo hA 2 2 (68, .getfield 186, 3, 35, 0, [0, 17, 0, 0, 0, 0], []) rfl rfl rfl ?_
        refine ⟨k3.1, ?_⟩
        refine bGo hA 2 3 (71, .aload_n 0, 1, 36, 0, [0], []) rfl rfl rfl ?_
        refine bGo hA 2 4 (72, .getfield 104, 3, 37, 0, [5, 9, 0, 0, 0, 0], []) rfl rfl rfl ?_
        refine ⟨rfl, ?_⟩
        refine bGo hA 2 5 (75, .if_icmp .ne (70), 3, 38, 73, [], []) rfl rfl rfl ?_
        refine ⟨fun c12 => ?_, fun c12 => ?_⟩
        · refine bGo hA 2 6 (78, .aload_n 0, 1, 39, 0, [0], []) rfl rfl rfl ?_
          refine bGo hA 2 7 (79, .aload_n 3, 1, 40, 0, [3], []) rfl rfl rfl ?_
          refine bGo hA 2 8 (80, .aload_n 3, 1, 41, 0, [3], []) rfl rfl rfl ?_
          refine bGo hA 2 9 (81, .getfield 183, 3, 42, 0, [0, 16, 0, 0, 0, 0], []) rfl rfl rfl ?_
          refine ⟨k3.1, ?_⟩
          refine bGo hA 2 10 (84, .aload_n 0, 1, 43, 0, [0], []) rfl rfl rfl ?_
          refine bGo hA 2 11 (85, .getfield 104, 3, 44, 0, [5, 9, 0, 0, 0, 0], []) rfl rfl rfl ?_
          refine ⟨rfl, ?_⟩
          refine bGo hA 2 12 (88, .if_icmp .ne (7), 3, 45, 47, [], []) rfl rfl rfl ?_
          refine ⟨fun c13 => ?_, fun c13 => ?_⟩
          · refine bGo hA 2 13 (91, .iconst (1), 1, 46, 0, [], [(1, 0)]) rfl rfl rfl ?_
            refine bGo hA 2 14 (92, .goto (4), 3, 47, 48, [], []) rfl rfl rfl ?_
            exact ((((k3.2.2 c5).2 c10).1 c12).1 c13)
          · refine bGo hA 2 15 (95, .iconst (0), 1, 48, 0, [], [(0, 0)]) rfl rfl rfl ?_
            exact ((((k3.2.2 c5).2 c10).1 c12).2 c13)
        · refine bGo hA 4 9 (145, .iinc 2 (1), 3, 74, 0, [2], [(1, 0)]) rfl rfl rfl ?_
          refine bGo hA 4 10 (148, .goto (-146), 3, 75, 2, [], []) rfl rfl rfl ?_
          exact (((k3.2.2 c5).2 c10).2 c12)
  · refine bGo hA 4 11 (151, .return_, 1, 0, 0, [0], []) rfl rfl rfl ?_
    exact (h.2 c1)

theorem sg52_48 {lvl : Nat} {C : bCall} {Q : bPost} {A : bPt → Prop} (hC : bMono C) (hA : bClosed lvl bm52 C Q A) {l1 : Int32} {l2 : Int32} {l3 : Nat} {t0 : Int32} {t1 : Nat} {σ : bSt} 
  (h : (C 53 [.ref 5, .ref t1, .int t0] σ (bRv (fun s1 => (l3 % 256 = 0 ∧ (((s1.1 l3 10) = 5 → (((s1.1 5 8) = (-1) → ((l1 = 0 → (((((bI s1 5 8 l2).1 5 10) ||| 1) = 0 ∨ (((bI s1 5 8 l2).1 5 10) ||| 1) = 1) ∧ A (2, [.ref 5, .int l1, .int (l2 + 1), .ref l3], [], (bI (bI s1 5 8 l2) 5 10 (((bI s1 5 8 l2).1 5 10) ||| 1))))) ∧ (¬ l1 = 0 → (((((bI s1 5 8 l2).1 5 10) ||| 0) = 0 ∨ (((bI s1 5 8 l2).1 5 10) ||| 0) = 1) ∧ A (2, [.ref 5, .int l1, .int (l2 + 1), .ref l3], [], (bI (bI s1 5 8 l2) 5 10 (((bI s1 5 8 l2).1 5 10) ||| 0))))))) ∧ (¬ (s1.1 5 8) = (-1) → ((l1 = 0 → (((((bI s1 5 8 (s1.1 5 8)).1 5 10) ||| 1) = 0 ∨ (((bI s1 5 8 (s1.1 5 8)).1 5 10) ||| 1) = 1) ∧ A (2, [.ref 5, .int l1, .int (l2 + 1), .ref l3], [], (bI (bI s1 5 8 (s1.1 5 8)) 5 10 (((bI s1 5 8 (s1.1 5 8)).1 5 10) ||| 1))))) ∧ (¬ l1 = 0 → (((((bI s1 5 8 (s1.1 5 8)).1 5 10) ||| 0) = 0 ∨ (((bI s1 5 8 (s1.1 5 8)).1 5 10) ||| 0) = 1) ∧ A (2, [.ref 5, .int l1, .int (l2 + 1), .ref l3], [], (bI (bI s1 5 8 (s1.1 5 8)) 5 10 (((bI s1 5 8 (s1.1 5 8)).1 5 10) ||| 0))))))))) ∧ (¬ (s1.1 l3 10) = 5 → A (2, [.ref 5, .int l1, .int (l2 + 1), .ref l3], [], s1)))))))) : A (48, [.ref 5, .int l1, .int l2, .ref l3], [.int t0, .ref t1, .ref 5], σ) := by
  refine bGo hA 3 0 (96, .invokevirtual 189, 3, 49, 0, [0, 5, 53, 2], []) rfl rfl rfl ?_
  refine ⟨rfl, ?_⟩
  refine hC _ _ _ _ _ (bRv_e (fun s1 k2 => ?_)) h
  show A (49, [.ref 5, .int l1, .int l2, .ref l3], [], s1)
  refine bGo hA 3 1 (99, .aload_n 3, 1, 50, 0, [3], []) rfl rfl rfl ?_
  refine bGo hA 3 2 (100, .getfield 193, 3, 51, 0, [0, 10, 0, 0, 0, 0], []) rfl rfl rfl ?_
  refine ⟨k2.1, ?_⟩
  refine bGo hA 3 3 (103, .iconst (5), 1, 52, 0, [], [(5, 0)]) rfl rfl rfl ?_
  refine bGo hA 3 4 (104, .if_icmp .ne (41), 3, 53, 73, [], []) rfl rfl rfl ?_
  refine ⟨fun c3 => ?_, fun c3 => ?_⟩
  · refine bGo hA 3 5 (107, .aload_n 0, 1, 54, 0, [0], []) rfl rfl rfl ?_
    refine bGo hA 3 6 (108, .aload_n 0, 1, 55, 0, [0], []) rfl rfl rfl ?_
    refine bGo hA 3 7 (109, .getfield 42, 3, 56, 0, [5, 8, 0, 0, 0, 0], []) rfl rfl rfl ?_
    refine ⟨rfl, ?_⟩
    refine bGo hA 3 8 (112, .iconst (-1), 1, 57, 0, [], [(-1, 0)]) rfl rfl rfl ?_
    refine bGo hA 3 9 (113, .if_icmp .ne (7), 3, 58, 60, [], []) rfl rfl rfl ?_
    refine ⟨fun c4 => ?_, fun c4 => ?_⟩
    · refine bGo hA 3 10 (116, .iload_n 2, 1, 59, 0, [2], []) rfl rfl rfl ?_
      refine bGo hA 3 11 (117, .goto (7), 3, 60, 62, [], []) rfl rfl rfl ?_
      refine bGo hA 3 14 (124, .putfield 42, 3, 63, 0, [5, 8, 0, 0, 0, 0], []) rfl rfl rfl ?_
      refine ⟨rfl, ?_⟩
      refine bGo hA 3 15 (127, .aload_n 0, 1, 64, 0, [0], []) rfl rfl rfl ?_
      refine bGo hA 4 0 (128, .dup, 1, 65, 0, [], []) rfl rfl rfl ?_
      refine bGo hA 4 1 (129, .getfield 107, 3, 66, 0, [5, 10, 1, 0, 0, 0], []) rfl rfl rfl ?_
      refine ⟨rfl, ?_⟩
      refine bGo hA 4 2 (132, .iload_n 1, 1, 67, 0, [1], []) rfl rfl rfl ?_
      refine bGo hA 4 3 (133, .ifCond .ne (7), 3, 68, 70, [], []) rfl rfl rfl ?_
      refine ⟨fun c5 => ?_, fun c5 => ?_⟩
      · refine bGo hA 4 4 (136, .iconst (1), 1, 69, 0, [], [(1, 0)]) rfl rfl rfl ?_
        refine bGo hA 4 5 (137, .goto (4), 3, 70, 71, [], []) rfl rfl rfl ?_
        refine bGo hA 4 7 (141, .ior, 1, 72, 0, [], []) rfl rfl rfl ?_
        refine bGo hA 4 8 (142, .putfield 107, 3, 73, 0, [5, 10, 1, 0, 0, 0], []) rfl rfl rfl ?_
        refine ⟨rfl, (((k2.2.1 c3).1 c4).1 c5).1, ?_⟩
        refine bGo hA 4 9 (145, .iinc 2 (1), 3, 74, 0, [2], [(1, 0)]) rfl rfl rfl ?_
        refine bGo hA 4 10 (148, .goto (-146), 3, 75, 2, [], []) rfl rfl rfl ?_
        exact (((k2.2.1 c3).1 c4).1 c5).2
      · refine bGo hA 4 6 (140, .iconst (0), 1, 71, 0, [], [(0, 0)]) rfl rfl rfl ?_
        refine bGo hA 4 7 (141, .ior, 1, 72, 0, [], []) rfl rfl rfl ?_
        refine bGo hA 4 8 (142, .putfield 107, 3, 73, 0, [5, 10, 1, 0, 0, 0], []) rfl rfl rfl ?_
        refine ⟨rfl, (((k2.2.1 c3).1 c4).2 c5).1, ?_⟩
        refine bGo hA 4 9 (145, .iinc 2 (1), 3, 74, 0, [2], [(1, 0)]) rfl rfl rfl ?_
        refine bGo hA 4 10 (148, .goto (-146), 3, 75, 2, [], []) rfl rfl rfl ?_
        exact (((k2.2.1 c3).1 c4).2 c5).2
    · refine bGo hA 3 12 (120, .aload_n 0, 1, 61, 0, [0], []) rfl rfl rfl ?_
      refine bGo hA 3 13 (121, .getfield 42, 3, 62, 0, [5, 8, 0, 0, 0, 0], []) rfl rfl rfl ?_
      refine ⟨rfl, ?_⟩
      refine bGo hA 3 14 (124, .putfield 42, 3, 63, 0, [5, 8, 0, 0, 0, 0], []) rfl rfl rfl ?_
      refine ⟨rfl, ?_⟩
      refine bGo hA 3 15 (127, .aload_n 0, 1, 64, 0, [0], []) rfl rfl rfl ?_
      refine bGo hA 4 0 (128, .dup, 1, 65, 0, [], []) rfl rfl rfl ?_
      refine bGo hA 4 1 (129, .getfield 107, 3, 66, 0, [5, 10, 1, 0, 0, 0], []) rfl rfl rfl ?_
      refine ⟨rfl, ?_⟩
      refine bGo hA 4 2 (132, .iload_n 1, 1, 67, 0, [1], []) rfl rfl rfl ?_
      refine bGo hA 4 3 (133, .ifCond .ne (7), 3, 68, 70, [], []) rfl rfl rfl ?_
      refine ⟨fun c6 => ?_, fun c6 => ?_⟩
      · refine bGo hA 4 4 (136, .iconst (1), 1, 69, 0, [], [(1, 0)]) rfl rfl rfl ?_
        refine bGo hA 4 5 (137, .goto (4), 3, 70, 71, [], []) rfl rfl rfl ?_
        refine bGo hA 4 7 (141, .ior, 1, 72, 0, [], []) rfl rfl rfl ?_
        refine bGo hA 4 8 (142, .putfield 107, 3, 73, 0, [5, 10, 1, 0, 0, 0], []) rfl rfl rfl ?_
        refine ⟨rfl, (((k2.2.1 c3).2 c4).1 c6).1, ?_⟩
        refine bGo hA 4 9 (145, .iinc 2 (1), 3, 74, 0, [2], [(1, 0)]) rfl rfl rfl ?_
        refine bGo hA 4 10 (148, .goto (-146), 3, 75, 2, [], []) rfl rfl rfl ?_
        exact (((k2.2.1 c3).2 c4).1 c6).2
      · refine bGo hA 4 6 (140, .iconst (0), 1, 71, 0, [], [(0, 0)]) rfl rfl rfl ?_
        refine bGo hA 4 7 (141, .ior, 1, 72, 0, [], []) rfl rfl rfl ?_
        refine bGo hA 4 8 (142, .putfield 107, 3, 73, 0, [5, 10, 1, 0, 0, 0], []) rfl rfl rfl ?_
        refine ⟨rfl, (((k2.2.1 c3).2 c4).2 c6).1, ?_⟩
        refine bGo hA 4 9 (145, .iinc 2 (1), 3, 74, 0, [2], [(1, 0)]) rfl rfl rfl ?_
        refine bGo hA 4 10 (148, .goto (-146), 3, 75, 2, [], []) rfl rfl rfl ?_
        exact (((k2.2.1 c3).2 c4).2 c6).2
  · refine bGo hA 4 9 (145, .iinc 2 (1), 3, 74, 0, [2], [(1, 0)]) rfl rfl rfl ?_
    refine bGo hA 4 10 (148, .goto (-146), 3, 75, 2, [], []) rfl rfl rfl ?_
    exact (k2.2.2 c3)

theorem sg53_0 {lvl : Nat} {C : bCall} {Q : bPost} {A : bPt → Prop} (hC : bMono C) (hA : bClosed lvl bm53 C Q A) {a1 : Nat} {x2 : Int32} {σ : bSt} (h_a1 : a1 % 256 = 0)
  (h : ((x2 = 0 → A (13, [.ref 5, .ref a1, .int x2, .ref (256 * (2 * (a1 / 256) + 0) + 4)], [.int (-1), .int (σ.1 a1 14), .ref 2], σ)) ∧ (¬ x2 = 0 → ((256 * (2 * (a1 / 256) + 0) + 4) % 256 = 4 ∧ A (13, [.ref 5, .ref a1, .int x2, .ref (256 * (2 * (a1 / 256) + 0) + 4)], [.int (σ.1 (256 * (2 * (a1 / 256) + 0) + 4) 2), .int (σ.1 a1 14), .ref 2], σ))))) : A (0, [.ref 5, .ref a1, .int x2, .float 0], [], σ) := by
  refine bGo hA 0 0 (0, .aload_n 1, 1, 1, 0, [1], []) rfl rfl rfl ?_
  refine bGo hA 0 1 (1, .getfield 175, 3, 2, 0, [0, 3, 3, 4, 2, 0], []) rfl rfl rfl ?_
  refine ⟨h_a1, ?_⟩
  refine bGo hA 0 2 (4, .astore_n 3, 1, 3, 0, [3], []) rfl rfl rfl ?_
  refine bGo hA 0 3 (5, .aload_n 0, 1, 4, 0, [0], []) rfl rfl rfl ?_
  refine bGo hA 0 4 (6, .getfield 26, 3, 5, 0, [5, 4, 3, 2, 0, 0], []) rfl rfl rfl ?_
  refine ⟨rfl, ?_⟩
  refine bGo hA 0 5 (9, .aload_n 1, 1, 6, 0, [1], []) rfl rfl rfl ?_
  refine bGo hA 0 6 (10, .getfield 196, 3, 7, 0, [0, 14, 0, 0, 0, 0], []) rfl rfl rfl ?_
  refine ⟨h_a1, ?_⟩
  refine bGo hA 0 7 (13, .iload_n 2, 1, 8, 0, [2], []) rfl rfl rfl ?_
  refine bGo hA 0 8 (14, .ifCond .eq (10), 3, 9, 12, [], []) rfl rfl rfl ?_
  refine ⟨fun c1 => ?_, fun c1 => ?_⟩
  · refine bGo hA 0 12 (24, .iconst (-1), 1, 13, 0, [], [(-1, 0)]) rfl rfl rfl ?_
    exact (h.1 c1)
  · refine bGo hA 0 9 (17, .aload_n 3, 1, 10, 0, [3], []) rfl rfl rfl ?_
    refine bGo hA 0 10 (18, .getfield 199, 3, 11, 0, [4, 2, 0, 0, 0, 0], []) rfl rfl rfl ?_
    refine ⟨(h.2 c1).1, ?_⟩
    refine bGo hA 0 11 (21, .goto (4), 3, 12, 13, [], []) rfl rfl rfl ?_
    exact (h.2 c1).2

theorem sg53_13 {lvl : Nat} {C : bCall} {Q : bPost} {A : bPt → Prop} (hC : bMono C) (hA : bClosed lvl bm53 C Q A) {l1 : Nat} {l2 : Int32} {l3 : Nat} {t0 : Int32} {t1 : Int32} {σ : bSt} 
  (h : (C 29 [.ref 2, .int t1, .int t0] σ (bRv (fun s1 => (l3 % 256 = 4 ∧ (((s1.1 l3 7) = 0 → (C 54 [.ref 5, .int 11, .int 0] s1 (bRv (fun s4 => (((s4.1 l3 8) = (-1) → (l1 % 256 = 0 ∧ (C 13 [.ref l1, .int 5, .int (s4.1 5 9)] s4 (bRv (fun s7 => Q (.inl none) s7))))) ∧ (¬ (s4.1 l3 8) = (-1) → ((l2 = 0 → A (39, [.ref 5, .ref l1, .int l2, .ref l3], [.int 4, .ref l1], s4)) ∧ (¬ l2 = 0 → A (39, [.ref 5, .ref l1, .int l2, .ref l3], [.int 3, .ref l1], s4))))))))) ∧ (¬ (s1.1 l3 7) = 0 → (C 54 [.ref 5, .int 11, .int 1] s1 (bRv (fun s10 => (((s10.1 l3 8) = (-1) → (l1 % 256 = 0 ∧ (C 13 [.ref l1, .int 5, .int (s10.1 5 9)] s10 (bRv (fun s13 => Q (.inl none) s13))))) ∧ (¬ (s10.1 l3 8) = (-1) → ((l2 = 0 → A (39, [.ref 5, .ref l1, .int l2, .ref l3], [.int 4, .ref l1], s10)) ∧ (¬ l2 = 0 → A (39, [.ref 5, .ref l1, .int l2, .ref l3], [.int 3, .ref l1], s10))))))))))))))) : A (13, [.ref 5, .ref l1, .int l2, .ref l3], [.int t0, .int t1, .ref 2], σ) := by
  refine bGo hA 0 13 (25, .invokevirtual 204, 3, 14, 0, [0, 2, 29, 2], []) rfl rfl rfl ?_
  refine ⟨rfl, ?_⟩
  refine hC _ _ _ _ _ (bRv_e (fun s1 k2 => ?_)) h
  show A (14, [.ref 5, .ref l1, .int l2, .ref l3], [], s1)
  refine bGo hA 0 14 (28, .aload_n 0, 1, 15, 0, [0], []) rfl rfl rfl ?_
  refine bGo hA 0 15 (29, .bipush (11), 2, 16, 0, [], [(11, 0)]) rfl rfl rfl ?_
  refine bGo hA 1 0 (31, .aload_n 3, 1, 17, 0, [3], []) rfl rfl rfl ?_
  refine bGo hA 1 1 (32, .getfield 207, 3, 18, 0, [4, 7, 1, 0, 0, 0], []) rfl rfl rfl ?_
  refine ⟨k2.1, ?_⟩
  refine bGo hA 1 2 (35, .ifCond .eq (7), 3, 19, 21, [], []) rfl rfl rfl ?_
  refine ⟨fun c3 => ?_, fun c3 => ?_⟩
  · refine bGo hA 1 5 (42, .iconst (0), 1, 22, 0, [], [(0, 0)]) rfl rfl rfl ?_
    refine bGo hA 1 6 (43, .invokevirtual 210, 3, 23, 0, [0, 5, 54, 2], []) rfl rfl rfl ?_
    refine ⟨rfl, ?_⟩
    refine hC _ _ _ _ _ (bRv_e (fun s4 k5 => ?_)) (k2.2.1 c3)
    show A (23, [.ref 5, .ref l1, .int l2, .ref l3], [], s4)
    refine bGo hA 1 7 (46, .aload_n 3, 1, 24, 0, [3], []) rfl rfl rfl ?_
    refine bGo hA 1 8 (47, .getfield 212, 3, 25, 0, [4, 8, 0, 0, 0, 0], []) rfl rfl rfl ?_
    refine ⟨k2.1, ?_⟩
    refine bGo hA 1 9 (50, .iconst (-1), 1, 26, 0, [], [(-1, 0)]) rfl rfl rfl ?_
    refine bGo hA 1 10 (51, .if_icmp .ne (13), 3, 27, 33, [], []) rfl rfl rfl ?_
    refine ⟨fun c6 => ?_, fun c6 => ?_⟩
    · refine bGo hA 1 11 (54, .aload_n 1, 1, 28, 0, [1], []) rfl rfl rfl ?_
      refine bGo hA 1 12 (55, .iconst (5), 1, 29, 0, [], [(5, 0)]) rfl rfl rfl ?_
      refine bGo hA 1 13 (56, .aload_n 0, 1, 30, 0, [0], []) rfl rfl rfl ?_
      refine bGo hA 1 14 (57, .getfield 104, 3, 31, 0, [5, 9, 0, 0, 0, 0], []) rfl rfl rfl ?_
      refine ⟨rfl, ?_⟩
      refine bGo hA 1 15 (60, .invokevirtual 171, 3, 32, 0, [0, 0, 13, 2], []) rfl rfl rfl ?_
      refine ⟨(k5.1 c6).1, ?_⟩
      refine hC _ _ _ _ _ (bRv_e (fun s7 k8 => ?_)) (k5.1 c6).2
      show A (32, [.ref 5, .ref l1, .int l2, .ref l3], [], s7)
      refine bGo hA 2 0 (63, .return_, 1, 33, 0, [0], []) rfl rfl rfl ?_
      exact k8
    · refine bGo hA 2 1 (64, .aload_n 1, 1, 34, 0, [1], []) rfl rfl rfl ?_
      refine bGo hA 2 2 (65, .iload_n 2, 1, 35, 0, [2], []) rfl rfl rfl ?_
      refine bGo hA 2 3 (66, .ifCond .eq (7), 3, 36, 38, [], []) rfl rfl rfl ?_
      refine ⟨fun c9 => ?_, fun c9 => ?_⟩
      · refine bGo hA 2 6 (73, .iconst (4), 1, 39, 0, [], [(4, 0)]) rfl rfl rfl ?_
        exact ((k5.2 c6).1 c9)
      · refine bGo hA 2 4 (69, .iconst (3), 1, 37, 0, [], [(3, 0)]) rfl rfl rfl ?_
        refine bGo hA 2 5 (70, .goto (4), 3, 38, 39, [], []) rfl rfl rfl ?_
        exact ((k5.2 c6).2 c9)
  · refine bGo hA 1 3 (38, .iconst (1), 1, 20, 0, [], [(1, 0)]) rfl rfl rfl ?_
    refine bGo hA 1 4 (39, .goto (4), 3, 21, 22, [], []) rfl rfl rfl ?_
    refine bGo hA 1 6 (43, .invokevirtual 210, 3, 23, 0, [0, 5, 54, 2], []) rfl rfl rfl ?_
    refine ⟨rfl, ?_⟩
    refine hC _ _ _ _ _ (bRv_e (fun s10 k11 => ?_)) (k2.2.2 c3)
    show A (23, [.ref 5, .ref l1, .int l2, .ref l3], [], s10)
    refine bGo hA 1 7 (46, .aload_n 3, 1, 24, 0, [3], []) rfl rfl rfl ?_
    refine bGo hA 1 8 (47, .getfield 212, 3, 25, 0, [4, 8, 0, 0, 0, 0], []) rfl rfl rfl ?_
    refine ⟨k2.1, ?_⟩
    refine bGo hA 1 9 (50, .iconst (-1), 1, 26, 0, [], [(-1, 0)]) rfl rfl rfl ?_
    refine bGo hA 1 10 (51, .if_icmp .ne (13), 3, 27, 33, [], []) rfl rfl rfl ?_
    refine ⟨fun c12 => ?_, fun c12 => ?_⟩
    · refine bGo hA 1 11 (54, .aload_n 1, 1, 28, 0, [1], []) rfl rfl rfl ?_
      refine bGo hA 1 12 (55, .iconst (5), 1, 29, 0, [], [(5, 0)]) rfl rfl rfl ?_
      refine bGo hA 1 13 (56, .aload_n 0, 1, 30, 0, [0], []) rfl rfl rfl ?_
      refine bGo hA 1 14 (57, .getfield 104, 3, 31, 0, [5, 9, 0, 0, 0, 0], []) rfl rfl rfl ?_
      refine ⟨rfl, ?_⟩
      refine bGo hA 1 15 (60, .invokevirtual 171, 3, 32, 0, [0, 0, 13, 2], []) rfl rfl rfl ?_
      refine ⟨(k11.1 c12).1, ?_⟩
      refine hC _ _ _ _ _ (bRv_e (fun s13 k14 => ?_)) (k11.1 c12).2
      show A (32, [.ref 5, .ref l1, .int l2, .ref l3], [], s13)
      refine bGo hA 2 0 (63, .return_, 1, 33, 0, [0], []) rfl rfl rfl ?_
      exact k14
    · refine bGo hA 2 1 (64, .aload_n 1, 1, 34, 0, [1], []) rfl rfl rfl ?_
      refine bGo hA 2 2 (65, .iload_n 2, 1, 35, 0, [2], []) rfl rfl rfl ?_
      refine bGo hA 2 3 (66, .ifCond .eq (7), 3, 36, 38, [], []) rfl rfl rfl ?_
      refine ⟨fun c15 => ?_, fun c15 => ?_⟩
      · refine bGo hA 2 6 (73, .iconst (4), 1, 39, 0, [], [(4, 0)]) rfl rfl rfl ?_
        exact ((k11.2 c12).1 c15)
      · refine bGo hA 2 4 (69, .iconst (3), 1, 37, 0, [], [(3, 0)]) rfl rfl rfl ?_
        refine bGo hA 2 5 (70, .goto (4), 3, 38, 39, [], []) rfl rfl rfl ?_
        exact ((k11.2 c12).2 c15)

theorem sg53_39 {lvl : Nat} {C : bCall} {Q : bPost} {A : bPt → Prop} (hC : bMono C) (hA : bClosed lvl bm53 C Q A) {v1 : Value} {l2 : Int32} {l3 : Nat} {t0 : Int32} {t1 : Nat} {σ : bSt} 
  (h : (t1 % 256 = 0 ∧ (C 13 [.ref t1, .int t0, .int (σ.1 5 9)] σ (bRv (fun s1 => ((l2 = 0 → (C 17 [.ref 1, .ref l3] s1 (bRv (fun s4 => (((s4.1 5 5) = 0 → Q (.inl none) s4) ∧ (¬ (s4.1 5 5) = 0 → (l3 % 256 = 4 ∧ (((s4.1 l3 7) = 0 → (C 17 [.ref 257, .ref l3] s4 (bRv (fun s8 => (C 21 [.ref 257, .int (s8.1 l3 8)] s8 (bRv (fun s10 => Q (.inl none) s10))))))) ∧ (¬ (s4.1 l3 7) = 0 → Q (.inl none) s4))))))))) ∧ (¬ l2 = 0 → (l3 % 256 = 4 ∧ (C 21 [.ref 1, .int (s1.1 l3 8)] s1 (bRv (fun s12 => (C 17 [.ref 1, .ref l3] s12 (bRv (fun s14 => (((s14.1 5 5) = 0 → Q (.inl none) s14) ∧ (¬ (s14.1 5 5) = 0 → (((s14.1 l3 7) = 0 → (C 17 [.ref 257, .ref l3] s14 (bRv (fun s18 => (C 21 [.ref 257, .int (s18.1 l3 8)] s18 (bRv (fun s20 => Q (.inl none) s20))))))) ∧ (¬ (s14.1 l3 7) = 0 → Q (.inl none) s14)))))))))))))))))) : A (39, [.ref 5, v1, .int l2, .ref l3], [.int t0, .ref t1], σ) := by
  refine bGo hA 2 7 (74, .aload_n 0, 1, 40, 0, [0], []) rfl rfl rfl ?_
  refine bGo hA 2 8 (75, .getfield 104, 3, 41, 0, [5, 9, 0, 0, 0, 0], []) rfl rfl rfl ?_
  refine ⟨rfl, ?_⟩
  refine bGo hA 2 9 (78, .invokevirtual 171, 3, 42, 0, [0, 0, 13, 2], []) rfl rfl rfl ?_
  refine ⟨h.1, ?_⟩
  refine hC _ _ _ _ _ (bRv_e (fun s1 k2 => ?_)) h.2
  show A (42, [.ref 5, v1, .int l2, .ref l3], [], s1)
  refine bGo hA 2 10 (81, .iload_n 2, 1, 43, 0, [2], []) rfl rfl rfl ?_
  refine bGo hA 2 11 (82, .ifCond .eq (14), 3, 44, 49, [], []) rfl rfl rfl ?_
  refine ⟨fun c3 => ?_, fun c3 => ?_⟩
  · refine bGo hA 3 1 (96, .aload_n 0, 1, 50, 0, [0], []) rfl rfl rfl ?_
    refine bGo hA 3 2 (97, .getfield 14, 3, 51, 0, [5, 2, 3, 1, 0, 0], []) rfl rfl rfl ?_
    refine ⟨rfl, ?_⟩
    refine bGo hA 3 3 (100, .aload_n 3, 1, 52, 0, [3], []) rfl rfl rfl ?_
    refine bGo hA 3 4 (101, .invokevirtual 179, 3, 53, 0, [0, 1, 17, 1], []) rfl rfl rfl ?_
    refine ⟨rfl, ?_⟩
    refine hC _ _ _ _ _ (bRv_e (fun s4 k5 => ?_)) (k2.1 c3)
    show A (53, [.ref 5, v1, .int l2, .ref l3], [], s4)
    refine bGo hA 3 5 (104, .aload_n 0, 1, 54, 0, [0], []) rfl rfl rfl ?_
    refine bGo hA 3 6 (105, .getfield 30, 3, 55, 0, [5, 5, 1, 0, 0, 0], []) rfl rfl rfl ?_
    refine ⟨rfl, ?_⟩
    refine bGo hA 3 7 (108, .ifCond .eq (29), 3, 56, 68, [], []) rfl rfl rfl ?_
    refine ⟨fun c6 => ?_, fun c6 => ?_⟩
    · refine bGo hA 4 4 (137, .return_, 1, 0, 0, [0], []) rfl rfl rfl ?_
      exact (k5.1 c6)
    · refine bGo hA 3 8 (111, .aload_n 3, 1, 57, 0, [3], []) rfl rfl rfl ?_
      refine bGo hA 3 9 (112, .getfield 207, 3, 58, 0, [4, 7, 1, 0, 0, 0], []) rfl rfl rfl ?_
      refine ⟨(k5.2 c6).1, ?_⟩
      refine bGo hA 3 10 (115, .ifCond .ne (22), 3, 59, 68, [], []) rfl rfl rfl ?_
      refine ⟨fun c7 => ?_, fun c7 => ?_⟩
      · refine bGo hA 3 11 (118, .aload_n 0, 1, 60, 0, [0], []) rfl rfl rfl ?_
        refine bGo hA 3 12 (119, .getfield 20, 3, 61, 0, [5, 3, 3, 1, 0, 1], []) rfl rfl rfl ?_
        refine ⟨rfl, ?_⟩
        refine bGo hA 3 13 (122, .aload_n 3, 1, 62, 0, [3], []) rfl rfl rfl ?_
        refine bGo hA 3 14 (123, .invokevirtual 179, 3, 63, 0, [0, 1, 17, 1], []) rfl rfl rfl ?_
        refine ⟨rfl, ?_⟩
        refine hC _ _ _ _ _ (bRv_e (fun s8 k9 => ?_)) ((k5.2 c6).2.1 c7)
        show A (63, [.ref 5, v1, .int l2, .ref l3], [], s8)
        refine bGo hA 3 15 (126, .aload_n 0, 1, 64, 0, [0], []) rfl rfl rfl ?_
        refine bGo hA 4 0 (127, .getfield 20, 3, 65, 0, [5, 3, 3, 1, 0, 1], []) rfl rfl rfl ?_
        refine ⟨rfl, ?_⟩
        refine bGo hA 4 1 (130, .aload_n 3, 1, 66, 0, [3], []) rfl rfl rfl ?_
        refine bGo hA 4 2 (131, .getfield 212, 3, 67, 0, [4, 8, 0, 0, 0, 0], []) rfl rfl rfl ?_
        refine ⟨(k5.2 c6).1, ?_⟩
        refine bGo hA 4 3 (134, .invokevirtual 124, 3, 68, 0, [0, 1, 21, 1], []) rfl rfl rfl ?_
        refine ⟨rfl, ?_⟩
        refine hC _ _ _ _ _ (bRv_e (fun s10 k11 => ?_)) k9
        show A (68, [.ref 5, v1, .int l2, .ref l3], [], s10)
        refine bGo hA 4 4 (137, .return_, 1, 0, 0, [0], []) rfl rfl rfl ?_
        exact k11
      · refine bGo hA 4 4 (137, .return_, 1, 0, 0, [0], []) rfl rfl rfl ?_
        exact ((k5.2 c6).2.2 c7)
  · refine bGo hA 2 12 (85, .aload_n 0, 1, 45, 0, [0], []) rfl rfl rfl ?_
    refine bGo hA 2 13 (86, .getfield 14, 3, 46, 0, [5, 2, 3, 1, 0, 0], []) rfl rfl rfl ?_
    refine ⟨rfl, ?_⟩
    refine bGo hA 2 14 (89, .aload_n 3, 1, 47, 0, [3], []) rfl rfl rfl ?_
    refine bGo hA 2 15 (90, .getfield 212, 3, 48, 0, [4, 8, 0, 0, 0, 0], []) rfl rfl rfl ?_
    refine ⟨(k2.2 c3).1, ?_⟩
    refine bGo hA 3 0 (93, .invokevirtual 124, 3, 49, 0, [0, 1, 21, 1], []) rfl rfl rfl ?_
    refine ⟨rfl, ?_⟩
    refine hC _ _ _ _ _ (bRv_e (fun s12 k13 => ?_)) (k2.2 c3).2
    show A (49, [.ref 5, v1, .int l2, .ref l3], [], s12)
    refine bGo hA 3 1 (96, .aload_n 0, 1, 50, 0, [0], []) rfl rfl rfl ?_
    refine bGo hA 3 2 (97, .getfield 14, 3, 51, 0, [5, 2, 3, 1, 0, 0], []) rfl rfl rfl ?_
    refine ⟨rfl, ?_⟩
    refine bGo hA 3 3 (100, .aload_n 3, 1, 52, 0, [3], []) rfl rfl rfl ?_
    refine bGo hA 3 4 (101, .invokevirtual 179, 3, 53, 0, [0, 1, 17, 1], []) rfl rfl rfl ?_
    refine ⟨rfl, ?_⟩
    refine hC _ _ _ _ _ (bRv_e (fun s14 k15 => ?_)) k13
    show A (53, [.ref 5, v1, .int l2, .ref l3], [], s14)
    refine bGo hA 3 5 (104, .aload_n 0, 1, 54, 0, [0], []) rfl rfl rfl ?_
    refine bGo hA 3 6 (105, .getfield 30, 3, 55, 0, [5, 5, 1, 0, 0, 0], []) rfl rfl rfl ?_
    refine ⟨rfl, ?_⟩
    refine bGo hA 3 7 (108, .ifCond .eq (29), 3, 56, 68, [], []) rfl rfl rfl ?_
    refine ⟨fun c16 => ?_, fun c16 => ?_⟩
    · refine bGo hA 4 4 (137, .return_, 1, 0, 0, [0], []) rfl rfl rfl ?_
      exact (k15.1 c16)
    · refine bGo hA 3 8 (111, .aload_n 3, 1, 57, 0, [3], []) rfl rfl rfl ?_
      refine bGo hA 3 9 (112, .getfield 207, 3, 58, 0, [4, 7, 1, 0, 0, 0], []) rfl rfl rfl ?_
      refine ⟨(k2.2 c3).1, ?_⟩
      refine bGo hA 3 10 (115, .ifCond .ne (22), 3, 59, 68, [], []) rfl rfl rfl ?_
      refine ⟨fun c17 => ?_, fun c17 => ?_⟩
      · refine bGo hA 3 11 (118, .aload_n 0, 1, 60, 0, [0], []) rfl rfl rfl ?_
        refine bGo hA 3 12 (119, .getfield 20, 3, 61, 0, [5, 3, 3, 1, 0, 1], []) rfl rfl rfl ?_
        refine ⟨rfl, ?_⟩
        refine bGo hA 3 13 (122, .aload_n 3, 1, 62, 0, [3], []) rfl rfl rfl ?_
        refine bGo hA 3 14 (123, .invokevirtual 179, 3, 63, 0, [0, 1, 17, 1], []) rfl rfl rfl ?_
        refine ⟨rfl, ?_⟩
        refine hC _ _ _ _ _ (bRv_e (fun s18 k19 => ?_)) ((k15.2 c16).1 c17)
        show A (63, [.ref 5, v1, .int l2, .ref l3], [], s18)
        refine bGo hA 3 15 (126, .aload_n 0, 1, 64, 0, [0], []) rfl rfl rfl ?_
        refine bGo hA 4 0 (127, .getfield 20, 3, 65, 0, [5, 3, 3, 1, 0, 1], []) rfl rfl rfl ?_
        refine ⟨rfl, ?_⟩
        refine bGo hA 4 1 (130, .aload_n 3, 1, 66, 0, [3], []) rfl rfl rfl ?_
        refine bGo hA 4 2 (131, .getfield 212, 3, 67, 0, [4, 8, 0, 0, 0, 0], []) rfl rfl rfl ?_
        refine ⟨(k2.2 c3).1, ?_⟩
        refine bGo hA 4 3 (134, .invokevirtual 124, 3, 68, 0, [0, 1, 21, 1], []) rfl rfl rfl ?_
        refine ⟨rfl, ?_⟩
        refine hC _ _ _ _ _ (bRv_e (fun s20 k21 => ?_)) k19
        show A (68, [.ref 5, v1, .int l2, .ref l3], [], s20)
        refine bGo hA 4 4 (137, .return_, 1, 0, 0, [0], []) rfl rfl rfl ?_
        exact k21
      · refine bGo hA 4 4 (137, .return_, 1, 0, 0, [0], []) rfl rfl rfl ?_
        exact ((k15.2 c16).2 c17)

theorem sg54_0 {lvl : Nat} {C : bCall} {Q : bPost} {A : bPt → Prop} (hC : bMono C) (hA : bClosed lvl bm54 C Q A) {x1 : Int32} {x2 : Int32} {σ : bSt} 
  (h : ((x1 < 0 → Q (.inl none) σ) ∧ (¬ x1 < 0 → ((x1 < 12 → (vp_in x1 12 ∧ Q (.inl none) (bI σ 24 (x1).toNatClampNeg ((σ.1 24 (x1).toNatClampNeg) + x2)))) ∧ (¬ x1 < 12 → Q (.inl none) σ))))) : A (0, [.ref 5, .int x1, .int x2], [], σ) := by
  refine bGo hA 0 0 (0, .iload_n 1, 1, 1, 0, [1], []) rfl rfl rfl ?_
  refine bGo hA 0 1 (1, .ifCond .lt (22), 3, 2, 15, [], []) rfl rfl rfl ?_
  refine ⟨fun c1 => ?_, fun c1 => ?_⟩
  · refine bGo hA 0 15 (23, .return_, 1, 0, 0, [0], []) rfl rfl rfl ?_
    exact (h.1 c1)
  · refine bGo hA 0 2 (4, .iload_n 1, 1, 3, 0, [1], []) rfl rfl rfl ?_
    refine bGo hA 0 3 (5, .aload_n 0, 1, 4, 0, [0], []) rfl rfl rfl ?_
    refine bGo hA 0 4 (6, .getfield 38, 3, 5, 0, [5, 7, 3, 24, 1, 0], []) rfl rfl rfl ?_
    refine ⟨rfl, ?_⟩
    refine bGo hA 0 5 (9, .arraylength, 1, 6, 0, [], []) rfl rfl rfl ?_
    refine ⟨by decide, ?_⟩
    refine bGo hA 0 6 (10, .if_icmp .ge (13), 3, 7, 15, [], []) rfl rfl rfl ?_
    refine ⟨fun c2 => ?_, fun c2 => ?_⟩
    · refine bGo hA 0 7 (13, .aload_n 0, 1, 8, 0, [0], []) rfl rfl rfl ?_
      refine bGo hA 0 8 (14, .getfield 38, 3, 9, 0, [5, 7, 3, 24, 1, 0], []) rfl rfl rfl ?_
      refine ⟨rfl, ?_⟩
      refine bGo hA 0 9 (17, .iload_n 1, 1, 10, 0, [1], []) rfl rfl rfl ?_
      refine bGo hA 0 10 (18, .dup2, 1, 11, 0, [], []) rfl rfl rfl ?_
      refine bGo hA 0 11 (19, .iaload, 1, 12, 0, [], []) rfl rfl rfl ?_
      refine ⟨rfl, ((h.2 c1).1 c2).1, ?_⟩
      refine bGo hA 0 12 (20, .iload_n 2, 1, 13, 0, [2], []) rfl rfl rfl ?_
      refine bGo hA 0 13 (21, .iadd, 1, 14, 0, [], []) rfl rfl rfl ?_
      refine bGo hA 0 14 (22, .iastore, 1, 15, 0, [], []) rfl rfl rfl ?_
      refine ⟨rfl, ((h.2 c1).1 c2).1, by decide, ?_⟩
      refine bGo hA 0 15 (23, .return_, 1, 0, 0, [0], []) rfl rfl rfl ?_
      exact ((h.2 c1).1 c2).2
    · refine bGo hA 0 15 (23, .return_, 1, 0, 0, [0], []) rfl rfl rfl ?_
      exact ((h.2 c1).2 c2)

theorem sg55_0 {lvl : Nat} {C : bCall} {Q : bPost} {A : bPt → Prop} (hC : bMono C) (hA : bClosed lvl bm55 C Q A)  {σ : bSt} 
  (h : A (2, [.ref 5, .int 0, .float 0], [], σ)) : A (0, [.ref 5, .float 0, .float 0], [], σ) := by
  refine bGo hA 0 0 (0, .iconst (0), 1, 1, 0, [], [(0, 0)]) rfl rfl rfl ?_
  refine bGo hA 0 1 (1, .istore_n 1, 1, 2, 0, [1], []) rfl rfl rfl ?_
  exact h

theorem sg55_2 {lvl : Nat} {C : bCall} {Q : bPost} {A : bPt → Prop} (hC : bMono C) (hA : bClosed lvl bm55 C Q A) {l1 : Int32} {v2 : Value} {σ : bSt} 
  (h : ((l1 < (σ.1 6 13) → (C 89 [.ref 6, .int l1] σ (bRa (fun r4 s2 => (r4 % 256 = 0 ∧ (C 11 [.ref r4] s2 (bRi (fun r7 s5 => ((r7 = 0 → A (2, [.ref 5, .int (l1 + 1), .ref r4], [], s5)) ∧ (¬ r7 = 0 → (C 29 [.ref 2, .int (s5.1 r4 14), .int (-1)] s5 (bRv (fun s9 => (C 13 [.ref r4, .int 7, .int (s9.1 5 9)] s9 (bRv (fun s11 => A (2, [.ref 5, .int (l1 + 1), .ref r4], [], s11))))))))))))))))) ∧ (¬ l1 < (σ.1 6 13) → Q (.inl none) σ))) : A (2, [.ref 5, .int l1, v2], [], σ) := by
  refine bGo hA 0 2 (2, .iload_n 1, 1, 3, 0, [1], []) rfl rfl rfl ?_
  refine bGo hA 0 3 (3, .aload_n 0, 1, 4, 0, [0], []) rfl rfl rfl ?_
  refine bGo hA 0 4 (4, .getfield 55, 3, 5, 0, [5, 1, 3, 6, 0, 0], []) rfl rfl rfl ?_
  refine ⟨rfl, ?_⟩
  refine bGo hA 0 5 (7, .getfield 110, 3, 6, 0, [6, 13, 0, 0, 0, 0], []) rfl rfl rfl ?_
  refine ⟨rfl, ?_⟩
  refine bGo hA 0 6 (10, .if_icmp .ge (47), 3, 7, 28, [], []) rfl rfl rfl ?_
  refine ⟨fun c1 => ?_, fun c1 => ?_⟩
  · refine bGo hA 0 7 (13, .aload_n 0, 1, 8, 0, [0], []) rfl rfl rfl ?_
    refine bGo hA 0 8 (14, .getfield 55, 3, 9, 0, [5, 1, 3, 6, 0, 0], []) rfl rfl rfl ?_
    refine ⟨rfl, ?_⟩
    refine bGo hA 0 9 (17, .iload_n 1, 1, 10, 0, [1], []) rfl rfl rfl ?_
    refine bGo hA 0 10 (18, .invokevirtual 113, 3, 11, 0, [0, 6, 89, 1], []) rfl rfl rfl ?_
    refine ⟨rfl, ?_⟩
    refine hC _ _ _ _ _ (bRa_e (fun r4 s2 k3 => ?_)) (h.1 c1)
    show A (11, [.ref 5, .int l1, v2], [.ref r4], s2)
    refine bGo hA 0 11 (21, .astore_n 2, 1, 12, 0, [2], []) rfl rfl rfl ?_
    refine bGo hA 0 12 (22, .aload_n 2, 1, 13, 0, [2], []) rfl rfl rfl ?_
    refine bGo hA 0 13 (23, .invokevirtual 215, 3, 14, 0, [0, 0, 11, 0], []) rfl rfl rfl ?_
    refine ⟨k3.1, ?_⟩
    refine hC _ _ _ _ _ (bRi_e (fun r7 s5 k6 => ?_)) k3.2
    show A (14, [.ref 5, .int l1, .ref r4], [.int r7], s5)
    refine bGo hA 0 14 (26, .ifCond .eq (25), 3, 15, 26, [], []) rfl rfl rfl ?_
    refine ⟨fun c8 => ?_, fun c8 => ?_⟩
    · refine bGo hA 1 10 (51, .iinc 1 (1), 3, 27, 0, [1], [(1, 0)]) rfl rfl rfl ?_
      refine bGo hA 1 11 (54, .goto (-52), 3, 28, 2, [], []) rfl rfl rfl ?_
      exact (k6.1 c8)
    · refine bGo hA 0 15 (29, .aload_n 0, 1, 16, 0, [0], []) rfl rfl rfl ?_
      refine bGo hA 1 0 (30, .getfield 26, 3, 17, 0, [5, 4, 3, 2, 0, 0], []) rfl rfl rfl ?_
      refine ⟨rfl, ?_⟩
      refine bGo hA 1 1 (33, .aload_n 2, 1, 18, 0, [2], []) rfl rfl rfl ?_
      refine bGo hA 1 2 (34, .getfield 196, 3, 19, 0, [0, 14, 0, 0, 0, 0], []) rfl rfl rfl ?_
      refine ⟨k3.1, ?_⟩
      refine bGo hA 1 3 (37, .iconst (-1), 1, 20, 0, [], [(-1, 0)]) rfl rfl rfl ?_
      refine bGo hA 1 4 (38, .invokevirtual 204, 3, 21, 0, [0, 2, 29, 2], []) rfl rfl rfl ?_
      refine ⟨rfl, ?_⟩
      refine hC _ _ _ _ _ (bRv_e (fun s9 k10 => ?_)) (k6.2 c8)
      show A (21, [.ref 5, .int l1, .ref r4], [], s9)
      refine bGo hA 1 5 (41, .aload_n 2, 1, 22, 0, [2], []) rfl rfl rfl ?_
      refine bGo hA 1 6 (42, .bipush (7), 2, 23, 0, [], [(7, 0)]) rfl rfl rfl ?_
      refine bGo hA 1 7 (44, .aload_n 0, 1, 24, 0, [0], []) rfl rfl rfl ?_
      refine bGo hA 1 8 (45, .getfield 104, 3, 25, 0, [5, 9, 0, 0, 0, 0], []) rfl rfl rfl ?_
      refine ⟨rfl, ?_⟩
      refine bGo hA 1 9 (48, .invokevirtual 171, 3, 26, 0, [0, 0, 13, 2], []) rfl rfl rfl ?_
      refine ⟨k3.1, ?_⟩
      refine hC _ _ _ _ _ (bRv_e (fun s11 k12 => ?_)) k10
      show A (26, [.ref 5, .int l1, .ref r4], [], s11)
      refine bGo hA 1 10 (51, .iinc 1 (1), 3, 27, 0, [1], [(1, 0)]) rfl rfl rfl ?_
      refine bGo hA 1 11 (54, .goto (-52), 3, 28, 2, [], []) rfl rfl rfl ?_
      exact k12
  · refine bGo hA 1 12 (57, .return_, 1, 0, 0, [0], []) rfl rfl rfl ?_
    exact (h.2 c1)

theorem sg56_0 {lvl : Nat} {C : bCall} {Q : bPost} {A : bPt → Prop} (hC : bMono C) (hA : bClosed lvl bm56 C Q A)  {σ : bSt} 
  (h : A (2, [.ref 5, .int 0, .float 0, .float 0], [], σ)) : A (0, [.ref 5, .float 0, .float 0, .float 0], [], σ) := by
  refine bGo hA 0 0 (0, .iconst (0), 1, 1, 0, [], [(0, 0)]) rfl rfl rfl ?_
  refine bGo hA 0 1 (1, .istore_n 1, 1, 2, 0, [1], []) rfl rfl rfl ?_
  exact h

theorem sg56_2 {lvl : Nat} {C : bCall} {Q : bPost} {A : bPt → Prop} (hC : bMono C) (hA : bClosed lvl bm56 C Q A) {l1 : Int32} {v2 : Value} {v3 : Value} {σ : bSt} 
  (h : ((120 < l1 → Q (.inl none) σ) ∧ (¬ 120 < l1 → (C 57 [.ref 5] σ (bRi (fun r4 s2 => ((r4 = (-1) → Q (.inl none) s2) ∧ (¬ r4 = (-1) → (C 89 [.ref 6, .int r4] s2 (bRa (fun r8 s6 => (r8 % 256 = 0 ∧ (((s6.1 r8 13) = (-1) → (C 59 [.ref 5, .ref r8] s6 (bRv (fun s10 => (C 60 [.ref 5, .ref r8, .int r4] (bI s10 r8 13 (s10.1 5 9)) (bRv (fun s12 => A (2, [.ref 5, .int (l1 + 1), .int r4, .ref r8], [], s12)))))))) ∧ (¬ (s6.1 r8 13) = (-1) → (C 60 [.ref 5, .ref r8, .int r4] (bI s6 r8 13 (s6.1 5 9)) (bRv (fun s14 => A (2, [.ref 5, .int (l1 + 1), .int r4, .ref r8], [], s14)))))))))))))))))) : A (2, [.ref 5, .int l1, v2, v3], [], σ) := by
  refine bGo hA 0 2 (2, .iload_n 1, 1, 3, 0, [1], []) rfl rfl rfl ?_
  refine bGo hA 0 3 (3, .bipush (120), 2, 4, 0, [], [(120, 0)]) rfl rfl rfl ?_
  refine bGo hA 0 4 (5, .if_icmp .gt (56), 3, 5, 34, [], []) rfl rfl rfl ?_
  refine ⟨fun c1 => ?_, fun c1 => ?_⟩
  · refine bGo hA 2 2 (61, .return_, 1, 0, 0, [0], []) rfl rfl rfl ?_
    exact (h.1 c1)
  · refine bGo hA 0 5 (8, .aload_n 0, 1, 6, 0, [0], []) rfl rfl rfl ?_
    refine bGo hA 0 6 (9, .invokevirtual 218, 3, 7, 0, [0, 5, 57, 0], []) rfl rfl rfl ?_
    refine ⟨rfl, ?_⟩
    refine hC _ _ _ _ _ (bRi_e (fun r4 s2 k3 => ?_)) (h.2 c1)
    show A (7, [.ref 5, .int l1, v2, v3], [.int r4], s2)
    refine bGo hA 0 7 (12, .istore_n 2, 1, 8, 0, [2], []) rfl rfl rfl ?_
    refine bGo hA 0 8 (13, .iload_n 2, 1, 9, 0, [2], []) rfl rfl rfl ?_
    refine bGo hA 0 9 (14, .iconst (-1), 1, 10, 0, [], [(-1, 0)]) rfl rfl rfl ?_
    refine bGo hA 0 10 (15, .if_icmp .ne (4), 3, 11, 12, [], []) rfl rfl rfl ?_
    refine ⟨fun c5 => ?_, fun c5 => ?_⟩
    · refine bGo hA 0 11 (18, .return_, 1, 12, 0, [0], []) rfl rfl rfl ?_
      exact (k3.1 c5)
    · refine bGo hA 0 12 (19, .aload_n 0, 1, 13, 0, [0], []) rfl rfl rfl ?_
      refine bGo hA 0 13 (20, .getfield 55, 3, 14, 0, [5, 1, 3, 6, 0, 0], []) rfl rfl rfl ?_
      refine ⟨rfl, ?_⟩
      refine bGo hA 0 14 (23, .iload_n 2, 1, 15, 0, [2], []) rfl rfl rfl ?_
      refine bGo hA 0 15 (24, .invokevirtual 113, 3, 16, 0, [0, 6, 89, 1], []) rfl rfl rfl ?_
      refine ⟨rfl, ?_⟩
      refine hC _ _ _ _ _ (bRa_e (fun r8 s6 k7 => ?_)) (k3.2 c5)
      show A (16, [.ref 5, .int l1, .int r4, v3], [.ref r8], s6)
      refine bGo hA 1 0 (27, .astore_n 3, 1, 17, 0, [3], []) rfl rfl rfl ?_
      refine bGo hA 1 1 (28, .aload_n 3, 1, 18, 0, [3], []) rfl rfl rfl ?_
      refine bGo hA 1 2 (29, .getfield 221, 3, 19, 0, [0, 13, 0, 0, 0, 0], []) rfl rfl rfl ?_
      refine ⟨k7.1, ?_⟩
      refine bGo hA 1 3 (32, .iconst (-1), 1, 20, 0, [], [(-1, 0)]) rfl rfl rfl ?_
      refine bGo hA 1 4 (33, .if_icmp .ne (8), 3, 21, 24, [], []) rfl rfl rfl ?_
      refine ⟨fun c9 => ?_, fun c9 => ?_⟩
      · refine bGo hA 1 5 (36, .aload_n 0, 1, 22, 0, [0], []) rfl rfl rfl ?_
        refine bGo hA 1 6 (37, .aload_n 3, 1, 23, 0, [3], []) rfl rfl rfl ?_
        refine bGo hA 1 7 (38, .invokevirtual 224, 3, 24, 0, [0, 5, 59, 1], []) rfl rfl rfl ?_
        refine ⟨rfl, ?_⟩
        refine hC _ _ _ _ _ (bRv_e (fun s10 k11 => ?_)) (k7.2.1 c9)
        show A (24, [.ref 5, .int l1, .int r4, .ref r8], [], s10)
        refine bGo hA 1 8 (41, .aload_n 3, 1, 25, 0, [3], []) rfl rfl rfl ?_
        refine bGo hA 1 9 (42, .aload_n 0, 1, 26, 0, [0], []) rfl rfl rfl ?_
        refine bGo hA 1 10 (43, .getfield 104, 3, 27, 0, [5, 9, 0, 0, 0, 0], []) rfl rfl rfl ?_
        refine ⟨rfl, ?_⟩
        refine bGo hA 1 11 (46, .putfield 221, 3, 28, 0, [0, 13, 0, 0, 0, 0], []) rfl rfl rfl ?_
        refine ⟨k7.1, ?_⟩
        refine bGo hA 1 12 (49, .aload_n 0, 1, 29, 0, [0], []) rfl rfl rfl ?_
        refine bGo hA 1 13 (50, .aload_n 3, 1, 30, 0, [3], []) rfl rfl rfl ?_
        refine bGo hA 1 14 (51, .iload_n 2, 1, 31, 0, [2], []) rfl rfl rfl ?_
        refine bGo hA 1 15 (52, .invokevirtual 228, 3, 32, 0, [0, 5, 60, 2], []) rfl rfl rfl ?_
        refine ⟨rfl, ?_⟩
        refine hC _ _ _ _ _ (bRv_e (fun s12 k13 => ?_)) k11
        show A (32, [.ref 5, .int l1, .int r4, .ref r8], [], s12)
        refine bGo hA 2 0 (55, .iinc 1 (1), 3, 33, 0, [1], [(1, 0)]) rfl rfl rfl ?_
        refine bGo hA 2 1 (58, .goto (-56), 3, 34, 2, [], []) rfl rfl rfl ?_
        exact k13
      · refine bGo hA 1 8 (41, .aload_n 3, 1, 25, 0, [3], []) rfl rfl rfl ?_
        refine bGo hA 1 9 (42, .aload_n 0, 1, 26, 0, [0], []) rfl rfl rfl ?_
        refine bGo hA 1 10 (43, .getfield 104, 3, 27, 0, [5, 9, 0, 0, 0, 0], []) rfl rfl rfl ?_
        refine ⟨rfl, ?_⟩
        refine bGo hA 1 11 (46, .putfield 221, 3, 28, 0, [0, 13, 0, 0, 0, 0], []) rfl rfl rfl ?_
        refine ⟨k7.1, ?_⟩
        refine bGo hA 1 12 (49, .aload_n 0, 1, 29, 0, [0], []) rfl rfl rfl ?_
        refine bGo hA 1 13 (50, .aload_n 3, 1, 30, 0, [3], []) rfl rfl rfl ?_
        refine bGo hA 1 14 (51, .iload_n 2, 1, 31, 0, [2], []) rfl rfl rfl ?_
        refine bGo hA 1 15 (52, .invokevirtual 228, 3, 32, 0, [0, 5, 60, 2], []) rfl rfl rfl ?_
        refine ⟨rfl, ?_⟩
        refine hC _ _ _ _ _ (bRv_e (fun s14 k15 => ?_)) (k7.2.2 c9)
        show A (32, [.ref 5, .int l1, .int r4, .ref r8], [], s14)
        refine bGo hA 2 0 (55, .iinc 1 (1), 3, 33, 0, [1], [(1, 0)]) rfl rfl rfl ?_
        refine bGo hA 2 1 (58, .goto (-56), 3, 34, 2, [], []) rfl rfl rfl ?_
        exact k15

theorem sg57_0 {lvl : Nat} {C : bCall} {Q : bPost} {A : bPt → Prop} (hC : bMono C) (hA : bClosed lvl bm57 C Q A)  {σ : bSt} 
  (h : A (6, [.ref 5, .int (-1), .int 0, .int 0, .float 0, .float 0], [], σ)) : A (0, [.ref 5, .float 0, .float 0, .float 0, .float 0, .float 0], [], σ) := by
  refine bGo hA 0 0 (0, .iconst (-1), 1, 1, 0, [], [(-1, 0)]) rfl rfl rfl ?_
  refine bGo hA 0 1 (1, .istore_n 1, 1, 2, 0, [1], []) rfl rfl rfl ?_
  refine bGo hA 0 2 (2, .iconst (0), 1, 3, 0, [], [(0, 0)]) rfl rfl rfl ?_
  refine bGo hA 0 3 (3, .istore_n 2, 1, 4, 0, [2], []) rfl rfl rfl ?_
  refine bGo hA 0 4 (4, .iconst (0), 1, 5, 0, [], [(0, 0)]) rfl rfl rfl ?_
  refine bGo hA 0 5 (5, .istore_n 3, 1, 6, 0, [3], []) rfl rfl rfl ?_
  exact h

theorem sg57_6 {lvl : Nat} {C : bCall} {Q : bPost} {A : bPt → Prop} (hC : bMono C) (hA : bClosed lvl bm57 C Q A) {l1 : Int32} {l2 : Int32} {l3 : Int32} {v4 : Value} {v5 : Value} {σ : bSt} 
  (h : ((l3 < (σ.1 6 13) → (C 89 [.ref 6, .int l3] σ (bRa (fun r4 s2 => (r4 % 256 = 0 ∧ (((s2.1 r4 5) = 0 → A (6, [.ref 5, .int l1, .int l2, .int (l3 + 1), .ref r4, .int 0], [], s2)) ∧ (¬ (s2.1 r4 5) = 0 → (((s2.1 r4 11) = (-1) → (((s2.1 r4 13) = (s2.1 5 9) → A (6, [.ref 5, .int l1, .int l2, .int (l3 + 1), .ref r4, .int 0], [], s2)) ∧ (¬ (s2.1 r4 13) = (s2.1 5 9) → ((l2 < (s2.1 r4 9) → (C 58 [.ref 5, .ref r4] s2 (bRi (fun r14 s12 => ((r14 = 0 → A (6, [.ref 5, .int l1, .int l2, .int (l3 + 1), .ref r4, .int 1], [], s12)) ∧ (¬ r14 = 0 → A (6, [.ref 5, .int l3, .int (s12.1 r4 9), .int (l3 + 1), .ref r4, .int 1], [], s12))))))) ∧ (¬ l2 < (s2.1 r4 9) → A (6, [.ref 5, .int l1, .int l2, .int (l3 + 1), .ref r4, .int 1], [], s2)))))) ∧ (¬ (s2.1 r4 11) = (-1) → A (6, [.ref 5, .int l1, .int l2, .int (l3 + 1), .ref r4, .int 0], [], s2)))))))))) ∧ (¬ l3 < (σ.1 6 13) → Q (.inl (some (.int l1))) σ))) : A (6, [.ref 5, .int l1, .int l2, .int l3, v4, v5], [], σ) := by
  refine bGo hA 0 6 (6, .iload_n 3, 1, 7, 0, [3], []) rfl rfl rfl ?_
  refine bGo hA 0 7 (7, .aload_n 0, 1, 8, 0, [0], []) rfl rfl rfl ?_
  refine bGo hA 0 8 (8, .getfield 55, 3, 9, 0, [5, 1, 3, 6, 0, 0], []) rfl rfl rfl ?_
  refine ⟨rfl, ?_⟩
  refine bGo hA 0 9 (11, .getfield 110, 3, 10, 0, [6, 13, 0, 0, 0, 0], []) rfl rfl rfl ?_
  refine ⟨rfl, ?_⟩
  refine bGo hA 0 10 (14, .if_icmp .ge (86), 3, 11, 49, [], []) rfl rfl rfl ?_
  refine ⟨fun c1 => ?_, fun c1 => ?_⟩
  · refine bGo hA 0 11 (17, .aload_n 0, 1, 12, 0, [0], []) rfl rfl rfl ?_
    refine bGo hA 0 12 (18, .getfield 55, 3, 13, 0, [5, 1, 3, 6, 0, 0], []) rfl rfl rfl ?_
    refine ⟨rfl, ?_⟩
    refine bGo hA 0 13 (21, .iload_n 3, 1, 14, 0, [3], []) rfl rfl rfl ?_
    refine bGo hA 0 14 (22, .invokevirtual 113, 3, 15, 0, [0, 6, 89, 1], []) rfl rfl rfl ?_
    refine ⟨rfl, ?_⟩
    refine hC _ _ _ _ _ (bRa_e (fun r4 s2 k3 => ?_)) (h.1 c1)
    show A (15, [.ref 5, .int l1, .int l2, .int l3, v4, v5], [.ref r4], s2)
    refine bGo hA 0 15 (25, .astore 4, 2, 16, 0, [4], []) rfl rfl rfl ?_
    refine bGo hA 1 0 (27, .aload 4, 2, 17, 0, [4], []) rfl rfl rfl ?_
    refine bGo hA 1 1 (29, .getfield 133, 3, 18, 0, [0, 5, 1, 0, 0, 0], []) rfl rfl rfl ?_
    refine ⟨k3.1, ?_⟩
    refine bGo hA 1 2 (32, .ifCond .eq (28), 3, 19, 30, [], []) rfl rfl rfl ?_
    refine ⟨fun c5 => ?_, fun c5 => ?_⟩
    · refine bGo hA 1 14 (60, .iconst (0), 1, 31, 0, [], [(0, 0)]) rfl rfl rfl ?_
      refine bGo hA 1 15 (61, .istore 5, 2, 32, 0, [5], []) rfl rfl rfl ?_
      refine bGo hA 2 0 (63, .iload 5, 2, 33, 0, [5], []) rfl rfl rfl ?_
      refine bGo hA 2 1 (65, .ifCond .eq (29), 3, 34, 47, [], []) rfl rfl rfl ?_
      refine ⟨fun _ => ?_, fun c => absurd (by decide) c⟩
      refine bGo hA 2 15 (94, .iinc 3 (1), 3, 48, 0, [3], [(1, 0)]) rfl rfl rfl ?_
      refine bGo hA 3 0 (97, .goto (-91), 3, 49, 6, [], []) rfl rfl rfl ?_
      exact (k3.2.1 c5)
    · refine bGo hA 1 3 (35, .aload 4, 2, 20, 0, [4], []) rfl rfl rfl ?_
      refine bGo hA 1 4 (37, .getfield 232, 3, 21, 0, [0, 11, 0, 0, 0, 0], []) rfl rfl rfl ?_
      refine ⟨k3.1, ?_⟩
      refine bGo hA 1 5 (40, .iconst (-1), 1, 22, 0, [], [(-1, 0)]) rfl rfl rfl ?_
      refine bGo hA 1 6 (41, .if_icmp .ne (19), 3, 23, 30, [], []) rfl rfl rfl ?_
      refine ⟨fun c7 => ?_, fun c7 => ?_⟩
      · refine bGo hA 1 7 (44, .aload 4, 2, 24, 0, [4], []) rfl rfl rfl ?_
        refine bGo hA 1 8 (46, .getfield 221, 3, 25, 0, [0, 13, 0, 0, 0, 0], []) rfl rfl rfl ?_
        refine ⟨k3.1, ?_⟩
        refine bGo hA 1 9 (49, .aload_n 0, 1, 26, 0, [0], []) rfl rfl rfl ?_
        refine bGo hA 1 10 (50, .getfield 104, 3, 27, 0, [5, 9, 0, 0, 0, 0], []) rfl rfl rfl ?_
        refine ⟨rfl, ?_⟩
        refine bGo hA 1 11 (53, .if_icmp .eq (7), 3, 28, 30, [], []) rfl rfl rfl ?_
        refine ⟨fun c8 => ?_, fun c8 => ?_⟩
        · refine bGo hA 1 14 (60, .iconst (0), 1, 31, 0, [], [(0, 0)]) rfl rfl rfl ?_
          refine bGo hA 1 15 (61, .istore 5, 2, 32, 0, [5], []) rfl rfl rfl ?_
          refine bGo hA 2 0 (63, .iload 5, 2, 33, 0, [5], []) rfl rfl rfl ?_
          refine bGo hA 2 1 (65, .ifCond .eq (29), 3, 34, 47, [], []) rfl rfl rfl ?_
          refine ⟨fun _ => ?_, fun c => absurd (by decide) c⟩
          refine bGo hA 2 15 (94, .iinc 3 (1), 3, 48, 0, [3], [(1, 0)]) rfl rfl rfl ?_
          refine bGo hA 3 0 (97, .goto (-91), 3, 49, 6, [], []) rfl rfl rfl ?_
          exact (((k3.2.2 c5).1 c7).1 c8)
        · refine bGo hA 1 12 (56, .iconst (1), 1, 29, 0, [], [(1, 0)]) rfl rfl rfl ?_
          refine bGo hA 1 13 (57, .goto (4), 3, 30, 31, [], []) rfl rfl rfl ?_
          refine bGo hA 1 15 (61, .istore 5, 2, 32, 0, [5], []) rfl rfl rfl ?_
          refine bGo hA 2 0 (63, .iload 5, 2, 33, 0, [5], []) rfl rfl rfl ?_
          refine bGo hA 2 1 (65, .ifCond .eq (29), 3, 34, 47, [], []) rfl rfl rfl ?_
          refine ⟨fun c => absurd c (by decide), fun _ => ?_⟩
          refine bGo hA 2 2 (68, .aload 4, 2, 35, 0, [4], []) rfl rfl rfl ?_
          refine bGo hA 2 3 (70, .getfield 127, 3, 36, 0, [0, 9, 0, 0, 0, 0], []) rfl rfl rfl ?_
          refine ⟨k3.1, ?_⟩
          refine bGo hA 2 4 (73, .iload_n 2, 1, 37, 0, [2], []) rfl rfl rfl ?_
          refine bGo hA 2 5 (74, .if_icmp .le (20), 3, 38, 47, [], []) rfl rfl rfl ?_
          refine ⟨fun c11 => ?_, fun c11 => ?_⟩
          · refine bGo hA 2 6 (77, .aload_n 0, 1, 39, 0, [0], []) rfl rfl rfl ?_
            refine bGo hA 2 7 (78, .aload 4, 2, 40, 0, [4], []) rfl rfl rfl ?_
            refine bGo hA 2 8 (80, .invokevirtual 235, 3, 41, 0, [0, 5, 58, 1], []) rfl rfl rfl ?_
            refine ⟨rfl, ?_⟩
            refine hC _ _ _ _ _ (bRi_e (fun r14 s12 k13 => ?_)) ((((k3.2.2 c5).1 c7).2 c8).1 c11)
            show A (41, [.ref 5, .int l1, .int l2, .int l3, .ref r4, .int 1], [.int r14], s12)
            refine bGo hA 2 9 (83, .ifCond .eq (11), 3, 42, 47, [], []) rfl rfl rfl ?_
            refine ⟨fun c15 => ?_, fun c15 => ?_⟩
            · refine bGo hA 2 15 (94, .iinc 3 (1), 3, 48, 0, [3], [(1, 0)]) rfl rfl rfl ?_
              refine bGo hA 3 0 (97, .goto (-91), 3, 49, 6, [], []) rfl rfl rfl ?_
              exact (k13.1 c15)
            · refine bGo hA 2 10 (86, .iload_n 3, 1, 43, 0, [3], []) rfl rfl rfl ?_
              refine bGo hA 2 11 (87, .istore_n 1, 1, 44, 0, [1], []) rfl rfl rfl ?_
              refine bGo hA 2 12 (88, .aload 4, 2, 45, 0, [4], []) rfl rfl rfl ?_
              refine bGo hA 2 13 (90, .getfield 127, 3, 46, 0, [0, 9, 0, 0, 0, 0], []) rfl rfl rfl ?_
              refine ⟨k3.1, ?_⟩
              refine bGo hA 2 14 (93, .istore_n 2, 1, 47, 0, [2], []) rfl rfl rfl ?_
              refine bGo hA 2 15 (94, .iinc 3 (1), 3, 48, 0, [3], [(1, 0)]) rfl rfl rfl ?_
              refine bGo hA 3 0 (97, .goto (-91), 3, 49, 6, [], []) rfl rfl rfl ?_
              exact (k13.2 c15)
          · refine bGo hA 2 15 (94, .iinc 3 (1), 3, 48, 0, [3], [(1, 0)]) rfl rfl rfl ?_
            refine bGo hA 3 0 (97, .goto (-91), 3, 49, 6, [], []) rfl rfl rfl ?_
            exact ((((k3.2.2 c5).1 c7).2 c8).2 c11)
      · refine bGo hA 1 14 (60, .iconst (0), 1, 31, 0, [], [(0, 0)]) rfl rfl rfl ?_
        refine bGo hA 1 15 (61, .istore 5, 2, 32, 0, [5], []) rfl rfl rfl ?_
        refine bGo hA 2 0 (63, .iload 5, 2, 33, 0, [5], []) rfl rfl rfl ?_
        refine bGo hA 2 1 (65, .ifCond .eq (29), 3, 34, 47, [], []) rfl rfl rfl ?_
        refine ⟨fun _ => ?_, fun c => absurd (by decide) c⟩
        refine bGo hA 2 15 (94, .iinc 3 (1), 3, 48, 0, [3], [(1, 0)]) rfl rfl rfl ?_
        refine bGo hA 3 0 (97, .goto (-91), 3, 49, 6, [], []) rfl rfl rfl ?_
        exact ((k3.2.2 c5).2 c7)
  · refine bGo hA 3 1 (100, .iload_n 1, 1, 50, 0, [1], []) rfl rfl rfl ?_
    refine bGo hA 3 2 (101, .ireturn, 1, 0, 0, [1], []) rfl rfl rfl ?_
    exact (h.2 c1)

theorem sg58_0 {lvl : Nat} {C : bCall} {Q : bPost} {A : bPt → Prop} (hC : bMono C) (hA : bClosed lvl bm58 C Q A) {a1 : Nat} {σ : bSt} (h_a1 : a1 % 256 = 0)
  (h : A (2, [.ref 5, .ref a1, .int 0, .float 0], [], σ)) : A (0, [.ref 5, .ref a1, .float 0, .float 0], [], σ) := by
  refine bGo hA 0 0 (0, .iconst (0), 1, 1, 0, [], [(0, 0)]) rfl rfl rfl ?_
  refine bGo hA 0 1 (1, .istore_n 2, 1, 2, 0, [2], []) rfl rfl rfl ?_
  exact h

theorem sg58_2 {lvl : Nat} {C : bCall} {Q : bPost} {A : bPt → Prop} (hC : bMono C) (hA : bClosed lvl bm58 C Q A) {l1 : Nat} {l2 : Int32} {v3 : Value} {σ : bSt} 
  (h : (l1 % 256 = 0 ∧ ((l2 < (σ.1 l1 1) → (C 5 [.ref l1, .int l2] σ (bRi (fun r4 s2 => ((r4 = (-1) → A (2, [.ref 5, .ref l1, .int (l2 + 1), .int r4], [], s2)) ∧ (¬ r4 = (-1) → (C 89 [.ref 6, .int r4] s2 (bRa (fun r8 s6 => (r8 % 256 = 0 ∧ (C 10 [.ref r8] s6 (bRi (fun r11 s9 => ((r11 = 0 → Q (.inl (some (.int 0))) s9) ∧ (¬ r11 = 0 → A (2, [.ref 5, .ref l1, .int (l2 + 1), .int r4], [], s9)))))))))))))))) ∧ (¬ l2 < (σ.1 l1 1) → Q (.inl (some (.int 1))) σ)))) : A (2, [.ref 5, .ref l1, .int l2, v3], [], σ) := by
  refine bGo hA 0 2 (2, .iload_n 2, 1, 3, 0, [2], []) rfl rfl rfl ?_
  refine bGo hA 0 3 (3, .aload_n 1, 1, 4, 0, [1], []) rfl rfl rfl ?_
  refine bGo hA 0 4 (4, .getfield 136, 3, 5, 0, [0, 1, 0, 0, 0, 0], []) rfl rfl rfl ?_
  refine ⟨h.1, ?_⟩
  refine bGo hA 0 5 (7, .if_icmp .ge (36), 3, 6, 23, [], []) rfl rfl rfl ?_
  refine ⟨fun c1 => ?_, fun c1 => ?_⟩
  · refine bGo hA 0 6 (10, .aload_n 1, 1, 7, 0, [1], []) rfl rfl rfl ?_
    refine bGo hA 0 7 (11, .iload_n 2, 1, 8, 0, [2], []) rfl rfl rfl ?_
    refine bGo hA 0 8 (12, .invokevirtual 139, 3, 9, 0, [0, 0, 5, 1], []) rfl rfl rfl ?_
    refine ⟨h.1, ?_⟩
    refine hC _ _ _ _ _ (bRi_e (fun r4 s2 k3 => ?_)) (h.2.1 c1)
    show A (9, [.ref 5, .ref l1, .int l2, v3], [.int r4], s2)
    refine bGo hA 0 9 (15, .istore_n 3, 1, 10, 0, [3], []) rfl rfl rfl ?_
    refine bGo hA 0 10 (16, .iload_n 3, 1, 11, 0, [3], []) rfl rfl rfl ?_
    refine bGo hA 0 11 (17, .iconst (-1), 1, 12, 0, [], [(-1, 0)]) rfl rfl rfl ?_
    refine bGo hA 0 12 (18, .if_icmp .eq (19), 3, 13, 21, [], []) rfl rfl rfl ?_
    refine ⟨fun c5 => ?_, fun c5 => ?_⟩
    · refine bGo hA 1 5 (37, .iinc 2 (1), 3, 22, 0, [2], [(1, 0)]) rfl rfl rfl ?_
      refine bGo hA 1 6 (40, .goto (-38), 3, 23, 2, [], []) rfl rfl rfl ?_
      exact (k3.1 c5)
    · refine bGo hA 0 13 (21, .aload_n 0, 1, 14, 0, [0], []) rfl rfl rfl ?_
      refine bGo hA 0 14 (22, .getfield 55, 3, 15, 0, [5, 1, 3, 6, 0, 0], []) rfl rfl rfl ?_
      refine ⟨rfl, ?_⟩
      refine bGo hA 0 15 (25, .iload_n 3, 1, 16, 0, [3], []) rfl rfl rfl ?_
      refine bGo hA 1 0 (26, .invokevirtual 113, 3, 17, 0, [0, 6, 89, 1], []) rfl rfl rfl ?_
      refine ⟨rfl, ?_⟩
      refine hC _ _ _ _ _ (bRa_e (fun r8 s6 k7 => ?_)) (k3.2 c5)
      show A (17, [.ref 5, .ref l1, .int l2, .int r4], [.ref r8], s6)
      refine bGo hA 1 1 (29, .invokevirtual 92, 3, 18, 0, [0, 0, 10, 0], []) rfl rfl rfl ?_
      refine ⟨k7.1, ?_⟩
      refine hC _ _ _ _ _ (bRi_e (fun r11 s9 k10 => ?_)) k7.2
      show A (18, [.ref 5, .ref l1, .int l2, .int r4], [.int r11], s9)
      refine bGo hA 1 2 (32, .ifCond .ne (5), 3, 19, 21, [], []) rfl rfl rfl ?_
      refine ⟨fun c12 => ?_, fun c12 => ?_⟩
      · refine bGo hA 1 3 (35, .iconst (0), 1, 20, 0, [], [(0, 0)]) rfl rfl rfl ?_
        refine bGo hA 1 4 (36, .ireturn, 1, 21, 0, [2], []) rfl rfl rfl ?_
        exact ⟨Or.inl rfl, (k10.1 c12)⟩
      · refine bGo hA 1 5 (37, .iinc 2 (1), 3, 22, 0, [2], [(1, 0)]) rfl rfl rfl ?_
        refine bGo hA 1 6 (40, .goto (-38), 3, 23, 2, [], []) rfl rfl rfl ?_
        exact (k10.2 c12)
  · refine bGo hA 1 7 (43, .iconst (1), 1, 24, 0, [], [(1, 0)]) rfl rfl rfl ?_
    refine bGo hA 1 8 (44, .ireturn, 1, 0, 0, [2], []) rfl rfl rfl ?_
    exact ⟨Or.inr rfl, (h.2.2 c1)⟩

theorem sg59_0 {lvl : Nat} {C : bCall} {Q : bPost} {A : bPt → Prop} (hC : bMono C) (hA : bClosed lvl bm59 C Q A) {a1 : Nat} {σ : bSt} (h_a1 : a1 % 256 = 0)
  (h : ((256 * (2 * (a1 / 256) + 0) + 4) % 256 = 4 ∧ A (7, [.ref 5, .ref a1, .int 0, .float 0, .float 0], [], (bI σ (256 * (2 * (a1 / 256) + 0) + 4) 3 (σ.1 a1 1))))) : A (0, [.ref 5, .ref a1, .float 0, .float 0, .float 0], [], σ) := by
  refine bGo hA 0 0 (0, .aload_n 1, 1, 1, 0, [1], []) rfl rfl rfl ?_
  refine bGo hA 0 1 (1, .getfield 175, 3, 2, 0, [0, 3, 3, 4, 2, 0], []) rfl rfl rfl ?_
  refine ⟨h_a1, ?_⟩
  refine bGo hA 0 2 (4, .aload_n 1, 1, 3, 0, [1], []) rfl rfl rfl ?_
  refine bGo hA 0 3 (5, .getfield 136, 3, 4, 0, [0, 1, 0, 0, 0, 0], []) rfl rfl rfl ?_
  refine ⟨h_a1, ?_⟩
  refine bGo hA 0 4 (8, .putfield 239, 3, 5, 0, [4, 3, 0, 0, 0, 0], []) rfl rfl rfl ?_
  refine ⟨h.1, ?_⟩
  refine bGo hA 0 5 (11, .iconst (0), 1, 6, 0, [], [(0, 0)]) rfl rfl rfl ?_
  refine bGo hA 0 6 (12, .istore_n 2, 1, 7, 0, [2], []) rfl rfl rfl ?_
  exact h.2

theorem sg59_7 {lvl : Nat} {C : bCall} {Q : bPost} {A : bPt → Prop} (hC : bMono C) (hA : bClosed lvl bm59 C Q A) {l1 : Nat} {l2 : Int32} {v3 : Value} {v4 : Value} {σ : bSt} 
  (h : (l1 % 256 = 0 ∧ ((l2 < (σ.1 l1 1) → (C 5 [.ref l1, .int l2] σ (bRi (fun r4 s2 => ((r4 = (-1) → (C 4 [.ref l1, .int l2] s2 (bRi (fun r8 s6 => (C 31 [.ref 3, .int r8] s6 (bRi (fun r11 s9 => ((256 * (2 * (l1 / 256) + 0) + 4) % 256 = 4 ∧ (C 141 [.ref (256 * (1 * ((256 * (2 * (l1 / 256) + 0) + 4) / 256) + 0) + 22), .int l2, .int r11] s9 (bRv (fun s12 => A (7, [.ref 5, .ref l1, .int (l2 + 1), .int r4, .int r11], [], s12)))))))))))) ∧ (¬ r4 = (-1) → (C 89 [.ref 6, .int r4] s2 (bRa (fun r16 s14 => (r16 % 256 = 0 ∧ ((256 * (2 * (r16 / 256) + 0) + 4) % 256 = 4 ∧ ((256 * (2 * (l1 / 256) + 0) + 4) % 256 = 4 ∧ (C 141 [.ref (256 * (1 * ((256 * (2 * (l1 / 256) + 0) + 4) / 256) + 0) + 22), .int l2, .int (s14.1 (256 * (2 * (r16 / 256) + 0) + 4) 8)] s14 (bRv (fun s17 => A (7, [.ref 5, .ref l1, .int (l2 + 1), .int r4, .int (s14.1 (256 * (2 * (r16 / 256) + 0) + 4) 8)], [], s17)))))))))))))))) ∧ (¬ l2 < (σ.1 l1 1) → ((256 * (2 * (l1 / 256) + 0) + 4) % 256 = 4 ∧ (C 40 [.ref (256 * (2 * (l1 / 256) + 0) + 4), .ref 3, .int (σ.1 l1 0)] σ (bRv (fun s19 => Q (.inl none) s19)))))))) : A (7, [.ref 5, .ref l1, .int l2, v3, v4], [], σ) := by
  refine bGo hA 0 7 (13, .iload_n 2, 1, 8, 0, [2], []) rfl rfl rfl ?_
  refine bGo hA 0 8 (14, .aload_n 1, 1, 9, 0, [1], []) rfl rfl rfl ?_
  refine bGo hA 0 9 (15, .getfield 136, 3, 10, 0, [0, 1, 0, 0, 0, 0], []) rfl rfl rfl ?_
  refine ⟨h.1, ?_⟩
  refine bGo hA 0 10 (18, .if_icmp .ge (64), 3, 11, 40, [], []) rfl rfl rfl ?_
  refine ⟨fun c1 => ?_, fun c1 => ?_⟩
  · refine bGo hA 0 11 (21, .aload_n 1, 1, 12, 0, [1], []) rfl rfl rfl ?_
    refine bGo hA 0 12 (22, .iload_n 2, 1, 13, 0, [2], []) rfl rfl rfl ?_
    refine bGo hA 0 13 (23, .invokevirtual 139, 3, 14, 0, [0, 0, 5, 1], []) rfl rfl rfl ?_
    refine ⟨h.1, ?_⟩
    refine hC _ _ _ _ _ (bRi_e (fun r4 s2 k3 => ?_)) (h.2.1 c1)
    show A (14, [.ref 5, .ref l1, .int l2, v3, v4], [.int r4], s2)
    refine bGo hA 0 14 (26, .istore_n 3, 1, 15, 0, [3], []) rfl rfl rfl ?_
    refine bGo hA 0 15 (27, .iload_n 3, 1, 16, 0, [3], []) rfl rfl rfl ?_
    refine bGo hA 1 0 (28, .iconst (-1), 1, 17, 0, [], [(-1, 0)]) rfl rfl rfl ?_
    refine bGo hA 1 1 (29, .if_icmp .ne (18), 3, 18, 25, [], []) rfl rfl rfl ?_
    refine ⟨fun c5 => ?_, fun c5 => ?_⟩
    · refine bGo hA 1 2 (32, .aload_n 0, 1, 19, 0, [0], []) rfl rfl rfl ?_
      refine bGo hA 1 3 (33, .getfield 51, 3, 20, 0, [5, 0, 3, 3, 0, 0], []) rfl rfl rfl ?_
      refine ⟨rfl, ?_⟩
      refine bGo hA 1 4 (36, .aload_n 1, 1, 21, 0, [1], []) rfl rfl rfl ?_
      refine bGo hA 1 5 (37, .iload_n 2, 1, 22, 0, [2], []) rfl rfl rfl ?_
      refine bGo hA 1 6 (38, .invokevirtual 240, 3, 23, 0, [0, 0, 4, 1], []) rfl rfl rfl ?_
      refine ⟨h.1, ?_⟩
      refine hC _ _ _ _ _ (bRi_e (fun r8 s6 k7 => ?_)) (k3.1 c5)
      show A (23, [.ref 5, .ref l1, .int l2, .int r4, v4], [.int r8, .ref 3], s6)
      refine bGo hA 1 7 (41, .invokevirtual 119, 3, 24, 0, [0, 3, 31, 1], []) rfl rfl rfl ?_
      refine ⟨rfl, ?_⟩
      refine hC _ _ _ _ _ (bRi_e (fun r11 s9 k10 => ?_)) k7
      show A (24, [.ref 5, .ref l1, .int l2, .int r4, v4], [.int r11], s9)
      refine bGo hA 1 8 (44, .goto (17), 3, 25, 31, [], []) rfl rfl rfl ?_
      refine bGo hA 1 15 (61, .istore 4, 2, 32, 0, [4], []) rfl rfl rfl ?_
      refine bGo hA 2 0 (63, .aload_n 1, 1, 33, 0, [1], []) rfl rfl rfl ?_
      refine bGo hA 2 1 (64, .getfield 175, 3, 34, 0, [0, 3, 3, 4, 2, 0], []) rfl rfl rfl ?_
      refine ⟨h.1, ?_⟩
      refine bGo hA 2 2 (67, .getfield 243, 3, 35, 0, [4, 4, 3, 22, 1, 0], []) rfl rfl rfl ?_
      refine ⟨k10.1, ?_⟩
      refine bGo hA 2 3 (70, .iload_n 2, 1, 36, 0, [2], []) rfl rfl rfl ?_
      refine bGo hA 2 4 (71, .iload 4, 2, 37, 0, [4], []) rfl rfl rfl ?_
      refine bGo hA 2 5 (73, .invokestatic 246, 3, 38, 1, [2, 141, 3], []) rfl rfl rfl ?_
      refine hC _ _ _ _ _ (bRv_e (fun s12 k13 => ?_)) k10.2
      show A (38, [.ref 5, .ref l1, .int l2, .int r4, .int r11], [], s12)
      refine bGo hA 2 6 (76, .iinc 2 (1), 3, 39, 0, [2], [(1, 0)]) rfl rfl rfl ?_
      refine bGo hA 2 7 (79, .goto (-66), 3, 40, 7, [], []) rfl rfl rfl ?_
      exact k13
    · refine bGo hA 1 9 (47, .aload_n 0, 1, 26, 0, [0], []) rfl rfl rfl ?_
      refine bGo hA 1 10 (48, .getfield 55, 3, 27, 0, [5, 1, 3, 6, 0, 0], []) rfl rfl rfl ?_
      refine ⟨rfl, ?_⟩
      refine bGo hA 1 11 (51, .iload_n 3, 1, 28, 0, [3], []) rfl rfl rfl ?_
      refine bGo hA 1 12 (52, .invokevirtual 113, 3, 29, 0, [0, 6, 89, 1], []) rfl rfl rfl ?_
      refine ⟨rfl, ?_⟩
      refine hC _ _ _ _ _ (bRa_e (fun r16 s14 k15 => ?_)) (k3.2 c5)
      show A (29, [.ref 5, .ref l1, .int l2, .int r4, v4], [.ref r16], s14)
      refine bGo hA 1 13 (55, .getfield 175, 3, 30, 0, [0, 3, 3, 4, 2, 0], []) rfl rfl rfl ?_
      refine ⟨k15.1, ?_⟩
      refine bGo hA 1 14 (58, .getfield 212, 3, 31, 0, [4, 8, 0, 0, 0, 0], []) rfl rfl rfl ?_
      refine ⟨k15.2.1, ?_⟩
      refine bGo hA 1 15 (61, .istore 4, 2, 32, 0, [4], []) rfl rfl rfl ?_
      refine bGo hA 2 0 (63, .aload_n 1, 1, 33, 0, [1], []) rfl rfl rfl ?_
      refine bGo hA 2 1 (64, .getfield 175, 3, 34, 0, [0, 3, 3, 4, 2, 0], []) rfl rfl rfl ?_
      refine ⟨h.1, ?_⟩
      refine bGo hA 2 2 (67, .getfield 243, 3, 35, 0, [4, 4, 3, 22, 1, 0], []) rfl rfl rfl ?_
      refine ⟨k15.2.2.1, ?_⟩
      refine bGo hA 2 3 (70, .iload_n 2, 1, 36, 0, [2], []) rfl rfl rfl ?_
      refine bGo hA 2 4 (71, .iload 4, 2, 37, 0, [4], []) rfl rfl rfl ?_
      refine bGo hA 2 5 (73, .invokestatic 246, 3, 38, 1, [2, 141, 3], []) rfl rfl rfl ?_
      refine hC _ _ _ _ _ (bRv_e (fun s17 k18 => ?_)) k15.2.2.2
      show A (38, [.ref 5, .ref l1, .int l2, .int r4, .int (s14.1 (256 * (2 * (r16 / 256) + 0) + 4) 8)], [], s17)
      refine bGo hA 2 6 (76, .iinc 2 (1), 3, 39, 0, [2], [(1, 0)]) rfl rfl rfl ?_
      refine bGo hA 2 7 (79, .goto (-66), 3, 40, 7, [], []) rfl rfl rfl ?_
      exact k18
  · refine bGo hA 2 8 (82, .aload_n 1, 1, 41, 0, [1], []) rfl rfl rfl ?_
    refine bGo hA 2 9 (83, .getfield 175, 3, 42, 0, [0, 3, 3, 4, 2, 0], []) rfl rfl rfl ?_
    refine ⟨h.1, ?_⟩
    refine bGo hA 2 10 (86, .aload_n 0, 1, 43, 0, [0], []) rfl rfl rfl ?_
    refine bGo hA 2 11 (87, .getfield 51, 3, 44, 0, [5, 0, 3, 3, 0, 0], []) rfl rfl rfl ?_
    refine ⟨rfl, ?_⟩
    refine bGo hA 2 12 (90, .aload_n 1, 1, 45, 0, [1], []) rfl rfl rfl ?_
    refine bGo hA 2 13 (91, .getfield 250, 3, 46, 0, [0, 0, 0, 0, 0, 0], []) rfl rfl rfl ?_
    refine ⟨h.1, ?_⟩
    refine bGo hA 2 14 (94, .invokevirtual 253, 3, 47, 0, [0, 4, 40, 2], []) rfl rfl rfl ?_
    refine ⟨(h.2.2 c1).1, ?_⟩
    refine hC _ _ _ _ _ (bRv_e (fun s19 k20 => ?_)) (h.2.2 c1).2
    show A (47, [.ref 5, .ref l1, .int l2, v3, v4], [], s19)
    refine bGo hA 2 15 (97, .return_, 1, 0, 0, [0], []) rfl rfl rfl ?_
    exact k20

theorem sg60_0 {lvl : Nat} {C : bCall} {Q : bPost} {A : bPt → Prop} (hC : bMono C) (hA : bClosed lvl bm60 C Q A) {a1 : Nat} {x2 : Int32} {σ : bSt} (h_a1 : a1 % 256 = 0)
  (h : ((256 * (2 * (a1 / 256) + 1) + 4) % 256 = 4 ∧ (C 43 [.ref (256 * (2 * (a1 / 256) + 1) + 4), .ref (256 * (2 * (a1 / 256) + 0) + 4)] σ (bRi (fun r3 s1 => ((r3 = 0 → (C 16 [.ref 1, .ref (256 * (2 * (a1 / 256) + 0) + 4)] s1 (bRi (fun r7 s5 => ((r7 = (-1) → (((s5.1 5 5) = 0 → (C 61 [.ref 5, .ref a1, .int x2] s5 (bRv (fun s10 => Q (.inl none) s10)))) ∧ (¬ (s5.1 5 5) = 0 → (C 16 [.ref 257, .ref (256 * (2 * (a1 / 256) + 0) + 4)] s5 (bRi (fun r14 s12 => ((r14 = (-1) → (C 61 [.ref 5, .ref a1, .int x2] s12 (bRv (fun s16 => Q (.inl none) s16)))) ∧ (¬ r14 = (-1) → Q (.inl none) (bI (bI s12 a1 11 (s12.1 5 9)) a1 15 (((bI s12 a1 11 (s12.1 5 9)).1 5 9) + ((bI s12 a1 11 (s12.1 5 9)).1 5 6))))))))))) ∧ (¬ r7 = (-1) → (C 18 [.ref 1, .int r7, .ref (256 * (2 * (a1 / 256) + 0) + 4)] s5 (bRv (fun s18 => (C 13 [.ref a1, .int 1, .int ((bI s18 a1 11 (s18.1 5 9)).1 5 9)] (bI s18 a1 11 (s18.1 5 9)) (bRv (fun s20 => Q (.inl none) s20)))))))))))) ∧ (¬ r3 = 0 → (C 13 [.ref a1, .int 0, .int ((bI s1 a1 11 (s1.1 5 9)).1 5 9)] (bI s1 a1 11 (s1.1 5 9)) (bRv (fun s22 => Q (.inl none) s22)))))))))) : A (0, [.ref 5, .ref a1, .int x2, .float 0], [], σ) := by
  refine bGo hA 0 0 (0, .aload_n 1, 1, 1, 0, [1], []) rfl rfl rfl ?_
  refine bGo hA 0 1 (1, .getfield 257, 3, 2, 0, [0, 4, 3, 4, 2, 1], []) rfl rfl rfl ?_
  refine ⟨h_a1, ?_⟩
  refine bGo hA 0 2 (4, .aload_n 1, 1, 3, 0, [1], []) rfl rfl rfl ?_
  refine bGo hA 0 3 (5, .getfield 175, 3, 4, 0, [0, 3, 3, 4, 2, 0], []) rfl rfl rfl ?_
  refine ⟨h_a1, ?_⟩
  refine bGo hA 0 4 (8, .invokevirtual 260, 3, 5, 0, [0, 4, 43, 1], []) rfl rfl rfl ?_
  refine ⟨h.1, ?_⟩
  refine hC _ _ _ _ _ (bRi_e (fun r3 s1 k2 => ?_)) h.2
  show A (5, [.ref 5, .ref a1, .int x2, .float 0], [.int r3], s1)
  refine bGo hA 0 5 (11, .ifCond .eq (21), 3, 6, 16, [], []) rfl rfl rfl ?_
  refine ⟨fun c4 => ?_, fun c4 => ?_⟩
  · refine bGo hA 1 0 (32, .aload_n 0, 1, 17, 0, [0], []) rfl rfl rfl ?_
    refine bGo hA 1 1 (33, .getfield 14, 3, 18, 0, [5, 2, 3, 1, 0, 0], []) rfl rfl rfl ?_
    refine ⟨rfl, ?_⟩
    refine bGo hA 1 2 (36, .aload_n 1, 1, 19, 0, [1], []) rfl rfl rfl ?_
    refine bGo hA 1 3 (37, .getfield 175, 3, 20, 0, [0, 3, 3, 4, 2, 0], []) rfl rfl rfl ?_
    refine ⟨h_a1, ?_⟩
    refine bGo hA 1 4 (40, .invokevirtual 264, 3, 21, 0, [0, 1, 16, 1], []) rfl rfl rfl ?_
    refine ⟨rfl, ?_⟩
    refine hC _ _ _ _ _ (bRi_e (fun r7 s5 k6 => ?_)) (k2.1 c4)
    show A (21, [.ref 5, .ref a1, .int x2, .float 0], [.int r7], s5)
    refine bGo hA 1 5 (43, .istore_n 3, 1, 22, 0, [3], []) rfl rfl rfl ?_
    refine bGo hA 1 6 (44, .iload_n 3, 1, 23, 0, [3], []) rfl rfl rfl ?_
    refine bGo hA 1 7 (45, .iconst (-1), 1, 24, 0, [], [(-1, 0)]) rfl rfl rfl ?_
    refine bGo hA 1 8 (46, .if_icmp .eq (35), 3, 25, 41, [], []) rfl rfl rfl ?_
    refine ⟨fun c8 => ?_, fun c8 => ?_⟩
    · refine bGo hA 2 9 (81, .aload_n 0, 1, 42, 0, [0], []) rfl rfl rfl ?_
      refine bGo hA 2 10 (82, .getfield 30, 3, 43, 0, [5, 5, 1, 0, 0, 0], []) rfl rfl rfl ?_
      refine ⟨rfl, ?_⟩
      refine bGo hA 2 11 (85, .ifCond .eq (42), 3, 44, 63, [], []) rfl rfl rfl ?_
      refine ⟨fun c9 => ?_, fun c9 => ?_⟩
      · refine bGo hA 3 15 (127, .aload_n 0, 1, 64, 0, [0], []) rfl rfl rfl ?_
        refine bGo hA 4 0 (128, .aload_n 1, 1, 65, 0, [1], []) rfl rfl rfl ?_
        refine bGo hA 4 1 (129, .iload_n 2, 1, 66, 0, [2], []) rfl rfl rfl ?_
        refine bGo hA 4 2 (130, .invokevirtual 272, 3, 67, 0, [0, 5, 61, 2], []) rfl rfl rfl ?_
        refine ⟨rfl, ?_⟩
        refine hC _ _ _ _ _ (bRv_e (fun s10 k11 => ?_)) ((k6.1 c8).1 c9)
        show A (67, [.ref 5, .ref a1, .int x2, .int r7], [], s10)
        refine bGo hA 4 3 (133, .return_, 1, 0, 0, [0], []) rfl rfl rfl ?_
        exact k11
      · refine bGo hA 2 12 (88, .aload_n 0, 1, 45, 0, [0], []) rfl rfl rfl ?_
        refine bGo hA 2 13 (89, .getfield 20, 3, 46, 0, [5, 3, 3, 1, 0, 1], []) rfl rfl rfl ?_
        refine ⟨rfl, ?_⟩
        refine bGo hA 2 14 (92, .aload_n 1, 1, 47, 0, [1], []) rfl rfl rfl ?_
        refine bGo hA 2 15 (93, .getfield 175, 3, 48, 0, [0, 3, 3, 4, 2, 0], []) rfl rfl rfl ?_
        refine ⟨h_a1, ?_⟩
        refine bGo hA 3 0 (96, .invokevirtual 264, 3, 49, 0, [0, 1, 16, 1], []) rfl rfl rfl ?_
        refine ⟨rfl, ?_⟩
        refine hC _ _ _ _ _ (bRi_e (fun r14 s12 k13 => ?_)) ((k6.1 c8).2 c9)
        show A (49, [.ref 5, .ref a1, .int x2, .int r7], [.int r14], s12)
        refine bGo hA 3 1 (99, .iconst (-1), 1, 50, 0, [], [(-1, 0)]) rfl rfl rfl ?_
        refine bGo hA 3 2 (100, .if_icmp .eq (27), 3, 51, 63, [], []) rfl rfl rfl ?_
        refine ⟨fun c15 => ?_, fun c15 => ?_⟩
        · refine bGo hA 3 15 (127, .aload_n 0, 1, 64, 0, [0], []) rfl rfl rfl ?_
          refine bGo hA 4 0 (128, .aload_n 1, 1, 65, 0, [1], []) rfl rfl rfl ?_
          refine bGo hA 4 1 (129, .iload_n 2, 1, 66, 0, [2], []) rfl rfl rfl ?_
          refine bGo hA 4 2 (130, .invokevirtual 272, 3, 67, 0, [0, 5, 61, 2], []) rfl rfl rfl ?_
          refine ⟨rfl, ?_⟩
          refine hC _ _ _ _ _ (bRv_e (fun s16 k17 => ?_)) (k13.1 c15)
          show A (67, [.ref 5, .ref a1, .int x2, .int r7], [], s16)
          refine bGo hA 4 3 (133, .return_, 1, 0, 0, [0], []) rfl rfl rfl ?_
          exact k17
        · refine bGo hA 3 3 (103, .aload_n 1, 1, 52, 0, [1], []) rfl rfl rfl ?_
          refine bGo hA 3 4 (104, .aload_n 0, 1, 53, 0, [0], []) rfl rfl rfl ?_
          refine bGo hA 3 5 (105, .getfield 104, 3, 54, 0, [5, 9, 0, 0, 0, 0], []) rfl rfl rfl ?_
          refine ⟨rfl, ?_⟩
          refine bGo hA 3 6 (108, .putfield 232, 3, 55, 0, [0, 11, 0, 0, 0, 0], []) rfl rfl rfl ?_
          refine ⟨h_a1, ?_⟩
          refine bGo hA 3 7 (111, .aload_n 1, 1, 56, 0, [1], []) rfl rfl rfl ?_
          refine bGo hA 3 8 (112, .aload_n 0, 1, 57, 0, [0], []) rfl rfl rfl ?_
          refine bGo hA 3 9 (113, .getfield 104, 3, 58, 0, [5, 9, 0, 0, 0, 0], []) rfl rfl rfl ?_
          refine ⟨rfl, ?_⟩
          refine bGo hA 3 10 (116, .aload_n 0, 1, 59, 0, [0], []) rfl rfl rfl ?_
          refine bGo hA 3 11 (117, .getfield 34, 3, 60, 0, [5, 6, 0, 0, 0, 0], []) rfl rfl rfl ?_
          refine ⟨rfl, ?_⟩
          refine bGo hA 3 12 (120, .iadd, 1, 61, 0, [], []) rfl rfl rfl ?_
          refine bGo hA 3 13 (121, .putfield 168, 3, 62, 0, [0, 15, 0, 0, 0, 0], []) rfl rfl rfl ?_
          refine ⟨h_a1, ?_⟩
          refine bGo hA 3 14 (124, .goto (9), 3, 63, 67, [], []) rfl rfl rfl ?_
          refine bGo hA 4 3 (133, .return_, 1, 0, 0, [0], []) rfl rfl rfl ?_
          exact (k13.2 c15)
    · refine bGo hA 1 9 (49, .aload_n 0, 1, 26, 0, [0], []) rfl rfl rfl ?_
      refine bGo hA 1 10 (50, .getfield 14, 3, 27, 0, [5, 2, 3, 1, 0, 0], []) rfl rfl rfl ?_
      refine ⟨rfl, ?_⟩
      refine bGo hA 1 11 (53, .iload_n 3, 1, 28, 0, [3], []) rfl rfl rfl ?_
      refine bGo hA 1 12 (54, .aload_n 1, 1, 29, 0, [1], []) rfl rfl rfl ?_
      refine bGo hA 1 13 (55, .getfield 175, 3, 30, 0, [0, 3, 3, 4, 2, 0], []) rfl rfl rfl ?_
      refine ⟨h_a1, ?_⟩
      refine bGo hA 1 14 (58, .invokevirtual 268, 3, 31, 0, [0, 1, 18, 2], []) rfl rfl rfl ?_
      refine ⟨rfl, ?_⟩
      refine hC _ _ _ _ _ (bRv_e (fun s18 k19 => ?_)) (k6.2 c8)
      show A (31, [.ref 5, .ref a1, .int x2, .int r7], [], s18)
      refine bGo hA 1 15 (61, .aload_n 1, 1, 32, 0, [1], []) rfl rfl rfl ?_
      refine bGo hA 2 0 (62, .aload_n 0, 1, 33, 0, [0], []) rfl rfl rfl ?_
      refine bGo hA 2 1 (63, .getfield 104, 3, 34, 0, [5, 9, 0, 0, 0, 0], []) rfl rfl rfl ?_
      refine ⟨rfl, ?_⟩
      refine bGo hA 2 2 (66, .putfield 232, 3, 35, 0, [0, 11, 0, 0, 0, 0], []) rfl rfl rfl ?_
      refine ⟨h_a1, ?_⟩
      refine bGo hA 2 3 (69, .aload_n 1, 1, 36, 0, [1], []) rfl rfl rfl ?_
      refine bGo hA 2 4 (70, .iconst (1), 1, 37, 0, [], [(1, 0)]) rfl rfl rfl ?_
      refine bGo hA 2 5 (71, .aload_n 0, 1, 38, 0, [0], []) rfl rfl rfl ?_
      refine bGo hA 2 6 (72, .getfield 104, 3, 39, 0, [5, 9, 0, 0, 0, 0], []) rfl rfl rfl ?_
      refine ⟨rfl, ?_⟩
      refine bGo hA 2 7 (75, .invokevirtual 171, 3, 40, 0, [0, 0, 13, 2], []) rfl rfl rfl ?_
      refine ⟨h_a1, ?_⟩
      refine hC _ _ _ _ _ (bRv_e (fun s20 k21 => ?_)) k19
      show A (40, [.ref 5, .ref a1, .int x2, .int r7], [], s20)
      refine bGo hA 2 8 (78, .goto (55), 3, 41, 67, [], []) rfl rfl rfl ?_
      refine bGo hA 4 3 (133, .return_, 1, 0, 0, [0], []) rfl rfl rfl ?_
      exact k21
  · refine bGo hA 0 6 (14, .aload_n 1, 1, 7, 0, [1], []) rfl rfl rfl ?_
    refine bGo hA 0 7 (15, .aload_n 0, 1, 8, 0, [0], []) rfl rfl rfl ?_
    refine bGo hA 0 8 (16, .getfield 104, 3, 9, 0, [5, 9, 0, 0, 0, 0], []) rfl rfl rfl ?_
    refine ⟨rfl, ?_⟩
    refine bGo hA 0 9 (19, .putfield 232, 3, 10, 0, [0, 11, 0, 0, 0, 0], []) rfl rfl rfl ?_
    refine ⟨h_a1, ?_⟩
    refine bGo hA 0 10 (22, .aload_n 1, 1, 11, 0, [1], []) rfl rfl rfl ?_
    refine bGo hA 0 11 (23, .iconst (0), 1, 12, 0, [], [(0, 0)]) rfl rfl rfl ?_
    refine bGo hA 0 12 (24, .aload_n 0, 1, 13, 0, [0], []) rfl rfl rfl ?_
    refine bGo hA 0 13 (25, .getfield 104, 3, 14, 0, [5, 9, 0, 0, 0, 0], []) rfl rfl rfl ?_
    refine ⟨rfl, ?_⟩
    refine bGo hA 0 14 (28, .invokevirtual 171, 3, 15, 0, [0, 0, 13, 2], []) rfl rfl rfl ?_
    refine ⟨h_a1, ?_⟩
    refine hC _ _ _ _ _ (bRv_e (fun s22 k23 => ?_)) (k2.2 c4)
    show A (15, [.ref 5, .ref a1, .int x2, .float 0], [], s22)
    refine bGo hA 0 15 (31, .return_, 1, 16, 0, [0], []) rfl rfl rfl ?_
    exact k23

theorem sg61_0 {lvl : Nat} {C : bCall} {Q : bPost} {A : bPt → Prop} (hC : bMono C) (hA : bClosed lvl bm61 C Q A) {a1 : Nat} {x2 : Int32} {σ : bSt} (h_a1 : a1 % 256 = 0)
  (h : (((σ.1 a1 8) = 0 → ((256 * (2 * (a1 / 256) + 0) + 4) % 256 = 4 ∧ (C 25 [.ref 2, .int (σ.1 a1 6), .int (σ.1 (256 * (2 * (a1 / 256) + 0) + 4) 2)] σ (bRi (fun r4 s2 => ((r4 = (-1) → Q (.inl none) s2) ∧ (¬ r4 = (-1) → A (25, [.ref 5, .ref a1, .int x2, .int 0, .int r4, .float 0], [], s2)))))))) ∧ (¬ (σ.1 a1 8) = 0 → (((σ.1 5 5) = 0 → ((256 * (2 * (a1 / 256) + 0) + 4) % 256 = 4 ∧ (C 25 [.ref 2, .int (σ.1 a1 6), .int (σ.1 (256 * (2 * (a1 / 256) + 0) + 4) 2)] σ (bRi (fun r10 s8 => ((r10 = (-1) → Q (.inl none) s8) ∧ (¬ r10 = (-1) → A (25, [.ref 5, .ref a1, .int x2, .int 0, .int r10, .float 0], [], s8)))))))) ∧ (¬ (σ.1 5 5) = 0 → ((256 * (2 * (a1 / 256) + 0) + 4) % 256 = 4 ∧ (C 25 [.ref 2, .int (σ.1 a1 6), .int (σ.1 (256 * (2 * (a1 / 256) + 0) + 4) 2)] σ (bRi (fun r15 s13 => ((r15 = (-1) → A (25, [.ref 5, .ref a1, .int x2, .int 1, .int r15, .float 0], [], s13)) ∧ (¬ r15 = (-1) → A (25, [.ref 5, .ref a1, .int x2, .int 1, .int r15, .float 0], [], s13)))))))))))) : A (0, [.ref 5, .ref a1, .int x2, .float 0, .float 0, .float 0], [], σ) := by
  refine bGo hA 0 0 (0, .aload_n 1, 1, 1, 0, [1], []) rfl rfl rfl ?_
  refine bGo hA 0 1 (1, .getfield 275, 3, 2, 0, [0, 8, 1, 0, 0, 0], []) rfl rfl rfl ?_
  refine ⟨h_a1, ?_⟩
  refine bGo hA 0 2 (4, .ifCond .eq (14), 3, 3, 8, [], []) rfl rfl rfl ?_
  refine ⟨fun c1 => ?_, fun c1 => ?_⟩
  · refine bGo hA 0 8 (18, .iconst (0), 1, 9, 0, [], [(0, 0)]) rfl rfl rfl ?_
    refine bGo hA 0 9 (19, .istore_n 3, 1, 10, 0, [3], []) rfl rfl rfl ?_
    refine bGo hA 0 10 (20, .aload_n 0, 1, 11, 0, [0], []) rfl rfl rfl ?_
    refine bGo hA 0 11 (21, .getfield 26, 3, 12, 0, [5, 4, 3, 2, 0, 0], []) rfl rfl rfl ?_
    refine ⟨rfl, ?_⟩
    refine bGo hA 0 12 (24, .aload_n 1, 1, 13, 0, [1], []) rfl rfl rfl ?_
    refine bGo hA 0 13 (25, .getfield 278, 3, 14, 0, [0, 6, 0, 0, 0, 0], []) rfl rfl rfl ?_
    refine ⟨h_a1, ?_⟩
    refine bGo hA 0 14 (28, .aload_n 1, 1, 15, 0, [1], []) rfl rfl rfl ?_
    refine bGo hA 0 15 (29, .getfield 175, 3, 16, 0, [0, 3, 3, 4, 2, 0], []) rfl rfl rfl ?_
    refine ⟨h_a1, ?_⟩
    refine bGo hA 1 0 (32, .getfield 199, 3, 17, 0, [4, 2, 0, 0, 0, 0], []) rfl rfl rfl ?_
    refine ⟨(h.1 c1).1, ?_⟩
    refine bGo hA 1 1 (35, .invokevirtual 281, 3, 18, 0, [0, 2, 25, 2], []) rfl rfl rfl ?_
    refine ⟨rfl, ?_⟩
    refine hC _ _ _ _ _ (bRi_e (fun r4 s2 k3 => ?_)) (h.1 c1).2
    show A (18, [.ref 5, .ref a1, .int x2, .int 0, .float 0, .float 0], [.int r4], s2)
    refine bGo hA 1 2 (38, .istore 4, 2, 19, 0, [4], []) rfl rfl rfl ?_
    refine bGo hA 1 3 (40, .iload 4, 2, 20, 0, [4], []) rfl rfl rfl ?_
    refine bGo hA 1 4 (42, .iconst (-1), 1, 21, 0, [], [(-1, 0)]) rfl rfl rfl ?_
    refine bGo hA 1 5 (43, .if_icmp .ne (8), 3, 22, 25, [], []) rfl rfl rfl ?_
    refine ⟨fun c5 => ?_, fun c5 => ?_⟩
    · refine bGo hA 1 6 (46, .iload_n 3, 1, 23, 0, [3], []) rfl rfl rfl ?_
      refine bGo hA 1 7 (47, .ifCond .ne (4), 3, 24, 25, [], []) rfl rfl rfl ?_
      refine ⟨fun _ => ?_, fun c => absurd (by decide) c⟩
      refine bGo hA 1 8 (50, .return_, 1, 25, 0, [0], []) rfl rfl rfl ?_
      exact (k3.1 c5)
    · exact (k3.2 c5)
  · refine bGo hA 0 3 (7, .aload_n 0, 1, 4, 0, [0], []) rfl rfl rfl ?_
    refine bGo hA 0 4 (8, .getfield 30, 3, 5, 0, [5, 5, 1, 0, 0, 0], []) rfl rfl rfl ?_
    refine ⟨rfl, ?_⟩
    refine bGo hA 0 5 (11, .ifCond .eq (7), 3, 6, 8, [], []) rfl rfl rfl ?_
    refine ⟨fun c7 => ?_, fun c7 => ?_⟩
    · refine bGo hA 0 8 (18, .iconst (0), 1, 9, 0, [], [(0, 0)]) rfl rfl rfl ?_
      refine bGo hA 0 9 (19, .istore_n 3, 1, 10, 0, [3], []) rfl rfl rfl ?_
      refine bGo hA 0 10 (20, .aload_n 0, 1, 11, 0, [0], []) rfl rfl rfl ?_
      refine bGo hA 0 11 (21, .getfield 26, 3, 12, 0, [5, 4, 3, 2, 0, 0], []) rfl rfl rfl ?_
      refine ⟨rfl, ?_⟩
      refine bGo hA 0 12 (24, .aload_n 1, 1, 13, 0, [1], []) rfl rfl rfl ?_
      refine bGo hA 0 13 (25, .getfield 278, 3, 14, 0, [0, 6, 0, 0, 0, 0], []) rfl rfl rfl ?_
      refine ⟨h_a1, ?_⟩
      refine bGo hA 0 14 (28, .aload_n 1, 1, 15, 0, [1], []) rfl rfl rfl ?_
      refine bGo hA 0 15 (29, .getfield 175, 3, 16, 0, [0, 3, 3, 4, 2, 0], []) rfl rfl rfl ?_
      refine ⟨h_a1, ?_⟩
      refine bGo hA 1 0 (32, .getfield 199, 3, 17, 0, [4, 2, 0, 0, 0, 0], []) rfl rfl rfl ?_
      refine ⟨((h.2 c1).1 c7).1, ?_⟩
      refine bGo hA 1 1 (35, .invokevirtual 281, 3, 18, 0, [0, 2, 25, 2], []) rfl rfl rfl ?_
      refine ⟨rfl, ?_⟩
      refine hC _ _ _ _ _ (bRi_e (fun r10 s8 k9 => ?_)) ((h.2 c1).1 c7).2
      show A (18, [.ref 5, .ref a1, .int x2, .int 0, .float 0, .float 0], [.int r10], s8)
      refine bGo hA 1 2 (38, .istore 4, 2, 19, 0, [4], []) rfl rfl rfl ?_
      refine bGo hA 1 3 (40, .iload 4, 2, 20, 0, [4], []) rfl rfl rfl ?_
      refine bGo hA 1 4 (42, .iconst (-1), 1, 21, 0, [], [(-1, 0)]) rfl rfl rfl ?_
      refine bGo hA 1 5 (43, .if_icmp .ne (8), 3, 22, 25, [], []) rfl rfl rfl ?_
      refine ⟨fun c11 => ?_, fun c11 => ?_⟩
      · refine bGo hA 1 6 (46, .iload_n 3, 1, 23, 0, [3], []) rfl rfl rfl ?_
        refine bGo hA 1 7 (47, .ifCond .ne (4), 3, 24, 25, [], []) rfl rfl rfl ?_
        refine ⟨fun _ => ?_, fun c => absurd (by decide) c⟩
        refine bGo hA 1 8 (50, .return_, 1, 25, 0, [0], []) rfl rfl rfl ?_
        exact (k9.1 c11)
      · exact (k9.2 c11)
    · refine bGo hA 0 6 (14, .iconst (1), 1, 7, 0, [], [(1, 0)]) rfl rfl rfl ?_
      refine bGo hA 0 7 (15, .goto (4), 3, 8, 9, [], []) rfl rfl rfl ?_
      refine bGo hA 0 9 (19, .istore_n 3, 1, 10, 0, [3], []) rfl rfl rfl ?_
      refine bGo hA 0 10 (20, .aload_n 0, 1, 11, 0, [0], []) rfl rfl rfl ?_
      refine bGo hA 0 11 (21, .getfield 26, 3, 12, 0, [5, 4, 3, 2, 0, 0], []) rfl rfl rfl ?_
      refine ⟨rfl, ?_⟩
      refine bGo hA 0 12 (24, .aload_n 1, 1, 13, 0, [1], []) rfl rfl rfl ?_
      refine bGo hA 0 13 (25, .getfield 278, 3, 14, 0, [0, 6, 0, 0, 0, 0], []) rfl rfl rfl ?_
      refine ⟨h_a1, ?_⟩
      refine bGo hA 0 14 (28, .aload_n 1, 1, 15, 0, [1], []) rfl rfl rfl ?_
      refine bGo hA 0 15 (29, .getfield 175, 3, 16, 0, [0, 3, 3, 4, 2, 0], []) rfl rfl rfl ?_
      refine ⟨h_a1, ?_⟩
      refine bGo hA 1 0 (32, .getfield 199, 3, 17, 0, [4, 2, 0, 0, 0, 0], []) rfl rfl rfl ?_
      refine ⟨((h.2 c1).2 c7).1, ?_⟩
      refine bGo hA 1 1 (35, .invokevirtual 281, 3, 18, 0, [0, 2, 25, 2], []) rfl rfl rfl ?_
      refine ⟨rfl, ?_⟩
      refine hC _ _ _ _ _ (bRi_e (fun r15 s13 k14 => ?_)) ((h.2 c1).2 c7).2
      show A (18, [.ref 5, .ref a1, .int x2, .int 1, .float 0, .float 0], [.int r15], s13)
      refine bGo hA 1 2 (38, .istore 4, 2, 19, 0, [4], []) rfl rfl rfl ?_
      refine bGo hA 1 3 (40, .iload 4, 2, 20, 0, [4], []) rfl rfl rfl ?_
      refine bGo hA 1 4 (42, .iconst (-1), 1, 21, 0, [], [(-1, 0)]) rfl rfl rfl ?_
      refine bGo hA 1 5 (43, .if_icmp .ne (8), 3, 22, 25, [], []) rfl rfl rfl ?_
      refine ⟨fun c16 => ?_, fun c16 => ?_⟩
      · refine bGo hA 1 6 (46, .iload_n 3, 1, 23, 0, [3], []) rfl rfl rfl ?_
        refine bGo hA 1 7 (47, .ifCond .ne (4), 3, 24, 25, [], []) rfl rfl rfl ?_
        refine ⟨fun c => absurd c (by decide), fun _ => ?_⟩
        exact (k14.1 c16)
      · exact (k14.2 c16)

theorem sg61_25 {lvl : Nat} {C : bCall} {Q : bPost} {A : bPt → Prop} (hC : bMono C) (hA : bClosed lvl bm61 C Q A) {l1 : Nat} {l2 : Int32} {l3 : Int32} {l4 : Int32} {v5 : Value} {σ : bSt} 
  (h : (l1 % 256 = 0 ∧ ((l4 = (-1) → ((l3 = 0 → Q (.inl none) (bI σ l1 11 (σ.1 5 9))) ∧ (¬ l3 = 0 → Q (.inl none) (bI (bI σ l1 11 (σ.1 5 9)) l1 17 ((((bI σ l1 11 (σ.1 5 9)).1 5 9) + ((bI σ l1 11 (σ.1 5 9)).1 l1 7)) + ((bI σ l1 11 (σ.1 5 9)).1 5 6)))))) ∧ (¬ l4 = (-1) → ((256 * (2 * (l1 / 256) + 0) + 4) % 256 = 4 ∧ (C 26 [.ref 2, .int l4, .int ((bI σ l1 11 (σ.1 5 9)).1 (256 * (2 * (l1 / 256) + 0) + 4) 2)] (bI σ l1 11 (σ.1 5 9)) (bRi (fun r5 s3 => ((r5 = 0 → (C 62 [.ref 5, .int l2] s3 (bRi (fun r9 s7 => (C 28 [.ref 2, .int l4] (bI (bI s7 l1 16 (((s3.1 5 9) + (s3.1 l1 7)) + r9)) l1 14 l4) (bRv (fun s10 => ((l3 = 0 → Q (.inl none) s10) ∧ (¬ l3 = 0 → Q (.inl none) (bI s10 l1 17 (((s10.1 5 9) + (s10.1 l1 7)) + (s10.1 5 6)))))))))))) ∧ (¬ r5 = 0 → (C 62 [.ref 5, .int l2] s3 (bRi (fun r15 s13 => (C 28 [.ref 2, .int l4] (bI (bI s13 l1 16 (((s3.1 5 9) + (((s3.1 l1 7) + 1) / 2)) + r15)) l1 14 l4) (bRv (fun s16 => ((l3 = 0 → Q (.inl none) s16) ∧ (¬ l3 = 0 → Q (.inl none) (bI s16 l1 17 (((s16.1 5 9) + (s16.1 l1 7)) + (s16.1 5 6))))))))))))))))))))) : A (25, [.ref 5, .ref l1, .int l2, .int l3, .int l4, v5], [], σ) := by
  refine bGo hA 1 9 (51, .aload_n 1, 1, 26, 0, [1], []) rfl rfl rfl ?_
  refine bGo hA 1 10 (52, .aload_n 0, 1, 27, 0, [0], []) rfl rfl rfl ?_
  refine bGo hA 1 11 (53, .getfield 104, 3, 28, 0, [5, 9, 0, 0, 0, 0], []) rfl rfl rfl ?_
  refine ⟨rfl, ?_⟩
  refine bGo hA 1 12 (56, .putfield 232, 3, 29, 0, [0, 11, 0, 0, 0, 0], []) rfl rfl rfl ?_
  refine ⟨h.1, ?_⟩
  refine bGo hA 1 13 (59, .iload 4, 2, 30, 0, [4], []) rfl rfl rfl ?_
  refine bGo hA 1 14 (61, .iconst (-1), 1, 31, 0, [], [(-1, 0)]) rfl rfl rfl ?_
  refine bGo hA 1 15 (62, .if_icmp .eq (71), 3, 32, 67, [], []) rfl rfl rfl ?_
  refine ⟨fun c1 => ?_, fun c1 => ?_⟩
  · refine bGo hA 4 3 (133, .iload_n 3, 1, 68, 0, [3], []) rfl rfl rfl ?_
    refine bGo hA 4 4 (134, .ifCond .eq (21), 3, 69, 79, [], []) rfl rfl rfl ?_
    refine ⟨fun c2 => ?_, fun c2 => ?_⟩
    · refine bGo hA 4 15 (155, .return_, 1, 0, 0, [0], []) rfl rfl rfl ?_
      exact ((h.2.1 c1).1 c2)
    · refine bGo hA 4 5 (137, .aload_n 1, 1, 70, 0, [1], []) rfl rfl rfl ?_
      refine bGo hA 4 6 (138, .aload_n 0, 1, 71, 0, [0], []) rfl rfl rfl ?_
      refine bGo hA 4 7 (139, .getfield 104, 3, 72, 0, [5, 9, 0, 0, 0, 0], []) rfl rfl rfl ?_
      refine ⟨rfl, ?_⟩
      refine bGo hA 4 8 (142, .aload_n 1, 1, 73, 0, [1], []) rfl rfl rfl ?_
      refine bGo hA 4 9 (143, .getfield 130, 3, 74, 0, [0, 7, 0, 0, 0, 0], []) rfl rfl rfl ?_
      refine ⟨h.1, ?_⟩
      refine bGo hA 4 10 (146, .iadd, 1, 75, 0, [], []) rfl rfl rfl ?_
      refine bGo hA 4 11 (147, .aload_n 0, 1, 76, 0, [0], []) rfl rfl rfl ?_
      refine bGo hA 4 12 (148, .getfield 34, 3, 77, 0, [5, 6, 0, 0, 0, 0], []) rfl rfl rfl ?_
      refine ⟨rfl, ?_⟩
      refine bGo hA 4 13 (151, .iadd, 1, 78, 0, [], []) rfl rfl rfl ?_
      refine bGo hA 4 14 (152, .putfield 186, 3, 79, 0, [0, 17, 0, 0, 0, 0], []) rfl rfl rfl ?_
      refine ⟨h.1, ?_⟩
      refine bGo hA 4 15 (155, .return_, 1, 0, 0, [0], []) rfl rfl rfl ?_
      exact ((h.2.1 c1).2 c2)
  · refine bGo hA 2 0 (65, .aload_n 0, 1, 33, 0, [0], []) rfl rfl rfl ?_
    refine bGo hA 2 1 (66, .getfield 26, 3, 34, 0, [5, 4, 3, 2, 0, 0], []) rfl rfl rfl ?_
    refine ⟨rfl, ?_⟩
    refine bGo hA 2 2 (69, .iload 4, 2, 35, 0, [4], []) rfl rfl rfl ?_
    refine bGo hA 2 3 (71, .aload_n 1, 1, 36, 0, [1], []) rfl rfl rfl ?_
    refine bGo hA 2 4 (72, .getfield 175, 3, 37, 0, [0, 3, 3, 4, 2, 0], []) rfl rfl rfl ?_
    refine ⟨h.1, ?_⟩
    refine bGo hA 2 5 (75, .getfield 199, 3, 38, 0, [4, 2, 0, 0, 0, 0], []) rfl rfl rfl ?_
    refine ⟨(h.2.2 c1).1, ?_⟩
    refine bGo hA 2 6 (78, .invokevirtual 284, 3, 39, 0, [0, 2, 26, 2], []) rfl rfl rfl ?_
    refine ⟨rfl, ?_⟩
    refine hC _ _ _ _ _ (bRi_e (fun r5 s3 k4 => ?_)) (h.2.2 c1).2
    show A (39, [.ref 5, .ref l1, .int l2, .int l3, .int l4, v5], [.int r5], s3)
    refine bGo hA 2 7 (81, .istore 5, 2, 40, 0, [5], []) rfl rfl rfl ?_
    refine bGo hA 2 8 (83, .aload_n 1, 1, 41, 0, [1], []) rfl rfl rfl ?_
    refine bGo hA 2 9 (84, .aload_n 0, 1, 42, 0, [0], []) rfl rfl rfl ?_
    refine bGo hA 2 10 (85, .getfield 104, 3, 43, 0, [5, 9, 0, 0, 0, 0], []) rfl rfl rfl ?_
    refine ⟨rfl, ?_⟩
    refine bGo hA 2 11 (88, .iload 5, 2, 44, 0, [5], []) rfl rfl rfl ?_
    refine bGo hA 2 12 (90, .ifCond .eq (14), 3, 45, 52, [], []) rfl rfl rfl ?_
    refine ⟨fun c6 => ?_, fun c6 => ?_⟩
    · refine bGo hA 3 4 (104, .aload_n 1, 1, 53, 0, [1], []) rfl rfl rfl ?_
      refine bGo hA 3 5 (105, .getfield 130, 3, 54, 0, [0, 7, 0, 0, 0, 0], []) rfl rfl rfl ?_
      refine ⟨h.1, ?_⟩
      refine bGo hA 3 6 (108, .iadd, 1, 55, 0, [], []) rfl rfl rfl ?_
      refine bGo hA 3 7 (109, .aload_n 0, 1, 56, 0, [0], []) rfl rfl rfl ?_
      refine bGo hA 3 8 (110, .iload_n 2, 1, 57, 0, [2], []) rfl rfl rfl ?_
      refine bGo hA 3 9 (111, .invokevirtual 288, 3, 58, 0, [0, 5, 62, 1], []) rfl rfl rfl ?_
      refine ⟨rfl, ?_⟩
      refine hC _ _ _ _ _ (bRi_e (fun r9 s7 k8 => ?_)) (k4.1 c6)
      show A (58, [.ref 5, .ref l1, .int l2, .int l3, .int l4, .int r5], [.int r9, .int ((s3.1 5 9) + (s3.1 l1 7)), .ref l1], s7)
      refine bGo hA 3 10 (114, .iadd, 1, 59, 0, [], []) rfl rfl rfl ?_
      refine bGo hA 3 11 (115, .putfield 183, 3, 60, 0, [0, 16, 0, 0, 0, 0], []) rfl rfl rfl ?_
      refine ⟨h.1, ?_⟩
      refine bGo hA 3 12 (118, .aload_n 1, 1, 61, 0, [1], []) rfl rfl rfl ?_
      refine bGo hA 3 13 (119, .iload 4, 2, 62, 0, [4], []) rfl rfl rfl ?_
      refine bGo hA 3 14 (121, .putfield 196, 3, 63, 0, [0, 14, 0, 0, 0, 0], []) rfl rfl rfl ?_
      refine ⟨h.1, ?_⟩
      refine bGo hA 3 15 (124, .aload_n 0, 1, 64, 0, [0], []) rfl rfl rfl ?_
      refine bGo hA 4 0 (125, .getfield 26, 3, 65, 0, [5, 4, 3, 2, 0, 0], []) rfl rfl rfl ?_
      refine ⟨rfl, ?_⟩
      refine bGo hA 4 1 (128, .iload 4, 2, 66, 0, [4], []) rfl rfl rfl ?_
      refine bGo hA 4 2 (130, .invokevirtual 291, 3, 67, 0, [0, 2, 28, 1], []) rfl rfl rfl ?_
      refine ⟨rfl, ?_⟩
      refine hC _ _ _ _ _ (bRv_e (fun s10 k11 => ?_)) k8
      show A (67, [.ref 5, .ref l1, .int l2, .int l3, .int l4, .int r5], [], s10)
      refine bGo hA 4 3 (133, .iload_n 3, 1, 68, 0, [3], []) rfl rfl rfl ?_
      refine bGo hA 4 4 (134, .ifCond .eq (21), 3, 69, 79, [], []) rfl rfl rfl ?_
      refine ⟨fun c12 => ?_, fun c12 => ?_⟩
      · refine bGo hA 4 15 (155, .return_, 1, 0, 0, [0], []) rfl rfl rfl ?_
        exact (k11.1 c12)
      · refine bGo hA 4 5 (137, .aload_n 1, 1, 70, 0, [1], []) rfl rfl rfl ?_
        refine bGo hA 4 6 (138, .aload_n 0, 1, 71, 0, [0], []) rfl rfl rfl ?_
        refine bGo hA 4 7 (139, .getfield 104, 3, 72, 0, [5, 9, 0, 0, 0, 0], []) rfl rfl rfl ?_
        refine ⟨rfl, ?_⟩
        refine bGo hA 4 8 (142, .aload_n 1, 1, 73, 0, [1], []) rfl rfl rfl ?_
        refine bGo hA 4 9 (143, .getfield 130, 3, 74, 0, [0, 7, 0, 0, 0, 0], []) rfl rfl rfl ?_
        refine ⟨h.1, ?_⟩
        refine bGo hA 4 10 (146, .iadd, 1, 75, 0, [], []) rfl rfl rfl ?_
        refine bGo hA 4 11 (147, .aload_n 0, 1, 76, 0, [0], []) rfl rfl rfl ?_
        refine bGo hA 4 12 (148, .getfield 34, 3, 77, 0, [5, 6, 0, 0, 0, 0], []) rfl rfl rfl ?_
        refine ⟨rfl, ?_⟩
        refine bGo hA 4 13 (151, .iadd, 1, 78, 0, [], []) rfl rfl rfl ?_
        refine bGo hA 4 14 (152, .putfield 186, 3, 79, 0, [0, 17, 0, 0, 0, 0], []) rfl rfl rfl ?_
        refine ⟨h.1, ?_⟩
        refine bGo hA 4 15 (155, .return_, 1, 0, 0, [0], []) rfl rfl rfl ?_
        exact (k11.2 c12)
    · refine bGo hA 2 13 (93, .aload_n 1, 1, 46, 0, [1], []) rfl rfl rfl ?_
      refine bGo hA 2 14 (94, .getfield 130, 3, 47, 0, [0, 7, 0, 0, 0, 0], []) rfl rfl rfl ?_
      refine ⟨h.1, ?_⟩
      refine bGo hA 2 15 (97, .iconst (1), 1, 48, 0, [], [(1, 0)]) rfl rfl rfl ?_
      refine bGo hA 3 0 (98, .iadd, 1, 49, 0, [], []) rfl rfl rfl ?_
      refine bGo hA 3 1 (99, .iconst (2), 1, 50, 0, [], [(2, 0)]) rfl rfl rfl ?_
      refine bGo hA 3 2 (100, .idiv, 1, 51, 0, [], []) rfl rfl rfl ?_
      refine ⟨by decide, ?_⟩
      refine bGo hA 3 3 (101, .goto (7), 3, 52, 54, [], []) rfl rfl rfl ?_
      refine bGo hA 3 6 (108, .iadd, 1, 55, 0, [], []) rfl rfl rfl ?_
      refine bGo hA 3 7 (109, .aload_n 0, 1, 56, 0, [0], []) rfl rfl rfl ?_
      refine bGo hA 3 8 (110, .iload_n 2, 1, 57, 0, [2], []) rfl rfl rfl ?_
      refine bGo hA 3 9 (111, .invokevirtual 288, 3, 58, 0, [0, 5, 62, 1], []) rfl rfl rfl ?_
      refine ⟨rfl, ?_⟩
      refine hC _ _ _ _ _ (bRi_e (fun r15 s13 k14 => ?_)) (k4.2 c6)
      show A (58, [.ref 5, .ref l1, .int l2, .int l3, .int l4, .int r5], [.int r15, .int ((s3.1 5 9) + (((s3.1 l1 7) + 1) / 2)), .ref l1], s13)
      refine bGo hA 3 10 (114, .iadd, 1, 59, 0, [], []) rfl rfl rfl ?_
      refine bGo hA 3 11 (115, .putfield 183, 3, 60, 0, [0, 16, 0, 0, 0, 0], []) rfl rfl rfl ?_
      refine ⟨h.1, ?_⟩
      refine bGo hA 3 12 (118, .aload_n 1, 1, 61, 0, [1], []) rfl rfl rfl ?_
      refine bGo hA 3 13 (119, .iload 4, 2, 62, 0, [4], []) rfl rfl rfl ?_
      refine bGo hA 3 14 (121, .putfield 196, 3, 63, 0, [0, 14, 0, 0, 0, 0], []) rfl rfl rfl ?_
      refine ⟨h.1, ?_⟩
      refine bGo hA 3 15 (124, .aload_n 0, 1, 64, 0, [0], []) rfl rfl rfl ?_
      refine bGo hA 4 0 (125, .getfield 26, 3, 65, 0, [5, 4, 3, 2, 0, 0], []) rfl rfl rfl ?_
      refine ⟨rfl, ?_⟩
      refine bGo hA 4 1 (128, .iload 4, 2, 66, 0, [4], []) rfl rfl rfl ?_
      refine bGo hA 4 2 (130, .invokevirtual 291, 3, 67, 0, [0, 2, 28, 1], []) rfl rfl rfl ?_
      refine ⟨rfl, ?_⟩
      refine hC _ _ _ _ _ (bRv_e (fun s16 k17 => ?_)) k14
      show A (67, [.ref 5, .ref l1, .int l2, .int l3, .int l4, .int r5], [], s16)
      refine bGo hA 4 3 (133, .iload_n 3, 1, 68, 0, [3], []) rfl rfl rfl ?_
      refine bGo hA 4 4 (134, .ifCond .eq (21), 3, 69, 79, [], []) rfl rfl rfl ?_
      refine ⟨fun c18 => ?_, fun c18 => ?_⟩
      · refine bGo hA 4 15 (155, .return_, 1, 0, 0, [0], []) rfl rfl rfl ?_
        exact (k17.1 c18)
      · refine bGo hA 4 5 (137, .aload_n 1, 1, 70, 0, [1], []) rfl rfl rfl ?_
        refine bGo hA 4 6 (138, .aload_n 0, 1, 71, 0, [0], []) rfl rfl rfl ?_
        refine bGo hA 4 7 (139, .getfield 104, 3, 72, 0, [5, 9, 0, 0, 0, 0], []) rfl rfl rfl ?_
        refine ⟨rfl, ?_⟩
        refine bGo hA 4 8 (142, .aload_n 1, 1, 73, 0, [1], []) rfl rfl rfl ?_
        refine bGo hA 4 9 (143, .getfield 130, 3, 74, 0, [0, 7, 0, 0, 0, 0], []) rfl rfl rfl ?_
        refine ⟨h.1, ?_⟩
        refine bGo hA 4 10 (146, .iadd, 1, 75, 0, [], []) rfl rfl rfl ?_
        refine bGo hA 4 11 (147, .aload_n 0, 1, 76, 0, [0], []) rfl rfl rfl ?_
        refine bGo hA 4 12 (148, .getfield 34, 3, 77, 0, [5, 6, 0, 0, 0, 0], []) rfl rfl rfl ?_
        refine ⟨rfl, ?_⟩
        refine bGo hA 4 13 (151, .iadd, 1, 78, 0, [], []) rfl rfl rfl ?_
        refine bGo hA 4 14 (152, .putfield 186, 3, 79, 0, [0, 17, 0, 0, 0, 0], []) rfl rfl rfl ?_
        refine ⟨h.1, ?_⟩
        refine bGo hA 4 15 (155, .return_, 1, 0, 0, [0], []) rfl rfl rfl ?_
        exact (k17.2 c18)

theorem sg62_0 {lvl : Nat} {C : bCall} {Q : bPost} {A : bPt → Prop} (hC : bMono C) (hA : bClosed lvl bm62 C Q A) {x1 : Int32} {σ : bSt} 
  (h : (C 141 [.ref 25, .int 0, .int x1] σ (bRv (fun s1 => (C 141 [.ref 26, .int 0, .int 0] s1 (bRv (fun s3 => A (16, [.ref 5, .int x1, .int 0, .int 1, .int 0, .float 0, .float 0, .float 0], [], s3)))))))) : A (0, [.ref 5, .int x1, .float 0, .float 0, .float 0, .float 0, .float 0, .float 0], [], σ) := by
  refine bGo hA 0 0 (0, .iconst (0), 1, 1, 0, [], [(0, 0)]) rfl rfl rfl ?_
  refine bGo hA 0 1 (1, .istore_n 2, 1, 2, 0, [2], []) rfl rfl rfl ?_
  refine bGo hA 0 2 (2, .iconst (1), 1, 3, 0, [], [(1, 0)]) rfl rfl rfl ?_
  refine bGo hA 0 3 (3, .istore_n 3, 1, 4, 0, [3], []) rfl rfl rfl ?_
  refine bGo hA 0 4 (4, .aload_n 0, 1, 5, 0, [0], []) rfl rfl rfl ?_
  refine bGo hA 0 5 (5, .getfield 45, 3, 6, 0, [5, 11, 3, 25, 1, 0], []) rfl rfl rfl ?_
  refine ⟨rfl, ?_⟩
  refine bGo hA 0 6 (8, .iconst (0), 1, 7, 0, [], [(0, 0)]) rfl rfl rfl ?_
  refine bGo hA 0 7 (9, .iload_n 1, 1, 8, 0, [1], []) rfl rfl rfl ?_
  refine bGo hA 0 8 (10, .invokestatic 246, 3, 9, 1, [2, 141, 3], []) rfl rfl rfl ?_
  refine hC _ _ _ _ _ (bRv_e (fun s1 k2 => ?_)) h
  show A (9, [.ref 5, .int x1, .int 0, .int 1, .float 0, .float 0, .float 0, .float 0], [], s1)
  refine bGo hA 0 9 (13, .aload_n 0, 1, 10, 0, [0], []) rfl rfl rfl ?_
  refine bGo hA 0 10 (14, .getfield 48, 3, 11, 0, [5, 12, 3, 26, 1, 0], []) rfl rfl rfl ?_
  refine ⟨rfl, ?_⟩
  refine bGo hA 0 11 (17, .iconst (0), 1, 12, 0, [], [(0, 0)]) rfl rfl rfl ?_
  refine bGo hA 0 12 (18, .iconst (0), 1, 13, 0, [], [(0, 0)]) rfl rfl rfl ?_
  refine bGo hA 0 13 (19, .invokestatic 246, 3, 14, 1, [2, 141, 3], []) rfl rfl rfl ?_
  refine hC _ _ _ _ _ (bRv_e (fun s3 k4 => ?_)) k2
  show A (14, [.ref 5, .int x1, .int 0, .int 1, .float 0, .float 0, .float 0, .float 0], [], s3)
  refine bGo hA 0 14 (22, .iconst (0), 1, 15, 0, [], [(0, 0)]) rfl rfl rfl ?_
  refine bGo hA 0 15 (23, .istore 4, 2, 16, 0, [4], []) rfl rfl rfl ?_
  exact k4

theorem sg62_16 {lvl : Nat} {C : bCall} {Q : bPost} {A : bPt → Prop} (hC : bMono C) (hA : bClosed lvl bm62 C Q A) {v1 : Value} {l2 : Int32} {l3 : Int32} {l4 : Int32} {v5 : Value} {v6 : Value} {v7 : Value} {σ : bSt} 
  (h : ((l4 < 100000 → ((0 < l3 → (C 140 [.ref 25, .int (l3 - 1)] σ (bRi (fun r5 s3 => (C 89 [.ref 6, .int r5] s3 (bRa (fun r8 s6 => (C 140 [.ref 26, .int (l3 - 1)] s6 (bRi (fun r11 s9 => (r8 % 256 = 0 ∧ ((r11 < (s9.1 r8 1) → (C 141 [.ref 26, .int (l3 - 1), .int (r11 + 1)] s9 (bRv (fun s13 => (C 5 [.ref r8, .int r11] s13 (bRi (fun r17 s15 => ((r17 = (-1) → A (16, [.ref 5, v1, .int l2, .int l3, .int (l4 + 1), .ref r8, .int r11, .int r17], [], s15)) ∧ (¬ r17 = (-1) → (C 89 [.ref 6, .int r17] s15 (bRa (fun r21 s19 => (r21 % 256 = 0 ∧ ((256 * (2 * (r21 / 256) + 0) + 4) % 256 = 4 ∧ (C 20 [.ref 1, .int (s19.1 (256 * (2 * (r21 / 256) + 0) + 4) 8)] s19 (bRi (fun r24 s22 => ((r24 = 0 → (((s22.1 5 5) = 0 → (C 141 [.ref 25, .int l3, .int r17] s22 (bRv (fun s27 => (C 141 [.ref 26, .int l3, .int 0] s27 (bRv (fun s29 => A (16, [.ref 5, v1, .int l2, .int (l3 + 1), .int (l4 + 1), .ref r8, .int r11, .int r17], [], s29)))))))) ∧ (¬ (s22.1 5 5) = 0 → (C 89 [.ref 6, .int r17] s22 (bRa (fun r33 s31 => (r33 % 256 = 0 ∧ ((256 * (2 * (r33 / 256) + 0) + 4) % 256 = 4 ∧ (C 20 [.ref 257, .int (s31.1 (256 * (2 * (r33 / 256) + 0) + 4) 8)] s31 (bRi (fun r36 s34 => ((r36 = 0 → (C 141 [.ref 25, .int l3, .int r17] s34 (bRv (fun s38 => (C 141 [.ref 26, .int l3, .int 0] s38 (bRv (fun s40 => A (16, [.ref 5, v1, .int l2, .int (l3 + 1), .int (l4 + 1), .ref r8, .int r11, .int r17], [], s40)))))))) ∧ (¬ r36 = 0 → (C 89 [.ref 6, .int r17] s34 (bRa (fun r44 s42 => (r44 % 256 = 0 ∧ ((256 * (2 * (r44 / 256) + 0) + 4) % 256 = 4 ∧ (C 21 [.ref 1, .int (s42.1 (256 * (2 * (r44 / 256) + 0) + 4) 8)] s42 (bRv (fun s45 => (C 54 [.ref 5, .int 10, .int 1] s45 (bRv (fun s47 => A (16, [.ref 5, v1, .int l2, .int l3, .int (l4 + 1), .ref r8, .int r11, .int r17], [], s47))))))))))))))))))))))))) ∧ (¬ r24 = 0 → A (16, [.ref 5, v1, .int l2, .int l3, .int (l4 + 1), .ref r8, .int r11, .int r17], [], s22)))))))))))))))))))) ∧ (¬ r11 < (s9.1 r8 1) → ((0 < (l3 + (-1)) → ((256 * (2 * (r8 / 256) + 0) + 4) % 256 = 4 ∧ (C 21 [.ref 1, .int (s9.1 (256 * (2 * (r8 / 256) + 0) + 4) 8)] s9 (bRv (fun s50 => (C 54 [.ref 5, .int 9, .int 1] s50 (bRv (fun s52 => A (16, [.ref 5, (bUnl v1), .int (l2 + (s52.1 r8 7)), .int (l3 + (-1)), .int (l4 + 1), .ref r8, .int r11, v7], [], s52))))))))) ∧ (¬ 0 < (l3 + (-1)) → A (16, [.ref 5, v1, .int l2, .int (l3 + (-1)), .int (l4 + 1), .ref r8, .int r11, v7], [], s9)))))))))))))))) ∧ (¬ 0 < l3 → Q (.inl (some (.int l2))) σ))) ∧ (¬ l4 < 100000 → Q (.inl (some (.int l2))) σ))) : A (16, [.ref 5, v1, .int l2, .int l3, .int l4, v5, v6, v7], [], σ) := by
  refine bGo hA 1 0 (25, .iload 4, 2, 17, 0, [4], []) rfl rfl rfl ?_
  refine bGo hA 1 1 (27, .ldc 148, 2, 18, 0, [148], [(100000, 0)]) rfl rfl rfl ?_
  refine bGo hA 1 2 (29, .if_icmp .ge (237), 3, 19, 128, [], []) rfl rfl rfl ?_
  refine ⟨fun c1 => ?_, fun c1 => ?_⟩
  · refine bGo hA 1 3 (32, .iload_n 3, 1, 20, 0, [3], []) rfl rfl rfl ?_
    refine bGo hA 1 4 (33, .ifCond .le (233), 3, 21, 128, [], []) rfl rfl rfl ?_
    refine ⟨fun c2 => ?_, fun c2 => ?_⟩
    · refine bGo hA 1 5 (36, .aload_n 0, 1, 22, 0, [0], []) rfl rfl rfl ?_
      refine bGo hA 1 6 (37, .getfield 55, 3, 23, 0, [5, 1, 3, 6, 0, 0], []) rfl rfl rfl ?_
      refine ⟨rfl, ?_⟩
      refine bGo hA 1 7 (40, .aload_n 0, 1, 24, 0, [0], []) rfl rfl rfl ?_
      refine bGo hA 1 8 (41, .getfield 45, 3, 25, 0, [5, 11, 3, 25, 1, 0], []) rfl rfl rfl ?_
      refine ⟨rfl, ?_⟩
      refine bGo hA 1 9 (44, .iload_n 3, 1, 26, 0, [3], []) rfl rfl rfl ?_
      refine bGo hA 1 10 (45, .iconst (1), 1, 27, 0, [], [(1, 0)]) rfl rfl rfl ?_
      refine bGo hA 1 11 (46, .isub, 1, 28, 0, [], []) rfl rfl rfl ?_
      refine bGo hA 1 12 (47, .invokestatic 294, 3, 29, 1, [2, 140, 2], []) rfl rfl rfl ?_
      refine hC _ _ _ _ _ (bRi_e (fun r5 s3 k4 => ?_)) ((h.1 c1).1 c2)
      show A (29, [.ref 5, v1, .int l2, .int l3, .int l4, v5, v6, v7], [.int r5, .ref 6], s3)
      refine bGo hA 1 13 (50, .invokevirtual 113, 3, 30, 0, [0, 6, 89, 1], []) rfl rfl rfl ?_
      refine ⟨rfl, ?_⟩
      refine hC _ _ _ _ _ (bRa_e (fun r8 s6 k7 => ?_)) k4
      show A (30, [.ref 5, v1, .int l2, .int l3, .int l4, v5, v6, v7], [.ref r8], s6)
      refine bGo hA 1 14 (53, .astore 5, 2, 31, 0, [5], []) rfl rfl rfl ?_
      refine bGo hA 1 15 (55, .aload_n 0, 1, 32, 0, [0], []) rfl rfl rfl ?_
      refine bGo hA 2 0 (56, .getfield 48, 3, 33, 0, [5, 12, 3, 26, 1, 0], []) rfl rfl rfl ?_
      refine ⟨rfl, ?_⟩
      refine bGo hA 2 1 (59, .iload_n 3, 1, 34, 0, [3], []) rfl rfl rfl ?_
      refine bGo hA 2 2 (60, .iconst (1), 1, 35, 0, [], [(1, 0)]) rfl rfl rfl ?_
      refine bGo hA 2 3 (61, .isub, 1, 36, 0, [], []) rfl rfl rfl ?_
      refine bGo hA 2 4 (62, .invokestatic 294, 3, 37, 1, [2, 140, 2], []) rfl rfl rfl ?_
      refine hC _ _ _ _ _ (bRi_e (fun r11 s9 k10 => ?_)) k7
      show A (37, [.ref 5, v1, .int l2, .int l3, .int l4, .ref r8, v6, v7], [.int r11], s9)
      refine bGo hA 2 5 (65, .istore 6, 2, 38, 0, [6], []) rfl rfl rfl ?_
      refine bGo hA 2 6 (67, .iload 6, 2, 39, 0, [6], []) rfl rfl rfl ?_
      refine bGo hA 2 7 (69, .aload 5, 2, 40, 0, [5], []) rfl rfl rfl ?_
      refine bGo hA 2 8 (71, .getfield 136, 3, 41, 0, [0, 1, 0, 0, 0, 0], []) rfl rfl rfl ?_
      refine ⟨k10.1, ?_⟩
      refine bGo hA 2 9 (74, .if_icmp .lt (43), 3, 42, 61, [], []) rfl rfl rfl ?_
      refine ⟨fun c12 => ?_, fun c12 => ?_⟩
      · refine bGo hA 3 13 (117, .aload_n 0, 1, 62, 0, [0], []) rfl rfl rfl ?_
        refine bGo hA 3 14 (118, .getfield 48, 3, 63, 0, [5, 12, 3, 26, 1, 0], []) rfl rfl rfl ?_
        refine ⟨rfl, ?_⟩
        refine bGo hA 3 15 (121, .iload_n 3, 1, 64, 0, [3], []) rfl rfl rfl ?_
        refine bGo hA 4 0 (122, .iconst (1), 1, 65, 0, [], [(1, 0)]) rfl rfl rfl ?_
        refine bGo hA 4 1 (123, .isub, 1, 66, 0, [], []) rfl rfl rfl ?_
        refine bGo hA 4 2 (124, .iload 6, 2, 67, 0, [6], []) rfl rfl rfl ?_
        refine bGo hA 4 3 (126, .iconst (1), 1, 68, 0, [], [(1, 0)]) rfl rfl rfl ?_
        refine bGo hA 4 4 (127, .iadd, 1, 69, 0, [], []) rfl rfl rfl ?_
        refine bGo hA 4 5 (128, .invokestatic 246, 3, 70, 1, [2, 141, 3], []) rfl rfl rfl ?_
        refine hC _ _ _ _ _ (bRv_e (fun s13 k14 => ?_)) (k10.2.1 c12)
        show A (70, [.ref 5, v1, .int l2, .int l3, .int l4, .ref r8, .int r11, v7], [], s13)
        refine bGo hA 4 6 (131, .aload 5, 2, 71, 0, [5], []) rfl rfl rfl ?_
        refine bGo hA 4 7 (133, .iload 6, 2, 72, 0, [6], []) rfl rfl rfl ?_
        refine bGo hA 4 8 (135, .invokevirtual 139, 3, 73, 0, [0, 0, 5, 1], []) rfl rfl rfl ?_
        refine ⟨k10.1, ?_⟩
        refine hC _ _ _ _ _ (bRi_e (fun r17 s15 k16 => ?_)) k14
        show A (73, [.ref 5, v1, .int l2, .int l3, .int l4, .ref r8, .int r11, v7], [.int r17], s15)
        refine bGo hA 4 9 (138, .istore 7, 2, 74, 0, [7], []) rfl rfl rfl ?_
        refine bGo hA 4 10 (140, .iload 7, 2, 75, 0, [7], []) rfl rfl rfl ?_
        refine bGo hA 4 11 (142, .iconst (-1), 1, 76, 0, [], [(-1, 0)]) rfl rfl rfl ?_
        refine bGo hA 4 12 (143, .if_icmp .eq (117), 3, 77, 126, [], []) rfl rfl rfl ?_
        refine ⟨fun c18 => ?_, fun c18 => ?_⟩
        · refine bGo hA 7 14 (260, .iinc 4 (1), 3, 127, 0, [4], [(1, 0)]) rfl rfl rfl ?_
          refine bGo hA 7 15 (263, .goto (-238), 3, 128, 16, [], []) rfl rfl rfl ?_
          exact (k16.1 c18)
        · refine bGo hA 4 13 (146, .aload_n 0, 1, 78, 0, [0], []) rfl rfl rfl ?_
          refine bGo hA 4 14 (147, .getfield 14, 3, 79, 0, [5, 2, 3, 1, 0, 0], []) rfl rfl rfl ?_
          refine ⟨rfl, ?_⟩
          refine bGo hA 4 15 (150, .aload_n 0, 1, 80, 0, [0], []) rfl rfl rfl ?_
          refine bGo hA 5 0 (151, .getfield 55, 3, 81, 0, [5, 1, 3, 6, 0, 0], []) rfl rfl rfl ?_
          refine ⟨rfl, ?_⟩
          refine bGo hA 5 1 (154, .iload 7, 2, 82, 0, [7], []) rfl rfl rfl ?_
          refine bGo hA 5 2 (156, .invokevirtual 113, 3, 83, 0, [0, 6, 89, 1], []) rfl rfl rfl ?_
          refine ⟨rfl, ?_⟩
          refine hC _ _ _ _ _ (bRa_e (fun r21 s19 k20 => ?_)) (k16.2 c18)
          show A (83, [.ref 5, v1, .int l2, .int l3, .int l4, .ref r8, .int r11, .int r17], [.ref r21, .ref 1], s19)
          refine bGo hA 5 3 (159, .getfield 175, 3, 84, 0, [0, 3, 3, 4, 2, 0], []) rfl rfl rfl ?_
          refine ⟨k20.1, ?_⟩
          refine bGo hA 5 4 (162, .getfield 212, 3, 85, 0, [4, 8, 0, 0, 0, 0], []) rfl rfl rfl ?_
          refine ⟨k20.2.1, ?_⟩
          refine bGo hA 5 5 (165, .invokevirtual 298, 3, 86, 0, [0, 1, 20, 1], []) rfl rfl rfl ?_
          refine ⟨rfl, ?_⟩
          refine hC _ _ _ _ _ (bRi_e (fun r24 s22 k23 => ?_)) k20.2.2
          show A (86, [.ref 5, v1, .int l2, .int l3, .int l4, .ref r8, .int r11, .int r17], [.int r24], s22)
          refine bGo hA 5 6 (168, .ifCond .eq (6), 3, 87, 88, [], []) rfl rfl rfl ?_
          refine ⟨fun c25 => ?_, fun c25 => ?_⟩
          · refine bGo hA 5 8 (174, .aload_n 0, 1, 89, 0, [0], []) rfl rfl rfl ?_
            refine bGo hA 5 9 (175, .getfield 30, 3, 90, 0, [5, 5, 1, 0, 0, 0], []) rfl rfl rfl ?_
            refine ⟨rfl, ?_⟩
            refine bGo hA 5 10 (178, .ifCond .eq (60), 3, 91, 115, [], []) rfl rfl rfl ?_
            refine ⟨fun c26 => ?_, fun c26 => ?_⟩
            · refine bGo hA 7 3 (238, .aload_n 0, 1, 116, 0, [0], []) rfl rfl rfl ?_
              refine bGo hA 7 4 (239, .getfield 45, 3, 117, 0, [5, 11, 3, 25, 1, 0], []) rfl rfl rfl ?_
              refine ⟨rfl, ?_⟩
              refine bGo hA 7 5 (242, .iload_n 3, 1, 118, 0, [3], []) rfl rfl rfl ?_
              refine bGo hA 7 6 (243, .iload 7, 2, 119, 0, [7], []) rfl rfl rfl ?_
              refine bGo hA 7 7 (245, .invokestatic 246, 3, 120, 1, [2, 141, 3], []) rfl rfl rfl ?_
              refine hC _ _ _ _ _ (bRv_e (fun s27 k28 => ?_)) ((k23.1 c25).1 c26)
              show A (120, [.ref 5, v1, .int l2, .int l3, .int l4, .ref r8, .int r11, .int r17], [], s27)
              refine bGo hA 7 8 (248, .aload_n 0, 1, 121, 0, [0], []) rfl rfl rfl ?_
              refine bGo hA 7 9 (249, .getfield 48, 3, 122, 0, [5, 12, 3, 26, 1, 0], []) rfl rfl rfl ?_
              refine ⟨rfl, ?_⟩
              refine bGo hA 7 10 (252, .iload_n 3, 1, 123, 0, [3], []) rfl rfl rfl ?_
              refine bGo hA 7 11 (253, .iconst (0), 1, 124, 0, [], [(0, 0)]) rfl rfl rfl ?_
              refine bGo hA 7 12 (254, .invokestatic 246, 3, 125, 1, [2, 141, 3], []) rfl rfl rfl ?_
              refine hC _ _ _ _ _ (bRv_e (fun s29 k30 => ?_)) k28
              show A (125, [.ref 5, v1, .int l2, .int l3, .int l4, .ref r8, .int r11, .int r17], [], s29)
              refine bGo hA 7 13 (257, .iinc 3 (1), 3, 126, 0, [3], [(1, 0)]) rfl rfl rfl ?_
              refine bGo hA 7 14 (260, .iinc 4 (1), 3, 127, 0, [4], [(1, 0)]) rfl rfl rfl ?_
              refine bGo hA 7 15 (263, .goto (-238), 3, 128, 16, [], []) rfl rfl rfl ?_
              exact k30
            · refine bGo hA 5 11 (181, .aload_n 0, 1, 92, 0, [0], []) rfl rfl rfl ?_
              refine bGo hA 5 12 (182, .getfield 20, 3, 93, 0, [5, 3, 3, 1, 0, 1], []) rfl rfl rfl ?_
              refine ⟨rfl, ?_⟩
              refine bGo hA 5 13 (185, .aload_n 0, 1, 94, 0, [0], []) rfl rfl rfl ?_
              refine bGo hA 5 14 (186, .getfield 55, 3, 95, 0, [5, 1, 3, 6, 0, 0], []) rfl rfl rfl ?_
              refine ⟨rfl, ?_⟩
              refine bGo hA 5 15 (189, .iload 7, 2, 96, 0, [7], []) rfl rfl rfl ?_
              refine bGo hA 6 0 (191, .invokevirtual 113, 3, 97, 0, [0, 6, 89, 1], []) rfl rfl rfl ?_
              refine ⟨rfl, ?_⟩
              refine hC _ _ _ _ _ (bRa_e (fun r33 s31 k32 => ?_)) ((k23.1 c25).2 c26)
              show A (97, [.ref 5, v1, .int l2, .int l3, .int l4, .ref r8, .int r11, .int r17], [.ref r33, .ref 257], s31)
              refine bGo hA 6 1 (194, .getfield 175, 3, 98, 0, [0, 3, 3, 4, 2, 0], []) rfl rfl rfl ?_
              refine ⟨k32.1, ?_⟩
              refine bGo hA 6 2 (197, .getfield 212, 3, 99, 0, [4, 8, 0, 0, 0, 0], []) rfl rfl rfl ?_
              refine ⟨k32.2.1, ?_⟩
              refine bGo hA 6 3 (200, .invokevirtual 298, 3, 100, 0, [0, 1, 20, 1], []) rfl rfl rfl ?_
              refine ⟨rfl, ?_⟩
              refine hC _ _ _ _ _ (bRi_e (fun r36 s34 k35 => ?_)) k32.2.2
              show A (100, [.ref 5, v1, .int l2, .int l3, .int l4, .ref r8, .int r11, .int r17], [.int r36], s34)
              refine bGo hA 6 4 (203, .ifCond .eq (35), 3, 101, 115, [], []) rfl rfl rfl ?_
              refine ⟨fun c37 => ?_, fun c37 => ?_⟩
              · refine bGo hA 7 3 (238, .aload_n 0, 1, 116, 0, [0], []) rfl rfl rfl ?_
                refine bGo hA 7 4 (239, .getfield 45, 3, 117, 0, [5, 11, 3, 25, 1, 0], []) rfl rfl rfl ?_
                refine ⟨rfl, ?_⟩
                refine bGo hA 7 5 (242, .iload_n 3, 1, 118, 0, [3], []) rfl rfl rfl ?_
                refine bGo hA 7 6 (243, .iload 7, 2, 119, 0, [7], []) rfl rfl rfl ?_
                refine bGo hA 7 7 (245, .invokestatic 246, 3, 120, 1, [2, 141, 3], []) rfl rfl rfl ?_
                refine hC _ _ _ _ _ (bRv_e (fun s38 k39 => ?_)) (k35.1 c37)
                show A (120, [.ref 5, v1, .int l2, .int l3, .int l4, .ref r8, .int r11, .int r17], [], s38)
                refine bGo hA 7 8 (248, .aload_n 0, 1, 121, 0, [0], []) rfl rfl rfl ?_
                refine bGo hA 7 9 (249, .getfield 48, 3, 122, 0, [5, 12, 3, 26, 1, 0], []) rfl rfl rfl ?_
                refine ⟨rfl, ?_⟩
                refine bGo hA 7 10 (252, .iload_n 3, 1, 123, 0, [3], []) rfl rfl rfl ?_
                refine bGo hA 7 11 (253, .iconst (0), 1, 124, 0, [], [(0, 0)]) rfl rfl rfl ?_
                refine bGo hA 7 12 (254, .invokestatic 246, 3, 125, 1, [2, 141, 3], []) rfl rfl rfl ?_
                refine hC _ _ _ _ _ (bRv_e (fun s40 k41 => ?_)) k39
                show A (125, [.ref 5, v1, .int l2, .int l3, .int l4, .ref r8, .int r11, .int r17], [], s40)
                refine bGo hA 7 13 (257, .iinc 3 (1), 3, 126, 0, [3], [(1, 0)]) rfl rfl rfl ?_
                refine bGo hA 7 14 (260, .iinc 4 (1), 3, 127, 0, [4], [(1, 0)]) rfl rfl rfl ?_
                refine bGo hA 7 15 (263, .goto (-238), 3, 128, 16, [], []) rfl rfl rfl ?_
                exact k41
              · refine bGo hA 6 5 (206, .aload_n 0, 1, 102, 0, [0], []) rfl rfl rfl ?_
                refine bGo hA 6 6 (207, .getfield 14, 3, 103, 0, [5, 2, 3, 1, 0, 0], []) rfl rfl rfl ?_
                refine ⟨rfl, ?_⟩
                refine bGo hA 6 7 (210, .aload_n 0, 1, 104, 0, [0], []) rfl rfl rfl ?_
                refine bGo hA 6 8 (211, .getfield 55, 3, 105, 0, [5, 1, 3, 6, 0, 0], []) rfl rfl rfl ?_
                refine ⟨rfl, ?_⟩
                refine bGo hA 6 9 (214, .iload 7, 2, 106, 0, [7], []) rfl rfl rfl ?_
                refine bGo hA 6 10 (216, .invokevirtual 113, 3, 107, 0, [0, 6, 89, 1], []) rfl rfl rfl ?_
                refine ⟨rfl, ?_⟩
                refine hC _ _ _ _ _ (bRa_e (fun r44 s42 k43 => ?_)) (k35.2 c37)
                show A (107, [.ref 5, v1, .int l2, .int l3, .int l4, .ref r8, .int r11, .int r17], [.ref r44, .ref 1], s42)
                refine bGo hA 6 11 (219, .getfield 175, 3, 108, 0, [0, 3, 3, 4, 2, 0], []) rfl rfl rfl ?_
                refine ⟨k43.1, ?_⟩
                refine bGo hA 6 12 (222, .getfield 212, 3, 109, 0, [4, 8, 0, 0, 0, 0], []) rfl rfl rfl ?_
                refine ⟨k43.2.1, ?_⟩
                refine bGo hA 6 13 (225, .invokevirtual 124, 3, 110, 0, [0, 1, 21, 1], []) rfl rfl rfl ?_
                refine ⟨rfl, ?_⟩
                refine hC _ _ _ _ _ (bRv_e (fun s45 k46 => ?_)) k43.2.2
                show A (110, [.ref 5, v1, .int l2, .int l3, .int l4, .ref r8, .int r11, .int r17], [], s45)
                refine bGo hA 6 14 (228, .aload_n 0, 1, 111, 0, [0], []) rfl rfl rfl ?_
                refine bGo hA 6 15 (229, .bipush (10), 2, 112, 0, [], [(10, 0)]) rfl rfl rfl ?_
                refine bGo hA 7 0 (231, .iconst (1), 1, 113, 0, [], [(1, 0)]) rfl rfl rfl ?_
                refine bGo hA 7 1 (232, .invokevirtual 210, 3, 114, 0, [0, 5, 54, 2], []) rfl rfl rfl ?_
                refine ⟨rfl, ?_⟩
                refine hC _ _ _ _ _ (bRv_e (fun s47 k48 => ?_)) k46
                show A (114, [.ref 5, v1, .int l2, .int l3, .int l4, .ref r8, .int r11, .int r17], [], s47)
                refine bGo hA 7 2 (235, .goto (25), 3, 115, 126, [], []) rfl rfl rfl ?_
                refine bGo hA 7 14 (260, .iinc 4 (1), 3, 127, 0, [4], [(1, 0)]) rfl rfl rfl ?_
                refine bGo hA 7 15 (263, .goto (-238), 3, 128, 16, [], []) rfl rfl rfl ?_
                exact k48
          · refine bGo hA 5 7 (171, .goto (89), 3, 88, 126, [], []) rfl rfl rfl ?_
            refine bGo hA 7 14 (260, .iinc 4 (1), 3, 127, 0, [4], [(1, 0)]) rfl rfl rfl ?_
            refine bGo hA 7 15 (263, .goto (-238), 3, 128, 16, [], []) rfl rfl rfl ?_
            exact (k23.2 c25)
      · refine bGo hA 2 10 (77, .iinc 3 (-1), 3, 43, 0, [3], [(-1, 0)]) rfl rfl rfl ?_
        refine bGo hA 2 11 (80, .iload_n 3, 1, 44, 0, [3], []) rfl rfl rfl ?_
        refine bGo hA 2 12 (81, .ifCond .le (179), 3, 45, 126, [], []) rfl rfl rfl ?_
        refine ⟨fun c49 => ?_, fun c49 => ?_⟩
        · refine bGo hA 2 13 (84, .aload_n 0, 1, 46, 0, [0], []) rfl rfl rfl ?_
          refine bGo hA 2 14 (85, .getfield 14, 3, 47, 0, [5, 2, 3, 1, 0, 0], []) rfl rfl rfl ?_
          refine ⟨rfl, ?_⟩
          refine bGo hA 2 15 (88, .aload 5, 2, 48, 0, [5], []) rfl rfl rfl ?_
          refine bGo hA 3 0 (90, .getfield 175, 3, 49, 0, [0, 3, 3, 4, 2, 0], []) rfl rfl rfl ?_
          refine ⟨k10.1, ?_⟩
          refine bGo hA 3 1 (93, .getfield 212, 3, 50, 0, [4, 8, 0, 0, 0, 0], []) rfl rfl rfl ?_
          refine ⟨((k10.2.2 c12).1 c49).1, ?_⟩
          refine bGo hA 3 2 (96, .invokevirtual 124, 3, 51, 0, [0, 1, 21, 1], []) rfl rfl rfl ?_
          refine ⟨rfl, ?_⟩
          refine hC _ _ _ _ _ (bRv_e (fun s50 k51 => ?_)) ((k10.2.2 c12).1 c49).2
          show A (51, [.ref 5, v1, .int l2, .int (l3 + (-1)), .int l4, .ref r8, .int r11, v7], [], s50)
          refine bGo hA 3 3 (99, .aload_n 0, 1, 52, 0, [0], []) rfl rfl rfl ?_
          refine bGo hA 3 4 (100, .bipush (9), 2, 53, 0, [], [(9, 0)]) rfl rfl rfl ?_
          refine bGo hA 3 5 (102, .iconst (1), 1, 54, 0, [], [(1, 0)]) rfl rfl rfl ?_
          refine bGo hA 3 6 (103, .invokevirtual 210, 3, 55, 0, [0, 5, 54, 2], []) rfl rfl rfl ?_
          refine ⟨rfl, ?_⟩
          refine hC _ _ _ _ _ (bRv_e (fun s52 k53 => ?_)) k51
          show A (55, [.ref 5, v1, .int l2, .int (l3 + (-1)), .int l4, .ref r8, .int r11, v7], [], s52)
          refine bGo hA 3 7 (106, .iload_n 2, 1, 56, 0, [2], []) rfl rfl rfl ?_
          refine bGo hA 3 8 (107, .aload 5, 2, 57, 0, [5], []) rfl rfl rfl ?_
          refine bGo hA 3 9 (109, .getfield 130, 3, 58, 0, [0, 7, 0, 0, 0, 0], []) rfl rfl rfl ?_
          refine ⟨k10.1, ?_⟩
          refine bGo hA 3 10 (112, .iadd, 1, 59, 0, [], []) rfl rfl rfl ?_
          refine bGo hA 3 11 (113, .istore_n 2, 1, 60, 0, [2], []) rfl rfl rfl ?_
          refine bGo hA 3 12 (114, .goto (146), 3, 61, 126, [], []) rfl rfl rfl ?_
          refine bGo hA 7 14 (260, .iinc 4 (1), 3, 127, 0, [4], [(1, 0)]) rfl rfl rfl ?_
          refine bGo hA 7 15 (263, .goto (-238), 3, 128, 16, [], []) rfl rfl rfl ?_
          exact k53
        · refine bGo hA 7 14 (260, .iinc 4 (1), 3, 127, 0, [4], [(1, 0)]) rfl rfl rfl ?_
          refine bGo hA 7 15 (263, .goto (-238), 3, 128, 16, [], []) rfl rfl rfl ?_
          exact ((k10.2.2 c12).2 c49)
    · refine bGo hA 8 0 (266, .iload_n 2, 1, 129, 0, [2], []) rfl rfl rfl ?_
      refine bGo hA 8 1 (267, .ireturn, 1, 0, 0, [1], []) rfl rfl rfl ?_
      exact ((h.1 c1).2 c2)
  · refine bGo hA 8 0 (266, .iload_n 2, 1, 129, 0, [2], []) rfl rfl rfl ?_
    refine bGo hA 8 1 (267, .ireturn, 1, 0, 0, [1], []) rfl rfl rfl ?_
    exact (h.2 c1)

theorem sg63_0 {lvl : Nat} {C : bCall} {Q : bPost} {A : bPt → Prop} (hC : bMono C) (hA : bClosed lvl bm63 C Q A)  {σ : bSt} 
  (h : (C 141 [.ref 24, .int 0, .int (σ.1 5 9)] σ (bRv (fun s1 => A (8, [.ref 5, .int 0, .float 0], [], s1))))) : A (0, [.ref 5, .float 0, .float 0], [], σ) := by
  refine bGo hA 0 0 (0, .aload_n 0, 1, 1, 0, [0], []) rfl rfl rfl ?_
  refine bGo hA 0 1 (1, .getfield 38, 3, 2, 0, [5, 7, 3, 24, 1, 0], []) rfl rfl rfl ?_
  refine ⟨rfl, ?_⟩
  refine bGo hA 0 2 (4, .iconst (0), 1, 3, 0, [], [(0, 0)]) rfl rfl rfl ?_
  refine bGo hA 0 3 (5, .aload_n 0, 1, 4, 0, [0], []) rfl rfl rfl ?_
  refine bGo hA 0 4 (6, .getfield 104, 3, 5, 0, [5, 9, 0, 0, 0, 0], []) rfl rfl rfl ?_
  refine ⟨rfl, ?_⟩
  refine bGo hA 0 5 (9, .invokestatic 246, 3, 6, 1, [2, 141, 3], []) rfl rfl rfl ?_
  refine hC _ _ _ _ _ (bRv_e (fun s1 k2 => ?_)) h
  show A (6, [.ref 5, .float 0, .float 0], [], s1)
  refine bGo hA 0 6 (12, .iconst (0), 1, 7, 0, [], [(0, 0)]) rfl rfl rfl ?_
  refine bGo hA 0 7 (13, .istore_n 1, 1, 8, 0, [1], []) rfl rfl rfl ?_
  exact k2

theorem sg63_8 {lvl : Nat} {C : bCall} {Q : bPost} {A : bPt → Prop} (hC : bMono C) (hA : bClosed lvl bm63 C Q A) {l1 : Int32} {v2 : Value} {σ : bSt} 
  (h : ((l1 < (σ.1 6 13) → (C 89 [.ref 6, .int l1] σ (bRa (fun r4 s2 => (r4 % 256 = 0 ∧ (((s2.1 r4 5) = 0 → A (8, [.ref 5, .int (l1 + 1), .ref r4], [], s2)) ∧ (¬ (s2.1 r4 5) = 0 → (((s2.1 r4 10) = (-1) → (C 54 [.ref 5, .int (1 + ((bI s2 r4 10 6).1 r4 10)), .int 1] (bI s2 r4 10 6) (bRv (fun s7 => A (8, [.ref 5, .int (l1 + 1), .ref r4], [], s7))))) ∧ (¬ (s2.1 r4 10) = (-1) → (C 54 [.ref 5, .int (1 + ((bI s2 r4 10 (s2.1 r4 10)).1 r4 10)), .int 1] (bI s2 r4 10 (s2.1 r4 10)) (bRv (fun s9 => A (8, [.ref 5, .int (l1 + 1), .ref r4], [], s9))))))))))))) ∧ (¬ l1 < (σ.1 6 13) → Q (.inl none) σ))) : A (8, [.ref 5, .int l1, v2], [], σ) := by
  refine bGo hA 0 8 (14, .iload_n 1, 1, 9, 0, [1], []) rfl rfl rfl ?_
  refine bGo hA 0 9 (15, .aload_n 0, 1, 10, 0, [0], []) rfl rfl rfl ?_
  refine bGo hA 0 10 (16, .getfield 55, 3, 11, 0, [5, 1, 3, 6, 0, 0], []) rfl rfl rfl ?_
  refine ⟨rfl, ?_⟩
  refine bGo hA 0 11 (19, .getfield 110, 3, 12, 0, [6, 13, 0, 0, 0, 0], []) rfl rfl rfl ?_
  refine ⟨rfl, ?_⟩
  refine bGo hA 0 12 (22, .if_icmp .ge (57), 3, 13, 40, [], []) rfl rfl rfl ?_
  refine ⟨fun c1 => ?_, fun c1 => ?_⟩
  · refine bGo hA 0 13 (25, .aload_n 0, 1, 14, 0, [0], []) rfl rfl rfl ?_
    refine bGo hA 0 14 (26, .getfield 55, 3, 15, 0, [5, 1, 3, 6, 0, 0], []) rfl rfl rfl ?_
    refine ⟨rfl, ?_⟩
    refine bGo hA 0 15 (29, .iload_n 1, 1, 16, 0, [1], []) rfl rfl rfl ?_
    refine bGo hA 1 0 (30, .invokevirtual 113, 3, 17, 0, [0, 6, 89, 1], []) rfl rfl rfl ?_
    refine ⟨rfl, ?_⟩
    refine hC _ _ _ _ _ (bRa_e (fun r4 s2 k3 => ?_)) (h.1 c1)
    show A (17, [.ref 5, .int l1, v2], [.ref r4], s2)
    refine bGo hA 1 1 (33, .astore_n 2, 1, 18, 0, [2], []) rfl rfl rfl ?_
    refine bGo hA 1 2 (34, .aload_n 2, 1, 19, 0, [2], []) rfl rfl rfl ?_
    refine bGo hA 1 3 (35, .getfield 133, 3, 20, 0, [0, 5, 1, 0, 0, 0], []) rfl rfl rfl ?_
    refine ⟨k3.1, ?_⟩
    refine bGo hA 1 4 (38, .ifCond .eq (35), 3, 21, 38, [], []) rfl rfl rfl ?_
    refine ⟨fun c5 => ?_, fun c5 => ?_⟩
    · refine bGo hA 2 6 (73, .iinc 1 (1), 3, 39, 0, [1], [(1, 0)]) rfl rfl rfl ?_
      refine bGo hA 2 7 (76, .goto (-62), 3, 40, 8, [], []) rfl rfl rfl ?_
      exact (k3.2.1 c5)
    · refine bGo hA 1 5 (41, .aload_n 2, 1, 22, 0, [2], []) rfl rfl rfl ?_
      refine bGo hA 1 6 (42, .aload_n 2, 1, 23, 0, [2], []) rfl rfl rfl ?_
      refine bGo hA 1 7 (43, .getfield 193, 3, 24, 0, [0, 10, 0, 0, 0, 0], []) rfl rfl rfl ?_
      refine ⟨k3.1, ?_⟩
      refine bGo hA 1 8 (46, .iconst (-1), 1, 25, 0, [], [(-1, 0)]) rfl rfl rfl ?_
      refine bGo hA 1 9 (47, .if_icmp .ne (8), 3, 26, 28, [], []) rfl rfl rfl ?_
      refine ⟨fun c6 => ?_, fun c6 => ?_⟩
      · refine bGo hA 1 10 (50, .bipush (6), 2, 27, 0, [], [(6, 0)]) rfl rfl rfl ?_
        refine bGo hA 1 11 (52, .goto (7), 3, 28, 30, [], []) rfl rfl rfl ?_
        refine bGo hA 1 14 (59, .putfield 193, 3, 31, 0, [0, 10, 0, 0, 0, 0], []) rfl rfl rfl ?_
        refine ⟨k3.1, ?_⟩
        refine bGo hA 1 15 (62, .aload_n 0, 1, 32, 0, [0], []) rfl rfl rfl ?_
        refine bGo hA 2 0 (63, .iconst (1), 1, 33, 0, [], [(1, 0)]) rfl rfl rfl ?_
        refine bGo hA 2 1 (64, .aload_n 2, 1, 34, 0, [2], []) rfl rfl rfl ?_
        refine bGo hA 2 2 (65, .getfield 193, 3, 35, 0, [0, 10, 0, 0, 0, 0], []) rfl rfl rfl ?_
        refine ⟨k3.1, ?_⟩
        refine bGo hA 2 3 (68, .iadd, 1, 36, 0, [], []) rfl rfl rfl ?_
        refine bGo hA 2 4 (69, .iconst (1), 1, 37, 0, [], [(1, 0)]) rfl rfl rfl ?_
        refine bGo hA 2 5 (70, .invokevirtual 210, 3, 38, 0, [0, 5, 54, 2], []) rfl rfl rfl ?_
        refine ⟨rfl, ?_⟩
        refine hC _ _ _ _ _ (bRv_e (fun s7 k8 => ?_)) ((k3.2.2 c5).1 c6)
        show A (38, [.ref 5, .int l1, .ref r4], [], s7)
        refine bGo hA 2 6 (73, .iinc 1 (1), 3, 39, 0, [1], [(1, 0)]) rfl rfl rfl ?_
        refine bGo hA 2 7 (76, .goto (-62), 3, 40, 8, [], []) rfl rfl rfl ?_
        exact k8
      · refine bGo hA 1 12 (55, .aload_n 2, 1, 29, 0, [2], []) rfl rfl rfl ?_
        refine bGo hA 1 13 (56, .getfield 193, 3, 30, 0, [0, 10, 0, 0, 0, 0], []) rfl rfl rfl ?_
        refine ⟨k3.1, ?_⟩
        refine bGo hA 1 14 (59, .putfield 193, 3, 31, 0, [0, 10, 0, 0, 0, 0], []) rfl rfl rfl ?_
        refine ⟨k3.1, ?_⟩
        refine bGo hA 1 15 (62, .aload_n 0, 1, 32, 0, [0], []) rfl rfl rfl ?_
        refine bGo hA 2 0 (63, .iconst (1), 1, 33, 0, [], [(1, 0)]) rfl rfl rfl ?_
        refine bGo hA 2 1 (64, .aload_n 2, 1, 34, 0, [2], []) rfl rfl rfl ?_
        refine bGo hA 2 2 (65, .getfield 193, 3, 35, 0, [0, 10, 0, 0, 0, 0], []) rfl rfl rfl ?_
        refine ⟨k3.1, ?_⟩
        refine bGo hA 2 3 (68, .iadd, 1, 36, 0, [], []) rfl rfl rfl ?_
        refine bGo hA 2 4 (69, .iconst (1), 1, 37, 0, [], [(1, 0)]) rfl rfl rfl ?_
        refine bGo hA 2 5 (70, .invokevirtual 210, 3, 38, 0, [0, 5, 54, 2], []) rfl rfl rfl ?_
        refine ⟨rfl, ?_⟩
        refine hC _ _ _ _ _ (bRv_e (fun s9 k10 => ?_)) ((k3.2.2 c5).2 c6)
        show A (38, [.ref 5, .int l1, .ref r4], [], s9)
        refine bGo hA 2 6 (73, .iinc 1 (1), 3, 39, 0, [1], [(1, 0)]) rfl rfl rfl ?_
        refine bGo hA 2 7 (76, .goto (-62), 3, 40, 8, [], []) rfl rfl rfl ?_
        exact k10
  · refine bGo hA 2 8 (79, .return_, 1, 0, 0, [0], []) rfl rfl rfl ?_
    exact (h.2 c1)

theorem sg64_0 {lvl : Nat} {C : bCall} {Q : bPost} {A : bPt → Prop} (hC : bMono C) (hA : bClosed lvl bm64 C Q A) {x1 : Int32} {σ : bSt} 
  (h : (C 65 [.ref 5] σ (bRi (fun r3 s1 => A (5, [.ref 5, .int x1, .int r3, .int 0], [], s1))))) : A (0, [.ref 5, .int x1, .float 0, .float 0], [], σ) := by
  refine bGo hA 0 0 (0, .aload_n 0, 1, 1, 0, [0], []) rfl rfl rfl ?_
  refine bGo hA 0 1 (1, .invokevirtual 301, 3, 2, 0, [0, 5, 65, 0], []) rfl rfl rfl ?_
  refine ⟨rfl, ?_⟩
  refine hC _ _ _ _ _ (bRi_e (fun r3 s1 k2 => ?_)) h
  show A (2, [.ref 5, .int x1, .float 0, .float 0], [.int r3], s1)
  refine bGo hA 0 2 (4, .istore_n 2, 1, 3, 0, [2], []) rfl rfl rfl ?_
  refine bGo hA 0 3 (5, .iconst (0), 1, 4, 0, [], [(0, 0)]) rfl rfl rfl ?_
  refine bGo hA 0 4 (6, .istore_n 3, 1, 5, 0, [3], []) rfl rfl rfl ?_
  exact k2

theorem sg64_5 {lvl : Nat} {C : bCall} {Q : bPost} {A : bPt → Prop} (hC : bMono C) (hA : bClosed lvl bm64 C Q A) {l1 : Int32} {l2 : Int32} {l3 : Int32} {σ : bSt} 
  (h : ((l3 < l1 → ((l2 = (-1) → Q (.inl (some (.int l2))) σ) ∧ (¬ l2 = (-1) → (C 89 [.ref 6, .int l2] σ (bRa (fun r5 s3 => (C 66 [.ref 5, .ref r5] s3 (bRi (fun r8 s6 => A (5, [.ref 5, .int l1, .int r8, .int (l3 + 1)], [], s6)))))))))) ∧ (¬ l3 < l1 → Q (.inl (some (.int l2))) σ))) : A (5, [.ref 5, .int l1, .int l2, .int l3], [], σ) := by
  refine bGo hA 0 5 (7, .iload_n 3, 1, 6, 0, [3], []) rfl rfl rfl ?_
  refine bGo hA 0 6 (8, .iload_n 1, 1, 7, 0, [1], []) rfl rfl rfl ?_
  refine bGo hA 0 7 (9, .if_icmp .ge (27), 3, 8, 20, [], []) rfl rfl rfl ?_
  refine ⟨fun c1 => ?_, fun c1 => ?_⟩
  · refine bGo hA 0 8 (12, .iload_n 2, 1, 9, 0, [2], []) rfl rfl rfl ?_
    refine bGo hA 0 9 (13, .iconst (-1), 1, 10, 0, [], [(-1, 0)]) rfl rfl rfl ?_
    refine bGo hA 0 10 (14, .if_icmp .eq (22), 3, 11, 20, [], []) rfl rfl rfl ?_
    refine ⟨fun c2 => ?_, fun c2 => ?_⟩
    · refine bGo hA 1 4 (36, .iload_n 2, 1, 21, 0, [2], []) rfl rfl rfl ?_
      refine bGo hA 1 5 (37, .ireturn, 1, 0, 0, [1], []) rfl rfl rfl ?_
      exact ((h.1 c1).1 c2)
    · refine bGo hA 0 11 (17, .aload_n 0, 1, 12, 0, [0], []) rfl rfl rfl ?_
      refine bGo hA 0 12 (18, .aload_n 0, 1, 13, 0, [0], []) rfl rfl rfl ?_
      refine bGo hA 0 13 (19, .getfield 55, 3, 14, 0, [5, 1, 3, 6, 0, 0], []) rfl rfl rfl ?_
      refine ⟨rfl, ?_⟩
      refine bGo hA 0 14 (22, .iload_n 2, 1, 15, 0, [2], []) rfl rfl rfl ?_
      refine bGo hA 0 15 (23, .invokevirtual 113, 3, 16, 0, [0, 6, 89, 1], []) rfl rfl rfl ?_
      refine ⟨rfl, ?_⟩
      refine hC _ _ _ _ _ (bRa_e (fun r5 s3 k4 => ?_)) ((h.1 c1).2 c2)
      show A (16, [.ref 5, .int l1, .int l2, .int l3], [.ref r5, .ref 5], s3)
      refine bGo hA 1 0 (26, .invokevirtual 304, 3, 17, 0, [0, 5, 66, 1], []) rfl rfl rfl ?_
      refine ⟨rfl, ?_⟩
      refine hC _ _ _ _ _ (bRi_e (fun r8 s6 k7 => ?_)) k4
      show A (17, [.ref 5, .int l1, .int l2, .int l3], [.int r8], s6)
      refine bGo hA 1 1 (29, .istore_n 2, 1, 18, 0, [2], []) rfl rfl rfl ?_
      refine bGo hA 1 2 (30, .iinc 3 (1), 3, 19, 0, [3], [(1, 0)]) rfl rfl rfl ?_
      refine bGo hA 1 3 (33, .goto (-26), 3, 20, 5, [], []) rfl rfl rfl ?_
      exact k7
  · refine bGo hA 1 4 (36, .iload_n 2, 1, 21, 0, [2], []) rfl rfl rfl ?_
    refine bGo hA 1 5 (37, .ireturn, 1, 0, 0, [1], []) rfl rfl rfl ?_
    exact (h.2 c1)

theorem sg65_0 {lvl : Nat} {C : bCall} {Q : bPost} {A : bPt → Prop} (hC : bMono C) (hA : bClosed lvl bm65 C Q A)  {σ : bSt} 
  (h : A (4, [.ref 5, .int (-1), .int 0, .float 0, .float 0], [], σ)) : A (0, [.ref 5, .float 0, .float 0, .float 0, .float 0], [], σ) := by
  refine bGo hA 0 0 (0, .iconst (-1), 1, 1, 0, [], [(-1, 0)]) rfl rfl rfl ?_
  refine bGo hA 0 1 (1, .istore_n 1, 1, 2, 0, [1], []) rfl rfl rfl ?_
  refine bGo hA 0 2 (2, .iconst (0), 1, 3, 0, [], [(0, 0)]) rfl rfl rfl ?_
  refine bGo hA 0 3 (3, .istore_n 2, 1, 4, 0, [2], []) rfl rfl rfl ?_
  exact h

theorem sg65_4 {lvl : Nat} {C : bCall} {Q : bPost} {A : bPt → Prop} (hC : bMono C) (hA : bClosed lvl bm65 C Q A) {l1 : Int32} {l2 : Int32} {v3 : Value} {v4 : Value} {σ : bSt} 
  (h : ((l2 < (σ.1 6 13) → (C 89 [.ref 6, .int l2] σ (bRa (fun r4 s2 => (r4 % 256 = 0 ∧ (C 10 [.ref r4] s2 (bRi (fun r7 s5 => ((r7 = 0 → (((s5.1 r4 10) = 5 → ((l1 = (-1) → A (4, [.ref 5, .int l2, .int (l2 + 1), .ref r4, .int 1], [], s5)) ∧ (¬ l1 = (-1) → (C 89 [.ref 6, .int l1] s5 (bRa (fun r14 s12 => (r14 % 256 = 0 ∧ (((s12.1 r14 12) < (s5.1 r4 12) → A (4, [.ref 5, .int l2, .int (l2 + 1), .ref r4, .int 1], [], s12)) ∧ (¬ (s12.1 r14 12) < (s5.1 r4 12) → A (4, [.ref 5, .int l1, .int (l2 + 1), .ref r4, .int 1], [], s12)))))))))) ∧ (¬ (s5.1 r4 10) = 5 → A (4, [.ref 5, .int l1, .int (l2 + 1), .ref r4, .int 0], [], s5)))) ∧ (¬ r7 = 0 → ((l1 = (-1) → A (4, [.ref 5, .int l2, .int (l2 + 1), .ref r4, .int 1], [], s5)) ∧ (¬ l1 = (-1) → (C 89 [.ref 6, .int l1] s5 (bRa (fun r21 s19 => (r21 % 256 = 0 ∧ (((s19.1 r21 12) < (s5.1 r4 12) → A (4, [.ref 5, .int l2, .int (l2 + 1), .ref r4, .int 1], [], s19)) ∧ (¬ (s19.1 r21 12) < (s5.1 r4 12) → A (4, [.ref 5, .int l1, .int (l2 + 1), .ref r4, .int 1], [], s19))))))))))))))))))) ∧ (¬ l2 < (σ.1 6 13) → Q (.inl (some (.int l1))) σ))) : A (4, [.ref 5, .int l1, .int l2, v3, v4], [], σ) := by
  refine bGo hA 0 4 (4, .iload_n 2, 1, 5, 0, [2], []) rfl rfl rfl ?_
  refine bGo hA 0 5 (5, .aload_n 0, 1, 6, 0, [0], []) rfl rfl rfl ?_
  refine bGo hA 0 6 (6, .getfield 55, 3, 7, 0, [5, 1, 3, 6, 0, 0], []) rfl rfl rfl ?_
  refine ⟨rfl, ?_⟩
  refine bGo hA 0 7 (9, .getfield 110, 3, 8, 0, [6, 13, 0, 0, 0, 0], []) rfl rfl rfl ?_
  refine ⟨rfl, ?_⟩
  refine bGo hA 0 8 (12, .if_icmp .ge (70), 3, 9, 42, [], []) rfl rfl rfl ?_
  refine ⟨fun c1 => ?_, fun c1 => ?_⟩
  · refine bGo hA 0 9 (15, .aload_n 0, 1, 10, 0, [0], []) rfl rfl rfl ?_
    refine bGo hA 0 10 (16, .getfield 55, 3, 11, 0, [5, 1, 3, 6, 0, 0], []) rfl rfl rfl ?_
    refine ⟨rfl, ?_⟩
    refine bGo hA 0 11 (19, .iload_n 2, 1, 12, 0, [2], []) rfl rfl rfl ?_
    refine bGo hA 0 12 (20, .invokevirtual 113, 3, 13, 0, [0, 6, 89, 1], []) rfl rfl rfl ?_
    refine ⟨rfl, ?_⟩
    refine hC _ _ _ _ _ (bRa_e (fun r4 s2 k3 => ?_)) (h.1 c1)
    show A (13, [.ref 5, .int l1, .int l2, v3, v4], [.ref r4], s2)
    refine bGo hA 0 13 (23, .astore_n 3, 1, 14, 0, [3], []) rfl rfl rfl ?_
    refine bGo hA 0 14 (24, .aload_n 3, 1, 15, 0, [3], []) rfl rfl rfl ?_
    refine bGo hA 0 15 (25, .invokevirtual 92, 3, 16, 0, [0, 0, 10, 0], []) rfl rfl rfl ?_
    refine ⟨k3.1, ?_⟩
    refine hC _ _ _ _ _ (bRi_e (fun r7 s5 k6 => ?_)) k3.2
    show A (16, [.ref 5, .int l1, .int l2, .ref r4, v4], [.int r7], s5)
    refine bGo hA 1 0 (28, .ifCond .ne (11), 3, 17, 21, [], []) rfl rfl rfl ?_
    refine ⟨fun c8 => ?_, fun c8 => ?_⟩
    · refine bGo hA 1 1 (31, .aload_n 3, 1, 18, 0, [3], []) rfl rfl rfl ?_
      refine bGo hA 1 2 (32, .getfield 193, 3, 19, 0, [0, 10, 0, 0, 0, 0], []) rfl rfl rfl ?_
      refine ⟨k3.1, ?_⟩
      refine bGo hA 1 3 (35, .iconst (5), 1, 20, 0, [], [(5, 0)]) rfl rfl rfl ?_
      refine bGo hA 1 4 (36, .if_icmp .ne (7), 3, 21, 23, [], []) rfl rfl rfl ?_
      refine ⟨fun c9 => ?_, fun c9 => ?_⟩
      · refine bGo hA 1 5 (39, .iconst (1), 1, 22, 0, [], [(1, 0)]) rfl rfl rfl ?_
        refine bGo hA 1 6 (40, .goto (4), 3, 23, 24, [], []) rfl rfl rfl ?_
        refine bGo hA 1 8 (44, .istore 4, 2, 25, 0, [4], []) rfl rfl rfl ?_
        refine bGo hA 1 9 (46, .iload 4, 2, 26, 0, [4], []) rfl rfl rfl ?_
        refine bGo hA 1 10 (48, .ifCond .eq (28), 3, 27, 40, [], []) rfl rfl rfl ?_
        refine ⟨fun c => absurd c (by decide), fun _ => ?_⟩
        refine bGo hA 1 11 (51, .iload_n 1, 1, 28, 0, [1], []) rfl rfl rfl ?_
        refine bGo hA 1 12 (52, .iconst (-1), 1, 29, 0, [], [(-1, 0)]) rfl rfl rfl ?_
        refine bGo hA 1 13 (53, .if_icmp .eq (21), 3, 30, 38, [], []) rfl rfl rfl ?_
        refine ⟨fun c11 => ?_, fun c11 => ?_⟩
        · refine bGo hA 2 6 (74, .iload_n 2, 1, 39, 0, [2], []) rfl rfl rfl ?_
          refine bGo hA 2 7 (75, .istore_n 1, 1, 40, 0, [1], []) rfl rfl rfl ?_
          refine bGo hA 2 8 (76, .iinc 2 (1), 3, 41, 0, [2], [(1, 0)]) rfl rfl rfl ?_
          refine bGo hA 2 9 (79, .goto (-75), 3, 42, 4, [], []) rfl rfl rfl ?_
          exact (((k6.1 c8).1 c9).1 c11)
        · refine bGo hA 1 14 (56, .aload_n 3, 1, 31, 0, [3], []) rfl rfl rfl ?_
          refine bGo hA 1 15 (57, .getfield 308, 3, 32, 0, [0, 12, 0, 0, 0, 0], []) rfl rfl rfl ?_
          refine ⟨k3.1, ?_⟩
          refine bGo hA 2 0 (60, .aload_n 0, 1, 33, 0, [0], []) rfl rfl rfl ?_
          refine bGo hA 2 1 (61, .getfield 55, 3, 34, 0, [5, 1, 3, 6, 0, 0], []) rfl rfl rfl ?_
          refine ⟨rfl, ?_⟩
          refine bGo hA 2 2 (64, .iload_n 1, 1, 35, 0, [1], []) rfl rfl rfl ?_
          refine bGo hA 2 3 (65, .invokevirtual 113, 3, 36, 0, [0, 6, 89, 1], []) rfl rfl rfl ?_
          refine ⟨rfl, ?_⟩
          refine hC _ _ _ _ _ (bRa_e (fun r14 s12 k13 => ?_)) (((k6.1 c8).1 c9).2 c11)
          show A (36, [.ref 5, .int l1, .int l2, .ref r4, .int 1], [.ref r14, .int (s5.1 r4 12)], s12)
          refine bGo hA 2 4 (68, .getfield 308, 3, 37, 0, [0, 12, 0, 0, 0, 0], []) rfl rfl rfl ?_
          refine ⟨k13.1, ?_⟩
          refine bGo hA 2 5 (71, .if_icmp .le (5), 3, 38, 40, [], []) rfl rfl rfl ?_
          refine ⟨fun c15 => ?_, fun c15 => ?_⟩
          · refine bGo hA 2 6 (74, .iload_n 2, 1, 39, 0, [2], []) rfl rfl rfl ?_
            refine bGo hA 2 7 (75, .istore_n 1, 1, 40, 0, [1], []) rfl rfl rfl ?_
            refine bGo hA 2 8 (76, .iinc 2 (1), 3, 41, 0, [2], [(1, 0)]) rfl rfl rfl ?_
            refine bGo hA 2 9 (79, .goto (-75), 3, 42, 4, [], []) rfl rfl rfl ?_
            exact (k13.2.1 c15)
          · refine bGo hA 2 8 (76, .iinc 2 (1), 3, 41, 0, [2], [(1, 0)]) rfl rfl rfl ?_
            refine bGo hA 2 9 (79, .goto (-75), 3, 42, 4, [], []) rfl rfl rfl ?_
            exact (k13.2.2 c15)
      · refine bGo hA 1 7 (43, .iconst (0), 1, 24, 0, [], [(0, 0)]) rfl rfl rfl ?_
        refine bGo hA 1 8 (44, .istore 4, 2, 25, 0, [4], []) rfl rfl rfl ?_
        refine bGo hA 1 9 (46, .iload 4, 2, 26, 0, [4], []) rfl rfl rfl ?_
        refine bGo hA 1 10 (48, .ifCond .eq (28), 3, 27, 40, [], []) rfl rfl rfl ?_
        refine ⟨fun _ => ?_, fun c => absurd (by decide) c⟩
        refine bGo hA 2 8 (76, .iinc 2 (1), 3, 41, 0, [2], [(1, 0)]) rfl rfl rfl ?_
        refine bGo hA 2 9 (79, .goto (-75), 3, 42, 4, [], []) rfl rfl rfl ?_
        exact ((k6.1 c8).2 c9)
    · refine bGo hA 1 5 (39, .iconst (1), 1, 22, 0, [], [(1, 0)]) rfl rfl rfl ?_
      refine bGo hA 1 6 (40, .goto (4), 3, 23, 24, [], []) rfl rfl rfl ?_
      refine bGo hA 1 8 (44, .istore 4, 2, 25, 0, [4], []) rfl rfl rfl ?_
      refine bGo hA 1 9 (46, .iload 4, 2, 26, 0, [4], []) rfl rfl rfl ?_
      refine bGo hA 1 10 (48, .ifCond .eq (28), 3, 27, 40, [], []) rfl rfl rfl ?_
      refine ⟨fun c => absurd c (by decide), fun _ => ?_⟩
      refine bGo hA 1 11 (51, .iload_n 1, 1, 28, 0, [1], []) rfl rfl rfl ?_
      refine bGo hA 1 12 (52, .iconst (-1), 1, 29, 0, [], [(-1, 0)]) rfl rfl rfl ?_
      refine bGo hA 1 13 (53, .if_icmp .eq (21), 3, 30, 38, [], []) rfl rfl rfl ?_
      refine ⟨fun c18 => ?_, fun c18 => ?_⟩
      · refine bGo hA 2 6 (74, .iload_n 2, 1, 39, 0, [2], []) rfl rfl rfl ?_
        refine bGo hA 2 7 (75, .istore_n 1, 1, 40, 0, [1], []) rfl rfl rfl ?_
        refine bGo hA 2 8 (76, .iinc 2 (1), 3, 41, 0, [2], [(1, 0)]) rfl rfl rfl ?_
        refine bGo hA 2 9 (79, .goto (-75), 3, 42, 4, [], []) rfl rfl rfl ?_
        exact ((k6.2 c8).1 c18)
      · refine bGo hA 1 14 (56, .aload_n 3, 1, 31, 0, [3], []) rfl rfl rfl ?_
        refine bGo hA 1 15 (57, .getfield 308, 3, 32, 0, [0, 12, 0, 0, 0, 0], []) rfl rfl rfl ?_
        refine ⟨k3.1, ?_⟩
        refine bGo hA 2 0 (60, .aload_n 0, 1, 33, 0, [0], []) rfl rfl rfl ?_
        refine bGo hA 2 1 (61, .getfield 55, 3, 34, 0, [5, 1, 3, 6, 0, 0], []) rfl rfl rfl ?_
        refine ⟨rfl, ?_⟩
        refine bGo hA 2 2 (64, .iload_n 1, 1, 35, 0, [1], []) rfl rfl rfl ?_
        refine bGo hA 2 3 (65, .invokevirtual 113, 3, 36, 0, [0, 6, 89, 1], []) rfl rfl rfl ?_
        refine ⟨rfl, ?_⟩
        refine hC _ _ _ _ _ (bRa_e (fun r21 s19 k20 => ?_)) ((k6.2 c8).2 c18)
        show A (36, [.ref 5, .int l1, .int l2, .ref r4, .int 1], [.ref r21, .int (s5.1 r4 12)], s19)
        refine bGo hA 2 4 (68, .getfield 308, 3, 37, 0, [0, 12, 0, 0, 0, 0], []) rfl rfl rfl ?_
        refine ⟨k20.1, ?_⟩
        refine bGo hA 2 5 (71, .if_icmp .le (5), 3, 38, 40, [], []) rfl rfl rfl ?_
        refine ⟨fun c22 => ?_, fun c22 => ?_⟩
        · refine bGo hA 2 6 (74, .iload_n 2, 1, 39, 0, [2], []) rfl rfl rfl ?_
          refine bGo hA 2 7 (75, .istore_n 1, 1, 40, 0, [1], []) rfl rfl rfl ?_
          refine bGo hA 2 8 (76, .iinc 2 (1), 3, 41, 0, [2], [(1, 0)]) rfl rfl rfl ?_
          refine bGo hA 2 9 (79, .goto (-75), 3, 42, 4, [], []) rfl rfl rfl ?_
          exact (k20.2.1 c22)
        · refine bGo hA 2 8 (76, .iinc 2 (1), 3, 41, 0, [2], [(1, 0)]) rfl rfl rfl ?_
          refine bGo hA 2 9 (79, .goto (-75), 3, 42, 4, [], []) rfl rfl rfl ?_
          exact (k20.2.2 c22)
  · refine bGo hA 2 10 (82, .iload_n 1, 1, 43, 0, [1], []) rfl rfl rfl ?_
    refine bGo hA 2 11 (83, .ireturn, 1, 0, 0, [1], []) rfl rfl rfl ?_
    exact (h.2 c1)

theorem sg66_0 {lvl : Nat} {C : bCall} {Q : bPost} {A : bPt → Prop} (hC : bMono C) (hA : bClosed lvl bm66 C Q A) {a1 : Nat} {σ : bSt} (h_a1 : a1 % 256 = 0)
  (h : A (4, [.ref 5, .ref a1, .int (-1), .int 0, .float 0, .float 0, .float 0], [], σ)) : A (0, [.ref 5, .ref a1, .float 0, .float 0, .float 0, .float 0, .float 0], [], σ) := by
  refine bGo hA 0 0 (0, .iconst (-1), 1, 1, 0, [], [(-1, 0)]) rfl rfl rfl ?_
  refine bGo hA 0 1 (1, .istore_n 2, 1, 2, 0, [2], []) rfl rfl rfl ?_
  refine bGo hA 0 2 (2, .iconst (0), 1, 3, 0, [], [(0, 0)]) rfl rfl rfl ?_
  refine bGo hA 0 3 (3, .istore_n 3, 1, 4, 0, [3], []) rfl rfl rfl ?_
  exact h

theorem sg66_4 {lvl : Nat} {C : bCall} {Q : bPost} {A : bPt → Prop} (hC : bMono C) (hA : bClosed lvl bm66 C Q A) {l1 : Nat} {l2 : Int32} {l3 : Int32} {v4 : Value} {v5 : Value} {v6 : Value} {σ : bSt} 
  (h : (l1 % 256 = 0 ∧ ((l3 < (σ.1 l1 1) → (C 5 [.ref l1, .int l3] σ (bRi (fun r4 s2 => (C 89 [.ref 6, .int r4] s2 (bRa (fun r7 s5 => (r7 % 256 = 0 ∧ (C 89 [.ref 6, .int l2] s5 (bRa (fun r10 s8 => (r10 % 256 = 0 ∧ ((r4 = (-1) → A (4, [.ref 5, .ref l1, .int l2, .int (l3 + 1), .int r4, .int (s5.1 r7 12), .int (s8.1 r10 12)], [], s8)) ∧ (¬ r4 = (-1) → ((l2 = (-1) → A (4, [.ref 5, .ref l1, .int r4, .int (l3 + 1), .int r4, .int (s5.1 r7 12), .int (s8.1 r10 12)], [], s8)) ∧ (¬ l2 = (-1) → (((s8.1 r10 12) < (s5.1 r7 12) → A (4, [.ref 5, .ref l1, .int r4, .int (l3 + 1), .int r4, .int (s5.1 r7 12), .int (s8.1 r10 12)], [], s8)) ∧ (¬ (s8.1 r10 12) < (s5.1 r7 12) → (((s5.1 r7 12) = (s8.1 r10 12) → ((r4 < l2 → A (4, [.ref 5, .ref l1, .int r4, .int (l3 + 1), .int r4, .int (s5.1 r7 12), .int (s8.1 r10 12)], [], s8)) ∧ (¬ r4 < l2 → A (4, [.ref 5, .ref l1, .int l2, .int (l3 + 1), .int r4, .int (s5.1 r7 12), .int (s8.1 r10 12)], [], s8)))) ∧ (¬ (s5.1 r7 12) = (s8.1 r10 12) → A (4, [.ref 5, .ref l1, .int l2, .int (l3 + 1), .int r4, .int (s5.1 r7 12), .int (s8.1 r10 12)], [], s8))))))))))))))))))))) ∧ (¬ l3 < (σ.1 l1 1) → Q (.inl (some (.int l2))) σ)))) : A (4, [.ref 5, .ref l1, .int l2, .int l3, v4, v5, v6], [], σ) := by
  refine bGo hA 0 4 (4, .iload_n 3, 1, 5, 0, [3], []) rfl rfl rfl ?_
  refine bGo hA 0 5 (5, .aload_n 1, 1, 6, 0, [1], []) rfl rfl rfl ?_
  refine bGo hA 0 6 (6, .getfield 136, 3, 7, 0, [0, 1, 0, 0, 0, 0], []) rfl rfl rfl ?_
  refine ⟨h.1, ?_⟩
  refine bGo hA 0 7 (9, .if_icmp .ge (77), 3, 8, 43, [], []) rfl rfl rfl ?_
  refine ⟨fun c1 => ?_, fun c1 => ?_⟩
  · refine bGo hA 0 8 (12, .aload_n 1, 1, 9, 0, [1], []) rfl rfl rfl ?_
    refine bGo hA 0 9 (13, .iload_n 3, 1, 10, 0, [3], []) rfl rfl rfl ?_
    refine bGo hA 0 10 (14, .invokevirtual 139, 3, 11, 0, [0, 0, 5, 1], []) rfl rfl rfl ?_
    refine ⟨h.1, ?_⟩
    refine hC _ _ _ _ _ (bRi_e (fun r4 s2 k3 => ?_)) (h.2.1 c1)
    show A (11, [.ref 5, .ref l1, .int l2, .int l3, v4, v5, v6], [.int r4], s2)
    refine bGo hA 0 11 (17, .istore 4, 2, 12, 0, [4], []) rfl rfl rfl ?_
    refine bGo hA 0 12 (19, .aload_n 0, 1, 13, 0, [0], []) rfl rfl rfl ?_
    refine bGo hA 0 13 (20, .getfield 55, 3, 14, 0, [5, 1, 3, 6, 0, 0], []) rfl rfl rfl ?_
    refine ⟨rfl, ?_⟩
    refine bGo hA 0 14 (23, .iload 4, 2, 15, 0, [4], []) rfl rfl rfl ?_
    refine bGo hA 0 15 (25, .invokevirtual 113, 3, 16, 0, [0, 6, 89, 1], []) rfl rfl rfl ?_
    refine ⟨rfl, ?_⟩
    refine hC _ _ _ _ _ (bRa_e (fun r7 s5 k6 => ?_)) k3
    show A (16, [.ref 5, .ref l1, .int l2, .int l3, .int r4, v5, v6], [.ref r7], s5)
    refine bGo hA 1 0 (28, .getfield 308, 3, 17, 0, [0, 12, 0, 0, 0, 0], []) rfl rfl rfl ?_
    refine ⟨k6.1, ?_⟩
    refine bGo hA 1 1 (31, .istore 5, 2, 18, 0, [5], []) rfl rfl rfl ?_
    refine bGo hA 1 2 (33, .aload_n 0, 1, 19, 0, [0], []) rfl rfl rfl ?_
    refine bGo hA 1 3 (34, .getfield 55, 3, 20, 0, [5, 1, 3, 6, 0, 0], []) rfl rfl rfl ?_
    refine ⟨rfl, ?_⟩
    refine bGo hA 1 4 (37, .iload_n 2, 1, 21, 0, [2], []) rfl rfl rfl ?_
    refine bGo hA 1 5 (38, .invokevirtual 113, 3, 22, 0, [0, 6, 89, 1], []) rfl rfl rfl ?_
    refine ⟨rfl, ?_⟩
    refine hC _ _ _ _ _ (bRa_e (fun r10 s8 k9 => ?_)) k6.2
    show A (22, [.ref 5, .ref l1, .int l2, .int l3, .int r4, .int (s5.1 r7 12), v6], [.ref r10], s8)
    refine bGo hA 1 6 (41, .getfield 308, 3, 23, 0, [0, 12, 0, 0, 0, 0], []) rfl rfl rfl ?_
    refine ⟨k9.1, ?_⟩
    refine bGo hA 1 7 (44, .istore 6, 2, 24, 0, [6], []) rfl rfl rfl ?_
    refine bGo hA 1 8 (46, .iload 4, 2, 25, 0, [4], []) rfl rfl rfl ?_
    refine bGo hA 1 9 (48, .iconst (-1), 1, 26, 0, [], [(-1, 0)]) rfl rfl rfl ?_
    refine bGo hA 1 10 (49, .if_icmp .eq (31), 3, 27, 41, [], []) rfl rfl rfl ?_
    refine ⟨fun c11 => ?_, fun c11 => ?_⟩
    · refine bGo hA 2 9 (80, .iinc 3 (1), 3, 42, 0, [3], [(1, 0)]) rfl rfl rfl ?_
      refine bGo hA 2 10 (83, .goto (-79), 3, 43, 4, [], []) rfl rfl rfl ?_
      exact (k9.2.1 c11)
    · refine bGo hA 1 11 (52, .iload_n 2, 1, 28, 0, [2], []) rfl rfl rfl ?_
      refine bGo hA 1 12 (53, .iconst (-1), 1, 29, 0, [], [(-1, 0)]) rfl rfl rfl ?_
      refine bGo hA 1 13 (54, .if_icmp .eq (23), 3, 30, 39, [], []) rfl rfl rfl ?_
      refine ⟨fun c12 => ?_, fun c12 => ?_⟩
      · refine bGo hA 2 7 (77, .iload 4, 2, 40, 0, [4], []) rfl rfl rfl ?_
        refine bGo hA 2 8 (79, .istore_n 2, 1, 41, 0, [2], []) rfl rfl rfl ?_
        refine bGo hA 2 9 (80, .iinc 3 (1), 3, 42, 0, [3], [(1, 0)]) rfl rfl rfl ?_
        refine bGo hA 2 10 (83, .goto (-79), 3, 43, 4, [], []) rfl rfl rfl ?_
        exact ((k9.2.2 c11).1 c12)
      · refine bGo hA 1 14 (57, .iload 5, 2, 31, 0, [5], []) rfl rfl rfl ?_
        refine bGo hA 1 15 (59, .iload 6, 2, 32, 0, [6], []) rfl rfl rfl ?_
        refine bGo hA 2 0 (61, .if_icmp .gt (16), 3, 33, 39, [], []) rfl rfl rfl ?_
        refine ⟨fun c13 => ?_, fun c13 => ?_⟩
        · refine bGo hA 2 7 (77, .iload 4, 2, 40, 0, [4], []) rfl rfl rfl ?_
          refine bGo hA 2 8 (79, .istore_n 2, 1, 41, 0, [2], []) rfl rfl rfl ?_
          refine bGo hA 2 9 (80, .iinc 3 (1), 3, 42, 0, [3], [(1, 0)]) rfl rfl rfl ?_
          refine bGo hA 2 10 (83, .goto (-79), 3, 43, 4, [], []) rfl rfl rfl ?_
          exact (((k9.2.2 c11).2 c12).1 c13)
        · refine bGo hA 2 1 (64, .iload 5, 2, 34, 0, [5], []) rfl rfl rfl ?_
          refine bGo hA 2 2 (66, .iload 6, 2, 35, 0, [6], []) rfl rfl rfl ?_
          refine bGo hA 2 3 (68, .if_icmp .ne (12), 3, 36, 41, [], []) rfl rfl rfl ?_
          refine ⟨fun c14 => ?_, fun c14 => ?_⟩
          · refine bGo hA 2 4 (71, .iload 4, 2, 37, 0, [4], []) rfl rfl rfl ?_
            refine bGo hA 2 5 (73, .iload_n 2, 1, 38, 0, [2], []) rfl rfl rfl ?_
            refine bGo hA 2 6 (74, .if_icmp .ge (6), 3, 39, 41, [], []) rfl rfl rfl ?_
            refine ⟨fun c15 => ?_, fun c15 => ?_⟩
            · refine bGo hA 2 7 (77, .iload 4, 2, 40, 0, [4], []) rfl rfl rfl ?_
              refine bGo hA 2 8 (79, .istore_n 2, 1, 41, 0, [2], []) rfl rfl rfl ?_
              refine bGo hA 2 9 (80, .iinc 3 (1), 3, 42, 0, [3], [(1, 0)]) rfl rfl rfl ?_
              refine bGo hA 2 10 (83, .goto (-79), 3, 43, 4, [], []) rfl rfl rfl ?_
              exact (((((k9.2.2 c11).2 c12).2 c13).1 c14).1 c15)
            · refine bGo hA 2 9 (80, .iinc 3 (1), 3, 42, 0, [3], [(1, 0)]) rfl rfl rfl ?_
              refine bGo hA 2 10 (83, .goto (-79), 3, 43, 4, [], []) rfl rfl rfl ?_
              exact (((((k9.2.2 c11).2 c12).2 c13).1 c14).2 c15)
          · refine bGo hA 2 9 (80, .iinc 3 (1), 3, 42, 0, [3], [(1, 0)]) rfl rfl rfl ?_
            refine bGo hA 2 10 (83, .goto (-79), 3, 43, 4, [], []) rfl rfl rfl ?_
            exact ((((k9.2.2 c11).2 c12).2 c13).2 c14)
  · refine bGo hA 2 11 (86, .iload_n 2, 1, 44, 0, [2], []) rfl rfl rfl ?_
    refine bGo hA 2 12 (87, .ireturn, 1, 0, 0, [1], []) rfl rfl rfl ?_
    exact (h.2.2 c1)

theorem sg67_0 {lvl : Nat} {C : bCall} {Q : bPost} {A : bPt → Prop} (hC : bMono C) (hA : bClosed lvl bm67 C Q A)  {σ : bSt} 
  (h : (σ.2.2.2.1 27 = 0 ∧ ((bR (bNew σ 27 2 4096) 6 4 (some 27)).2.2.2.1 28 = 0 ∧ ((bR (bNew (bR (bNew σ 27 2 4096) 6 4 (some 27)) 28 2 4096) 6 5 (some 28)).2.2.2.1 29 = 0 ∧ ((bR (bNew (bR (bNew (bR (bNew σ 27 2 4096) 6 4 (some 27)) 28 2 4096) 6 5 (some 28)) 29 2 4096) 6 6 (some 29)).2.2.2.1 30 = 0 ∧ ((bR (bNew (bR (bNew (bR (bNew (bR (bNew σ 27 2 4096) 6 4 (some 27)) 28 2 4096) 6 5 (some 28)) 29 2 4096) 6 6 (some 29)) 30 2 4096) 6 7 (some 30)).2.2.2.1 31 = 0 ∧ ((bR (bNew (bR (bNew (bR (bNew (bR (bNew (bR (bNew σ 27 2 4096) 6 4 (some 27)) 28 2 4096) 6 5 (some 28)) 29 2 4096) 6 6 (some 29)) 30 2 4096) 6 7 (some 30)) 31 2 16) 6 8 (some 31)).2.2.2.1 32 = 0 ∧ ((bR (bNew (bR (bNew (bR (bNew (bR (bNew (bR (bNew (bR (bNew σ 27 2 4096) 6 4 (some 27)) 28 2 4096) 6 5 (some 28)) 29 2 4096) 6 6 (some 29)) 30 2 4096) 6 7 (some 30)) 31 2 16) 6 8 (some 31)) 32 2 16) 6 9 (some 32)).2.2.2.1 33 = 0 ∧ ((bR (bNew (bR (bNew (bR (bNew (bR (bNew (bR (bNew (bR (bNew (bR (bNew σ 27 2 4096) 6 4 (some 27)) 28 2 4096) 6 5 (some 28)) 29 2 4096) 6 6 (some 29)) 30 2 4096) 6 7 (some 30)) 31 2 16) 6 8 (some 31)) 32 2 16) 6 9 (some 32)) 33 2 121) 6 14 (some 33)).2.2.2.1 0 = 0 ∧ (C 0 [.retAddr 0] (bNew (bR (bNew (bR (bNew (bR (bNew (bR (bNew (bR (bNew (bR (bNew (bR (bNew σ 27 2 4096) 6 4 (some 27)) 28 2 4096) 6 5 (some 28)) 29 2 4096) 6 6 (some 29)) 30 2 4096) 6 7 (some 30)) 31 2 16) 6 8 (some 31)) 32 2 16) 6 9 (some 32)) 33 2 121) 6 14 (some 33)) 0 1 18) (bRv (fun s1 => (bAll (bR (bR (bR (bR (bR s1 6 15 (some 0)) 6 0 (some 3)) 6 1 (some 7)) 6 2 (some 10)) 6 3 (some 9)) 6 [0, 1, 2, 3, 4, 5, 6, 7, 8, 9, 14, 15] ∧ Q (.inl none) (bA (bR (bR (bR (bR (bR s1 6 15 (some 0)) 6 0 (some 3)) 6 1 (some 7)) 6 2 (some 10)) 6 3 (some 9)) 6 2)))))))))))))) : A (0, [.retAddr 6, .ref 3, .ref 7, .ref 10, .ref 9], [], σ) := by
  refine bGo hA 0 0 (0, .aload_n 0, 1, 1, 0, [0], []) rfl rfl rfl ?_
  refine bGo hA 0 1 (1, .invokespecial 3, 3, 2, 0, [6, 0, 0], []) rfl rfl rfl ?_
  refine bGo hA 0 2 (4, .aload_n 0, 1, 3, 0, [0], []) rfl rfl rfl ?_
  refine bGo hA 0 3 (5, .sipush (4096), 3, 4, 0, [], [(4096, 0)]) rfl rfl rfl ?_
  refine bGo hA 0 4 (8, .newarray .int, 2, 5, 0, [27], []) rfl rfl rfl ?_
  refine ⟨h.1, rfl, by decide, ?_⟩
  refine bGo hA 0 5 (10, .putfield 9, 3, 6, 0, [6, 4, 3, 27, 1, 0], []) rfl rfl rfl ?_
  refine ⟨rfl, rfl, ?_⟩
  refine bGo hA 0 6 (13, .aload_n 0, 1, 7, 0, [0], []) rfl rfl rfl ?_
  refine bGo hA 0 7 (14, .sipush (4096), 3, 8, 0, [], [(4096, 0)]) rfl rfl rfl ?_
  refine bGo hA 0 8 (17, .newarray .int, 2, 9, 0, [28], []) rfl rfl rfl ?_
  refine ⟨h.2.1, rfl, by decide, ?_⟩
  refine bGo hA 0 9 (19, .putfield 15, 3, 10, 0, [6, 5, 3, 28, 1, 0], []) rfl rfl rfl ?_
  refine ⟨rfl, rfl, ?_⟩
  refine bGo hA 0 10 (22, .aload_n 0, 1, 11, 0, [0], []) rfl rfl rfl ?_
  refine bGo hA 0 11 (23, .sipush (4096), 3, 12, 0, [], [(4096, 0)]) rfl rfl rfl ?_
  refine bGo hA 0 12 (26, .newarray .int, 2, 13, 0, [29], []) rfl rfl rfl ?_
  refine ⟨h.2.2.1, rfl, by decide, ?_⟩
  refine bGo hA 0 13 (28, .putfield 18, 3, 14, 0, [6, 6, 3, 29, 1, 0], []) rfl rfl rfl ?_
  refine ⟨rfl, rfl, ?_⟩
  refine bGo hA 0 14 (31, .aload_n 0, 1, 15, 0, [0], []) rfl rfl rfl ?_
  refine bGo hA 0 15 (32, .sipush (4096), 3, 16, 0, [], [(4096, 0)]) rfl rfl rfl ?_
  refine bGo hA 1 0 (35, .newarray .int, 2, 17, 0, [30], []) rfl rfl rfl ?_
  refine ⟨h.2.2.2.1, rfl, by decide, ?_⟩
  refine bGo hA 1 1 (37, .putfield 21, 3, 18, 0, [6, 7, 3, 30, 1, 0], []) rfl rfl rfl ?_
  refine ⟨rfl, rfl, ?_⟩
  refine bGo hA 1 2 (40, .aload_n 0, 1, 19, 0, [0], []) rfl rfl rfl ?_
  refine bGo hA 1 3 (41, .bipush (16), 2, 20, 0, [], [(16, 0)]) rfl rfl rfl ?_
  refine bGo hA 1 4 (43, .newarray .int, 2, 21, 0, [31], []) rfl rfl rfl ?_
  refine ⟨h.2.2.2.2.1, rfl, by decide, ?_⟩
  refine bGo hA 1 5 (45, .putfield 24, 3, 22, 0, [6, 8, 3, 31, 1, 0], []) rfl rfl rfl ?_
  refine ⟨rfl, rfl, ?_⟩
  refine bGo hA 1 6 (48, .aload_n 0, 1, 23, 0, [0], []) rfl rfl rfl ?_
  refine bGo hA 1 7 (49, .bipush (16), 2, 24, 0, [], [(16, 0)]) rfl rfl rfl ?_
  refine bGo hA 1 8 (51, .newarray .int, 2, 25, 0, [32], []) rfl rfl rfl ?_
  refine ⟨h.2.2.2.2.2.1, rfl, by decide, ?_⟩
  refine bGo hA 1 9 (53, .putfield 27, 3, 26, 0, [6, 9, 3, 32, 1, 0], []) rfl rfl rfl ?_
  refine ⟨rfl, rfl, ?_⟩
  refine bGo hA 1 10 (56, .aload_n 0, 1, 27, 0, [0], []) rfl rfl rfl ?_
  refine bGo hA 1 11 (57, .bipush (121), 2, 28, 0, [], [(121, 0)]) rfl rfl rfl ?_
  refine bGo hA 1 12 (59, .anewarray 30, 3, 29, 0, [33], []) rfl rfl rfl ?_
  refine ⟨h.2.2.2.2.2.2.1, rfl, by decide, ?_⟩
  refine bGo hA 1 13 (62, .putfield 32, 3, 30, 0, [6, 14, 3, 33, 1, 0], []) rfl rfl rfl ?_
  refine ⟨rfl, rfl, ?_⟩
  refine bGo hA 1 14 (65, .aload_n 0, 1, 31, 0, [0], []) rfl rfl rfl ?_
  refine bGo hA 1 15 (66, .new 30, 3, 32, 0, [0, 0, 18, 0, 0], []) rfl rfl rfl ?_
  refine ⟨h.2.2.2.2.2.2.2.1, ?_⟩
  refine bGo hA 2 0 (69, .dup, 1, 33, 0, [], []) rfl rfl rfl ?_
  refine bGo hA 2 1 (70, .invokespecial 36, 3, 34, 1, [4, 0, 0, 0], []) rfl rfl rfl ?_
  refine ⟨rfl, rfl, ?_⟩
  refine hC _ _ _ _ _ (bRv_e (fun s1 k2 => ?_)) h.2.2.2.2.2.2.2.2
  show A (34, [.retAddr 6, .ref 3, .ref 7, .ref 10, .ref 9], [.ref 0, .retAddr 6], s1)
  refine bGo hA 2 2 (73, .putfield 37, 3, 35, 0, [6, 15, 3, 0, 0, 0], []) rfl rfl rfl ?_
  refine ⟨rfl, rfl, ?_⟩
  refine bGo hA 2 3 (76, .aload_n 0, 1, 36, 0, [0], []) rfl rfl rfl ?_
  refine bGo hA 2 4 (77, .aload_n 1, 1, 37, 0, [1], []) rfl rfl rfl ?_
  refine bGo hA 2 5 (78, .putfield 41, 3, 38, 0, [6, 0, 3, 3, 0, 0], []) rfl rfl rfl ?_
  refine ⟨rfl, rfl, ?_⟩
  refine bGo hA 2 6 (81, .aload_n 0, 1, 39, 0, [0], []) rfl rfl rfl ?_
  refine bGo hA 2 7 (82, .aload_n 2, 1, 40, 0, [2], []) rfl rfl rfl ?_
  refine bGo hA 2 8 (83, .putfield 45, 3, 41, 0, [6, 1, 3, 7, 0, 0], []) rfl rfl rfl ?_
  refine ⟨rfl, rfl, ?_⟩
  refine bGo hA 2 9 (86, .aload_n 0, 1, 42, 0, [0], []) rfl rfl rfl ?_
  refine bGo hA 2 10 (87, .aload_n 3, 1, 43, 0, [3], []) rfl rfl rfl ?_
  refine bGo hA 2 11 (88, .putfield 49, 3, 44, 0, [6, 2, 3, 10, 0, 0], []) rfl rfl rfl ?_
  refine ⟨rfl, rfl, ?_⟩
  refine bGo hA 2 12 (91, .aload_n 0, 1, 45, 0, [0], []) rfl rfl rfl ?_
  refine bGo hA 2 13 (92, .aload 4, 2, 46, 0, [4], []) rfl rfl rfl ?_
  refine bGo hA 2 14 (94, .putfield 53, 3, 47, 0, [6, 3, 3, 9, 0, 0], []) rfl rfl rfl ?_
  refine ⟨rfl, rfl, ?_⟩
  refine bGo hA 2 15 (97, .return_, 1, 0, 0, [5, 0, 1, 2, 3, 4, 5, 6, 7, 8, 9, 14, 15], []) rfl rfl rfl ?_
  exact k2

theorem sg68_0 {lvl : Nat} {C : bCall} {Q : bPost} {A : bPt → Prop} (hC : bMono C) (hA : bClosed lvl bm68 C Q A)  {σ : bSt} 
  (h : A (2, [.ref 6, .int 0, .float 0, .float 0], [], σ)) : A (0, [.ref 6, .float 0, .float 0, .float 0], [], σ) := by
  refine bGo hA 0 0 (0, .iconst (0), 1, 1, 0, [], [(0, 0)]) rfl rfl rfl ?_
  refine bGo hA 0 1 (1, .istore_n 1, 1, 2, 0, [1], []) rfl rfl rfl ?_
  exact h

theorem sg68_2 {lvl : Nat} {C : bCall} {Q : bPost} {A : bPt → Prop} (hC : bMono C) (hA : bClosed lvl bm68 C Q A) {l1 : Int32} {v2 : Value} {v3 : Value} {σ : bSt} 
  (h : ((l1 < (σ.1 9 0) → (C 120 [.ref 9, .int l1] σ (bRa (fun r4 s2 => (r4 % 256 = 8 ∧ (((s2.1 r4 3) = (-1) → A (2, [.ref 6, .int (l1 + 1), .ref r4, .int (s2.1 r4 3)], [], (bI s2 r4 4 (-1)))) ∧ (¬ (s2.1 r4 3) = (-1) → (C 96 [.ref 7, .int ((s2.1 r4 3) >>> (3 &&& 31)), .int ((s2.1 r4 3) &&& 7)] s2 (bRi (fun r8 s6 => A (2, [.ref 6, .int (l1 + 1), .ref r4, .int (s2.1 r4 3)], [], (bI s6 r4 4 r8)))))))))))) ∧ (¬ l1 < (σ.1 9 0) → Q (.inl none) σ))) : A (2, [.ref 6, .int l1, v2, v3], [], σ) := by
  refine bGo hA 0 2 (2, .iload_n 1, 1, 3, 0, [1], []) rfl rfl rfl ?_
  refine bGo hA 0 3 (3, .aload_n 0, 1, 4, 0, [0], []) rfl rfl rfl ?_
  refine bGo hA 0 4 (4, .getfield 53, 3, 5, 0, [6, 3, 3, 9, 0, 0], []) rfl rfl rfl ?_
  refine ⟨rfl, ?_⟩
  refine bGo hA 0 5 (7, .getfield 57, 3, 6, 0, [9, 0, 0, 0, 0, 0], []) rfl rfl rfl ?_
  refine ⟨rfl, ?_⟩
  refine bGo hA 0 6 (10, .if_icmp .ge (50), 3, 7, 33, [], []) rfl rfl rfl ?_
  refine ⟨fun c1 => ?_, fun c1 => ?_⟩
  · refine bGo hA 0 7 (13, .aload_n 0, 1, 8, 0, [0], []) rfl rfl rfl ?_
    refine bGo hA 0 8 (14, .getfield 53, 3, 9, 0, [6, 3, 3, 9, 0, 0], []) rfl rfl rfl ?_
    refine ⟨rfl, ?_⟩
    refine bGo hA 0 9 (17, .iload_n 1, 1, 10, 0, [1], []) rfl rfl rfl ?_
    refine bGo hA 0 10 (18, .invokevirtual 63, 3, 11, 0, [0, 9, 120, 1], []) rfl rfl rfl ?_
    refine ⟨rfl, ?_⟩
    refine hC _ _ _ _ _ (bRa_e (fun r4 s2 k3 => ?_)) (h.1 c1)
    show A (11, [.ref 6, .int l1, v2, v3], [.ref r4], s2)
    refine bGo hA 0 11 (21, .astore_n 2, 1, 12, 0, [2], []) rfl rfl rfl ?_
    refine bGo hA 0 12 (22, .aload_n 2, 1, 13, 0, [2], []) rfl rfl rfl ?_
    refine bGo hA 0 13 (23, .getfield 67, 3, 14, 0, [8, 3, 0, 0, 0, 0], []) rfl rfl rfl ?_
    refine ⟨k3.1, ?_⟩
    refine bGo hA 0 14 (26, .istore_n 3, 1, 15, 0, [3], []) rfl rfl rfl ?_
    refine bGo hA 0 15 (27, .aload_n 2, 1, 16, 0, [2], []) rfl rfl rfl ?_
    refine bGo hA 1 0 (28, .iload_n 3, 1, 17, 0, [3], []) rfl rfl rfl ?_
    refine bGo hA 1 1 (29, .iconst (-1), 1, 18, 0, [], [(-1, 0)]) rfl rfl rfl ?_
    refine bGo hA 1 2 (30, .if_icmp .ne (7), 3, 19, 21, [], []) rfl rfl rfl ?_
    refine ⟨fun c5 => ?_, fun c5 => ?_⟩
    · refine bGo hA 1 3 (33, .iconst (-1), 1, 20, 0, [], [(-1, 0)]) rfl rfl rfl ?_
      refine bGo hA 1 4 (34, .goto (17), 3, 21, 30, [], []) rfl rfl rfl ?_
      refine bGo hA 1 14 (51, .putfield 78, 3, 31, 0, [8, 4, 0, 0, 0, 0], []) rfl rfl rfl ?_
      refine ⟨k3.1, ?_⟩
      refine bGo hA 1 15 (54, .iinc 1 (1), 3, 32, 0, [1], [(1, 0)]) rfl rfl rfl ?_
      refine bGo hA 2 0 (57, .goto (-55), 3, 33, 2, [], []) rfl rfl rfl ?_
      exact (k3.2.1 c5)
    · refine bGo hA 1 5 (37, .aload_n 0, 1, 22, 0, [0], []) rfl rfl rfl ?_
      refine bGo hA 1 6 (38, .getfield 45, 3, 23, 0, [6, 1, 3, 7, 0, 0], []) rfl rfl rfl ?_
      refine ⟨rfl, ?_⟩
      refine bGo hA 1 7 (41, .iload_n 3, 1, 24, 0, [3], []) rfl rfl rfl ?_
      refine bGo hA 1 8 (42, .iconst (3), 1, 25, 0, [], [(3, 0)]) rfl rfl rfl ?_
      refine bGo hA 1 9 (43, .ishr, 1, 26, 0, [], []) rfl rfl rfl ?_
      refine bGo hA 1 10 (44, .iload_n 3, 1, 27, 0, [3], []) rfl rfl rfl ?_
      refine bGo hA 1 11 (45, .bipush (7), 2, 28, 0, [], [(7, 0)]) rfl rfl rfl ?_
      refine bGo hA 1 12 (47, .iand, 1, 29, 0, [], []) rfl rfl rfl ?_
      refine bGo hA 1 13 (48, .invokevirtual 72, 3, 30, 0, [0, 7, 96, 2], []) rfl rfl rfl ?_
      refine ⟨rfl, ?_⟩
      refine hC _ _ _ _ _ (bRi_e (fun r8 s6 k7 => ?_)) (k3.2.2 c5)
      show A (30, [.ref 6, .int l1, .ref r4, .int (s2.1 r4 3)], [.int r8, .ref r4], s6)
      refine bGo hA 1 14 (51, .putfield 78, 3, 31, 0, [8, 4, 0, 0, 0, 0], []) rfl rfl rfl ?_
      refine ⟨k3.1, ?_⟩
      refine bGo hA 1 15 (54, .iinc 1 (1), 3, 32, 0, [1], [(1, 0)]) rfl rfl rfl ?_
      refine bGo hA 2 0 (57, .goto (-55), 3, 33, 2, [], []) rfl rfl rfl ?_
      exact k7
  · refine bGo hA 2 1 (60, .return_, 1, 0, 0, [0], []) rfl rfl rfl ?_
    exact (h.2 c1)

theorem sg69_0 {lvl : Nat} {C : bCall} {Q : bPost} {A : bPt → Prop} (hC : bMono C) (hA : bClosed lvl bm69 C Q A) {x1 : Int32} {σ : bSt} 
  (h : Q (.inl (some (.int ((x1 * 256) + (σ.1 10 0))))) σ) : A (0, [.ref 6, .int x1], [], σ) := by
  refine bGo hA 0 0 (0, .iload_n 1, 1, 1, 0, [1], []) rfl rfl rfl ?_
  refine bGo hA 0 1 (1, .sipush (256), 3, 2, 0, [], [(256, 0)]) rfl rfl rfl ?_
  refine bGo hA 0 2 (4, .imul, 1, 3, 0, [], []) rfl rfl rfl ?_
  refine bGo hA 0 3 (5, .aload_n 0, 1, 4, 0, [0], []) rfl rfl rfl ?_
  refine bGo hA 0 4 (6, .getfield 49, 3, 5, 0, [6, 2, 3, 10, 0, 0], []) rfl rfl rfl ?_
  refine ⟨rfl, ?_⟩
  refine bGo hA 0 5 (9, .getfield 81, 3, 6, 0, [10, 0, 0, 0, 0, 0], []) rfl rfl rfl ?_
  refine ⟨rfl, ?_⟩
  refine bGo hA 0 6 (12, .iadd, 1, 7, 0, [], []) rfl rfl rfl ?_
  refine bGo hA 0 7 (13, .ireturn, 1, 0, 0, [1], []) rfl rfl rfl ?_
  exact h

theorem sg70_0 {lvl : Nat} {C : bCall} {Q : bPost} {A : bPt → Prop} (hC : bMono C) (hA : bClosed lvl bm70 C Q A)  {σ : bSt} 
  (h : Q (.inl none) (bI (bI σ 6 10 ((σ.1 6 10) + 1)) 6 11 0)) : A (0, [.ref 6], [], σ) := by
  refine bGo hA 0 0 (0, .aload_n 0, 1, 1, 0, [0], []) rfl rfl rfl ?_
  refine bGo hA 0 1 (1, .dup, 1, 2, 0, [], []) rfl rfl rfl ?_
  refine bGo hA 0 2 (2, .getfield 86, 3, 3, 0, [6, 10, 0, 0, 0, 0], []) rfl rfl rfl ?_
  refine ⟨rfl, ?_⟩
  refine bGo hA 0 3 (5, .iconst (1), 1, 4, 0, [], [(1, 0)]) rfl rfl rfl ?_
  refine bGo hA 0 4 (6, .iadd, 1, 5, 0, [], []) rfl rfl rfl ?_
  refine bGo hA 0 5 (7, .putfield 86, 3, 6, 0, [6, 10, 0, 0, 0, 0], []) rfl rfl rfl ?_
  refine ⟨rfl, ?_⟩
  refine bGo hA 0 6 (10, .aload_n 0, 1, 7, 0, [0], []) rfl rfl rfl ?_
  refine bGo hA 0 7 (11, .iconst (0), 1, 8, 0, [], [(0, 0)]) rfl rfl rfl ?_
  refine bGo hA 0 8 (12, .putfield 89, 3, 9, 0, [6, 11, 0, 0, 0, 0], []) rfl rfl rfl ?_
  refine ⟨rfl, ?_⟩
  refine bGo hA 0 9 (15, .return_, 1, 0, 0, [0], []) rfl rfl rfl ?_
  exact h

theorem sg71_0 {lvl : Nat} {C : bCall} {Q : bPost} {A : bPt → Prop} (hC : bMono C) (hA : bClosed lvl bm71 C Q A) {x1 : Int32} {σ : bSt} 
  (h : (C 72 [.ref 6, .int x1] (bI σ 6 12 0) (bRv (fun s1 => A (8, [.ref 6, .int x1, .int 0, .float 0, .float 0, .float 0], [], s1))))) : A (0, [.ref 6, .int x1, .float 0, .float 0, .float 0, .float 0], [], σ) := by
  refine bGo hA 0 0 (0, .aload_n 0, 1, 1, 0, [0], []) rfl rfl rfl ?_
  refine bGo hA 0 1 (1, .iconst (0), 1, 2, 0, [], [(0, 0)]) rfl rfl rfl ?_
  refine bGo hA 0 2 (2, .putfield 92, 3, 3, 0, [6, 12, 0, 0, 0, 0], []) rfl rfl rfl ?_
  refine ⟨rfl, ?_⟩
  refine bGo hA 0 3 (5, .aload_n 0, 1, 4, 0, [0], []) rfl rfl rfl ?_
  refine bGo hA 0 4 (6, .iload_n 1, 1, 5, 0, [1], []) rfl rfl rfl ?_
  refine bGo hA 0 5 (7, .invokevirtual 95, 3, 6, 0, [0, 6, 72, 1], []) rfl rfl rfl ?_
  refine ⟨rfl, ?_⟩
  refine hC _ _ _ _ _ (bRv_e (fun s1 k2 => ?_)) h
  show A (6, [.ref 6, .int x1, .float 0, .float 0, .float 0, .float 0], [], s1)
  refine bGo hA 0 6 (10, .iconst (0), 1, 7, 0, [], [(0, 0)]) rfl rfl rfl ?_
  refine bGo hA 0 7 (11, .istore_n 2, 1, 8, 0, [2], []) rfl rfl rfl ?_
  exact k2

theorem sg71_8 {lvl : Nat} {C : bCall} {Q : bPost} {A : bPt → Prop} (hC : bMono C) (hA : bClosed lvl bm71 C Q A) {v1 : Value} {l2 : Int32} {v3 : Value} {v4 : Value} {v5 : Value} {σ : bSt} 
  (h : ((l2 < 100000 → ((0 < (σ.1 6 12) → (C 140 [.ref 31, .int ((σ.1 6 12) - 1)] σ (bRi (fun r5 s3 => (C 140 [.ref 32, .int ((s3.1 6 12) - 1)] s3 (bRi (fun r8 s6 => (C 120 [.ref 9, .int (r5 >>> (8 &&& 31))] s6 (bRa (fun r11 s9 => (r11 % 256 = 8 ∧ ((r8 < (s9.1 r11 13) → (C 141 [.ref 32, .int ((s9.1 6 12) - 1), .int (r8 + 1)] s9 (bRv (fun s13 => (C 112 [.ref r11, .int r8] s13 (bRi (fun r17 s15 => (C 73 [.ref 6, .ref r11, .int r5, .int r17] s15 (bRi (fun r20 s18 => (C 72 [.ref 6, .int r20] s18 (bRv (fun s21 => A (8, [.ref 6, (bUnl v1), .int (l2 + 1), .int r5, .int r8, .ref r11], [], s21)))))))))))))) ∧ (¬ r8 < (s9.1 r11 13) → (C 74 [.ref 6, .ref r11, .int r5] s9 (bRi (fun r25 s23 => (C 141 [.ref 29, .int r5, .int r25] s23 (bRv (fun s26 => (C 141 [.ref 28, .int (s26.1 6 11), .int r5] s26 (bRv (fun s28 => A (8, [.ref 6, (bUnl v1), .int (l2 + 1), .int r5, .int r8, .ref r11], [], (bI (bI s28 6 11 ((s28.1 6 11) + 1)) 6 12 (((bI s28 6 11 ((s28.1 6 11) + 1)).1 6 12) - 1))))))))))))))))))))))))) ∧ (¬ 0 < (σ.1 6 12) → Q (.inl none) σ))) ∧ (¬ l2 < 100000 → Q (.inl none) σ))) : A (8, [.ref 6, v1, .int l2, v3, v4, v5], [], σ) := by
  refine bGo hA 0 8 (12, .iload_n 2, 1, 9, 0, [2], []) rfl rfl rfl ?_
  refine bGo hA 0 9 (13, .ldc 99, 2, 10, 0, [99], [(100000, 0)]) rfl rfl rfl ?_
  refine bGo hA 0 10 (15, .if_icmp .ge (153), 3, 11, 89, [], []) rfl rfl rfl ?_
  refine ⟨fun c1 => ?_, fun c1 => ?_⟩
  · refine bGo hA 0 11 (18, .aload_n 0, 1, 12, 0, [0], []) rfl rfl rfl ?_
    refine bGo hA 0 12 (19, .getfield 92, 3, 13, 0, [6, 12, 0, 0, 0, 0], []) rfl rfl rfl ?_
    refine ⟨rfl, ?_⟩
    refine bGo hA 0 13 (22, .ifCond .le (146), 3, 14, 89, [], []) rfl rfl rfl ?_
    refine ⟨fun c2 => ?_, fun c2 => ?_⟩
    · refine bGo hA 0 14 (25, .aload_n 0, 1, 15, 0, [0], []) rfl rfl rfl ?_
      refine bGo hA 0 15 (26, .getfield 24, 3, 16, 0, [6, 8, 3, 31, 1, 0], []) rfl rfl rfl ?_
      refine ⟨rfl, ?_⟩
      refine bGo hA 1 0 (29, .aload_n 0, 1, 17, 0, [0], []) rfl rfl rfl ?_
      refine bGo hA 1 1 (30, .getfield 92, 3, 18, 0, [6, 12, 0, 0, 0, 0], []) rfl rfl rfl ?_
      refine ⟨rfl, ?_⟩
      refine bGo hA 1 2 (33, .iconst (1), 1, 19, 0, [], [(1, 0)]) rfl rfl rfl ?_
      refine bGo hA 1 3 (34, .isub, 1, 20, 0, [], []) rfl rfl rfl ?_
      refine bGo hA 1 4 (35, .invokestatic 100, 3, 21, 1, [2, 140, 2], []) rfl rfl rfl ?_
      refine hC _ _ _ _ _ (bRi_e (fun r5 s3 k4 => ?_)) ((h.1 c1).1 c2)
      show A (21, [.ref 6, v1, .int l2, v3, v4, v5], [.int r5], s3)
      refine bGo hA 1 5 (38, .istore_n 3, 1, 22, 0, [3], []) rfl rfl rfl ?_
      refine bGo hA 1 6 (39, .aload_n 0, 1, 23, 0, [0], []) rfl rfl rfl ?_
      refine bGo hA 1 7 (40, .getfield 27, 3, 24, 0, [6, 9, 3, 32, 1, 0], []) rfl rfl rfl ?_
      refine ⟨rfl, ?_⟩
      refine bGo hA 1 8 (43, .aload_n 0, 1, 25, 0, [0], []) rfl rfl rfl ?_
      refine bGo hA 1 9 (44, .getfield 92, 3, 26, 0, [6, 12, 0, 0, 0, 0], []) rfl rfl rfl ?_
      refine ⟨rfl, ?_⟩
      refine bGo hA 1 10 (47, .iconst (1), 1, 27, 0, [], [(1, 0)]) rfl rfl rfl ?_
      refine bGo hA 1 11 (48, .isub, 1, 28, 0, [], []) rfl rfl rfl ?_
      refine bGo hA 1 12 (49, .invokestatic 100, 3, 29, 1, [2, 140, 2], []) rfl rfl rfl ?_
      refine hC _ _ _ _ _ (bRi_e (fun r8 s6 k7 => ?_)) k4
      show A (29, [.ref 6, v1, .int l2, .int r5, v4, v5], [.int r8], s6)
      refine bGo hA 1 13 (52, .istore 4, 2, 30, 0, [4], []) rfl rfl rfl ?_
      refine bGo hA 1 14 (54, .aload_n 0, 1, 31, 0, [0], []) rfl rfl rfl ?_
      refine bGo hA 1 15 (55, .getfield 53, 3, 32, 0, [6, 3, 3, 9, 0, 0], []) rfl rfl rfl ?_
      refine ⟨rfl, ?_⟩
      refine bGo hA 2 0 (58, .iload_n 3, 1, 33, 0, [3], []) rfl rfl rfl ?_
      refine bGo hA 2 1 (59, .bipush (8), 2, 34, 0, [], [(8, 0)]) rfl rfl rfl ?_
      refine bGo hA 2 2 (61, .ishr, 1, 35, 0, [], []) rfl rfl rfl ?_
      refine bGo hA 2 3 (62, .invokevirtual 63, 3, 36, 0, [0, 9, 120, 1], []) rfl rfl rfl ?_
      refine ⟨rfl, ?_⟩
      refine hC _ _ _ _ _ (bRa_e (fun r11 s9 k10 => ?_)) k7
      show A (36, [.ref 6, v1, .int l2, .int r5, .int r8, v5], [.ref r11], s9)
      refine bGo hA 2 4 (65, .astore 5, 2, 37, 0, [5], []) rfl rfl rfl ?_
      refine bGo hA 2 5 (67, .iload 4, 2, 38, 0, [4], []) rfl rfl rfl ?_
      refine bGo hA 2 6 (69, .aload 5, 2, 39, 0, [5], []) rfl rfl rfl ?_
      refine bGo hA 2 7 (71, .getfield 104, 3, 40, 0, [8, 13, 0, 0, 0, 0], []) rfl rfl rfl ?_
      refine ⟨k10.1, ?_⟩
      refine bGo hA 2 8 (74, .if_icmp .ge (41), 3, 41, 61, [], []) rfl rfl rfl ?_
      refine ⟨fun c12 => ?_, fun c12 => ?_⟩
      · refine bGo hA 2 9 (77, .aload_n 0, 1, 42, 0, [0], []) rfl rfl rfl ?_
        refine bGo hA 2 10 (78, .getfield 27, 3, 43, 0, [6, 9, 3, 32, 1, 0], []) rfl rfl rfl ?_
        refine ⟨rfl, ?_⟩
        refine bGo hA 2 11 (81, .aload_n 0, 1, 44, 0, [0], []) rfl rfl rfl ?_
        refine bGo hA 2 12 (82, .getfield 92, 3, 45, 0, [6, 12, 0, 0, 0, 0], []) rfl rfl rfl ?_
        refine ⟨rfl, ?_⟩
        refine bGo hA 2 13 (85, .iconst (1), 1, 46, 0, [], [(1, 0)]) rfl rfl rfl ?_
        refine bGo hA 2 14 (86, .isub, 1, 47, 0, [], []) rfl rfl rfl ?_
        refine bGo hA 2 15 (87, .iload 4, 2, 48, 0, [4], []) rfl rfl rfl ?_
        refine bGo hA 3 0 (89, .iconst (1), 1, 49, 0, [], [(1, 0)]) rfl rfl rfl ?_
        refine bGo hA 3 1 (90, .iadd, 1, 50, 0, [], []) rfl rfl rfl ?_
        refine bGo hA 3 2 (91, .invokestatic 107, 3, 51, 1, [2, 141, 3], []) rfl rfl rfl ?_
        refine hC _ _ _ _ _ (bRv_e (fun s13 k14 => ?_)) (k10.2.1 c12)
        show A (51, [.ref 6, v1, .int l2, .int r5, .int r8, .ref r11], [], s13)
        refine bGo hA 3 3 (94, .aload_n 0, 1, 52, 0, [0], []) rfl rfl rfl ?_
        refine bGo hA 3 4 (95, .aload_n 0, 1, 53, 0, [0], []) rfl rfl rfl ?_
        refine bGo hA 3 5 (96, .aload 5, 2, 54, 0, [5], []) rfl rfl rfl ?_
        refine bGo hA 3 6 (98, .iload_n 3, 1, 55, 0, [3], []) rfl rfl rfl ?_
        refine bGo hA 3 7 (99, .aload 5, 2, 56, 0, [5], []) rfl rfl rfl ?_
        refine bGo hA 3 8 (101, .iload 4, 2, 57, 0, [4], []) rfl rfl rfl ?_
        refine bGo hA 3 9 (103, .invokevirtual 111, 3, 58, 0, [0, 8, 112, 1], []) rfl rfl rfl ?_
        refine ⟨k10.1, ?_⟩
        refine hC _ _ _ _ _ (bRi_e (fun r17 s15 k16 => ?_)) k14
        show A (58, [.ref 6, v1, .int l2, .int r5, .int r8, .ref r11], [.int r17, .int r5, .ref r11, .ref 6, .ref 6], s15)
        refine bGo hA 3 10 (106, .invokevirtual 115, 3, 59, 0, [0, 6, 73, 3], []) rfl rfl rfl ?_
        refine ⟨rfl, ?_⟩
        refine hC _ _ _ _ _ (bRi_e (fun r20 s18 k19 => ?_)) k16
        show A (59, [.ref 6, v1, .int l2, .int r5, .int r8, .ref r11], [.int r20, .ref 6], s18)
        refine bGo hA 3 11 (109, .invokevirtual 95, 3, 60, 0, [0, 6, 72, 1], []) rfl rfl rfl ?_
        refine ⟨rfl, ?_⟩
        refine hC _ _ _ _ _ (bRv_e (fun s21 k22 => ?_)) k19
        show A (60, [.ref 6, v1, .int l2, .int r5, .int r8, .ref r11], [], s21)
        refine bGo hA 3 12 (112, .goto (50), 3, 61, 87, [], []) rfl rfl rfl ?_
        refine bGo hA 5 7 (162, .iinc 2 (1), 3, 88, 0, [2], [(1, 0)]) rfl rfl rfl ?_
        refine bGo hA 5 8 (165, .goto (-153), 3, 89, 8, [], []) rfl rfl rfl ?_
        exact k22
      · refine bGo hA 3 13 (115, .aload_n 0, 1, 62, 0, [0], []) rfl rfl rfl ?_
        refine bGo hA 3 14 (116, .getfield 18, 3, 63, 0, [6, 6, 3, 29, 1, 0], []) rfl rfl rfl ?_
        refine ⟨rfl, ?_⟩
        refine bGo hA 3 15 (119, .iload_n 3, 1, 64, 0, [3], []) rfl rfl rfl ?_
        refine bGo hA 4 0 (120, .aload_n 0, 1, 65, 0, [0], []) rfl rfl rfl ?_
        refine bGo hA 4 1 (121, .aload 5, 2, 66, 0, [5], []) rfl rfl rfl ?_
        refine bGo hA 4 2 (123, .iload_n 3, 1, 67, 0, [3], []) rfl rfl rfl ?_
        refine bGo hA 4 3 (124, .invokevirtual 119, 3, 68, 0, [0, 6, 74, 2], []) rfl rfl rfl ?_
        refine ⟨rfl, ?_⟩
        refine hC _ _ _ _ _ (bRi_e (fun r25 s23 k24 => ?_)) (k10.2.2 c12)
        show A (68, [.ref 6, v1, .int l2, .int r5, .int r8, .ref r11], [.int r25, .int r5, .ref 29], s23)
        refine bGo hA 4 4 (127, .invokestatic 107, 3, 69, 1, [2, 141, 3], []) rfl rfl rfl ?_
        refine hC _ _ _ _ _ (bRv_e (fun s26 k27 => ?_)) k24
        show A (69, [.ref 6, v1, .int l2, .int r5, .int r8, .ref r11], [], s26)
        refine bGo hA 4 5 (130, .aload_n 0, 1, 70, 0, [0], []) rfl rfl rfl ?_
        refine bGo hA 4 6 (131, .getfield 15, 3, 71, 0, [6, 5, 3, 28, 1, 0], []) rfl rfl rfl ?_
        refine ⟨rfl, ?_⟩
        refine bGo hA 4 7 (134, .aload_n 0, 1, 72, 0, [0], []) rfl rfl rfl ?_
        refine bGo hA 4 8 (135, .getfield 89, 3, 73, 0, [6, 11, 0, 0, 0, 0], []) rfl rfl rfl ?_
        refine ⟨rfl, ?_⟩
        refine bGo hA 4 9 (138, .iload_n 3, 1, 74, 0, [3], []) rfl rfl rfl ?_
        refine bGo hA 4 10 (139, .invokestatic 107, 3, 75, 1, [2, 141, 3], []) rfl rfl rfl ?_
        refine hC _ _ _ _ _ (bRv_e (fun s28 k29 => ?_)) k27
        show A (75, [.ref 6, v1, .int l2, .int r5, .int r8, .ref r11], [], s28)
        refine bGo hA 4 11 (142, .aload_n 0, 1, 76, 0, [0], []) rfl rfl rfl ?_
        refine bGo hA 4 12 (143, .dup, 1, 77, 0, [], []) rfl rfl rfl ?_
        refine bGo hA 4 13 (144, .getfield 89, 3, 78, 0, [6, 11, 0, 0, 0, 0], []) rfl rfl rfl ?_
        refine ⟨rfl, ?_⟩
        refine bGo hA 4 14 (147, .iconst (1), 1, 79, 0, [], [(1, 0)]) rfl rfl rfl ?_
        refine bGo hA 4 15 (148, .iadd, 1, 80, 0, [], []) rfl rfl rfl ?_
        refine bGo hA 5 0 (149, .putfield 89, 3, 81, 0, [6, 11, 0, 0, 0, 0], []) rfl rfl rfl ?_
        refine ⟨rfl, ?_⟩
        refine bGo hA 5 1 (152, .aload_n 0, 1, 82, 0, [0], []) rfl rfl rfl ?_
        refine bGo hA 5 2 (153, .dup, 1, 83, 0, [], []) rfl rfl rfl ?_
        refine bGo hA 5 3 (154, .getfield 92, 3, 84, 0, [6, 12, 0, 0, 0, 0], []) rfl rfl rfl ?_
        refine ⟨rfl, ?_⟩
        refine bGo hA 5 4 (157, .iconst (1), 1, 85, 0, [], [(1, 0)]) rfl rfl rfl ?_
        refine bGo hA 5 5 (158, .isub, 1, 86, 0, [], []) rfl rfl rfl ?_
        refine bGo hA 5 6 (159, .putfield 92, 3, 87, 0, [6, 12, 0, 0, 0, 0], []) rfl rfl rfl ?_
        refine ⟨rfl, ?_⟩
        refine bGo hA 5 7 (162, .iinc 2 (1), 3, 88, 0, [2], [(1, 0)]) rfl rfl rfl ?_
        refine bGo hA 5 8 (165, .goto (-153), 3, 89, 8, [], []) rfl rfl rfl ?_
        exact k29
    · refine bGo hA 5 9 (168, .return_, 1, 0, 0, [0], []) rfl rfl rfl ?_
      exact ((h.1 c1).2 c2)
  · refine bGo hA 5 9 (168, .return_, 1, 0, 0, [0], []) rfl rfl rfl ?_
    exact (h.2 c1)

theorem sg72_0 {lvl : Nat} {C : bCall} {Q : bPost} {A : bPt → Prop} (hC : bMono C) (hA : bClosed lvl bm72 C Q A) {x1 : Int32} {σ : bSt} 
  (h : ((x1 = (-1) → Q (.inl none) σ) ∧ (¬ x1 = (-1) → (C 140 [.ref 27, .int x1] σ (bRi (fun r4 s2 => ((r4 = (s2.1 6 10) → Q (.inl none) s2) ∧ (¬ r4 = (s2.1 6 10) → (C 141 [.ref 27, .int x1, .int (s2.1 6 10)] s2 (bRv (fun s6 => (C 141 [.ref 31, .int (s6.1 6 12), .int x1] s6 (bRv (fun s8 => (C 141 [.ref 32, .int (s8.1 6 12), .int 0] s8 (bRv (fun s10 => Q (.inl none) (bI s10 6 12 ((s10.1 6 12) + 1))))))))))))))))))) : A (0, [.ref 6, .int x1], [], σ) := by
  refine bGo hA 0 0 (0, .iload_n 1, 1, 1, 0, [1], []) rfl rfl rfl ?_
  refine bGo hA 0 1 (1, .iconst (-1), 1, 2, 0, [], [(-1, 0)]) rfl rfl rfl ?_
  refine bGo hA 0 2 (2, .if_icmp .eq (64), 3, 3, 34, [], []) rfl rfl rfl ?_
  refine ⟨fun c1 => ?_, fun c1 => ?_⟩
  · refine bGo hA 2 2 (66, .return_, 1, 0, 0, [0], []) rfl rfl rfl ?_
    exact (h.1 c1)
  · refine bGo hA 0 3 (5, .aload_n 0, 1, 4, 0, [0], []) rfl rfl rfl ?_
    refine bGo hA 0 4 (6, .getfield 9, 3, 5, 0, [6, 4, 3, 27, 1, 0], []) rfl rfl rfl ?_
    refine ⟨rfl, ?_⟩
    refine bGo hA 0 5 (9, .iload_n 1, 1, 6, 0, [1], []) rfl rfl rfl ?_
    refine bGo hA 0 6 (10, .invokestatic 100, 3, 7, 1, [2, 140, 2], []) rfl rfl rfl ?_
    refine hC _ _ _ _ _ (bRi_e (fun r4 s2 k3 => ?_)) (h.2 c1)
    show A (7, [.ref 6, .int x1], [.int r4], s2)
    refine bGo hA 0 7 (13, .aload_n 0, 1, 8, 0, [0], []) rfl rfl rfl ?_
    refine bGo hA 0 8 (14, .getfield 86, 3, 9, 0, [6, 10, 0, 0, 0, 0], []) rfl rfl rfl ?_
    refine ⟨rfl, ?_⟩
    refine bGo hA 0 9 (17, .if_icmp .eq (49), 3, 10, 34, [], []) rfl rfl rfl ?_
    refine ⟨fun c5 => ?_, fun c5 => ?_⟩
    · refine bGo hA 2 2 (66, .return_, 1, 0, 0, [0], []) rfl rfl rfl ?_
      exact (k3.1 c5)
    · refine bGo hA 0 10 (20, .aload_n 0, 1, 11, 0, [0], []) rfl rfl rfl ?_
      refine bGo hA 0 11 (21, .getfield 9, 3, 12, 0, [6, 4, 3, 27, 1, 0], []) rfl rfl rfl ?_
      refine ⟨rfl, ?_⟩
      refine bGo hA 0 12 (24, .iload_n 1, 1, 13, 0, [1], []) rfl rfl rfl ?_
      refine bGo hA 0 13 (25, .aload_n 0, 1, 14, 0, [0], []) rfl rfl rfl ?_
      refine bGo hA 0 14 (26, .getfield 86, 3, 15, 0, [6, 10, 0, 0, 0, 0], []) rfl rfl rfl ?_
      refine ⟨rfl, ?_⟩
      refine bGo hA 0 15 (29, .invokestatic 107, 3, 16, 1, [2, 141, 3], []) rfl rfl rfl ?_
      refine hC _ _ _ _ _ (bRv_e (fun s6 k7 => ?_)) (k3.2 c5)
      show A (16, [.ref 6, .int x1], [], s6)
      refine bGo hA 1 0 (32, .aload_n 0, 1, 17, 0, [0], []) rfl rfl rfl ?_
      refine bGo hA 1 1 (33, .getfield 24, 3, 18, 0, [6, 8, 3, 31, 1, 0], []) rfl rfl rfl ?_
      refine ⟨rfl, ?_⟩
      refine bGo hA 1 2 (36, .aload_n 0, 1, 19, 0, [0], []) rfl rfl rfl ?_
      refine bGo hA 1 3 (37, .getfield 92, 3, 20, 0, [6, 12, 0, 0, 0, 0], []) rfl rfl rfl ?_
      refine ⟨rfl, ?_⟩
      refine bGo hA 1 4 (40, .iload_n 1, 1, 21, 0, [1], []) rfl rfl rfl ?_
      refine bGo hA 1 5 (41, .invokestatic 107, 3, 22, 1, [2, 141, 3], []) rfl rfl rfl ?_
      refine hC _ _ _ _ _ (bRv_e (fun s8 k9 => ?_)) k7
      show A (22, [.ref 6, .int x1], [], s8)
      refine bGo hA 1 6 (44, .aload_n 0, 1, 23, 0, [0], []) rfl rfl rfl ?_
      refine bGo hA 1 7 (45, .getfield 27, 3, 24, 0, [6, 9, 3, 32, 1, 0], []) rfl rfl rfl ?_
      refine ⟨rfl, ?_⟩
      refine bGo hA 1 8 (48, .aload_n 0, 1, 25, 0, [0], []) rfl rfl rfl ?_
      refine bGo hA 1 9 (49, .getfield 92, 3, 26, 0, [6, 12, 0, 0, 0, 0], []) rfl rfl rfl ?_
      refine ⟨rfl, ?_⟩
      refine bGo hA 1 10 (52, .iconst (0), 1, 27, 0, [], [(0, 0)]) rfl rfl rfl ?_
      refine bGo hA 1 11 (53, .invokestatic 107, 3, 28, 1, [2, 141, 3], []) rfl rfl rfl ?_
      refine hC _ _ _ _ _ (bRv_e (fun s10 k11 => ?_)) k9
      show A (28, [.ref 6, .int x1], [], s10)
      refine bGo hA 1 12 (56, .aload_n 0, 1, 29, 0, [0], []) rfl rfl rfl ?_
      refine bGo hA 1 13 (57, .dup, 1, 30, 0, [], []) rfl rfl rfl ?_
      refine bGo hA 1 14 (58, .getfield 92, 3, 31, 0, [6, 12, 0, 0, 0, 0], []) rfl rfl rfl ?_
      refine ⟨rfl, ?_⟩
      refine bGo hA 1 15 (61, .iconst (1), 1, 32, 0, [], [(1, 0)]) rfl rfl rfl ?_
      refine bGo hA 2 0 (62, .iadd, 1, 33, 0, [], []) rfl rfl rfl ?_
      refine bGo hA 2 1 (63, .putfield 92, 3, 34, 0, [6, 12, 0, 0, 0, 0], []) rfl rfl rfl ?_
      refine ⟨rfl, ?_⟩
      refine bGo hA 2 2 (66, .return_, 1, 0, 0, [0], []) rfl rfl rfl ?_
      exact k11

theorem sg73_0 {lvl : Nat} {C : bCall} {Q : bPost} {A : bPt → Prop} (hC : bMono C) (hA : bClosed lvl bm73 C Q A) {a1 : Nat} {x2 : Int32} {x3 : Int32} {σ : bSt} (h_a1 : a1 % 256 = 8)
  (h : (((x3 - 100) < 0 → Q (.inl (some (.int (-1)))) σ) ∧ (¬ (x3 - 100) < 0 → (((x3 - 100) < 16 → (C 117 [.ref a1, .int (x2 &&& 255)] σ (bRi (fun r5 s3 => Q (.inl (some (.int (((x3 - 100) * 256) + r5)))) s3)))) ∧ (¬ (x3 - 100) < 16 → Q (.inl (some (.int (-1)))) σ))))) : A (0, [.ref 6, .ref a1, .int x2, .int x3, .float 0], [], σ) := by
  refine bGo hA 0 0 (0, .iload_n 3, 1, 1, 0, [3], []) rfl rfl rfl ?_
  refine bGo hA 0 1 (1, .bipush (100), 2, 2, 0, [], [(100, 0)]) rfl rfl rfl ?_
  refine bGo hA 0 2 (3, .isub, 1, 3, 0, [], []) rfl rfl rfl ?_
  refine bGo hA 0 3 (4, .istore 4, 2, 4, 0, [4], []) rfl rfl rfl ?_
  refine bGo hA 0 4 (6, .iload 4, 2, 5, 0, [4], []) rfl rfl rfl ?_
  refine bGo hA 0 5 (8, .ifCond .lt (29), 3, 6, 19, [], []) rfl rfl rfl ?_
  refine ⟨fun c1 => ?_, fun c1 => ?_⟩
  · refine bGo hA 1 3 (37, .iconst (-1), 1, 20, 0, [], [(-1, 0)]) rfl rfl rfl ?_
    refine bGo hA 1 4 (38, .ireturn, 1, 0, 0, [1], []) rfl rfl rfl ?_
    exact (h.1 c1)
  · refine bGo hA 0 6 (11, .iload 4, 2, 7, 0, [4], []) rfl rfl rfl ?_
    refine bGo hA 0 7 (13, .bipush (16), 2, 8, 0, [], [(16, 0)]) rfl rfl rfl ?_
    refine bGo hA 0 8 (15, .if_icmp .ge (22), 3, 9, 19, [], []) rfl rfl rfl ?_
    refine ⟨fun c2 => ?_, fun c2 => ?_⟩
    · refine bGo hA 0 9 (18, .iload 4, 2, 10, 0, [4], []) rfl rfl rfl ?_
      refine bGo hA 0 10 (20, .sipush (256), 3, 11, 0, [], [(256, 0)]) rfl rfl rfl ?_
      refine bGo hA 0 11 (23, .imul, 1, 12, 0, [], []) rfl rfl rfl ?_
      refine bGo hA 0 12 (24, .aload_n 1, 1, 13, 0, [1], []) rfl rfl rfl ?_
      refine bGo hA 0 13 (25, .iload_n 2, 1, 14, 0, [2], []) rfl rfl rfl ?_
      refine bGo hA 0 14 (26, .sipush (255), 3, 15, 0, [], [(255, 0)]) rfl rfl rfl ?_
      refine bGo hA 0 15 (29, .iand, 1, 16, 0, [], []) rfl rfl rfl ?_
      refine bGo hA 1 0 (30, .invokevirtual 123, 3, 17, 0, [0, 8, 117, 1], []) rfl rfl rfl ?_
      refine ⟨h_a1, ?_⟩
      refine hC _ _ _ _ _ (bRi_e (fun r5 s3 k4 => ?_)) ((h.2 c1).1 c2)
      show A (17, [.ref 6, .ref a1, .int x2, .int x3, .int (x3 - 100)], [.int r5, .int ((x3 - 100) * 256)], s3)
      refine bGo hA 1 1 (33, .iadd, 1, 18, 0, [], []) rfl rfl rfl ?_
      refine bGo hA 1 2 (34, .goto (4), 3, 19, 20, [], []) rfl rfl rfl ?_
      refine bGo hA 1 4 (38, .ireturn, 1, 0, 0, [1], []) rfl rfl rfl ?_
      exact k4
    · refine bGo hA 1 3 (37, .iconst (-1), 1, 20, 0, [], [(-1, 0)]) rfl rfl rfl ?_
      refine bGo hA 1 4 (38, .ireturn, 1, 0, 0, [1], []) rfl rfl rfl ?_
      exact ((h.2 c1).2 c2)

theorem sg74_0 {lvl : Nat} {C : bCall} {Q : bPost} {A : bPt → Prop} (hC : bMono C) (hA : bClosed lvl bm74 C Q A) {a1 : Nat} {x2 : Int32} {σ : bSt} (h_a1 : a1 % 256 = 8)
  (h : (C 33 [.ref 3, .int (σ.1 a1 0)] σ (bRi (fun r3 s1 => ((r3 = 0 → Q (.inl (some (.int 1))) s1) ∧ (¬ r3 = 0 → (C 116 [.ref a1, .int (x2 &&& 255)] s1 (bRi (fun r7 s5 => ((r7 = (-1) → Q (.inl (some (.int 2))) s5) ∧ (¬ r7 = (-1) → (C 75 [.ref 6, .ref a1, .int x2] s5 (bRi (fun r11 s9 => ((r11 = (-1) → Q (.inl (some (.int 3))) s9) ∧ (¬ r11 = (-1) → A (29, [.ref 6, .ref a1, .int x2, .int 0, .int 0, .float 0, .float 0], [], s9))))))))))))))))) : A (0, [.ref 6, .ref a1, .int x2, .float 0, .float 0, .float 0, .float 0], [], σ) := by
  refine bGo hA 0 0 (0, .aload_n 0, 1, 1, 0, [0], []) rfl rfl rfl ?_
  refine bGo hA 0 1 (1, .getfield 41, 3, 2, 0, [6, 0, 3, 3, 0, 0], []) rfl rfl rfl ?_
  refine ⟨rfl, ?_⟩
  refine bGo hA 0 2 (4, .aload_n 1, 1, 3, 0, [1], []) rfl rfl rfl ?_
  refine bGo hA 0 3 (5, .getfield 126, 3, 4, 0, [8, 0, 0, 0, 0, 0], []) rfl rfl rfl ?_
  refine ⟨h_a1, ?_⟩
  refine bGo hA 0 4 (8, .invokevirtual 129, 3, 5, 0, [0, 3, 33, 1], []) rfl rfl rfl ?_
  refine ⟨rfl, ?_⟩
  refine hC _ _ _ _ _ (bRi_e (fun r3 s1 k2 => ?_)) h
  show A (5, [.ref 6, .ref a1, .int x2, .float 0, .float 0, .float 0, .float 0], [.int r3], s1)
  refine bGo hA 0 5 (11, .ifCond .ne (5), 3, 6, 8, [], []) rfl rfl rfl ?_
  refine ⟨fun c4 => ?_, fun c4 => ?_⟩
  · refine bGo hA 0 6 (14, .iconst (1), 1, 7, 0, [], [(1, 0)]) rfl rfl rfl ?_
    refine bGo hA 0 7 (15, .ireturn, 1, 8, 0, [1], []) rfl rfl rfl ?_
    exact (k2.1 c4)
  · refine bGo hA 0 8 (16, .aload_n 1, 1, 9, 0, [1], []) rfl rfl rfl ?_
    refine bGo hA 0 9 (17, .iload_n 2, 1, 10, 0, [2], []) rfl rfl rfl ?_
    refine bGo hA 0 10 (18, .sipush (255), 3, 11, 0, [], [(255, 0)]) rfl rfl rfl ?_
    refine bGo hA 0 11 (21, .iand, 1, 12, 0, [], []) rfl rfl rfl ?_
    refine bGo hA 0 12 (22, .invokevirtual 135, 3, 13, 0, [0, 8, 116, 1], []) rfl rfl rfl ?_
    refine ⟨h_a1, ?_⟩
    refine hC _ _ _ _ _ (bRi_e (fun r7 s5 k6 => ?_)) (k2.2 c4)
    show A (13, [.ref 6, .ref a1, .int x2, .float 0, .float 0, .float 0, .float 0], [.int r7], s5)
    refine bGo hA 0 13 (25, .iconst (-1), 1, 14, 0, [], [(-1, 0)]) rfl rfl rfl ?_
    refine bGo hA 0 14 (26, .if_icmp .ne (5), 3, 15, 17, [], []) rfl rfl rfl ?_
    refine ⟨fun c8 => ?_, fun c8 => ?_⟩
    · refine bGo hA 0 15 (29, .iconst (2), 1, 16, 0, [], [(2, 0)]) rfl rfl rfl ?_
      refine bGo hA 1 0 (30, .ireturn, 1, 17, 0, [1], []) rfl rfl rfl ?_
      exact (k6.1 c8)
    · refine bGo hA 1 1 (31, .aload_n 0, 1, 18, 0, [0], []) rfl rfl rfl ?_
      refine bGo hA 1 2 (32, .aload_n 1, 1, 19, 0, [1], []) rfl rfl rfl ?_
      refine bGo hA 1 3 (33, .iload_n 2, 1, 20, 0, [2], []) rfl rfl rfl ?_
      refine bGo hA 1 4 (34, .invokevirtual 138, 3, 21, 0, [0, 6, 75, 2], []) rfl rfl rfl ?_
      refine ⟨rfl, ?_⟩
      refine hC _ _ _ _ _ (bRi_e (fun r11 s9 k10 => ?_)) (k6.2 c8)
      show A (21, [.ref 6, .ref a1, .int x2, .float 0, .float 0, .float 0, .float 0], [.int r11], s9)
      refine bGo hA 1 5 (37, .iconst (-1), 1, 22, 0, [], [(-1, 0)]) rfl rfl rfl ?_
      refine bGo hA 1 6 (38, .if_icmp .ne (5), 3, 23, 25, [], []) rfl rfl rfl ?_
      refine ⟨fun c12 => ?_, fun c12 => ?_⟩
      · refine bGo hA 1 7 (41, .iconst (3), 1, 24, 0, [], [(3, 0)]) rfl rfl rfl ?_
        refine bGo hA 1 8 (42, .ireturn, 1, 25, 0, [1], []) rfl rfl rfl ?_
        exact (k10.1 c12)
      · refine bGo hA 1 9 (43, .iconst (0), 1, 26, 0, [], [(0, 0)]) rfl rfl rfl ?_
        refine bGo hA 1 10 (44, .istore_n 3, 1, 27, 0, [3], []) rfl rfl rfl ?_
        refine bGo hA 1 11 (45, .iconst (0), 1, 28, 0, [], [(0, 0)]) rfl rfl rfl ?_
        refine bGo hA 1 12 (46, .istore 4, 2, 29, 0, [4], []) rfl rfl rfl ?_
        exact (k10.2 c12)

theorem sg74_29 {lvl : Nat} {C : bCall} {Q : bPost} {A : bPt → Prop} (hC : bMono C) (hA : bClosed lvl bm74 C Q A) {l1 : Nat} {l2 : Int32} {l3 : Int32} {l4 : Int32} {v5 : Value} {v6 : Value} {σ : bSt} 
  (h : (l1 % 256 = 8 ∧ ((l4 < (σ.1 l1 13) → (C 112 [.ref l1, .int l4] σ (bRi (fun r4 s2 => (C 76 [.ref 6, .ref l1, .int l2, .int r4] s2 (bRi (fun r7 s5 => ((r7 = 0 → ((r4 < 1000 → A (29, [.ref 6, .ref l1, .int l2, .int (l3 + 1), .int (l4 + 1), .int r4, .int r7], [], s5)) ∧ (¬ r4 < 1000 → (C 77 [.ref 6, .ref l1, .int r4] s5 (bRj (fun r12 s10 => (C 358 [.long r12] s10 (bRi (fun r15 s13 => A (29, [.ref 6, .ref l1, .int l2, .int (l3 + r15), .int (l4 + 1), .int r4, .int r7], [], s13)))))))))) ∧ (¬ r7 = 0 → Q (.inl (some (.int r7))) s5))))))))) ∧ (¬ l4 < (σ.1 l1 13) → ((40 < l3 → Q (.inl (some (.int 7))) σ) ∧ (¬ 40 < l3 → Q (.inl (some (.int 0))) σ)))))) : A (29, [.ref 6, .ref l1, .int l2, .int l3, .int l4, v5, v6], [], σ) := by
  refine bGo hA 1 13 (48, .iload 4, 2, 30, 0, [4], []) rfl rfl rfl ?_
  refine bGo hA 1 14 (50, .aload_n 1, 1, 31, 0, [1], []) rfl rfl rfl ?_
  refine bGo hA 1 15 (51, .getfield 104, 3, 32, 0, [8, 13, 0, 0, 0, 0], []) rfl rfl rfl ?_
  refine ⟨h.1, ?_⟩
  refine bGo hA 2 0 (54, .if_icmp .ge (60), 3, 33, 62, [], []) rfl rfl rfl ?_
  refine ⟨fun c1 => ?_, fun c1 => ?_⟩
  · refine bGo hA 2 1 (57, .aload_n 1, 1, 34, 0, [1], []) rfl rfl rfl ?_
    refine bGo hA 2 2 (58, .iload 4, 2, 35, 0, [4], []) rfl rfl rfl ?_
    refine bGo hA 2 3 (60, .invokevirtual 111, 3, 36, 0, [0, 8, 112, 1], []) rfl rfl rfl ?_
    refine ⟨h.1, ?_⟩
    refine hC _ _ _ _ _ (bRi_e (fun r4 s2 k3 => ?_)) (h.2.1 c1)
    show A (36, [.ref 6, .ref l1, .int l2, .int l3, .int l4, v5, v6], [.int r4], s2)
    refine bGo hA 2 4 (63, .istore 5, 2, 37, 0, [5], []) rfl rfl rfl ?_
    refine bGo hA 2 5 (65, .aload_n 0, 1, 38, 0, [0], []) rfl rfl rfl ?_
    refine bGo hA 2 6 (66, .aload_n 1, 1, 39, 0, [1], []) rfl rfl rfl ?_
    refine bGo hA 2 7 (67, .iload_n 2, 1, 40, 0, [2], []) rfl rfl rfl ?_
    refine bGo hA 2 8 (68, .iload 5, 2, 41, 0, [5], []) rfl rfl rfl ?_
    refine bGo hA 2 9 (70, .invokevirtual 141, 3, 42, 0, [0, 6, 76, 3], []) rfl rfl rfl ?_
    refine ⟨rfl, ?_⟩
    refine hC _ _ _ _ _ (bRi_e (fun r7 s5 k6 => ?_)) k3
    show A (42, [.ref 6, .ref l1, .int l2, .int l3, .int l4, .int r4, v6], [.int r7], s5)
    refine bGo hA 2 10 (73, .istore 6, 2, 43, 0, [6], []) rfl rfl rfl ?_
    refine bGo hA 2 11 (75, .iload 6, 2, 44, 0, [6], []) rfl rfl rfl ?_
    refine bGo hA 2 12 (77, .ifCond .eq (6), 3, 45, 47, [], []) rfl rfl rfl ?_
    refine ⟨fun c8 => ?_, fun c8 => ?_⟩
    · refine bGo hA 2 15 (83, .iload_n 3, 1, 48, 0, [3], []) rfl rfl rfl ?_
      refine bGo hA 3 0 (84, .iload 5, 2, 49, 0, [5], []) rfl rfl rfl ?_
      refine bGo hA 3 1 (86, .sipush (1000), 3, 50, 0, [], [(1000, 0)]) rfl rfl rfl ?_
      refine bGo hA 3 2 (89, .if_icmp .ge (7), 3, 51, 53, [], []) rfl rfl rfl ?_
      refine ⟨fun c9 => ?_, fun c9 => ?_⟩
      · refine bGo hA 3 3 (92, .iconst (1), 1, 52, 0, [], [(1, 0)]) rfl rfl rfl ?_
        refine bGo hA 3 4 (93, .goto (13), 3, 53, 58, [], []) rfl rfl rfl ?_
        refine bGo hA 3 10 (106, .iadd, 1, 59, 0, [], []) rfl rfl rfl ?_
        refine bGo hA 3 11 (107, .istore_n 3, 1, 60, 0, [3], []) rfl rfl rfl ?_
        refine bGo hA 3 12 (108, .iinc 4 (1), 3, 61, 0, [4], [(1, 0)]) rfl rfl rfl ?_
        refine bGo hA 3 13 (111, .goto (-63), 3, 62, 29, [], []) rfl rfl rfl ?_
        exact ((k6.1 c8).1 c9)
      · refine bGo hA 3 5 (96, .aload_n 0, 1, 54, 0, [0], []) rfl rfl rfl ?_
        refine bGo hA 3 6 (97, .aload_n 1, 1, 55, 0, [1], []) rfl rfl rfl ?_
        refine bGo hA 3 7 (98, .iload 5, 2, 56, 0, [5], []) rfl rfl rfl ?_
        refine bGo hA 3 8 (100, .invokevirtual 144, 3, 57, 0, [0, 6, 77, 2], []) rfl rfl rfl ?_
        refine ⟨rfl, ?_⟩
        refine hC _ _ _ _ _ (bRj_e (fun r12 s10 k11 => ?_)) ((k6.1 c8).2 c9)
        show A (57, [.ref 6, .ref l1, .int l2, .int l3, .int l4, .int r4, .int r7], [.long r12, .int l3], s10)
        refine bGo hA 3 9 (103, .invokestatic 148, 3, 58, 0, [2, 358, 1], []) rfl rfl rfl ?_
        refine hC _ _ _ _ _ (bRi_e (fun r15 s13 k14 => ?_)) k11
        show A (58, [.ref 6, .ref l1, .int l2, .int l3, .int l4, .int r4, .int r7], [.int r15, .int l3], s13)
        refine bGo hA 3 10 (106, .iadd, 1, 59, 0, [], []) rfl rfl rfl ?_
        refine bGo hA 3 11 (107, .istore_n 3, 1, 60, 0, [3], []) rfl rfl rfl ?_
        refine bGo hA 3 12 (108, .iinc 4 (1), 3, 61, 0, [4], [(1, 0)]) rfl rfl rfl ?_
        refine bGo hA 3 13 (111, .goto (-63), 3, 62, 29, [], []) rfl rfl rfl ?_
        exact k14
    · refine bGo hA 2 13 (80, .iload 6, 2, 46, 0, [6], []) rfl rfl rfl ?_
      refine bGo hA 2 14 (82, .ireturn, 1, 47, 0, [1], []) rfl rfl rfl ?_
      exact (k6.2 c8)
  · refine bGo hA 3 14 (114, .iload_n 3, 1, 63, 0, [3], []) rfl rfl rfl ?_
    refine bGo hA 3 15 (115, .bipush (40), 2, 64, 0, [], [(40, 0)]) rfl rfl rfl ?_
    refine bGo hA 4 0 (117, .if_icmp .le (8), 3, 65, 67, [], []) rfl rfl rfl ?_
    refine ⟨fun c16 => ?_, fun c16 => ?_⟩
    · refine bGo hA 4 1 (120, .bipush (7), 2, 66, 0, [], [(7, 0)]) rfl rfl rfl ?_
      refine bGo hA 4 2 (122, .goto (4), 3, 67, 68, [], []) rfl rfl rfl ?_
      refine bGo hA 4 4 (126, .ireturn, 1, 0, 0, [1], []) rfl rfl rfl ?_
      exact ((h.2.2 c1).1 c16)
    · refine bGo hA 4 3 (125, .iconst (0), 1, 68, 0, [], [(0, 0)]) rfl rfl rfl ?_
      refine bGo hA 4 4 (126, .ireturn, 1, 0, 0, [1], []) rfl rfl rfl ?_
      exact ((h.2.2 c1).2 c16)

theorem sg75_0 {lvl : Nat} {C : bCall} {Q : bPost} {A : bPt → Prop} (hC : bMono C) (hA : bClosed lvl bm75 C Q A) {a1 : Nat} {x2 : Int32} {σ : bSt} (h_a1 : a1 % 256 = 8)
  (h : (((σ.1 a1 5) = (-1) → Q (.inl (some (.int 0))) σ) ∧ (¬ (σ.1 a1 5) = (-1) → (C 134 [.ref 10, .int (σ.1 a1 5), .int (x2 &&& 255)] σ (bRi (fun r4 s2 => Q (.inl (some (.int r4))) s2)))))) : A (0, [.ref 6, .ref a1, .int x2], [], σ) := by
  refine bGo hA 0 0 (0, .aload_n 1, 1, 1, 0, [1], []) rfl rfl rfl ?_
  refine bGo hA 0 1 (1, .getfield 154, 3, 2, 0, [8, 5, 0, 0, 0, 0], []) rfl rfl rfl ?_
  refine ⟨h_a1, ?_⟩
  refine bGo hA 0 2 (4, .iconst (-1), 1, 3, 0, [], [(-1, 0)]) rfl rfl rfl ?_
  refine bGo hA 0 3 (5, .if_icmp .ne (7), 3, 4, 6, [], []) rfl rfl rfl ?_
  refine ⟨fun c1 => ?_, fun c1 => ?_⟩
  · refine bGo hA 0 4 (8, .iconst (0), 1, 5, 0, [], [(0, 0)]) rfl rfl rfl ?_
    refine bGo hA 0 5 (9, .goto (19), 3, 6, 14, [], []) rfl rfl rfl ?_
    refine bGo hA 0 14 (28, .ireturn, 1, 0, 0, [1], []) rfl rfl rfl ?_
    exact (h.1 c1)
  · refine bGo hA 0 6 (12, .aload_n 0, 1, 7, 0, [0], []) rfl rfl rfl ?_
    refine bGo hA 0 7 (13, .getfield 49, 3, 8, 0, [6, 2, 3, 10, 0, 0], []) rfl rfl rfl ?_
    refine ⟨rfl, ?_⟩
    refine bGo hA 0 8 (16, .aload_n 1, 1, 9, 0, [1], []) rfl rfl rfl ?_
    refine bGo hA 0 9 (17, .getfield 154, 3, 10, 0, [8, 5, 0, 0, 0, 0], []) rfl rfl rfl ?_
    refine ⟨h_a1, ?_⟩
    refine bGo hA 0 10 (20, .iload_n 2, 1, 11, 0, [2], []) rfl rfl rfl ?_
    refine bGo hA 0 11 (21, .sipush (255), 3, 12, 0, [], [(255, 0)]) rfl rfl rfl ?_
    refine bGo hA 0 12 (24, .iand, 1, 13, 0, [], []) rfl rfl rfl ?_
    refine bGo hA 0 13 (25, .invokevirtual 157, 3, 14, 0, [0, 10, 134, 2], []) rfl rfl rfl ?_
    refine ⟨rfl, ?_⟩
    refine hC _ _ _ _ _ (bRi_e (fun r4 s2 k3 => ?_)) (h.2 c1)
    show A (14, [.ref 6, .ref a1, .int x2], [.int r4], s2)
    refine bGo hA 0 14 (28, .ireturn, 1, 0, 0, [1], []) rfl rfl rfl ?_
    exact k3

theorem sg76_0 {lvl : Nat} {C : bCall} {Q : bPost} {A : bPt → Prop} (hC : bMono C) (hA : bClosed lvl bm76 C Q A) {a1 : Nat} {x2 : Int32} {x3 : Int32} {σ : bSt} (h_a1 : a1 % 256 = 8)
  (h : ((x3 < 100 → (C 35 [.ref 3, .int x3] σ (bRi (fun r4 s2 => ((r4 = (s2.1 a1 0) → (C 31 [.ref 3, .int x3] s2 (bRi (fun r8 s6 => ((r8 = (-1) → Q (.inl (some (.int 5))) s6) ∧ (¬ r8 = (-1) → Q (.inl (some (.int 0))) s6)))))) ∧ (¬ r4 = (s2.1 a1 0) → Q (.inl (some (.int 4))) s2)))))) ∧ (¬ x3 < 100 → (C 73 [.ref 6, .ref a1, .int x2, .int x3] σ (bRi (fun r12 s10 => ((r12 = (-1) → Q (.inl (some (.int 0))) s10) ∧ (¬ r12 = (-1) → (C 140 [.ref 29, .int r12] s10 (bRi (fun r16 s14 => ((r16 = 0 → Q (.inl (some (.int 0))) s14) ∧ (¬ r16 = 0 → Q (.inl (some (.int (6 + (r12 * 8))))) s14))))))))))))) : A (0, [.ref 6, .ref a1, .int x2, .int x3, .float 0], [], σ) := by
  refine bGo hA 0 0 (0, .iload_n 3, 1, 1, 0, [3], []) rfl rfl rfl ?_
  refine bGo hA 0 1 (1, .bipush (100), 2, 2, 0, [], [(100, 0)]) rfl rfl rfl ?_
  refine bGo hA 0 2 (3, .if_icmp .ge (38), 3, 3, 22, [], []) rfl rfl rfl ?_
  refine ⟨fun c1 => ?_, fun c1 => ?_⟩
  · refine bGo hA 0 3 (6, .aload_n 0, 1, 4, 0, [0], []) rfl rfl rfl ?_
    refine bGo hA 0 4 (7, .getfield 41, 3, 5, 0, [6, 0, 3, 3, 0, 0], []) rfl rfl rfl ?_
    refine ⟨rfl, ?_⟩
    refine bGo hA 0 5 (10, .iload_n 3, 1, 6, 0, [3], []) rfl rfl rfl ?_
    refine bGo hA 0 6 (11, .invokevirtual 160, 3, 7, 0, [0, 3, 35, 1], []) rfl rfl rfl ?_
    refine ⟨rfl, ?_⟩
    refine hC _ _ _ _ _ (bRi_e (fun r4 s2 k3 => ?_)) (h.1 c1)
    show A (7, [.ref 6, .ref a1, .int x2, .int x3, .float 0], [.int r4], s2)
    refine bGo hA 0 7 (14, .aload_n 1, 1, 8, 0, [1], []) rfl rfl rfl ?_
    refine bGo hA 0 8 (15, .getfield 126, 3, 9, 0, [8, 0, 0, 0, 0, 0], []) rfl rfl rfl ?_
    refine ⟨h_a1, ?_⟩
    refine bGo hA 0 9 (18, .if_icmp .eq (5), 3, 10, 12, [], []) rfl rfl rfl ?_
    refine ⟨fun c5 => ?_, fun c5 => ?_⟩
    · refine bGo hA 0 12 (23, .aload_n 0, 1, 13, 0, [0], []) rfl rfl rfl ?_
      refine bGo hA 0 13 (24, .getfield 41, 3, 14, 0, [6, 0, 3, 3, 0, 0], []) rfl rfl rfl ?_
      refine ⟨rfl, ?_⟩
      refine bGo hA 0 14 (27, .iload_n 3, 1, 15, 0, [3], []) rfl rfl rfl ?_
      refine bGo hA 0 15 (28, .invokevirtual 163, 3, 16, 0, [0, 3, 31, 1], []) rfl rfl rfl ?_
      refine ⟨rfl, ?_⟩
      refine hC _ _ _ _ _ (bRi_e (fun r8 s6 k7 => ?_)) (k3.1 c5)
      show A (16, [.ref 6, .ref a1, .int x2, .int x3, .float 0], [.int r8], s6)
      refine bGo hA 1 0 (31, .iconst (-1), 1, 17, 0, [], [(-1, 0)]) rfl rfl rfl ?_
      refine bGo hA 1 1 (32, .if_icmp .ne (7), 3, 18, 20, [], []) rfl rfl rfl ?_
      refine ⟨fun c9 => ?_, fun c9 => ?_⟩
      · refine bGo hA 1 2 (35, .iconst (5), 1, 19, 0, [], [(5, 0)]) rfl rfl rfl ?_
        refine bGo hA 1 3 (36, .goto (4), 3, 20, 21, [], []) rfl rfl rfl ?_
        refine bGo hA 1 5 (40, .ireturn, 1, 22, 0, [1], []) rfl rfl rfl ?_
        exact (k7.1 c9)
      · refine bGo hA 1 4 (39, .iconst (0), 1, 21, 0, [], [(0, 0)]) rfl rfl rfl ?_
        refine bGo hA 1 5 (40, .ireturn, 1, 22, 0, [1], []) rfl rfl rfl ?_
        exact (k7.2 c9)
    · refine bGo hA 0 10 (21, .iconst (4), 1, 11, 0, [], [(4, 0)]) rfl rfl rfl ?_
      refine bGo hA 0 11 (22, .ireturn, 1, 12, 0, [1], []) rfl rfl rfl ?_
      exact (k3.2 c5)
  · refine bGo hA 1 6 (41, .aload_n 0, 1, 23, 0, [0], []) rfl rfl rfl ?_
    refine bGo hA 1 7 (42, .aload_n 1, 1, 24, 0, [1], []) rfl rfl rfl ?_
    refine bGo hA 1 8 (43, .iload_n 2, 1, 25, 0, [2], []) rfl rfl rfl ?_
    refine bGo hA 1 9 (44, .iload_n 3, 1, 26, 0, [3], []) rfl rfl rfl ?_
    refine bGo hA 1 10 (45, .invokevirtual 115, 3, 27, 0, [0, 6, 73, 3], []) rfl rfl rfl ?_
    refine ⟨rfl, ?_⟩
    refine hC _ _ _ _ _ (bRi_e (fun r12 s10 k11 => ?_)) (h.2 c1)
    show A (27, [.ref 6, .ref a1, .int x2, .int x3, .float 0], [.int r12], s10)
    refine bGo hA 1 11 (48, .istore 4, 2, 28, 0, [4], []) rfl rfl rfl ?_
    refine bGo hA 1 12 (50, .iload 4, 2, 29, 0, [4], []) rfl rfl rfl ?_
    refine bGo hA 1 13 (52, .iconst (-1), 1, 30, 0, [], [(-1, 0)]) rfl rfl rfl ?_
    refine bGo hA 1 14 (53, .if_icmp .eq (26), 3, 31, 42, [], []) rfl rfl rfl ?_
    refine ⟨fun c13 => ?_, fun c13 => ?_⟩
    · refine bGo hA 2 10 (79, .iconst (0), 1, 43, 0, [], [(0, 0)]) rfl rfl rfl ?_
      refine bGo hA 2 11 (80, .ireturn, 1, 0, 0, [1], []) rfl rfl rfl ?_
      exact (k11.1 c13)
    · refine bGo hA 1 15 (56, .aload_n 0, 1, 32, 0, [0], []) rfl rfl rfl ?_
      refine bGo hA 2 0 (57, .getfield 18, 3, 33, 0, [6, 6, 3, 29, 1, 0], []) rfl rfl rfl ?_
      refine ⟨rfl, ?_⟩
      refine bGo hA 2 1 (60, .iload 4, 2, 34, 0, [4], []) rfl rfl rfl ?_
      refine bGo hA 2 2 (62, .invokestatic 100, 3, 35, 1, [2, 140, 2], []) rfl rfl rfl ?_
      refine hC _ _ _ _ _ (bRi_e (fun r16 s14 k15 => ?_)) (k11.2 c13)
      show A (35, [.ref 6, .ref a1, .int x2, .int x3, .int r12], [.int r16], s14)
      refine bGo hA 2 3 (65, .ifCond .eq (14), 3, 36, 42, [], []) rfl rfl rfl ?_
      refine ⟨fun c17 => ?_, fun c17 => ?_⟩
      · refine bGo hA 2 10 (79, .iconst (0), 1, 43, 0, [], [(0, 0)]) rfl rfl rfl ?_
        refine bGo hA 2 11 (80, .ireturn, 1, 0, 0, [1], []) rfl rfl rfl ?_
        exact (k15.1 c17)
      · refine bGo hA 2 4 (68, .bipush (6), 2, 37, 0, [], [(6, 0)]) rfl rfl rfl ?_
        refine bGo hA 2 5 (70, .iload 4, 2, 38, 0, [4], []) rfl rfl rfl ?_
        refine bGo hA 2 6 (72, .bipush (8), 2, 39, 0, [], [(8, 0)]) rfl rfl rfl ?_
        refine bGo hA 2 7 (74, .imul, 1, 40, 0, [], []) rfl rfl rfl ?_
        refine bGo hA 2 8 (75, .iadd, 1, 41, 0, [], []) rfl rfl rfl ?_
        refine bGo hA 2 9 (76, .goto (4), 3, 42, 43, [], []) rfl rfl rfl ?_
        refine bGo hA 2 11 (80, .ireturn, 1, 0, 0, [1], []) rfl rfl rfl ?_
        exact (k15.2 c17)

theorem sg77_0 {lvl : Nat} {C : bCall} {Q : bPost} {A : bPt → Prop} (hC : bMono C) (hA : bClosed lvl bm77 C Q A) {a1 : Nat} {x2 : Int32} {σ : bSt} (h_a1 : a1 % 256 = 8)
  (h : ((((x2 - 1000) &&& 1) = 1 → (C 36 [.ref 3, .int (σ.1 a1 0), .int ((x2 - 1000) >>> (1 &&& 31)), .int 1] σ (bRj (fun r4 s2 => Q (.inl (some (.long r4))) s2)))) ∧ (¬ ((x2 - 1000) &&& 1) = 1 → (C 36 [.ref 3, .int (σ.1 a1 0), .int ((x2 - 1000) >>> (1 &&& 31)), .int 0] σ (bRj (fun r7 s5 => Q (.inl (some (.long r7))) s5)))))) : A (0, [.ref 6, .ref a1, .int x2, .float 0], [], σ) := by
  refine bGo hA 0 0 (0, .iload_n 2, 1, 1, 0, [2], []) rfl rfl rfl ?_
  refine bGo hA 0 1 (1, .sipush (1000), 3, 2, 0, [], [(1000, 0)]) rfl rfl rfl ?_
  refine bGo hA 0 2 (4, .isub, 1, 3, 0, [], []) rfl rfl rfl ?_
  refine bGo hA 0 3 (5, .istore_n 3, 1, 4, 0, [3], []) rfl rfl rfl ?_
  refine bGo hA 0 4 (6, .aload_n 0, 1, 5, 0, [0], []) rfl rfl rfl ?_
  refine bGo hA 0 5 (7, .getfield 41, 3, 6, 0, [6, 0, 3, 3, 0, 0], []) rfl rfl rfl ?_
  refine ⟨rfl, ?_⟩
  refine bGo hA 0 6 (10, .aload_n 1, 1, 7, 0, [1], []) rfl rfl rfl ?_
  refine bGo hA 0 7 (11, .getfield 126, 3, 8, 0, [8, 0, 0, 0, 0, 0], []) rfl rfl rfl ?_
  refine ⟨h_a1, ?_⟩
  refine bGo hA 0 8 (14, .iload_n 3, 1, 9, 0, [3], []) rfl rfl rfl ?_
  refine bGo hA 0 9 (15, .iconst (1), 1, 10, 0, [], [(1, 0)]) rfl rfl rfl ?_
  refine bGo hA 0 10 (16, .ishr, 1, 11, 0, [], []) rfl rfl rfl ?_
  refine bGo hA 0 11 (17, .iload_n 3, 1, 12, 0, [3], []) rfl rfl rfl ?_
  refine bGo hA 0 12 (18, .iconst (1), 1, 13, 0, [], [(1, 0)]) rfl rfl rfl ?_
  refine bGo hA 0 13 (19, .iand, 1, 14, 0, [], []) rfl rfl rfl ?_
  refine bGo hA 0 14 (20, .iconst (1), 1, 15, 0, [], [(1, 0)]) rfl rfl rfl ?_
  refine bGo hA 0 15 (21, .if_icmp .ne (7), 3, 16, 18, [], []) rfl rfl rfl ?_
  refine ⟨fun c1 => ?_, fun c1 => ?_⟩
  · refine bGo hA 1 0 (24, .iconst (1), 1, 17, 0, [], [(1, 0)]) rfl rfl rfl ?_
    refine bGo hA 1 1 (25, .goto (4), 3, 18, 19, [], []) rfl rfl rfl ?_
    refine bGo hA 1 3 (29, .invokevirtual 166, 3, 20, 0, [0, 3, 36, 3], []) rfl rfl rfl ?_
    refine ⟨rfl, ?_⟩
    refine hC _ _ _ _ _ (bRj_e (fun r4 s2 k3 => ?_)) (h.1 c1)
    show A (20, [.ref 6, .ref a1, .int x2, .int (x2 - 1000)], [.long r4], s2)
    refine bGo hA 1 4 (32, .lreturn, 1, 0, 0, [3], []) rfl rfl rfl ?_
    exact k3
  · refine bGo hA 1 2 (28, .iconst (0), 1, 19, 0, [], [(0, 0)]) rfl rfl rfl ?_
    refine bGo hA 1 3 (29, .invokevirtual 166, 3, 20, 0, [0, 3, 36, 3], []) rfl rfl rfl ?_
    refine ⟨rfl, ?_⟩
    refine hC _ _ _ _ _ (bRj_e (fun r7 s5 k6 => ?_)) (h.2 c1)
    show A (20, [.ref 6, .ref a1, .int x2, .int (x2 - 1000)], [.long r7], s5)
    refine bGo hA 1 4 (32, .lreturn, 1, 0, 0, [3], []) rfl rfl rfl ?_
    exact k6

theorem sg78_0 {lvl : Nat} {C : bCall} {Q : bPost} {A : bPt → Prop} (hC : bMono C) (hA : bClosed lvl bm78 C Q A) {x1 : Int32} {x2 : Int32} {σ : bSt} 
  (h : (C 70 [.ref 6] σ (bRv (fun s1 => (C 69 [.ref 6, .int x1] s1 (bRi (fun r5 s3 => (C 71 [.ref 6, .int r5] s3 (bRv (fun s6 => (C 69 [.ref 6, .int x1] s6 (bRi (fun r10 s8 => A (13, [.ref 6, .int x1, .int x2, .int r10, .int 0, .float 0], [], s8)))))))))))))) : A (0, [.ref 6, .int x1, .int x2, .float 0, .float 0, .float 0], [], σ) := by
  refine bGo hA 0 0 (0, .aload_n 0, 1, 1, 0, [0], []) rfl rfl rfl ?_
  refine bGo hA 0 1 (1, .invokevirtual 170, 3, 2, 0, [0, 6, 70, 0], []) rfl rfl rfl ?_
  refine ⟨rfl, ?_⟩
  refine hC _ _ _ _ _ (bRv_e (fun s1 k2 => ?_)) h
  show A (2, [.ref 6, .int x1, .int x2, .float 0, .float 0, .float 0], [], s1)
  refine bGo hA 0 2 (4, .aload_n 0, 1, 3, 0, [0], []) rfl rfl rfl ?_
  refine bGo hA 0 3 (5, .aload_n 0, 1, 4, 0, [0], []) rfl rfl rfl ?_
  refine bGo hA 0 4 (6, .iload_n 1, 1, 5, 0, [1], []) rfl rfl rfl ?_
  refine bGo hA 0 5 (7, .invokevirtual 173, 3, 6, 0, [0, 6, 69, 1], []) rfl rfl rfl ?_
  refine ⟨rfl, ?_⟩
  refine hC _ _ _ _ _ (bRi_e (fun r5 s3 k4 => ?_)) k2
  show A (6, [.ref 6, .int x1, .int x2, .float 0, .float 0, .float 0], [.int r5, .ref 6], s3)
  refine bGo hA 0 6 (10, .invokevirtual 176, 3, 7, 0, [0, 6, 71, 1], []) rfl rfl rfl ?_
  refine ⟨rfl, ?_⟩
  refine hC _ _ _ _ _ (bRv_e (fun s6 k7 => ?_)) k4
  show A (7, [.ref 6, .int x1, .int x2, .float 0, .float 0, .float 0], [], s6)
  refine bGo hA 0 7 (13, .aload_n 0, 1, 8, 0, [0], []) rfl rfl rfl ?_
  refine bGo hA 0 8 (14, .iload_n 1, 1, 9, 0, [1], []) rfl rfl rfl ?_
  refine bGo hA 0 9 (15, .invokevirtual 173, 3, 10, 0, [0, 6, 69, 1], []) rfl rfl rfl ?_
  refine ⟨rfl, ?_⟩
  refine hC _ _ _ _ _ (bRi_e (fun r10 s8 k9 => ?_)) k7
  show A (10, [.ref 6, .int x1, .int x2, .float 0, .float 0, .float 0], [.int r10], s8)
  refine bGo hA 0 10 (18, .istore_n 3, 1, 11, 0, [3], []) rfl rfl rfl ?_
  refine bGo hA 0 11 (19, .iconst (0), 1, 12, 0, [], [(0, 0)]) rfl rfl rfl ?_
  refine bGo hA 0 12 (20, .istore 4, 2, 13, 0, [4], []) rfl rfl rfl ?_
  exact k9

theorem sg78_13 {lvl : Nat} {C : bCall} {Q : bPost} {A : bPt → Prop} (hC : bMono C) (hA : bClosed lvl bm78 C Q A) {v1 : Value} {l2 : Int32} {l3 : Int32} {l4 : Int32} {v5 : Value} {σ : bSt} 
  (h : ((l4 < l2 → (C 140 [.ref 29, .int l3] σ (bRi (fun r4 s2 => (((r4 - r4 / 8 * 8) = 6 → A (13, [.ref 6, v1, .int l2, .int (r4 / 8), .int (l4 + 1), .int r4], [], s2)) ∧ (¬ (r4 - r4 / 8 * 8) = 6 → Q (.inl (some (.int (-1)))) s2)))))) ∧ (¬ l4 < l2 → (C 140 [.ref 29, .int l3] σ (bRi (fun r8 s6 => (((r8 - r8 / 8 * 8) = 0 → Q (.inl (some (.int (-1)))) s6) ∧ (¬ (r8 - r8 / 8 * 8) = 0 → Q (.inl (some (.int (((l3 >>> (8 &&& 31)) * 10) + (r8 - r8 / 8 * 8))))) s6)))))))) : A (13, [.ref 6, v1, .int l2, .int l3, .int l4, v5], [], σ) := by
  refine bGo hA 0 13 (22, .iload 4, 2, 14, 0, [4], []) rfl rfl rfl ?_
  refine bGo hA 0 14 (24, .iload_n 2, 1, 15, 0, [2], []) rfl rfl rfl ?_
  refine bGo hA 0 15 (25, .if_icmp .ge (37), 3, 16, 34, [], []) rfl rfl rfl ?_
  refine ⟨fun c1 => ?_, fun c1 => ?_⟩
  · refine bGo hA 1 0 (28, .aload_n 0, 1, 17, 0, [0], []) rfl rfl rfl ?_
    refine bGo hA 1 1 (29, .getfield 18, 3, 18, 0, [6, 6, 3, 29, 1, 0], []) rfl rfl rfl ?_
    refine ⟨rfl, ?_⟩
    refine bGo hA 1 2 (32, .iload_n 3, 1, 19, 0, [3], []) rfl rfl rfl ?_
    refine bGo hA 1 3 (33, .invokestatic 100, 3, 20, 1, [2, 140, 2], []) rfl rfl rfl ?_
    refine hC _ _ _ _ _ (bRi_e (fun r4 s2 k3 => ?_)) (h.1 c1)
    show A (20, [.ref 6, v1, .int l2, .int l3, .int l4, v5], [.int r4], s2)
    refine bGo hA 1 4 (36, .istore 5, 2, 21, 0, [5], []) rfl rfl rfl ?_
    refine bGo hA 1 5 (38, .iload 5, 2, 22, 0, [5], []) rfl rfl rfl ?_
    refine bGo hA 1 6 (40, .bipush (8), 2, 23, 0, [], [(8, 0)]) rfl rfl rfl ?_
    refine bGo hA 1 7 (42, .irem, 1, 24, 0, [], []) rfl rfl rfl ?_
    refine ⟨by decide, ?_⟩
    refine bGo hA 1 8 (43, .bipush (6), 2, 25, 0, [], [(6, 0)]) rfl rfl rfl ?_
    refine bGo hA 1 9 (45, .if_icmp .eq (5), 3, 26, 28, [], []) rfl rfl rfl ?_
    refine ⟨fun c5 => ?_, fun c5 => ?_⟩
    · refine bGo hA 1 12 (50, .iload 5, 2, 29, 0, [5], []) rfl rfl rfl ?_
      refine bGo hA 1 13 (52, .bipush (8), 2, 30, 0, [], [(8, 0)]) rfl rfl rfl ?_
      refine bGo hA 1 14 (54, .idiv, 1, 31, 0, [], []) rfl rfl rfl ?_
      refine ⟨by decide, ?_⟩
      refine bGo hA 1 15 (55, .istore_n 3, 1, 32, 0, [3], []) rfl rfl rfl ?_
      refine bGo hA 2 0 (56, .iinc 4 (1), 3, 33, 0, [4], [(1, 0)]) rfl rfl rfl ?_
      refine bGo hA 2 1 (59, .goto (-37), 3, 34, 13, [], []) rfl rfl rfl ?_
      exact (k3.1 c5)
    · refine bGo hA 1 10 (48, .iconst (-1), 1, 27, 0, [], [(-1, 0)]) rfl rfl rfl ?_
      refine bGo hA 1 11 (49, .ireturn, 1, 28, 0, [1], []) rfl rfl rfl ?_
      exact (k3.2 c5)
  · refine bGo hA 2 2 (62, .aload_n 0, 1, 35, 0, [0], []) rfl rfl rfl ?_
    refine bGo hA 2 3 (63, .getfield 18, 3, 36, 0, [6, 6, 3, 29, 1, 0], []) rfl rfl rfl ?_
    refine ⟨rfl, ?_⟩
    refine bGo hA 2 4 (66, .iload_n 3, 1, 37, 0, [3], []) rfl rfl rfl ?_
    refine bGo hA 2 5 (67, .invokestatic 100, 3, 38, 1, [2, 140, 2], []) rfl rfl rfl ?_
    refine hC _ _ _ _ _ (bRi_e (fun r8 s6 k7 => ?_)) (h.2 c1)
    show A (38, [.ref 6, v1, .int l2, .int l3, .int l4, v5], [.int r8], s6)
    refine bGo hA 2 6 (70, .bipush (8), 2, 39, 0, [], [(8, 0)]) rfl rfl rfl ?_
    refine bGo hA 2 7 (72, .irem, 1, 40, 0, [], []) rfl rfl rfl ?_
    refine ⟨by decide, ?_⟩
    refine bGo hA 2 8 (73, .istore 4, 2, 41, 0, [4], []) rfl rfl rfl ?_
    refine bGo hA 2 9 (75, .iload 4, 2, 42, 0, [4], []) rfl rfl rfl ?_
    refine bGo hA 2 10 (77, .ifCond .ne (7), 3, 43, 45, [], []) rfl rfl rfl ?_
    refine ⟨fun c9 => ?_, fun c9 => ?_⟩
    · refine bGo hA 2 11 (80, .iconst (-1), 1, 44, 0, [], [(-1, 0)]) rfl rfl rfl ?_
      refine bGo hA 2 12 (81, .goto (13), 3, 45, 52, [], []) rfl rfl rfl ?_
      refine bGo hA 3 4 (94, .ireturn, 1, 0, 0, [1], []) rfl rfl rfl ?_
      exact (k7.1 c9)
    · refine bGo hA 2 13 (84, .iload_n 3, 1, 46, 0, [3], []) rfl rfl rfl ?_
      refine bGo hA 2 14 (85, .bipush (8), 2, 47, 0, [], [(8, 0)]) rfl rfl rfl ?_
      refine bGo hA 2 15 (87, .ishr, 1, 48, 0, [], []) rfl rfl rfl ?_
      refine bGo hA 3 0 (88, .bipush (10), 2, 49, 0, [], [(10, 0)]) rfl rfl rfl ?_
      refine bGo hA 3 1 (90, .imul, 1, 50, 0, [], []) rfl rfl rfl ?_
      refine bGo hA 3 2 (91, .iload 4, 2, 51, 0, [4], []) rfl rfl rfl ?_
      refine bGo hA 3 3 (93, .iadd, 1, 52, 0, [], []) rfl rfl rfl ?_
      refine bGo hA 3 4 (94, .ireturn, 1, 0, 0, [1], []) rfl rfl rfl ?_
      exact (k7.2 c9)

theorem sg79_0 {lvl : Nat} {C : bCall} {Q : bPost} {A : bPt → Prop} (hC : bMono C) (hA : bClosed lvl bm79 C Q A) {x1 : Int32} {σ : bSt} 
  (h : (C 70 [.ref 6] σ (bRv (fun s1 => A (6, [.ref 6, .int x1, .int 0, .int 0], [], s1))))) : A (0, [.ref 6, .int x1, .float 0, .float 0], [], σ) := by
  refine bGo hA 0 0 (0, .aload_n 0, 1, 1, 0, [0], []) rfl rfl rfl ?_
  refine bGo hA 0 1 (1, .invokevirtual 170, 3, 2, 0, [0, 6, 70, 0], []) rfl rfl rfl ?_
  refine ⟨rfl, ?_⟩
  refine hC _ _ _ _ _ (bRv_e (fun s1 k2 => ?_)) h
  show A (2, [.ref 6, .int x1, .float 0, .float 0], [], s1)
  refine bGo hA 0 2 (4, .iconst (0), 1, 3, 0, [], [(0, 0)]) rfl rfl rfl ?_
  refine bGo hA 0 3 (5, .istore_n 2, 1, 4, 0, [2], []) rfl rfl rfl ?_
  refine bGo hA 0 4 (6, .iconst (0), 1, 5, 0, [], [(0, 0)]) rfl rfl rfl ?_
  refine bGo hA 0 5 (7, .istore_n 3, 1, 6, 0, [3], []) rfl rfl rfl ?_
  exact k2

theorem sg79_6 {lvl : Nat} {C : bCall} {Q : bPost} {A : bPt → Prop} (hC : bMono C) (hA : bClosed lvl bm79 C Q A) {l1 : Int32} {l2 : Int32} {l3 : Int32} {σ : bSt} 
  (h : ((l3 < 16 → ((((l1 >>> (l3 &&& 31)) &&& 1) = 1 → (C 69 [.ref 6, .int l3] σ (bRi (fun r5 s3 => (C 71 [.ref 6, .int r5] s3 (bRv (fun s6 => (C 69 [.ref 6, .int l3] s6 (bRi (fun r10 s8 => (C 140 [.ref 29, .int r10] s8 (bRi (fun r13 s11 => ((r13 = 0 → A (6, [.ref 6, .int l1, .int (l2 ||| (1 <<< (l3 &&& 31))), .int (l3 + 1)], [], s11)) ∧ (¬ r13 = 0 → A (6, [.ref 6, .int l1, .int (l2 ||| 0), .int (l3 + 1)], [], s11)))))))))))))))) ∧ (¬ ((l1 >>> (l3 &&& 31)) &&& 1) = 1 → A (6, [.ref 6, .int l1, .int l2, .int (l3 + 1)], [], σ)))) ∧ (¬ l3 < 16 → Q (.inl (some (.int l2))) σ))) : A (6, [.ref 6, .int l1, .int l2, .int l3], [], σ) := by
  refine bGo hA 0 6 (8, .iload_n 3, 1, 7, 0, [3], []) rfl rfl rfl ?_
  refine bGo hA 0 7 (9, .bipush (16), 2, 8, 0, [], [(16, 0)]) rfl rfl rfl ?_
  refine bGo hA 0 8 (11, .if_icmp .ge (52), 3, 9, 38, [], []) rfl rfl rfl ?_
  refine ⟨fun c1 => ?_, fun c1 => ?_⟩
  · refine bGo hA 0 9 (14, .iload_n 1, 1, 10, 0, [1], []) rfl rfl rfl ?_
    refine bGo hA 0 10 (15, .iload_n 3, 1, 11, 0, [3], []) rfl rfl rfl ?_
    refine bGo hA 0 11 (16, .ishr, 1, 12, 0, [], []) rfl rfl rfl ?_
    refine bGo hA 0 12 (17, .iconst (1), 1, 13, 0, [], [(1, 0)]) rfl rfl rfl ?_
    refine bGo hA 0 13 (18, .iand, 1, 14, 0, [], []) rfl rfl rfl ?_
    refine bGo hA 0 14 (19, .iconst (1), 1, 15, 0, [], [(1, 0)]) rfl rfl rfl ?_
    refine bGo hA 0 15 (20, .if_icmp .ne (37), 3, 16, 36, [], []) rfl rfl rfl ?_
    refine ⟨fun c2 => ?_, fun c2 => ?_⟩
    · refine bGo hA 1 0 (23, .aload_n 0, 1, 17, 0, [0], []) rfl rfl rfl ?_
      refine bGo hA 1 1 (24, .aload_n 0, 1, 18, 0, [0], []) rfl rfl rfl ?_
      refine bGo hA 1 2 (25, .iload_n 3, 1, 19, 0, [3], []) rfl rfl rfl ?_
      refine bGo hA 1 3 (26, .invokevirtual 173, 3, 20, 0, [0, 6, 69, 1], []) rfl rfl rfl ?_
      refine ⟨rfl, ?_⟩
      refine hC _ _ _ _ _ (bRi_e (fun r5 s3 k4 => ?_)) ((h.1 c1).1 c2)
      show A (20, [.ref 6, .int l1, .int l2, .int l3], [.int r5, .ref 6], s3)
      refine bGo hA 1 4 (29, .invokevirtual 176, 3, 21, 0, [0, 6, 71, 1], []) rfl rfl rfl ?_
      refine ⟨rfl, ?_⟩
      refine hC _ _ _ _ _ (bRv_e (fun s6 k7 => ?_)) k4
      show A (21, [.ref 6, .int l1, .int l2, .int l3], [], s6)
      refine bGo hA 1 5 (32, .iload_n 2, 1, 22, 0, [2], []) rfl rfl rfl ?_
      refine bGo hA 1 6 (33, .aload_n 0, 1, 23, 0, [0], []) rfl rfl rfl ?_
      refine bGo hA 1 7 (34, .getfield 18, 3, 24, 0, [6, 6, 3, 29, 1, 0], []) rfl rfl rfl ?_
      refine ⟨rfl, ?_⟩
      refine bGo hA 1 8 (37, .aload_n 0, 1, 25, 0, [0], []) rfl rfl rfl ?_
      refine bGo hA 1 9 (38, .iload_n 3, 1, 26, 0, [3], []) rfl rfl rfl ?_
      refine bGo hA 1 10 (39, .invokevirtual 173, 3, 27, 0, [0, 6, 69, 1], []) rfl rfl rfl ?_
      refine ⟨rfl, ?_⟩
      refine hC _ _ _ _ _ (bRi_e (fun r10 s8 k9 => ?_)) k7
      show A (27, [.ref 6, .int l1, .int l2, .int l3], [.int r10, .ref 29, .int l2], s8)
      refine bGo hA 1 11 (42, .invokestatic 100, 3, 28, 1, [2, 140, 2], []) rfl rfl rfl ?_
      refine hC _ _ _ _ _ (bRi_e (fun r13 s11 k12 => ?_)) k9
      show A (28, [.ref 6, .int l1, .int l2, .int l3], [.int r13, .int l2], s11)
      refine bGo hA 1 12 (45, .ifCond .ne (9), 3, 29, 33, [], []) rfl rfl rfl ?_
      refine ⟨fun c14 => ?_, fun c14 => ?_⟩
      · refine bGo hA 1 13 (48, .iconst (1), 1, 30, 0, [], [(1, 0)]) rfl rfl rfl ?_
        refine bGo hA 1 14 (49, .iload_n 3, 1, 31, 0, [3], []) rfl rfl rfl ?_
        refine bGo hA 1 15 (50, .ishl, 1, 32, 0, [], []) rfl rfl rfl ?_
        refine bGo hA 2 0 (51, .goto (4), 3, 33, 34, [], []) rfl rfl rfl ?_
        refine bGo hA 2 2 (55, .ior, 1, 35, 0, [], []) rfl rfl rfl ?_
        refine bGo hA 2 3 (56, .istore_n 2, 1, 36, 0, [2], []) rfl rfl rfl ?_
        refine bGo hA 2 4 (57, .iinc 3 (1), 3, 37, 0, [3], [(1, 0)]) rfl rfl rfl ?_
        refine bGo hA 2 5 (60, .goto (-52), 3, 38, 6, [], []) rfl rfl rfl ?_
        exact (k12.1 c14)
      · refine bGo hA 2 1 (54, .iconst (0), 1, 34, 0, [], [(0, 0)]) rfl rfl rfl ?_
        refine bGo hA 2 2 (55, .ior, 1, 35, 0, [], []) rfl rfl rfl ?_
        refine bGo hA 2 3 (56, .istore_n 2, 1, 36, 0, [2], []) rfl rfl rfl ?_
        refine bGo hA 2 4 (57, .iinc 3 (1), 3, 37, 0, [3], [(1, 0)]) rfl rfl rfl ?_
        refine bGo hA 2 5 (60, .goto (-52), 3, 38, 6, [], []) rfl rfl rfl ?_
        exact (k12.2 c14)
    · refine bGo hA 2 4 (57, .iinc 3 (1), 3, 37, 0, [3], [(1, 0)]) rfl rfl rfl ?_
      refine bGo hA 2 5 (60, .goto (-52), 3, 38, 6, [], []) rfl rfl rfl ?_
      exact ((h.1 c1).2 c2)
  · refine bGo hA 2 6 (63, .iload_n 2, 1, 39, 0, [2], []) rfl rfl rfl ?_
    refine bGo hA 2 7 (64, .ireturn, 1, 0, 0, [1], []) rfl rfl rfl ?_
    exact (h.2 c1)

theorem sg80_0 {lvl : Nat} {C : bCall} {Q : bPost} {A : bPt → Prop} (hC : bMono C) (hA : bClosed lvl bm80 C Q A) {x1 : Int32} {σ : bSt} 
  (h : (C 70 [.ref 6] σ (bRv (fun s1 => A (7, [.ref 6, .int x1, .int (σ.1 6 13), .int 0, .float 0, .float 0], [], s1))))) : A (0, [.ref 6, .int x1, .float 0, .float 0, .float 0, .float 0], [], σ) := by
  refine bGo hA 0 0 (0, .aload_n 0, 1, 1, 0, [0], []) rfl rfl rfl ?_
  refine bGo hA 0 1 (1, .getfield 179, 3, 2, 0, [6, 13, 0, 0, 0, 0], []) rfl rfl rfl ?_
  refine ⟨rfl, ?_⟩
  refine bGo hA 0 2 (4, .istore_n 2, 1, 3, 0, [2], []) rfl rfl rfl ?_
  refine bGo hA 0 3 (5, .aload_n 0, 1, 4, 0, [0], []) rfl rfl rfl ?_
  refine bGo hA 0 4 (6, .invokevirtual 170, 3, 5, 0, [0, 6, 70, 0], []) rfl rfl rfl ?_
  refine ⟨rfl, ?_⟩
  refine hC _ _ _ _ _ (bRv_e (fun s1 k2 => ?_)) h
  show A (5, [.ref 6, .int x1, .int (σ.1 6 13), .float 0, .float 0, .float 0], [], s1)
  refine bGo hA 0 5 (9, .iconst (0), 1, 6, 0, [], [(0, 0)]) rfl rfl rfl ?_
  refine bGo hA 0 6 (10, .istore_n 3, 1, 7, 0, [3], []) rfl rfl rfl ?_
  exact k2

theorem sg80_7 {lvl : Nat} {C : bCall} {Q : bPost} {A : bPt → Prop} (hC : bMono C) (hA : bClosed lvl bm80 C Q A) {l1 : Int32} {l2 : Int32} {l3 : Int32} {v4 : Value} {v5 : Value} {σ : bSt} 
  (h : ((l3 < 16 → ((((l1 >>> (l3 &&& 31)) &&& 1) = 1 → (C 69 [.ref 6, .int l3] σ (bRi (fun r5 s3 => (C 71 [.ref 6, .int r5] s3 (bRv (fun s6 => A (7, [.ref 6, .int l1, .int l2, .int (l3 + 1), v4, v5], [], s6)))))))) ∧ (¬ ((l1 >>> (l3 &&& 31)) &&& 1) = 1 → A (7, [.ref 6, .int l1, .int l2, .int (l3 + 1), v4, v5], [], σ)))) ∧ (¬ l3 < 16 → A (26, [.ref 6, .int l1, .int l2, .int 0, v4, v5], [], σ)))) : A (7, [.ref 6, .int l1, .int l2, .int l3, v4, v5], [], σ) := by
  refine bGo hA 0 7 (11, .iload_n 3, 1, 8, 0, [3], []) rfl rfl rfl ?_
  refine bGo hA 0 8 (12, .bipush (16), 2, 9, 0, [], [(16, 0)]) rfl rfl rfl ?_
  refine bGo hA 0 9 (14, .if_icmp .ge (27), 3, 10, 24, [], []) rfl rfl rfl ?_
  refine ⟨fun c1 => ?_, fun c1 => ?_⟩
  · refine bGo hA 0 10 (17, .iload_n 1, 1, 11, 0, [1], []) rfl rfl rfl ?_
    refine bGo hA 0 11 (18, .iload_n 3, 1, 12, 0, [3], []) rfl rfl rfl ?_
    refine bGo hA 0 12 (19, .ishr, 1, 13, 0, [], []) rfl rfl rfl ?_
    refine bGo hA 0 13 (20, .iconst (1), 1, 14, 0, [], [(1, 0)]) rfl rfl rfl ?_
    refine bGo hA 0 14 (21, .iand, 1, 15, 0, [], []) rfl rfl rfl ?_
    refine bGo hA 0 15 (22, .iconst (1), 1, 16, 0, [], [(1, 0)]) rfl rfl rfl ?_
    refine bGo hA 1 0 (23, .if_icmp .ne (12), 3, 17, 22, [], []) rfl rfl rfl ?_
    refine ⟨fun c2 => ?_, fun c2 => ?_⟩
    · refine bGo hA 1 1 (26, .aload_n 0, 1, 18, 0, [0], []) rfl rfl rfl ?_
      refine bGo hA 1 2 (27, .aload_n 0, 1, 19, 0, [0], []) rfl rfl rfl ?_
      refine bGo hA 1 3 (28, .iload_n 3, 1, 20, 0, [3], []) rfl rfl rfl ?_
      refine bGo hA 1 4 (29, .invokevirtual 173, 3, 21, 0, [0, 6, 69, 1], []) rfl rfl rfl ?_
      refine ⟨rfl, ?_⟩
      refine hC _ _ _ _ _ (bRi_e (fun r5 s3 k4 => ?_)) ((h.1 c1).1 c2)
      show A (21, [.ref 6, .int l1, .int l2, .int l3, v4, v5], [.int r5, .ref 6], s3)
      refine bGo hA 1 5 (32, .invokevirtual 176, 3, 22, 0, [0, 6, 71, 1], []) rfl rfl rfl ?_
      refine ⟨rfl, ?_⟩
      refine hC _ _ _ _ _ (bRv_e (fun s6 k7 => ?_)) k4
      show A (22, [.ref 6, .int l1, .int l2, .int l3, v4, v5], [], s6)
      refine bGo hA 1 6 (35, .iinc 3 (1), 3, 23, 0, [3], [(1, 0)]) rfl rfl rfl ?_
      refine bGo hA 1 7 (38, .goto (-27), 3, 24, 7, [], []) rfl rfl rfl ?_
      exact k7
    · refine bGo hA 1 6 (35, .iinc 3 (1), 3, 23, 0, [3], [(1, 0)]) rfl rfl rfl ?_
      refine bGo hA 1 7 (38, .goto (-27), 3, 24, 7, [], []) rfl rfl rfl ?_
      exact ((h.1 c1).2 c2)
  · refine bGo hA 1 8 (41, .iconst (0), 1, 25, 0, [], [(0, 0)]) rfl rfl rfl ?_
    refine bGo hA 1 9 (42, .istore_n 3, 1, 26, 0, [3], []) rfl rfl rfl ?_
    exact (h.2 c1)

theorem sg80_26 {lvl : Nat} {C : bCall} {Q : bPost} {A : bPt → Prop} (hC : bMono C) (hA : bClosed lvl bm80 C Q A) {v1 : Value} {l2 : Int32} {l3 : Int32} {v4 : Value} {v5 : Value} {σ : bSt} 
  (h : ((l3 < (σ.1 6 11) → (C 140 [.ref 28, .int l3] σ (bRi (fun r4 s2 => (C 86 [.ref 6, .int r4] s2 (bRi (fun r7 s5 => (C 88 [.ref 6] s5 (bRi (fun r10 s8 => ((r10 = (-1) → ((120 < ((bI s8 6 13 ((s8.1 6 13) + 1)).1 6 13) → Q (.inl (some (.int 0))) (bI (bI s8 6 13 ((s8.1 6 13) + 1)) 6 13 l2)) ∧ (¬ 120 < ((bI s8 6 13 ((s8.1 6 13) + 1)).1 6 13) → (C 141 [.ref 30, .int r4, .int (s8.1 6 13)] (bI s8 6 13 ((s8.1 6 13) + 1)) (bRv (fun s13 => A (26, [.ref 6, v1, .int l2, .int (l3 + 1), .int r4, .int (s8.1 6 13)], [], s13))))))) ∧ (¬ r10 = (-1) → ((120 < (s8.1 6 13) → Q (.inl (some (.int 0))) (bI s8 6 13 l2)) ∧ (¬ 120 < (s8.1 6 13) → (C 141 [.ref 30, .int r4, .int r10] s8 (bRv (fun s16 => A (26, [.ref 6, v1, .int l2, .int (l3 + 1), .int r4, .int r10], [], s16)))))))))))))))))) ∧ (¬ l3 < (σ.1 6 11) → Q (.inl (some (.int 1))) σ))) : A (26, [.ref 6, v1, .int l2, .int l3, v4, v5], [], σ) := by
  refine bGo hA 1 10 (43, .iload_n 3, 1, 27, 0, [3], []) rfl rfl rfl ?_
  refine bGo hA 1 11 (44, .aload_n 0, 1, 28, 0, [0], []) rfl rfl rfl ?_
  refine bGo hA 1 12 (45, .getfield 89, 3, 29, 0, [6, 11, 0, 0, 0, 0], []) rfl rfl rfl ?_
  refine ⟨rfl, ?_⟩
  refine bGo hA 1 13 (48, .if_icmp .ge (81), 3, 30, 70, [], []) rfl rfl rfl ?_
  refine ⟨fun c1 => ?_, fun c1 => ?_⟩
  · refine bGo hA 1 14 (51, .aload_n 0, 1, 31, 0, [0], []) rfl rfl rfl ?_
    refine bGo hA 1 15 (52, .getfield 15, 3, 32, 0, [6, 5, 3, 28, 1, 0], []) rfl rfl rfl ?_
    refine ⟨rfl, ?_⟩
    refine bGo hA 2 0 (55, .iload_n 3, 1, 33, 0, [3], []) rfl rfl rfl ?_
    refine bGo hA 2 1 (56, .invokestatic 100, 3, 34, 1, [2, 140, 2], []) rfl rfl rfl ?_
    refine hC _ _ _ _ _ (bRi_e (fun r4 s2 k3 => ?_)) (h.1 c1)
    show A (34, [.ref 6, v1, .int l2, .int l3, v4, v5], [.int r4], s2)
    refine bGo hA 2 2 (59, .istore 4, 2, 35, 0, [4], []) rfl rfl rfl ?_
    refine bGo hA 2 3 (61, .aload_n 0, 1, 36, 0, [0], []) rfl rfl rfl ?_
    refine bGo hA 2 4 (62, .iload 4, 2, 37, 0, [4], []) rfl rfl rfl ?_
    refine bGo hA 2 5 (64, .invokevirtual 180, 3, 38, 0, [0, 6, 86, 1], []) rfl rfl rfl ?_
    refine ⟨rfl, ?_⟩
    refine hC _ _ _ _ _ (bRi_e (fun r7 s5 k6 => ?_)) k3
    show A (38, [.ref 6, v1, .int l2, .int l3, .int r4, v5], [.int r7], s5)
    refine bGo hA 2 6 (67, .pop, 1, 39, 0, [], []) rfl rfl rfl ?_
    refine bGo hA 2 7 (68, .aload_n 0, 1, 40, 0, [0], []) rfl rfl rfl ?_
    refine bGo hA 2 8 (69, .invokevirtual 183, 3, 41, 0, [0, 6, 88, 0], []) rfl rfl rfl ?_
    refine ⟨rfl, ?_⟩
    refine hC _ _ _ _ _ (bRi_e (fun r10 s8 k9 => ?_)) k6
    show A (41, [.ref 6, v1, .int l2, .int l3, .int r4, v5], [.int r10], s8)
    refine bGo hA 2 9 (72, .istore 5, 2, 42, 0, [5], []) rfl rfl rfl ?_
    refine bGo hA 2 10 (74, .iload 5, 2, 43, 0, [5], []) rfl rfl rfl ?_
    refine bGo hA 2 11 (76, .iconst (-1), 1, 44, 0, [], [(-1, 0)]) rfl rfl rfl ?_
    refine bGo hA 2 12 (77, .if_icmp .ne (19), 3, 45, 54, [], []) rfl rfl rfl ?_
    refine ⟨fun c11 => ?_, fun c11 => ?_⟩
    · refine bGo hA 2 13 (80, .aload_n 0, 1, 46, 0, [0], []) rfl rfl rfl ?_
      refine bGo hA 2 14 (81, .getfield 179, 3, 47, 0, [6, 13, 0, 0, 0, 0], []) rfl rfl rfl ?_
      refine ⟨rfl, ?_⟩
      refine bGo hA 2 15 (84, .istore 5, 2, 48, 0, [5], []) rfl rfl rfl ?_
      refine bGo hA 3 0 (86, .aload_n 0, 1, 49, 0, [0], []) rfl rfl rfl ?_
      refine bGo hA 3 1 (87, .dup, 1, 50, 0, [], []) rfl rfl rfl ?_
      refine bGo hA 3 2 (88, .getfield 179, 3, 51, 0, [6, 13, 0, 0, 0, 0], []) rfl rfl rfl ?_
      refine ⟨rfl, ?_⟩
      refine bGo hA 3 3 (91, .iconst (1), 1, 52, 0, [], [(1, 0)]) rfl rfl rfl ?_
      refine bGo hA 3 4 (92, .iadd, 1, 53, 0, [], []) rfl rfl rfl ?_
      refine bGo hA 3 5 (93, .putfield 179, 3, 54, 0, [6, 13, 0, 0, 0, 0], []) rfl rfl rfl ?_
      refine ⟨rfl, ?_⟩
      refine bGo hA 3 6 (96, .aload_n 0, 1, 55, 0, [0], []) rfl rfl rfl ?_
      refine bGo hA 3 7 (97, .getfield 179, 3, 56, 0, [6, 13, 0, 0, 0, 0], []) rfl rfl rfl ?_
      refine ⟨rfl, ?_⟩
      refine bGo hA 3 8 (100, .bipush (120), 2, 57, 0, [], [(120, 0)]) rfl rfl rfl ?_
      refine bGo hA 3 9 (102, .if_icmp .le (10), 3, 58, 63, [], []) rfl rfl rfl ?_
      refine ⟨fun c12 => ?_, fun c12 => ?_⟩
      · refine bGo hA 3 10 (105, .aload_n 0, 1, 59, 0, [0], []) rfl rfl rfl ?_
        refine bGo hA 3 11 (106, .iload_n 2, 1, 60, 0, [2], []) rfl rfl rfl ?_
        refine bGo hA 3 12 (107, .putfield 179, 3, 61, 0, [6, 13, 0, 0, 0, 0], []) rfl rfl rfl ?_
        refine ⟨rfl, ?_⟩
        refine bGo hA 3 13 (110, .iconst (0), 1, 62, 0, [], [(0, 0)]) rfl rfl rfl ?_
        refine bGo hA 3 14 (111, .ireturn, 1, 63, 0, [2], []) rfl rfl rfl ?_
        exact ⟨Or.inl rfl, ((k9.1 c11).1 c12)⟩
      · refine bGo hA 3 15 (112, .aload_n 0, 1, 64, 0, [0], []) rfl rfl rfl ?_
        refine bGo hA 4 0 (113, .getfield 21, 3, 65, 0, [6, 7, 3, 30, 1, 0], []) rfl rfl rfl ?_
        refine ⟨rfl, ?_⟩
        refine bGo hA 4 1 (116, .iload 4, 2, 66, 0, [4], []) rfl rfl rfl ?_
        refine bGo hA 4 2 (118, .iload 5, 2, 67, 0, [5], []) rfl rfl rfl ?_
        refine bGo hA 4 3 (120, .invokestatic 107, 3, 68, 1, [2, 141, 3], []) rfl rfl rfl ?_
        refine hC _ _ _ _ _ (bRv_e (fun s13 k14 => ?_)) ((k9.1 c11).2 c12)
        show A (68, [.ref 6, v1, .int l2, .int l3, .int r4, .int (s8.1 6 13)], [], s13)
        refine bGo hA 4 4 (123, .iinc 3 (1), 3, 69, 0, [3], [(1, 0)]) rfl rfl rfl ?_
        refine bGo hA 4 5 (126, .goto (-83), 3, 70, 26, [], []) rfl rfl rfl ?_
        exact k14
    · refine bGo hA 3 6 (96, .aload_n 0, 1, 55, 0, [0], []) rfl rfl rfl ?_
      refine bGo hA 3 7 (97, .getfield 179, 3, 56, 0, [6, 13, 0, 0, 0, 0], []) rfl rfl rfl ?_
      refine ⟨rfl, ?_⟩
      refine bGo hA 3 8 (100, .bipush (120), 2, 57, 0, [], [(120, 0)]) rfl rfl rfl ?_
      refine bGo hA 3 9 (102, .if_icmp .le (10), 3, 58, 63, [], []) rfl rfl rfl ?_
      refine ⟨fun c15 => ?_, fun c15 => ?_⟩
      · refine bGo hA 3 10 (105, .aload_n 0, 1, 59, 0, [0], []) rfl rfl rfl ?_
        refine bGo hA 3 11 (106, .iload_n 2, 1, 60, 0, [2], []) rfl rfl rfl ?_
        refine bGo hA 3 12 (107, .putfield 179, 3, 61, 0, [6, 13, 0, 0, 0, 0], []) rfl rfl rfl ?_
        refine ⟨rfl, ?_⟩
        refine bGo hA 3 13 (110, .iconst (0), 1, 62, 0, [], [(0, 0)]) rfl rfl rfl ?_
        refine bGo hA 3 14 (111, .ireturn, 1, 63, 0, [2], []) rfl rfl rfl ?_
        exact ⟨Or.inl rfl, ((k9.2 c11).1 c15)⟩
      · refine bGo hA 3 15 (112, .aload_n 0, 1, 64, 0, [0], []) rfl rfl rfl ?_
        refine bGo hA 4 0 (113, .getfield 21, 3, 65, 0, [6, 7, 3, 30, 1, 0], []) rfl rfl rfl ?_
        refine ⟨rfl, ?_⟩
        refine bGo hA 4 1 (116, .iload 4, 2, 66, 0, [4], []) rfl rfl rfl ?_
        refine bGo hA 4 2 (118, .iload 5, 2, 67, 0, [5], []) rfl rfl rfl ?_
        refine bGo hA 4 3 (120, .invokestatic 107, 3, 68, 1, [2, 141, 3], []) rfl rfl rfl ?_
        refine hC _ _ _ _ _ (bRv_e (fun s16 k17 => ?_)) ((k9.2 c11).2 c15)
        show A (68, [.ref 6, v1, .int l2, .int l3, .int r4, .int r10], [], s16)
        refine bGo hA 4 4 (123, .iinc 3 (1), 3, 69, 0, [3], [(1, 0)]) rfl rfl rfl ?_
        refine bGo hA 4 5 (126, .goto (-83), 3, 70, 26, [], []) rfl rfl rfl ?_
        exact k17
  · refine bGo hA 4 6 (129, .iconst (1), 1, 71, 0, [], [(1, 0)]) rfl rfl rfl ?_
    refine bGo hA 4 7 (130, .ireturn, 1, 0, 0, [2], []) rfl rfl rfl ?_
    exact ⟨Or.inr rfl, (h.2 c1)⟩

theorem sg81_0 {lvl : Nat} {C : bCall} {Q : bPost} {A : bPt → Prop} (hC : bMono C) (hA : bClosed lvl bm81 C Q A)  {σ : bSt} 
  (h : A (2, [.ref 6, .int 0, .float 0, .float 0], [], σ)) : A (0, [.ref 6, .float 0, .float 0, .float 0], [], σ) := by
  refine bGo hA 0 0 (0, .iconst (0), 1, 1, 0, [], [(0, 0)]) rfl rfl rfl ?_
  refine bGo hA 0 1 (1, .istore_n 1, 1, 2, 0, [1], []) rfl rfl rfl ?_
  exact h

theorem sg81_2 {lvl : Nat} {C : bCall} {Q : bPost} {A : bPt → Prop} (hC : bMono C) (hA : bClosed lvl bm81 C Q A) {l1 : Int32} {v2 : Value} {v3 : Value} {σ : bSt} 
  (h : ((l1 < (σ.1 6 11) → (C 140 [.ref 28, .int l1] σ (bRi (fun r4 s2 => (C 140 [.ref 30, .int r4] s2 (bRi (fun r7 s5 => (C 89 [.ref 6, .int r7] s5 (bRa (fun r10 s8 => (r10 % 256 = 0 ∧ (((s8.1 r10 5) = 0 → (C 120 [.ref 9, .int (r4 >>> (8 &&& 31))] (bI s8 r10 5 1) (bRa (fun r14 s12 => (C 7 [.ref r10, .ref r14] s12 (bRv (fun s15 => A (2, [.ref 6, .int (l1 + 1), .int r4, .ref r10], [], s15)))))))) ∧ (¬ (s8.1 r10 5) = 0 → A (2, [.ref 6, .int (l1 + 1), .int r4, .ref r10], [], s8)))))))))))))) ∧ (¬ l1 < (σ.1 6 11) → Q (.inl none) σ))) : A (2, [.ref 6, .int l1, v2, v3], [], σ) := by
  refine bGo hA 0 2 (2, .iload_n 1, 1, 3, 0, [1], []) rfl rfl rfl ?_
  refine bGo hA 0 3 (3, .aload_n 0, 1, 4, 0, [0], []) rfl rfl rfl ?_
  refine bGo hA 0 4 (4, .getfield 89, 3, 5, 0, [6, 11, 0, 0, 0, 0], []) rfl rfl rfl ?_
  refine ⟨rfl, ?_⟩
  refine bGo hA 0 5 (7, .if_icmp .ge (58), 3, 6, 34, [], []) rfl rfl rfl ?_
  refine ⟨fun c1 => ?_, fun c1 => ?_⟩
  · refine bGo hA 0 6 (10, .aload_n 0, 1, 7, 0, [0], []) rfl rfl rfl ?_
    refine bGo hA 0 7 (11, .getfield 15, 3, 8, 0, [6, 5, 3, 28, 1, 0], []) rfl rfl rfl ?_
    refine ⟨rfl, ?_⟩
    refine bGo hA 0 8 (14, .iload_n 1, 1, 9, 0, [1], []) rfl rfl rfl ?_
    refine bGo hA 0 9 (15, .invokestatic 100, 3, 10, 1, [2, 140, 2], []) rfl rfl rfl ?_
    refine hC _ _ _ _ _ (bRi_e (fun r4 s2 k3 => ?_)) (h.1 c1)
    show A (10, [.ref 6, .int l1, v2, v3], [.int r4], s2)
    refine bGo hA 0 10 (18, .istore_n 2, 1, 11, 0, [2], []) rfl rfl rfl ?_
    refine bGo hA 0 11 (19, .aload_n 0, 1, 12, 0, [0], []) rfl rfl rfl ?_
    refine bGo hA 0 12 (20, .aload_n 0, 1, 13, 0, [0], []) rfl rfl rfl ?_
    refine bGo hA 0 13 (21, .getfield 21, 3, 14, 0, [6, 7, 3, 30, 1, 0], []) rfl rfl rfl ?_
    refine ⟨rfl, ?_⟩
    refine bGo hA 0 14 (24, .iload_n 2, 1, 15, 0, [2], []) rfl rfl rfl ?_
    refine bGo hA 0 15 (25, .invokestatic 100, 3, 16, 1, [2, 140, 2], []) rfl rfl rfl ?_
    refine hC _ _ _ _ _ (bRi_e (fun r7 s5 k6 => ?_)) k3
    show A (16, [.ref 6, .int l1, .int r4, v3], [.int r7, .ref 6], s5)
    refine bGo hA 1 0 (28, .invokevirtual 187, 3, 17, 0, [0, 6, 89, 1], []) rfl rfl rfl ?_
    refine ⟨rfl, ?_⟩
    refine hC _ _ _ _ _ (bRa_e (fun r10 s8 k9 => ?_)) k6
    show A (17, [.ref 6, .int l1, .int r4, v3], [.ref r10], s8)
    refine bGo hA 1 1 (31, .astore_n 3, 1, 18, 0, [3], []) rfl rfl rfl ?_
    refine bGo hA 1 2 (32, .aload_n 3, 1, 19, 0, [3], []) rfl rfl rfl ?_
    refine bGo hA 1 3 (33, .getfield 191, 3, 20, 0, [0, 5, 1, 0, 0, 0], []) rfl rfl rfl ?_
    refine ⟨k9.1, ?_⟩
    refine bGo hA 1 4 (36, .ifCond .ne (23), 3, 21, 32, [], []) rfl rfl rfl ?_
    refine ⟨fun c11 => ?_, fun c11 => ?_⟩
    · refine bGo hA 1 5 (39, .aload_n 3, 1, 22, 0, [3], []) rfl rfl rfl ?_
      refine bGo hA 1 6 (40, .iconst (1), 1, 23, 0, [], [(1, 0)]) rfl rfl rfl ?_
      refine bGo hA 1 7 (41, .putfield 191, 3, 24, 0, [0, 5, 1, 0, 0, 0], []) rfl rfl rfl ?_
      refine ⟨k9.1, Or.inr rfl, ?_⟩
      refine bGo hA 1 8 (44, .aload_n 3, 1, 25, 0, [3], []) rfl rfl rfl ?_
      refine bGo hA 1 9 (45, .aload_n 0, 1, 26, 0, [0], []) rfl rfl rfl ?_
      refine bGo hA 1 10 (46, .getfield 53, 3, 27, 0, [6, 3, 3, 9, 0, 0], []) rfl rfl rfl ?_
      refine ⟨rfl, ?_⟩
      refine bGo hA 1 11 (49, .iload_n 2, 1, 28, 0, [2], []) rfl rfl rfl ?_
      refine bGo hA 1 12 (50, .bipush (8), 2, 29, 0, [], [(8, 0)]) rfl rfl rfl ?_
      refine bGo hA 1 13 (52, .ishr, 1, 30, 0, [], []) rfl rfl rfl ?_
      refine bGo hA 1 14 (53, .invokevirtual 63, 3, 31, 0, [0, 9, 120, 1], []) rfl rfl rfl ?_
      refine ⟨rfl, ?_⟩
      refine hC _ _ _ _ _ (bRa_e (fun r14 s12 k13 => ?_)) (k9.2.1 c11)
      show A (31, [.ref 6, .int l1, .int r4, .ref r10], [.ref r14, .ref r10], s12)
      refine bGo hA 1 15 (56, .invokevirtual 195, 3, 32, 0, [0, 0, 7, 1], []) rfl rfl rfl ?_
      refine ⟨k9.1, ?_⟩
      refine hC _ _ _ _ _ (bRv_e (fun s15 k16 => ?_)) k13
      show A (32, [.ref 6, .int l1, .int r4, .ref r10], [], s15)
      refine bGo hA 2 0 (59, .iinc 1 (1), 3, 33, 0, [1], [(1, 0)]) rfl rfl rfl ?_
      refine bGo hA 2 1 (62, .goto (-60), 3, 34, 2, [], []) rfl rfl rfl ?_
      exact k16
    · refine bGo hA 2 0 (59, .iinc 1 (1), 3, 33, 0, [1], [(1, 0)]) rfl rfl rfl ?_
      refine bGo hA 2 1 (62, .goto (-60), 3, 34, 2, [], []) rfl rfl rfl ?_
      exact (k9.2.2 c11)
  · refine bGo hA 2 2 (65, .return_, 1, 0, 0, [0], []) rfl rfl rfl ?_
    exact (h.2 c1)

theorem sg82_0 {lvl : Nat} {C : bCall} {Q : bPost} {A : bPt → Prop} (hC : bMono C) (hA : bClosed lvl bm82 C Q A) {x1 : Int32} {σ : bSt} 
  (h : (C 69 [.ref 6, .int x1] σ (bRi (fun r3 s1 => (C 140 [.ref 30, .int r3] s1 (bRi (fun r6 s4 => (C 89 [.ref 6, .int r6] s4 (bRa (fun r9 s7 => Q (.inl (some (.ref r9))) s7)))))))))) : A (0, [.ref 6, .int x1], [], σ) := by
  refine bGo hA 0 0 (0, .aload_n 0, 1, 1, 0, [0], []) rfl rfl rfl ?_
  refine bGo hA 0 1 (1, .aload_n 0, 1, 2, 0, [0], []) rfl rfl rfl ?_
  refine bGo hA 0 2 (2, .getfield 21, 3, 3, 0, [6, 7, 3, 30, 1, 0], []) rfl rfl rfl ?_
  refine ⟨rfl, ?_⟩
  refine bGo hA 0 3 (5, .aload_n 0, 1, 4, 0, [0], []) rfl rfl rfl ?_
  refine bGo hA 0 4 (6, .iload_n 1, 1, 5, 0, [1], []) rfl rfl rfl ?_
  refine bGo hA 0 5 (7, .invokevirtual 173, 3, 6, 0, [0, 6, 69, 1], []) rfl rfl rfl ?_
  refine ⟨rfl, ?_⟩
  refine hC _ _ _ _ _ (bRi_e (fun r3 s1 k2 => ?_)) h
  show A (6, [.ref 6, .int x1], [.int r3, .ref 30, .ref 6], s1)
  refine bGo hA 0 6 (10, .invokestatic 100, 3, 7, 1, [2, 140, 2], []) rfl rfl rfl ?_
  refine hC _ _ _ _ _ (bRi_e (fun r6 s4 k5 => ?_)) k2
  show A (7, [.ref 6, .int x1], [.int r6, .ref 6], s4)
  refine bGo hA 0 7 (13, .invokevirtual 187, 3, 8, 0, [0, 6, 89, 1], []) rfl rfl rfl ?_
  refine ⟨rfl, ?_⟩
  refine hC _ _ _ _ _ (bRa_e (fun r9 s7 k8 => ?_)) k5
  show A (8, [.ref 6, .int x1], [.ref r9], s7)
  refine bGo hA 0 8 (16, .areturn, 1, 0, 0, [4], []) rfl rfl rfl ?_
  exact k8

theorem sg83_0 {lvl : Nat} {C : bCall} {Q : bPost} {A : bPt → Prop} (hC : bMono C) (hA : bClosed lvl bm83 C Q A) {x1 : Int32} {σ : bSt} 
  (h : (C 70 [.ref 6] σ (bRv (fun s1 => (C 69 [.ref 6, .int x1] s1 (bRi (fun r5 s3 => (C 71 [.ref 6, .int r5] s3 (bRv (fun s6 => A (9, [.ref 6, .int x1, .int 0, .float 0, .float 0], [], s6))))))))))) : A (0, [.ref 6, .int x1, .float 0, .float 0, .float 0], [], σ) := by
  refine bGo hA 0 0 (0, .aload_n 0, 1, 1, 0, [0], []) rfl rfl rfl ?_
  refine bGo hA 0 1 (1, .invokevirtual 170, 3, 2, 0, [0, 6, 70, 0], []) rfl rfl rfl ?_
  refine ⟨rfl, ?_⟩
  refine hC _ _ _ _ _ (bRv_e (fun s1 k2 => ?_)) h
  show A (2, [.ref 6, .int x1, .float 0, .float 0, .float 0], [], s1)
  refine bGo hA 0 2 (4, .aload_n 0, 1, 3, 0, [0], []) rfl rfl rfl ?_
  refine bGo hA 0 3 (5, .aload_n 0, 1, 4, 0, [0], []) rfl rfl rfl ?_
  refine bGo hA 0 4 (6, .iload_n 1, 1, 5, 0, [1], []) rfl rfl rfl ?_
  refine bGo hA 0 5 (7, .invokevirtual 173, 3, 6, 0, [0, 6, 69, 1], []) rfl rfl rfl ?_
  refine ⟨rfl, ?_⟩
  refine hC _ _ _ _ _ (bRi_e (fun r5 s3 k4 => ?_)) k2
  show A (6, [.ref 6, .int x1, .float 0, .float 0, .float 0], [.int r5, .ref 6], s3)
  refine bGo hA 0 6 (10, .invokevirtual 176, 3, 7, 0, [0, 6, 71, 1], []) rfl rfl rfl ?_
  refine ⟨rfl, ?_⟩
  refine hC _ _ _ _ _ (bRv_e (fun s6 k7 => ?_)) k4
  show A (7, [.ref 6, .int x1, .float 0, .float 0, .float 0], [], s6)
  refine bGo hA 0 7 (13, .iconst (0), 1, 8, 0, [], [(0, 0)]) rfl rfl rfl ?_
  refine bGo hA 0 8 (14, .istore_n 2, 1, 9, 0, [2], []) rfl rfl rfl ?_
  exact k7

theorem sg83_9 {lvl : Nat} {C : bCall} {Q : bPost} {A : bPt → Prop} (hC : bMono C) (hA : bClosed lvl bm83 C Q A) {l1 : Int32} {l2 : Int32} {v3 : Value} {v4 : Value} {σ : bSt} 
  (h : ((l2 < (σ.1 6 11) → (C 140 [.ref 28, .int l2] σ (bRi (fun r4 s2 => (C 140 [.ref 29, .int r4] s2 (bRi (fun r7 s5 => ((r7 = 0 → (C 86 [.ref 6, .int r4] s5 (bRi (fun r11 s9 => ((r11 = 0 → (C 141 [.ref 30, .int r4, .int (-1)] s9 (bRv (fun s14 => A (9, [.ref 6, .int l1, .int (l2 + 1), .int r4, .int 0], [], s14))))) ∧ (¬ r11 = 0 → (C 88 [.ref 6] s9 (bRi (fun r19 s17 => (C 141 [.ref 30, .int r4, .int r19] s17 (bRv (fun s20 => A (9, [.ref 6, .int l1, .int (l2 + 1), .int r4, .int 1], [], s20))))))))))))) ∧ (¬ r7 = 0 → (C 141 [.ref 30, .int r4, .int (-1)] s5 (bRv (fun s23 => A (9, [.ref 6, .int l1, .int (l2 + 1), .int r4, .int 0], [], s23))))))))))))) ∧ (¬ l2 < (σ.1 6 11) → (C 69 [.ref 6, .int l1] σ (bRi (fun r27 s25 => (C 140 [.ref 30, .int r27] s25 (bRi (fun r30 s28 => Q (.inl (some (.int r30))) s28))))))))) : A (9, [.ref 6, .int l1, .int l2, v3, v4], [], σ) := by
  refine bGo hA 0 9 (15, .iload_n 2, 1, 10, 0, [2], []) rfl rfl rfl ?_
  refine bGo hA 0 10 (16, .aload_n 0, 1, 11, 0, [0], []) rfl rfl rfl ?_
  refine bGo hA 0 11 (17, .getfield 89, 3, 12, 0, [6, 11, 0, 0, 0, 0], []) rfl rfl rfl ?_
  refine ⟨rfl, ?_⟩
  refine bGo hA 0 12 (20, .if_icmp .ge (65), 3, 13, 43, [], []) rfl rfl rfl ?_
  refine ⟨fun c1 => ?_, fun c1 => ?_⟩
  · refine bGo hA 0 13 (23, .aload_n 0, 1, 14, 0, [0], []) rfl rfl rfl ?_
    refine bGo hA 0 14 (24, .getfield 15, 3, 15, 0, [6, 5, 3, 28, 1, 0], []) rfl rfl rfl ?_
    refine ⟨rfl, ?_⟩
    refine bGo hA 0 15 (27, .iload_n 2, 1, 16, 0, [2], []) rfl rfl rfl ?_
    refine bGo hA 1 0 (28, .invokestatic 100, 3, 17, 1, [2, 140, 2], []) rfl rfl rfl ?_
    refine hC _ _ _ _ _ (bRi_e (fun r4 s2 k3 => ?_)) (h.1 c1)
    show A (17, [.ref 6, .int l1, .int l2, v3, v4], [.int r4], s2)
    refine bGo hA 1 1 (31, .istore_n 3, 1, 18, 0, [3], []) rfl rfl rfl ?_
    refine bGo hA 1 2 (32, .aload_n 0, 1, 19, 0, [0], []) rfl rfl rfl ?_
    refine bGo hA 1 3 (33, .getfield 18, 3, 20, 0, [6, 6, 3, 29, 1, 0], []) rfl rfl rfl ?_
    refine ⟨rfl, ?_⟩
    refine bGo hA 1 4 (36, .iload_n 3, 1, 21, 0, [3], []) rfl rfl rfl ?_
    refine bGo hA 1 5 (37, .invokestatic 100, 3, 22, 1, [2, 140, 2], []) rfl rfl rfl ?_
    refine hC _ _ _ _ _ (bRi_e (fun r7 s5 k6 => ?_)) k3
    show A (22, [.ref 6, .int l1, .int l2, .int r4, v4], [.int r7], s5)
    refine bGo hA 1 6 (40, .ifCond .ne (15), 3, 23, 29, [], []) rfl rfl rfl ?_
    refine ⟨fun c8 => ?_, fun c8 => ?_⟩
    · refine bGo hA 1 7 (43, .aload_n 0, 1, 24, 0, [0], []) rfl rfl rfl ?_
      refine bGo hA 1 8 (44, .iload_n 3, 1, 25, 0, [3], []) rfl rfl rfl ?_
      refine bGo hA 1 9 (45, .invokevirtual 180, 3, 26, 0, [0, 6, 86, 1], []) rfl rfl rfl ?_
      refine ⟨rfl, ?_⟩
      refine hC _ _ _ _ _ (bRi_e (fun r11 s9 k10 => ?_)) (k6.1 c8)
      show A (26, [.ref 6, .int l1, .int l2, .int r4, v4], [.int r11], s9)
      refine bGo hA 1 10 (48, .ifCond .eq (7), 3, 27, 29, [], []) rfl rfl rfl ?_
      refine ⟨fun c12 => ?_, fun c12 => ?_⟩
      · refine bGo hA 1 13 (55, .iconst (0), 1, 30, 0, [], [(0, 0)]) rfl rfl rfl ?_
        refine bGo hA 1 14 (56, .istore 4, 2, 31, 0, [4], []) rfl rfl rfl ?_
        refine bGo hA 1 15 (58, .aload_n 0, 1, 32, 0, [0], []) rfl rfl rfl ?_
        refine bGo hA 2 0 (59, .getfield 21, 3, 33, 0, [6, 7, 3, 30, 1, 0], []) rfl rfl rfl ?_
        refine ⟨rfl, ?_⟩
        refine bGo hA 2 1 (62, .iload_n 3, 1, 34, 0, [3], []) rfl rfl rfl ?_
        refine bGo hA 2 2 (63, .iload 4, 2, 35, 0, [4], []) rfl rfl rfl ?_
        refine bGo hA 2 3 (65, .ifCond .eq (10), 3, 36, 39, [], []) rfl rfl rfl ?_
        refine ⟨fun _ => ?_, fun c => absurd (by decide) c⟩
        refine bGo hA 2 7 (75, .iconst (-1), 1, 40, 0, [], [(-1, 0)]) rfl rfl rfl ?_
        refine bGo hA 2 8 (76, .invokestatic 107, 3, 41, 1, [2, 141, 3], []) rfl rfl rfl ?_
        refine hC _ _ _ _ _ (bRv_e (fun s14 k15 => ?_)) (k10.1 c12)
        show A (41, [.ref 6, .int l1, .int l2, .int r4, .int 0], [], s14)
        refine bGo hA 2 9 (79, .iinc 2 (1), 3, 42, 0, [2], [(1, 0)]) rfl rfl rfl ?_
        refine bGo hA 2 10 (82, .goto (-67), 3, 43, 9, [], []) rfl rfl rfl ?_
        exact k15
      · refine bGo hA 1 11 (51, .iconst (1), 1, 28, 0, [], [(1, 0)]) rfl rfl rfl ?_
        refine bGo hA 1 12 (52, .goto (4), 3, 29, 30, [], []) rfl rfl rfl ?_
        refine bGo hA 1 14 (56, .istore 4, 2, 31, 0, [4], []) rfl rfl rfl ?_
        refine bGo hA 1 15 (58, .aload_n 0, 1, 32, 0, [0], []) rfl rfl rfl ?_
        refine bGo hA 2 0 (59, .getfield 21, 3, 33, 0, [6, 7, 3, 30, 1, 0], []) rfl rfl rfl ?_
        refine ⟨rfl, ?_⟩
        refine bGo hA 2 1 (62, .iload_n 3, 1, 34, 0, [3], []) rfl rfl rfl ?_
        refine bGo hA 2 2 (63, .iload 4, 2, 35, 0, [4], []) rfl rfl rfl ?_
        refine bGo hA 2 3 (65, .ifCond .eq (10), 3, 36, 39, [], []) rfl rfl rfl ?_
        refine ⟨fun c => absurd c (by decide), fun _ => ?_⟩
        refine bGo hA 2 4 (68, .aload_n 0, 1, 37, 0, [0], []) rfl rfl rfl ?_
        refine bGo hA 2 5 (69, .invokevirtual 183, 3, 38, 0, [0, 6, 88, 0], []) rfl rfl rfl ?_
        refine ⟨rfl, ?_⟩
        refine hC _ _ _ _ _ (bRi_e (fun r19 s17 k18 => ?_)) (k10.2 c12)
        show A (38, [.ref 6, .int l1, .int l2, .int r4, .int 1], [.int r19, .int r4, .ref 30], s17)
        refine bGo hA 2 6 (72, .goto (4), 3, 39, 40, [], []) rfl rfl rfl ?_
        refine bGo hA 2 8 (76, .invokestatic 107, 3, 41, 1, [2, 141, 3], []) rfl rfl rfl ?_
        refine hC _ _ _ _ _ (bRv_e (fun s20 k21 => ?_)) k18
        show A (41, [.ref 6, .int l1, .int l2, .int r4, .int 1], [], s20)
        refine bGo hA 2 9 (79, .iinc 2 (1), 3, 42, 0, [2], [(1, 0)]) rfl rfl rfl ?_
        refine bGo hA 2 10 (82, .goto (-67), 3, 43, 9, [], []) rfl rfl rfl ?_
        exact k21
    · refine bGo hA 1 13 (55, .iconst (0), 1, 30, 0, [], [(0, 0)]) rfl rfl rfl ?_
      refine bGo hA 1 14 (56, .istore 4, 2, 31, 0, [4], []) rfl rfl rfl ?_
      refine bGo hA 1 15 (58, .aload_n 0, 1, 32, 0, [0], []) rfl rfl rfl ?_
      refine bGo hA 2 0 (59, .getfield 21, 3, 33, 0, [6, 7, 3, 30, 1, 0], []) rfl rfl rfl ?_
      refine ⟨rfl, ?_⟩
      refine bGo hA 2 1 (62, .iload_n 3, 1, 34, 0, [3], []) rfl rfl rfl ?_
      refine bGo hA 2 2 (63, .iload 4, 2, 35, 0, [4], []) rfl rfl rfl ?_
      refine bGo hA 2 3 (65, .ifCond .eq (10), 3, 36, 39, [], []) rfl rfl rfl ?_
      refine ⟨fun _ => ?_, fun c => absurd (by decide) c⟩
      refine bGo hA 2 7 (75, .iconst (-1), 1, 40, 0, [], [(-1, 0)]) rfl rfl rfl ?_
      refine bGo hA 2 8 (76, .invokestatic 107, 3, 41, 1, [2, 141, 3], []) rfl rfl rfl ?_
      refine hC _ _ _ _ _ (bRv_e (fun s23 k24 => ?_)) (k6.2 c8)
      show A (41, [.ref 6, .int l1, .int l2, .int r4, .int 0], [], s23)
      refine bGo hA 2 9 (79, .iinc 2 (1), 3, 42, 0, [2], [(1, 0)]) rfl rfl rfl ?_
      refine bGo hA 2 10 (82, .goto (-67), 3, 43, 9, [], []) rfl rfl rfl ?_
      exact k24
  · refine bGo hA 2 11 (85, .aload_n 0, 1, 44, 0, [0], []) rfl rfl rfl ?_
    refine bGo hA 2 12 (86, .getfield 21, 3, 45, 0, [6, 7, 3, 30, 1, 0], []) rfl rfl rfl ?_
    refine ⟨rfl, ?_⟩
    refine bGo hA 2 13 (89, .aload_n 0, 1, 46, 0, [0], []) rfl rfl rfl ?_
    refine bGo hA 2 14 (90, .iload_n 1, 1, 47, 0, [1], []) rfl rfl rfl ?_
    refine bGo hA 2 15 (91, .invokevirtual 173, 3, 48, 0, [0, 6, 69, 1], []) rfl rfl rfl ?_
    refine ⟨rfl, ?_⟩
    refine hC _ _ _ _ _ (bRi_e (fun r27 s25 k26 => ?_)) (h.2 c1)
    show A (48, [.ref 6, .int l1, .int l2, v3, v4], [.int r27, .ref 30], s25)
    refine bGo hA 3 0 (94, .invokestatic 100, 3, 49, 1, [2, 140, 2], []) rfl rfl rfl ?_
    refine hC _ _ _ _ _ (bRi_e (fun r30 s28 k29 => ?_)) k26
    show A (49, [.ref 6, .int l1, .int l2, v3, v4], [.int r30], s28)
    refine bGo hA 3 1 (97, .ireturn, 1, 0, 0, [1], []) rfl rfl rfl ?_
    exact k29

theorem sg84_0 {lvl : Nat} {C : bCall} {Q : bPost} {A : bPt → Prop} (hC : bMono C) (hA : bClosed lvl bm84 C Q A) {x1 : Int32} {σ : bSt} 
  (h : (C 70 [.ref 6] σ (bRv (fun s1 => (C 69 [.ref 6, .int x1] s1 (bRi (fun r5 s3 => (C 71 [.ref 6, .int r5] s3 (bRv (fun s6 => A (9, [.ref 6, .int x1, .int 0, .float 0, .float 0], [], s6))))))))))) : A (0, [.ref 6, .int x1, .float 0, .float 0, .float 0], [], σ) := by
  refine bGo hA 0 0 (0, .aload_n 0, 1, 1, 0, [0], []) rfl rfl rfl ?_
  refine bGo hA 0 1 (1, .invokevirtual 170, 3, 2, 0, [0, 6, 70, 0], []) rfl rfl rfl ?_
  refine ⟨rfl, ?_⟩
  refine hC _ _ _ _ _ (bRv_e (fun s1 k2 => ?_)) h
  show A (2, [.ref 6, .int x1, .float 0, .float 0, .float 0], [], s1)
  refine bGo hA 0 2 (4, .aload_n 0, 1, 3, 0, [0], []) rfl rfl rfl ?_
  refine bGo hA 0 3 (5, .aload_n 0, 1, 4, 0, [0], []) rfl rfl rfl ?_
  refine bGo hA 0 4 (6, .iload_n 1, 1, 5, 0, [1], []) rfl rfl rfl ?_
  refine bGo hA 0 5 (7, .invokevirtual 173, 3, 6, 0, [0, 6, 69, 1], []) rfl rfl rfl ?_
  refine ⟨rfl, ?_⟩
  refine hC _ _ _ _ _ (bRi_e (fun r5 s3 k4 => ?_)) k2
  show A (6, [.ref 6, .int x1, .float 0, .float 0, .float 0], [.int r5, .ref 6], s3)
  refine bGo hA 0 6 (10, .invokevirtual 176, 3, 7, 0, [0, 6, 71, 1], []) rfl rfl rfl ?_
  refine ⟨rfl, ?_⟩
  refine hC _ _ _ _ _ (bRv_e (fun s6 k7 => ?_)) k4
  show A (7, [.ref 6, .int x1, .float 0, .float 0, .float 0], [], s6)
  refine bGo hA 0 7 (13, .iconst (0), 1, 8, 0, [], [(0, 0)]) rfl rfl rfl ?_
  refine bGo hA 0 8 (14, .istore_n 2, 1, 9, 0, [2], []) rfl rfl rfl ?_
  exact k7

theorem sg84_9 {lvl : Nat} {C : bCall} {Q : bPost} {A : bPt → Prop} (hC : bMono C) (hA : bClosed lvl bm84 C Q A) {l1 : Int32} {l2 : Int32} {v3 : Value} {v4 : Value} {σ : bSt} 
  (h : ((l2 < (σ.1 6 11) → (C 140 [.ref 28, .int l2] σ (bRi (fun r4 s2 => (C 140 [.ref 29, .int r4] s2 (bRi (fun r7 s5 => ((r7 = 0 → (C 86 [.ref 6, .int r4] s5 (bRi (fun r11 s9 => ((r11 = 0 → (C 141 [.ref 30, .int r4, .int (-1)] s9 (bRv (fun s13 => A (9, [.ref 6, .int l1, .int (l2 + 1), .int r4, .int (-1)], [], s13))))) ∧ (¬ r11 = 0 → (C 87 [.ref 6] s9 (bRa (fun r17 s15 => (C 85 [.ref 6, .ref r17] s15 (bRi (fun r20 s18 => (C 141 [.ref 30, .int r4, .int r20] s18 (bRv (fun s21 => A (9, [.ref 6, .int l1, .int (l2 + 1), .int r4, .int r20], [], s21)))))))))))))))) ∧ (¬ r7 = 0 → (C 141 [.ref 30, .int r4, .int (-1)] s5 (bRv (fun s23 => A (9, [.ref 6, .int l1, .int (l2 + 1), .int r4, .int (-1)], [], s23))))))))))))) ∧ (¬ l2 < (σ.1 6 11) → (C 69 [.ref 6, .int l1] σ (bRi (fun r27 s25 => (C 140 [.ref 30, .int r27] s25 (bRi (fun r30 s28 => Q (.inl (some (.int r30))) s28))))))))) : A (9, [.ref 6, .int l1, .int l2, v3, v4], [], σ) := by
  refine bGo hA 0 9 (15, .iload_n 2, 1, 10, 0, [2], []) rfl rfl rfl ?_
  refine bGo hA 0 10 (16, .aload_n 0, 1, 11, 0, [0], []) rfl rfl rfl ?_
  refine bGo hA 0 11 (17, .getfield 89, 3, 12, 0, [6, 11, 0, 0, 0, 0], []) rfl rfl rfl ?_
  refine ⟨rfl, ?_⟩
  refine bGo hA 0 12 (20, .if_icmp .ge (60), 3, 13, 41, [], []) rfl rfl rfl ?_
  refine ⟨fun c1 => ?_, fun c1 => ?_⟩
  · refine bGo hA 0 13 (23, .aload_n 0, 1, 14, 0, [0], []) rfl rfl rfl ?_
    refine bGo hA 0 14 (24, .getfield 15, 3, 15, 0, [6, 5, 3, 28, 1, 0], []) rfl rfl rfl ?_
    refine ⟨rfl, ?_⟩
    refine bGo hA 0 15 (27, .iload_n 2, 1, 16, 0, [2], []) rfl rfl rfl ?_
    refine bGo hA 1 0 (28, .invokestatic 100, 3, 17, 1, [2, 140, 2], []) rfl rfl rfl ?_
    refine hC _ _ _ _ _ (bRi_e (fun r4 s2 k3 => ?_)) (h.1 c1)
    show A (17, [.ref 6, .int l1, .int l2, v3, v4], [.int r4], s2)
    refine bGo hA 1 1 (31, .istore_n 3, 1, 18, 0, [3], []) rfl rfl rfl ?_
    refine bGo hA 1 2 (32, .iconst (-1), 1, 19, 0, [], [(-1, 0)]) rfl rfl rfl ?_
    refine bGo hA 1 3 (33, .istore 4, 2, 20, 0, [4], []) rfl rfl rfl ?_
    refine bGo hA 1 4 (35, .aload_n 0, 1, 21, 0, [0], []) rfl rfl rfl ?_
    refine bGo hA 1 5 (36, .getfield 18, 3, 22, 0, [6, 6, 3, 29, 1, 0], []) rfl rfl rfl ?_
    refine ⟨rfl, ?_⟩
    refine bGo hA 1 6 (39, .iload_n 3, 1, 23, 0, [3], []) rfl rfl rfl ?_
    refine bGo hA 1 7 (40, .invokestatic 100, 3, 24, 1, [2, 140, 2], []) rfl rfl rfl ?_
    refine hC _ _ _ _ _ (bRi_e (fun r7 s5 k6 => ?_)) k3
    show A (24, [.ref 6, .int l1, .int l2, .int r4, .int (-1)], [.int r7], s5)
    refine bGo hA 1 8 (43, .ifCond .ne (21), 3, 25, 34, [], []) rfl rfl rfl ?_
    refine ⟨fun c8 => ?_, fun c8 => ?_⟩
    · refine bGo hA 1 9 (46, .aload_n 0, 1, 26, 0, [0], []) rfl rfl rfl ?_
      refine bGo hA 1 10 (47, .iload_n 3, 1, 27, 0, [3], []) rfl rfl rfl ?_
      refine bGo hA 1 11 (48, .invokevirtual 180, 3, 28, 0, [0, 6, 86, 1], []) rfl rfl rfl ?_
      refine ⟨rfl, ?_⟩
      refine hC _ _ _ _ _ (bRi_e (fun r11 s9 k10 => ?_)) (k6.1 c8)
      show A (28, [.ref 6, .int l1, .int l2, .int r4, .int (-1)], [.int r11], s9)
      refine bGo hA 1 12 (51, .ifCond .eq (13), 3, 29, 34, [], []) rfl rfl rfl ?_
      refine ⟨fun c12 => ?_, fun c12 => ?_⟩
      · refine bGo hA 2 2 (64, .aload_n 0, 1, 35, 0, [0], []) rfl rfl rfl ?_
        refine bGo hA 2 3 (65, .getfield 21, 3, 36, 0, [6, 7, 3, 30, 1, 0], []) rfl rfl rfl ?_
        refine ⟨rfl, ?_⟩
        refine bGo hA 2 4 (68, .iload_n 3, 1, 37, 0, [3], []) rfl rfl rfl ?_
        refine bGo hA 2 5 (69, .iload 4, 2, 38, 0, [4], []) rfl rfl rfl ?_
        refine bGo hA 2 6 (71, .invokestatic 107, 3, 39, 1, [2, 141, 3], []) rfl rfl rfl ?_
        refine hC _ _ _ _ _ (bRv_e (fun s13 k14 => ?_)) (k10.1 c12)
        show A (39, [.ref 6, .int l1, .int l2, .int r4, .int (-1)], [], s13)
        refine bGo hA 2 7 (74, .iinc 2 (1), 3, 40, 0, [2], [(1, 0)]) rfl rfl rfl ?_
        refine bGo hA 2 8 (77, .goto (-62), 3, 41, 9, [], []) rfl rfl rfl ?_
        exact k14
      · refine bGo hA 1 13 (54, .aload_n 0, 1, 30, 0, [0], []) rfl rfl rfl ?_
        refine bGo hA 1 14 (55, .aload_n 0, 1, 31, 0, [0], []) rfl rfl rfl ?_
        refine bGo hA 1 15 (56, .invokevirtual 199, 3, 32, 0, [0, 6, 87, 0], []) rfl rfl rfl ?_
        refine ⟨rfl, ?_⟩
        refine hC _ _ _ _ _ (bRa_e (fun r17 s15 k16 => ?_)) (k10.2 c12)
        show A (32, [.ref 6, .int l1, .int l2, .int r4, .int (-1)], [.ref r17, .ref 6], s15)
        refine bGo hA 2 0 (59, .invokevirtual 203, 3, 33, 0, [0, 6, 85, 1], []) rfl rfl rfl ?_
        refine ⟨rfl, ?_⟩
        refine hC _ _ _ _ _ (bRi_e (fun r20 s18 k19 => ?_)) k16
        show A (33, [.ref 6, .int l1, .int l2, .int r4, .int (-1)], [.int r20], s18)
        refine bGo hA 2 1 (62, .istore 4, 2, 34, 0, [4], []) rfl rfl rfl ?_
        refine bGo hA 2 2 (64, .aload_n 0, 1, 35, 0, [0], []) rfl rfl rfl ?_
        refine bGo hA 2 3 (65, .getfield 21, 3, 36, 0, [6, 7, 3, 30, 1, 0], []) rfl rfl rfl ?_
        refine ⟨rfl, ?_⟩
        refine bGo hA 2 4 (68, .iload_n 3, 1, 37, 0, [3], []) rfl rfl rfl ?_
        refine bGo hA 2 5 (69, .iload 4, 2, 38, 0, [4], []) rfl rfl rfl ?_
        refine bGo hA 2 6 (71, .invokestatic 107, 3, 39, 1, [2, 141, 3], []) rfl rfl rfl ?_
        refine hC _ _ _ _ _ (bRv_e (fun s21 k22 => ?_)) k19
        show A (39, [.ref 6, .int l1, .int l2, .int r4, .int r20], [], s21)
        refine bGo hA 2 7 (74, .iinc 2 (1), 3, 40, 0, [2], [(1, 0)]) rfl rfl rfl ?_
        refine bGo hA 2 8 (77, .goto (-62), 3, 41, 9, [], []) rfl rfl rfl ?_
        exact k22
    · refine bGo hA 2 2 (64, .aload_n 0, 1, 35, 0, [0], []) rfl rfl rfl ?_
      refine bGo hA 2 3 (65, .getfield 21, 3, 36, 0, [6, 7, 3, 30, 1, 0], []) rfl rfl rfl ?_
      refine ⟨rfl, ?_⟩
      refine bGo hA 2 4 (68, .iload_n 3, 1, 37, 0, [3], []) rfl rfl rfl ?_
      refine bGo hA 2 5 (69, .iload 4, 2, 38, 0, [4], []) rfl rfl rfl ?_
      refine bGo hA 2 6 (71, .invokestatic 107, 3, 39, 1, [2, 141, 3], []) rfl rfl rfl ?_
      refine hC _ _ _ _ _ (bRv_e (fun s23 k24 => ?_)) (k6.2 c8)
      show A (39, [.ref 6, .int l1, .int l2, .int r4, .int (-1)], [], s23)
      refine bGo hA 2 7 (74, .iinc 2 (1), 3, 40, 0, [2], [(1, 0)]) rfl rfl rfl ?_
      refine bGo hA 2 8 (77, .goto (-62), 3, 41, 9, [], []) rfl rfl rfl ?_
      exact k24
  · refine bGo hA 2 9 (80, .aload_n 0, 1, 42, 0, [0], []) rfl rfl rfl ?_
    refine bGo hA 2 10 (81, .getfield 21, 3, 43, 0, [6, 7, 3, 30, 1, 0], []) rfl rfl rfl ?_
    refine ⟨rfl, ?_⟩
    refine bGo hA 2 11 (84, .aload_n 0, 1, 44, 0, [0], []) rfl rfl rfl ?_
    refine bGo hA 2 12 (85, .iload_n 1, 1, 45, 0, [1], []) rfl rfl rfl ?_
    refine bGo hA 2 13 (86, .invokevirtual 173, 3, 46, 0, [0, 6, 69, 1], []) rfl rfl rfl ?_
    refine ⟨rfl, ?_⟩
    refine hC _ _ _ _ _ (bRi_e (fun r27 s25 k26 => ?_)) (h.2 c1)
    show A (46, [.ref 6, .int l1, .int l2, v3, v4], [.int r27, .ref 30], s25)
    refine bGo hA 2 14 (89, .invokestatic 100, 3, 47, 1, [2, 140, 2], []) rfl rfl rfl ?_
    refine hC _ _ _ _ _ (bRi_e (fun r30 s28 k29 => ?_)) k26
    show A (47, [.ref 6, .int l1, .int l2, v3, v4], [.int r30], s28)
    refine bGo hA 2 15 (92, .ireturn, 1, 0, 0, [1], []) rfl rfl rfl ?_
    exact k29

theorem sg85_0 {lvl : Nat} {C : bCall} {Q : bPost} {A : bPt → Prop} (hC : bMono C) (hA : bClosed lvl bm85 C Q A) {a1 : Nat} {σ : bSt} (h_a1 : a1 % 256 = 0)
  (h : ((256 * (2 * (a1 / 256) + 0) + 4) % 256 = 4 ∧ A (7, [.ref 6, .ref a1, .int 0, .float 0], [], (bI σ (256 * (2 * (a1 / 256) + 0) + 4) 3 (σ.1 a1 1))))) : A (0, [.ref 6, .ref a1, .float 0, .float 0], [], σ) := by
  refine bGo hA 0 0 (0, .aload_n 1, 1, 1, 0, [1], []) rfl rfl rfl ?_
  refine bGo hA 0 1 (1, .getfield 207, 3, 2, 0, [0, 3, 3, 4, 2, 0], []) rfl rfl rfl ?_
  refine ⟨h_a1, ?_⟩
  refine bGo hA 0 2 (4, .aload_n 1, 1, 3, 0, [1], []) rfl rfl rfl ?_
  refine bGo hA 0 3 (5, .getfield 211, 3, 4, 0, [0, 1, 0, 0, 0, 0], []) rfl rfl rfl ?_
  refine ⟨h_a1, ?_⟩
  refine bGo hA 0 4 (8, .putfield 214, 3, 5, 0, [4, 3, 0, 0, 0, 0], []) rfl rfl rfl ?_
  refine ⟨h.1, ?_⟩
  refine bGo hA 0 5 (11, .iconst (0), 1, 6, 0, [], [(0, 0)]) rfl rfl rfl ?_
  refine bGo hA 0 6 (12, .istore_n 2, 1, 7, 0, [2], []) rfl rfl rfl ?_
  exact h.2

theorem sg85_7 {lvl : Nat} {C : bCall} {Q : bPost} {A : bPt → Prop} (hC : bMono C) (hA : bClosed lvl bm85 C Q A) {l1 : Nat} {l2 : Int32} {v3 : Value} {σ : bSt} 
  (h : (l1 % 256 = 0 ∧ ((l2 < (σ.1 l1 1) → (C 4 [.ref l1, .int l2] σ (bRi (fun r4 s2 => ((256 * (2 * (l1 / 256) + 0) + 4) % 256 = 4 ∧ ((r4 < 100 → (C 31 [.ref 3, .int r4] s2 (bRi (fun r8 s6 => (C 141 [.ref (256 * (1 * ((256 * (2 * (l1 / 256) + 0) + 4) / 256) + 0) + 22), .int l2, .int r8] s6 (bRv (fun s9 => A (7, [.ref 6, .ref l1, .int (l2 + 1), .int r4], [], s9)))))))) ∧ (¬ r4 < 100 → (C 141 [.ref (256 * (1 * ((256 * (2 * (l1 / 256) + 0) + 4) / 256) + 0) + 22), .int l2, .int (r4 - 100)] s2 (bRv (fun s11 => A (7, [.ref 6, .ref l1, .int (l2 + 1), .int r4], [], s11))))))))))) ∧ (¬ l2 < (σ.1 l1 1) → ((256 * (2 * (l1 / 256) + 0) + 4) % 256 = 4 ∧ (C 40 [.ref (256 * (2 * (l1 / 256) + 0) + 4), .ref 3, .int (σ.1 l1 0)] σ (bRv (fun s13 => Q (.inl (some (.int (s13.1 (256 * (2 * (l1 / 256) + 0) + 4) 8)))) s13)))))))) : A (7, [.ref 6, .ref l1, .int l2, v3], [], σ) := by
  refine bGo hA 0 7 (13, .iload_n 2, 1, 8, 0, [2], []) rfl rfl rfl ?_
  refine bGo hA 0 8 (14, .aload_n 1, 1, 9, 0, [1], []) rfl rfl rfl ?_
  refine bGo hA 0 9 (15, .getfield 211, 3, 10, 0, [0, 1, 0, 0, 0, 0], []) rfl rfl rfl ?_
  refine ⟨h.1, ?_⟩
  refine bGo hA 0 10 (18, .if_icmp .ge (47), 3, 11, 33, [], []) rfl rfl rfl ?_
  refine ⟨fun c1 => ?_, fun c1 => ?_⟩
  · refine bGo hA 0 11 (21, .aload_n 1, 1, 12, 0, [1], []) rfl rfl rfl ?_
    refine bGo hA 0 12 (22, .iload_n 2, 1, 13, 0, [2], []) rfl rfl rfl ?_
    refine bGo hA 0 13 (23, .invokevirtual 217, 3, 14, 0, [0, 0, 4, 1], []) rfl rfl rfl ?_
    refine ⟨h.1, ?_⟩
    refine hC _ _ _ _ _ (bRi_e (fun r4 s2 k3 => ?_)) (h.2.1 c1)
    show A (14, [.ref 6, .ref l1, .int l2, v3], [.int r4], s2)
    refine bGo hA 0 14 (26, .istore_n 3, 1, 15, 0, [3], []) rfl rfl rfl ?_
    refine bGo hA 0 15 (27, .aload_n 1, 1, 16, 0, [1], []) rfl rfl rfl ?_
    refine bGo hA 1 0 (28, .getfield 207, 3, 17, 0, [0, 3, 3, 4, 2, 0], []) rfl rfl rfl ?_
    refine ⟨h.1, ?_⟩
    refine bGo hA 1 1 (31, .getfield 220, 3, 18, 0, [4, 4, 3, 22, 1, 0], []) rfl rfl rfl ?_
    refine ⟨k3.1, ?_⟩
    refine bGo hA 1 2 (34, .iload_n 2, 1, 19, 0, [2], []) rfl rfl rfl ?_
    refine bGo hA 1 3 (35, .iload_n 3, 1, 20, 0, [3], []) rfl rfl rfl ?_
    refine bGo hA 1 4 (36, .bipush (100), 2, 21, 0, [], [(100, 0)]) rfl rfl rfl ?_
    refine bGo hA 1 5 (38, .if_icmp .ge (14), 3, 22, 27, [], []) rfl rfl rfl ?_
    refine ⟨fun c5 => ?_, fun c5 => ?_⟩
    · refine bGo hA 1 6 (41, .aload_n 0, 1, 23, 0, [0], []) rfl rfl rfl ?_
      refine bGo hA 1 7 (42, .getfield 41, 3, 24, 0, [6, 0, 3, 3, 0, 0], []) rfl rfl rfl ?_
      refine ⟨rfl, ?_⟩
      refine bGo hA 1 8 (45, .iload_n 3, 1, 25, 0, [3], []) rfl rfl rfl ?_
      refine bGo hA 1 9 (46, .invokevirtual 163, 3, 26, 0, [0, 3, 31, 1], []) rfl rfl rfl ?_
      refine ⟨rfl, ?_⟩
      refine hC _ _ _ _ _ (bRi_e (fun r8 s6 k7 => ?_)) (k3.2.1 c5)
      show A (26, [.ref 6, .ref l1, .int l2, .int r4], [.int r8, .int l2, .ref (256 * (1 * ((256 * (2 * (l1 / 256) + 0) + 4) / 256) + 0) + 22)], s6)
      refine bGo hA 1 10 (49, .goto (7), 3, 27, 30, [], []) rfl rfl rfl ?_
      refine bGo hA 1 14 (56, .invokestatic 107, 3, 31, 1, [2, 141, 3], []) rfl rfl rfl ?_
      refine hC _ _ _ _ _ (bRv_e (fun s9 k10 => ?_)) k7
      show A (31, [.ref 6, .ref l1, .int l2, .int r4], [], s9)
      refine bGo hA 1 15 (59, .iinc 2 (1), 3, 32, 0, [2], [(1, 0)]) rfl rfl rfl ?_
      refine bGo hA 2 0 (62, .goto (-49), 3, 33, 7, [], []) rfl rfl rfl ?_
      exact k10
    · refine bGo hA 1 11 (52, .iload_n 3, 1, 28, 0, [3], []) rfl rfl rfl ?_
      refine bGo hA 1 12 (53, .bipush (100), 2, 29, 0, [], [(100, 0)]) rfl rfl rfl ?_
      refine bGo hA 1 13 (55, .isub, 1, 30, 0, [], []) rfl rfl rfl ?_
      refine bGo hA 1 14 (56, .invokestatic 107, 3, 31, 1, [2, 141, 3], []) rfl rfl rfl ?_
      refine hC _ _ _ _ _ (bRv_e (fun s11 k12 => ?_)) (k3.2.2 c5)
      show A (31, [.ref 6, .ref l1, .int l2, .int r4], [], s11)
      refine bGo hA 1 15 (59, .iinc 2 (1), 3, 32, 0, [2], [(1, 0)]) rfl rfl rfl ?_
      refine bGo hA 2 0 (62, .goto (-49), 3, 33, 7, [], []) rfl rfl rfl ?_
      exact k12
  · refine bGo hA 2 1 (65, .aload_n 1, 1, 34, 0, [1], []) rfl rfl rfl ?_
    refine bGo hA 2 2 (66, .getfield 207, 3, 35, 0, [0, 3, 3, 4, 2, 0], []) rfl rfl rfl ?_
    refine ⟨h.1, ?_⟩
    refine bGo hA 2 3 (69, .aload_n 0, 1, 36, 0, [0], []) rfl rfl rfl ?_
    refine bGo hA 2 4 (70, .getfield 41, 3, 37, 0, [6, 0, 3, 3, 0, 0], []) rfl rfl rfl ?_
    refine ⟨rfl, ?_⟩
    refine bGo hA 2 5 (73, .aload_n 1, 1, 38, 0, [1], []) rfl rfl rfl ?_
    refine bGo hA 2 6 (74, .getfield 223, 3, 39, 0, [0, 0, 0, 0, 0, 0], []) rfl rfl rfl ?_
    refine ⟨h.1, ?_⟩
    refine bGo hA 2 7 (77, .invokevirtual 224, 3, 40, 0, [0, 4, 40, 2], []) rfl rfl rfl ?_
    refine ⟨(h.2.2 c1).1, ?_⟩
    refine hC _ _ _ _ _ (bRv_e (fun s13 k14 => ?_)) (h.2.2 c1).2
    show A (40, [.ref 6, .ref l1, .int l2, v3], [], s13)
    refine bGo hA 2 8 (80, .aload_n 1, 1, 41, 0, [1], []) rfl rfl rfl ?_
    refine bGo hA 2 9 (81, .getfield 207, 3, 42, 0, [0, 3, 3, 4, 2, 0], []) rfl rfl rfl ?_
    refine ⟨h.1, ?_⟩
    refine bGo hA 2 10 (84, .getfield 228, 3, 43, 0, [4, 8, 0, 0, 0, 0], []) rfl rfl rfl ?_
    refine ⟨(h.2.2 c1).1, ?_⟩
    refine bGo hA 2 11 (87, .ireturn, 1, 0, 0, [1], []) rfl rfl rfl ?_
    exact k14

theorem sg86_0 {lvl : Nat} {C : bCall} {Q : bPost} {A : bPt → Prop} (hC : bMono C) (hA : bClosed lvl bm86 C Q A) {x1 : Int32} {σ : bSt} 
  (h : (C 120 [.ref 9, .int (x1 >>> (8 &&& 31))] σ (bRa (fun r3 s1 => (C 87 [.ref 6] s1 (bRa (fun r6 s4 => (r3 % 256 = 8 ∧ (C 116 [.ref r3, .int (x1 &&& 255)] s4 (bRi (fun r9 s7 => (C 75 [.ref 6, .ref r3, .int x1] s7 (bRi (fun r12 s10 => (r6 % 256 = 0 ∧ (C 1 [.ref r6, .ref r3, .int r9, .int r12] s10 (bRv (fun s13 => A (24, [.ref 6, .int x1, .ref r3, .ref r6, .int 0, .float 0, .float 0], [], s13))))))))))))))))))) : A (0, [.ref 6, .int x1, .float 0, .float 0, .float 0, .float 0, .float 0], [], σ) := by
  refine bGo hA 0 0 (0, .aload_n 0, 1, 1, 0, [0], []) rfl rfl rfl ?_
  refine bGo hA 0 1 (1, .getfield 53, 3, 2, 0, [6, 3, 3, 9, 0, 0], []) rfl rfl rfl ?_
  refine ⟨rfl, ?_⟩
  refine bGo hA 0 2 (4, .iload_n 1, 1, 3, 0, [1], []) rfl rfl rfl ?_
  refine bGo hA 0 3 (5, .bipush (8), 2, 4, 0, [], [(8, 0)]) rfl rfl rfl ?_
  refine bGo hA 0 4 (7, .ishr, 1, 5, 0, [], []) rfl rfl rfl ?_
  refine bGo hA 0 5 (8, .invokevirtual 63, 3, 6, 0, [0, 9, 120, 1], []) rfl rfl rfl ?_
  refine ⟨rfl, ?_⟩
  refine hC _ _ _ _ _ (bRa_e (fun r3 s1 k2 => ?_)) h
  show A (6, [.ref 6, .int x1, .float 0, .float 0, .float 0, .float 0, .float 0], [.ref r3], s1)
  refine bGo hA 0 6 (11, .astore_n 2, 1, 7, 0, [2], []) rfl rfl rfl ?_
  refine bGo hA 0 7 (12, .aload_n 0, 1, 8, 0, [0], []) rfl rfl rfl ?_
  refine bGo hA 0 8 (13, .invokevirtual 199, 3, 9, 0, [0, 6, 87, 0], []) rfl rfl rfl ?_
  refine ⟨rfl, ?_⟩
  refine hC _ _ _ _ _ (bRa_e (fun r6 s4 k5 => ?_)) k2
  show A (9, [.ref 6, .int x1, .ref r3, .float 0, .float 0, .float 0, .float 0], [.ref r6], s4)
  refine bGo hA 0 9 (16, .astore_n 3, 1, 10, 0, [3], []) rfl rfl rfl ?_
  refine bGo hA 0 10 (17, .aload_n 3, 1, 11, 0, [3], []) rfl rfl rfl ?_
  refine bGo hA 0 11 (18, .aload_n 2, 1, 12, 0, [2], []) rfl rfl rfl ?_
  refine bGo hA 0 12 (19, .aload_n 2, 1, 13, 0, [2], []) rfl rfl rfl ?_
  refine bGo hA 0 13 (20, .iload_n 1, 1, 14, 0, [1], []) rfl rfl rfl ?_
  refine bGo hA 0 14 (21, .sipush (255), 3, 15, 0, [], [(255, 0)]) rfl rfl rfl ?_
  refine bGo hA 0 15 (24, .iand, 1, 16, 0, [], []) rfl rfl rfl ?_
  refine bGo hA 1 0 (25, .invokevirtual 135, 3, 17, 0, [0, 8, 116, 1], []) rfl rfl rfl ?_
  refine ⟨k5.1, ?_⟩
  refine hC _ _ _ _ _ (bRi_e (fun r9 s7 k8 => ?_)) k5.2
  show A (17, [.ref 6, .int x1, .ref r3, .ref r6, .float 0, .float 0, .float 0], [.int r9, .ref r3, .ref r6], s7)
  refine bGo hA 1 1 (28, .aload_n 0, 1, 18, 0, [0], []) rfl rfl rfl ?_
  refine bGo hA 1 2 (29, .aload_n 2, 1, 19, 0, [2], []) rfl rfl rfl ?_
  refine bGo hA 1 3 (30, .iload_n 1, 1, 20, 0, [1], []) rfl rfl rfl ?_
  refine bGo hA 1 4 (31, .invokevirtual 138, 3, 21, 0, [0, 6, 75, 2], []) rfl rfl rfl ?_
  refine ⟨rfl, ?_⟩
  refine hC _ _ _ _ _ (bRi_e (fun r12 s10 k11 => ?_)) k8
  show A (21, [.ref 6, .int x1, .ref r3, .ref r6, .float 0, .float 0, .float 0], [.int r12, .int r9, .ref r3, .ref r6], s10)
  refine bGo hA 1 5 (34, .invokevirtual 231, 3, 22, 0, [0, 0, 1, 3], []) rfl rfl rfl ?_
  refine ⟨k11.1, ?_⟩
  refine hC _ _ _ _ _ (bRv_e (fun s13 k14 => ?_)) k11.2
  show A (22, [.ref 6, .int x1, .ref r3, .ref r6, .float 0, .float 0, .float 0], [], s13)
  refine bGo hA 1 6 (37, .iconst (0), 1, 23, 0, [], [(0, 0)]) rfl rfl rfl ?_
  refine bGo hA 1 7 (38, .istore 4, 2, 24, 0, [4], []) rfl rfl rfl ?_
  exact k14

theorem sg86_24 {lvl : Nat} {C : bCall} {Q : bPost} {A : bPt → Prop} (hC : bMono C) (hA : bClosed lvl bm86 C Q A) {l1 : Int32} {l2 : Nat} {l3 : Nat} {l4 : Int32} {v5 : Value} {v6 : Value} {σ : bSt} 
  (h : (l2 % 256 = 8 ∧ ((l4 < (σ.1 l2 13) → (C 112 [.ref l2, .int l4] σ (bRi (fun r4 s2 => (C 73 [.ref 6, .ref l2, .int l1, .int r4] s2 (bRi (fun r7 s5 => ((r4 < 1000 → ((r7 = (-1) → (l3 % 256 = 0 ∧ (C 3 [.ref l3, .long ((Int64.ofNat 1) <<< (Int32.toInt64 r4 &&& 63))] s5 (bRv (fun s10 => A (24, [.ref 6, .int l1, .ref l2, .ref l3, .int (l4 + 1), .int r4, .int r7], [], s10)))))) ∧ (¬ r7 = (-1) → (C 140 [.ref 30, .int r7] s5 (bRi (fun r14 s12 => ((r14 = (-1) → Q (.inl (some (.int 0))) s12) ∧ (¬ r14 = (-1) → (C 140 [.ref 30, .int r7] s12 (bRi (fun r18 s16 => (l3 % 256 = 0 ∧ (C 2 [.ref l3, .int (100 + r18)] s16 (bRv (fun s19 => A (24, [.ref 6, .int l1, .ref l2, .ref l3, .int (l4 + 1), .int r4, .int r7], [], s19)))))))))))))))) ∧ (¬ r4 < 1000 → (C 77 [.ref 6, .ref l2, .int r4] s5 (bRj (fun r23 s21 => (l3 % 256 = 0 ∧ (C 3 [.ref l3, .long r23] s21 (bRv (fun s24 => A (24, [.ref 6, .int l1, .ref l2, .ref l3, .int (l4 + 1), .int r4, .int r7], [], s24))))))))))))))))) ∧ (¬ l4 < (σ.1 l2 13) → Q (.inl (some (.int 1))) σ)))) : A (24, [.ref 6, .int l1, .ref l2, .ref l3, .int l4, v5, v6], [], σ) := by
  refine bGo hA 1 8 (40, .iload 4, 2, 25, 0, [4], []) rfl rfl rfl ?_
  refine bGo hA 1 9 (42, .aload_n 2, 1, 26, 0, [2], []) rfl rfl rfl ?_
  refine bGo hA 1 10 (43, .getfield 104, 3, 27, 0, [8, 13, 0, 0, 0, 0], []) rfl rfl rfl ?_
  refine ⟨h.1, ?_⟩
  refine bGo hA 1 11 (46, .if_icmp .ge (97), 3, 28, 75, [], []) rfl rfl rfl ?_
  refine ⟨fun c1 => ?_, fun c1 => ?_⟩
  · refine bGo hA 1 12 (49, .aload_n 2, 1, 29, 0, [2], []) rfl rfl rfl ?_
    refine bGo hA 1 13 (50, .iload 4, 2, 30, 0, [4], []) rfl rfl rfl ?_
    refine bGo hA 1 14 (52, .invokevirtual 111, 3, 31, 0, [0, 8, 112, 1], []) rfl rfl rfl ?_
    refine ⟨h.1, ?_⟩
    refine hC _ _ _ _ _ (bRi_e (fun r4 s2 k3 => ?_)) (h.2.1 c1)
    show A (31, [.ref 6, .int l1, .ref l2, .ref l3, .int l4, v5, v6], [.int r4], s2)
    refine bGo hA 1 15 (55, .istore 5, 2, 32, 0, [5], []) rfl rfl rfl ?_
    refine bGo hA 2 0 (57, .aload_n 0, 1, 33, 0, [0], []) rfl rfl rfl ?_
    refine bGo hA 2 1 (58, .aload_n 2, 1, 34, 0, [2], []) rfl rfl rfl ?_
    refine bGo hA 2 2 (59, .iload_n 1, 1, 35, 0, [1], []) rfl rfl rfl ?_
    refine bGo hA 2 3 (60, .iload 5, 2, 36, 0, [5], []) rfl rfl rfl ?_
    refine bGo hA 2 4 (62, .invokevirtual 115, 3, 37, 0, [0, 6, 73, 3], []) rfl rfl rfl ?_
    refine ⟨rfl, ?_⟩
    refine hC _ _ _ _ _ (bRi_e (fun r7 s5 k6 => ?_)) k3
    show A (37, [.ref 6, .int l1, .ref l2, .ref l3, .int l4, .int r4, v6], [.int r7], s5)
    refine bGo hA 2 5 (65, .istore 6, 2, 38, 0, [6], []) rfl rfl rfl ?_
    refine bGo hA 2 6 (67, .iload 5, 2, 39, 0, [5], []) rfl rfl rfl ?_
    refine bGo hA 2 7 (69, .sipush (1000), 3, 40, 0, [], [(1000, 0)]) rfl rfl rfl ?_
    refine bGo hA 2 8 (72, .if_icmp .lt (17), 3, 41, 48, [], []) rfl rfl rfl ?_
    refine ⟨fun c8 => ?_, fun c8 => ?_⟩
    · refine bGo hA 3 0 (89, .iload 6, 2, 49, 0, [6], []) rfl rfl rfl ?_
      refine bGo hA 3 1 (91, .iconst (-1), 1, 50, 0, [], [(-1, 0)]) rfl rfl rfl ?_
      refine bGo hA 3 2 (92, .if_icmp .ne (14), 3, 51, 57, [], []) rfl rfl rfl ?_
      refine ⟨fun c9 => ?_, fun c9 => ?_⟩
      · refine bGo hA 3 3 (95, .aload_n 3, 1, 52, 0, [3], []) rfl rfl rfl ?_
        refine bGo hA 3 4 (96, .lconst 1, 1, 53, 0, [1], []) rfl rfl rfl ?_
        refine bGo hA 3 5 (97, .iload 5, 2, 54, 0, [5], []) rfl rfl rfl ?_
        refine bGo hA 3 6 (99, .lshl, 1, 55, 0, [], []) rfl rfl rfl ?_
        refine bGo hA 3 7 (100, .invokevirtual 235, 3, 56, 0, [0, 0, 3, 1], []) rfl rfl rfl ?_
        refine ⟨((k6.1 c8).1 c9).1, ?_⟩
        refine hC _ _ _ _ _ (bRv_e (fun s10 k11 => ?_)) ((k6.1 c8).1 c9).2
        show A (56, [.ref 6, .int l1, .ref l2, .ref l3, .int l4, .int r4, .int r7], [], s10)
        refine bGo hA 3 8 (103, .goto (34), 3, 57, 73, [], []) rfl rfl rfl ?_
        refine bGo hA 4 9 (137, .iinc 4 (1), 3, 74, 0, [4], [(1, 0)]) rfl rfl rfl ?_
        refine bGo hA 4 10 (140, .goto (-100), 3, 75, 24, [], []) rfl rfl rfl ?_
        exact k11
      · refine bGo hA 3 9 (106, .aload_n 0, 1, 58, 0, [0], []) rfl rfl rfl ?_
        refine bGo hA 3 10 (107, .getfield 21, 3, 59, 0, [6, 7, 3, 30, 1, 0], []) rfl rfl rfl ?_
        refine ⟨rfl, ?_⟩
        refine bGo hA 3 11 (110, .iload 6, 2, 60, 0, [6], []) rfl rfl rfl ?_
        refine bGo hA 3 12 (112, .invokestatic 100, 3, 61, 1, [2, 140, 2], []) rfl rfl rfl ?_
        refine hC _ _ _ _ _ (bRi_e (fun r14 s12 k13 => ?_)) ((k6.1 c8).2 c9)
        show A (61, [.ref 6, .int l1, .ref l2, .ref l3, .int l4, .int r4, .int r7], [.int r14], s12)
        refine bGo hA 3 13 (115, .iconst (-1), 1, 62, 0, [], [(-1, 0)]) rfl rfl rfl ?_
        refine bGo hA 3 14 (116, .if_icmp .ne (5), 3, 63, 65, [], []) rfl rfl rfl ?_
        refine ⟨fun c15 => ?_, fun c15 => ?_⟩
        · refine bGo hA 3 15 (119, .iconst (0), 1, 64, 0, [], [(0, 0)]) rfl rfl rfl ?_
          refine bGo hA 4 0 (120, .ireturn, 1, 65, 0, [2], []) rfl rfl rfl ?_
          exact ⟨Or.inl rfl, (k13.1 c15)⟩
        · refine bGo hA 4 1 (121, .aload_n 3, 1, 66, 0, [3], []) rfl rfl rfl ?_
          refine bGo hA 4 2 (122, .bipush (100), 2, 67, 0, [], [(100, 0)]) rfl rfl rfl ?_
          refine bGo hA 4 3 (124, .aload_n 0, 1, 68, 0, [0], []) rfl rfl rfl ?_
          refine bGo hA 4 4 (125, .getfield 21, 3, 69, 0, [6, 7, 3, 30, 1, 0], []) rfl rfl rfl ?_
          refine ⟨rfl, ?_⟩
          refine bGo hA 4 5 (128, .iload 6, 2, 70, 0, [6], []) rfl rfl rfl ?_
          refine bGo hA 4 6 (130, .invokestatic 100, 3, 71, 1, [2, 140, 2], []) rfl rfl rfl ?_
          refine hC _ _ _ _ _ (bRi_e (fun r18 s16 k17 => ?_)) (k13.2 c15)
          show A (71, [.ref 6, .int l1, .ref l2, .ref l3, .int l4, .int r4, .int r7], [.int r18, .int 100, .ref l3], s16)
          refine bGo hA 4 7 (133, .iadd, 1, 72, 0, [], []) rfl rfl rfl ?_
          refine bGo hA 4 8 (134, .invokevirtual 239, 3, 73, 0, [0, 0, 2, 1], []) rfl rfl rfl ?_
          refine ⟨k17.1, ?_⟩
          refine hC _ _ _ _ _ (bRv_e (fun s19 k20 => ?_)) k17.2
          show A (73, [.ref 6, .int l1, .ref l2, .ref l3, .int l4, .int r4, .int r7], [], s19)
          refine bGo hA 4 9 (137, .iinc 4 (1), 3, 74, 0, [4], [(1, 0)]) rfl rfl rfl ?_
          refine bGo hA 4 10 (140, .goto (-100), 3, 75, 24, [], []) rfl rfl rfl ?_
          exact k20
    · refine bGo hA 2 9 (75, .aload_n 3, 1, 42, 0, [3], []) rfl rfl rfl ?_
      refine bGo hA 2 10 (76, .aload_n 0, 1, 43, 0, [0], []) rfl rfl rfl ?_
      refine bGo hA 2 11 (77, .aload_n 2, 1, 44, 0, [2], []) rfl rfl rfl ?_
      refine bGo hA 2 12 (78, .iload 5, 2, 45, 0, [5], []) rfl rfl rfl ?_
      refine bGo hA 2 13 (80, .invokevirtual 144, 3, 46, 0, [0, 6, 77, 2], []) rfl rfl rfl ?_
      refine ⟨rfl, ?_⟩
      refine hC _ _ _ _ _ (bRj_e (fun r23 s21 k22 => ?_)) (k6.2 c8)
      show A (46, [.ref 6, .int l1, .ref l2, .ref l3, .int l4, .int r4, .int r7], [.long r23, .ref l3], s21)
      refine bGo hA 2 14 (83, .invokevirtual 235, 3, 47, 0, [0, 0, 3, 1], []) rfl rfl rfl ?_
      refine ⟨k22.1, ?_⟩
      refine hC _ _ _ _ _ (bRv_e (fun s24 k25 => ?_)) k22.2
      show A (47, [.ref 6, .int l1, .ref l2, .ref l3, .int l4, .int r4, .int r7], [], s24)
      refine bGo hA 2 15 (86, .goto (51), 3, 48, 73, [], []) rfl rfl rfl ?_
      refine bGo hA 4 9 (137, .iinc 4 (1), 3, 74, 0, [4], [(1, 0)]) rfl rfl rfl ?_
      refine bGo hA 4 10 (140, .goto (-100), 3, 75, 24, [], []) rfl rfl rfl ?_
      exact k25
  · refine bGo hA 4 11 (143, .iconst (1), 1, 76, 0, [], [(1, 0)]) rfl rfl rfl ?_
    refine bGo hA 4 12 (144, .ireturn, 1, 0, 0, [2], []) rfl rfl rfl ?_
    exact ⟨Or.inr rfl, (h.2.2 c1)⟩

theorem sg87_0 {lvl : Nat} {C : bCall} {Q : bPost} {A : bPt → Prop} (hC : bMono C) (hA : bClosed lvl bm87 C Q A)  {σ : bSt} 
  (h : (((σ.1 6 13) < 0 → Q (.inl (some (.ref 0))) σ) ∧ (¬ (σ.1 6 13) < 0 → (((σ.1 6 13) < 121 → (vp_in (σ.1 6 13) 121 ∧ ((σ.2.2.1 33 (((σ.1 6 13)).toNatClampNeg) = none → (σ.2.2.2.1 (256 * ((σ.1 6 13).toInt.toNat + 1) + 0) = 0 ∧ ((256 * ((σ.1 6 13).toInt.toNat + 1) + 0) % 256 = 0 ∧ (C 0 [.retAddr (256 * ((σ.1 6 13).toInt.toNat + 1) + 0)] (bNew σ (256 * ((σ.1 6 13).toInt.toNat + 1) + 0) 1 18) (bRv (fun s5 => (vp_in (s5.1 6 13) 121 ∧ Q (.inl (some (.ref (256 * ((σ.1 6 13).toInt.toNat + 1) + 0)))) (bR s5 33 ((s5.1 6 13)).toNatClampNeg (some (256 * ((σ.1 6 13).toInt.toNat + 1) + 0)))))))))) ∧ (∀ z3 : Nat, σ.2.2.1 33 (((σ.1 6 13)).toNatClampNeg) = some z3 → Q (.inl (some (.ref z3))) σ)))) ∧ (¬ (σ.1 6 13) < 121 → Q (.inl (some (.ref 0))) σ))))) : A (0, [.ref 6, .float 0], [], σ) := by
  refine bGo hA 0 0 (0, .aload_n 0, 1, 1, 0, [0], []) rfl rfl rfl ?_
  refine bGo hA 0 1 (1, .getfield 179, 3, 2, 0, [6, 13, 0, 0, 0, 0], []) rfl rfl rfl ?_
  refine ⟨rfl, ?_⟩
  refine bGo hA 0 2 (4, .ifCond .lt (15), 3, 3, 9, [], []) rfl rfl rfl ?_
  refine ⟨fun c1 => ?_, fun c1 => ?_⟩
  · refine bGo hA 0 9 (19, .aload_n 0, 1, 10, 0, [0], []) rfl rfl rfl ?_
    refine bGo hA 0 10 (20, .getfield 37, 3, 11, 0, [6, 15, 3, 0, 0, 0], []) rfl rfl rfl ?_
    refine ⟨rfl, ?_⟩
    refine bGo hA 0 11 (23, .areturn, 1, 12, 0, [4], []) rfl rfl rfl ?_
    exact (h.1 c1)
  · refine bGo hA 0 3 (7, .aload_n 0, 1, 4, 0, [0], []) rfl rfl rfl ?_
    refine bGo hA 0 4 (8, .getfield 179, 3, 5, 0, [6, 13, 0, 0, 0, 0], []) rfl rfl rfl ?_
    refine ⟨rfl, ?_⟩
    refine bGo hA 0 5 (11, .aload_n 0, 1, 6, 0, [0], []) rfl rfl rfl ?_
    refine bGo hA 0 6 (12, .getfield 32, 3, 7, 0, [6, 14, 3, 33, 1, 0], []) rfl rfl rfl ?_
    refine ⟨rfl, ?_⟩
    refine bGo hA 0 7 (15, .arraylength, 1, 8, 0, [], []) rfl rfl rfl ?_
    refine ⟨by decide, ?_⟩
    refine bGo hA 0 8 (16, .if_icmp .lt (8), 3, 9, 12, [], []) rfl rfl rfl ?_
    refine ⟨fun c2 => ?_, fun c2 => ?_⟩
    · refine bGo hA 0 12 (24, .aload_n 0, 1, 13, 0, [0], []) rfl rfl rfl ?_
      refine bGo hA 0 13 (25, .getfield 32, 3, 14, 0, [6, 14, 3, 33, 1, 0], []) rfl rfl rfl ?_
      refine ⟨rfl, ?_⟩
      refine bGo hA 0 14 (28, .aload_n 0, 1, 15, 0, [0], []) rfl rfl rfl ?_
      refine bGo hA 0 15 (29, .getfield 179, 3, 16, 0, [6, 13, 0, 0, 0, 0], []) rfl rfl rfl ?_
      refine ⟨rfl, ?_⟩
      refine bGo hA 1 0 (32, .aaload, 1, 17, 0, [10, 0], []) rfl rfl rfl ?_
      refine ⟨rfl, ((h.2 c1).1 c2).1, ?_⟩
      refine bOptC (P := fun v => A (17, [.ref 6, .float 0], v :: [], σ)) (σ.2.2.1 33 (((σ.1 6 13)).toNatClampNeg)) (fun c4 => ?_) (fun z3 c4 => ?_)
      · refine bGo hA 1 1 (33, .astore_n 1, 1, 18, 0, [1], []) rfl rfl rfl ?_
        refine bGo hA 1 2 (34, .aload_n 1, 1, 19, 0, [1], []) rfl rfl rfl ?_
        refine bGo hA 1 3 (35, .ifnonnull (21), 3, 20, 30, [], []) rfl rfl rfl ?_
        refine bGo hA 1 4 (38, .new 30, 3, 21, 0, [2, 0, 18, 6, 13], []) rfl rfl rfl ?_
        refine ⟨(((h.2 c1).1 c2).2.1 c4).1, ?_⟩
        refine bGo hA 1 5 (41, .dup, 1, 22, 0, [], []) rfl rfl rfl ?_
        refine bGo hA 1 6 (42, .invokespecial 36, 3, 23, 1, [4, 0, 0, 0], []) rfl rfl rfl ?_
        refine ⟨(((h.2 c1).1 c2).2.1 c4).2.1, rfl, ?_⟩
        refine hC _ _ _ _ _ (bRv_e (fun s5 k6 => ?_)) (((h.2 c1).1 c2).2.1 c4).2.2
        show A (23, [.ref 6, .null], [.ref (256 * ((σ.1 6 13).toInt.toNat + 1) + 0)], s5)
        refine bGo hA 1 7 (45, .astore_n 1, 1, 24, 0, [1], []) rfl rfl rfl ?_
        refine bGo hA 1 8 (46, .aload_n 0, 1, 25, 0, [0], []) rfl rfl rfl ?_
        refine bGo hA 1 9 (47, .getfield 32, 3, 26, 0, [6, 14, 3, 33, 1, 0], []) rfl rfl rfl ?_
        refine ⟨rfl, ?_⟩
        refine bGo hA 1 10 (50, .aload_n 0, 1, 27, 0, [0], []) rfl rfl rfl ?_
        refine bGo hA 1 11 (51, .getfield 179, 3, 28, 0, [6, 13, 0, 0, 0, 0], []) rfl rfl rfl ?_
        refine ⟨rfl, ?_⟩
        refine bGo hA 1 12 (54, .aload_n 1, 1, 29, 0, [1], []) rfl rfl rfl ?_
        refine bGo hA 1 13 (55, .aastore, 1, 30, 0, [10, 0], []) rfl rfl rfl ?_
        refine ⟨rfl, k6.1, by decide, (fun _ h => by cases h; exact (((h.2 c1).1 c2).2.1 c4).2.1), ?_⟩
        refine bGo hA 1 14 (56, .aload_n 1, 1, 31, 0, [1], []) rfl rfl rfl ?_
        refine bGo hA 1 15 (57, .areturn, 1, 0, 0, [4], []) rfl rfl rfl ?_
        exact k6.2
      · refine bGo hA 1 1 (33, .astore_n 1, 1, 18, 0, [1], []) rfl rfl rfl ?_
        refine bGo hA 1 2 (34, .aload_n 1, 1, 19, 0, [1], []) rfl rfl rfl ?_
        refine bGo hA 1 3 (35, .ifnonnull (21), 3, 20, 30, [], []) rfl rfl rfl ?_
        refine bGo hA 1 14 (56, .aload_n 1, 1, 31, 0, [1], []) rfl rfl rfl ?_
        refine bGo hA 1 15 (57, .areturn, 1, 0, 0, [4], []) rfl rfl rfl ?_
        exact (((h.2 c1).1 c2).2.2 z3 c4)
    · refine bGo hA 0 9 (19, .aload_n 0, 1, 10, 0, [0], []) rfl rfl rfl ?_
      refine bGo hA 0 10 (20, .getfield 37, 3, 11, 0, [6, 15, 3, 0, 0, 0], []) rfl rfl rfl ?_
      refine ⟨rfl, ?_⟩
      refine bGo hA 0 11 (23, .areturn, 1, 12, 0, [4], []) rfl rfl rfl ?_
      exact ((h.2 c1).2 c2)

theorem sg88_0 {lvl : Nat} {C : bCall} {Q : bPost} {A : bPt → Prop} (hC : bMono C) (hA : bClosed lvl bm88 C Q A)  {σ : bSt} 
  (h : A (2, [.ref 6, .int 0], [], σ)) : A (0, [.ref 6, .float 0], [], σ) := by
  refine bGo hA 0 0 (0, .iconst (0), 1, 1, 0, [], [(0, 0)]) rfl rfl rfl ?_
  refine bGo hA 0 1 (1, .istore_n 1, 1, 2, 0, [1], []) rfl rfl rfl ?_
  exact h

theorem sg88_2 {lvl : Nat} {C : bCall} {Q : bPost} {A : bPt → Prop} (hC : bMono C) (hA : bClosed lvl bm88 C Q A) {l1 : Int32} {σ : bSt} 
  (h : ((l1 < (σ.1 6 13) → (C 89 [.ref 6, .int l1] σ (bRa (fun r4 s2 => (C 87 [.ref 6] s2 (bRa (fun r7 s5 => (r4 % 256 = 0 ∧ (C 6 [.ref r4, .ref r7] s5 (bRi (fun r10 s8 => ((r10 = 0 → A (2, [.ref 6, .int (l1 + 1)], [], s8)) ∧ (¬ r10 = 0 → Q (.inl (some (.int l1))) s8))))))))))))) ∧ (¬ l1 < (σ.1 6 13) → Q (.inl (some (.int (-1)))) σ))) : A (2, [.ref 6, .int l1], [], σ) := by
  refine bGo hA 0 2 (2, .iload_n 1, 1, 3, 0, [1], []) rfl rfl rfl ?_
  refine bGo hA 0 3 (3, .aload_n 0, 1, 4, 0, [0], []) rfl rfl rfl ?_
  refine bGo hA 0 4 (4, .getfield 179, 3, 5, 0, [6, 13, 0, 0, 0, 0], []) rfl rfl rfl ?_
  refine ⟨rfl, ?_⟩
  refine bGo hA 0 5 (7, .if_icmp .ge (26), 3, 6, 17, [], []) rfl rfl rfl ?_
  refine ⟨fun c1 => ?_, fun c1 => ?_⟩
  · refine bGo hA 0 6 (10, .aload_n 0, 1, 7, 0, [0], []) rfl rfl rfl ?_
    refine bGo hA 0 7 (11, .iload_n 1, 1, 8, 0, [1], []) rfl rfl rfl ?_
    refine bGo hA 0 8 (12, .invokevirtual 187, 3, 9, 0, [0, 6, 89, 1], []) rfl rfl rfl ?_
    refine ⟨rfl, ?_⟩
    refine hC _ _ _ _ _ (bRa_e (fun r4 s2 k3 => ?_)) (h.1 c1)
    show A (9, [.ref 6, .int l1], [.ref r4], s2)
    refine bGo hA 0 9 (15, .aload_n 0, 1, 10, 0, [0], []) rfl rfl rfl ?_
    refine bGo hA 0 10 (16, .invokevirtual 199, 3, 11, 0, [0, 6, 87, 0], []) rfl rfl rfl ?_
    refine ⟨rfl, ?_⟩
    refine hC _ _ _ _ _ (bRa_e (fun r7 s5 k6 => ?_)) k3
    show A (11, [.ref 6, .int l1], [.ref r7, .ref r4], s5)
    refine bGo hA 0 11 (19, .invokevirtual 242, 3, 12, 0, [0, 0, 6, 1], []) rfl rfl rfl ?_
    refine ⟨k6.1, ?_⟩
    refine hC _ _ _ _ _ (bRi_e (fun r10 s8 k9 => ?_)) k6.2
    show A (12, [.ref 6, .int l1], [.int r10], s8)
    refine bGo hA 0 12 (22, .ifCond .eq (5), 3, 13, 15, [], []) rfl rfl rfl ?_
    refine ⟨fun c11 => ?_, fun c11 => ?_⟩
    · refine bGo hA 0 15 (27, .iinc 1 (1), 3, 16, 0, [1], [(1, 0)]) rfl rfl rfl ?_
      refine bGo hA 1 0 (30, .goto (-28), 3, 17, 2, [], []) rfl rfl rfl ?_
      exact (k9.1 c11)
    · refine bGo hA 0 13 (25, .iload_n 1, 1, 14, 0, [1], []) rfl rfl rfl ?_
      refine bGo hA 0 14 (26, .ireturn, 1, 15, 0, [1], []) rfl rfl rfl ?_
      exact (k9.2 c11)
  · refine bGo hA 1 1 (33, .iconst (-1), 1, 18, 0, [], [(-1, 0)]) rfl rfl rfl ?_
    refine bGo hA 1 2 (34, .ireturn, 1, 0, 0, [1], []) rfl rfl rfl ?_
    exact (h.2 c1)

theorem sg89_0 {lvl : Nat} {C : bCall} {Q : bPost} {A : bPt → Prop} (hC : bMono C) (hA : bClosed lvl bm89 C Q A) {x1 : Int32} {σ : bSt} 
  (h : ((x1 < 0 → Q (.inl (some (.ref 0))) σ) ∧ (¬ x1 < 0 → ((x1 < 121 → (vp_in x1 121 ∧ ((σ.2.2.1 33 ((x1).toNatClampNeg) = none → Q (.inl (some (.ref 0))) σ) ∧ (∀ z3 : Nat, σ.2.2.1 33 ((x1).toNatClampNeg) = some z3 → Q (.inl (some (.ref z3))) σ)))) ∧ (¬ x1 < 121 → Q (.inl (some (.ref 0))) σ))))) : A (0, [.ref 6, .int x1, .float 0], [], σ) := by
  refine bGo hA 0 0 (0, .iload_n 1, 1, 1, 0, [1], []) rfl rfl rfl ?_
  refine bGo hA 0 1 (1, .ifCond .lt (21), 3, 2, 12, [], []) rfl rfl rfl ?_
  refine ⟨fun c1 => ?_, fun c1 => ?_⟩
  · refine bGo hA 0 12 (22, .aconst_null, 1, 13, 0, [], []) rfl rfl rfl ?_
    refine bGo hA 0 13 (23, .astore_n 2, 1, 14, 0, [2], []) rfl rfl rfl ?_
    refine bGo hA 0 14 (24, .aload_n 2, 1, 15, 0, [2], []) rfl rfl rfl ?_
    refine bGo hA 0 15 (25, .ifnonnull (10), 3, 16, 19, [], []) rfl rfl rfl ?_
    refine bGo hA 1 0 (28, .aload_n 0, 1, 17, 0, [0], []) rfl rfl rfl ?_
    refine bGo hA 1 1 (29, .getfield 37, 3, 18, 0, [6, 15, 3, 0, 0, 0], []) rfl rfl rfl ?_
    refine ⟨rfl, ?_⟩
    refine bGo hA 1 2 (32, .goto (4), 3, 19, 20, [], []) rfl rfl rfl ?_
    refine bGo hA 1 4 (36, .areturn, 1, 0, 0, [4], []) rfl rfl rfl ?_
    exact (h.1 c1)
  · refine bGo hA 0 2 (4, .iload_n 1, 1, 3, 0, [1], []) rfl rfl rfl ?_
    refine bGo hA 0 3 (5, .aload_n 0, 1, 4, 0, [0], []) rfl rfl rfl ?_
    refine bGo hA 0 4 (6, .getfield 32, 3, 5, 0, [6, 14, 3, 33, 1, 0], []) rfl rfl rfl ?_
    refine ⟨rfl, ?_⟩
    refine bGo hA 0 5 (9, .arraylength, 1, 6, 0, [], []) rfl rfl rfl ?_
    refine ⟨by decide, ?_⟩
    refine bGo hA 0 6 (10, .if_icmp .ge (12), 3, 7, 12, [], []) rfl rfl rfl ?_
    refine ⟨fun c2 => ?_, fun c2 => ?_⟩
    · refine bGo hA 0 7 (13, .aload_n 0, 1, 8, 0, [0], []) rfl rfl rfl ?_
      refine bGo hA 0 8 (14, .getfield 32, 3, 9, 0, [6, 14, 3, 33, 1, 0], []) rfl rfl rfl ?_
      refine ⟨rfl, ?_⟩
      refine bGo hA 0 9 (17, .iload_n 1, 1, 10, 0, [1], []) rfl rfl rfl ?_
      refine bGo hA 0 10 (18, .aaload, 1, 11, 0, [10, 0], []) rfl rfl rfl ?_
      refine ⟨rfl, ((h.2 c1).1 c2).1, ?_⟩
      refine bOptC (P := fun v => A (11, [.ref 6, .int x1, .float 0], v :: [], σ)) (σ.2.2.1 33 ((x1).toNatClampNeg)) (fun c4 => ?_) (fun z3 c4 => ?_)
      · refine bGo hA 0 11 (19, .goto (4), 3, 12, 13, [], []) rfl rfl rfl ?_
        refine bGo hA 0 13 (23, .astore_n 2, 1, 14, 0, [2], []) rfl rfl rfl ?_
        refine bGo hA 0 14 (24, .aload_n 2, 1, 15, 0, [2], []) rfl rfl rfl ?_
        refine bGo hA 0 15 (25, .ifnonnull (10), 3, 16, 19, [], []) rfl rfl rfl ?_
        refine bGo hA 1 0 (28, .aload_n 0, 1, 17, 0, [0], []) rfl rfl rfl ?_
        refine bGo hA 1 1 (29, .getfield 37, 3, 18, 0, [6, 15, 3, 0, 0, 0], []) rfl rfl rfl ?_
        refine ⟨rfl, ?_⟩
        refine bGo hA 1 2 (32, .goto (4), 3, 19, 20, [], []) rfl rfl rfl ?_
        refine bGo hA 1 4 (36, .areturn, 1, 0, 0, [4], []) rfl rfl rfl ?_
        exact (((h.2 c1).1 c2).2.1 c4)
      · refine bGo hA 0 11 (19, .goto (4), 3, 12, 13, [], []) rfl rfl rfl ?_
        refine bGo hA 0 13 (23, .astore_n 2, 1, 14, 0, [2], []) rfl rfl rfl ?_
        refine bGo hA 0 14 (24, .aload_n 2, 1, 15, 0, [2], []) rfl rfl rfl ?_
        refine bGo hA 0 15 (25, .ifnonnull (10), 3, 16, 19, [], []) rfl rfl rfl ?_
        refine bGo hA 1 3 (35, .aload_n 2, 1, 20, 0, [2], []) rfl rfl rfl ?_
        refine bGo hA 1 4 (36, .areturn, 1, 0, 0, [4], []) rfl rfl rfl ?_
        exact (((h.2 c1).1 c2).2.2 z3 c4)
    · refine bGo hA 0 12 (22, .aconst_null, 1, 13, 0, [], []) rfl rfl rfl ?_
      refine bGo hA 0 13 (23, .astore_n 2, 1, 14, 0, [2], []) rfl rfl rfl ?_
      refine bGo hA 0 14 (24, .aload_n 2, 1, 15, 0, [2], []) rfl rfl rfl ?_
      refine bGo hA 0 15 (25, .ifnonnull (10), 3, 16, 19, [], []) rfl rfl rfl ?_
      refine bGo hA 1 0 (28, .aload_n 0, 1, 17, 0, [0], []) rfl rfl rfl ?_
      refine bGo hA 1 1 (29, .getfield 37, 3, 18, 0, [6, 15, 3, 0, 0, 0], []) rfl rfl rfl ?_
      refine ⟨rfl, ?_⟩
      refine bGo hA 1 2 (32, .goto (4), 3, 19, 20, [], []) rfl rfl rfl ?_
      refine bGo hA 1 4 (36, .areturn, 1, 0, 0, [4], []) rfl rfl rfl ?_
      exact ((h.2 c1).2 c2)

theorem sg90_0 {lvl : Nat} {C : bCall} {Q : bPost} {A : bPt → Prop} (hC : bMono C) (hA : bClosed lvl bm90 C Q A)  {σ : bSt} 
  (h : (σ.2.2.2.1 34 = 0 ∧ ((bR (bNew σ 34 2 6) 7 0 (some 34)).2.2.2.1 35 = 0 ∧ ((bR (bNew (bR (bNew σ 34 2 6) 7 0 (some 34)) 35 2 72) 7 1 (some 35)).2.2.2.1 36 = 0 ∧ ((bR (bNew (bR (bNew (bR (bNew σ 34 2 6) 7 0 (some 34)) 35 2 72) 7 1 (some 35)) 36 2 72) 7 2 (some 36)).2.2.2.1 37 = 0 ∧ ((bR (bNew (bR (bNew (bR (bNew (bR (bNew σ 34 2 6) 7 0 (some 34)) 35 2 72) 7 1 (some 35)) 36 2 72) 7 2 (some 36)) 37 2 72) 7 3 (some 37)).2.2.2.1 38 = 0 ∧ ((bR (bNew (bR (bNew (bR (bNew (bR (bNew (bR (bNew σ 34 2 6) 7 0 (some 34)) 35 2 72) 7 1 (some 35)) 36 2 72) 7 2 (some 36)) 37 2 72) 7 3 (some 37)) 38 2 72) 7 4 (some 38)).2.2.2.1 39 = 0 ∧ ((bR (bNew (bR (bNew (bR (bNew (bR (bNew (bR (bNew (bR (bNew σ 34 2 6) 7 0 (some 34)) 35 2 72) 7 1 (some 35)) 36 2 72) 7 2 (some 36)) 37 2 72) 7 3 (some 37)) 38 2 72) 7 4 (some 38)) 39 2 48) 7 5 (some 39)).2.2.2.1 40 = 0 ∧ ((bR (bNew (bR (bNew (bR (bNew (bR (bNew (bR (bNew (bR (bNew (bR (bNew σ 34 2 6) 7 0 (some 34)) 35 2 72) 7 1 (some 35)) 36 2 72) 7 2 (some 36)) 37 2 72) 7 3 (some 37)) 38 2 72) 7 4 (some 38)) 39 2 48) 7 5 (some 39)) 40 2 6) 7 6 (some 40)).2.2.2.1 41 = 0 ∧ ((bR (bNew (bR (bNew (bR (bNew (bR (bNew (bR (bNew (bR (bNew (bR (bNew (bR (bNew σ 34 2 6) 7 0 (some 34)) 35 2 72) 7 1 (some 35)) 36 2 72) 7 2 (some 36)) 37 2 72) 7 3 (some 37)) 38 2 72) 7 4 (some 38)) 39 2 48) 7 5 (some 39)) 40 2 6) 7 6 (some 40)) 41 2 6) 7 7 (some 41)).2.2.2.1 42 = 0 ∧ ((bR (bNew (bR (bNew (bR (bNew (bR (bNew (bR (bNew (bR (bNew (bR (bNew (bR (bNew (bR (bNew σ 34 2 6) 7 0 (some 34)) 35 2 72) 7 1 (some 35)) 36 2 72) 7 2 (some 36)) 37 2 72) 7 3 (some 37)) 38 2 72) 7 4 (some 38)) 39 2 48) 7 5 (some 39)) 40 2 6) 7 6 (some 40)) 41 2 6) 7 7 (some 41)) 42 2 6) 7 8 (some 42)).2.2.2.1 43 = 0 ∧ ((bR (bNew (bR (bNew (bR (bNew (bR (bNew (bR (bNew (bR (bNew (bR (bNew (bR (bNew (bR (bNew (bR (bNew σ 34 2 6) 7 0 (some 34)) 35 2 72) 7 1 (some 35)) 36 2 72) 7 2 (some 36)) 37 2 72) 7 3 (some 37)) 38 2 72) 7 4 (some 38)) 39 2 48) 7 5 (some 39)) 40 2 6) 7 6 (some 40)) 41 2 6) 7 7 (some 41)) 42 2 6) 7 8 (some 42)) 43 2 72) 7 9 (some 43)).2.2.2.1 44 = 0 ∧ ((bR (bNew (bR (bNew (bR (bNew (bR (bNew (bR (bNew (bR (bNew (bR (bNew (bR (bNew (bR (bNew (bR (bNew (bR (bNew σ 34 2 6) 7 0 (some 34)) 35 2 72) 7 1 (some 35)) 36 2 72) 7 2 (some 36)) 37 2 72) 7 3 (some 37)) 38 2 72) 7 4 (some 38)) 39 2 48) 7 5 (some 39)) 40 2 6) 7 6 (some 40)) 41 2 6) 7 7 (some 41)) 42 2 6) 7 8 (some 42)) 43 2 72) 7 9 (some 43)) 44 2 72) 7 10 (some 44)).2.2.2.1 45 = 0 ∧ (∀ s1 : bSt, s1 = (bR (bNew (bR (bNew (bR (bNew (bR (bNew (bR (bNew (bR (bNew (bR (bNew (bR (bNew (bR (bNew (bR (bNew (bR (bNew (bR (bNew σ 34 2 6) 7 0 (some 34)) 35 2 72) 7 1 (some 35)) 36 2 72) 7 2 (some 36)) 37 2 72) 7 3 (some 37)) 38 2 72) 7 4 (some 38)) 39 2 48) 7 5 (some 39)) 40 2 6) 7 6 (some 40)) 41 2 6) 7 7 (some 41)) 42 2 6) 7 8 (some 42)) 43 2 72) 7 9 (some 43)) 44 2 72) 7 10 (some 44)) 45 2 576) 7 11 (some 45)) → (bAll (bI (bI s1 7 14 (-1)) 7 15 (-1)) 7 [0, 1, 2, 3, 4, 5, 6, 7, 8, 9, 10, 11] ∧ Q (.inl none) (bA (bI (bI s1 7 14 (-1)) 7 15 (-1)) 7 2)))))))))))))))) : A (0, [.retAddr 7], [], σ) := by
  refine bGo hA 0 0 (0, .aload_n 0, 1, 1, 0, [0], []) rfl rfl rfl ?_
  refine bGo hA 0 1 (1, .invokespecial 3, 3, 2, 0, [6, 0, 0], []) rfl rfl rfl ?_
  refine bGo hA 0 2 (4, .aload_n 0, 1, 3, 0, [0], []) rfl rfl rfl ?_
  refine bGo hA 0 3 (5, .bipush (6), 2, 4, 0, [], [(6, 0)]) rfl rfl rfl ?_
  refine bGo hA 0 4 (7, .newarray .int, 2, 5, 0, [34], []) rfl rfl rfl ?_
  refine ⟨h.1, rfl, by decide, ?_⟩
  refine bGo hA 0 5 (9, .putfield 9, 3, 6, 0, [7, 0, 3, 34, 1, 0], []) rfl rfl rfl ?_
  refine ⟨rfl, rfl, ?_⟩
  refine bGo hA 0 6 (12, .aload_n 0, 1, 7, 0, [0], []) rfl rfl rfl ?_
  refine bGo hA 0 7 (13, .bipush (72), 2, 8, 0, [], [(72, 0)]) rfl rfl rfl ?_
  refine bGo hA 0 8 (15, .newarray .int, 2, 9, 0, [35], []) rfl rfl rfl ?_
  refine ⟨h.2.1, rfl, by decide, ?_⟩
  refine bGo hA 0 9 (17, .putfield 15, 3, 10, 0, [7, 1, 3, 35, 1, 0], []) rfl rfl rfl ?_
  refine ⟨rfl, rfl, ?_⟩
  refine bGo hA 0 10 (20, .aload_n 0, 1, 11, 0, [0], []) rfl rfl rfl ?_
  refine bGo hA 0 11 (21, .bipush (72), 2, 12, 0, [], [(72, 0)]) rfl rfl rfl ?_
  refine bGo hA 0 12 (23, .newarray .int, 2, 13, 0, [36], []) rfl rfl rfl ?_
  refine ⟨h.2.2.1, rfl, by decide, ?_⟩
  refine bGo hA 0 13 (25, .putfield 18, 3, 14, 0, [7, 2, 3, 36, 1, 0], []) rfl rfl rfl ?_
  refine ⟨rfl, rfl, ?_⟩
  refine bGo hA 0 14 (28, .aload_n 0, 1, 15, 0, [0], []) rfl rfl rfl ?_
  refine bGo hA 0 15 (29, .bipush (72), 2, 16, 0, [], [(72, 0)]) rfl rfl rfl ?_
  refine bGo hA 1 0 (31, .newarray .int, 2, 17, 0, [37], []) rfl rfl rfl ?_
  refine ⟨h.2.2.2.1, rfl, by decide, ?_⟩
  refine bGo hA 1 1 (33, .putfield 21, 3, 18, 0, [7, 3, 3, 37, 1, 0], []) rfl rfl rfl ?_
  refine ⟨rfl, rfl, ?_⟩
  refine bGo hA 1 2 (36, .aload_n 0, 1, 19, 0, [0], []) rfl rfl rfl ?_
  refine bGo hA 1 3 (37, .bipush (72), 2, 20, 0, [], [(72, 0)]) rfl rfl rfl ?_
  refine bGo hA 1 4 (39, .newarray .int, 2, 21, 0, [38], []) rfl rfl rfl ?_
  refine ⟨h.2.2.2.2.1, rfl, by decide, ?_⟩
  refine bGo hA 1 5 (41, .putfield 24, 3, 22, 0, [7, 4, 3, 38, 1, 0], []) rfl rfl rfl ?_
  refine ⟨rfl, rfl, ?_⟩
  refine bGo hA 1 6 (44, .aload_n 0, 1, 23, 0, [0], []) rfl rfl rfl ?_
  refine bGo hA 1 7 (45, .bipush (48), 2, 24, 0, [], [(48, 0)]) rfl rfl rfl ?_
  refine bGo hA 1 8 (47, .newarray .int, 2, 25, 0, [39], []) rfl rfl rfl ?_
  refine ⟨h.2.2.2.2.2.1, rfl, by decide, ?_⟩
  refine bGo hA 1 9 (49, .putfield 27, 3, 26, 0, [7, 5, 3, 39, 1, 0], []) rfl rfl rfl ?_
  refine ⟨rfl, rfl, ?_⟩
  refine bGo hA 1 10 (52, .aload_n 0, 1, 27, 0, [0], []) rfl rfl rfl ?_
  refine bGo hA 1 11 (53, .bipush (6), 2, 28, 0, [], [(6, 0)]) rfl rfl rfl ?_
  refine bGo hA 1 12 (55, .newarray .int, 2, 29, 0, [40], []) rfl rfl rfl ?_
  refine ⟨h.2.2.2.2.2.2.1, rfl, by decide, ?_⟩
  refine bGo hA 1 13 (57, .putfield 30, 3, 30, 0, [7, 6, 3, 40, 1, 0], []) rfl rfl rfl ?_
  refine ⟨rfl, rfl, ?_⟩
  refine bGo hA 1 14 (60, .aload_n 0, 1, 31, 0, [0], []) rfl rfl rfl ?_
  refine bGo hA 1 15 (61, .bipush (6), 2, 32, 0, [], [(6, 0)]) rfl rfl rfl ?_
  refine bGo hA 2 0 (63, .newarray .int, 2, 33, 0, [41], []) rfl rfl rfl ?_
  refine ⟨h.2.2.2.2.2.2.2.1, rfl, by decide, ?_⟩
  refine bGo hA 2 1 (65, .putfield 33, 3, 34, 0, [7, 7, 3, 41, 1, 0], []) rfl rfl rfl ?_
  refine ⟨rfl, rfl, ?_⟩
  refine bGo hA 2 2 (68, .aload_n 0, 1, 35, 0, [0], []) rfl rfl rfl ?_
  refine bGo hA 2 3 (69, .bipush (6), 2, 36, 0, [], [(6, 0)]) rfl rfl rfl ?_
  refine bGo hA 2 4 (71, .newarray .int, 2, 37, 0, [42], []) rfl rfl rfl ?_
  refine ⟨h.2.2.2.2.2.2.2.2.1, rfl, by decide, ?_⟩
  refine bGo hA 2 5 (73, .putfield 36, 3, 38, 0, [7, 8, 3, 42, 1, 0], []) rfl rfl rfl ?_
  refine ⟨rfl, rfl, ?_⟩
  refine bGo hA 2 6 (76, .aload_n 0, 1, 39, 0, [0], []) rfl rfl rfl ?_
  refine bGo hA 2 7 (77, .bipush (72), 2, 40, 0, [], [(72, 0)]) rfl rfl rfl ?_
  refine bGo hA 2 8 (79, .newarray .int, 2, 41, 0, [43], []) rfl rfl rfl ?_
  refine ⟨h.2.2.2.2.2.2.2.2.2.1, rfl, by decide, ?_⟩
  refine bGo hA 2 9 (81, .putfield 39, 3, 42, 0, [7, 9, 3, 43, 1, 0], []) rfl rfl rfl ?_
  refine ⟨rfl, rfl, ?_⟩
  refine bGo hA 2 10 (84, .aload_n 0, 1, 43, 0, [0], []) rfl rfl rfl ?_
  refine bGo hA 2 11 (85, .bipush (72), 2, 44, 0, [], [(72, 0)]) rfl rfl rfl ?_
  refine bGo hA 2 12 (87, .newarray .int, 2, 45, 0, [44], []) rfl rfl rfl ?_
  refine ⟨h.2.2.2.2.2.2.2.2.2.2.1, rfl, by decide, ?_⟩
  refine bGo hA 2 13 (89, .putfield 42, 3, 46, 0, [7, 10, 3, 44, 1, 0], []) rfl rfl rfl ?_
  refine ⟨rfl, rfl, ?_⟩
  refine bGo hA 2 14 (92, .aload_n 0, 1, 47, 0, [0], []) rfl rfl rfl ?_
  refine bGo hA 2 15 (93, .sipush (576), 3, 48, 0, [], [(576, 0)]) rfl rfl rfl ?_
  refine bGo hA 3 0 (96, .newarray .int, 2, 49, 0, [45], []) rfl rfl rfl ?_
  refine ⟨h.2.2.2.2.2.2.2.2.2.2.2.1, rfl, by decide, ?_⟩
  refine bGo hA 3 1 (98, .putfield 45, 3, 50, 0, [7, 11, 3, 45, 1, 0], []) rfl rfl rfl ?_
  refine ⟨rfl, rfl, ?_⟩
  refine bGo hA 3 2 (101, .aload_n 0, 1, 51, 0, [0], []) rfl rfl rfl ?_
  refine bGo hA 3 3 (102, .iconst (-1), 1, 52, 0, [], [(-1, 0)]) rfl rfl rfl ?_
  refine bGo hA 3 4 (103, .putfield 48, 3, 53, 0, [7, 14, 0, 0, 0, 0], []) rfl rfl rfl ?_
  refine ⟨rfl, ?_⟩
  refine bGo hA 3 5 (106, .aload_n 0, 1, 54, 0, [0], []) rfl rfl rfl ?_
  refine bGo hA 3 6 (107, .iconst (-1), 1, 55, 0, [], [(-1, 0)]) rfl rfl rfl ?_
  refine bGo hA 3 7 (108, .putfield 52, 3, 56, 0, [7, 15, 0, 0, 0, 0], []) rfl rfl rfl ?_
  refine ⟨rfl, ?_⟩
  refine bGo hA 3 8 (111, .return_, 1, 0, 0, [5, 0, 1, 2, 3, 4, 5, 6, 7, 8, 9, 10, 11], []) rfl rfl rfl ?_
  exact (h.2.2.2.2.2.2.2.2.2.2.2.2 _ rfl)

theorem sg91_0 {lvl : Nat} {C : bCall} {Q : bPost} {A : bPt → Prop} (hC : bMono C) (hA : bClosed lvl bm91 C Q A) {x1 : Int32} {σ : bSt} 
  (h : (C 140 [.ref 34, .int x1] σ (bRi (fun r3 s1 => Q (.inl (some (.int r3))) s1)))) : A (0, [.ref 7, .int x1], [], σ) := by
  refine bGo hA 0 0 (0, .aload_n 0, 1, 1, 0, [0], []) rfl rfl rfl ?_
  refine bGo hA 0 1 (1, .getfield 9, 3, 2, 0, [7, 0, 3, 34, 1, 0], []) rfl rfl rfl ?_
  refine ⟨rfl, ?_⟩
  refine bGo hA 0 2 (4, .iload_n 1, 1, 3, 0, [1], []) rfl rfl rfl ?_
  refine bGo hA 0 3 (5, .invokestatic 55, 3, 4, 1, [2, 140, 2], []) rfl rfl rfl ?_
  refine hC _ _ _ _ _ (bRi_e (fun r3 s1 k2 => ?_)) h
  show A (4, [.ref 7, .int x1], [.int r3], s1)
  refine bGo hA 0 4 (8, .ireturn, 1, 0, 0, [1], []) rfl rfl rfl ?_
  exact k2

theorem sg92_0 {lvl : Nat} {C : bCall} {Q : bPost} {A : bPt → Prop} (hC : bMono C) (hA : bClosed lvl bm92 C Q A) {x1 : Int32} {x2 : Int32} {x3 : Int32} {x4 : Int32} {x5 : Int32} {σ : bSt} 
  (h : (C 91 [.ref 7, .int x1] σ (bRi (fun r3 s1 => (C 141 [.ref 35, .int ((x1 * 12) + r3), .int x2] s1 (bRv (fun s4 => (C 141 [.ref 36, .int ((x1 * 12) + r3), .int x3] s4 (bRv (fun s6 => (C 141 [.ref 37, .int ((x1 * 12) + r3), .int x4] s6 (bRv (fun s8 => (C 141 [.ref 38, .int ((x1 * 12) + r3), .int x5] s8 (bRv (fun s10 => (C 94 [.ref 7, .int x1, .int 1] s10 (bRi (fun r14 s12 => Q (.inl (some (.int r14))) s12))))))))))))))))))) : A (0, [.ref 7, .int x1, .int x2, .int x3, .int x4, .int x5, .float 0], [], σ) := by
  refine bGo hA 0 0 (0, .iload_n 1, 1, 1, 0, [1], []) rfl rfl rfl ?_
  refine bGo hA 0 1 (1, .bipush (12), 2, 2, 0, [], [(12, 0)]) rfl rfl rfl ?_
  refine bGo hA 0 2 (3, .imul, 1, 3, 0, [], []) rfl rfl rfl ?_
  refine bGo hA 0 3 (4, .aload_n 0, 1, 4, 0, [0], []) rfl rfl rfl ?_
  refine bGo hA 0 4 (5, .iload_n 1, 1, 5, 0, [1], []) rfl rfl rfl ?_
  refine bGo hA 0 5 (6, .invokevirtual 59, 3, 6, 0, [0, 7, 91, 1], []) rfl rfl rfl ?_
  refine ⟨rfl, ?_⟩
  refine hC _ _ _ _ _ (bRi_e (fun r3 s1 k2 => ?_)) h
  show A (6, [.ref 7, .int x1, .int x2, .int x3, .int x4, .int x5, .float 0], [.int r3, .int (x1 * 12)], s1)
  refine bGo hA 0 6 (9, .iadd, 1, 7, 0, [], []) rfl rfl rfl ?_
  refine bGo hA 0 7 (10, .istore 6, 2, 8, 0, [6], []) rfl rfl rfl ?_
  refine bGo hA 0 8 (12, .aload_n 0, 1, 9, 0, [0], []) rfl rfl rfl ?_
  refine bGo hA 0 9 (13, .getfield 15, 3, 10, 0, [7, 1, 3, 35, 1, 0], []) rfl rfl rfl ?_
  refine ⟨rfl, ?_⟩
  refine bGo hA 0 10 (16, .iload 6, 2, 11, 0, [6], []) rfl rfl rfl ?_
  refine bGo hA 0 11 (18, .iload_n 2, 1, 12, 0, [2], []) rfl rfl rfl ?_
  refine bGo hA 0 12 (19, .invokestatic 63, 3, 13, 1, [2, 141, 3], []) rfl rfl rfl ?_
  refine hC _ _ _ _ _ (bRv_e (fun s4 k5 => ?_)) k2
  show A (13, [.ref 7, .int x1, .int x2, .int x3, .int x4, .int x5, .int ((x1 * 12) + r3)], [], s4)
  refine bGo hA 0 13 (22, .aload_n 0, 1, 14, 0, [0], []) rfl rfl rfl ?_
  refine bGo hA 0 14 (23, .getfield 18, 3, 15, 0, [7, 2, 3, 36, 1, 0], []) rfl rfl rfl ?_
  refine ⟨rfl, ?_⟩
  refine bGo hA 0 15 (26, .iload 6, 2, 16, 0, [6], []) rfl rfl rfl ?_
  refine bGo hA 1 0 (28, .iload_n 3, 1, 17, 0, [3], []) rfl rfl rfl ?_
  refine bGo hA 1 1 (29, .invokestatic 63, 3, 18, 1, [2, 141, 3], []) rfl rfl rfl ?_
  refine hC _ _ _ _ _ (bRv_e (fun s6 k7 => ?_)) k5
  show A (18, [.ref 7, .int x1, .int x2, .int x3, .int x4, .int x5, .int ((x1 * 12) + r3)], [], s6)
  refine bGo hA 1 2 (32, .aload_n 0, 1, 19, 0, [0], []) rfl rfl rfl ?_
  refine bGo hA 1 3 (33, .getfield 21, 3, 20, 0, [7, 3, 3, 37, 1, 0], []) rfl rfl rfl ?_
  refine ⟨rfl, ?_⟩
  refine bGo hA 1 4 (36, .iload 6, 2, 21, 0, [6], []) rfl rfl rfl ?_
  refine bGo hA 1 5 (38, .iload 4, 2, 22, 0, [4], []) rfl rfl rfl ?_
  refine bGo hA 1 6 (40, .invokestatic 63, 3, 23, 1, [2, 141, 3], []) rfl rfl rfl ?_
  refine hC _ _ _ _ _ (bRv_e (fun s8 k9 => ?_)) k7
  show A (23, [.ref 7, .int x1, .int x2, .int x3, .int x4, .int x5, .int ((x1 * 12) + r3)], [], s8)
  refine bGo hA 1 7 (43, .aload_n 0, 1, 24, 0, [0], []) rfl rfl rfl ?_
  refine bGo hA 1 8 (44, .getfield 24, 3, 25, 0, [7, 4, 3, 38, 1, 0], []) rfl rfl rfl ?_
  refine ⟨rfl, ?_⟩
  refine bGo hA 1 9 (47, .iload 6, 2, 26, 0, [6], []) rfl rfl rfl ?_
  refine bGo hA 1 10 (49, .iload 5, 2, 27, 0, [5], []) rfl rfl rfl ?_
  refine bGo hA 1 11 (51, .invokestatic 63, 3, 28, 1, [2, 141, 3], []) rfl rfl rfl ?_
  refine hC _ _ _ _ _ (bRv_e (fun s10 k11 => ?_)) k9
  show A (28, [.ref 7, .int x1, .int x2, .int x3, .int x4, .int x5, .int ((x1 * 12) + r3)], [], s10)
  refine bGo hA 1 12 (54, .aload_n 0, 1, 29, 0, [0], []) rfl rfl rfl ?_
  refine bGo hA 1 13 (55, .iload_n 1, 1, 30, 0, [1], []) rfl rfl rfl ?_
  refine bGo hA 1 14 (56, .iconst (1), 1, 31, 0, [], [(1, 0)]) rfl rfl rfl ?_
  refine bGo hA 1 15 (57, .invokevirtual 67, 3, 32, 0, [0, 7, 94, 2], []) rfl rfl rfl ?_
  refine ⟨rfl, ?_⟩
  refine hC _ _ _ _ _ (bRi_e (fun r14 s12 k13 => ?_)) k11
  show A (32, [.ref 7, .int x1, .int x2, .int x3, .int x4, .int x5, .int ((x1 * 12) + r3)], [.int r14], s12)
  refine bGo hA 2 0 (60, .ireturn, 1, 0, 0, [1], []) rfl rfl rfl ?_
  exact k13

theorem sg93_0 {lvl : Nat} {C : bCall} {Q : bPost} {A : bPt → Prop} (hC : bMono C) (hA : bClosed lvl bm93 C Q A) {x1 : Int32} {x2 : Int32} {σ : bSt} 
  (h : (C 91 [.ref 7, .int x1] σ (bRi (fun r3 s1 => (C 142 [.ref 35, .int ((x1 * 12) + x2), .int ((x1 * 12) + r3)] s1 (bRv (fun s4 => (C 142 [.ref 36, .int ((x1 * 12) + x2), .int ((x1 * 12) + r3)] s4 (bRv (fun s6 => (C 142 [.ref 37, .int ((x1 * 12) + x2), .int ((x1 * 12) + r3)] s6 (bRv (fun s8 => (C 142 [.ref 38, .int ((x1 * 12) + x2), .int ((x1 * 12) + r3)] s8 (bRv (fun s10 => (C 94 [.ref 7, .int x1, .int (-1)] s10 (bRi (fun r14 s12 => Q (.inl (some (.int r14))) s12))))))))))))))))))) : A (0, [.ref 7, .int x1, .int x2, .float 0, .float 0], [], σ) := by
  refine bGo hA 0 0 (0, .iload_n 1, 1, 1, 0, [1], []) rfl rfl rfl ?_
  refine bGo hA 0 1 (1, .bipush (12), 2, 2, 0, [], [(12, 0)]) rfl rfl rfl ?_
  refine bGo hA 0 2 (3, .imul, 1, 3, 0, [], []) rfl rfl rfl ?_
  refine bGo hA 0 3 (4, .iload_n 2, 1, 4, 0, [2], []) rfl rfl rfl ?_
  refine bGo hA 0 4 (5, .iadd, 1, 5, 0, [], []) rfl rfl rfl ?_
  refine bGo hA 0 5 (6, .istore_n 3, 1, 6, 0, [3], []) rfl rfl rfl ?_
  refine bGo hA 0 6 (7, .iload_n 1, 1, 7, 0, [1], []) rfl rfl rfl ?_
  refine bGo hA 0 7 (8, .bipush (12), 2, 8, 0, [], [(12, 0)]) rfl rfl rfl ?_
  refine bGo hA 0 8 (10, .imul, 1, 9, 0, [], []) rfl rfl rfl ?_
  refine bGo hA 0 9 (11, .aload_n 0, 1, 10, 0, [0], []) rfl rfl rfl ?_
  refine bGo hA 0 10 (12, .iload_n 1, 1, 11, 0, [1], []) rfl rfl rfl ?_
  refine bGo hA 0 11 (13, .invokevirtual 59, 3, 12, 0, [0, 7, 91, 1], []) rfl rfl rfl ?_
  refine ⟨rfl, ?_⟩
  refine hC _ _ _ _ _ (bRi_e (fun r3 s1 k2 => ?_)) h
  show A (12, [.ref 7, .int x1, .int x2, .int ((x1 * 12) + x2), .float 0], [.int r3, .int (x1 * 12)], s1)
  refine bGo hA 0 12 (16, .iadd, 1, 13, 0, [], []) rfl rfl rfl ?_
  refine bGo hA 0 13 (17, .istore 4, 2, 14, 0, [4], []) rfl rfl rfl ?_
  refine bGo hA 0 14 (19, .aload_n 0, 1, 15, 0, [0], []) rfl rfl rfl ?_
  refine bGo hA 0 15 (20, .getfield 15, 3, 16, 0, [7, 1, 3, 35, 1, 0], []) rfl rfl rfl ?_
  refine ⟨rfl, ?_⟩
  refine bGo hA 1 0 (23, .iload_n 3, 1, 17, 0, [3], []) rfl rfl rfl ?_
  refine bGo hA 1 1 (24, .iload 4, 2, 18, 0, [4], []) rfl rfl rfl ?_
  refine bGo hA 1 2 (26, .invokestatic 71, 3, 19, 1, [2, 142, 3], []) rfl rfl rfl ?_
  refine hC _ _ _ _ _ (bRv_e (fun s4 k5 => ?_)) k2
  show A (19, [.ref 7, .int x1, .int x2, .int ((x1 * 12) + x2), .int ((x1 * 12) + r3)], [], s4)
  refine bGo hA 1 3 (29, .aload_n 0, 1, 20, 0, [0], []) rfl rfl rfl ?_
  refine bGo hA 1 4 (30, .getfield 18, 3, 21, 0, [7, 2, 3, 36, 1, 0], []) rfl rfl rfl ?_
  refine ⟨rfl, ?_⟩
  refine bGo hA 1 5 (33, .iload_n 3, 1, 22, 0, [3], []) rfl rfl rfl ?_
  refine bGo hA 1 6 (34, .iload 4, 2, 23, 0, [4], []) rfl rfl rfl ?_
  refine bGo hA 1 7 (36, .invokestatic 71, 3, 24, 1, [2, 142, 3], []) rfl rfl rfl ?_
  refine hC _ _ _ _ _ (bRv_e (fun s6 k7 => ?_)) k5
  show A (24, [.ref 7, .int x1, .int x2, .int ((x1 * 12) + x2), .int ((x1 * 12) + r3)], [], s6)
  refine bGo hA 1 8 (39, .aload_n 0, 1, 25, 0, [0], []) rfl rfl rfl ?_
  refine bGo hA 1 9 (40, .getfield 21, 3, 26, 0, [7, 3, 3, 37, 1, 0], []) rfl rfl rfl ?_
  refine ⟨rfl, ?_⟩
  refine bGo hA 1 10 (43, .iload_n 3, 1, 27, 0, [3], []) rfl rfl rfl ?_
  refine bGo hA 1 11 (44, .iload 4, 2, 28, 0, [4], []) rfl rfl rfl ?_
  refine bGo hA 1 12 (46, .invokestatic 71, 3, 29, 1, [2, 142, 3], []) rfl rfl rfl ?_
  refine hC _ _ _ _ _ (bRv_e (fun s8 k9 => ?_)) k7
  show A (29, [.ref 7, .int x1, .int x2, .int ((x1 * 12) + x2), .int ((x1 * 12) + r3)], [], s8)
  refine bGo hA 1 13 (49, .aload_n 0, 1, 30, 0, [0], []) rfl rfl rfl ?_
  refine bGo hA 1 14 (50, .getfield 24, 3, 31, 0, [7, 4, 3, 38, 1, 0], []) rfl rfl rfl ?_
  refine ⟨rfl, ?_⟩
  refine bGo hA 1 15 (53, .iload_n 3, 1, 32, 0, [3], []) rfl rfl rfl ?_
  refine bGo hA 2 0 (54, .iload 4, 2, 33, 0, [4], []) rfl rfl rfl ?_
  refine bGo hA 2 1 (56, .invokestatic 71, 3, 34, 1, [2, 142, 3], []) rfl rfl rfl ?_
  refine hC _ _ _ _ _ (bRv_e (fun s10 k11 => ?_)) k9
  show A (34, [.ref 7, .int x1, .int x2, .int ((x1 * 12) + x2), .int ((x1 * 12) + r3)], [], s10)
  refine bGo hA 2 2 (59, .aload_n 0, 1, 35, 0, [0], []) rfl rfl rfl ?_
  refine bGo hA 2 3 (60, .iload_n 1, 1, 36, 0, [1], []) rfl rfl rfl ?_
  refine bGo hA 2 4 (61, .iconst (-1), 1, 37, 0, [], [(-1, 0)]) rfl rfl rfl ?_
  refine bGo hA 2 5 (62, .invokevirtual 67, 3, 38, 0, [0, 7, 94, 2], []) rfl rfl rfl ?_
  refine ⟨rfl, ?_⟩
  refine hC _ _ _ _ _ (bRi_e (fun r14 s12 k13 => ?_)) k11
  show A (38, [.ref 7, .int x1, .int x2, .int ((x1 * 12) + x2), .int ((x1 * 12) + r3)], [.int r14], s12)
  refine bGo hA 2 6 (65, .ireturn, 1, 0, 0, [1], []) rfl rfl rfl ?_
  exact k13

theorem sg94_0 {lvl : Nat} {C : bCall} {Q : bPost} {A : bPt → Prop} (hC : bMono C) (hA : bClosed lvl bm94 C Q A) {x1 : Int32} {x2 : Int32} {σ : bSt} 
  (h : (C 91 [.ref 7, .int x1] σ (bRi (fun r3 s1 => (C 141 [.ref 34, .int x1, .int (r3 + x2)] s1 (bRv (fun s4 => (C 91 [.ref 7, .int x1] (bI s4 7 15 (-1)) (bRi (fun r8 s6 => Q (.inl (some (.int r8))) s6)))))))))) : A (0, [.ref 7, .int x1, .int x2], [], σ) := by
  refine bGo hA 0 0 (0, .aload_n 0, 1, 1, 0, [0], []) rfl rfl rfl ?_
  refine bGo hA 0 1 (1, .getfield 9, 3, 2, 0, [7, 0, 3, 34, 1, 0], []) rfl rfl rfl ?_
  refine ⟨rfl, ?_⟩
  refine bGo hA 0 2 (4, .iload_n 1, 1, 3, 0, [1], []) rfl rfl rfl ?_
  refine bGo hA 0 3 (5, .aload_n 0, 1, 4, 0, [0], []) rfl rfl rfl ?_
  refine bGo hA 0 4 (6, .iload_n 1, 1, 5, 0, [1], []) rfl rfl rfl ?_
  refine bGo hA 0 5 (7, .invokevirtual 59, 3, 6, 0, [0, 7, 91, 1], []) rfl rfl rfl ?_
  refine ⟨rfl, ?_⟩
  refine hC _ _ _ _ _ (bRi_e (fun r3 s1 k2 => ?_)) h
  show A (6, [.ref 7, .int x1, .int x2], [.int r3, .int x1, .ref 34], s1)
  refine bGo hA 0 6 (10, .iload_n 2, 1, 7, 0, [2], []) rfl rfl rfl ?_
  refine bGo hA 0 7 (11, .iadd, 1, 8, 0, [], []) rfl rfl rfl ?_
  refine bGo hA 0 8 (12, .invokestatic 63, 3, 9, 1, [2, 141, 3], []) rfl rfl rfl ?_
  refine hC _ _ _ _ _ (bRv_e (fun s4 k5 => ?_)) k2
  show A (9, [.ref 7, .int x1, .int x2], [], s4)
  refine bGo hA 0 9 (15, .aload_n 0, 1, 10, 0, [0], []) rfl rfl rfl ?_
  refine bGo hA 0 10 (16, .iconst (-1), 1, 11, 0, [], [(-1, 0)]) rfl rfl rfl ?_
  refine bGo hA 0 11 (17, .putfield 52, 3, 12, 0, [7, 15, 0, 0, 0, 0], []) rfl rfl rfl ?_
  refine ⟨rfl, ?_⟩
  refine bGo hA 0 12 (20, .aload_n 0, 1, 13, 0, [0], []) rfl rfl rfl ?_
  refine bGo hA 0 13 (21, .iload_n 1, 1, 14, 0, [1], []) rfl rfl rfl ?_
  refine bGo hA 0 14 (22, .invokevirtual 59, 3, 15, 0, [0, 7, 91, 1], []) rfl rfl rfl ?_
  refine ⟨rfl, ?_⟩
  refine hC _ _ _ _ _ (bRi_e (fun r8 s6 k7 => ?_)) k5
  show A (15, [.ref 7, .int x1, .int x2], [.int r8], s6)
  refine bGo hA 0 15 (25, .ireturn, 1, 0, 0, [1], []) rfl rfl rfl ?_
  exact k7

theorem sg95_0 {lvl : Nat} {C : bCall} {Q : bPost} {A : bPt → Prop} (hC : bMono C) (hA : bClosed lvl bm95 C Q A) {x1 : Int32} {x2 : Int32} {σ : bSt} 
  (h : (C 101 [.ref 7, .int x1] σ (bRv (fun s1 => (C 99 [.ref 7, .int x1, .int x2] s1 (bRi (fun r5 s3 => ((r5 < 1000 → Q (.inl (some (.int r5))) s3) ∧ (¬ r5 < 1000 → Q (.inl (some (.int (-2)))) s3))))))))) : A (0, [.ref 7, .int x1, .int x2, .float 0], [], σ) := by
  refine bGo hA 0 0 (0, .aload_n 0, 1, 1, 0, [0], []) rfl rfl rfl ?_
  refine bGo hA 0 1 (1, .iload_n 1, 1, 2, 0, [1], []) rfl rfl rfl ?_
  refine bGo hA 0 2 (2, .invokevirtual 74, 3, 3, 0, [0, 7, 101, 1], []) rfl rfl rfl ?_
  refine ⟨rfl, ?_⟩
  refine hC _ _ _ _ _ (bRv_e (fun s1 k2 => ?_)) h
  show A (3, [.ref 7, .int x1, .int x2, .float 0], [], s1)
  refine bGo hA 0 3 (5, .aload_n 0, 1, 4, 0, [0], []) rfl rfl rfl ?_
  refine bGo hA 0 4 (6, .iload_n 1, 1, 5, 0, [1], []) rfl rfl rfl ?_
  refine bGo hA 0 5 (7, .iload_n 2, 1, 6, 0, [2], []) rfl rfl rfl ?_
  refine bGo hA 0 6 (8, .invokevirtual 78, 3, 7, 0, [0, 7, 99, 2], []) rfl rfl rfl ?_
  refine ⟨rfl, ?_⟩
  refine hC _ _ _ _ _ (bRi_e (fun r5 s3 k4 => ?_)) k2
  show A (7, [.ref 7, .int x1, .int x2, .float 0], [.int r5], s3)
  refine bGo hA 0 7 (11, .istore_n 3, 1, 8, 0, [3], []) rfl rfl rfl ?_
  refine bGo hA 0 8 (12, .iload_n 3, 1, 9, 0, [3], []) rfl rfl rfl ?_
  refine bGo hA 0 9 (13, .sipush (1000), 3, 10, 0, [], [(1000, 0)]) rfl rfl rfl ?_
  refine bGo hA 0 10 (16, .if_icmp .lt (8), 3, 11, 13, [], []) rfl rfl rfl ?_
  refine ⟨fun c6 => ?_, fun c6 => ?_⟩
  · refine bGo hA 0 13 (24, .iload_n 3, 1, 14, 0, [3], []) rfl rfl rfl ?_
    refine bGo hA 0 14 (25, .ireturn, 1, 0, 0, [1], []) rfl rfl rfl ?_
    exact (k4.1 c6)
  · refine bGo hA 0 11 (19, .bipush (-2), 2, 12, 0, [], [(-2, 0)]) rfl rfl rfl ?_
    refine bGo hA 0 12 (21, .goto (4), 3, 13, 14, [], []) rfl rfl rfl ?_
    refine bGo hA 0 14 (25, .ireturn, 1, 0, 0, [1], []) rfl rfl rfl ?_
    exact (k4.2 c6)

theorem sg96_0 {lvl : Nat} {C : bCall} {Q : bPost} {A : bPt → Prop} (hC : bMono C) (hA : bClosed lvl bm96 C Q A) {x1 : Int32} {x2 : Int32} {σ : bSt} 
  (h : (C 101 [.ref 7, .int x1] σ (bRv (fun s1 => (C 99 [.ref 7, .int x1, .int x2] s1 (bRi (fun r5 s3 => ((r5 < 1000 → Q (.inl (some (.int r5))) s3) ∧ (¬ r5 < 1000 → Q (.inl (some (.int (-1)))) s3))))))))) : A (0, [.ref 7, .int x1, .int x2, .float 0], [], σ) := by
  refine bGo hA 0 0 (0, .aload_n 0, 1, 1, 0, [0], []) rfl rfl rfl ?_
  refine bGo hA 0 1 (1, .iload_n 1, 1, 2, 0, [1], []) rfl rfl rfl ?_
  refine bGo hA 0 2 (2, .invokevirtual 74, 3, 3, 0, [0, 7, 101, 1], []) rfl rfl rfl ?_
  refine ⟨rfl, ?_⟩
  refine hC _ _ _ _ _ (bRv_e (fun s1 k2 => ?_)) h
  show A (3, [.ref 7, .int x1, .int x2, .float 0], [], s1)
  refine bGo hA 0 3 (5, .aload_n 0, 1, 4, 0, [0], []) rfl rfl rfl ?_
  refine bGo hA 0 4 (6, .iload_n 1, 1, 5, 0, [1], []) rfl rfl rfl ?_
  refine bGo hA 0 5 (7, .iload_n 2, 1, 6, 0, [2], []) rfl rfl rfl ?_
  refine bGo hA 0 6 (8, .invokevirtual 78, 3, 7, 0, [0, 7, 99, 2], []) rfl rfl rfl ?_
  refine ⟨rfl, ?_⟩
  refine hC _ _ _ _ _ (bRi_e (fun r5 s3 k4 => ?_)) k2
  show A (7, [.ref 7, .int x1, .int x2, .float 0], [.int r5], s3)
  refine bGo hA 0 7 (11, .istore_n 3, 1, 8, 0, [3], []) rfl rfl rfl ?_
  refine bGo hA 0 8 (12, .iload_n 3, 1, 9, 0, [3], []) rfl rfl rfl ?_
  refine bGo hA 0 9 (13, .sipush (1000), 3, 10, 0, [], [(1000, 0)]) rfl rfl rfl ?_
  refine bGo hA 0 10 (16, .if_icmp .lt (7), 3, 11, 13, [], []) rfl rfl rfl ?_
  refine ⟨fun c6 => ?_, fun c6 => ?_⟩
  · refine bGo hA 0 13 (23, .iload_n 3, 1, 14, 0, [3], []) rfl rfl rfl ?_
    refine bGo hA 0 14 (24, .ireturn, 1, 0, 0, [1], []) rfl rfl rfl ?_
    exact (k4.1 c6)
  · refine bGo hA 0 11 (19, .iconst (-1), 1, 12, 0, [], [(-1, 0)]) rfl rfl rfl ?_
    refine bGo hA 0 12 (20, .goto (4), 3, 13, 14, [], []) rfl rfl rfl ?_
    refine bGo hA 0 14 (24, .ireturn, 1, 0, 0, [1], []) rfl rfl rfl ?_
    exact (k4.2 c6)

theorem sg97_0 {lvl : Nat} {C : bCall} {Q : bPost} {A : bPt → Prop} (hC : bMono C) (hA : bClosed lvl bm97 C Q A) {x1 : Int32} {x2 : Int32} {x3 : Int32} {σ : bSt} 
  (h : (C 101 [.ref 7, .int x1] σ (bRv (fun s1 => (C 99 [.ref 7, .int x1, .int x2] s1 (bRi (fun r5 s3 => (((r5 - 1000) < 0 → Q (.inl (some (.int (-1)))) s3) ∧ (¬ (r5 - 1000) < 0 → (C 140 [.ref 43, .int (r5 - 1000)] s3 (bRi (fun r9 s7 => ((x3 < r9 → (C 140 [.ref 45, .int (((r5 - 1000) * 8) + x3)] s7 (bRi (fun r13 s11 => Q (.inl (some (.int r13))) s11)))) ∧ (¬ x3 < r9 → Q (.inl (some (.int (-1)))) s7)))))))))))))) : A (0, [.ref 7, .int x1, .int x2, .int x3, .float 0], [], σ) := by
  refine bGo hA 0 0 (0, .aload_n 0, 1, 1, 0, [0], []) rfl rfl rfl ?_
  refine bGo hA 0 1 (1, .iload_n 1, 1, 2, 0, [1], []) rfl rfl rfl ?_
  refine bGo hA 0 2 (2, .invokevirtual 74, 3, 3, 0, [0, 7, 101, 1], []) rfl rfl rfl ?_
  refine ⟨rfl, ?_⟩
  refine hC _ _ _ _ _ (bRv_e (fun s1 k2 => ?_)) h
  show A (3, [.ref 7, .int x1, .int x2, .int x3, .float 0], [], s1)
  refine bGo hA 0 3 (5, .aload_n 0, 1, 4, 0, [0], []) rfl rfl rfl ?_
  refine bGo hA 0 4 (6, .iload_n 1, 1, 5, 0, [1], []) rfl rfl rfl ?_
  refine bGo hA 0 5 (7, .iload_n 2, 1, 6, 0, [2], []) rfl rfl rfl ?_
  refine bGo hA 0 6 (8, .invokevirtual 78, 3, 7, 0, [0, 7, 99, 2], []) rfl rfl rfl ?_
  refine ⟨rfl, ?_⟩
  refine hC _ _ _ _ _ (bRi_e (fun r5 s3 k4 => ?_)) k2
  show A (7, [.ref 7, .int x1, .int x2, .int x3, .float 0], [.int r5], s3)
  refine bGo hA 0 7 (11, .sipush (1000), 3, 8, 0, [], [(1000, 0)]) rfl rfl rfl ?_
  refine bGo hA 0 8 (14, .isub, 1, 9, 0, [], []) rfl rfl rfl ?_
  refine bGo hA 0 9 (15, .istore 4, 2, 10, 0, [4], []) rfl rfl rfl ?_
  refine bGo hA 0 10 (17, .iload 4, 2, 11, 0, [4], []) rfl rfl rfl ?_
  refine bGo hA 0 11 (19, .ifCond .lt (33), 3, 12, 27, [], []) rfl rfl rfl ?_
  refine ⟨fun c6 => ?_, fun c6 => ?_⟩
  · refine bGo hA 1 11 (52, .iconst (-1), 1, 28, 0, [], [(-1, 0)]) rfl rfl rfl ?_
    refine bGo hA 1 12 (53, .ireturn, 1, 0, 0, [1], []) rfl rfl rfl ?_
    exact (k4.1 c6)
  · refine bGo hA 0 12 (22, .iload_n 3, 1, 13, 0, [3], []) rfl rfl rfl ?_
    refine bGo hA 0 13 (23, .aload_n 0, 1, 14, 0, [0], []) rfl rfl rfl ?_
    refine bGo hA 0 14 (24, .getfield 39, 3, 15, 0, [7, 9, 3, 43, 1, 0], []) rfl rfl rfl ?_
    refine ⟨rfl, ?_⟩
    refine bGo hA 0 15 (27, .iload 4, 2, 16, 0, [4], []) rfl rfl rfl ?_
    refine bGo hA 1 0 (29, .invokestatic 55, 3, 17, 1, [2, 140, 2], []) rfl rfl rfl ?_
    refine hC _ _ _ _ _ (bRi_e (fun r9 s7 k8 => ?_)) (k4.2 c6)
    show A (17, [.ref 7, .int x1, .int x2, .int x3, .int (r5 - 1000)], [.int r9, .int x3], s7)
    refine bGo hA 1 1 (32, .if_icmp .ge (20), 3, 18, 27, [], []) rfl rfl rfl ?_
    refine ⟨fun c10 => ?_, fun c10 => ?_⟩
    · refine bGo hA 1 2 (35, .aload_n 0, 1, 19, 0, [0], []) rfl rfl rfl ?_
      refine bGo hA 1 3 (36, .getfield 45, 3, 20, 0, [7, 11, 3, 45, 1, 0], []) rfl rfl rfl ?_
      refine ⟨rfl, ?_⟩
      refine bGo hA 1 4 (39, .iload 4, 2, 21, 0, [4], []) rfl rfl rfl ?_
      refine bGo hA 1 5 (41, .bipush (8), 2, 22, 0, [], [(8, 0)]) rfl rfl rfl ?_
      refine bGo hA 1 6 (43, .imul, 1, 23, 0, [], []) rfl rfl rfl ?_
      refine bGo hA 1 7 (44, .iload_n 3, 1, 24, 0, [3], []) rfl rfl rfl ?_
      refine bGo hA 1 8 (45, .iadd, 1, 25, 0, [], []) rfl rfl rfl ?_
      refine bGo hA 1 9 (46, .invokestatic 55, 3, 26, 1, [2, 140, 2], []) rfl rfl rfl ?_
      refine hC _ _ _ _ _ (bRi_e (fun r13 s11 k12 => ?_)) (k8.1 c10)
      show A (26, [.ref 7, .int x1, .int x2, .int x3, .int (r5 - 1000)], [.int r13], s11)
      refine bGo hA 1 10 (49, .goto (4), 3, 27, 28, [], []) rfl rfl rfl ?_
      refine bGo hA 1 12 (53, .ireturn, 1, 0, 0, [1], []) rfl rfl rfl ?_
      exact k12
    · refine bGo hA 1 11 (52, .iconst (-1), 1, 28, 0, [], [(-1, 0)]) rfl rfl rfl ?_
      refine bGo hA 1 12 (53, .ireturn, 1, 0, 0, [1], []) rfl rfl rfl ?_
      exact (k8.2 c10)

theorem sg98_0 {lvl : Nat} {C : bCall} {Q : bPost} {A : bPt → Prop} (hC : bMono C) (hA : bClosed lvl bm98 C Q A) {x1 : Int32} {x2 : Int32} {σ : bSt} 
  (h : (C 101 [.ref 7, .int x1] σ (bRv (fun s1 => (((s1.1 7 14) = (-1) → Q (.inl (some (.int (-1)))) s1) ∧ (¬ (s1.1 7 14) = (-1) → ((x2 < (s1.1 7 13) → (C 140 [.ref 42, .int x2] s1 (bRi (fun r7 s5 => (C 140 [.ref 41, .int r7] s5 (bRi (fun r10 s8 => ((x2 = ((s8.1 7 13) - 1) → Q (.inl (some (.int (((r7 * 1000) + (r10 * 10)) + (s8.1 7 14))))) s8) ∧ (¬ x2 = ((s8.1 7 13) - 1) → Q (.inl (some (.int (((r7 * 1000) + (r10 * 10)) + 6)))) s8))))))))) ∧ (¬ x2 < (s1.1 7 13) → Q (.inl (some (.int (-1)))) s1)))))))) : A (0, [.ref 7, .int x1, .int x2, .float 0], [], σ) := by
  refine bGo hA 0 0 (0, .aload_n 0, 1, 1, 0, [0], []) rfl rfl rfl ?_
  refine bGo hA 0 1 (1, .iload_n 1, 1, 2, 0, [1], []) rfl rfl rfl ?_
  refine bGo hA 0 2 (2, .invokevirtual 74, 3, 3, 0, [0, 7, 101, 1], []) rfl rfl rfl ?_
  refine ⟨rfl, ?_⟩
  refine hC _ _ _ _ _ (bRv_e (fun s1 k2 => ?_)) h
  show A (3, [.ref 7, .int x1, .int x2, .float 0], [], s1)
  refine bGo hA 0 3 (5, .aload_n 0, 1, 4, 0, [0], []) rfl rfl rfl ?_
  refine bGo hA 0 4 (6, .getfield 48, 3, 5, 0, [7, 14, 0, 0, 0, 0], []) rfl rfl rfl ?_
  refine ⟨rfl, ?_⟩
  refine bGo hA 0 5 (9, .iconst (-1), 1, 6, 0, [], [(-1, 0)]) rfl rfl rfl ?_
  refine bGo hA 0 6 (10, .if_icmp .eq (11), 3, 7, 11, [], []) rfl rfl rfl ?_
  refine ⟨fun c3 => ?_, fun c3 => ?_⟩
  · refine bGo hA 0 11 (21, .iconst (-1), 1, 12, 0, [], [(-1, 0)]) rfl rfl rfl ?_
    refine bGo hA 0 12 (22, .ireturn, 1, 13, 0, [1], []) rfl rfl rfl ?_
    exact (k2.1 c3)
  · refine bGo hA 0 7 (13, .iload_n 2, 1, 8, 0, [2], []) rfl rfl rfl ?_
    refine bGo hA 0 8 (14, .aload_n 0, 1, 9, 0, [0], []) rfl rfl rfl ?_
    refine bGo hA 0 9 (15, .getfield 81, 3, 10, 0, [7, 13, 0, 0, 0, 0], []) rfl rfl rfl ?_
    refine ⟨rfl, ?_⟩
    refine bGo hA 0 10 (18, .if_icmp .lt (5), 3, 11, 13, [], []) rfl rfl rfl ?_
    refine ⟨fun c4 => ?_, fun c4 => ?_⟩
    · refine bGo hA 0 13 (23, .aload_n 0, 1, 14, 0, [0], []) rfl rfl rfl ?_
      refine bGo hA 0 14 (24, .getfield 36, 3, 15, 0, [7, 8, 3, 42, 1, 0], []) rfl rfl rfl ?_
      refine ⟨rfl, ?_⟩
      refine bGo hA 0 15 (27, .iload_n 2, 1, 16, 0, [2], []) rfl rfl rfl ?_
      refine bGo hA 1 0 (28, .invokestatic 55, 3, 17, 1, [2, 140, 2], []) rfl rfl rfl ?_
      refine hC _ _ _ _ _ (bRi_e (fun r7 s5 k6 => ?_)) ((k2.2 c3).1 c4)
      show A (17, [.ref 7, .int x1, .int x2, .float 0], [.int r7], s5)
      refine bGo hA 1 1 (31, .istore_n 3, 1, 18, 0, [3], []) rfl rfl rfl ?_
      refine bGo hA 1 2 (32, .iload_n 3, 1, 19, 0, [3], []) rfl rfl rfl ?_
      refine bGo hA 1 3 (33, .sipush (1000), 3, 20, 0, [], [(1000, 0)]) rfl rfl rfl ?_
      refine bGo hA 1 4 (36, .imul, 1, 21, 0, [], []) rfl rfl rfl ?_
      refine bGo hA 1 5 (37, .aload_n 0, 1, 22, 0, [0], []) rfl rfl rfl ?_
      refine bGo hA 1 6 (38, .getfield 33, 3, 23, 0, [7, 7, 3, 41, 1, 0], []) rfl rfl rfl ?_
      refine ⟨rfl, ?_⟩
      refine bGo hA 1 7 (41, .iload_n 3, 1, 24, 0, [3], []) rfl rfl rfl ?_
      refine bGo hA 1 8 (42, .invokestatic 55, 3, 25, 1, [2, 140, 2], []) rfl rfl rfl ?_
      refine hC _ _ _ _ _ (bRi_e (fun r10 s8 k9 => ?_)) k6
      show A (25, [.ref 7, .int x1, .int x2, .int r7], [.int r10, .int (r7 * 1000)], s8)
      refine bGo hA 1 9 (45, .bipush (10), 2, 26, 0, [], [(10, 0)]) rfl rfl rfl ?_
      refine bGo hA 1 10 (47, .imul, 1, 27, 0, [], []) rfl rfl rfl ?_
      refine bGo hA 1 11 (48, .iadd, 1, 28, 0, [], []) rfl rfl rfl ?_
      refine bGo hA 1 12 (49, .iload_n 2, 1, 29, 0, [2], []) rfl rfl rfl ?_
      refine bGo hA 1 13 (50, .aload_n 0, 1, 30, 0, [0], []) rfl rfl rfl ?_
      refine bGo hA 1 14 (51, .getfield 81, 3, 31, 0, [7, 13, 0, 0, 0, 0], []) rfl rfl rfl ?_
      refine ⟨rfl, ?_⟩
      refine bGo hA 1 15 (54, .iconst (1), 1, 32, 0, [], [(1, 0)]) rfl rfl rfl ?_
      refine bGo hA 2 0 (55, .isub, 1, 33, 0, [], []) rfl rfl rfl ?_
      refine bGo hA 2 1 (56, .if_icmp .ne (10), 3, 34, 37, [], []) rfl rfl rfl ?_
      refine ⟨fun c11 => ?_, fun c11 => ?_⟩
      · refine bGo hA 2 2 (59, .aload_n 0, 1, 35, 0, [0], []) rfl rfl rfl ?_
        refine bGo hA 2 3 (60, .getfield 48, 3, 36, 0, [7, 14, 0, 0, 0, 0], []) rfl rfl rfl ?_
        refine ⟨rfl, ?_⟩
        refine bGo hA 2 4 (63, .goto (5), 3, 37, 38, [], []) rfl rfl rfl ?_
        refine bGo hA 2 6 (68, .iadd, 1, 39, 0, [], []) rfl rfl rfl ?_
        refine bGo hA 2 7 (69, .ireturn, 1, 0, 0, [1], []) rfl rfl rfl ?_
        exact (k9.1 c11)
      · refine bGo hA 2 5 (66, .bipush (6), 2, 38, 0, [], [(6, 0)]) rfl rfl rfl ?_
        refine bGo hA 2 6 (68, .iadd, 1, 39, 0, [], []) rfl rfl rfl ?_
        refine bGo hA 2 7 (69, .ireturn, 1, 0, 0, [1], []) rfl rfl rfl ?_
        exact (k9.2 c11)
    · refine bGo hA 0 11 (21, .iconst (-1), 1, 12, 0, [], [(-1, 0)]) rfl rfl rfl ?_
      refine bGo hA 0 12 (22, .ireturn, 1, 13, 0, [1], []) rfl rfl rfl ?_
      exact ((k2.2 c3).2 c4)

theorem sg99_0 {lvl : Nat} {C : bCall} {Q : bPost} {A : bPt → Prop} (hC : bMono C) (hA : bClosed lvl bm99 C Q A) {x1 : Int32} {x2 : Int32} {σ : bSt} 
  (h : (((σ.1 7 14) = (-1) → (C 100 [.ref 7, .int x1, .int x2] σ (bRi (fun r4 s2 => Q (.inl (some (.int r4))) s2)))) ∧ (¬ (σ.1 7 14) = (-1) → Q (.inl (some (.int (-1)))) σ))) : A (0, [.ref 7, .int x1, .int x2], [], σ) := by
  refine bGo hA 0 0 (0, .aload_n 0, 1, 1, 0, [0], []) rfl rfl rfl ?_
  refine bGo hA 0 1 (1, .getfield 48, 3, 2, 0, [7, 14, 0, 0, 0, 0], []) rfl rfl rfl ?_
  refine ⟨rfl, ?_⟩
  refine bGo hA 0 2 (4, .iconst (-1), 1, 3, 0, [], [(-1, 0)]) rfl rfl rfl ?_
  refine bGo hA 0 3 (5, .if_icmp .ne (12), 3, 4, 9, [], []) rfl rfl rfl ?_
  refine ⟨fun c1 => ?_, fun c1 => ?_⟩
  · refine bGo hA 0 4 (8, .aload_n 0, 1, 5, 0, [0], []) rfl rfl rfl ?_
    refine bGo hA 0 5 (9, .iload_n 1, 1, 6, 0, [1], []) rfl rfl rfl ?_
    refine bGo hA 0 6 (10, .iload_n 2, 1, 7, 0, [2], []) rfl rfl rfl ?_
    refine bGo hA 0 7 (11, .invokevirtual 84, 3, 8, 0, [0, 7, 100, 2], []) rfl rfl rfl ?_
    refine ⟨rfl, ?_⟩
    refine hC _ _ _ _ _ (bRi_e (fun r4 s2 k3 => ?_)) (h.1 c1)
    show A (8, [.ref 7, .int x1, .int x2], [.int r4], s2)
    refine bGo hA 0 8 (14, .goto (4), 3, 9, 10, [], []) rfl rfl rfl ?_
    refine bGo hA 0 10 (18, .ireturn, 1, 0, 0, [1], []) rfl rfl rfl ?_
    exact k3
  · refine bGo hA 0 9 (17, .iconst (-1), 1, 10, 0, [], [(-1, 0)]) rfl rfl rfl ?_
    refine bGo hA 0 10 (18, .ireturn, 1, 0, 0, [1], []) rfl rfl rfl ?_
    exact (h.2 c1)

theorem sg100_0 {lvl : Nat} {C : bCall} {Q : bPost} {A : bPt → Prop} (hC : bMono C) (hA : bClosed lvl bm100 C Q A) {x1 : Int32} {x2 : Int32} {σ : bSt} 
  (h : (C 140 [.ref 39, .int ((x1 * 8) + x2)] σ (bRi (fun r3 s1 => Q (.inl (some (.int r3))) s1)))) : A (0, [.ref 7, .int x1, .int x2], [], σ) := by
  refine bGo hA 0 0 (0, .aload_n 0, 1, 1, 0, [0], []) rfl rfl rfl ?_
  refine bGo hA 0 1 (1, .getfield 27, 3, 2, 0, [7, 5, 3, 39, 1, 0], []) rfl rfl rfl ?_
  refine ⟨rfl, ?_⟩
  refine bGo hA 0 2 (4, .iload_n 1, 1, 3, 0, [1], []) rfl rfl rfl ?_
  refine bGo hA 0 3 (5, .bipush (8), 2, 4, 0, [], [(8, 0)]) rfl rfl rfl ?_
  refine bGo hA 0 4 (7, .imul, 1, 5, 0, [], []) rfl rfl rfl ?_
  refine bGo hA 0 5 (8, .iload_n 2, 1, 6, 0, [2], []) rfl rfl rfl ?_
  refine bGo hA 0 6 (9, .iadd, 1, 7, 0, [], []) rfl rfl rfl ?_
  refine bGo hA 0 7 (10, .invokestatic 55, 3, 8, 1, [2, 140, 2], []) rfl rfl rfl ?_
  refine hC _ _ _ _ _ (bRi_e (fun r3 s1 k2 => ?_)) h
  show A (8, [.ref 7, .int x1, .int x2], [.int r3], s1)
  refine bGo hA 0 8 (13, .ireturn, 1, 0, 0, [1], []) rfl rfl rfl ?_
  exact k2

theorem sg101_0 {lvl : Nat} {C : bCall} {Q : bPost} {A : bPt → Prop} (hC : bMono C) (hA : bClosed lvl bm101 C Q A) {x1 : Int32} {σ : bSt} 
  (h : ((x1 = (σ.1 7 15) → Q (.inl none) σ) ∧ (¬ x1 = (σ.1 7 15) → (C 361 [.ref 39, .int (-1)] (bI σ 7 15 x1) (bRv (fun s2 => (C 361 [.ref 40, .int 0] s2 (bRv (fun s4 => (C 361 [.ref 41, .int 0] s4 (bRv (fun s6 => (C 102 [.ref 7, .int x1] (bI (bI (bI s6 7 12 0) 7 13 0) 7 14 (-1)) (bRv (fun s8 => A (34, [.ref 7, .int x1, .int 0], [], s8)))))))))))))))) : A (0, [.ref 7, .int x1, .float 0], [], σ) := by
  refine bGo hA 0 0 (0, .iload_n 1, 1, 1, 0, [1], []) rfl rfl rfl ?_
  refine bGo hA 0 1 (1, .aload_n 0, 1, 2, 0, [0], []) rfl rfl rfl ?_
  refine bGo hA 0 2 (2, .getfield 52, 3, 3, 0, [7, 15, 0, 0, 0, 0], []) rfl rfl rfl ?_
  refine ⟨rfl, ?_⟩
  refine bGo hA 0 3 (5, .if_icmp .ne (4), 3, 4, 5, [], []) rfl rfl rfl ?_
  refine ⟨fun c1 => ?_, fun c1 => ?_⟩
  · refine bGo hA 0 4 (8, .return_, 1, 5, 0, [0], []) rfl rfl rfl ?_
    exact (h.1 c1)
  · refine bGo hA 0 5 (9, .aload_n 0, 1, 6, 0, [0], []) rfl rfl rfl ?_
    refine bGo hA 0 6 (10, .iload_n 1, 1, 7, 0, [1], []) rfl rfl rfl ?_
    refine bGo hA 0 7 (11, .putfield 52, 3, 8, 0, [7, 15, 0, 0, 0, 0], []) rfl rfl rfl ?_
    refine ⟨rfl, ?_⟩
    refine bGo hA 0 8 (14, .aload_n 0, 1, 9, 0, [0], []) rfl rfl rfl ?_
    refine bGo hA 0 9 (15, .getfield 27, 3, 10, 0, [7, 5, 3, 39, 1, 0], []) rfl rfl rfl ?_
    refine ⟨rfl, ?_⟩
    refine bGo hA 0 10 (18, .iconst (-1), 1, 11, 0, [], [(-1, 0)]) rfl rfl rfl ?_
    refine bGo hA 0 11 (19, .invokestatic 87, 3, 12, 0, [2, 361, 2], []) rfl rfl rfl ?_
    refine hC _ _ _ _ _ (bRv_e (fun s2 k3 => ?_)) (h.2 c1)
    show A (12, [.ref 7, .int x1, .float 0], [], s2)
    refine bGo hA 0 12 (22, .aload_n 0, 1, 13, 0, [0], []) rfl rfl rfl ?_
    refine bGo hA 0 13 (23, .getfield 30, 3, 14, 0, [7, 6, 3, 40, 1, 0], []) rfl rfl rfl ?_
    refine ⟨rfl, ?_⟩
    refine bGo hA 0 14 (26, .iconst (0), 1, 15, 0, [], [(0, 0)]) rfl rfl rfl ?_
    refine bGo hA 0 15 (27, .invokestatic 87, 3, 16, 0, [2, 361, 2], []) rfl rfl rfl ?_
    refine hC _ _ _ _ _ (bRv_e (fun s4 k5 => ?_)) k3
    show A (16, [.ref 7, .int x1, .float 0], [], s4)
    refine bGo hA 1 0 (30, .aload_n 0, 1, 17, 0, [0], []) rfl rfl rfl ?_
    refine bGo hA 1 1 (31, .getfield 33, 3, 18, 0, [7, 7, 3, 41, 1, 0], []) rfl rfl rfl ?_
    refine ⟨rfl, ?_⟩
    refine bGo hA 1 2 (34, .iconst (0), 1, 19, 0, [], [(0, 0)]) rfl rfl rfl ?_
    refine bGo hA 1 3 (35, .invokestatic 87, 3, 20, 0, [2, 361, 2], []) rfl rfl rfl ?_
    refine hC _ _ _ _ _ (bRv_e (fun s6 k7 => ?_)) k5
    show A (20, [.ref 7, .int x1, .float 0], [], s6)
    refine bGo hA 1 4 (38, .aload_n 0, 1, 21, 0, [0], []) rfl rfl rfl ?_
    refine bGo hA 1 5 (39, .iconst (0), 1, 22, 0, [], [(0, 0)]) rfl rfl rfl ?_
    refine bGo hA 1 6 (40, .putfield 93, 3, 23, 0, [7, 12, 0, 0, 0, 0], []) rfl rfl rfl ?_
    refine ⟨rfl, ?_⟩
    refine bGo hA 1 7 (43, .aload_n 0, 1, 24, 0, [0], []) rfl rfl rfl ?_
    refine bGo hA 1 8 (44, .iconst (0), 1, 25, 0, [], [(0, 0)]) rfl rfl rfl ?_
    refine bGo hA 1 9 (45, .putfield 81, 3, 26, 0, [7, 13, 0, 0, 0, 0], []) rfl rfl rfl ?_
    refine ⟨rfl, ?_⟩
    refine bGo hA 1 10 (48, .aload_n 0, 1, 27, 0, [0], []) rfl rfl rfl ?_
    refine bGo hA 1 11 (49, .iconst (-1), 1, 28, 0, [], [(-1, 0)]) rfl rfl rfl ?_
    refine bGo hA 1 12 (50, .putfield 48, 3, 29, 0, [7, 14, 0, 0, 0, 0], []) rfl rfl rfl ?_
    refine ⟨rfl, ?_⟩
    refine bGo hA 1 13 (53, .aload_n 0, 1, 30, 0, [0], []) rfl rfl rfl ?_
    refine bGo hA 1 14 (54, .iload_n 1, 1, 31, 0, [1], []) rfl rfl rfl ?_
    refine bGo hA 1 15 (55, .invokevirtual 96, 3, 32, 0, [0, 7, 102, 1], []) rfl rfl rfl ?_
    refine ⟨rfl, ?_⟩
    refine hC _ _ _ _ _ (bRv_e (fun s8 k9 => ?_)) k7
    show A (32, [.ref 7, .int x1, .float 0], [], s8)
    refine bGo hA 2 0 (58, .iconst (0), 1, 33, 0, [], [(0, 0)]) rfl rfl rfl ?_
    refine bGo hA 2 1 (59, .istore_n 2, 1, 34, 0, [2], []) rfl rfl rfl ?_
    exact k9

theorem sg101_34 {lvl : Nat} {C : bCall} {Q : bPost} {A : bPt → Prop} (hC : bMono C) (hA : bClosed lvl bm101 C Q A) {v1 : Value} {l2 : Int32} {σ : bSt} 
  (h : ((l2 < 10000 → ((0 < (σ.1 7 13) → (((σ.1 7 14) = (-1) → (C 140 [.ref 42, .int ((σ.1 7 13) - 1)] σ (bRi (fun r6 s4 => (C 103 [.ref 7, .int r6] s4 (bRv (fun s7 => A (34, [.ref 7, (bUnl v1), .int (l2 + 1)], [], s7)))))))) ∧ (¬ (σ.1 7 14) = (-1) → Q (.inl none) σ))) ∧ (¬ 0 < (σ.1 7 13) → Q (.inl none) σ))) ∧ (¬ l2 < 10000 → Q (.inl none) σ))) : A (34, [.ref 7, v1, .int l2], [], σ) := by
  refine bGo hA 2 2 (60, .iload_n 2, 1, 35, 0, [2], []) rfl rfl rfl ?_
  refine bGo hA 2 3 (61, .sipush (10000), 3, 36, 0, [], [(10000, 0)]) rfl rfl rfl ?_
  refine bGo hA 2 4 (64, .if_icmp .ge (41), 3, 37, 55, [], []) rfl rfl rfl ?_
  refine ⟨fun c1 => ?_, fun c1 => ?_⟩
  · refine bGo hA 2 5 (67, .aload_n 0, 1, 38, 0, [0], []) rfl rfl rfl ?_
    refine bGo hA 2 6 (68, .getfield 81, 3, 39, 0, [7, 13, 0, 0, 0, 0], []) rfl rfl rfl ?_
    refine ⟨rfl, ?_⟩
    refine bGo hA 2 7 (71, .ifCond .le (34), 3, 40, 55, [], []) rfl rfl rfl ?_
    refine ⟨fun c2 => ?_, fun c2 => ?_⟩
    · refine bGo hA 2 8 (74, .aload_n 0, 1, 41, 0, [0], []) rfl rfl rfl ?_
      refine bGo hA 2 9 (75, .getfield 48, 3, 42, 0, [7, 14, 0, 0, 0, 0], []) rfl rfl rfl ?_
      refine ⟨rfl, ?_⟩
      refine bGo hA 2 10 (78, .iconst (-1), 1, 43, 0, [], [(-1, 0)]) rfl rfl rfl ?_
      refine bGo hA 2 11 (79, .if_icmp .ne (26), 3, 44, 55, [], []) rfl rfl rfl ?_
      refine ⟨fun c3 => ?_, fun c3 => ?_⟩
      · refine bGo hA 2 12 (82, .aload_n 0, 1, 45, 0, [0], []) rfl rfl rfl ?_
        refine bGo hA 2 13 (83, .aload_n 0, 1, 46, 0, [0], []) rfl rfl rfl ?_
        refine bGo hA 2 14 (84, .getfield 36, 3, 47, 0, [7, 8, 3, 42, 1, 0], []) rfl rfl rfl ?_
        refine ⟨rfl, ?_⟩
        refine bGo hA 2 15 (87, .aload_n 0, 1, 48, 0, [0], []) rfl rfl rfl ?_
        refine bGo hA 3 0 (88, .getfield 81, 3, 49, 0, [7, 13, 0, 0, 0, 0], []) rfl rfl rfl ?_
        refine ⟨rfl, ?_⟩
        refine bGo hA 3 1 (91, .iconst (1), 1, 50, 0, [], [(1, 0)]) rfl rfl rfl ?_
        refine bGo hA 3 2 (92, .isub, 1, 51, 0, [], []) rfl rfl rfl ?_
        refine bGo hA 3 3 (93, .invokestatic 55, 3, 52, 1, [2, 140, 2], []) rfl rfl rfl ?_
        refine hC _ _ _ _ _ (bRi_e (fun r6 s4 k5 => ?_)) (((h.1 c1).1 c2).1 c3)
        show A (52, [.ref 7, v1, .int l2], [.int r6, .ref 7], s4)
        refine bGo hA 3 4 (96, .invokevirtual 99, 3, 53, 0, [0, 7, 103, 1], []) rfl rfl rfl ?_
        refine ⟨rfl, ?_⟩
        refine hC _ _ _ _ _ (bRv_e (fun s7 k8 => ?_)) k5
        show A (53, [.ref 7, v1, .int l2], [], s7)
        refine bGo hA 3 5 (99, .iinc 2 (1), 3, 54, 0, [2], [(1, 0)]) rfl rfl rfl ?_
        refine bGo hA 3 6 (102, .goto (-42), 3, 55, 34, [], []) rfl rfl rfl ?_
        exact k8
      · refine bGo hA 3 7 (105, .return_, 1, 0, 0, [0], []) rfl rfl rfl ?_
        exact (((h.1 c1).1 c2).2 c3)
    · refine bGo hA 3 7 (105, .return_, 1, 0, 0, [0], []) rfl rfl rfl ?_
      exact ((h.1 c1).2 c2)
  · refine bGo hA 3 7 (105, .return_, 1, 0, 0, [0], []) rfl rfl rfl ?_
    exact (h.2 c1)

theorem sg102_0 {lvl : Nat} {C : bCall} {Q : bPost} {A : bPt → Prop} (hC : bMono C) (hA : bClosed lvl bm102 C Q A) {x1 : Int32} {σ : bSt} 
  (h : (C 141 [.ref 40, .int x1, .int 1] σ (bRv (fun s1 => (C 141 [.ref 42, .int (s1.1 7 13), .int x1] s1 (bRv (fun s3 => Q (.inl none) (bI s3 7 13 ((s3.1 7 13) + 1))))))))) : A (0, [.ref 7, .int x1], [], σ) := by
  refine bGo hA 0 0 (0, .aload_n 0, 1, 1, 0, [0], []) rfl rfl rfl ?_
  refine bGo hA 0 1 (1, .getfield 30, 3, 2, 0, [7, 6, 3, 40, 1, 0], []) rfl rfl rfl ?_
  refine ⟨rfl, ?_⟩
  refine bGo hA 0 2 (4, .iload_n 1, 1, 3, 0, [1], []) rfl rfl rfl ?_
  refine bGo hA 0 3 (5, .iconst (1), 1, 4, 0, [], [(1, 0)]) rfl rfl rfl ?_
  refine bGo hA 0 4 (6, .invokestatic 63, 3, 5, 1, [2, 141, 3], []) rfl rfl rfl ?_
  refine hC _ _ _ _ _ (bRv_e (fun s1 k2 => ?_)) h
  show A (5, [.ref 7, .int x1], [], s1)
  refine bGo hA 0 5 (9, .aload_n 0, 1, 6, 0, [0], []) rfl rfl rfl ?_
  refine bGo hA 0 6 (10, .getfield 36, 3, 7, 0, [7, 8, 3, 42, 1, 0], []) rfl rfl rfl ?_
  refine ⟨rfl, ?_⟩
  refine bGo hA 0 7 (13, .aload_n 0, 1, 8, 0, [0], []) rfl rfl rfl ?_
  refine bGo hA 0 8 (14, .getfield 81, 3, 9, 0, [7, 13, 0, 0, 0, 0], []) rfl rfl rfl ?_
  refine ⟨rfl, ?_⟩
  refine bGo hA 0 9 (17, .iload_n 1, 1, 10, 0, [1], []) rfl rfl rfl ?_
  refine bGo hA 0 10 (18, .invokestatic 63, 3, 11, 1, [2, 141, 3], []) rfl rfl rfl ?_
  refine hC _ _ _ _ _ (bRv_e (fun s3 k4 => ?_)) k2
  show A (11, [.ref 7, .int x1], [], s3)
  refine bGo hA 0 11 (21, .aload_n 0, 1, 12, 0, [0], []) rfl rfl rfl ?_
  refine bGo hA 0 12 (22, .dup, 1, 13, 0, [], []) rfl rfl rfl ?_
  refine bGo hA 0 13 (23, .getfield 81, 3, 14, 0, [7, 13, 0, 0, 0, 0], []) rfl rfl rfl ?_
  refine ⟨rfl, ?_⟩
  refine bGo hA 0 14 (26, .iconst (1), 1, 15, 0, [], [(1, 0)]) rfl rfl rfl ?_
  refine bGo hA 0 15 (27, .iadd, 1, 16, 0, [], []) rfl rfl rfl ?_
  refine bGo hA 1 0 (28, .putfield 81, 3, 17, 0, [7, 13, 0, 0, 0, 0], []) rfl rfl rfl ?_
  refine ⟨rfl, ?_⟩
  refine bGo hA 1 1 (31, .return_, 1, 0, 0, [0], []) rfl rfl rfl ?_
  exact k4

theorem sg103_0 {lvl : Nat} {C : bCall} {Q : bPost} {A : bPt → Prop} (hC : bMono C) (hA : bClosed lvl bm103 C Q A) {x1 : Int32} {σ : bSt} 
  (h : (C 140 [.ref 41, .int x1] σ (bRi (fun r3 s1 => (C 140 [.ref 34, .int x1] s1 (bRi (fun r6 s4 => ((r3 < r6 → (C 140 [.ref 35, .int ((x1 * 12) + r3)] s4 (bRi (fun r10 s8 => ((r10 = 1 → (C 140 [.ref 38, .int ((x1 * 12) + r3)] s8 (bRi (fun r14 s12 => (C 140 [.ref 40, .int r14] s12 (bRi (fun r17 s15 => ((r17 = 0 → (C 140 [.ref 38, .int ((x1 * 12) + r3)] s15 (bRi (fun r21 s19 => (C 102 [.ref 7, .int r21] s19 (bRv (fun s22 => Q (.inl none) s22))))))) ∧ (¬ r17 = 0 → (C 104 [.ref 7, .int x1, .int ((x1 * 12) + r3)] s15 (bRi (fun r26 s24 => ((((bI s24 7 14 r26).1 7 14) = (-1) → (C 141 [.ref 41, .int x1, .int (r3 + 1)] (bI s24 7 14 r26) (bRv (fun s28 => (C 106 [.ref 7, .int x1, .int ((x1 * 12) + r3)] s28 (bRv (fun s30 => Q (.inl none) s30))))))) ∧ (¬ ((bI s24 7 14 r26).1 7 14) = (-1) → Q (.inl none) (bI s24 7 14 r26))))))))))))))) ∧ (¬ r10 = 1 → (C 104 [.ref 7, .int x1, .int ((x1 * 12) + r3)] s8 (bRi (fun r34 s32 => ((((bI s32 7 14 r34).1 7 14) = (-1) → (C 141 [.ref 41, .int x1, .int (r3 + 1)] (bI s32 7 14 r34) (bRv (fun s36 => (C 106 [.ref 7, .int x1, .int ((x1 * 12) + r3)] s36 (bRv (fun s38 => Q (.inl none) s38))))))) ∧ (¬ ((bI s32 7 14 r34).1 7 14) = (-1) → Q (.inl none) (bI s32 7 14 r34)))))))))))) ∧ (¬ r3 < r6 → (C 141 [.ref 40, .int x1, .int 2] s4 (bRv (fun s40 => Q (.inl none) (bI s40 7 13 ((s40.1 7 13) - 1)))))))))))))) : A (0, [.ref 7, .int x1, .float 0, .float 0], [], σ) := by
  refine bGo hA 0 0 (0, .aload_n 0, 1, 1, 0, [0], []) rfl rfl rfl ?_
  refine bGo hA 0 1 (1, .getfield 33, 3, 2, 0, [7, 7, 3, 41, 1, 0], []) rfl rfl rfl ?_
  refine ⟨rfl, ?_⟩
  refine bGo hA 0 2 (4, .iload_n 1, 1, 3, 0, [1], []) rfl rfl rfl ?_
  refine bGo hA 0 3 (5, .invokestatic 55, 3, 4, 1, [2, 140, 2], []) rfl rfl rfl ?_
  refine hC _ _ _ _ _ (bRi_e (fun r3 s1 k2 => ?_)) h
  show A (4, [.ref 7, .int x1, .float 0, .float 0], [.int r3], s1)
  refine bGo hA 0 4 (8, .istore_n 2, 1, 5, 0, [2], []) rfl rfl rfl ?_
  refine bGo hA 0 5 (9, .iload_n 1, 1, 6, 0, [1], []) rfl rfl rfl ?_
  refine bGo hA 0 6 (10, .bipush (12), 2, 7, 0, [], [(12, 0)]) rfl rfl rfl ?_
  refine bGo hA 0 7 (12, .imul, 1, 8, 0, [], []) rfl rfl rfl ?_
  refine bGo hA 0 8 (13, .iload_n 2, 1, 9, 0, [2], []) rfl rfl rfl ?_
  refine bGo hA 0 9 (14, .iadd, 1, 10, 0, [], []) rfl rfl rfl ?_
  refine bGo hA 0 10 (15, .istore_n 3, 1, 11, 0, [3], []) rfl rfl rfl ?_
  refine bGo hA 0 11 (16, .iload_n 2, 1, 12, 0, [2], []) rfl rfl rfl ?_
  refine bGo hA 0 12 (17, .aload_n 0, 1, 13, 0, [0], []) rfl rfl rfl ?_
  refine bGo hA 0 13 (18, .getfield 9, 3, 14, 0, [7, 0, 3, 34, 1, 0], []) rfl rfl rfl ?_
  refine ⟨rfl, ?_⟩
  refine bGo hA 0 14 (21, .iload_n 1, 1, 15, 0, [1], []) rfl rfl rfl ?_
  refine bGo hA 0 15 (22, .invokestatic 55, 3, 16, 1, [2, 140, 2], []) rfl rfl rfl ?_
  refine hC _ _ _ _ _ (bRi_e (fun r6 s4 k5 => ?_)) k2
  show A (16, [.ref 7, .int x1, .int r3, .int ((x1 * 12) + r3)], [.int r6, .int r3], s4)
  refine bGo hA 1 0 (25, .if_icmp .lt (25), 3, 17, 29, [], []) rfl rfl rfl ?_
  refine ⟨fun c7 => ?_, fun c7 => ?_⟩
  · refine bGo hA 1 13 (50, .aload_n 0, 1, 30, 0, [0], []) rfl rfl rfl ?_
    refine bGo hA 1 14 (51, .getfield 15, 3, 31, 0, [7, 1, 3, 35, 1, 0], []) rfl rfl rfl ?_
    refine ⟨rfl, ?_⟩
    refine bGo hA 1 15 (54, .iload_n 3, 1, 32, 0, [3], []) rfl rfl rfl ?_
    refine bGo hA 2 0 (55, .invokestatic 55, 3, 33, 1, [2, 140, 2], []) rfl rfl rfl ?_
    refine hC _ _ _ _ _ (bRi_e (fun r10 s8 k9 => ?_)) (k5.1 c7)
    show A (33, [.ref 7, .int x1, .int r3, .int ((x1 * 12) + r3)], [.int r10], s8)
    refine bGo hA 2 1 (58, .iconst (1), 1, 34, 0, [], [(1, 0)]) rfl rfl rfl ?_
    refine bGo hA 2 2 (59, .if_icmp .ne (36), 3, 35, 50, [], []) rfl rfl rfl ?_
    refine ⟨fun c11 => ?_, fun c11 => ?_⟩
    · refine bGo hA 2 3 (62, .aload_n 0, 1, 36, 0, [0], []) rfl rfl rfl ?_
      refine bGo hA 2 4 (63, .getfield 30, 3, 37, 0, [7, 6, 3, 40, 1, 0], []) rfl rfl rfl ?_
      refine ⟨rfl, ?_⟩
      refine bGo hA 2 5 (66, .aload_n 0, 1, 38, 0, [0], []) rfl rfl rfl ?_
      refine bGo hA 2 6 (67, .getfield 24, 3, 39, 0, [7, 4, 3, 38, 1, 0], []) rfl rfl rfl ?_
      refine ⟨rfl, ?_⟩
      refine bGo hA 2 7 (70, .iload_n 3, 1, 40, 0, [3], []) rfl rfl rfl ?_
      refine bGo hA 2 8 (71, .invokestatic 55, 3, 41, 1, [2, 140, 2], []) rfl rfl rfl ?_
      refine hC _ _ _ _ _ (bRi_e (fun r14 s12 k13 => ?_)) (k9.1 c11)
      show A (41, [.ref 7, .int x1, .int r3, .int ((x1 * 12) + r3)], [.int r14, .ref 40], s12)
      refine bGo hA 2 9 (74, .invokestatic 55, 3, 42, 1, [2, 140, 2], []) rfl rfl rfl ?_
      refine hC _ _ _ _ _ (bRi_e (fun r17 s15 k16 => ?_)) k13
      show A (42, [.ref 7, .int x1, .int r3, .int ((x1 * 12) + r3)], [.int r17], s15)
      refine bGo hA 2 10 (77, .ifCond .ne (18), 3, 43, 50, [], []) rfl rfl rfl ?_
      refine ⟨fun c18 => ?_, fun c18 => ?_⟩
      · refine bGo hA 2 11 (80, .aload_n 0, 1, 44, 0, [0], []) rfl rfl rfl ?_
        refine bGo hA 2 12 (81, .aload_n 0, 1, 45, 0, [0], []) rfl rfl rfl ?_
        refine bGo hA 2 13 (82, .getfield 24, 3, 46, 0, [7, 4, 3, 38, 1, 0], []) rfl rfl rfl ?_
        refine ⟨rfl, ?_⟩
        refine bGo hA 2 14 (85, .iload_n 3, 1, 47, 0, [3], []) rfl rfl rfl ?_
        refine bGo hA 2 15 (86, .invokestatic 55, 3, 48, 1, [2, 140, 2], []) rfl rfl rfl ?_
        refine hC _ _ _ _ _ (bRi_e (fun r21 s19 k20 => ?_)) (k16.1 c18)
        show A (48, [.ref 7, .int x1, .int r3, .int ((x1 * 12) + r3)], [.int r21, .ref 7], s19)
        refine bGo hA 3 0 (89, .invokevirtual 96, 3, 49, 0, [0, 7, 102, 1], []) rfl rfl rfl ?_
        refine ⟨rfl, ?_⟩
        refine hC _ _ _ _ _ (bRv_e (fun s22 k23 => ?_)) k20
        show A (49, [.ref 7, .int x1, .int r3, .int ((x1 * 12) + r3)], [], s22)
        refine bGo hA 3 1 (92, .goto (38), 3, 50, 71, [], []) rfl rfl rfl ?_
        refine bGo hA 4 7 (130, .return_, 1, 0, 0, [0], []) rfl rfl rfl ?_
        exact k23
      · refine bGo hA 3 2 (95, .aload_n 0, 1, 51, 0, [0], []) rfl rfl rfl ?_
        refine bGo hA 3 3 (96, .aload_n 0, 1, 52, 0, [0], []) rfl rfl rfl ?_
        refine bGo hA 3 4 (97, .iload_n 1, 1, 53, 0, [1], []) rfl rfl rfl ?_
        refine bGo hA 3 5 (98, .iload_n 3, 1, 54, 0, [3], []) rfl rfl rfl ?_
        refine bGo hA 3 6 (99, .invokevirtual 102, 3, 55, 0, [0, 7, 104, 2], []) rfl rfl rfl ?_
        refine ⟨rfl, ?_⟩
        refine hC _ _ _ _ _ (bRi_e (fun r26 s24 k25 => ?_)) (k16.2 c18)
        show A (55, [.ref 7, .int x1, .int r3, .int ((x1 * 12) + r3)], [.int r26, .ref 7], s24)
        refine bGo hA 3 7 (102, .putfield 48, 3, 56, 0, [7, 14, 0, 0, 0, 0], []) rfl rfl rfl ?_
        refine ⟨rfl, ?_⟩
        refine bGo hA 3 8 (105, .aload_n 0, 1, 57, 0, [0], []) rfl rfl rfl ?_
        refine bGo hA 3 9 (106, .getfield 48, 3, 58, 0, [7, 14, 0, 0, 0, 0], []) rfl rfl rfl ?_
        refine ⟨rfl, ?_⟩
        refine bGo hA 3 10 (109, .iconst (-1), 1, 59, 0, [], [(-1, 0)]) rfl rfl rfl ?_
        refine bGo hA 3 11 (110, .if_icmp .ne (20), 3, 60, 71, [], []) rfl rfl rfl ?_
        refine ⟨fun c27 => ?_, fun c27 => ?_⟩
        · refine bGo hA 3 12 (113, .aload_n 0, 1, 61, 0, [0], []) rfl rfl rfl ?_
          refine bGo hA 3 13 (114, .getfield 33, 3, 62, 0, [7, 7, 3, 41, 1, 0], []) rfl rfl rfl ?_
          refine ⟨rfl, ?_⟩
          refine bGo hA 3 14 (117, .iload_n 1, 1, 63, 0, [1], []) rfl rfl rfl ?_
          refine bGo hA 3 15 (118, .iload_n 2, 1, 64, 0, [2], []) rfl rfl rfl ?_
          refine bGo hA 4 0 (119, .iconst (1), 1, 65, 0, [], [(1, 0)]) rfl rfl rfl ?_
          refine bGo hA 4 1 (120, .iadd, 1, 66, 0, [], []) rfl rfl rfl ?_
          refine bGo hA 4 2 (121, .invokestatic 63, 3, 67, 1, [2, 141, 3], []) rfl rfl rfl ?_
          refine hC _ _ _ _ _ (bRv_e (fun s28 k29 => ?_)) (k25.1 c27)
          show A (67, [.ref 7, .int x1, .int r3, .int ((x1 * 12) + r3)], [], s28)
          refine bGo hA 4 3 (124, .aload_n 0, 1, 68, 0, [0], []) rfl rfl rfl ?_
          refine bGo hA 4 4 (125, .iload_n 1, 1, 69, 0, [1], []) rfl rfl rfl ?_
          refine bGo hA 4 5 (126, .iload_n 3, 1, 70, 0, [3], []) rfl rfl rfl ?_
          refine bGo hA 4 6 (127, .invokevirtual 105, 3, 71, 0, [0, 7, 106, 2], []) rfl rfl rfl ?_
          refine ⟨rfl, ?_⟩
          refine hC _ _ _ _ _ (bRv_e (fun s30 k31 => ?_)) k29
          show A (71, [.ref 7, .int x1, .int r3, .int ((x1 * 12) + r3)], [], s30)
          refine bGo hA 4 7 (130, .return_, 1, 0, 0, [0], []) rfl rfl rfl ?_
          exact k31
        · refine bGo hA 4 7 (130, .return_, 1, 0, 0, [0], []) rfl rfl rfl ?_
          exact (k25.2 c27)
    · refine bGo hA 3 2 (95, .aload_n 0, 1, 51, 0, [0], []) rfl rfl rfl ?_
      refine bGo hA 3 3 (96, .aload_n 0, 1, 52, 0, [0], []) rfl rfl rfl ?_
      refine bGo hA 3 4 (97, .iload_n 1, 1, 53, 0, [1], []) rfl rfl rfl ?_
      refine bGo hA 3 5 (98, .iload_n 3, 1, 54, 0, [3], []) rfl rfl rfl ?_
      refine bGo hA 3 6 (99, .invokevirtual 102, 3, 55, 0, [0, 7, 104, 2], []) rfl rfl rfl ?_
      refine ⟨rfl, ?_⟩
      refine hC _ _ _ _ _ (bRi_e (fun r34 s32 k33 => ?_)) (k9.2 c11)
      show A (55, [.ref 7, .int x1, .int r3, .int ((x1 * 12) + r3)], [.int r34, .ref 7], s32)
      refine bGo hA 3 7 (102, .putfield 48, 3, 56, 0, [7, 14, 0, 0, 0, 0], []) rfl rfl rfl ?_
      refine ⟨rfl, ?_⟩
      refine bGo hA 3 8 (105, .aload_n 0, 1, 57, 0, [0], []) rfl rfl rfl ?_
      refine bGo hA 3 9 (106, .getfield 48, 3, 58, 0, [7, 14, 0, 0, 0, 0], []) rfl rfl rfl ?_
      refine ⟨rfl, ?_⟩
      refine bGo hA 3 10 (109, .iconst (-1), 1, 59, 0, [], [(-1, 0)]) rfl rfl rfl ?_
      refine bGo hA 3 11 (110, .if_icmp .ne (20), 3, 60, 71, [], []) rfl rfl rfl ?_
      refine ⟨fun c35 => ?_, fun c35 => ?_⟩
      · refine bGo hA 3 12 (113, .aload_n 0, 1, 61, 0, [0], []) rfl rfl rfl ?_
        refine bGo hA 3 13 (114, .getfield 33, 3, 62, 0, [7, 7, 3, 41, 1, 0], []) rfl rfl rfl ?_
        refine ⟨rfl, ?_⟩
        refine bGo hA 3 14 (117, .iload_n 1, 1, 63, 0, [1], []) rfl rfl rfl ?_
        refine bGo hA 3 15 (118, .iload_n 2, 1, 64, 0, [2], []) rfl rfl rfl ?_
        refine bGo hA 4 0 (119, .iconst (1), 1, 65, 0, [], [(1, 0)]) rfl rfl rfl ?_
        refine bGo hA 4 1 (120, .iadd, 1, 66, 0, [], []) rfl rfl rfl ?_
        refine bGo hA 4 2 (121, .invokestatic 63, 3, 67, 1, [2, 141, 3], []) rfl rfl rfl ?_
        refine hC _ _ _ _ _ (bRv_e (fun s36 k37 => ?_)) (k33.1 c35)
        show A (67, [.ref 7, .int x1, .int r3, .int ((x1 * 12) + r3)], [], s36)
        refine bGo hA 4 3 (124, .aload_n 0, 1, 68, 0, [0], []) rfl rfl rfl ?_
        refine bGo hA 4 4 (125, .iload_n 1, 1, 69, 0, [1], []) rfl rfl rfl ?_
        refine bGo hA 4 5 (126, .iload_n 3, 1, 70, 0, [3], []) rfl rfl rfl ?_
        refine bGo hA 4 6 (127, .invokevirtual 105, 3, 71, 0, [0, 7, 106, 2], []) rfl rfl rfl ?_
        refine ⟨rfl, ?_⟩
        refine hC _ _ _ _ _ (bRv_e (fun s38 k39 => ?_)) k37
        show A (71, [.ref 7, .int x1, .int r3, .int ((x1 * 12) + r3)], [], s38)
        refine bGo hA 4 7 (130, .return_, 1, 0, 0, [0], []) rfl rfl rfl ?_
        exact k39
      · refine bGo hA 4 7 (130, .return_, 1, 0, 0, [0], []) rfl rfl rfl ?_
        exact (k33.2 c35)
  · refine bGo hA 1 1 (28, .aload_n 0, 1, 18, 0, [0], []) rfl rfl rfl ?_
    refine bGo hA 1 2 (29, .getfield 30, 3, 19, 0, [7, 6, 3, 40, 1, 0], []) rfl rfl rfl ?_
    refine ⟨rfl, ?_⟩
    refine bGo hA 1 3 (32, .iload_n 1, 1, 20, 0, [1], []) rfl rfl rfl ?_
    refine bGo hA 1 4 (33, .iconst (2), 1, 21, 0, [], [(2, 0)]) rfl rfl rfl ?_
    refine bGo hA 1 5 (34, .invokestatic 63, 3, 22, 1, [2, 141, 3], []) rfl rfl rfl ?_
    refine hC _ _ _ _ _ (bRv_e (fun s40 k41 => ?_)) (k5.2 c7)
    show A (22, [.ref 7, .int x1, .int r3, .int ((x1 * 12) + r3)], [], s40)
    refine bGo hA 1 6 (37, .aload_n 0, 1, 23, 0, [0], []) rfl rfl rfl ?_
    refine bGo hA 1 7 (38, .dup, 1, 24, 0, [], []) rfl rfl rfl ?_
    refine bGo hA 1 8 (39, .getfield 81, 3, 25, 0, [7, 13, 0, 0, 0, 0], []) rfl rfl rfl ?_
    refine ⟨rfl, ?_⟩
    refine bGo hA 1 9 (42, .iconst (1), 1, 26, 0, [], [(1, 0)]) rfl rfl rfl ?_
    refine bGo hA 1 10 (43, .isub, 1, 27, 0, [], []) rfl rfl rfl ?_
    refine bGo hA 1 11 (44, .putfield 81, 3, 28, 0, [7, 13, 0, 0, 0, 0], []) rfl rfl rfl ?_
    refine ⟨rfl, ?_⟩
    refine bGo hA 1 12 (47, .goto (83), 3, 29, 71, [], []) rfl rfl rfl ?_
    refine bGo hA 4 7 (130, .return_, 1, 0, 0, [0], []) rfl rfl rfl ?_
    exact k41

theorem sg104_0 {lvl : Nat} {C : bCall} {Q : bPost} {A : bPt → Prop} (hC : bMono C) (hA : bClosed lvl bm104 C Q A) {x1 : Int32} {x2 : Int32} {σ : bSt} 
  (h : (C 140 [.ref 35, .int x2] σ (bRi (fun r3 s1 => (C 140 [.ref 36, .int x2] s1 (bRi (fun r6 s4 => (C 100 [.ref 7, .int x1, .int r6] s4 (bRi (fun r9 s7 => ((r3 = 0 → A (24, [.ref 7, .int x1, .int x2, .int r3, .int r9, .float 0], [.int (-1)], s7)) ∧ (¬ r3 = 0 → (C 140 [.ref 37, .int x2] s7 (bRi (fun r13 s11 => (C 100 [.ref 7, .int x1, .int r13] s11 (bRi (fun r16 s14 => A (24, [.ref 7, .int x1, .int x2, .int r3, .int r9, .float 0], [.int r16], s14))))))))))))))))))) : A (0, [.ref 7, .int x1, .int x2, .float 0, .float 0, .float 0], [], σ) := by
  refine bGo hA 0 0 (0, .aload_n 0, 1, 1, 0, [0], []) rfl rfl rfl ?_
  refine bGo hA 0 1 (1, .getfield 15, 3, 2, 0, [7, 1, 3, 35, 1, 0], []) rfl rfl rfl ?_
  refine ⟨rfl, ?_⟩
  refine bGo hA 0 2 (4, .iload_n 2, 1, 3, 0, [2], []) rfl rfl rfl ?_
  refine bGo hA 0 3 (5, .invokestatic 55, 3, 4, 1, [2, 140, 2], []) rfl rfl rfl ?_
  refine hC _ _ _ _ _ (bRi_e (fun r3 s1 k2 => ?_)) h
  show A (4, [.ref 7, .int x1, .int x2, .float 0, .float 0, .float 0], [.int r3], s1)
  refine bGo hA 0 4 (8, .istore_n 3, 1, 5, 0, [3], []) rfl rfl rfl ?_
  refine bGo hA 0 5 (9, .aload_n 0, 1, 6, 0, [0], []) rfl rfl rfl ?_
  refine bGo hA 0 6 (10, .iload_n 1, 1, 7, 0, [1], []) rfl rfl rfl ?_
  refine bGo hA 0 7 (11, .aload_n 0, 1, 8, 0, [0], []) rfl rfl rfl ?_
  refine bGo hA 0 8 (12, .getfield 18, 3, 9, 0, [7, 2, 3, 36, 1, 0], []) rfl rfl rfl ?_
  refine ⟨rfl, ?_⟩
  refine bGo hA 0 9 (15, .iload_n 2, 1, 10, 0, [2], []) rfl rfl rfl ?_
  refine bGo hA 0 10 (16, .invokestatic 55, 3, 11, 1, [2, 140, 2], []) rfl rfl rfl ?_
  refine hC _ _ _ _ _ (bRi_e (fun r6 s4 k5 => ?_)) k2
  show A (11, [.ref 7, .int x1, .int x2, .int r3, .float 0, .float 0], [.int r6, .int x1, .ref 7], s4)
  refine bGo hA 0 11 (19, .invokevirtual 84, 3, 12, 0, [0, 7, 100, 2], []) rfl rfl rfl ?_
  refine ⟨rfl, ?_⟩
  refine hC _ _ _ _ _ (bRi_e (fun r9 s7 k8 => ?_)) k5
  show A (12, [.ref 7, .int x1, .int x2, .int r3, .float 0, .float 0], [.int r9], s7)
  refine bGo hA 0 12 (22, .istore 4, 2, 13, 0, [4], []) rfl rfl rfl ?_
  refine bGo hA 0 13 (24, .iload_n 3, 1, 14, 0, [3], []) rfl rfl rfl ?_
  refine bGo hA 0 14 (25, .ifCond .ne (7), 3, 15, 17, [], []) rfl rfl rfl ?_
  refine ⟨fun c10 => ?_, fun c10 => ?_⟩
  · refine bGo hA 0 15 (28, .iconst (-1), 1, 16, 0, [], [(-1, 0)]) rfl rfl rfl ?_
    refine bGo hA 1 0 (29, .goto (16), 3, 17, 24, [], []) rfl rfl rfl ?_
    exact (k8.1 c10)
  · refine bGo hA 1 1 (32, .aload_n 0, 1, 18, 0, [0], []) rfl rfl rfl ?_
    refine bGo hA 1 2 (33, .iload_n 1, 1, 19, 0, [1], []) rfl rfl rfl ?_
    refine bGo hA 1 3 (34, .aload_n 0, 1, 20, 0, [0], []) rfl rfl rfl ?_
    refine bGo hA 1 4 (35, .getfield 21, 3, 21, 0, [7, 3, 3, 37, 1, 0], []) rfl rfl rfl ?_
    refine ⟨rfl, ?_⟩
    refine bGo hA 1 5 (38, .iload_n 2, 1, 22, 0, [2], []) rfl rfl rfl ?_
    refine bGo hA 1 6 (39, .invokestatic 55, 3, 23, 1, [2, 140, 2], []) rfl rfl rfl ?_
    refine hC _ _ _ _ _ (bRi_e (fun r13 s11 k12 => ?_)) (k8.2 c10)
    show A (23, [.ref 7, .int x1, .int x2, .int r3, .int r9, .float 0], [.int r13, .int x1, .ref 7], s11)
    refine bGo hA 1 7 (42, .invokevirtual 84, 3, 24, 0, [0, 7, 100, 2], []) rfl rfl rfl ?_
    refine ⟨rfl, ?_⟩
    refine hC _ _ _ _ _ (bRi_e (fun r16 s14 k15 => ?_)) k12
    show A (24, [.ref 7, .int x1, .int x2, .int r3, .int r9, .float 0], [.int r16], s14)
    exact k15

theorem sg104_24 {lvl : Nat} {C : bCall} {Q : bPost} {A : bPt → Prop} (hC : bMono C) (hA : bClosed lvl bm104 C Q A) {l1 : Int32} {l2 : Int32} {l3 : Int32} {l4 : Int32} {v5 : Value} {t0 : Int32} {σ : bSt} 
  (h : ((l3 = 1 → (C 140 [.ref 38, .int l2] σ (bRi (fun r4 s2 => (C 140 [.ref 40, .int r4] s2 (bRi (fun r7 s5 => ((r7 = 1 → Q (.inl (some (.int 5))) s5) ∧ (¬ r7 = 1 → (C 140 [.ref 38, .int l2] s5 (bRi (fun r11 s9 => (C 140 [.ref 37, .int l2] s9 (bRi (fun r14 s12 => (C 100 [.ref 7, .int r11, .int r14] s12 (bRi (fun r17 s15 => ((r17 = (-1) → Q (.inl (some (.int 1))) s15) ∧ (¬ r17 = (-1) → Q (.inl (some (.int (-1)))) s15)))))))))))))))))))) ∧ (¬ l3 = 1 → ((l3 = 2 → ((l4 = (-1) → Q (.inl (some (.int 1))) σ) ∧ (¬ l4 = (-1) → ((t0 = (-1) → Q (.inl (some (.int 1))) σ) ∧ (¬ t0 = (-1) → ((l4 < 1000 → ((t0 < 1000 → Q (.inl (some (.int (-1)))) σ) ∧ (¬ t0 < 1000 → Q (.inl (some (.int 2))) σ))) ∧ (¬ l4 < 1000 → Q (.inl (some (.int 2))) σ))))))) ∧ (¬ l3 = 2 → ((l3 = 3 → Q (.inl (some (.int (-1)))) σ) ∧ (¬ l3 = 3 → ((l3 = 4 → (C 105 [.ref 7, .int l1, .int l4, .int t0] σ (bRi (fun r28 s26 => Q (.inl (some (.int r28))) s26)))) ∧ (¬ l3 = 4 → ((l3 = 5 → ((t0 = (-1) → Q (.inl (some (.int 1))) σ) ∧ (¬ t0 = (-1) → Q (.inl (some (.int (-1)))) σ))) ∧ (¬ l3 = 5 → ((l3 = 6 → ((l4 = (-1) → Q (.inl (some (.int 1))) σ) ∧ (¬ l4 = (-1) → ((l4 < 1000 → Q (.inl (some (.int (-1)))) σ) ∧ (¬ l4 < 1000 → Q (.inl (some (.int 2))) σ))))) ∧ (¬ l3 = 6 → Q (.inl (some (.int (-1)))) σ))))))))))))) : A (24, [.ref 7, .int l1, .int l2, .int l3, .int l4, v5], [.int t0], σ) := by
  refine bGo hA 1 8 (45, .istore 5, 2, 25, 0, [5], []) rfl rfl rfl ?_
  refine bGo hA 1 9 (47, .iload_n 3, 1, 26, 0, [3], []) rfl rfl rfl ?_
  refine bGo hA 1 10 (48, .tableswitch (171) (1) (6) #[40, 91, 171, 127, 137, 149], 40, 27, 97, [], [(1, 27), (2, 54), (3, 97), (4, 72), (5, 78), (6, 85)]) rfl rfl rfl ?_
  refine ⟨fun c1 => ?_, fun c1 => ?_⟩
  · refine bGo hA 1 11 (88, .aload_n 0, 1, 28, 0, [0], []) rfl rfl rfl ?_
    refine bGo hA 1 12 (89, .getfield 30, 3, 29, 0, [7, 6, 3, 40, 1, 0], []) rfl rfl rfl ?_
    refine ⟨rfl, ?_⟩
    refine bGo hA 1 13 (92, .aload_n 0, 1, 30, 0, [0], []) rfl rfl rfl ?_
    refine bGo hA 1 14 (93, .getfield 24, 3, 31, 0, [7, 4, 3, 38, 1, 0], []) rfl rfl rfl ?_
    refine ⟨rfl, ?_⟩
    refine bGo hA 1 15 (96, .iload_n 2, 1, 32, 0, [2], []) rfl rfl rfl ?_
    refine bGo hA 2 0 (97, .invokestatic 55, 3, 33, 1, [2, 140, 2], []) rfl rfl rfl ?_
    refine hC _ _ _ _ _ (bRi_e (fun r4 s2 k3 => ?_)) (h.1 c1)
    show A (33, [.ref 7, .int l1, .int l2, .int l3, .int l4, .int t0], [.int r4, .ref 40], s2)
    refine bGo hA 2 1 (100, .invokestatic 55, 3, 34, 1, [2, 140, 2], []) rfl rfl rfl ?_
    refine hC _ _ _ _ _ (bRi_e (fun r7 s5 k6 => ?_)) k3
    show A (34, [.ref 7, .int l1, .int l2, .int l3, .int l4, .int t0], [.int r7], s5)
    refine bGo hA 2 2 (103, .iconst (1), 1, 35, 0, [], [(1, 0)]) rfl rfl rfl ?_
    refine bGo hA 2 3 (104, .if_icmp .ne (5), 3, 36, 38, [], []) rfl rfl rfl ?_
    refine ⟨fun c8 => ?_, fun c8 => ?_⟩
    · refine bGo hA 2 4 (107, .iconst (5), 1, 37, 0, [], [(5, 0)]) rfl rfl rfl ?_
      refine bGo hA 2 5 (108, .ireturn, 1, 38, 0, [1], []) rfl rfl rfl ?_
      exact (k6.1 c8)
    · refine bGo hA 2 6 (109, .aload_n 0, 1, 39, 0, [0], []) rfl rfl rfl ?_
      refine bGo hA 2 7 (110, .aload_n 0, 1, 40, 0, [0], []) rfl rfl rfl ?_
      refine bGo hA 2 8 (111, .getfield 24, 3, 41, 0, [7, 4, 3, 38, 1, 0], []) rfl rfl rfl ?_
      refine ⟨rfl, ?_⟩
      refine bGo hA 2 9 (114, .iload_n 2, 1, 42, 0, [2], []) rfl rfl rfl ?_
      refine bGo hA 2 10 (115, .invokestatic 55, 3, 43, 1, [2, 140, 2], []) rfl rfl rfl ?_
      refine hC _ _ _ _ _ (bRi_e (fun r11 s9 k10 => ?_)) (k6.2 c8)
      show A (43, [.ref 7, .int l1, .int l2, .int l3, .int l4, .int t0], [.int r11, .ref 7], s9)
      refine bGo hA 2 11 (118, .aload_n 0, 1, 44, 0, [0], []) rfl rfl rfl ?_
      refine bGo hA 2 12 (119, .getfield 21, 3, 45, 0, [7, 3, 3, 37, 1, 0], []) rfl rfl rfl ?_
      refine ⟨rfl, ?_⟩
      refine bGo hA 2 13 (122, .iload_n 2, 1, 46, 0, [2], []) rfl rfl rfl ?_
      refine bGo hA 2 14 (123, .invokestatic 55, 3, 47, 1, [2, 140, 2], []) rfl rfl rfl ?_
      refine hC _ _ _ _ _ (bRi_e (fun r14 s12 k13 => ?_)) k10
      show A (47, [.ref 7, .int l1, .int l2, .int l3, .int l4, .int t0], [.int r14, .int r11, .ref 7], s12)
      refine bGo hA 2 15 (126, .invokevirtual 84, 3, 48, 0, [0, 7, 100, 2], []) rfl rfl rfl ?_
      refine ⟨rfl, ?_⟩
      refine hC _ _ _ _ _ (bRi_e (fun r17 s15 k16 => ?_)) k13
      show A (48, [.ref 7, .int l1, .int l2, .int l3, .int l4, .int t0], [.int r17], s15)
      refine bGo hA 3 0 (129, .iconst (-1), 1, 49, 0, [], [(-1, 0)]) rfl rfl rfl ?_
      refine bGo hA 3 1 (130, .if_icmp .ne (7), 3, 50, 52, [], []) rfl rfl rfl ?_
      refine ⟨fun c18 => ?_, fun c18 => ?_⟩
      · refine bGo hA 3 2 (133, .iconst (1), 1, 51, 0, [], [(1, 0)]) rfl rfl rfl ?_
        refine bGo hA 3 3 (134, .goto (4), 3, 52, 53, [], []) rfl rfl rfl ?_
        refine bGo hA 3 5 (138, .ireturn, 1, 54, 0, [1], []) rfl rfl rfl ?_
        exact (k16.1 c18)
      · refine bGo hA 3 4 (137, .iconst (-1), 1, 53, 0, [], [(-1, 0)]) rfl rfl rfl ?_
        refine bGo hA 3 5 (138, .ireturn, 1, 54, 0, [1], []) rfl rfl rfl ?_
        exact (k16.2 c18)
  · refine ⟨fun c19 => ?_, fun c19 => ?_⟩
    · refine bGo hA 3 6 (139, .iload 4, 2, 55, 0, [4], []) rfl rfl rfl ?_
      refine bGo hA 3 7 (141, .iconst (-1), 1, 56, 0, [], [(-1, 0)]) rfl rfl rfl ?_
      refine bGo hA 3 8 (142, .if_icmp .eq (9), 3, 57, 60, [], []) rfl rfl rfl ?_
      refine ⟨fun c20 => ?_, fun c20 => ?_⟩
      · refine bGo hA 3 12 (151, .iconst (1), 1, 61, 0, [], [(1, 0)]) rfl rfl rfl ?_
        refine bGo hA 3 13 (152, .ireturn, 1, 62, 0, [1], []) rfl rfl rfl ?_
        exact (((h.2 c1).1 c19).1 c20)
      · refine bGo hA 3 9 (145, .iload 5, 2, 58, 0, [5], []) rfl rfl rfl ?_
        refine bGo hA 3 10 (147, .iconst (-1), 1, 59, 0, [], [(-1, 0)]) rfl rfl rfl ?_
        refine bGo hA 3 11 (148, .if_icmp .ne (5), 3, 60, 62, [], []) rfl rfl rfl ?_
        refine ⟨fun c21 => ?_, fun c21 => ?_⟩
        · refine bGo hA 3 12 (151, .iconst (1), 1, 61, 0, [], [(1, 0)]) rfl rfl rfl ?_
          refine bGo hA 3 13 (152, .ireturn, 1, 62, 0, [1], []) rfl rfl rfl ?_
          exact ((((h.2 c1).1 c19).2 c20).1 c21)
        · refine bGo hA 3 14 (153, .iload 4, 2, 63, 0, [4], []) rfl rfl rfl ?_
          refine bGo hA 3 15 (155, .sipush (1000), 3, 64, 0, [], [(1000, 0)]) rfl rfl rfl ?_
          refine bGo hA 4 0 (158, .if_icmp .ge (11), 3, 65, 68, [], []) rfl rfl rfl ?_
          refine ⟨fun c22 => ?_, fun c22 => ?_⟩
          · refine bGo hA 4 1 (161, .iload 5, 2, 66, 0, [5], []) rfl rfl rfl ?_
            refine bGo hA 4 2 (163, .sipush (1000), 3, 67, 0, [], [(1000, 0)]) rfl rfl rfl ?_
            refine bGo hA 4 3 (166, .if_icmp .lt (7), 3, 68, 70, [], []) rfl rfl rfl ?_
            refine ⟨fun c23 => ?_, fun c23 => ?_⟩
            · refine bGo hA 4 6 (173, .iconst (-1), 1, 71, 0, [], [(-1, 0)]) rfl rfl rfl ?_
              refine bGo hA 4 7 (174, .ireturn, 1, 72, 0, [1], []) rfl rfl rfl ?_
              exact ((((((h.2 c1).1 c19).2 c20).2 c21).1 c22).1 c23)
            · refine bGo hA 4 4 (169, .iconst (2), 1, 69, 0, [], [(2, 0)]) rfl rfl rfl ?_
              refine bGo hA 4 5 (170, .goto (4), 3, 70, 71, [], []) rfl rfl rfl ?_
              refine bGo hA 4 7 (174, .ireturn, 1, 72, 0, [1], []) rfl rfl rfl ?_
              exact ((((((h.2 c1).1 c19).2 c20).2 c21).1 c22).2 c23)
          · refine bGo hA 4 4 (169, .iconst (2), 1, 69, 0, [], [(2, 0)]) rfl rfl rfl ?_
            refine bGo hA 4 5 (170, .goto (4), 3, 70, 71, [], []) rfl rfl rfl ?_
            refine bGo hA 4 7 (174, .ireturn, 1, 72, 0, [1], []) rfl rfl rfl ?_
            exact (((((h.2 c1).1 c19).2 c20).2 c21).2 c22)
    · refine ⟨fun c24 => ?_, fun c24 => ?_⟩
      · refine bGo hA 6 1 (219, .iconst (-1), 1, 98, 0, [], [(-1, 0)]) rfl rfl rfl ?_
        refine bGo hA 6 2 (220, .ireturn, 1, 0, 0, [1], []) rfl rfl rfl ?_
        exact (((h.2 c1).2 c19).1 c24)
      · refine ⟨fun c25 => ?_, fun c25 => ?_⟩
        · refine bGo hA 4 8 (175, .aload_n 0, 1, 73, 0, [0], []) rfl rfl rfl ?_
          refine bGo hA 4 9 (176, .iload_n 1, 1, 74, 0, [1], []) rfl rfl rfl ?_
          refine bGo hA 4 10 (177, .iload 4, 2, 75, 0, [4], []) rfl rfl rfl ?_
          refine bGo hA 4 11 (179, .iload 5, 2, 76, 0, [5], []) rfl rfl rfl ?_
          refine bGo hA 4 12 (181, .invokevirtual 109, 3, 77, 0, [0, 7, 105, 3], []) rfl rfl rfl ?_
          refine ⟨rfl, ?_⟩
          refine hC _ _ _ _ _ (bRi_e (fun r28 s26 k27 => ?_)) ((((h.2 c1).2 c19).2 c24).1 c25)
          show A (77, [.ref 7, .int l1, .int l2, .int l3, .int l4, .int t0], [.int r28], s26)
          refine bGo hA 4 13 (184, .ireturn, 1, 78, 0, [1], []) rfl rfl rfl ?_
          exact k27
        · refine ⟨fun c29 => ?_, fun c29 => ?_⟩
          · refine bGo hA 4 14 (185, .iload 5, 2, 79, 0, [5], []) rfl rfl rfl ?_
            refine bGo hA 4 15 (187, .iconst (-1), 1, 80, 0, [], [(-1, 0)]) rfl rfl rfl ?_
            refine bGo hA 5 0 (188, .if_icmp .ne (7), 3, 81, 83, [], []) rfl rfl rfl ?_
            refine ⟨fun c30 => ?_, fun c30 => ?_⟩
            · refine bGo hA 5 1 (191, .iconst (1), 1, 82, 0, [], [(1, 0)]) rfl rfl rfl ?_
              refine bGo hA 5 2 (192, .goto (4), 3, 83, 84, [], []) rfl rfl rfl ?_
              refine bGo hA 5 4 (196, .ireturn, 1, 85, 0, [1], []) rfl rfl rfl ?_
              exact ((((((h.2 c1).2 c19).2 c24).2 c25).1 c29).1 c30)
            · refine bGo hA 5 3 (195, .iconst (-1), 1, 84, 0, [], [(-1, 0)]) rfl rfl rfl ?_
              refine bGo hA 5 4 (196, .ireturn, 1, 85, 0, [1], []) rfl rfl rfl ?_
              exact ((((((h.2 c1).2 c19).2 c24).2 c25).1 c29).2 c30)
          · refine ⟨fun c31 => ?_, fun c31 => ?_⟩
            · refine bGo hA 5 5 (197, .iload 4, 2, 86, 0, [4], []) rfl rfl rfl ?_
              refine bGo hA 5 6 (199, .iconst (-1), 1, 87, 0, [], [(-1, 0)]) rfl rfl rfl ?_
              refine bGo hA 5 7 (200, .if_icmp .ne (5), 3, 88, 90, [], []) rfl rfl rfl ?_
              refine ⟨fun c32 => ?_, fun c32 => ?_⟩
              · refine bGo hA 5 8 (203, .iconst (1), 1, 89, 0, [], [(1, 0)]) rfl rfl rfl ?_
                refine bGo hA 5 9 (204, .ireturn, 1, 90, 0, [1], []) rfl rfl rfl ?_
                exact (((((((h.2 c1).2 c19).2 c24).2 c25).2 c29).1 c31).1 c32)
              · refine bGo hA 5 10 (205, .iload 4, 2, 91, 0, [4], []) rfl rfl rfl ?_
                refine bGo hA 5 11 (207, .sipush (1000), 3, 92, 0, [], [(1000, 0)]) rfl rfl rfl ?_
                refine bGo hA 5 12 (210, .if_icmp .lt (7), 3, 93, 95, [], []) rfl rfl rfl ?_
                refine ⟨fun c33 => ?_, fun c33 => ?_⟩
                · refine bGo hA 5 15 (217, .iconst (-1), 1, 96, 0, [], [(-1, 0)]) rfl rfl rfl ?_
                  refine bGo hA 6 0 (218, .ireturn, 1, 97, 0, [1], []) rfl rfl rfl ?_
                  exact ((((((((h.2 c1).2 c19).2 c24).2 c25).2 c29).1 c31).2 c32).1 c33)
                · refine bGo hA 5 13 (213, .iconst (2), 1, 94, 0, [], [(2, 0)]) rfl rfl rfl ?_
                  refine bGo hA 5 14 (214, .goto (4), 3, 95, 96, [], []) rfl rfl rfl ?_
                  refine bGo hA 6 0 (218, .ireturn, 1, 97, 0, [1], []) rfl rfl rfl ?_
                  exact ((((((((h.2 c1).2 c19).2 c24).2 c25).2 c29).1 c31).2 c32).2 c33)
            · refine bGo hA 6 1 (219, .iconst (-1), 1, 98, 0, [], [(-1, 0)]) rfl rfl rfl ?_
              refine bGo hA 6 2 (220, .ireturn, 1, 0, 0, [1], []) rfl rfl rfl ?_
              exact ((((((h.2 c1).2 c19).2 c24).2 c25).2 c29).2 c31)

theorem sg105_0 {lvl : Nat} {C : bCall} {Q : bPost} {A : bPt → Prop} (hC : bMono C) (hA : bClosed lvl bm105 C Q A) {x1 : Int32} {x2 : Int32} {x3 : Int32} {σ : bSt} 
  (h : ((x2 = (-1) → Q (.inl (some (.int 1))) σ) ∧ (¬ x2 = (-1) → ((x3 = (-1) → Q (.inl (some (.int 1))) σ) ∧ (¬ x3 = (-1) → ((x2 < 1000 → Q (.inl (some (.int 2))) σ) ∧ (¬ x2 < 1000 → ((x3 < 1000 → (C 140 [.ref 44, .int (x2 - 1000)] σ (bRi (fun r7 s5 => ((r7 = x1 → (C 140 [.ref 43, .int (x2 - 1000)] s5 (bRi (fun r11 s9 => ((r11 < 8 → Q (.inl (some (.int (-1)))) s9) ∧ (¬ r11 < 8 → Q (.inl (some (.int 4))) s9)))))) ∧ (¬ r7 = x1 → Q (.inl (some (.int 3))) s5)))))) ∧ (¬ x3 < 1000 → Q (.inl (some (.int 2))) σ))))))))) : A (0, [.ref 7, .int x1, .int x2, .int x3], [], σ) := by
  refine bGo hA 0 0 (0, .iload_n 2, 1, 1, 0, [2], []) rfl rfl rfl ?_
  refine bGo hA 0 1 (1, .iconst (-1), 1, 2, 0, [], [(-1, 0)]) rfl rfl rfl ?_
  refine bGo hA 0 2 (2, .if_icmp .eq (8), 3, 3, 6, [], []) rfl rfl rfl ?_
  refine ⟨fun c1 => ?_, fun c1 => ?_⟩
  · refine bGo hA 0 6 (10, .iconst (1), 1, 7, 0, [], [(1, 0)]) rfl rfl rfl ?_
    refine bGo hA 0 7 (11, .ireturn, 1, 8, 0, [1], []) rfl rfl rfl ?_
    exact (h.1 c1)
  · refine bGo hA 0 3 (5, .iload_n 3, 1, 4, 0, [3], []) rfl rfl rfl ?_
    refine bGo hA 0 4 (6, .iconst (-1), 1, 5, 0, [], [(-1, 0)]) rfl rfl rfl ?_
    refine bGo hA 0 5 (7, .if_icmp .ne (5), 3, 6, 8, [], []) rfl rfl rfl ?_
    refine ⟨fun c2 => ?_, fun c2 => ?_⟩
    · refine bGo hA 0 6 (10, .iconst (1), 1, 7, 0, [], [(1, 0)]) rfl rfl rfl ?_
      refine bGo hA 0 7 (11, .ireturn, 1, 8, 0, [1], []) rfl rfl rfl ?_
      exact ((h.2 c1).1 c2)
    · refine bGo hA 0 8 (12, .iload_n 2, 1, 9, 0, [2], []) rfl rfl rfl ?_
      refine bGo hA 0 9 (13, .sipush (1000), 3, 10, 0, [], [(1000, 0)]) rfl rfl rfl ?_
      refine bGo hA 0 10 (16, .if_icmp .lt (10), 3, 11, 14, [], []) rfl rfl rfl ?_
      refine ⟨fun c3 => ?_, fun c3 => ?_⟩
      · refine bGo hA 0 14 (26, .iconst (2), 1, 15, 0, [], [(2, 0)]) rfl rfl rfl ?_
        refine bGo hA 0 15 (27, .ireturn, 1, 16, 0, [1], []) rfl rfl rfl ?_
        exact (((h.2 c1).2 c2).1 c3)
      · refine bGo hA 0 11 (19, .iload_n 3, 1, 12, 0, [3], []) rfl rfl rfl ?_
        refine bGo hA 0 12 (20, .sipush (1000), 3, 13, 0, [], [(1000, 0)]) rfl rfl rfl ?_
        refine bGo hA 0 13 (23, .if_icmp .lt (5), 3, 14, 16, [], []) rfl rfl rfl ?_
        refine ⟨fun c4 => ?_, fun c4 => ?_⟩
        · refine bGo hA 1 0 (28, .aload_n 0, 1, 17, 0, [0], []) rfl rfl rfl ?_
          refine bGo hA 1 1 (29, .getfield 42, 3, 18, 0, [7, 10, 3, 44, 1, 0], []) rfl rfl rfl ?_
          refine ⟨rfl, ?_⟩
          refine bGo hA 1 2 (32, .iload_n 2, 1, 19, 0, [2], []) rfl rfl rfl ?_
          refine bGo hA 1 3 (33, .sipush (1000), 3, 20, 0, [], [(1000, 0)]) rfl rfl rfl ?_
          refine bGo hA 1 4 (36, .isub, 1, 21, 0, [], []) rfl rfl rfl ?_
          refine bGo hA 1 5 (37, .invokestatic 55, 3, 22, 1, [2, 140, 2], []) rfl rfl rfl ?_
          refine hC _ _ _ _ _ (bRi_e (fun r7 s5 k6 => ?_)) ((((h.2 c1).2 c2).2 c3).1 c4)
          show A (22, [.ref 7, .int x1, .int x2, .int x3], [.int r7], s5)
          refine bGo hA 1 6 (40, .iload_n 1, 1, 23, 0, [1], []) rfl rfl rfl ?_
          refine bGo hA 1 7 (41, .if_icmp .eq (5), 3, 24, 26, [], []) rfl rfl rfl ?_
          refine ⟨fun c8 => ?_, fun c8 => ?_⟩
          · refine bGo hA 1 10 (46, .aload_n 0, 1, 27, 0, [0], []) rfl rfl rfl ?_
            refine bGo hA 1 11 (47, .getfield 39, 3, 28, 0, [7, 9, 3, 43, 1, 0], []) rfl rfl rfl ?_
            refine ⟨rfl, ?_⟩
            refine bGo hA 1 12 (50, .iload_n 2, 1, 29, 0, [2], []) rfl rfl rfl ?_
            refine bGo hA 1 13 (51, .sipush (1000), 3, 30, 0, [], [(1000, 0)]) rfl rfl rfl ?_
            refine bGo hA 1 14 (54, .isub, 1, 31, 0, [], []) rfl rfl rfl ?_
            refine bGo hA 1 15 (55, .invokestatic 55, 3, 32, 1, [2, 140, 2], []) rfl rfl rfl ?_
            refine hC _ _ _ _ _ (bRi_e (fun r11 s9 k10 => ?_)) (k6.1 c8)
            show A (32, [.ref 7, .int x1, .int x2, .int x3], [.int r11], s9)
            refine bGo hA 2 0 (58, .bipush (8), 2, 33, 0, [], [(8, 0)]) rfl rfl rfl ?_
            refine bGo hA 2 1 (60, .if_icmp .lt (7), 3, 34, 36, [], []) rfl rfl rfl ?_
            refine ⟨fun c12 => ?_, fun c12 => ?_⟩
            · refine bGo hA 2 4 (67, .iconst (-1), 1, 37, 0, [], [(-1, 0)]) rfl rfl rfl ?_
              refine bGo hA 2 5 (68, .ireturn, 1, 0, 0, [1], []) rfl rfl rfl ?_
              exact (k10.1 c12)
            · refine bGo hA 2 2 (63, .iconst (4), 1, 35, 0, [], [(4, 0)]) rfl rfl rfl ?_
              refine bGo hA 2 3 (64, .goto (4), 3, 36, 37, [], []) rfl rfl rfl ?_
              refine bGo hA 2 5 (68, .ireturn, 1, 0, 0, [1], []) rfl rfl rfl ?_
              exact (k10.2 c12)
          · refine bGo hA 1 8 (44, .iconst (3), 1, 25, 0, [], [(3, 0)]) rfl rfl rfl ?_
            refine bGo hA 1 9 (45, .ireturn, 1, 26, 0, [1], []) rfl rfl rfl ?_
            exact (k6.2 c8)
        · refine bGo hA 0 14 (26, .iconst (2), 1, 15, 0, [], [(2, 0)]) rfl rfl rfl ?_
          refine bGo hA 0 15 (27, .ireturn, 1, 16, 0, [1], []) rfl rfl rfl ?_
          exact ((((h.2 c1).2 c2).2 c3).2 c4)

theorem sg106_0 {lvl : Nat} {C : bCall} {Q : bPost} {A : bPt → Prop} (hC : bMono C) (hA : bClosed lvl bm106 C Q A) {x1 : Int32} {x2 : Int32} {σ : bSt} 
  (h : (C 140 [.ref 36, .int x2] σ (bRi (fun r3 s1 => (C 140 [.ref 37, .int x2] s1 (bRi (fun r6 s4 => (C 140 [.ref 35, .int x2] s4 (bRi (fun r9 s7 => ((r9 = 0 → (C 141 [.ref 39, .int ((x1 * 8) + r3), .int r6] s7 (bRv (fun s11 => Q (.inl none) s11)))) ∧ (¬ r9 = 0 → ((r9 = 1 → (C 140 [.ref 38, .int x2] s7 (bRi (fun r16 s14 => (C 100 [.ref 7, .int r16, .int r6] s14 (bRi (fun r19 s17 => (C 141 [.ref 39, .int ((x1 * 8) + r3), .int r19] s17 (bRv (fun s20 => Q (.inl none) s20)))))))))) ∧ (¬ r9 = 1 → ((r9 = 2 → (C 140 [.ref 39, .int ((x1 * 8) + r3)] s7 (bRi (fun r25 s23 => (C 100 [.ref 7, .int x1, .int r6] s23 (bRi (fun r28 s26 => (C 141 [.ref 39, .int ((x1 * 8) + r3), .int ((r25 + r28) - (r25 + r28) / 1000 * 1000)] s26 (bRv (fun s29 => Q (.inl none) s29)))))))))) ∧ (¬ r9 = 2 → ((r9 = 3 → (C 107 [.ref 7, .int x1] s7 (bRi (fun r34 s32 => (C 141 [.ref 39, .int ((x1 * 8) + r3), .int (1000 + r34)] s32 (bRv (fun s35 => Q (.inl none) s35))))))) ∧ (¬ r9 = 3 → ((r9 = 4 → (C 140 [.ref 39, .int ((x1 * 8) + r3)] s7 (bRi (fun r40 s38 => (C 100 [.ref 7, .int x1, .int r6] s38 (bRi (fun r43 s41 => (C 108 [.ref 7, .int (r40 - 1000), .int r43] s41 (bRv (fun s44 => Q (.inl none) s44)))))))))) ∧ (¬ r9 = 4 → ((r9 = 5 → (C 100 [.ref 7, .int x1, .int r6] s7 (bRi (fun r49 s47 => (C 141 [.ref 39, .int ((x1 * 8) + r3), .int r49] s47 (bRv (fun s50 => Q (.inl none) s50))))))) ∧ (¬ r9 = 5 → (C 140 [.ref 41, .int x1] s7 (bRi (fun r54 s52 => (C 140 [.ref 39, .int ((x1 * 8) + r3)] s52 (bRi (fun r57 s55 => ((r57 = 0 → (C 141 [.ref 41, .int x1, .int (r54 + 1)] s55 (bRv (fun s59 => Q (.inl none) s59)))) ∧ (¬ r57 = 0 → (C 141 [.ref 41, .int x1, .int (r54 + 0)] s55 (bRv (fun s61 => Q (.inl none) s61))))))))))))))))))))))))))))))))) : A (0, [.ref 7, .int x1, .int x2, .float 0, .float 0], [], σ) := by
  refine bGo hA 0 0 (0, .iload_n 1, 1, 1, 0, [1], []) rfl rfl rfl ?_
  refine bGo hA 0 1 (1, .bipush (8), 2, 2, 0, [], [(8, 0)]) rfl rfl rfl ?_
  refine bGo hA 0 2 (3, .imul, 1, 3, 0, [], []) rfl rfl rfl ?_
  refine bGo hA 0 3 (4, .aload_n 0, 1, 4, 0, [0], []) rfl rfl rfl ?_
  refine bGo hA 0 4 (5, .getfield 18, 3, 5, 0, [7, 2, 3, 36, 1, 0], []) rfl rfl rfl ?_
  refine ⟨rfl, ?_⟩
  refine bGo hA 0 5 (8, .iload_n 2, 1, 6, 0, [2], []) rfl rfl rfl ?_
  refine bGo hA 0 6 (9, .invokestatic 55, 3, 7, 1, [2, 140, 2], []) rfl rfl rfl ?_
  refine hC _ _ _ _ _ (bRi_e (fun r3 s1 k2 => ?_)) h
  show A (7, [.ref 7, .int x1, .int x2, .float 0, .float 0], [.int r3, .int (x1 * 8)], s1)
  refine bGo hA 0 7 (12, .iadd, 1, 8, 0, [], []) rfl rfl rfl ?_
  refine bGo hA 0 8 (13, .istore_n 3, 1, 9, 0, [3], []) rfl rfl rfl ?_
  refine bGo hA 0 9 (14, .aload_n 0, 1, 10, 0, [0], []) rfl rfl rfl ?_
  refine bGo hA 0 10 (15, .getfield 21, 3, 11, 0, [7, 3, 3, 37, 1, 0], []) rfl rfl rfl ?_
  refine ⟨rfl, ?_⟩
  refine bGo hA 0 11 (18, .iload_n 2, 1, 12, 0, [2], []) rfl rfl rfl ?_
  refine bGo hA 0 12 (19, .invokestatic 55, 3, 13, 1, [2, 140, 2], []) rfl rfl rfl ?_
  refine hC _ _ _ _ _ (bRi_e (fun r6 s4 k5 => ?_)) k2
  show A (13, [.ref 7, .int x1, .int x2, .int ((x1 * 8) + r3), .float 0], [.int r6], s4)
  refine bGo hA 0 13 (22, .istore 4, 2, 14, 0, [4], []) rfl rfl rfl ?_
  refine bGo hA 0 14 (24, .aload_n 0, 1, 15, 0, [0], []) rfl rfl rfl ?_
  refine bGo hA 0 15 (25, .getfield 15, 3, 16, 0, [7, 1, 3, 35, 1, 0], []) rfl rfl rfl ?_
  refine ⟨rfl, ?_⟩
  refine bGo hA 1 0 (28, .iload_n 2, 1, 17, 0, [2], []) rfl rfl rfl ?_
  refine bGo hA 1 1 (29, .invokestatic 55, 3, 18, 1, [2, 140, 2], []) rfl rfl rfl ?_
  refine hC _ _ _ _ _ (bRi_e (fun r9 s7 k8 => ?_)) k5
  show A (18, [.ref 7, .int x1, .int x2, .int ((x1 * 8) + r3), .int r6], [.int r9], s7)
  refine bGo hA 1 2 (32, .tableswitch (173) (0) (5) #[40, 53, 78, 109, 129, 155], 40, 19, 85, [], [(0, 19), (1, 25), (2, 37), (3, 53), (4, 63), (5, 76)]) rfl rfl rfl ?_
  refine ⟨fun c10 => ?_, fun c10 => ?_⟩
  · refine bGo hA 1 3 (72, .aload_n 0, 1, 20, 0, [0], []) rfl rfl rfl ?_
    refine bGo hA 1 4 (73, .getfield 27, 3, 21, 0, [7, 5, 3, 39, 1, 0], []) rfl rfl rfl ?_
    refine ⟨rfl, ?_⟩
    refine bGo hA 1 5 (76, .iload_n 3, 1, 22, 0, [3], []) rfl rfl rfl ?_
    refine bGo hA 1 6 (77, .iload 4, 2, 23, 0, [4], []) rfl rfl rfl ?_
    refine bGo hA 1 7 (79, .invokestatic 63, 3, 24, 1, [2, 141, 3], []) rfl rfl rfl ?_
    refine hC _ _ _ _ _ (bRv_e (fun s11 k12 => ?_)) (k8.1 c10)
    show A (24, [.ref 7, .int x1, .int x2, .int ((x1 * 8) + r3), .int r6], [], s11)
    refine bGo hA 1 8 (82, .goto (156), 3, 25, 102, [], []) rfl rfl rfl ?_
    refine bGo hA 6 6 (238, .return_, 1, 0, 0, [0], []) rfl rfl rfl ?_
    exact k12
  · refine ⟨fun c13 => ?_, fun c13 => ?_⟩
    · refine bGo hA 1 9 (85, .aload_n 0, 1, 26, 0, [0], []) rfl rfl rfl ?_
      refine bGo hA 1 10 (86, .getfield 27, 3, 27, 0, [7, 5, 3, 39, 1, 0], []) rfl rfl rfl ?_
      refine ⟨rfl, ?_⟩
      refine bGo hA 1 11 (89, .iload_n 3, 1, 28, 0, [3], []) rfl rfl rfl ?_
      refine bGo hA 1 12 (90, .aload_n 0, 1, 29, 0, [0], []) rfl rfl rfl ?_
      refine bGo hA 1 13 (91, .aload_n 0, 1, 30, 0, [0], []) rfl rfl rfl ?_
      refine bGo hA 1 14 (92, .getfield 24, 3, 31, 0, [7, 4, 3, 38, 1, 0], []) rfl rfl rfl ?_
      refine ⟨rfl, ?_⟩
      refine bGo hA 1 15 (95, .iload_n 2, 1, 32, 0, [2], []) rfl rfl rfl ?_
      refine bGo hA 2 0 (96, .invokestatic 55, 3, 33, 1, [2, 140, 2], []) rfl rfl rfl ?_
      refine hC _ _ _ _ _ (bRi_e (fun r16 s14 k15 => ?_)) ((k8.2 c10).1 c13)
      show A (33, [.ref 7, .int x1, .int x2, .int ((x1 * 8) + r3), .int r6], [.int r16, .ref 7, .int ((x1 * 8) + r3), .ref 39], s14)
      refine bGo hA 2 1 (99, .iload 4, 2, 34, 0, [4], []) rfl rfl rfl ?_
      refine bGo hA 2 2 (101, .invokevirtual 84, 3, 35, 0, [0, 7, 100, 2], []) rfl rfl rfl ?_
      refine ⟨rfl, ?_⟩
      refine hC _ _ _ _ _ (bRi_e (fun r19 s17 k18 => ?_)) k15
      show A (35, [.ref 7, .int x1, .int x2, .int ((x1 * 8) + r3), .int r6], [.int r19, .int ((x1 * 8) + r3), .ref 39], s17)
      refine bGo hA 2 3 (104, .invokestatic 63, 3, 36, 1, [2, 141, 3], []) rfl rfl rfl ?_
      refine hC _ _ _ _ _ (bRv_e (fun s20 k21 => ?_)) k18
      show A (36, [.ref 7, .int x1, .int x2, .int ((x1 * 8) + r3), .int r6], [], s20)
      refine bGo hA 2 4 (107, .goto (131), 3, 37, 102, [], []) rfl rfl rfl ?_
      refine bGo hA 6 6 (238, .return_, 1, 0, 0, [0], []) rfl rfl rfl ?_
      exact k21
    · refine ⟨fun c22 => ?_, fun c22 => ?_⟩
      · refine bGo hA 2 5 (110, .aload_n 0, 1, 38, 0, [0], []) rfl rfl rfl ?_
        refine bGo hA 2 6 (111, .getfield 27, 3, 39, 0, [7, 5, 3, 39, 1, 0], []) rfl rfl rfl ?_
        refine ⟨rfl, ?_⟩
        refine bGo hA 2 7 (114, .iload_n 3, 1, 40, 0, [3], []) rfl rfl rfl ?_
        refine bGo hA 2 8 (115, .aload_n 0, 1, 41, 0, [0], []) rfl rfl rfl ?_
        refine bGo hA 2 9 (116, .getfield 27, 3, 42, 0, [7, 5, 3, 39, 1, 0], []) rfl rfl rfl ?_
        refine ⟨rfl, ?_⟩
        refine bGo hA 2 10 (119, .iload_n 3, 1, 43, 0, [3], []) rfl rfl rfl ?_
        refine bGo hA 2 11 (120, .invokestatic 55, 3, 44, 1, [2, 140, 2], []) rfl rfl rfl ?_
        refine hC _ _ _ _ _ (bRi_e (fun r25 s23 k24 => ?_)) (((k8.2 c10).2 c13).1 c22)
        show A (44, [.ref 7, .int x1, .int x2, .int ((x1 * 8) + r3), .int r6], [.int r25, .int ((x1 * 8) + r3), .ref 39], s23)
        refine bGo hA 2 12 (123, .aload_n 0, 1, 45, 0, [0], []) rfl rfl rfl ?_
        refine bGo hA 2 13 (124, .iload_n 1, 1, 46, 0, [1], []) rfl rfl rfl ?_
        refine bGo hA 2 14 (125, .iload 4, 2, 47, 0, [4], []) rfl rfl rfl ?_
        refine bGo hA 2 15 (127, .invokevirtual 84, 3, 48, 0, [0, 7, 100, 2], []) rfl rfl rfl ?_
        refine ⟨rfl, ?_⟩
        refine hC _ _ _ _ _ (bRi_e (fun r28 s26 k27 => ?_)) k24
        show A (48, [.ref 7, .int x1, .int x2, .int ((x1 * 8) + r3), .int r6], [.int r28, .int r25, .int ((x1 * 8) + r3), .ref 39], s26)
        refine bGo hA 3 0 (130, .iadd, 1, 49, 0, [], []) rfl rfl rfl ?_
        refine bGo hA 3 1 (131, .sipush (1000), 3, 50, 0, [], [(1000, 0)]) rfl rfl rfl ?_
        refine bGo hA 3 2 (134, .irem, 1, 51, 0, [], []) rfl rfl rfl ?_
        refine ⟨by decide, ?_⟩
        refine bGo hA 3 3 (135, .invokestatic 63, 3, 52, 1, [2, 141, 3], []) rfl rfl rfl ?_
        refine hC _ _ _ _ _ (bRv_e (fun s29 k30 => ?_)) k27
        show A (52, [.ref 7, .int x1, .int x2, .int ((x1 * 8) + r3), .int r6], [], s29)
        refine bGo hA 3 4 (138, .goto (100), 3, 53, 102, [], []) rfl rfl rfl ?_
        refine bGo hA 6 6 (238, .return_, 1, 0, 0, [0], []) rfl rfl rfl ?_
        exact k30
      · refine ⟨fun c31 => ?_, fun c31 => ?_⟩
        · refine bGo hA 3 5 (141, .aload_n 0, 1, 54, 0, [0], []) rfl rfl rfl ?_
          refine bGo hA 3 6 (142, .getfield 27, 3, 55, 0, [7, 5, 3, 39, 1, 0], []) rfl rfl rfl ?_
          refine ⟨rfl, ?_⟩
          refine bGo hA 3 7 (145, .iload_n 3, 1, 56, 0, [3], []) rfl rfl rfl ?_
          refine bGo hA 3 8 (146, .sipush (1000), 3, 57, 0, [], [(1000, 0)]) rfl rfl rfl ?_
          refine bGo hA 3 9 (149, .aload_n 0, 1, 58, 0, [0], []) rfl rfl rfl ?_
          refine bGo hA 3 10 (150, .iload_n 1, 1, 59, 0, [1], []) rfl rfl rfl ?_
          refine bGo hA 3 11 (151, .invokevirtual 113, 3, 60, 0, [0, 7, 107, 1], []) rfl rfl rfl ?_
          refine ⟨rfl, ?_⟩
          refine hC _ _ _ _ _ (bRi_e (fun r34 s32 k33 => ?_)) ((((k8.2 c10).2 c13).2 c22).1 c31)
          show A (60, [.ref 7, .int x1, .int x2, .int ((x1 * 8) + r3), .int r6], [.int r34, .int 1000, .int ((x1 * 8) + r3), .ref 39], s32)
          refine bGo hA 3 12 (154, .iadd, 1, 61, 0, [], []) rfl rfl rfl ?_
          refine bGo hA 3 13 (155, .invokestatic 63, 3, 62, 1, [2, 141, 3], []) rfl rfl rfl ?_
          refine hC _ _ _ _ _ (bRv_e (fun s35 k36 => ?_)) k33
          show A (62, [.ref 7, .int x1, .int x2, .int ((x1 * 8) + r3), .int r6], [], s35)
          refine bGo hA 3 14 (158, .goto (80), 3, 63, 102, [], []) rfl rfl rfl ?_
          refine bGo hA 6 6 (238, .return_, 1, 0, 0, [0], []) rfl rfl rfl ?_
          exact k36
        · refine ⟨fun c37 => ?_, fun c37 => ?_⟩
          · refine bGo hA 3 15 (161, .aload_n 0, 1, 64, 0, [0], []) rfl rfl rfl ?_
            refine bGo hA 4 0 (162, .aload_n 0, 1, 65, 0, [0], []) rfl rfl rfl ?_
            refine bGo hA 4 1 (163, .getfield 27, 3, 66, 0, [7, 5, 3, 39, 1, 0], []) rfl rfl rfl ?_
            refine ⟨rfl, ?_⟩
            refine bGo hA 4 2 (166, .iload_n 3, 1, 67, 0, [3], []) rfl rfl rfl ?_
            refine bGo hA 4 3 (167, .invokestatic 55, 3, 68, 1, [2, 140, 2], []) rfl rfl rfl ?_
            refine hC _ _ _ _ _ (bRi_e (fun r40 s38 k39 => ?_)) (((((k8.2 c10).2 c13).2 c22).2 c31).1 c37)
            show A (68, [.ref 7, .int x1, .int x2, .int ((x1 * 8) + r3), .int r6], [.int r40, .ref 7], s38)
            refine bGo hA 4 4 (170, .sipush (1000), 3, 69, 0, [], [(1000, 0)]) rfl rfl rfl ?_
            refine bGo hA 4 5 (173, .isub, 1, 70, 0, [], []) rfl rfl rfl ?_
            refine bGo hA 4 6 (174, .aload_n 0, 1, 71, 0, [0], []) rfl rfl rfl ?_
            refine bGo hA 4 7 (175, .iload_n 1, 1, 72, 0, [1], []) rfl rfl rfl ?_
            refine bGo hA 4 8 (176, .iload 4, 2, 73, 0, [4], []) rfl rfl rfl ?_
            refine bGo hA 4 9 (178, .invokevirtual 84, 3, 74, 0, [0, 7, 100, 2], []) rfl rfl rfl ?_
            refine ⟨rfl, ?_⟩
            refine hC _ _ _ _ _ (bRi_e (fun r43 s41 k42 => ?_)) k39
            show A (74, [.ref 7, .int x1, .int x2, .int ((x1 * 8) + r3), .int r6], [.int r43, .int (r40 - 1000), .ref 7], s41)
            refine bGo hA 4 10 (181, .invokevirtual 116, 3, 75, 0, [0, 7, 108, 2], []) rfl rfl rfl ?_
            refine ⟨rfl, ?_⟩
            refine hC _ _ _ _ _ (bRv_e (fun s44 k45 => ?_)) k42
            show A (75, [.ref 7, .int x1, .int x2, .int ((x1 * 8) + r3), .int r6], [], s44)
            refine bGo hA 4 11 (184, .goto (54), 3, 76, 102, [], []) rfl rfl rfl ?_
            refine bGo hA 6 6 (238, .return_, 1, 0, 0, [0], []) rfl rfl rfl ?_
            exact k45
          · refine ⟨fun c46 => ?_, fun c46 => ?_⟩
            · refine bGo hA 4 12 (187, .aload_n 0, 1, 77, 0, [0], []) rfl rfl rfl ?_
              refine bGo hA 4 13 (188, .getfield 27, 3, 78, 0, [7, 5, 3, 39, 1, 0], []) rfl rfl rfl ?_
              refine ⟨rfl, ?_⟩
              refine bGo hA 4 14 (191, .iload_n 3, 1, 79, 0, [3], []) rfl rfl rfl ?_
              refine bGo hA 4 15 (192, .aload_n 0, 1, 80, 0, [0], []) rfl rfl rfl ?_
              refine bGo hA 5 0 (193, .iload_n 1, 1, 81, 0, [1], []) rfl rfl rfl ?_
              refine bGo hA 5 1 (194, .iload 4, 2, 82, 0, [4], []) rfl rfl rfl ?_
              refine bGo hA 5 2 (196, .invokevirtual 84, 3, 83, 0, [0, 7, 100, 2], []) rfl rfl rfl ?_
              refine ⟨rfl, ?_⟩
              refine hC _ _ _ _ _ (bRi_e (fun r49 s47 k48 => ?_)) ((((((k8.2 c10).2 c13).2 c22).2 c31).2 c37).1 c46)
              show A (83, [.ref 7, .int x1, .int x2, .int ((x1 * 8) + r3), .int r6], [.int r49, .int ((x1 * 8) + r3), .ref 39], s47)
              refine bGo hA 5 3 (199, .invokestatic 63, 3, 84, 1, [2, 141, 3], []) rfl rfl rfl ?_
              refine hC _ _ _ _ _ (bRv_e (fun s50 k51 => ?_)) k48
              show A (84, [.ref 7, .int x1, .int x2, .int ((x1 * 8) + r3), .int r6], [], s50)
              refine bGo hA 5 4 (202, .goto (36), 3, 85, 102, [], []) rfl rfl rfl ?_
              refine bGo hA 6 6 (238, .return_, 1, 0, 0, [0], []) rfl rfl rfl ?_
              exact k51
            · refine bGo hA 5 5 (205, .aload_n 0, 1, 86, 0, [0], []) rfl rfl rfl ?_
              refine bGo hA 5 6 (206, .getfield 33, 3, 87, 0, [7, 7, 3, 41, 1, 0], []) rfl rfl rfl ?_
              refine ⟨rfl, ?_⟩
              refine bGo hA 5 7 (209, .iload_n 1, 1, 88, 0, [1], []) rfl rfl rfl ?_
              refine bGo hA 5 8 (210, .aload_n 0, 1, 89, 0, [0], []) rfl rfl rfl ?_
              refine bGo hA 5 9 (211, .getfield 33, 3, 90, 0, [7, 7, 3, 41, 1, 0], []) rfl rfl rfl ?_
              refine ⟨rfl, ?_⟩
              refine bGo hA 5 10 (214, .iload_n 1, 1, 91, 0, [1], []) rfl rfl rfl ?_
              refine bGo hA 5 11 (215, .invokestatic 55, 3, 92, 1, [2, 140, 2], []) rfl rfl rfl ?_
              refine hC _ _ _ _ _ (bRi_e (fun r54 s52 k53 => ?_)) ((((((k8.2 c10).2 c13).2 c22).2 c31).2 c37).2 c46)
              show A (92, [.ref 7, .int x1, .int x2, .int ((x1 * 8) + r3), .int r6], [.int r54, .int x1, .ref 41], s52)
              refine bGo hA 5 12 (218, .aload_n 0, 1, 93, 0, [0], []) rfl rfl rfl ?_
              refine bGo hA 5 13 (219, .getfield 27, 3, 94, 0, [7, 5, 3, 39, 1, 0], []) rfl rfl rfl ?_
              refine ⟨rfl, ?_⟩
              refine bGo hA 5 14 (222, .iload_n 3, 1, 95, 0, [3], []) rfl rfl rfl ?_
              refine bGo hA 5 15 (223, .invokestatic 55, 3, 96, 1, [2, 140, 2], []) rfl rfl rfl ?_
              refine hC _ _ _ _ _ (bRi_e (fun r57 s55 k56 => ?_)) k53
              show A (96, [.ref 7, .int x1, .int x2, .int ((x1 * 8) + r3), .int r6], [.int r57, .int r54, .int x1, .ref 41], s55)
              refine bGo hA 6 0 (226, .ifCond .ne (7), 3, 97, 99, [], []) rfl rfl rfl ?_
              refine ⟨fun c58 => ?_, fun c58 => ?_⟩
              · refine bGo hA 6 1 (229, .iconst (1), 1, 98, 0, [], [(1, 0)]) rfl rfl rfl ?_
                refine bGo hA 6 2 (230, .goto (4), 3, 99, 100, [], []) rfl rfl rfl ?_
                refine bGo hA 6 4 (234, .iadd, 1, 101, 0, [], []) rfl rfl rfl ?_
                refine bGo hA 6 5 (235, .invokestatic 63, 3, 102, 1, [2, 141, 3], []) rfl rfl rfl ?_
                refine hC _ _ _ _ _ (bRv_e (fun s59 k60 => ?_)) (k56.1 c58)
                show A (102, [.ref 7, .int x1, .int x2, .int ((x1 * 8) + r3), .int r6], [], s59)
                refine bGo hA 6 6 (238, .return_, 1, 0, 0, [0], []) rfl rfl rfl ?_
                exact k60
              · refine bGo hA 6 3 (233, .iconst (0), 1, 100, 0, [], [(0, 0)]) rfl rfl rfl ?_
                refine bGo hA 6 4 (234, .iadd, 1, 101, 0, [], []) rfl rfl rfl ?_
                refine bGo hA 6 5 (235, .invokestatic 63, 3, 102, 1, [2, 141, 3], []) rfl rfl rfl ?_
                refine hC _ _ _ _ _ (bRv_e (fun s61 k62 => ?_)) (k56.2 c58)
                show A (102, [.ref 7, .int x1, .int x2, .int ((x1 * 8) + r3), .int r6], [], s61)
                refine bGo hA 6 6 (238, .return_, 1, 0, 0, [0], []) rfl rfl rfl ?_
                exact k62

theorem sg107_0 {lvl : Nat} {C : bCall} {Q : bPost} {A : bPt → Prop} (hC : bMono C) (hA : bClosed lvl bm107 C Q A) {x1 : Int32} {σ : bSt} 
  (h : (C 141 [.ref 44, .int (σ.1 7 12), .int x1] σ (bRv (fun s1 => (C 141 [.ref 43, .int (σ.1 7 12), .int 0] s1 (bRv (fun s3 => Q (.inl (some (.int (σ.1 7 12)))) (bI s3 7 12 ((s3.1 7 12) + 1))))))))) : A (0, [.ref 7, .int x1, .float 0], [], σ) := by
  refine bGo hA 0 0 (0, .aload_n 0, 1, 1, 0, [0], []) rfl rfl rfl ?_
  refine bGo hA 0 1 (1, .getfield 93, 3, 2, 0, [7, 12, 0, 0, 0, 0], []) rfl rfl rfl ?_
  refine ⟨rfl, ?_⟩
  refine bGo hA 0 2 (4, .istore_n 2, 1, 3, 0, [2], []) rfl rfl rfl ?_
  refine bGo hA 0 3 (5, .aload_n 0, 1, 4, 0, [0], []) rfl rfl rfl ?_
  refine bGo hA 0 4 (6, .getfield 42, 3, 5, 0, [7, 10, 3, 44, 1, 0], []) rfl rfl rfl ?_
  refine ⟨rfl, ?_⟩
  refine bGo hA 0 5 (9, .iload_n 2, 1, 6, 0, [2], []) rfl rfl rfl ?_
  refine bGo hA 0 6 (10, .iload_n 1, 1, 7, 0, [1], []) rfl rfl rfl ?_
  refine bGo hA 0 7 (11, .invokestatic 63, 3, 8, 1, [2, 141, 3], []) rfl rfl rfl ?_
  refine hC _ _ _ _ _ (bRv_e (fun s1 k2 => ?_)) h
  show A (8, [.ref 7, .int x1, .int (σ.1 7 12)], [], s1)
  refine bGo hA 0 8 (14, .aload_n 0, 1, 9, 0, [0], []) rfl rfl rfl ?_
  refine bGo hA 0 9 (15, .getfield 39, 3, 10, 0, [7, 9, 3, 43, 1, 0], []) rfl rfl rfl ?_
  refine ⟨rfl, ?_⟩
  refine bGo hA 0 10 (18, .iload_n 2, 1, 11, 0, [2], []) rfl rfl rfl ?_
  refine bGo hA 0 11 (19, .iconst (0), 1, 12, 0, [], [(0, 0)]) rfl rfl rfl ?_
  refine bGo hA 0 12 (20, .invokestatic 63, 3, 13, 1, [2, 141, 3], []) rfl rfl rfl ?_
  refine hC _ _ _ _ _ (bRv_e (fun s3 k4 => ?_)) k2
  show A (13, [.ref 7, .int x1, .int (σ.1 7 12)], [], s3)
  refine bGo hA 0 13 (23, .aload_n 0, 1, 14, 0, [0], []) rfl rfl rfl ?_
  refine bGo hA 0 14 (24, .dup, 1, 15, 0, [], []) rfl rfl rfl ?_
  refine bGo hA 0 15 (25, .getfield 93, 3, 16, 0, [7, 12, 0, 0, 0, 0], []) rfl rfl rfl ?_
  refine ⟨rfl, ?_⟩
  refine bGo hA 1 0 (28, .iconst (1), 1, 17, 0, [], [(1, 0)]) rfl rfl rfl ?_
  refine bGo hA 1 1 (29, .iadd, 1, 18, 0, [], []) rfl rfl rfl ?_
  refine bGo hA 1 2 (30, .putfield 93, 3, 19, 0, [7, 12, 0, 0, 0, 0], []) rfl rfl rfl ?_
  refine ⟨rfl, ?_⟩
  refine bGo hA 1 3 (33, .iload_n 2, 1, 20, 0, [2], []) rfl rfl rfl ?_
  refine bGo hA 1 4 (34, .ireturn, 1, 0, 0, [1], []) rfl rfl rfl ?_
  exact k4

theorem sg108_0 {lvl : Nat} {C : bCall} {Q : bPost} {A : bPt → Prop} (hC : bMono C) (hA : bClosed lvl bm108 C Q A) {x1 : Int32} {x2 : Int32} {σ : bSt} 
  (h : (C 140 [.ref 43, .int x1] σ (bRi (fun r3 s1 => (C 141 [.ref 45, .int ((x1 * 8) + r3), .int x2] s1 (bRv (fun s4 => (C 141 [.ref 43, .int x1, .int (r3 + 1)] s4 (bRv (fun s6 => Q (.inl none) s6)))))))))) : A (0, [.ref 7, .int x1, .int x2, .float 0], [], σ) := by
  refine bGo hA 0 0 (0, .aload_n 0, 1, 1, 0, [0], []) rfl rfl rfl ?_
  refine bGo hA 0 1 (1, .getfield 39, 3, 2, 0, [7, 9, 3, 43, 1, 0], []) rfl rfl rfl ?_
  refine ⟨rfl, ?_⟩
  refine bGo hA 0 2 (4, .iload_n 1, 1, 3, 0, [1], []) rfl rfl rfl ?_
  refine bGo hA 0 3 (5, .invokestatic 55, 3, 4, 1, [2, 140, 2], []) rfl rfl rfl ?_
  refine hC _ _ _ _ _ (bRi_e (fun r3 s1 k2 => ?_)) h
  show A (4, [.ref 7, .int x1, .int x2, .float 0], [.int r3], s1)
  refine bGo hA 0 4 (8, .istore_n 3, 1, 5, 0, [3], []) rfl rfl rfl ?_
  refine bGo hA 0 5 (9, .aload_n 0, 1, 6, 0, [0], []) rfl rfl rfl ?_
  refine bGo hA 0 6 (10, .getfield 45, 3, 7, 0, [7, 11, 3, 45, 1, 0], []) rfl rfl rfl ?_
  refine ⟨rfl, ?_⟩
  refine bGo hA 0 7 (13, .iload_n 1, 1, 8, 0, [1], []) rfl rfl rfl ?_
  refine bGo hA 0 8 (14, .bipush (8), 2, 9, 0, [], [(8, 0)]) rfl rfl rfl ?_
  refine bGo hA 0 9 (16, .imul, 1, 10, 0, [], []) rfl rfl rfl ?_
  refine bGo hA 0 10 (17, .iload_n 3, 1, 11, 0, [3], []) rfl rfl rfl ?_
  refine bGo hA 0 11 (18, .iadd, 1, 12, 0, [], []) rfl rfl rfl ?_
  refine bGo hA 0 12 (19, .iload_n 2, 1, 13, 0, [2], []) rfl rfl rfl ?_
  refine bGo hA 0 13 (20, .invokestatic 63, 3, 14, 1, [2, 141, 3], []) rfl rfl rfl ?_
  refine hC _ _ _ _ _ (bRv_e (fun s4 k5 => ?_)) k2
  show A (14, [.ref 7, .int x1, .int x2, .int r3], [], s4)
  refine bGo hA 0 14 (23, .aload_n 0, 1, 15, 0, [0], []) rfl rfl rfl ?_
  refine bGo hA 0 15 (24, .getfield 39, 3, 16, 0, [7, 9, 3, 43, 1, 0], []) rfl rfl rfl ?_
  refine ⟨rfl, ?_⟩
  refine bGo hA 1 0 (27, .iload_n 1, 1, 17, 0, [1], []) rfl rfl rfl ?_
  refine bGo hA 1 1 (28, .iload_n 3, 1, 18, 0, [3], []) rfl rfl rfl ?_
  refine bGo hA 1 2 (29, .iconst (1), 1, 19, 0, [], [(1, 0)]) rfl rfl rfl ?_
  refine bGo hA 1 3 (30, .iadd, 1, 20, 0, [], []) rfl rfl rfl ?_
  refine bGo hA 1 4 (31, .invokestatic 63, 3, 21, 1, [2, 141, 3], []) rfl rfl rfl ?_
  refine hC _ _ _ _ _ (bRv_e (fun s6 k7 => ?_)) k5
  show A (21, [.ref 7, .int x1, .int x2, .int r3], [], s6)
  refine bGo hA 1 5 (34, .return_, 1, 0, 0, [0], []) rfl rfl rfl ?_
  exact k7

theorem sg109_0 {lvl : Nat} {C : bCall} {Q : bPost} {A : bPt → Prop} (hC : bMono C) (hA : bClosed lvl bm109 C Q A) {a0 : Nat} {x1 : Int32} {x2 : Int32} {x3 : Int32} {σ : bSt} (h_a0 : a0 % 256 = 8)
  (h : ((bI (bI (bI (bI (bI σ a0 3 (-1)) a0 4 (-1)) a0 5 (-1)) a0 6 255) a0 9 1).2.2.2.1 (256 * (1 * (a0 / 256) + 0) + 46) = 0 ∧ (6 = Int32.ofNat (bLen (bI (bI (bI (bI (bI σ a0 3 (-1)) a0 4 (-1)) a0 5 (-1)) a0 6 255) a0 9 1) (256 * (1 * (a0 / 256) + 0) + 46)) ∧ ((256 * (1 * (a0 / 256) + 0) + 46) % 256 < 200 ∧ ((bR (bNew (bI (bI (bI (bI (bI σ a0 3 (-1)) a0 4 (-1)) a0 5 (-1)) a0 6 255) a0 9 1) (256 * (1 * (a0 / 256) + 0) + 46) 2 (bLen (bI (bI (bI (bI (bI σ a0 3 (-1)) a0 4 (-1)) a0 5 (-1)) a0 6 255) a0 9 1) (256 * (1 * (a0 / 256) + 0) + 46))) a0 15 (some (256 * (1 * (a0 / 256) + 0) + 46))).2.2.2.1 (256 * (1 * (a0 / 256) + 0) + 47) = 0 ∧ (4 = Int32.ofNat (bLen (bR (bNew (bI (bI (bI (bI (bI σ a0 3 (-1)) a0 4 (-1)) a0 5 (-1)) a0 6 255) a0 9 1) (256 * (1 * (a0 / 256) + 0) + 46) 2 (bLen (bI (bI (bI (bI (bI σ a0 3 (-1)) a0 4 (-1)) a0 5 (-1)) a0 6 255) a0 9 1) (256 * (1 * (a0 / 256) + 0) + 46))) a0 15 (some (256 * (1 * (a0 / 256) + 0) + 46))) (256 * (1 * (a0 / 256) + 0) + 47)) ∧ ((256 * (1 * (a0 / 256) + 0) + 47) % 256 < 200 ∧ (∀ s1 : bSt, s1 = (bNew (bR (bNew (bI (bI (bI (bI (bI σ a0 3 (-1)) a0 4 (-1)) a0 5 (-1)) a0 6 255) a0 9 1) (256 * (1 * (a0 / 256) + 0) + 46) 2 (bLen (bI (bI (bI (bI (bI σ a0 3 (-1)) a0 4 (-1)) a0 5 (-1)) a0 6 255) a0 9 1) (256 * (1 * (a0 / 256) + 0) + 46))) a0 15 (some (256 * (1 * (a0 / 256) + 0) + 46))) (256 * (1 * (a0 / 256) + 0) + 47) 2 (bLen (bR (bNew (bI (bI (bI (bI (bI σ a0 3 (-1)) a0 4 (-1)) a0 5 (-1)) a0 6 255) a0 9 1) (256 * (1 * (a0 / 256) + 0) + 46) 2 (bLen (bI (bI (bI (bI (bI σ a0 3 (-1)) a0 4 (-1)) a0 5 (-1)) a0 6 255) a0 9 1) (256 * (1 * (a0 / 256) + 0) + 46))) a0 15 (some (256 * (1 * (a0 / 256) + 0) + 46))) (256 * (1 * (a0 / 256) + 0) + 47))) → ((bR s1 a0 16 (some (256 * (1 * (a0 / 256) + 0) + 47))).2.2.2.1 (256 * (1 * (a0 / 256) + 0) + 48) = 0 ∧ (4 = Int32.ofNat (bLen (bR s1 a0 16 (some (256 * (1 * (a0 / 256) + 0) + 47))) (256 * (1 * (a0 / 256) + 0) + 48)) ∧ ((256 * (1 * (a0 / 256) + 0) + 48) % 256 < 200 ∧ ((bR (bNew (bR s1 a0 16 (some (256 * (1 * (a0 / 256) + 0) + 47))) (256 * (1 * (a0 / 256) + 0) + 48) 2 (bLen (bR s1 a0 16 (some (256 * (1 * (a0 / 256) + 0) + 47))) (256 * (1 * (a0 / 256) + 0) + 48))) a0 17 (some (256 * (1 * (a0 / 256) + 0) + 48))).2.2.2.1 (256 * (1 * (a0 / 256) + 0) + 49) = 0 ∧ (63 = Int32.ofNat (bLen (bR (bNew (bR s1 a0 16 (some (256 * (1 * (a0 / 256) + 0) + 47))) (256 * (1 * (a0 / 256) + 0) + 48) 2 (bLen (bR s1 a0 16 (some (256 * (1 * (a0 / 256) + 0) + 47))) (256 * (1 * (a0 / 256) + 0) + 48))) a0 17 (some (256 * (1 * (a0 / 256) + 0) + 48))) (256 * (1 * (a0 / 256) + 0) + 49)) ∧ ((256 * (1 * (a0 / 256) + 0) + 49) % 256 < 200 ∧ (∀ s2 : bSt, s2 = (bNew (bR (bNew (bR s1 a0 16 (some (256 * (1 * (a0 / 256) + 0) + 47))) (256 * (1 * (a0 / 256) + 0) + 48) 2 (bLen (bR s1 a0 16 (some (256 * (1 * (a0 / 256) + 0) + 47))) (256 * (1 * (a0 / 256) + 0) + 48))) a0 17 (some (256 * (1 * (a0 / 256) + 0) + 48))) (256 * (1 * (a0 / 256) + 0) + 49) 2 (bLen (bR (bNew (bR s1 a0 16 (some (256 * (1 * (a0 / 256) + 0) + 47))) (256 * (1 * (a0 / 256) + 0) + 48) 2 (bLen (bR s1 a0 16 (some (256 * (1 * (a0 / 256) + 0) + 47))) (256 * (1 * (a0 / 256) + 0) + 48))) a0 17 (some (256 * (1 * (a0 / 256) + 0) + 48))) (256 * (1 * (a0 / 256) + 0) + 49))) → (((bI (bI (bI (bR s2 a0 18 (some (256 * (1 * (a0 / 256) + 0) + 49))) a0 0 x1) a0 1 x2) a0 2 x3).2.2.1 a0 17).isSome = true ∧ (C 361 [.ref (256 * (1 * (a0 / 256) + 0) + 48), .int (-1)] (bI (bI (bI (bR s2 a0 18 (some (256 * (1 * (a0 / 256) + 0) + 49))) a0 0 x1) a0 1 x2) a0 2 x3) (bRv (fun s3 => (bAll s3 a0 [15, 16, 17, 18] ∧ Q (.inl none) (bA s3 a0 2))))))))))))))))))))) : A (0, [.retAddr a0, .int x1, .int x2, .int x3], [], σ) := by
  refine bGo hA 0 0 (0, .aload_n 0, 1, 1, 0, [0], []) rfl rfl rfl ?_
  refine bGo hA 0 1 (1, .invokespecial 3, 3, 2, 0, [6, 0, 0], []) rfl rfl rfl ?_
  refine bGo hA 0 2 (4, .aload_n 0, 1, 3, 0, [0], []) rfl rfl rfl ?_
  refine bGo hA 0 3 (5, .iconst (-1), 1, 4, 0, [], [(-1, 0)]) rfl rfl rfl ?_
  refine bGo hA 0 4 (6, .putfield 9, 3, 5, 0, [8, 3, 0, 0, 0, 0], []) rfl rfl rfl ?_
  refine ⟨h_a0, ?_⟩
  refine bGo hA 0 5 (9, .aload_n 0, 1, 6, 0, [0], []) rfl rfl rfl ?_
  refine bGo hA 0 6 (10, .iconst (-1), 1, 7, 0, [], [(-1, 0)]) rfl rfl rfl ?_
  refine bGo hA 0 7 (11, .putfield 15, 3, 8, 0, [8, 4, 0, 0, 0, 0], []) rfl rfl rfl ?_
  refine ⟨h_a0, ?_⟩
  refine bGo hA 0 8 (14, .aload_n 0, 1, 9, 0, [0], []) rfl rfl rfl ?_
  refine bGo hA 0 9 (15, .iconst (-1), 1, 10, 0, [], [(-1, 0)]) rfl rfl rfl ?_
  refine bGo hA 0 10 (16, .putfield 18, 3, 11, 0, [8, 5, 0, 0, 0, 0], []) rfl rfl rfl ?_
  refine ⟨h_a0, ?_⟩
  refine bGo hA 0 11 (19, .aload_n 0, 1, 12, 0, [0], []) rfl rfl rfl ?_
  refine bGo hA 0 12 (20, .sipush (255), 3, 13, 0, [], [(255, 0)]) rfl rfl rfl ?_
  refine bGo hA 0 13 (23, .putfield 21, 3, 14, 0, [8, 6, 0, 0, 0, 0], []) rfl rfl rfl ?_
  refine ⟨h_a0, ?_⟩
  refine bGo hA 0 14 (26, .aload_n 0, 1, 15, 0, [0], []) rfl rfl rfl ?_
  refine bGo hA 0 15 (27, .iconst (1), 1, 16, 0, [], [(1, 0)]) rfl rfl rfl ?_
  refine bGo hA 1 0 (28, .putfield 24, 3, 17, 0, [8, 9, 0, 0, 0, 0], []) rfl rfl rfl ?_
  refine ⟨h_a0, ?_⟩
  refine bGo hA 1 1 (31, .aload_n 0, 1, 18, 0, [0], []) rfl rfl rfl ?_
  refine bGo hA 1 2 (32, .bipush (6), 2, 19, 0, [], [(6, 0)]) rfl rfl rfl ?_
  refine bGo hA 1 3 (34, .newarray .int, 2, 20, 0, [46], []) rfl rfl rfl ?_
  refine ⟨h.1, h.2.1, h.2.2.1, ?_⟩
  refine bGo hA 1 4 (36, .putfield 27, 3, 21, 0, [8, 15, 3, 46, 1, 0], []) rfl rfl rfl ?_
  refine ⟨h_a0, rfl, ?_⟩
  refine bGo hA 1 5 (39, .aload_n 0, 1, 22, 0, [0], []) rfl rfl rfl ?_
  refine bGo hA 1 6 (40, .iconst (4), 1, 23, 0, [], [(4, 0)]) rfl rfl rfl ?_
  refine bGo hA 1 7 (41, .newarray .int, 2, 24, 0, [47], []) rfl rfl rfl ?_
  refine ⟨h.2.2.2.1, h.2.2.2.2.1, h.2.2.2.2.2.1, ?_⟩
  refine bGo hA 1 8 (43, .putfield 31, 3, 25, 0, [8, 16, 3, 47, 1, 0], []) rfl rfl rfl ?_
  refine ⟨h_a0, rfl, ?_⟩
  refine bGo hA 1 9 (46, .aload_n 0, 1, 26, 0, [0], []) rfl rfl rfl ?_
  refine bGo hA 1 10 (47, .iconst (4), 1, 27, 0, [], [(4, 0)]) rfl rfl rfl ?_
  refine bGo hA 1 11 (48, .newarray .int, 2, 28, 0, [48], []) rfl rfl rfl ?_
  refine ⟨(h.2.2.2.2.2.2 _ rfl).1, (h.2.2.2.2.2.2 _ rfl).2.1, (h.2.2.2.2.2.2 _ rfl).2.2.1, ?_⟩
  refine bGo hA 1 12 (50, .putfield 34, 3, 29, 0, [8, 17, 3, 48, 1, 0], []) rfl rfl rfl ?_
  refine ⟨h_a0, rfl, ?_⟩
  refine bGo hA 1 13 (53, .aload_n 0, 1, 30, 0, [0], []) rfl rfl rfl ?_
  refine bGo hA 1 14 (54, .bipush (63), 2, 31, 0, [], [(63, 0)]) rfl rfl rfl ?_
  refine bGo hA 1 15 (56, .newarray .long, 2, 32, 0, [49], []) rfl rfl rfl ?_
  refine ⟨(h.2.2.2.2.2.2 _ rfl).2.2.2.1, (h.2.2.2.2.2.2 _ rfl).2.2.2.2.1, (h.2.2.2.2.2.2 _ rfl).2.2.2.2.2.1, ?_⟩
  refine bGo hA 2 0 (58, .putfield 37, 3, 33, 0, [8, 18, 3, 49, 1, 0], []) rfl rfl rfl ?_
  refine ⟨h_a0, rfl, ?_⟩
  refine bGo hA 2 1 (61, .aload_n 0, 1, 34, 0, [0], []) rfl rfl rfl ?_
  refine bGo hA 2 2 (62, .iload_n 1, 1, 35, 0, [1], []) rfl rfl rfl ?_
  refine bGo hA 2 3 (63, .putfield 41, 3, 36, 0, [8, 0, 0, 0, 0, 0], []) rfl rfl rfl ?_
  refine ⟨h_a0, ?_⟩
  refine bGo hA 2 4 (66, .aload_n 0, 1, 37, 0, [0], []) rfl rfl rfl ?_
  refine bGo hA 2 5 (67, .iload_n 2, 1, 38, 0, [2], []) rfl rfl rfl ?_
  refine bGo hA 2 6 (68, .putfield 44, 3, 39, 0, [8, 1, 0, 0, 0, 0], []) rfl rfl rfl ?_
  refine ⟨h_a0, ?_⟩
  refine bGo hA 2 7 (71, .aload_n 0, 1, 40, 0, [0], []) rfl rfl rfl ?_
  refine bGo hA 2 8 (72, .iload_n 3, 1, 41, 0, [3], []) rfl rfl rfl ?_
  refine bGo hA 2 9 (73, .putfield 47, 3, 42, 0, [8, 2, 0, 0, 0, 0], []) rfl rfl rfl ?_
  refine ⟨h_a0, ?_⟩
  refine bGo hA 2 10 (76, .aload_n 0, 1, 43, 0, [0], []) rfl rfl rfl ?_
  refine bGo hA 2 11 (77, .getfield 34, 3, 44, 0, [8, 17, 3, 48, 1, 0], []) rfl rfl rfl ?_
  refine ⟨h_a0, ((h.2.2.2.2.2.2 _ rfl).2.2.2.2.2.2 _ rfl).1, ?_⟩
  refine bGo hA 2 12 (80, .iconst (-1), 1, 45, 0, [], [(-1, 0)]) rfl rfl rfl ?_
  refine bGo hA 2 13 (81, .invokestatic 50, 3, 46, 0, [2, 361, 2], []) rfl rfl rfl ?_
  refine hC _ _ _ _ _ (bRv_e (fun s3 k4 => ?_)) ((h.2.2.2.2.2.2 _ rfl).2.2.2.2.2.2 _ rfl).2
  show A (46, [.retAddr a0, .int x1, .int x2, .int x3], [], s3)
  refine bGo hA 2 14 (84, .return_, 1, 0, 0, [5, 15, 16, 17, 18], []) rfl rfl rfl ?_
  exact k4

theorem sg110_0 {lvl : Nat} {C : bCall} {Q : bPost} {A : bPt → Prop} (hC : bMono C) (hA : bClosed lvl bm110 C Q A) {a0 : Nat} {x1 : Int32} {σ : bSt} (h_a0 : a0 % 256 = 8)
  (h : (C 141 [.ref (256 * (1 * (a0 / 256) + 0) + 46), .int (σ.1 a0 13), .int x1] σ (bRv (fun s1 => Q (.inl (some (.int ((bI s1 a0 13 ((s1.1 a0 13) + 1)).1 a0 13)))) (bI s1 a0 13 ((s1.1 a0 13) + 1)))))) : A (0, [.ref a0, .int x1], [], σ) := by
  refine bGo hA 0 0 (0, .aload_n 0, 1, 1, 0, [0], []) rfl rfl rfl ?_
  refine bGo hA 0 1 (1, .getfield 27, 3, 2, 0, [8, 15, 3, 46, 1, 0], []) rfl rfl rfl ?_
  refine ⟨h_a0, ?_⟩
  refine bGo hA 0 2 (4, .aload_n 0, 1, 3, 0, [0], []) rfl rfl rfl ?_
  refine bGo hA 0 3 (5, .getfield 56, 3, 4, 0, [8, 13, 0, 0, 0, 0], []) rfl rfl rfl ?_
  refine ⟨h_a0, ?_⟩
  refine bGo hA 0 4 (8, .iload_n 1, 1, 5, 0, [1], []) rfl rfl rfl ?_
  refine bGo hA 0 5 (9, .invokestatic 59, 3, 6, 1, [2, 141, 3], []) rfl rfl rfl ?_
  refine hC _ _ _ _ _ (bRv_e (fun s1 k2 => ?_)) h
  show A (6, [.ref a0, .int x1], [], s1)
  refine bGo hA 0 6 (12, .aload_n 0, 1, 7, 0, [0], []) rfl rfl rfl ?_
  refine bGo hA 0 7 (13, .dup, 1, 8, 0, [], []) rfl rfl rfl ?_
  refine bGo hA 0 8 (14, .getfield 56, 3, 9, 0, [8, 13, 0, 0, 0, 0], []) rfl rfl rfl ?_
  refine ⟨h_a0, ?_⟩
  refine bGo hA 0 9 (17, .iconst (1), 1, 10, 0, [], [(1, 0)]) rfl rfl rfl ?_
  refine bGo hA 0 10 (18, .iadd, 1, 11, 0, [], []) rfl rfl rfl ?_
  refine bGo hA 0 11 (19, .putfield 56, 3, 12, 0, [8, 13, 0, 0, 0, 0], []) rfl rfl rfl ?_
  refine ⟨h_a0, ?_⟩
  refine bGo hA 0 12 (22, .aload_n 0, 1, 13, 0, [0], []) rfl rfl rfl ?_
  refine bGo hA 0 13 (23, .getfield 56, 3, 14, 0, [8, 13, 0, 0, 0, 0], []) rfl rfl rfl ?_
  refine ⟨h_a0, ?_⟩
  refine bGo hA 0 14 (26, .ireturn, 1, 0, 0, [1], []) rfl rfl rfl ?_
  exact k2

theorem sg111_0 {lvl : Nat} {C : bCall} {Q : bPost} {A : bPt → Prop} (hC : bMono C) (hA : bClosed lvl bm111 C Q A) {a0 : Nat} {σ : bSt} (h_a0 : a0 % 256 = 8)
  (h : Q (.inl (some (.int ((bI σ a0 13 ((σ.1 a0 13) - 1)).1 a0 13)))) (bI σ a0 13 ((σ.1 a0 13) - 1))) : A (0, [.ref a0], [], σ) := by
  refine bGo hA 0 0 (0, .aload_n 0, 1, 1, 0, [0], []) rfl rfl rfl ?_
  refine bGo hA 0 1 (1, .dup, 1, 2, 0, [], []) rfl rfl rfl ?_
  refine bGo hA 0 2 (2, .getfield 56, 3, 3, 0, [8, 13, 0, 0, 0, 0], []) rfl rfl rfl ?_
  refine ⟨h_a0, ?_⟩
  refine bGo hA 0 3 (5, .iconst (1), 1, 4, 0, [], [(1, 0)]) rfl rfl rfl ?_
  refine bGo hA 0 4 (6, .isub, 1, 5, 0, [], []) rfl rfl rfl ?_
  refine bGo hA 0 5 (7, .putfield 56, 3, 6, 0, [8, 13, 0, 0, 0, 0], []) rfl rfl rfl ?_
  refine ⟨h_a0, ?_⟩
  refine bGo hA 0 6 (10, .aload_n 0, 1, 7, 0, [0], []) rfl rfl rfl ?_
  refine bGo hA 0 7 (11, .getfield 56, 3, 8, 0, [8, 13, 0, 0, 0, 0], []) rfl rfl rfl ?_
  refine ⟨h_a0, ?_⟩
  refine bGo hA 0 8 (14, .ireturn, 1, 0, 0, [1], []) rfl rfl rfl ?_
  exact h

theorem sg112_0 {lvl : Nat} {C : bCall} {Q : bPost} {A : bPt → Prop} (hC : bMono C) (hA : bClosed lvl bm112 C Q A) {a0 : Nat} {x1 : Int32} {σ : bSt} (h_a0 : a0 % 256 = 8)
  (h : ((x1 < (σ.1 a0 13) → (C 140 [.ref (256 * (1 * (a0 / 256) + 0) + 46), .int x1] σ (bRi (fun r4 s2 => Q (.inl (some (.int r4))) s2)))) ∧ (¬ x1 < (σ.1 a0 13) → Q (.inl (some (.int (-1)))) σ))) : A (0, [.ref a0, .int x1], [], σ) := by
  refine bGo hA 0 0 (0, .iload_n 1, 1, 1, 0, [1], []) rfl rfl rfl ?_
  refine bGo hA 0 1 (1, .aload_n 0, 1, 2, 0, [0], []) rfl rfl rfl ?_
  refine bGo hA 0 2 (2, .getfield 56, 3, 3, 0, [8, 13, 0, 0, 0, 0], []) rfl rfl rfl ?_
  refine ⟨h_a0, ?_⟩
  refine bGo hA 0 3 (5, .if_icmp .ge (14), 3, 4, 9, [], []) rfl rfl rfl ?_
  refine ⟨fun c1 => ?_, fun c1 => ?_⟩
  · refine bGo hA 0 4 (8, .aload_n 0, 1, 5, 0, [0], []) rfl rfl rfl ?_
    refine bGo hA 0 5 (9, .getfield 27, 3, 6, 0, [8, 15, 3, 46, 1, 0], []) rfl rfl rfl ?_
    refine ⟨h_a0, ?_⟩
    refine bGo hA 0 6 (12, .iload_n 1, 1, 7, 0, [1], []) rfl rfl rfl ?_
    refine bGo hA 0 7 (13, .invokestatic 63, 3, 8, 1, [2, 140, 2], []) rfl rfl rfl ?_
    refine hC _ _ _ _ _ (bRi_e (fun r4 s2 k3 => ?_)) (h.1 c1)
    show A (8, [.ref a0, .int x1], [.int r4], s2)
    refine bGo hA 0 8 (16, .goto (4), 3, 9, 10, [], []) rfl rfl rfl ?_
    refine bGo hA 0 10 (20, .ireturn, 1, 0, 0, [1], []) rfl rfl rfl ?_
    exact k3
  · refine bGo hA 0 9 (19, .iconst (-1), 1, 10, 0, [], [(-1, 0)]) rfl rfl rfl ?_
    refine bGo hA 0 10 (20, .ireturn, 1, 0, 0, [1], []) rfl rfl rfl ?_
    exact (h.2 c1)

theorem sg113_0 {lvl : Nat} {C : bCall} {Q : bPost} {A : bPt → Prop} (hC : bMono C) (hA : bClosed lvl bm113 C Q A) {a0 : Nat} {x1 : Int32} {x2 : Int32} {x3 : Int32} {σ : bSt} (h_a0 : a0 % 256 = 8)
  (h : (C 141 [.ref (256 * (1 * (a0 / 256) + 0) + 47), .int (σ.1 a0 14), .int ((((x1 * 4) + x2) * 1000) + x3)] σ (bRv (fun s1 => Q (.inl (some (.int ((bI s1 a0 14 ((s1.1 a0 14) + 1)).1 a0 14)))) (bI s1 a0 14 ((s1.1 a0 14) + 1)))))) : A (0, [.ref a0, .int x1, .int x2, .int x3], [], σ) := by
  refine bGo hA 0 0 (0, .aload_n 0, 1, 1, 0, [0], []) rfl rfl rfl ?_
  refine bGo hA 0 1 (1, .getfield 31, 3, 2, 0, [8, 16, 3, 47, 1, 0], []) rfl rfl rfl ?_
  refine ⟨h_a0, ?_⟩
  refine bGo hA 0 2 (4, .aload_n 0, 1, 3, 0, [0], []) rfl rfl rfl ?_
  refine bGo hA 0 3 (5, .getfield 67, 3, 4, 0, [8, 14, 0, 0, 0, 0], []) rfl rfl rfl ?_
  refine ⟨h_a0, ?_⟩
  refine bGo hA 0 4 (8, .iload_n 1, 1, 5, 0, [1], []) rfl rfl rfl ?_
  refine bGo hA 0 5 (9, .iconst (4), 1, 6, 0, [], [(4, 0)]) rfl rfl rfl ?_
  refine bGo hA 0 6 (10, .imul, 1, 7, 0, [], []) rfl rfl rfl ?_
  refine bGo hA 0 7 (11, .iload_n 2, 1, 8, 0, [2], []) rfl rfl rfl ?_
  refine bGo hA 0 8 (12, .iadd, 1, 9, 0, [], []) rfl rfl rfl ?_
  refine bGo hA 0 9 (13, .sipush (1000), 3, 10, 0, [], [(1000, 0)]) rfl rfl rfl ?_
  refine bGo hA 0 10 (16, .imul, 1, 11, 0, [], []) rfl rfl rfl ?_
  refine bGo hA 0 11 (17, .iload_n 3, 1, 12, 0, [3], []) rfl rfl rfl ?_
  refine bGo hA 0 12 (18, .iadd, 1, 13, 0, [], []) rfl rfl rfl ?_
  refine bGo hA 0 13 (19, .invokestatic 59, 3, 14, 1, [2, 141, 3], []) rfl rfl rfl ?_
  refine hC _ _ _ _ _ (bRv_e (fun s1 k2 => ?_)) h
  show A (14, [.ref a0, .int x1, .int x2, .int x3], [], s1)
  refine bGo hA 0 14 (22, .aload_n 0, 1, 15, 0, [0], []) rfl rfl rfl ?_
  refine bGo hA 0 15 (23, .dup, 1, 16, 0, [], []) rfl rfl rfl ?_
  refine bGo hA 1 0 (24, .getfield 67, 3, 17, 0, [8, 14, 0, 0, 0, 0], []) rfl rfl rfl ?_
  refine ⟨h_a0, ?_⟩
  refine bGo hA 1 1 (27, .iconst (1), 1, 18, 0, [], [(1, 0)]) rfl rfl rfl ?_
  refine bGo hA 1 2 (28, .iadd, 1, 19, 0, [], []) rfl rfl rfl ?_
  refine bGo hA 1 3 (29, .putfield 67, 3, 20, 0, [8, 14, 0, 0, 0, 0], []) rfl rfl rfl ?_
  refine ⟨h_a0, ?_⟩
  refine bGo hA 1 4 (32, .aload_n 0, 1, 21, 0, [0], []) rfl rfl rfl ?_
  refine bGo hA 1 5 (33, .getfield 67, 3, 22, 0, [8, 14, 0, 0, 0, 0], []) rfl rfl rfl ?_
  refine ⟨h_a0, ?_⟩
  refine bGo hA 1 6 (36, .ireturn, 1, 0, 0, [1], []) rfl rfl rfl ?_
  exact k2

theorem sg114_0 {lvl : Nat} {C : bCall} {Q : bPost} {A : bPt → Prop} (hC : bMono C) (hA : bClosed lvl bm114 C Q A) {a0 : Nat} {x1 : Int32} {x2 : Int32} {σ : bSt} (h_a0 : a0 % 256 = 8)
  (h : ((x1 = (-1) → ((x1 = (-1) → Q (.inl none) (bI (bI σ a0 6 255) a0 7 0)) ∧ (¬ x1 = (-1) → (C 130 [.int 0, .int x1, .int x2] (bI σ a0 6 255) (bRi (fun r5 s3 => Q (.inl none) (bI s3 a0 7 r5))))))) ∧ (¬ x1 = (-1) → (C 130 [.int 255, .int x1, .int 0] σ (bRi (fun r8 s6 => ((x1 = (-1) → Q (.inl none) (bI (bI s6 a0 6 r8) a0 7 0)) ∧ (¬ x1 = (-1) → (C 130 [.int 0, .int x1, .int x2] (bI s6 a0 6 r8) (bRi (fun r12 s10 => Q (.inl none) (bI s10 a0 7 r12)))))))))))) : A (0, [.ref a0, .int x1, .int x2], [], σ) := by
  refine bGo hA 0 0 (0, .aload_n 0, 1, 1, 0, [0], []) rfl rfl rfl ?_
  refine bGo hA 0 1 (1, .iload_n 1, 1, 2, 0, [1], []) rfl rfl rfl ?_
  refine bGo hA 0 2 (2, .iconst (-1), 1, 3, 0, [], [(-1, 0)]) rfl rfl rfl ?_
  refine bGo hA 0 3 (3, .if_icmp .ne (9), 3, 4, 6, [], []) rfl rfl rfl ?_
  refine ⟨fun c1 => ?_, fun c1 => ?_⟩
  · refine bGo hA 0 4 (6, .sipush (255), 3, 5, 0, [], [(255, 0)]) rfl rfl rfl ?_
    refine bGo hA 0 5 (9, .goto (11), 3, 6, 10, [], []) rfl rfl rfl ?_
    refine bGo hA 0 10 (20, .putfield 21, 3, 11, 0, [8, 6, 0, 0, 0, 0], []) rfl rfl rfl ?_
    refine ⟨h_a0, ?_⟩
    refine bGo hA 0 11 (23, .aload_n 0, 1, 12, 0, [0], []) rfl rfl rfl ?_
    refine bGo hA 0 12 (24, .iload_n 1, 1, 13, 0, [1], []) rfl rfl rfl ?_
    refine bGo hA 0 13 (25, .iconst (-1), 1, 14, 0, [], [(-1, 0)]) rfl rfl rfl ?_
    refine bGo hA 0 14 (26, .if_icmp .ne (7), 3, 15, 17, [], []) rfl rfl rfl ?_
    refine ⟨fun c2 => ?_, fun c2 => ?_⟩
    · refine bGo hA 0 15 (29, .iconst (0), 1, 16, 0, [], [(0, 0)]) rfl rfl rfl ?_
      refine bGo hA 1 0 (30, .goto (9), 3, 17, 21, [], []) rfl rfl rfl ?_
      refine bGo hA 1 5 (39, .putfield 76, 3, 22, 0, [8, 7, 0, 0, 0, 0], []) rfl rfl rfl ?_
      refine ⟨h_a0, ?_⟩
      refine bGo hA 1 6 (42, .return_, 1, 0, 0, [0], []) rfl rfl rfl ?_
      exact ((h.1 c1).1 c2)
    · refine bGo hA 1 1 (33, .iconst (0), 1, 18, 0, [], [(0, 0)]) rfl rfl rfl ?_
      refine bGo hA 1 2 (34, .iload_n 1, 1, 19, 0, [1], []) rfl rfl rfl ?_
      refine bGo hA 1 3 (35, .iload_n 2, 1, 20, 0, [2], []) rfl rfl rfl ?_
      refine bGo hA 1 4 (36, .invokestatic 70, 3, 21, 0, [2, 130, 3], []) rfl rfl rfl ?_
      refine hC _ _ _ _ _ (bRi_e (fun r5 s3 k4 => ?_)) ((h.1 c1).2 c2)
      show A (21, [.ref a0, .int x1, .int x2], [.int r5, .ref a0], s3)
      refine bGo hA 1 5 (39, .putfield 76, 3, 22, 0, [8, 7, 0, 0, 0, 0], []) rfl rfl rfl ?_
      refine ⟨h_a0, ?_⟩
      refine bGo hA 1 6 (42, .return_, 1, 0, 0, [0], []) rfl rfl rfl ?_
      exact k4
  · refine bGo hA 0 6 (12, .sipush (255), 3, 7, 0, [], [(255, 0)]) rfl rfl rfl ?_
    refine bGo hA 0 7 (15, .iload_n 1, 1, 8, 0, [1], []) rfl rfl rfl ?_
    refine bGo hA 0 8 (16, .iconst (0), 1, 9, 0, [], [(0, 0)]) rfl rfl rfl ?_
    refine bGo hA 0 9 (17, .invokestatic 70, 3, 10, 0, [2, 130, 3], []) rfl rfl rfl ?_
    refine hC _ _ _ _ _ (bRi_e (fun r8 s6 k7 => ?_)) (h.2 c1)
    show A (10, [.ref a0, .int x1, .int x2], [.int r8, .ref a0], s6)
    refine bGo hA 0 10 (20, .putfield 21, 3, 11, 0, [8, 6, 0, 0, 0, 0], []) rfl rfl rfl ?_
    refine ⟨h_a0, ?_⟩
    refine bGo hA 0 11 (23, .aload_n 0, 1, 12, 0, [0], []) rfl rfl rfl ?_
    refine bGo hA 0 12 (24, .iload_n 1, 1, 13, 0, [1], []) rfl rfl rfl ?_
    refine bGo hA 0 13 (25, .iconst (-1), 1, 14, 0, [], [(-1, 0)]) rfl rfl rfl ?_
    refine bGo hA 0 14 (26, .if_icmp .ne (7), 3, 15, 17, [], []) rfl rfl rfl ?_
    refine ⟨fun c9 => ?_, fun c9 => ?_⟩
    · refine bGo hA 0 15 (29, .iconst (0), 1, 16, 0, [], [(0, 0)]) rfl rfl rfl ?_
      refine bGo hA 1 0 (30, .goto (9), 3, 17, 21, [], []) rfl rfl rfl ?_
      refine bGo hA 1 5 (39, .putfield 76, 3, 22, 0, [8, 7, 0, 0, 0, 0], []) rfl rfl rfl ?_
      refine ⟨h_a0, ?_⟩
      refine bGo hA 1 6 (42, .return_, 1, 0, 0, [0], []) rfl rfl rfl ?_
      exact (k7.1 c9)
    · refine bGo hA 1 1 (33, .iconst (0), 1, 18, 0, [], [(0, 0)]) rfl rfl rfl ?_
      refine bGo hA 1 2 (34, .iload_n 1, 1, 19, 0, [1], []) rfl rfl rfl ?_
      refine bGo hA 1 3 (35, .iload_n 2, 1, 20, 0, [2], []) rfl rfl rfl ?_
      refine bGo hA 1 4 (36, .invokestatic 70, 3, 21, 0, [2, 130, 3], []) rfl rfl rfl ?_
      refine hC _ _ _ _ _ (bRi_e (fun r12 s10 k11 => ?_)) (k7.2 c9)
      show A (21, [.ref a0, .int x1, .int x2], [.int r12, .ref a0], s10)
      refine bGo hA 1 5 (39, .putfield 76, 3, 22, 0, [8, 7, 0, 0, 0, 0], []) rfl rfl rfl ?_
      refine ⟨h_a0, ?_⟩
      refine bGo hA 1 6 (42, .return_, 1, 0, 0, [0], []) rfl rfl rfl ?_
      exact k11

theorem sg115_0 {lvl : Nat} {C : bCall} {Q : bPost} {A : bPt → Prop} (hC : bMono C) (hA : bClosed lvl bm115 C Q A) {a0 : Nat} {x1 : Int32} {x2 : Int32} {x3 : Int32} {σ : bSt} (h_a0 : a0 % 256 = 8)
  (h : ((x3 = 0 ∨ x3 = 1) ∧ Q (.inl none) (bI (bI (bI σ a0 8 x1) a0 9 x2) a0 10 x3))) : A (0, [.ref a0, .int x1, .int x2, .int x3], [], σ) := by
  refine bGo hA 0 0 (0, .aload_n 0, 1, 1, 0, [0], []) rfl rfl rfl ?_
  refine bGo hA 0 1 (1, .iload_n 1, 1, 2, 0, [1], []) rfl rfl rfl ?_
  refine bGo hA 0 2 (2, .putfield 79, 3, 3, 0, [8, 8, 0, 0, 0, 0], []) rfl rfl rfl ?_
  refine ⟨h_a0, ?_⟩
  refine bGo hA 0 3 (5, .aload_n 0, 1, 4, 0, [0], []) rfl rfl rfl ?_
  refine bGo hA 0 4 (6, .iload_n 2, 1, 5, 0, [2], []) rfl rfl rfl ?_
  refine bGo hA 0 5 (7, .putfield 24, 3, 6, 0, [8, 9, 0, 0, 0, 0], []) rfl rfl rfl ?_
  refine ⟨h_a0, ?_⟩
  refine bGo hA 0 6 (10, .aload_n 0, 1, 7, 0, [0], []) rfl rfl rfl ?_
  refine bGo hA 0 7 (11, .iload_n 3, 1, 8, 0, [3], []) rfl rfl rfl ?_
  refine bGo hA 0 8 (12, .putfield 82, 3, 9, 0, [8, 10, 1, 0, 0, 0], []) rfl rfl rfl ?_
  refine ⟨h_a0, h.1, ?_⟩
  refine bGo hA 0 9 (15, .return_, 1, 0, 0, [0], []) rfl rfl rfl ?_
  exact h.2

theorem sg116_0 {lvl : Nat} {C : bCall} {Q : bPost} {A : bPt → Prop} (hC : bMono C) (hA : bClosed lvl bm116 C Q A) {a0 : Nat} {x1 : Int32} {σ : bSt} (h_a0 : a0 % 256 = 8)
  (h : A (2, [.ref a0, .int x1, .int 0, .float 0, .float 0], [], σ)) : A (0, [.ref a0, .int x1, .float 0, .float 0, .float 0], [], σ) := by
  refine bGo hA 0 0 (0, .iconst (0), 1, 1, 0, [], [(0, 0)]) rfl rfl rfl ?_
  refine bGo hA 0 1 (1, .istore_n 2, 1, 2, 0, [2], []) rfl rfl rfl ?_
  exact h

theorem sg116_2 {lvl : Nat} {C : bCall} {Q : bPost} {A : bPt → Prop} (hC : bMono C) (hA : bClosed lvl bm116 C Q A) {l0 : Nat} {l1 : Int32} {l2 : Int32} {v3 : Value} {v4 : Value} {σ : bSt} 
  (h : (l0 % 256 = 8 ∧ ((l2 < (σ.1 l0 14) → (C 140 [.ref (256 * (1 * (l0 / 256) + 0) + 47), .int l2] σ (bRi (fun r4 s2 => (C 129 [.int l1, .int ((r4 / 1000) / 4)] s2 (bRi (fun r7 s5 => ((r7 = ((r4 / 1000) - (r4 / 1000) / 4 * 4) → Q (.inl (some (.int (r4 - r4 / 1000 * 1000)))) s5) ∧ (¬ r7 = ((r4 / 1000) - (r4 / 1000) / 4 * 4) → A (2, [.ref l0, .int l1, .int (l2 + 1), .int r4, .int ((r4 / 1000) - (r4 / 1000) / 4 * 4)], [], s5)))))))))) ∧ (¬ l2 < (σ.1 l0 14) → (((σ.1 l0 3) = (-1) → Q (.inl (some (.int (σ.1 l0 2)))) σ) ∧ (¬ (σ.1 l0 3) = (-1) → Q (.inl (some (.int (σ.1 l0 4)))) σ)))))) : A (2, [.ref l0, .int l1, .int l2, v3, v4], [], σ) := by
  refine bGo hA 0 2 (2, .iload_n 2, 1, 3, 0, [2], []) rfl rfl rfl ?_
  refine bGo hA 0 3 (3, .aload_n 0, 1, 4, 0, [0], []) rfl rfl rfl ?_
  refine bGo hA 0 4 (4, .getfield 67, 3, 5, 0, [8, 14, 0, 0, 0, 0], []) rfl rfl rfl ?_
  refine ⟨h.1, ?_⟩
  refine bGo hA 0 5 (7, .if_icmp .ge (49), 3, 6, 32, [], []) rfl rfl rfl ?_
  refine ⟨fun c1 => ?_, fun c1 => ?_⟩
  · refine bGo hA 0 6 (10, .aload_n 0, 1, 7, 0, [0], []) rfl rfl rfl ?_
    refine bGo hA 0 7 (11, .getfield 31, 3, 8, 0, [8, 16, 3, 47, 1, 0], []) rfl rfl rfl ?_
    refine ⟨h.1, ?_⟩
    refine bGo hA 0 8 (14, .iload_n 2, 1, 9, 0, [2], []) rfl rfl rfl ?_
    refine bGo hA 0 9 (15, .invokestatic 63, 3, 10, 1, [2, 140, 2], []) rfl rfl rfl ?_
    refine hC _ _ _ _ _ (bRi_e (fun r4 s2 k3 => ?_)) (h.2.1 c1)
    show A (10, [.ref l0, .int l1, .int l2, v3, v4], [.int r4], s2)
    refine bGo hA 0 10 (18, .istore_n 3, 1, 11, 0, [3], []) rfl rfl rfl ?_
    refine bGo hA 0 11 (19, .iload_n 3, 1, 12, 0, [3], []) rfl rfl rfl ?_
    refine bGo hA 0 12 (20, .sipush (1000), 3, 13, 0, [], [(1000, 0)]) rfl rfl rfl ?_
    refine bGo hA 0 13 (23, .idiv, 1, 14, 0, [], []) rfl rfl rfl ?_
    refine ⟨by decide, ?_⟩
    refine bGo hA 0 14 (24, .iconst (4), 1, 15, 0, [], [(4, 0)]) rfl rfl rfl ?_
    refine bGo hA 0 15 (25, .irem, 1, 16, 0, [], []) rfl rfl rfl ?_
    refine ⟨by decide, ?_⟩
    refine bGo hA 1 0 (26, .istore 4, 2, 17, 0, [4], []) rfl rfl rfl ?_
    refine bGo hA 1 1 (28, .iload_n 1, 1, 18, 0, [1], []) rfl rfl rfl ?_
    refine bGo hA 1 2 (29, .iload_n 3, 1, 19, 0, [3], []) rfl rfl rfl ?_
    refine bGo hA 1 3 (30, .sipush (1000), 3, 20, 0, [], [(1000, 0)]) rfl rfl rfl ?_
    refine bGo hA 1 4 (33, .idiv, 1, 21, 0, [], []) rfl rfl rfl ?_
    refine ⟨by decide, ?_⟩
    refine bGo hA 1 5 (34, .iconst (4), 1, 22, 0, [], [(4, 0)]) rfl rfl rfl ?_
    refine bGo hA 1 6 (35, .idiv, 1, 23, 0, [], []) rfl rfl rfl ?_
    refine ⟨by decide, ?_⟩
    refine bGo hA 1 7 (36, .invokestatic 86, 3, 24, 0, [2, 129, 2], []) rfl rfl rfl ?_
    refine hC _ _ _ _ _ (bRi_e (fun r7 s5 k6 => ?_)) k3
    show A (24, [.ref l0, .int l1, .int l2, .int r4, .int ((r4 / 1000) - (r4 / 1000) / 4 * 4)], [.int r7], s5)
    refine bGo hA 1 8 (39, .iload 4, 2, 25, 0, [4], []) rfl rfl rfl ?_
    refine bGo hA 1 9 (41, .if_icmp .ne (9), 3, 26, 30, [], []) rfl rfl rfl ?_
    refine ⟨fun c8 => ?_, fun c8 => ?_⟩
    · refine bGo hA 1 10 (44, .iload_n 3, 1, 27, 0, [3], []) rfl rfl rfl ?_
      refine bGo hA 1 11 (45, .sipush (1000), 3, 28, 0, [], [(1000, 0)]) rfl rfl rfl ?_
      refine bGo hA 1 12 (48, .irem, 1, 29, 0, [], []) rfl rfl rfl ?_
      refine ⟨by decide, ?_⟩
      refine bGo hA 1 13 (49, .ireturn, 1, 30, 0, [1], []) rfl rfl rfl ?_
      exact (k6.1 c8)
    · refine bGo hA 1 14 (50, .iinc 2 (1), 3, 31, 0, [2], [(1, 0)]) rfl rfl rfl ?_
      refine bGo hA 1 15 (53, .goto (-51), 3, 32, 2, [], []) rfl rfl rfl ?_
      exact (k6.2 c8)
  · refine bGo hA 2 0 (56, .aload_n 0, 1, 33, 0, [0], []) rfl rfl rfl ?_
    refine bGo hA 2 1 (57, .getfield 9, 3, 34, 0, [8, 3, 0, 0, 0, 0], []) rfl rfl rfl ?_
    refine ⟨h.1, ?_⟩
    refine bGo hA 2 2 (60, .iconst (-1), 1, 35, 0, [], [(-1, 0)]) rfl rfl rfl ?_
    refine bGo hA 2 3 (61, .if_icmp .ne (10), 3, 36, 39, [], []) rfl rfl rfl ?_
    refine ⟨fun c9 => ?_, fun c9 => ?_⟩
    · refine bGo hA 2 4 (64, .aload_n 0, 1, 37, 0, [0], []) rfl rfl rfl ?_
      refine bGo hA 2 5 (65, .getfield 47, 3, 38, 0, [8, 2, 0, 0, 0, 0], []) rfl rfl rfl ?_
      refine ⟨h.1, ?_⟩
      refine bGo hA 2 6 (68, .goto (7), 3, 39, 41, [], []) rfl rfl rfl ?_
      refine bGo hA 2 9 (75, .ireturn, 1, 0, 0, [1], []) rfl rfl rfl ?_
      exact ((h.2.2 c1).1 c9)
    · refine bGo hA 2 7 (71, .aload_n 0, 1, 40, 0, [0], []) rfl rfl rfl ?_
      refine bGo hA 2 8 (72, .getfield 15, 3, 41, 0, [8, 4, 0, 0, 0, 0], []) rfl rfl rfl ?_
      refine ⟨h.1, ?_⟩
      refine bGo hA 2 9 (75, .ireturn, 1, 0, 0, [1], []) rfl rfl rfl ?_
      exact ((h.2.2 c1).2 c9)

theorem sg117_0 {lvl : Nat} {C : bCall} {Q : bPost} {A : bPt → Prop} (hC : bMono C) (hA : bClosed lvl bm117 C Q A) {a0 : Nat} {x1 : Int32} {σ : bSt} (h_a0 : a0 % 256 = 8)
  (h : Q (.inl (some (.int ((x1 &&& (σ.1 a0 6)) ||| (σ.1 a0 7))))) σ) : A (0, [.ref a0, .int x1], [], σ) := by
  refine bGo hA 0 0 (0, .iload_n 1, 1, 1, 0, [1], []) rfl rfl rfl ?_
  refine bGo hA 0 1 (1, .aload_n 0, 1, 2, 0, [0], []) rfl rfl rfl ?_
  refine bGo hA 0 2 (2, .getfield 21, 3, 3, 0, [8, 6, 0, 0, 0, 0], []) rfl rfl rfl ?_
  refine ⟨h_a0, ?_⟩
  refine bGo hA 0 3 (5, .iand, 1, 4, 0, [], []) rfl rfl rfl ?_
  refine bGo hA 0 4 (6, .aload_n 0, 1, 5, 0, [0], []) rfl rfl rfl ?_
  refine bGo hA 0 5 (7, .getfield 76, 3, 6, 0, [8, 7, 0, 0, 0, 0], []) rfl rfl rfl ?_
  refine ⟨h_a0, ?_⟩
  refine bGo hA 0 6 (10, .ior, 1, 7, 0, [], []) rfl rfl rfl ?_
  refine bGo hA 0 7 (11, .ireturn, 1, 0, 0, [1], []) rfl rfl rfl ?_
  exact h

theorem sg118_0 {lvl : Nat} {C : bCall} {Q : bPost} {A : bPt → Prop} (hC : bMono C) (hA : bClosed lvl bm118 C Q A) {a0 : Nat} {x1 : Int32} {σ : bSt} (h_a0 : a0 % 256 = 8)
  (h : (((x1 >>> (6 &&& 31)) < 0 → Q (.inl (some (.int 0))) σ) ∧ (¬ (x1 >>> (6 &&& 31)) < 0 → (¬ bTy (256 * (1 * (a0 / 256) + 0) + 49) = 9 ∧ (((x1 >>> (6 &&& 31)) < (Int32.ofNat (bLen σ (256 * (1 * (a0 / 256) + 0) + 49))) → (bTy (256 * (1 * (a0 / 256) + 0) + 49) = 2 ∧ (vp_in (x1 >>> (6 &&& 31)) (bLen σ (256 * (1 * (a0 / 256) + 0) + 49)) ∧ (((lg_cmp (((σ.2.1 (256 * (1 * (a0 / 256) + 0) + 49) ((x1 >>> (6 &&& 31))).toNatClampNeg) >>> (Int32.toInt64 x1 &&& 63)) &&& (Int64.ofNat 1)) (Int64.ofNat 0)) = 0 → (vp_in (x1 >>> (6 &&& 31)) (bLen σ (256 * (1 * (a0 / 256) + 0) + 49)) ∧ (vp_in (x1 >>> (6 &&& 31)) (bLen σ (256 * (1 * (a0 / 256) + 0) + 49)) ∧ ((256 * (1 * (a0 / 256) + 0) + 49) % 256 < 200 ∧ Q (.inl (some (.int 1))) (bJ σ (256 * (1 * (a0 / 256) + 0) + 49) ((x1 >>> (6 &&& 31))).toNatClampNeg ((σ.2.1 (256 * (1 * (a0 / 256) + 0) + 49) ((x1 >>> (6 &&& 31))).toNatClampNeg) ||| ((Int64.ofNat 1) <<< (Int32.toInt64 x1 &&& 63)))))))) ∧ (¬ (lg_cmp (((σ.2.1 (256 * (1 * (a0 / 256) + 0) + 49) ((x1 >>> (6 &&& 31))).toNatClampNeg) >>> (Int32.toInt64 x1 &&& 63)) &&& (Int64.ofNat 1)) (Int64.ofNat 0)) = 0 → (vp_in (x1 >>> (6 &&& 31)) (bLen σ (256 * (1 * (a0 / 256) + 0) + 49)) ∧ (vp_in (x1 >>> (6 &&& 31)) (bLen σ (256 * (1 * (a0 / 256) + 0) + 49)) ∧ ((256 * (1 * (a0 / 256) + 0) + 49) % 256 < 200 ∧ Q (.inl (some (.int 0))) (bJ σ (256 * (1 * (a0 / 256) + 0) + 49) ((x1 >>> (6 &&& 31))).toNatClampNeg ((σ.2.1 (256 * (1 * (a0 / 256) + 0) + 49) ((x1 >>> (6 &&& 31))).toNatClampNeg) ||| ((Int64.ofNat 1) <<< (Int32.toInt64 x1 &&& 63)))))))))))) ∧ (¬ (x1 >>> (6 &&& 31)) < (Int32.ofNat (bLen σ (256 * (1 * (a0 / 256) + 0) + 49))) → Q (.inl (some (.int 0))) σ)))))) : A (0, [.ref a0, .int x1, .float 0, .float 0], [], σ) := by
  refine bGo hA 0 0 (0, .iload_n 1, 1, 1, 0, [1], []) rfl rfl rfl ?_
  refine bGo hA 0 1 (1, .bipush (6), 2, 2, 0, [], [(6, 0)]) rfl rfl rfl ?_
  refine bGo hA 0 2 (3, .ishr, 1, 3, 0, [], []) rfl rfl rfl ?_
  refine bGo hA 0 3 (4, .istore_n 2, 1, 4, 0, [2], []) rfl rfl rfl ?_
  refine bGo hA 0 4 (5, .iload_n 2, 1, 5, 0, [2], []) rfl rfl rfl ?_
  refine bGo hA 0 5 (6, .ifCond .lt (12), 3, 6, 11, [], []) rfl rfl rfl ?_
  refine ⟨fun c1 => ?_, fun c1 => ?_⟩
  · refine bGo hA 0 11 (18, .iconst (0), 1, 12, 0, [], [(0, 0)]) rfl rfl rfl ?_
    refine bGo hA 0 12 (19, .ireturn, 1, 13, 0, [2], []) rfl rfl rfl ?_
    exact ⟨Or.inl rfl, (h.1 c1)⟩
  · refine bGo hA 0 6 (9, .iload_n 2, 1, 7, 0, [2], []) rfl rfl rfl ?_
    refine bGo hA 0 7 (10, .aload_n 0, 1, 8, 0, [0], []) rfl rfl rfl ?_
    refine bGo hA 0 8 (11, .getfield 37, 3, 9, 0, [8, 18, 3, 49, 1, 0], []) rfl rfl rfl ?_
    refine ⟨h_a0, ?_⟩
    refine bGo hA 0 9 (14, .arraylength, 1, 10, 0, [], []) rfl rfl rfl ?_
    refine ⟨(h.2 c1).1, ?_⟩
    refine bGo hA 0 10 (15, .if_icmp .lt (5), 3, 11, 13, [], []) rfl rfl rfl ?_
    refine ⟨fun c2 => ?_, fun c2 => ?_⟩
    · refine bGo hA 0 13 (20, .aload_n 0, 1, 14, 0, [0], []) rfl rfl rfl ?_
      refine bGo hA 0 14 (21, .getfield 37, 3, 15, 0, [8, 18, 3, 49, 1, 0], []) rfl rfl rfl ?_
      refine ⟨h_a0, ?_⟩
      refine bGo hA 0 15 (24, .iload_n 2, 1, 16, 0, [2], []) rfl rfl rfl ?_
      refine bGo hA 1 0 (25, .laload, 1, 17, 0, [], []) rfl rfl rfl ?_
      refine ⟨((h.2 c1).2.1 c2).1, ((h.2 c1).2.1 c2).2.1, ?_⟩
      refine bGo hA 1 1 (26, .iload_n 1, 1, 18, 0, [1], []) rfl rfl rfl ?_
      refine bGo hA 1 2 (27, .lshr, 1, 19, 0, [], []) rfl rfl rfl ?_
      refine bGo hA 1 3 (28, .lconst 1, 1, 20, 0, [1], []) rfl rfl rfl ?_
      refine bGo hA 1 4 (29, .land, 1, 21, 0, [], []) rfl rfl rfl ?_
      refine bGo hA 1 5 (30, .lconst 0, 1, 22, 0, [0], []) rfl rfl rfl ?_
      refine bGo hA 1 6 (31, .lcmp, 1, 23, 0, [], []) rfl rfl rfl ?_
      refine bGo hA 1 7 (32, .ifCond .ne (7), 3, 24, 26, [], []) rfl rfl rfl ?_
      refine ⟨fun c3 => ?_, fun c3 => ?_⟩
      · refine bGo hA 1 8 (35, .iconst (1), 1, 25, 0, [], [(1, 0)]) rfl rfl rfl ?_
        refine bGo hA 1 9 (36, .goto (4), 3, 26, 27, [], []) rfl rfl rfl ?_
        refine bGo hA 1 11 (40, .istore_n 3, 1, 28, 0, [3], []) rfl rfl rfl ?_
        refine bGo hA 1 12 (41, .aload_n 0, 1, 29, 0, [0], []) rfl rfl rfl ?_
        refine bGo hA 1 13 (42, .getfield 37, 3, 30, 0, [8, 18, 3, 49, 1, 0], []) rfl rfl rfl ?_
        refine ⟨h_a0, ?_⟩
        refine bGo hA 1 14 (45, .iload_n 2, 1, 31, 0, [2], []) rfl rfl rfl ?_
        refine bGo hA 1 15 (46, .dup2, 1, 32, 0, [], []) rfl rfl rfl ?_
        refine bGo hA 2 0 (47, .laload, 1, 33, 0, [], []) rfl rfl rfl ?_
        refine ⟨((h.2 c1).2.1 c2).1, (((h.2 c1).2.1 c2).2.2.1 c3).1, ?_⟩
        refine bGo hA 2 1 (48, .lconst 1, 1, 34, 0, [1], []) rfl rfl rfl ?_
        refine bGo hA 2 2 (49, .iload_n 1, 1, 35, 0, [1], []) rfl rfl rfl ?_
        refine bGo hA 2 3 (50, .lshl, 1, 36, 0, [], []) rfl rfl rfl ?_
        refine bGo hA 2 4 (51, .lor, 1, 37, 0, [], []) rfl rfl rfl ?_
        refine bGo hA 2 5 (52, .lastore, 1, 38, 0, [], []) rfl rfl rfl ?_
        refine ⟨((h.2 c1).2.1 c2).1, (((h.2 c1).2.1 c2).2.2.1 c3).2.1, (((h.2 c1).2.1 c2).2.2.1 c3).2.2.1, ?_⟩
        refine bGo hA 2 6 (53, .iload_n 3, 1, 39, 0, [3], []) rfl rfl rfl ?_
        refine bGo hA 2 7 (54, .ireturn, 1, 0, 0, [2], []) rfl rfl rfl ?_
        exact ⟨Or.inr rfl, (((h.2 c1).2.1 c2).2.2.1 c3).2.2.2⟩
      · refine bGo hA 1 10 (39, .iconst (0), 1, 27, 0, [], [(0, 0)]) rfl rfl rfl ?_
        refine bGo hA 1 11 (40, .istore_n 3, 1, 28, 0, [3], []) rfl rfl rfl ?_
        refine bGo hA 1 12 (41, .aload_n 0, 1, 29, 0, [0], []) rfl rfl rfl ?_
        refine bGo hA 1 13 (42, .getfield 37, 3, 30, 0, [8, 18, 3, 49, 1, 0], []) rfl rfl rfl ?_
        refine ⟨h_a0, ?_⟩
        refine bGo hA 1 14 (45, .iload_n 2, 1, 31, 0, [2], []) rfl rfl rfl ?_
        refine bGo hA 1 15 (46, .dup2, 1, 32, 0, [], []) rfl rfl rfl ?_
        refine bGo hA 2 0 (47, .laload, 1, 33, 0, [], []) rfl rfl rfl ?_
        refine ⟨((h.2 c1).2.1 c2).1, (((h.2 c1).2.1 c2).2.2.2 c3).1, ?_⟩
        refine bGo hA 2 1 (48, .lconst 1, 1, 34, 0, [1], []) rfl rfl rfl ?_
        refine bGo hA 2 2 (49, .iload_n 1, 1, 35, 0, [1], []) rfl rfl rfl ?_
        refine bGo hA 2 3 (50, .lshl, 1, 36, 0, [], []) rfl rfl rfl ?_
        refine bGo hA 2 4 (51, .lor, 1, 37, 0, [], []) rfl rfl rfl ?_
        refine bGo hA 2 5 (52, .lastore, 1, 38, 0, [], []) rfl rfl rfl ?_
        refine ⟨((h.2 c1).2.1 c2).1, (((h.2 c1).2.1 c2).2.2.2 c3).2.1, (((h.2 c1).2.1 c2).2.2.2 c3).2.2.1, ?_⟩
        refine bGo hA 2 6 (53, .iload_n 3, 1, 39, 0, [3], []) rfl rfl rfl ?_
        refine bGo hA 2 7 (54, .ireturn, 1, 0, 0, [2], []) rfl rfl rfl ?_
        exact ⟨Or.inl rfl, (((h.2 c1).2.1 c2).2.2.2 c3).2.2.2⟩
    · refine bGo hA 0 11 (18, .iconst (0), 1, 12, 0, [], [(0, 0)]) rfl rfl rfl ?_
      refine bGo hA 0 12 (19, .ireturn, 1, 13, 0, [2], []) rfl rfl rfl ?_
      exact ⟨Or.inl rfl, ((h.2 c1).2.2 c2)⟩

theorem sg119_0 {lvl : Nat} {C : bCall} {Q : bPost} {A : bPt → Prop} (hC : bMono C) (hA : bClosed lvl bm119 C Q A)  {σ : bSt} 
  (h : (σ.2.2.2.1 50 = 0 ∧ ((bR (bNew σ 50 2 16) 9 1 (some 50)).2.2.2.1 8 = 0 ∧ (C 109 [.retAddr 8, .int 0, .int 0, .int 0] (bNew (bR (bNew σ 50 2 16) 9 1 (some 50)) 8 1 19) (bRv (fun s1 => ((bR s1 9 2 (some 8)).2.2.2.1 51 = 0 ∧ (bAll (bR (bNew (bR s1 9 2 (some 8)) 51 2 16) 9 3 (some 51)) 9 [1, 2, 3] ∧ Q (.inl none) (bA (bR (bNew (bR s1 9 2 (some 8)) 51 2 16) 9 3 (some 51)) 9 2))))))))) : A (0, [.retAddr 9], [], σ) := by
  refine bGo hA 0 0 (0, .aload_n 0, 1, 1, 0, [0], []) rfl rfl rfl ?_
  refine bGo hA 0 1 (1, .invokespecial 3, 3, 2, 0, [6, 0, 0], []) rfl rfl rfl ?_
  refine bGo hA 0 2 (4, .aload_n 0, 1, 3, 0, [0], []) rfl rfl rfl ?_
  refine bGo hA 0 3 (5, .bipush (16), 2, 4, 0, [], [(16, 0)]) rfl rfl rfl ?_
  refine bGo hA 0 4 (7, .anewarray 9, 3, 5, 0, [50], []) rfl rfl rfl ?_
  refine ⟨h.1, rfl, by decide, ?_⟩
  refine bGo hA 0 5 (10, .putfield 11, 3, 6, 0, [9, 1, 3, 50, 1, 0], []) rfl rfl rfl ?_
  refine ⟨rfl, rfl, ?_⟩
  refine bGo hA 0 6 (13, .aload_n 0, 1, 7, 0, [0], []) rfl rfl rfl ?_
  refine bGo hA 0 7 (14, .new 9, 3, 8, 0, [0, 8, 19, 0, 0], []) rfl rfl rfl ?_
  refine ⟨h.2.1, ?_⟩
  refine bGo hA 0 8 (17, .dup, 1, 9, 0, [], []) rfl rfl rfl ?_
  refine bGo hA 0 9 (18, .iconst (0), 1, 10, 0, [], [(0, 0)]) rfl rfl rfl ?_
  refine bGo hA 0 10 (19, .iconst (0), 1, 11, 0, [], [(0, 0)]) rfl rfl rfl ?_
  refine bGo hA 0 11 (20, .iconst (0), 1, 12, 0, [], [(0, 0)]) rfl rfl rfl ?_
  refine bGo hA 0 12 (21, .invokespecial 17, 3, 13, 0, [4, 8, 109, 3], []) rfl rfl rfl ?_
  refine ⟨rfl, rfl, ?_⟩
  refine hC _ _ _ _ _ (bRv_e (fun s1 k2 => ?_)) h.2.2
  show A (13, [.retAddr 9], [.ref 8, .retAddr 9], s1)
  refine bGo hA 0 13 (24, .putfield 20, 3, 14, 0, [9, 2, 3, 8, 0, 0], []) rfl rfl rfl ?_
  refine ⟨rfl, rfl, ?_⟩
  refine bGo hA 0 14 (27, .aload_n 0, 1, 15, 0, [0], []) rfl rfl rfl ?_
  refine bGo hA 0 15 (28, .bipush (16), 2, 16, 0, [], [(16, 0)]) rfl rfl rfl ?_
  refine bGo hA 1 0 (30, .newarray .int, 2, 17, 0, [51], []) rfl rfl rfl ?_
  refine ⟨k2.1, rfl, by decide, ?_⟩
  refine bGo hA 1 1 (32, .putfield 24, 3, 18, 0, [9, 3, 3, 51, 1, 0], []) rfl rfl rfl ?_
  refine ⟨rfl, rfl, ?_⟩
  refine bGo hA 1 2 (35, .return_, 1, 0, 0, [5, 1, 2, 3], []) rfl rfl rfl ?_
  exact k2.2

theorem sg120_0 {lvl : Nat} {C : bCall} {Q : bPost} {A : bPt → Prop} (hC : bMono C) (hA : bClosed lvl bm120 C Q A) {x1 : Int32} {σ : bSt} 
  (h : ((x1 < 0 → Q (.inl (some (.ref 8))) σ) ∧ (¬ x1 < 0 → ((x1 < 16 → (vp_in x1 16 ∧ ((σ.2.2.1 50 ((x1).toNatClampNeg) = none → Q (.inl (some (.ref 8))) σ) ∧ (∀ z3 : Nat, σ.2.2.1 50 ((x1).toNatClampNeg) = some z3 → Q (.inl (some (.ref z3))) σ)))) ∧ (¬ x1 < 16 → Q (.inl (some (.ref 8))) σ))))) : A (0, [.ref 9, .int x1, .float 0], [], σ) := by
  refine bGo hA 0 0 (0, .iload_n 1, 1, 1, 0, [1], []) rfl rfl rfl ?_
  refine bGo hA 0 1 (1, .ifCond .lt (21), 3, 2, 12, [], []) rfl rfl rfl ?_
  refine ⟨fun c1 => ?_, fun c1 => ?_⟩
  · refine bGo hA 0 12 (22, .aconst_null, 1, 13, 0, [], []) rfl rfl rfl ?_
    refine bGo hA 0 13 (23, .astore_n 2, 1, 14, 0, [2], []) rfl rfl rfl ?_
    refine bGo hA 0 14 (24, .aload_n 2, 1, 15, 0, [2], []) rfl rfl rfl ?_
    refine bGo hA 0 15 (25, .ifnonnull (10), 3, 16, 19, [], []) rfl rfl rfl ?_
    refine bGo hA 1 0 (28, .aload_n 0, 1, 17, 0, [0], []) rfl rfl rfl ?_
    refine bGo hA 1 1 (29, .getfield 20, 3, 18, 0, [9, 2, 3, 8, 0, 0], []) rfl rfl rfl ?_
    refine ⟨rfl, ?_⟩
    refine bGo hA 1 2 (32, .goto (4), 3, 19, 20, [], []) rfl rfl rfl ?_
    refine bGo hA 1 4 (36, .areturn, 1, 0, 0, [4], []) rfl rfl rfl ?_
    exact (h.1 c1)
  · refine bGo hA 0 2 (4, .iload_n 1, 1, 3, 0, [1], []) rfl rfl rfl ?_
    refine bGo hA 0 3 (5, .aload_n 0, 1, 4, 0, [0], []) rfl rfl rfl ?_
    refine bGo hA 0 4 (6, .getfield 11, 3, 5, 0, [9, 1, 3, 50, 1, 0], []) rfl rfl rfl ?_
    refine ⟨rfl, ?_⟩
    refine bGo hA 0 5 (9, .arraylength, 1, 6, 0, [], []) rfl rfl rfl ?_
    refine ⟨by decide, ?_⟩
    refine bGo hA 0 6 (10, .if_icmp .ge (12), 3, 7, 12, [], []) rfl rfl rfl ?_
    refine ⟨fun c2 => ?_, fun c2 => ?_⟩
    · refine bGo hA 0 7 (13, .aload_n 0, 1, 8, 0, [0], []) rfl rfl rfl ?_
      refine bGo hA 0 8 (14, .getfield 11, 3, 9, 0, [9, 1, 3, 50, 1, 0], []) rfl rfl rfl ?_
      refine ⟨rfl, ?_⟩
      refine bGo hA 0 9 (17, .iload_n 1, 1, 10, 0, [1], []) rfl rfl rfl ?_
      refine bGo hA 0 10 (18, .aaload, 1, 11, 0, [18, 8], []) rfl rfl rfl ?_
      refine ⟨rfl, ((h.2 c1).1 c2).1, ?_⟩
      refine bOptC (P := fun v => A (11, [.ref 9, .int x1, .float 0], v :: [], σ)) (σ.2.2.1 50 ((x1).toNatClampNeg)) (fun c4 => ?_) (fun z3 c4 => ?_)
      · refine bGo hA 0 11 (19, .goto (4), 3, 12, 13, [], []) rfl rfl rfl ?_
        refine bGo hA 0 13 (23, .astore_n 2, 1, 14, 0, [2], []) rfl rfl rfl ?_
        refine bGo hA 0 14 (24, .aload_n 2, 1, 15, 0, [2], []) rfl rfl rfl ?_
        refine bGo hA 0 15 (25, .ifnonnull (10), 3, 16, 19, [], []) rfl rfl rfl ?_
        refine bGo hA 1 0 (28, .aload_n 0, 1, 17, 0, [0], []) rfl rfl rfl ?_
        refine bGo hA 1 1 (29, .getfield 20, 3, 18, 0, [9, 2, 3, 8, 0, 0], []) rfl rfl rfl ?_
        refine ⟨rfl, ?_⟩
        refine bGo hA 1 2 (32, .goto (4), 3, 19, 20, [], []) rfl rfl rfl ?_
        refine bGo hA 1 4 (36, .areturn, 1, 0, 0, [4], []) rfl rfl rfl ?_
        exact (((h.2 c1).1 c2).2.1 c4)
      · refine bGo hA 0 11 (19, .goto (4), 3, 12, 13, [], []) rfl rfl rfl ?_
        refine bGo hA 0 13 (23, .astore_n 2, 1, 14, 0, [2], []) rfl rfl rfl ?_
        refine bGo hA 0 14 (24, .aload_n 2, 1, 15, 0, [2], []) rfl rfl rfl ?_
        refine bGo hA 0 15 (25, .ifnonnull (10), 3, 16, 19, [], []) rfl rfl rfl ?_
        refine bGo hA 1 3 (35, .aload_n 2, 1, 20, 0, [2], []) rfl rfl rfl ?_
        refine bGo hA 1 4 (36, .areturn, 1, 0, 0, [4], []) rfl rfl rfl ?_
        exact (((h.2 c1).1 c2).2.2 z3 c4)
    · refine bGo hA 0 12 (22, .aconst_null, 1, 13, 0, [], []) rfl rfl rfl ?_
      refine bGo hA 0 13 (23, .astore_n 2, 1, 14, 0, [2], []) rfl rfl rfl ?_
      refine bGo hA 0 14 (24, .aload_n 2, 1, 15, 0, [2], []) rfl rfl rfl ?_
      refine bGo hA 0 15 (25, .ifnonnull (10), 3, 16, 19, [], []) rfl rfl rfl ?_
      refine bGo hA 1 0 (28, .aload_n 0, 1, 17, 0, [0], []) rfl rfl rfl ?_
      refine bGo hA 1 1 (29, .getfield 20, 3, 18, 0, [9, 2, 3, 8, 0, 0], []) rfl rfl rfl ?_
      refine ⟨rfl, ?_⟩
      refine bGo hA 1 2 (32, .goto (4), 3, 19, 20, [], []) rfl rfl rfl ?_
      refine bGo hA 1 4 (36, .areturn, 1, 0, 0, [4], []) rfl rfl rfl ?_
      exact ((h.2 c1).2 c2)

theorem sg121_0 {lvl : Nat} {C : bCall} {Q : bPost} {A : bPt → Prop} (hC : bMono C) (hA : bClosed lvl bm121 C Q A) {x1 : Int32} {x2 : Int32} {x3 : Int32} {σ : bSt} 
  (h : (((σ.1 9 0) < 16 → (σ.2.2.2.1 (256 * ((σ.1 9 0).toInt.toNat + 1) + 8) = 0 ∧ ((256 * ((σ.1 9 0).toInt.toNat + 1) + 8) % 256 = 8 ∧ (C 109 [.retAddr (256 * ((σ.1 9 0).toInt.toNat + 1) + 8), .int x1, .int x2, .int x3] (bNew σ (256 * ((σ.1 9 0).toInt.toNat + 1) + 8) 1 19) (bRv (fun s2 => (vp_in (σ.1 9 0) 16 ∧ Q (.inl (some (.int (((bI (bR s2 50 ((σ.1 9 0)).toNatClampNeg (some (256 * ((σ.1 9 0).toInt.toNat + 1) + 8))) 9 0 (((bR s2 50 ((σ.1 9 0)).toNatClampNeg (some (256 * ((σ.1 9 0).toInt.toNat + 1) + 8))).1 9 0) + 1)).1 9 0) - 1)))) (bI (bR s2 50 ((σ.1 9 0)).toNatClampNeg (some (256 * ((σ.1 9 0).toInt.toNat + 1) + 8))) 9 0 (((bR s2 50 ((σ.1 9 0)).toNatClampNeg (some (256 * ((σ.1 9 0).toInt.toNat + 1) + 8))).1 9 0) + 1))))))))) ∧ (¬ (σ.1 9 0) < 16 → Q (.inl (some (.int ((σ.1 9 0) - 1)))) σ))) : A (0, [.ref 9, .int x1, .int x2, .int x3], [], σ) := by
  refine bGo hA 0 0 (0, .aload_n 0, 1, 1, 0, [0], []) rfl rfl rfl ?_
  refine bGo hA 0 1 (1, .getfield 28, 3, 2, 0, [9, 0, 0, 0, 0, 0], []) rfl rfl rfl ?_
  refine ⟨rfl, ?_⟩
  refine bGo hA 0 2 (4, .aload_n 0, 1, 3, 0, [0], []) rfl rfl rfl ?_
  refine bGo hA 0 3 (5, .getfield 11, 3, 4, 0, [9, 1, 3, 50, 1, 0], []) rfl rfl rfl ?_
  refine ⟨rfl, ?_⟩
  refine bGo hA 0 4 (8, .arraylength, 1, 5, 0, [], []) rfl rfl rfl ?_
  refine ⟨by decide, ?_⟩
  refine bGo hA 0 5 (9, .if_icmp .ge (32), 3, 6, 23, [], []) rfl rfl rfl ?_
  refine ⟨fun c1 => ?_, fun c1 => ?_⟩
  · refine bGo hA 0 6 (12, .aload_n 0, 1, 7, 0, [0], []) rfl rfl rfl ?_
    refine bGo hA 0 7 (13, .getfield 11, 3, 8, 0, [9, 1, 3, 50, 1, 0], []) rfl rfl rfl ?_
    refine ⟨rfl, ?_⟩
    refine bGo hA 0 8 (16, .aload_n 0, 1, 9, 0, [0], []) rfl rfl rfl ?_
    refine bGo hA 0 9 (17, .getfield 28, 3, 10, 0, [9, 0, 0, 0, 0, 0], []) rfl rfl rfl ?_
    refine ⟨rfl, ?_⟩
    refine bGo hA 0 10 (20, .new 9, 3, 11, 0, [2, 8, 19, 9, 0], []) rfl rfl rfl ?_
    refine ⟨(h.1 c1).1, ?_⟩
    refine bGo hA 0 11 (23, .dup, 1, 12, 0, [], []) rfl rfl rfl ?_
    refine bGo hA 0 12 (24, .iload_n 1, 1, 13, 0, [1], []) rfl rfl rfl ?_
    refine bGo hA 0 13 (25, .iload_n 2, 1, 14, 0, [2], []) rfl rfl rfl ?_
    refine bGo hA 0 14 (26, .iload_n 3, 1, 15, 0, [3], []) rfl rfl rfl ?_
    refine bGo hA 0 15 (27, .invokespecial 17, 3, 16, 0, [4, 8, 109, 3], []) rfl rfl rfl ?_
    refine ⟨(h.1 c1).2.1, rfl, ?_⟩
    refine hC _ _ _ _ _ (bRv_e (fun s2 k3 => ?_)) (h.1 c1).2.2
    show A (16, [.ref 9, .int x1, .int x2, .int x3], [.ref (256 * ((σ.1 9 0).toInt.toNat + 1) + 8), .int (σ.1 9 0), .ref 50], s2)
    refine bGo hA 1 0 (30, .aastore, 1, 17, 0, [18, 8], []) rfl rfl rfl ?_
    refine ⟨rfl, k3.1, by decide, (fun _ h => by cases h; exact (h.1 c1).2.1), ?_⟩
    refine bGo hA 1 1 (31, .aload_n 0, 1, 18, 0, [0], []) rfl rfl rfl ?_
    refine bGo hA 1 2 (32, .dup, 1, 19, 0, [], []) rfl rfl rfl ?_
    refine bGo hA 1 3 (33, .getfield 28, 3, 20, 0, [9, 0, 0, 0, 0, 0], []) rfl rfl rfl ?_
    refine ⟨rfl, ?_⟩
    refine bGo hA 1 4 (36, .iconst (1), 1, 21, 0, [], [(1, 0)]) rfl rfl rfl ?_
    refine bGo hA 1 5 (37, .iadd, 1, 22, 0, [], []) rfl rfl rfl ?_
    refine bGo hA 1 6 (38, .putfield 28, 3, 23, 0, [9, 0, 0, 0, 0, 0], []) rfl rfl rfl ?_
    refine ⟨rfl, ?_⟩
    refine bGo hA 1 7 (41, .aload_n 0, 1, 24, 0, [0], []) rfl rfl rfl ?_
    refine bGo hA 1 8 (42, .getfield 28, 3, 25, 0, [9, 0, 0, 0, 0, 0], []) rfl rfl rfl ?_
    refine ⟨rfl, ?_⟩
    refine bGo hA 1 9 (45, .iconst (1), 1, 26, 0, [], [(1, 0)]) rfl rfl rfl ?_
    refine bGo hA 1 10 (46, .isub, 1, 27, 0, [], []) rfl rfl rfl ?_
    refine bGo hA 1 11 (47, .ireturn, 1, 0, 0, [1], []) rfl rfl rfl ?_
    exact k3.2
  · refine bGo hA 1 7 (41, .aload_n 0, 1, 24, 0, [0], []) rfl rfl rfl ?_
    refine bGo hA 1 8 (42, .getfield 28, 3, 25, 0, [9, 0, 0, 0, 0, 0], []) rfl rfl rfl ?_
    refine ⟨rfl, ?_⟩
    refine bGo hA 1 9 (45, .iconst (1), 1, 26, 0, [], [(1, 0)]) rfl rfl rfl ?_
    refine bGo hA 1 10 (46, .isub, 1, 27, 0, [], []) rfl rfl rfl ?_
    refine bGo hA 1 11 (47, .ireturn, 1, 0, 0, [1], []) rfl rfl rfl ?_
    exact (h.2 c1)

theorem sg122_0 {lvl : Nat} {C : bCall} {Q : bPost} {A : bPt → Prop} (hC : bMono C) (hA : bClosed lvl bm122 C Q A) {x1 : Int32} {σ : bSt} 
  (h : (C 120 [.ref 9, .int x1] σ (bRa (fun r3 s1 => A (8, [.ref 9, .int x1, .ref r3, .int 0, .int 0, .float 0], [], s1))))) : A (0, [.ref 9, .int x1, .float 0, .float 0, .float 0, .float 0], [], σ) := by
  refine bGo hA 0 0 (0, .aload_n 0, 1, 1, 0, [0], []) rfl rfl rfl ?_
  refine bGo hA 0 1 (1, .iload_n 1, 1, 2, 0, [1], []) rfl rfl rfl ?_
  refine bGo hA 0 2 (2, .invokevirtual 32, 3, 3, 0, [0, 9, 120, 1], []) rfl rfl rfl ?_
  refine ⟨rfl, ?_⟩
  refine hC _ _ _ _ _ (bRa_e (fun r3 s1 k2 => ?_)) h
  show A (3, [.ref 9, .int x1, .float 0, .float 0, .float 0, .float 0], [.ref r3], s1)
  refine bGo hA 0 3 (5, .astore_n 2, 1, 4, 0, [2], []) rfl rfl rfl ?_
  refine bGo hA 0 4 (6, .iconst (0), 1, 5, 0, [], [(0, 0)]) rfl rfl rfl ?_
  refine bGo hA 0 5 (7, .istore_n 3, 1, 6, 0, [3], []) rfl rfl rfl ?_
  refine bGo hA 0 6 (8, .iconst (0), 1, 7, 0, [], [(0, 0)]) rfl rfl rfl ?_
  refine bGo hA 0 7 (9, .istore 4, 2, 8, 0, [4], []) rfl rfl rfl ?_
  exact k2

theorem sg122_8 {lvl : Nat} {C : bCall} {Q : bPost} {A : bPt → Prop} (hC : bMono C) (hA : bClosed lvl bm122 C Q A) {v0 : Value} {v1 : Value} {l2 : Nat} {l3 : Int32} {l4 : Int32} {v5 : Value} {σ : bSt} 
  (h : (l2 % 256 = 8 ∧ ((l4 < (σ.1 l2 13) → (C 112 [.ref l2, .int l4] σ (bRi (fun r4 s2 => ((r4 < 100 → A (8, [v0, v1, .ref l2, .int l3, .int (l4 + 1), .int r4], [], s2)) ∧ (¬ r4 < 100 → ((r4 < 1000 → A (8, [v0, v1, .ref l2, .int (l3 ||| (1 <<< ((r4 - 100) &&& 31))), .int (l4 + 1), .int r4], [], s2)) ∧ (¬ r4 < 1000 → A (8, [v0, v1, .ref l2, .int l3, .int (l4 + 1), .int r4], [], s2))))))))) ∧ (¬ l4 < (σ.1 l2 13) → Q (.inl (some (.int l3))) σ)))) : A (8, [v0, v1, .ref l2, .int l3, .int l4, v5], [], σ) := by
  refine bGo hA 0 8 (11, .iload 4, 2, 9, 0, [4], []) rfl rfl rfl ?_
  refine bGo hA 0 9 (13, .aload_n 2, 1, 10, 0, [2], []) rfl rfl rfl ?_
  refine bGo hA 0 10 (14, .getfield 36, 3, 11, 0, [8, 13, 0, 0, 0, 0], []) rfl rfl rfl ?_
  refine ⟨h.1, ?_⟩
  refine bGo hA 0 11 (17, .if_icmp .ge (42), 3, 12, 32, [], []) rfl rfl rfl ?_
  refine ⟨fun c1 => ?_, fun c1 => ?_⟩
  · refine bGo hA 0 12 (20, .aload_n 2, 1, 13, 0, [2], []) rfl rfl rfl ?_
    refine bGo hA 0 13 (21, .iload 4, 2, 14, 0, [4], []) rfl rfl rfl ?_
    refine bGo hA 0 14 (23, .invokevirtual 39, 3, 15, 0, [0, 8, 112, 1], []) rfl rfl rfl ?_
    refine ⟨h.1, ?_⟩
    refine hC _ _ _ _ _ (bRi_e (fun r4 s2 k3 => ?_)) (h.2.1 c1)
    show A (15, [v0, v1, .ref l2, .int l3, .int l4, v5], [.int r4], s2)
    refine bGo hA 0 15 (26, .istore 5, 2, 16, 0, [5], []) rfl rfl rfl ?_
    refine bGo hA 1 0 (28, .iload 5, 2, 17, 0, [5], []) rfl rfl rfl ?_
    refine bGo hA 1 1 (30, .bipush (100), 2, 18, 0, [], [(100, 0)]) rfl rfl rfl ?_
    refine bGo hA 1 2 (32, .if_icmp .lt (21), 3, 19, 30, [], []) rfl rfl rfl ?_
    refine ⟨fun c5 => ?_, fun c5 => ?_⟩
    · refine bGo hA 1 14 (53, .iinc 4 (1), 3, 31, 0, [4], [(1, 0)]) rfl rfl rfl ?_
      refine bGo hA 1 15 (56, .goto (-45), 3, 32, 8, [], []) rfl rfl rfl ?_
      exact (k3.1 c5)
    · refine bGo hA 1 3 (35, .iload 5, 2, 20, 0, [5], []) rfl rfl rfl ?_
      refine bGo hA 1 4 (37, .sipush (1000), 3, 21, 0, [], [(1000, 0)]) rfl rfl rfl ?_
      refine bGo hA 1 5 (40, .if_icmp .ge (13), 3, 22, 30, [], []) rfl rfl rfl ?_
      refine ⟨fun c6 => ?_, fun c6 => ?_⟩
      · refine bGo hA 1 6 (43, .iload_n 3, 1, 23, 0, [3], []) rfl rfl rfl ?_
        refine bGo hA 1 7 (44, .iconst (1), 1, 24, 0, [], [(1, 0)]) rfl rfl rfl ?_
        refine bGo hA 1 8 (45, .iload 5, 2, 25, 0, [5], []) rfl rfl rfl ?_
        refine bGo hA 1 9 (47, .bipush (100), 2, 26, 0, [], [(100, 0)]) rfl rfl rfl ?_
        refine bGo hA 1 10 (49, .isub, 1, 27, 0, [], []) rfl rfl rfl ?_
        refine bGo hA 1 11 (50, .ishl, 1, 28, 0, [], []) rfl rfl rfl ?_
        refine bGo hA 1 12 (51, .ior, 1, 29, 0, [], []) rfl rfl rfl ?_
        refine bGo hA 1 13 (52, .istore_n 3, 1, 30, 0, [3], []) rfl rfl rfl ?_
        refine bGo hA 1 14 (53, .iinc 4 (1), 3, 31, 0, [4], [(1, 0)]) rfl rfl rfl ?_
        refine bGo hA 1 15 (56, .goto (-45), 3, 32, 8, [], []) rfl rfl rfl ?_
        exact ((k3.2 c5).1 c6)
      · refine bGo hA 1 14 (53, .iinc 4 (1), 3, 31, 0, [4], [(1, 0)]) rfl rfl rfl ?_
        refine bGo hA 1 15 (56, .goto (-45), 3, 32, 8, [], []) rfl rfl rfl ?_
        exact ((k3.2 c5).2 c6)
  · refine bGo hA 2 0 (59, .iload_n 3, 1, 33, 0, [3], []) rfl rfl rfl ?_
    refine bGo hA 2 1 (60, .ireturn, 1, 0, 0, [1], []) rfl rfl rfl ?_
    exact (h.2.2 c1)

theorem sg123_0 {lvl : Nat} {C : bCall} {Q : bPost} {A : bPt → Prop} (hC : bMono C) (hA : bClosed lvl bm123 C Q A) {x1 : Int32} {σ : bSt} 
  (h : A (6, [.ref 9, .int x1, .int (1 <<< (x1 &&& 31)), .int x1], [], σ)) : A (0, [.ref 9, .int x1, .float 0, .float 0], [], σ) := by
  refine bGo hA 0 0 (0, .iconst (1), 1, 1, 0, [], [(1, 0)]) rfl rfl rfl ?_
  refine bGo hA 0 1 (1, .iload_n 1, 1, 2, 0, [1], []) rfl rfl rfl ?_
  refine bGo hA 0 2 (2, .ishl, 1, 3, 0, [], []) rfl rfl rfl ?_
  refine bGo hA 0 3 (3, .istore_n 2, 1, 4, 0, [2], []) rfl rfl rfl ?_
  refine bGo hA 0 4 (4, .iload_n 1, 1, 5, 0, [1], []) rfl rfl rfl ?_
  refine bGo hA 0 5 (5, .istore_n 3, 1, 6, 0, [3], []) rfl rfl rfl ?_
  exact h

theorem sg123_6 {lvl : Nat} {C : bCall} {Q : bPost} {A : bPt → Prop} (hC : bMono C) (hA : bClosed lvl bm123 C Q A) {v1 : Value} {l2 : Int32} {l3 : Int32} {σ : bSt} 
  (h : ((l3 < 0 → Q (.inl (some (.int l2))) σ) ∧ (¬ l3 < 0 → ((((l2 >>> (l3 &&& 31)) &&& 1) = 1 → (C 122 [.ref 9, .int l3] σ (bRi (fun r5 s3 => A (6, [.ref 9, (bUnl v1), .int (l2 ||| r5), .int (l3 + (-1))], [], s3))))) ∧ (¬ ((l2 >>> (l3 &&& 31)) &&& 1) = 1 → A (6, [.ref 9, v1, .int l2, .int (l3 + (-1))], [], σ)))))) : A (6, [.ref 9, v1, .int l2, .int l3], [], σ) := by
  refine bGo hA 0 6 (6, .iload_n 3, 1, 7, 0, [3], []) rfl rfl rfl ?_
  refine bGo hA 0 7 (7, .ifCond .lt (26), 3, 8, 23, [], []) rfl rfl rfl ?_
  refine ⟨fun c1 => ?_, fun c1 => ?_⟩
  · refine bGo hA 1 7 (33, .iload_n 2, 1, 24, 0, [2], []) rfl rfl rfl ?_
    refine bGo hA 1 8 (34, .ireturn, 1, 0, 0, [1], []) rfl rfl rfl ?_
    exact (h.1 c1)
  · refine bGo hA 0 8 (10, .iload_n 2, 1, 9, 0, [2], []) rfl rfl rfl ?_
    refine bGo hA 0 9 (11, .iload_n 3, 1, 10, 0, [3], []) rfl rfl rfl ?_
    refine bGo hA 0 10 (12, .ishr, 1, 11, 0, [], []) rfl rfl rfl ?_
    refine bGo hA 0 11 (13, .iconst (1), 1, 12, 0, [], [(1, 0)]) rfl rfl rfl ?_
    refine bGo hA 0 12 (14, .iand, 1, 13, 0, [], []) rfl rfl rfl ?_
    refine bGo hA 0 13 (15, .iconst (1), 1, 14, 0, [], [(1, 0)]) rfl rfl rfl ?_
    refine bGo hA 0 14 (16, .if_icmp .ne (11), 3, 15, 21, [], []) rfl rfl rfl ?_
    refine ⟨fun c2 => ?_, fun c2 => ?_⟩
    · refine bGo hA 0 15 (19, .iload_n 2, 1, 16, 0, [2], []) rfl rfl rfl ?_
      refine bGo hA 1 0 (20, .aload_n 0, 1, 17, 0, [0], []) rfl rfl rfl ?_
      refine bGo hA 1 1 (21, .iload_n 3, 1, 18, 0, [3], []) rfl rfl rfl ?_
      refine bGo hA 1 2 (22, .invokevirtual 43, 3, 19, 0, [0, 9, 122, 1], []) rfl rfl rfl ?_
      refine ⟨rfl, ?_⟩
      refine hC _ _ _ _ _ (bRi_e (fun r5 s3 k4 => ?_)) ((h.2 c1).1 c2)
      show A (19, [.ref 9, v1, .int l2, .int l3], [.int r5, .int l2], s3)
      refine bGo hA 1 3 (25, .ior, 1, 20, 0, [], []) rfl rfl rfl ?_
      refine bGo hA 1 4 (26, .istore_n 2, 1, 21, 0, [2], []) rfl rfl rfl ?_
      refine bGo hA 1 5 (27, .iinc 3 (-1), 3, 22, 0, [3], [(-1, 0)]) rfl rfl rfl ?_
      refine bGo hA 1 6 (30, .goto (-24), 3, 23, 6, [], []) rfl rfl rfl ?_
      exact k4
    · refine bGo hA 1 5 (27, .iinc 3 (-1), 3, 22, 0, [3], [(-1, 0)]) rfl rfl rfl ?_
      refine bGo hA 1 6 (30, .goto (-24), 3, 23, 6, [], []) rfl rfl rfl ?_
      exact ((h.2 c1).2 c2)

theorem sg124_0 {lvl : Nat} {C : bCall} {Q : bPost} {A : bPt → Prop} (hC : bMono C) (hA : bClosed lvl bm124 C Q A) {x1 : Int32} {σ : bSt} 
  (h : A (8, [.ref 9, .int x1, .int (1 <<< (x1 &&& 31)), .int (x1 + 1)], [], σ)) : A (0, [.ref 9, .int x1, .float 0, .float 0], [], σ) := by
  refine bGo hA 0 0 (0, .iconst (1), 1, 1, 0, [], [(1, 0)]) rfl rfl rfl ?_
  refine bGo hA 0 1 (1, .iload_n 1, 1, 2, 0, [1], []) rfl rfl rfl ?_
  refine bGo hA 0 2 (2, .ishl, 1, 3, 0, [], []) rfl rfl rfl ?_
  refine bGo hA 0 3 (3, .istore_n 2, 1, 4, 0, [2], []) rfl rfl rfl ?_
  refine bGo hA 0 4 (4, .iload_n 1, 1, 5, 0, [1], []) rfl rfl rfl ?_
  refine bGo hA 0 5 (5, .iconst (1), 1, 6, 0, [], [(1, 0)]) rfl rfl rfl ?_
  refine bGo hA 0 6 (6, .iadd, 1, 7, 0, [], []) rfl rfl rfl ?_
  refine bGo hA 0 7 (7, .istore_n 3, 1, 8, 0, [3], []) rfl rfl rfl ?_
  exact h

theorem sg124_8 {lvl : Nat} {C : bCall} {Q : bPost} {A : bPt → Prop} (hC : bMono C) (hA : bClosed lvl bm124 C Q A) {v1 : Value} {l2 : Int32} {l3 : Int32} {σ : bSt} 
  (h : ((l3 < (σ.1 9 0) → (C 122 [.ref 9, .int l3] σ (bRi (fun r4 s2 => (((r4 &&& l2) = 0 → A (8, [.ref 9, v1, .int l2, .int (l3 + 1)], [], s2)) ∧ (¬ (r4 &&& l2) = 0 → A (8, [.ref 9, (bUnl v1), .int (l2 ||| (1 <<< (l3 &&& 31))), .int (l3 + 1)], [], s2))))))) ∧ (¬ l3 < (σ.1 9 0) → Q (.inl (some (.int l2))) σ))) : A (8, [.ref 9, v1, .int l2, .int l3], [], σ) := by
  refine bGo hA 0 8 (8, .iload_n 3, 1, 9, 0, [3], []) rfl rfl rfl ?_
  refine bGo hA 0 9 (9, .aload_n 0, 1, 10, 0, [0], []) rfl rfl rfl ?_
  refine bGo hA 0 10 (10, .getfield 28, 3, 11, 0, [9, 0, 0, 0, 0, 0], []) rfl rfl rfl ?_
  refine ⟨rfl, ?_⟩
  refine bGo hA 0 11 (13, .if_icmp .ge (25), 3, 12, 26, [], []) rfl rfl rfl ?_
  refine ⟨fun c1 => ?_, fun c1 => ?_⟩
  · refine bGo hA 0 12 (16, .aload_n 0, 1, 13, 0, [0], []) rfl rfl rfl ?_
    refine bGo hA 0 13 (17, .iload_n 3, 1, 14, 0, [3], []) rfl rfl rfl ?_
    refine bGo hA 0 14 (18, .invokevirtual 43, 3, 15, 0, [0, 9, 122, 1], []) rfl rfl rfl ?_
    refine ⟨rfl, ?_⟩
    refine hC _ _ _ _ _ (bRi_e (fun r4 s2 k3 => ?_)) (h.1 c1)
    show A (15, [.ref 9, v1, .int l2, .int l3], [.int r4], s2)
    refine bGo hA 0 15 (21, .iload_n 2, 1, 16, 0, [2], []) rfl rfl rfl ?_
    refine bGo hA 1 0 (22, .iand, 1, 17, 0, [], []) rfl rfl rfl ?_
    refine bGo hA 1 1 (23, .ifCond .eq (9), 3, 18, 24, [], []) rfl rfl rfl ?_
    refine ⟨fun c5 => ?_, fun c5 => ?_⟩
    · refine bGo hA 1 8 (32, .iinc 3 (1), 3, 25, 0, [3], [(1, 0)]) rfl rfl rfl ?_
      refine bGo hA 1 9 (35, .goto (-27), 3, 26, 8, [], []) rfl rfl rfl ?_
      exact (k3.1 c5)
    · refine bGo hA 1 2 (26, .iload_n 2, 1, 19, 0, [2], []) rfl rfl rfl ?_
      refine bGo hA 1 3 (27, .iconst (1), 1, 20, 0, [], [(1, 0)]) rfl rfl rfl ?_
      refine bGo hA 1 4 (28, .iload_n 3, 1, 21, 0, [3], []) rfl rfl rfl ?_
      refine bGo hA 1 5 (29, .ishl, 1, 22, 0, [], []) rfl rfl rfl ?_
      refine bGo hA 1 6 (30, .ior, 1, 23, 0, [], []) rfl rfl rfl ?_
      refine bGo hA 1 7 (31, .istore_n 2, 1, 24, 0, [2], []) rfl rfl rfl ?_
      refine bGo hA 1 8 (32, .iinc 3 (1), 3, 25, 0, [3], [(1, 0)]) rfl rfl rfl ?_
      refine bGo hA 1 9 (35, .goto (-27), 3, 26, 8, [], []) rfl rfl rfl ?_
      exact (k3.2 c5)
  · refine bGo hA 1 10 (38, .iload_n 2, 1, 27, 0, [2], []) rfl rfl rfl ?_
    refine bGo hA 1 11 (39, .ireturn, 1, 0, 0, [1], []) rfl rfl rfl ?_
    exact (h.2 c1)

theorem sg125_0 {lvl : Nat} {C : bCall} {Q : bPost} {A : bPt → Prop} (hC : bMono C) (hA : bClosed lvl bm125 C Q A) {x1 : Int32} {x2 : Int32} {x3 : Int32} {σ : bSt} 
  (h : (C 126 [.ref 9, .int x2] σ (bRv (fun s1 => (C 140 [.ref 51, .int x1] s1 (bRi (fun r5 s3 => ((r5 = (-1) → Q (.inl (some (.int (-1)))) s3) ∧ (¬ r5 = (-1) → ((r5 < x3 → Q (.inl (some (.int (-1)))) s3) ∧ (¬ r5 < x3 → A (20, [.ref 9, .int x1, .int x2, .int x3, .int r5, .int x1, .int 0], [], s3)))))))))))) : A (0, [.ref 9, .int x1, .int x2, .int x3, .float 0, .float 0, .float 0], [], σ) := by
  refine bGo hA 0 0 (0, .aload_n 0, 1, 1, 0, [0], []) rfl rfl rfl ?_
  refine bGo hA 0 1 (1, .iload_n 2, 1, 2, 0, [2], []) rfl rfl rfl ?_
  refine bGo hA 0 2 (2, .invokevirtual 46, 3, 3, 0, [0, 9, 126, 1], []) rfl rfl rfl ?_
  refine ⟨rfl, ?_⟩
  refine hC _ _ _ _ _ (bRv_e (fun s1 k2 => ?_)) h
  show A (3, [.ref 9, .int x1, .int x2, .int x3, .float 0, .float 0, .float 0], [], s1)
  refine bGo hA 0 3 (5, .aload_n 0, 1, 4, 0, [0], []) rfl rfl rfl ?_
  refine bGo hA 0 4 (6, .getfield 24, 3, 5, 0, [9, 3, 3, 51, 1, 0], []) rfl rfl rfl ?_
  refine ⟨rfl, ?_⟩
  refine bGo hA 0 5 (9, .iload_n 1, 1, 6, 0, [1], []) rfl rfl rfl ?_
  refine bGo hA 0 6 (10, .invokestatic 50, 3, 7, 1, [2, 140, 2], []) rfl rfl rfl ?_
  refine hC _ _ _ _ _ (bRi_e (fun r5 s3 k4 => ?_)) k2
  show A (7, [.ref 9, .int x1, .int x2, .int x3, .float 0, .float 0, .float 0], [.int r5], s3)
  refine bGo hA 0 7 (13, .istore 4, 2, 8, 0, [4], []) rfl rfl rfl ?_
  refine bGo hA 0 8 (15, .iload 4, 2, 9, 0, [4], []) rfl rfl rfl ?_
  refine bGo hA 0 9 (17, .iconst (-1), 1, 10, 0, [], [(-1, 0)]) rfl rfl rfl ?_
  refine bGo hA 0 10 (18, .if_icmp .eq (9), 3, 11, 14, [], []) rfl rfl rfl ?_
  refine ⟨fun c6 => ?_, fun c6 => ?_⟩
  · refine bGo hA 0 14 (27, .iconst (-1), 1, 15, 0, [], [(-1, 0)]) rfl rfl rfl ?_
    refine bGo hA 0 15 (28, .ireturn, 1, 16, 0, [1], []) rfl rfl rfl ?_
    exact (k4.1 c6)
  · refine bGo hA 0 11 (21, .iload_n 3, 1, 12, 0, [3], []) rfl rfl rfl ?_
    refine bGo hA 0 12 (22, .iload 4, 2, 13, 0, [4], []) rfl rfl rfl ?_
    refine bGo hA 0 13 (24, .if_icmp .le (5), 3, 14, 16, [], []) rfl rfl rfl ?_
    refine ⟨fun c7 => ?_, fun c7 => ?_⟩
    · refine bGo hA 0 14 (27, .iconst (-1), 1, 15, 0, [], [(-1, 0)]) rfl rfl rfl ?_
      refine bGo hA 0 15 (28, .ireturn, 1, 16, 0, [1], []) rfl rfl rfl ?_
      exact ((k4.2 c6).1 c7)
    · refine bGo hA 1 0 (29, .iload_n 1, 1, 17, 0, [1], []) rfl rfl rfl ?_
      refine bGo hA 1 1 (30, .istore 5, 2, 18, 0, [5], []) rfl rfl rfl ?_
      refine bGo hA 1 2 (32, .iconst (0), 1, 19, 0, [], [(0, 0)]) rfl rfl rfl ?_
      refine bGo hA 1 3 (33, .istore 6, 2, 20, 0, [6], []) rfl rfl rfl ?_
      exact ((k4.2 c6).2 c7)

theorem sg125_20 {lvl : Nat} {C : bCall} {Q : bPost} {A : bPt → Prop} (hC : bMono C) (hA : bClosed lvl bm125 C Q A) {v1 : Value} {v2 : Value} {l3 : Int32} {l4 : Int32} {l5 : Int32} {l6 : Int32} {σ : bSt} 
  (h : ((l6 < l3 → (C 122 [.ref 9, .int l5] σ (bRi (fun r4 s2 => (C 127 [.ref 9, .int ((l4 - l6) - 1), .int r4] s2 (bRi (fun r7 s5 => A (20, [.ref 9, v1, v2, .int l3, .int l4, .int r7, .int (l6 + 1)], [], s5)))))))) ∧ (¬ l6 < l3 → Q (.inl (some (.int l5))) σ))) : A (20, [.ref 9, v1, v2, .int l3, .int l4, .int l5, .int l6], [], σ) := by
  refine bGo hA 1 4 (35, .iload 6, 2, 21, 0, [6], []) rfl rfl rfl ?_
  refine bGo hA 1 5 (37, .iload_n 3, 1, 22, 0, [3], []) rfl rfl rfl ?_
  refine bGo hA 1 6 (38, .if_icmp .ge (28), 3, 23, 36, [], []) rfl rfl rfl ?_
  refine ⟨fun c1 => ?_, fun c1 => ?_⟩
  · refine bGo hA 1 7 (41, .aload_n 0, 1, 24, 0, [0], []) rfl rfl rfl ?_
    refine bGo hA 1 8 (42, .iload 4, 2, 25, 0, [4], []) rfl rfl rfl ?_
    refine bGo hA 1 9 (44, .iload 6, 2, 26, 0, [6], []) rfl rfl rfl ?_
    refine bGo hA 1 10 (46, .isub, 1, 27, 0, [], []) rfl rfl rfl ?_
    refine bGo hA 1 11 (47, .iconst (1), 1, 28, 0, [], [(1, 0)]) rfl rfl rfl ?_
    refine bGo hA 1 12 (48, .isub, 1, 29, 0, [], []) rfl rfl rfl ?_
    refine bGo hA 1 13 (49, .aload_n 0, 1, 30, 0, [0], []) rfl rfl rfl ?_
    refine bGo hA 1 14 (50, .iload 5, 2, 31, 0, [5], []) rfl rfl rfl ?_
    refine bGo hA 1 15 (52, .invokevirtual 43, 3, 32, 0, [0, 9, 122, 1], []) rfl rfl rfl ?_
    refine ⟨rfl, ?_⟩
    refine hC _ _ _ _ _ (bRi_e (fun r4 s2 k3 => ?_)) (h.1 c1)
    show A (32, [.ref 9, v1, v2, .int l3, .int l4, .int l5, .int l6], [.int r4, .int ((l4 - l6) - 1), .ref 9], s2)
    refine bGo hA 2 0 (55, .invokevirtual 54, 3, 33, 0, [0, 9, 127, 2], []) rfl rfl rfl ?_
    refine ⟨rfl, ?_⟩
    refine hC _ _ _ _ _ (bRi_e (fun r7 s5 k6 => ?_)) k3
    show A (33, [.ref 9, v1, v2, .int l3, .int l4, .int l5, .int l6], [.int r7], s5)
    refine bGo hA 2 1 (58, .istore 5, 2, 34, 0, [5], []) rfl rfl rfl ?_
    refine bGo hA 2 2 (60, .iinc 6 (1), 3, 35, 0, [6], [(1, 0)]) rfl rfl rfl ?_
    refine bGo hA 2 3 (63, .goto (-28), 3, 36, 20, [], []) rfl rfl rfl ?_
    exact k6
  · refine bGo hA 2 4 (66, .iload 5, 2, 37, 0, [5], []) rfl rfl rfl ?_
    refine bGo hA 2 5 (68, .ireturn, 1, 0, 0, [1], []) rfl rfl rfl ?_
    exact (h.2 c1)

theorem sg126_0 {lvl : Nat} {C : bCall} {Q : bPost} {A : bPt → Prop} (hC : bMono C) (hA : bClosed lvl bm126 C Q A) {x1 : Int32} {σ : bSt} 
  (h : (C 361 [.ref 51, .int (-1)] σ (bRv (fun s1 => (C 141 [.ref 51, .int x1, .int 0] s1 (bRv (fun s3 => A (13, [.ref 9, .int x1, .int (x1 + 1), .float 0, .float 0, .float 0, .float 0], [], s3)))))))) : A (0, [.ref 9, .int x1, .float 0, .float 0, .float 0, .float 0, .float 0], [], σ) := by
  refine bGo hA 0 0 (0, .aload_n 0, 1, 1, 0, [0], []) rfl rfl rfl ?_
  refine bGo hA 0 1 (1, .getfield 24, 3, 2, 0, [9, 3, 3, 51, 1, 0], []) rfl rfl rfl ?_
  refine ⟨rfl, ?_⟩
  refine bGo hA 0 2 (4, .iconst (-1), 1, 3, 0, [], [(-1, 0)]) rfl rfl rfl ?_
  refine bGo hA 0 3 (5, .invokestatic 58, 3, 4, 0, [2, 361, 2], []) rfl rfl rfl ?_
  refine hC _ _ _ _ _ (bRv_e (fun s1 k2 => ?_)) h
  show A (4, [.ref 9, .int x1, .float 0, .float 0, .float 0, .float 0, .float 0], [], s1)
  refine bGo hA 0 4 (8, .aload_n 0, 1, 5, 0, [0], []) rfl rfl rfl ?_
  refine bGo hA 0 5 (9, .getfield 24, 3, 6, 0, [9, 3, 3, 51, 1, 0], []) rfl rfl rfl ?_
  refine ⟨rfl, ?_⟩
  refine bGo hA 0 6 (12, .iload_n 1, 1, 7, 0, [1], []) rfl rfl rfl ?_
  refine bGo hA 0 7 (13, .iconst (0), 1, 8, 0, [], [(0, 0)]) rfl rfl rfl ?_
  refine bGo hA 0 8 (14, .invokestatic 64, 3, 9, 1, [2, 141, 3], []) rfl rfl rfl ?_
  refine hC _ _ _ _ _ (bRv_e (fun s3 k4 => ?_)) k2
  show A (9, [.ref 9, .int x1, .float 0, .float 0, .float 0, .float 0, .float 0], [], s3)
  refine bGo hA 0 9 (17, .iload_n 1, 1, 10, 0, [1], []) rfl rfl rfl ?_
  refine bGo hA 0 10 (18, .iconst (1), 1, 11, 0, [], [(1, 0)]) rfl rfl rfl ?_
  refine bGo hA 0 11 (19, .iadd, 1, 12, 0, [], []) rfl rfl rfl ?_
  refine bGo hA 0 12 (20, .istore_n 2, 1, 13, 0, [2], []) rfl rfl rfl ?_
  exact k4

theorem sg126_13 {lvl : Nat} {C : bCall} {Q : bPost} {A : bPt → Prop} (hC : bMono C) (hA : bClosed lvl bm126 C Q A) {l1 : Int32} {l2 : Int32} {v3 : Value} {v4 : Value} {v5 : Value} {v6 : Value} {σ : bSt} 
  (h : ((l2 < (σ.1 9 0) → (C 122 [.ref 9, .int l2] σ (bRi (fun r4 s2 => A (23, [.ref 9, .int l1, .int l2, .int r4, .int l1, v5, v6], [], s2))))) ∧ (¬ l2 < (σ.1 9 0) → Q (.inl none) σ))) : A (13, [.ref 9, .int l1, .int l2, v3, v4, v5, v6], [], σ) := by
  refine bGo hA 0 13 (21, .iload_n 2, 1, 14, 0, [2], []) rfl rfl rfl ?_
  refine bGo hA 0 14 (22, .aload_n 0, 1, 15, 0, [0], []) rfl rfl rfl ?_
  refine bGo hA 0 15 (23, .getfield 28, 3, 16, 0, [9, 0, 0, 0, 0, 0], []) rfl rfl rfl ?_
  refine ⟨rfl, ?_⟩
  refine bGo hA 1 0 (26, .if_icmp .ge (98), 3, 17, 67, [], []) rfl rfl rfl ?_
  refine ⟨fun c1 => ?_, fun c1 => ?_⟩
  · refine bGo hA 1 1 (29, .aload_n 0, 1, 18, 0, [0], []) rfl rfl rfl ?_
    refine bGo hA 1 2 (30, .iload_n 2, 1, 19, 0, [2], []) rfl rfl rfl ?_
    refine bGo hA 1 3 (31, .invokevirtual 43, 3, 20, 0, [0, 9, 122, 1], []) rfl rfl rfl ?_
    refine ⟨rfl, ?_⟩
    refine hC _ _ _ _ _ (bRi_e (fun r4 s2 k3 => ?_)) (h.1 c1)
    show A (20, [.ref 9, .int l1, .int l2, v3, v4, v5, v6], [.int r4], s2)
    refine bGo hA 1 4 (34, .istore_n 3, 1, 21, 0, [3], []) rfl rfl rfl ?_
    refine bGo hA 1 5 (35, .iload_n 1, 1, 22, 0, [1], []) rfl rfl rfl ?_
    refine bGo hA 1 6 (36, .istore 4, 2, 23, 0, [4], []) rfl rfl rfl ?_
    exact k3
  · refine bGo hA 4 3 (124, .return_, 1, 0, 0, [0], []) rfl rfl rfl ?_
    exact (h.2 c1)

theorem sg126_23 {lvl : Nat} {C : bCall} {Q : bPost} {A : bPt → Prop} (hC : bMono C) (hA : bClosed lvl bm126 C Q A) {l1 : Int32} {l2 : Int32} {l3 : Int32} {l4 : Int32} {v5 : Value} {v6 : Value} {σ : bSt} 
  (h : ((l4 < l2 → ((((l3 >>> (l4 &&& 31)) &&& 1) = 1 → (C 140 [.ref 51, .int l4] σ (bRi (fun r5 s3 => (C 140 [.ref 51, .int l2] s3 (bRi (fun r8 s6 => ((r5 = (-1) → A (23, [.ref 9, .int l1, .int l2, .int l3, .int (l4 + 1), .int r5, .int r8], [], s6)) ∧ (¬ r5 = (-1) → ((r8 = (-1) → (C 141 [.ref 51, .int l2, .int (r5 + 1)] s6 (bRv (fun s11 => A (23, [.ref 9, .int l1, .int l2, .int l3, .int (l4 + 1), .int r5, .int r8], [], s11))))) ∧ (¬ r8 = (-1) → (((r5 + 1) < r8 → (C 141 [.ref 51, .int l2, .int (r5 + 1)] s6 (bRv (fun s14 => A (23, [.ref 9, .int l1, .int l2, .int l3, .int (l4 + 1), .int r5, .int r8], [], s14))))) ∧ (¬ (r5 + 1) < r8 → A (23, [.ref 9, .int l1, .int l2, .int l3, .int (l4 + 1), .int r5, .int r8], [], s6)))))))))))))) ∧ (¬ ((l3 >>> (l4 &&& 31)) &&& 1) = 1 → (C 140 [.ref 51, .int l2] σ (bRi (fun r18 s16 => A (23, [.ref 9, .int l1, .int l2, .int l3, .int (l4 + 1), .int (-1), .int r18], [], s16))))))) ∧ (¬ l4 < l2 → A (13, [.ref 9, .int l1, .int (l2 + 1), .int l3, .int l4, v5, v6], [], σ)))) : A (23, [.ref 9, .int l1, .int l2, .int l3, .int l4, v5, v6], [], σ) := by
  refine bGo hA 1 7 (38, .iload 4, 2, 24, 0, [4], []) rfl rfl rfl ?_
  refine bGo hA 1 8 (40, .iload_n 2, 1, 25, 0, [2], []) rfl rfl rfl ?_
  refine bGo hA 1 9 (41, .if_icmp .ge (77), 3, 26, 65, [], []) rfl rfl rfl ?_
  refine ⟨fun c1 => ?_, fun c1 => ?_⟩
  · refine bGo hA 1 10 (44, .iload_n 3, 1, 27, 0, [3], []) rfl rfl rfl ?_
    refine bGo hA 1 11 (45, .iload 4, 2, 28, 0, [4], []) rfl rfl rfl ?_
    refine bGo hA 1 12 (47, .ishr, 1, 29, 0, [], []) rfl rfl rfl ?_
    refine bGo hA 1 13 (48, .iconst (1), 1, 30, 0, [], [(1, 0)]) rfl rfl rfl ?_
    refine bGo hA 1 14 (49, .iand, 1, 31, 0, [], []) rfl rfl rfl ?_
    refine bGo hA 1 15 (50, .iconst (1), 1, 32, 0, [], [(1, 0)]) rfl rfl rfl ?_
    refine bGo hA 2 0 (51, .if_icmp .ne (15), 3, 33, 38, [], []) rfl rfl rfl ?_
    refine ⟨fun c2 => ?_, fun c2 => ?_⟩
    · refine bGo hA 2 1 (54, .aload_n 0, 1, 34, 0, [0], []) rfl rfl rfl ?_
      refine bGo hA 2 2 (55, .getfield 24, 3, 35, 0, [9, 3, 3, 51, 1, 0], []) rfl rfl rfl ?_
      refine ⟨rfl, ?_⟩
      refine bGo hA 2 3 (58, .iload 4, 2, 36, 0, [4], []) rfl rfl rfl ?_
      refine bGo hA 2 4 (60, .invokestatic 50, 3, 37, 1, [2, 140, 2], []) rfl rfl rfl ?_
      refine hC _ _ _ _ _ (bRi_e (fun r5 s3 k4 => ?_)) ((h.1 c1).1 c2)
      show A (37, [.ref 9, .int l1, .int l2, .int l3, .int l4, v5, v6], [.int r5], s3)
      refine bGo hA 2 5 (63, .goto (4), 3, 38, 39, [], []) rfl rfl rfl ?_
      refine bGo hA 2 7 (67, .istore 5, 2, 40, 0, [5], []) rfl rfl rfl ?_
      refine bGo hA 2 8 (69, .aload_n 0, 1, 41, 0, [0], []) rfl rfl rfl ?_
      refine bGo hA 2 9 (70, .getfield 24, 3, 42, 0, [9, 3, 3, 51, 1, 0], []) rfl rfl rfl ?_
      refine ⟨rfl, ?_⟩
      refine bGo hA 2 10 (73, .iload_n 2, 1, 43, 0, [2], []) rfl rfl rfl ?_
      refine bGo hA 2 11 (74, .invokestatic 50, 3, 44, 1, [2, 140, 2], []) rfl rfl rfl ?_
      refine hC _ _ _ _ _ (bRi_e (fun r8 s6 k7 => ?_)) k4
      show A (44, [.ref 9, .int l1, .int l2, .int l3, .int l4, .int r5, v6], [.int r8], s6)
      refine bGo hA 2 12 (77, .istore 6, 2, 45, 0, [6], []) rfl rfl rfl ?_
      refine bGo hA 2 13 (79, .iload 5, 2, 46, 0, [5], []) rfl rfl rfl ?_
      refine bGo hA 2 14 (81, .iconst (-1), 1, 47, 0, [], [(-1, 0)]) rfl rfl rfl ?_
      refine bGo hA 2 15 (82, .if_icmp .eq (30), 3, 48, 63, [], []) rfl rfl rfl ?_
      refine ⟨fun c9 => ?_, fun c9 => ?_⟩
      · refine bGo hA 3 15 (112, .iinc 4 (1), 3, 64, 0, [4], [(1, 0)]) rfl rfl rfl ?_
        refine bGo hA 4 0 (115, .goto (-77), 3, 65, 23, [], []) rfl rfl rfl ?_
        exact (k7.1 c9)
      · refine bGo hA 3 0 (85, .iload 6, 2, 49, 0, [6], []) rfl rfl rfl ?_
        refine bGo hA 3 1 (87, .iconst (-1), 1, 50, 0, [], [(-1, 0)]) rfl rfl rfl ?_
        refine bGo hA 3 2 (88, .if_icmp .eq (12), 3, 51, 56, [], []) rfl rfl rfl ?_
        refine ⟨fun c10 => ?_, fun c10 => ?_⟩
        · refine bGo hA 3 8 (100, .aload_n 0, 1, 57, 0, [0], []) rfl rfl rfl ?_
          refine bGo hA 3 9 (101, .getfield 24, 3, 58, 0, [9, 3, 3, 51, 1, 0], []) rfl rfl rfl ?_
          refine ⟨rfl, ?_⟩
          refine bGo hA 3 10 (104, .iload_n 2, 1, 59, 0, [2], []) rfl rfl rfl ?_
          refine bGo hA 3 11 (105, .iload 5, 2, 60, 0, [5], []) rfl rfl rfl ?_
          refine bGo hA 3 12 (107, .iconst (1), 1, 61, 0, [], [(1, 0)]) rfl rfl rfl ?_
          refine bGo hA 3 13 (108, .iadd, 1, 62, 0, [], []) rfl rfl rfl ?_
          refine bGo hA 3 14 (109, .invokestatic 64, 3, 63, 1, [2, 141, 3], []) rfl rfl rfl ?_
          refine hC _ _ _ _ _ (bRv_e (fun s11 k12 => ?_)) ((k7.2 c9).1 c10)
          show A (63, [.ref 9, .int l1, .int l2, .int l3, .int l4, .int r5, .int r8], [], s11)
          refine bGo hA 3 15 (112, .iinc 4 (1), 3, 64, 0, [4], [(1, 0)]) rfl rfl rfl ?_
          refine bGo hA 4 0 (115, .goto (-77), 3, 65, 23, [], []) rfl rfl rfl ?_
          exact k12
        · refine bGo hA 3 3 (91, .iload 5, 2, 52, 0, [5], []) rfl rfl rfl ?_
          refine bGo hA 3 4 (93, .iconst (1), 1, 53, 0, [], [(1, 0)]) rfl rfl rfl ?_
          refine bGo hA 3 5 (94, .iadd, 1, 54, 0, [], []) rfl rfl rfl ?_
          refine bGo hA 3 6 (95, .iload 6, 2, 55, 0, [6], []) rfl rfl rfl ?_
          refine bGo hA 3 7 (97, .if_icmp .ge (15), 3, 56, 63, [], []) rfl rfl rfl ?_
          refine ⟨fun c13 => ?_, fun c13 => ?_⟩
          · refine bGo hA 3 8 (100, .aload_n 0, 1, 57, 0, [0], []) rfl rfl rfl ?_
            refine bGo hA 3 9 (101, .getfield 24, 3, 58, 0, [9, 3, 3, 51, 1, 0], []) rfl rfl rfl ?_
            refine ⟨rfl, ?_⟩
            refine bGo hA 3 10 (104, .iload_n 2, 1, 59, 0, [2], []) rfl rfl rfl ?_
            refine bGo hA 3 11 (105, .iload 5, 2, 60, 0, [5], []) rfl rfl rfl ?_
            refine bGo hA 3 12 (107, .iconst (1), 1, 61, 0, [], [(1, 0)]) rfl rfl rfl ?_
            refine bGo hA 3 13 (108, .iadd, 1, 62, 0, [], []) rfl rfl rfl ?_
            refine bGo hA 3 14 (109, .invokestatic 64, 3, 63, 1, [2, 141, 3], []) rfl rfl rfl ?_
            refine hC _ _ _ _ _ (bRv_e (fun s14 k15 => ?_)) (((k7.2 c9).2 c10).1 c13)
            show A (63, [.ref 9, .int l1, .int l2, .int l3, .int l4, .int r5, .int r8], [], s14)
            refine bGo hA 3 15 (112, .iinc 4 (1), 3, 64, 0, [4], [(1, 0)]) rfl rfl rfl ?_
            refine bGo hA 4 0 (115, .goto (-77), 3, 65, 23, [], []) rfl rfl rfl ?_
            exact k15
          · refine bGo hA 3 15 (112, .iinc 4 (1), 3, 64, 0, [4], [(1, 0)]) rfl rfl rfl ?_
            refine bGo hA 4 0 (115, .goto (-77), 3, 65, 23, [], []) rfl rfl rfl ?_
            exact (((k7.2 c9).2 c10).2 c13)
    · refine bGo hA 2 6 (66, .iconst (-1), 1, 39, 0, [], [(-1, 0)]) rfl rfl rfl ?_
      refine bGo hA 2 7 (67, .istore 5, 2, 40, 0, [5], []) rfl rfl rfl ?_
      refine bGo hA 2 8 (69, .aload_n 0, 1, 41, 0, [0], []) rfl rfl rfl ?_
      refine bGo hA 2 9 (70, .getfield 24, 3, 42, 0, [9, 3, 3, 51, 1, 0], []) rfl rfl rfl ?_
      refine ⟨rfl, ?_⟩
      refine bGo hA 2 10 (73, .iload_n 2, 1, 43, 0, [2], []) rfl rfl rfl ?_
      refine bGo hA 2 11 (74, .invokestatic 50, 3, 44, 1, [2, 140, 2], []) rfl rfl rfl ?_
      refine hC _ _ _ _ _ (bRi_e (fun r18 s16 k17 => ?_)) ((h.1 c1).2 c2)
      show A (44, [.ref 9, .int l1, .int l2, .int l3, .int l4, .int (-1), v6], [.int r18], s16)
      refine bGo hA 2 12 (77, .istore 6, 2, 45, 0, [6], []) rfl rfl rfl ?_
      refine bGo hA 2 13 (79, .iload 5, 2, 46, 0, [5], []) rfl rfl rfl ?_
      refine bGo hA 2 14 (81, .iconst (-1), 1, 47, 0, [], [(-1, 0)]) rfl rfl rfl ?_
      refine bGo hA 2 15 (82, .if_icmp .eq (30), 3, 48, 63, [], []) rfl rfl rfl ?_
      refine ⟨fun _ => ?_, fun c => absurd (by decide) c⟩
      refine bGo hA 3 15 (112, .iinc 4 (1), 3, 64, 0, [4], [(1, 0)]) rfl rfl rfl ?_
      refine bGo hA 4 0 (115, .goto (-77), 3, 65, 23, [], []) rfl rfl rfl ?_
      exact k17
  · refine bGo hA 4 1 (118, .iinc 2 (1), 3, 66, 0, [2], [(1, 0)]) rfl rfl rfl ?_
    refine bGo hA 4 2 (121, .goto (-100), 3, 67, 13, [], []) rfl rfl rfl ?_
    exact (h.2 c1)

theorem sg127_0 {lvl : Nat} {C : bCall} {Q : bPost} {A : bPt → Prop} (hC : bMono C) (hA : bClosed lvl bm127 C Q A) {x1 : Int32} {x2 : Int32} {σ : bSt} 
  (h : A (2, [.ref 9, .int x1, .int x2, .int 0], [], σ)) : A (0, [.ref 9, .int x1, .int x2, .float 0], [], σ) := by
  refine bGo hA 0 0 (0, .iconst (0), 1, 1, 0, [], [(0, 0)]) rfl rfl rfl ?_
  refine bGo hA 0 1 (1, .istore_n 3, 1, 2, 0, [3], []) rfl rfl rfl ?_
  exact h

theorem sg127_2 {lvl : Nat} {C : bCall} {Q : bPost} {A : bPt → Prop} (hC : bMono C) (hA : bClosed lvl bm127 C Q A) {l1 : Int32} {l2 : Int32} {l3 : Int32} {σ : bSt} 
  (h : ((l3 < (σ.1 9 0) → ((((l2 >>> (l3 &&& 31)) &&& 1) = 1 → (C 140 [.ref 51, .int l3] σ (bRi (fun r5 s3 => ((r5 = l1 → Q (.inl (some (.int l3))) s3) ∧ (¬ r5 = l1 → A (2, [.ref 9, .int l1, .int l2, .int (l3 + 1)], [], s3))))))) ∧ (¬ ((l2 >>> (l3 &&& 31)) &&& 1) = 1 → A (2, [.ref 9, .int l1, .int l2, .int (l3 + 1)], [], σ)))) ∧ (¬ l3 < (σ.1 9 0) → Q (.inl (some (.int (-1)))) σ))) : A (2, [.ref 9, .int l1, .int l2, .int l3], [], σ) := by
  refine bGo hA 0 2 (2, .iload_n 3, 1, 3, 0, [3], []) rfl rfl rfl ?_
  refine bGo hA 0 3 (3, .aload_n 0, 1, 4, 0, [0], []) rfl rfl rfl ?_
  refine bGo hA 0 4 (4, .getfield 28, 3, 5, 0, [9, 0, 0, 0, 0, 0], []) rfl rfl rfl ?_
  refine ⟨rfl, ?_⟩
  refine bGo hA 0 5 (7, .if_icmp .ge (32), 3, 6, 23, [], []) rfl rfl rfl ?_
  refine ⟨fun c1 => ?_, fun c1 => ?_⟩
  · refine bGo hA 0 6 (10, .iload_n 2, 1, 7, 0, [2], []) rfl rfl rfl ?_
    refine bGo hA 0 7 (11, .iload_n 3, 1, 8, 0, [3], []) rfl rfl rfl ?_
    refine bGo hA 0 8 (12, .ishr, 1, 9, 0, [], []) rfl rfl rfl ?_
    refine bGo hA 0 9 (13, .iconst (1), 1, 10, 0, [], [(1, 0)]) rfl rfl rfl ?_
    refine bGo hA 0 10 (14, .iand, 1, 11, 0, [], []) rfl rfl rfl ?_
    refine bGo hA 0 11 (15, .iconst (1), 1, 12, 0, [], [(1, 0)]) rfl rfl rfl ?_
    refine bGo hA 0 12 (16, .if_icmp .ne (17), 3, 13, 21, [], []) rfl rfl rfl ?_
    refine ⟨fun c2 => ?_, fun c2 => ?_⟩
    · refine bGo hA 0 13 (19, .aload_n 0, 1, 14, 0, [0], []) rfl rfl rfl ?_
      refine bGo hA 0 14 (20, .getfield 24, 3, 15, 0, [9, 3, 3, 51, 1, 0], []) rfl rfl rfl ?_
      refine ⟨rfl, ?_⟩
      refine bGo hA 0 15 (23, .iload_n 3, 1, 16, 0, [3], []) rfl rfl rfl ?_
      refine bGo hA 1 0 (24, .invokestatic 50, 3, 17, 1, [2, 140, 2], []) rfl rfl rfl ?_
      refine hC _ _ _ _ _ (bRi_e (fun r5 s3 k4 => ?_)) ((h.1 c1).1 c2)
      show A (17, [.ref 9, .int l1, .int l2, .int l3], [.int r5], s3)
      refine bGo hA 1 1 (27, .iload_n 1, 1, 18, 0, [1], []) rfl rfl rfl ?_
      refine bGo hA 1 2 (28, .if_icmp .ne (5), 3, 19, 21, [], []) rfl rfl rfl ?_
      refine ⟨fun c6 => ?_, fun c6 => ?_⟩
      · refine bGo hA 1 3 (31, .iload_n 3, 1, 20, 0, [3], []) rfl rfl rfl ?_
        refine bGo hA 1 4 (32, .ireturn, 1, 21, 0, [1], []) rfl rfl rfl ?_
        exact (k4.1 c6)
      · refine bGo hA 1 5 (33, .iinc 3 (1), 3, 22, 0, [3], [(1, 0)]) rfl rfl rfl ?_
        refine bGo hA 1 6 (36, .goto (-34), 3, 23, 2, [], []) rfl rfl rfl ?_
        exact (k4.2 c6)
    · refine bGo hA 1 5 (33, .iinc 3 (1), 3, 22, 0, [3], [(1, 0)]) rfl rfl rfl ?_
      refine bGo hA 1 6 (36, .goto (-34), 3, 23, 2, [], []) rfl rfl rfl ?_
      exact ((h.1 c1).2 c2)
  · refine bGo hA 1 7 (39, .iconst (-1), 1, 24, 0, [], [(-1, 0)]) rfl rfl rfl ?_
    refine bGo hA 1 8 (40, .ireturn, 1, 0, 0, [1], []) rfl rfl rfl ?_
    exact (h.2 c1)

theorem sg128_0 {lvl : Nat} {C : bCall} {Q : bPost} {A : bPt → Prop} (hC : bMono C) (hA : bClosed lvl bm128 C Q A)  {σ : bSt} 
  (h : (σ.2.2.2.1 52 = 0 ∧ ((bR (bNew σ 52 2 8) 10 2 (some 52)).2.2.2.1 53 = 0 ∧ ((bR (bNew (bR (bNew σ 52 2 8) 10 2 (some 52)) 53 2 8) 10 3 (some 53)).2.2.2.1 54 = 0 ∧ ((bR (bNew (bR (bNew (bR (bNew σ 52 2 8) 10 2 (some 52)) 53 2 8) 10 3 (some 53)) 54 2 8) 10 4 (some 54)).2.2.2.1 55 = 0 ∧ (bAll (bR (bNew (bR (bNew (bR (bNew (bR (bNew σ 52 2 8) 10 2 (some 52)) 53 2 8) 10 3 (some 53)) 54 2 8) 10 4 (some 54)) 55 2 8) 10 5 (some 55)) 10 [2, 3, 4, 5] ∧ Q (.inl none) (bA (bR (bNew (bR (bNew (bR (bNew (bR (bNew σ 52 2 8) 10 2 (some 52)) 53 2 8) 10 3 (some 53)) 54 2 8) 10 4 (some 54)) 55 2 8) 10 5 (some 55)) 10 2))))))) : A (0, [.retAddr 10], [], σ) := by
  refine bGo hA 0 0 (0, .aload_n 0, 1, 1, 0, [0], []) rfl rfl rfl ?_
  refine bGo hA 0 1 (1, .invokespecial 3, 3, 2, 0, [6, 0, 0], []) rfl rfl rfl ?_
  refine bGo hA 0 2 (4, .aload_n 0, 1, 3, 0, [0], []) rfl rfl rfl ?_
  refine bGo hA 0 3 (5, .bipush (8), 2, 4, 0, [], [(8, 0)]) rfl rfl rfl ?_
  refine bGo hA 0 4 (7, .newarray .int, 2, 5, 0, [52], []) rfl rfl rfl ?_
  refine ⟨h.1, rfl, by decide, ?_⟩
  refine bGo hA 0 5 (9, .putfield 9, 3, 6, 0, [10, 2, 3, 52, 1, 0], []) rfl rfl rfl ?_
  refine ⟨rfl, rfl, ?_⟩
  refine bGo hA 0 6 (12, .aload_n 0, 1, 7, 0, [0], []) rfl rfl rfl ?_
  refine bGo hA 0 7 (13, .bipush (8), 2, 8, 0, [], [(8, 0)]) rfl rfl rfl ?_
  refine bGo hA 0 8 (15, .newarray .int, 2, 9, 0, [53], []) rfl rfl rfl ?_
  refine ⟨h.2.1, rfl, by decide, ?_⟩
  refine bGo hA 0 9 (17, .putfield 15, 3, 10, 0, [10, 3, 3, 53, 1, 0], []) rfl rfl rfl ?_
  refine ⟨rfl, rfl, ?_⟩
  refine bGo hA 0 10 (20, .aload_n 0, 1, 11, 0, [0], []) rfl rfl rfl ?_
  refine bGo hA 0 11 (21, .bipush (8), 2, 12, 0, [], [(8, 0)]) rfl rfl rfl ?_
  refine bGo hA 0 12 (23, .newarray .int, 2, 13, 0, [54], []) rfl rfl rfl ?_
  refine ⟨h.2.2.1, rfl, by decide, ?_⟩
  refine bGo hA 0 13 (25, .putfield 18, 3, 14, 0, [10, 4, 3, 54, 1, 0], []) rfl rfl rfl ?_
  refine ⟨rfl, rfl, ?_⟩
  refine bGo hA 0 14 (28, .aload_n 0, 1, 15, 0, [0], []) rfl rfl rfl ?_
  refine bGo hA 0 15 (29, .bipush (8), 2, 16, 0, [], [(8, 0)]) rfl rfl rfl ?_
  refine bGo hA 1 0 (31, .newarray .int, 2, 17, 0, [55], []) rfl rfl rfl ?_
  refine ⟨h.2.2.2.1, rfl, by decide, ?_⟩
  refine bGo hA 1 1 (33, .putfield 21, 3, 18, 0, [10, 5, 3, 55, 1, 0], []) rfl rfl rfl ?_
  refine ⟨rfl, rfl, ?_⟩
  refine bGo hA 1 2 (36, .return_, 1, 0, 0, [5, 2, 3, 4, 5], []) rfl rfl rfl ?_
  exact h.2.2.2.2

theorem sg129_0 {lvl : Nat} {C : bCall} {Q : bPost} {A : bPt → Prop} (hC : bMono C) (hA : bClosed lvl bm129 C Q A) {x0 : Int32} {x1 : Int32} {σ : bSt} 
  (h : Q (.inl (some (.int ((x0 >>> (((2 * x1) &&& 7) &&& 31)) &&& 3)))) σ) : A (0, [.int x0, .int x1], [], σ) := by
  refine bGo hA 0 0 (0, .iload_n 0, 1, 1, 0, [0], []) rfl rfl rfl ?_
  refine bGo hA 0 1 (1, .iconst (2), 1, 2, 0, [], [(2, 0)]) rfl rfl rfl ?_
  refine bGo hA 0 2 (2, .iload_n 1, 1, 3, 0, [1], []) rfl rfl rfl ?_
  refine bGo hA 0 3 (3, .imul, 1, 4, 0, [], []) rfl rfl rfl ?_
  refine bGo hA 0 4 (4, .bipush (7), 2, 5, 0, [], [(7, 0)]) rfl rfl rfl ?_
  refine bGo hA 0 5 (6, .iand, 1, 6, 0, [], []) rfl rfl rfl ?_
  refine bGo hA 0 6 (7, .ishr, 1, 7, 0, [], []) rfl rfl rfl ?_
  refine bGo hA 0 7 (8, .iconst (3), 1, 8, 0, [], [(3, 0)]) rfl rfl rfl ?_
  refine bGo hA 0 8 (9, .iand, 1, 9, 0, [], []) rfl rfl rfl ?_
  refine bGo hA 0 9 (10, .ireturn, 1, 0, 0, [1], []) rfl rfl rfl ?_
  exact h

theorem sg130_0 {lvl : Nat} {C : bCall} {Q : bPost} {A : bPt → Prop} (hC : bMono C) (hA : bClosed lvl bm130 C Q A) {x0 : Int32} {x1 : Int32} {x2 : Int32} {σ : bSt} 
  (h : Q (.inl (some (.int ((x0 &&& ((3 <<< (((2 * x1) &&& 7) &&& 31)) ^^^ (-1))) ||| (x2 <<< (((2 * x1) &&& 7) &&& 31)))))) σ) : A (0, [.int x0, .int x1, .int x2, .float 0], [], σ) := by
  refine bGo hA 0 0 (0, .iconst (2), 1, 1, 0, [], [(2, 0)]) rfl rfl rfl ?_
  refine bGo hA 0 1 (1, .iload_n 1, 1, 2, 0, [1], []) rfl rfl rfl ?_
  refine bGo hA 0 2 (2, .imul, 1, 3, 0, [], []) rfl rfl rfl ?_
  refine bGo hA 0 3 (3, .bipush (7), 2, 4, 0, [], [(7, 0)]) rfl rfl rfl ?_
  refine bGo hA 0 4 (5, .iand, 1, 5, 0, [], []) rfl rfl rfl ?_
  refine bGo hA 0 5 (6, .istore_n 3, 1, 6, 0, [3], []) rfl rfl rfl ?_
  refine bGo hA 0 6 (7, .iload_n 0, 1, 7, 0, [0], []) rfl rfl rfl ?_
  refine bGo hA 0 7 (8, .iconst (3), 1, 8, 0, [], [(3, 0)]) rfl rfl rfl ?_
  refine bGo hA 0 8 (9, .iload_n 3, 1, 9, 0, [3], []) rfl rfl rfl ?_
  refine bGo hA 0 9 (10, .ishl, 1, 10, 0, [], []) rfl rfl rfl ?_
  refine bGo hA 0 10 (11, .iconst (-1), 1, 11, 0, [], [(-1, 0)]) rfl rfl rfl ?_
  refine bGo hA 0 11 (12, .ixor, 1, 12, 0, [], []) rfl rfl rfl ?_
  refine bGo hA 0 12 (13, .iand, 1, 13, 0, [], []) rfl rfl rfl ?_
  refine bGo hA 0 13 (14, .iload_n 2, 1, 14, 0, [2], []) rfl rfl rfl ?_
  refine bGo hA 0 14 (15, .iload_n 3, 1, 15, 0, [3], []) rfl rfl rfl ?_
  refine bGo hA 0 15 (16, .ishl, 1, 16, 0, [], []) rfl rfl rfl ?_
  refine bGo hA 1 0 (17, .ior, 1, 17, 0, [], []) rfl rfl rfl ?_
  refine bGo hA 1 1 (18, .ireturn, 1, 0, 0, [1], []) rfl rfl rfl ?_
  exact h

theorem sg131_0 {lvl : Nat} {C : bCall} {Q : bPost} {A : bPt → Prop} (hC : bMono C) (hA : bClosed lvl bm131 C Q A) {x1 : Int32} {x2 : Int32} {σ : bSt} 
  (h : (C 129 [.int (σ.1 10 0), .int x1] σ (bRi (fun r3 s1 => (C 130 [.int (s1.1 10 0), .int x1, .int x2] s1 (bRi (fun r6 s4 => Q (.inl (some (.int r3))) (bI s4 10 0 r6)))))))) : A (0, [.ref 10, .int x1, .int x2, .float 0], [], σ) := by
  refine bGo hA 0 0 (0, .aload_n 0, 1, 1, 0, [0], []) rfl rfl rfl ?_
  refine bGo hA 0 1 (1, .getfield 24, 3, 2, 0, [10, 0, 0, 0, 0, 0], []) rfl rfl rfl ?_
  refine ⟨rfl, ?_⟩
  refine bGo hA 0 2 (4, .iload_n 1, 1, 3, 0, [1], []) rfl rfl rfl ?_
  refine bGo hA 0 3 (5, .invokestatic 28, 3, 4, 0, [2, 129, 2], []) rfl rfl rfl ?_
  refine hC _ _ _ _ _ (bRi_e (fun r3 s1 k2 => ?_)) h
  show A (4, [.ref 10, .int x1, .int x2, .float 0], [.int r3], s1)
  refine bGo hA 0 4 (8, .istore_n 3, 1, 5, 0, [3], []) rfl rfl rfl ?_
  refine bGo hA 0 5 (9, .aload_n 0, 1, 6, 0, [0], []) rfl rfl rfl ?_
  refine bGo hA 0 6 (10, .aload_n 0, 1, 7, 0, [0], []) rfl rfl rfl ?_
  refine bGo hA 0 7 (11, .getfield 24, 3, 8, 0, [10, 0, 0, 0, 0, 0], []) rfl rfl rfl ?_
  refine ⟨rfl, ?_⟩
  refine bGo hA 0 8 (14, .iload_n 1, 1, 9, 0, [1], []) rfl rfl rfl ?_
  refine bGo hA 0 9 (15, .iload_n 2, 1, 10, 0, [2], []) rfl rfl rfl ?_
  refine bGo hA 0 10 (16, .invokestatic 32, 3, 11, 0, [2, 130, 3], []) rfl rfl rfl ?_
  refine hC _ _ _ _ _ (bRi_e (fun r6 s4 k5 => ?_)) k2
  show A (11, [.ref 10, .int x1, .int x2, .int r3], [.int r6, .ref 10], s4)
  refine bGo hA 0 11 (19, .putfield 24, 3, 12, 0, [10, 0, 0, 0, 0, 0], []) rfl rfl rfl ?_
  refine ⟨rfl, ?_⟩
  refine bGo hA 0 12 (22, .iload_n 3, 1, 13, 0, [3], []) rfl rfl rfl ?_
  refine bGo hA 0 13 (23, .ireturn, 1, 0, 0, [1], []) rfl rfl rfl ?_
  exact k5

theorem sg132_0 {lvl : Nat} {C : bCall} {Q : bPost} {A : bPt → Prop} (hC : bMono C) (hA : bClosed lvl bm132 C Q A) {x1 : Int32} {x2 : Int32} {x3 : Int32} {x4 : Int32} {σ : bSt} 
  (h : (C 141 [.ref 52, .int (σ.1 10 1), .int x1] σ (bRv (fun s1 => (C 141 [.ref 53, .int (s1.1 10 1), .int x2] s1 (bRv (fun s3 => (C 141 [.ref 54, .int (s3.1 10 1), .int x3] s3 (bRv (fun s5 => (C 141 [.ref 55, .int (s5.1 10 1), .int x4] s5 (bRv (fun s7 => Q (.inl (some (.int ((bI s7 10 1 ((s7.1 10 1) + 1)).1 10 1)))) (bI s7 10 1 ((s7.1 10 1) + 1))))))))))))))) : A (0, [.ref 10, .int x1, .int x2, .int x3, .int x4], [], σ) := by
  refine bGo hA 0 0 (0, .aload_n 0, 1, 1, 0, [0], []) rfl rfl rfl ?_
  refine bGo hA 0 1 (1, .getfield 9, 3, 2, 0, [10, 2, 3, 52, 1, 0], []) rfl rfl rfl ?_
  refine ⟨rfl, ?_⟩
  refine bGo hA 0 2 (4, .aload_n 0, 1, 3, 0, [0], []) rfl rfl rfl ?_
  refine bGo hA 0 3 (5, .getfield 36, 3, 4, 0, [10, 1, 0, 0, 0, 0], []) rfl rfl rfl ?_
  refine ⟨rfl, ?_⟩
  refine bGo hA 0 4 (8, .iload_n 1, 1, 5, 0, [1], []) rfl rfl rfl ?_
  refine bGo hA 0 5 (9, .invokestatic 39, 3, 6, 1, [2, 141, 3], []) rfl rfl rfl ?_
  refine hC _ _ _ _ _ (bRv_e (fun s1 k2 => ?_)) h
  show A (6, [.ref 10, .int x1, .int x2, .int x3, .int x4], [], s1)
  refine bGo hA 0 6 (12, .aload_n 0, 1, 7, 0, [0], []) rfl rfl rfl ?_
  refine bGo hA 0 7 (13, .getfield 15, 3, 8, 0, [10, 3, 3, 53, 1, 0], []) rfl rfl rfl ?_
  refine ⟨rfl, ?_⟩
  refine bGo hA 0 8 (16, .aload_n 0, 1, 9, 0, [0], []) rfl rfl rfl ?_
  refine bGo hA 0 9 (17, .getfield 36, 3, 10, 0, [10, 1, 0, 0, 0, 0], []) rfl rfl rfl ?_
  refine ⟨rfl, ?_⟩
  refine bGo hA 0 10 (20, .iload_n 2, 1, 11, 0, [2], []) rfl rfl rfl ?_
  refine bGo hA 0 11 (21, .invokestatic 39, 3, 12, 1, [2, 141, 3], []) rfl rfl rfl ?_
  refine hC _ _ _ _ _ (bRv_e (fun s3 k4 => ?_)) k2
  show A (12, [.ref 10, .int x1, .int x2, .int x3, .int x4], [], s3)
  refine bGo hA 0 12 (24, .aload_n 0, 1, 13, 0, [0], []) rfl rfl rfl ?_
  refine bGo hA 0 13 (25, .getfield 18, 3, 14, 0, [10, 4, 3, 54, 1, 0], []) rfl rfl rfl ?_
  refine ⟨rfl, ?_⟩
  refine bGo hA 0 14 (28, .aload_n 0, 1, 15, 0, [0], []) rfl rfl rfl ?_
  refine bGo hA 0 15 (29, .getfield 36, 3, 16, 0, [10, 1, 0, 0, 0, 0], []) rfl rfl rfl ?_
  refine ⟨rfl, ?_⟩
  refine bGo hA 1 0 (32, .iload_n 3, 1, 17, 0, [3], []) rfl rfl rfl ?_
  refine bGo hA 1 1 (33, .invokestatic 39, 3, 18, 1, [2, 141, 3], []) rfl rfl rfl ?_
  refine hC _ _ _ _ _ (bRv_e (fun s5 k6 => ?_)) k4
  show A (18, [.ref 10, .int x1, .int x2, .int x3, .int x4], [], s5)
  refine bGo hA 1 2 (36, .aload_n 0, 1, 19, 0, [0], []) rfl rfl rfl ?_
  refine bGo hA 1 3 (37, .getfield 21, 3, 20, 0, [10, 5, 3, 55, 1, 0], []) rfl rfl rfl ?_
  refine ⟨rfl, ?_⟩
  refine bGo hA 1 4 (40, .aload_n 0, 1, 21, 0, [0], []) rfl rfl rfl ?_
  refine bGo hA 1 5 (41, .getfield 36, 3, 22, 0, [10, 1, 0, 0, 0, 0], []) rfl rfl rfl ?_
  refine ⟨rfl, ?_⟩
  refine bGo hA 1 6 (44, .iload 4, 2, 23, 0, [4], []) rfl rfl rfl ?_
  refine bGo hA 1 7 (46, .invokestatic 39, 3, 24, 1, [2, 141, 3], []) rfl rfl rfl ?_
  refine hC _ _ _ _ _ (bRv_e (fun s7 k8 => ?_)) k6
  show A (24, [.ref 10, .int x1, .int x2, .int x3, .int x4], [], s7)
  refine bGo hA 1 8 (49, .aload_n 0, 1, 25, 0, [0], []) rfl rfl rfl ?_
  refine bGo hA 1 9 (50, .dup, 1, 26, 0, [], []) rfl rfl rfl ?_
  refine bGo hA 1 10 (51, .getfield 36, 3, 27, 0, [10, 1, 0, 0, 0, 0], []) rfl rfl rfl ?_
  refine ⟨rfl, ?_⟩
  refine bGo hA 1 11 (54, .iconst (1), 1, 28, 0, [], [(1, 0)]) rfl rfl rfl ?_
  refine bGo hA 1 12 (55, .iadd, 1, 29, 0, [], []) rfl rfl rfl ?_
  refine bGo hA 1 13 (56, .putfield 36, 3, 30, 0, [10, 1, 0, 0, 0, 0], []) rfl rfl rfl ?_
  refine ⟨rfl, ?_⟩
  refine bGo hA 1 14 (59, .aload_n 0, 1, 31, 0, [0], []) rfl rfl rfl ?_
  refine bGo hA 1 15 (60, .getfield 36, 3, 32, 0, [10, 1, 0, 0, 0, 0], []) rfl rfl rfl ?_
  refine ⟨rfl, ?_⟩
  refine bGo hA 2 0 (63, .ireturn, 1, 0, 0, [1], []) rfl rfl rfl ?_
  exact k8

theorem sg133_0 {lvl : Nat} {C : bCall} {Q : bPost} {A : bPt → Prop} (hC : bMono C) (hA : bClosed lvl bm133 C Q A) {x1 : Int32} {σ : bSt} 
  (h : (C 142 [.ref 52, .int x1, .int (σ.1 10 1)] σ (bRv (fun s1 => (C 142 [.ref 53, .int x1, .int (s1.1 10 1)] s1 (bRv (fun s3 => (C 142 [.ref 54, .int x1, .int (s3.1 10 1)] s3 (bRv (fun s5 => (C 142 [.ref 55, .int x1, .int (s5.1 10 1)] s5 (bRv (fun s7 => Q (.inl (some (.int ((bI s7 10 1 ((s7.1 10 1) - 1)).1 10 1)))) (bI s7 10 1 ((s7.1 10 1) - 1))))))))))))))) : A (0, [.ref 10, .int x1], [], σ) := by
  refine bGo hA 0 0 (0, .aload_n 0, 1, 1, 0, [0], []) rfl rfl rfl ?_
  refine bGo hA 0 1 (1, .getfield 9, 3, 2, 0, [10, 2, 3, 52, 1, 0], []) rfl rfl rfl ?_
  refine ⟨rfl, ?_⟩
  refine bGo hA 0 2 (4, .iload_n 1, 1, 3, 0, [1], []) rfl rfl rfl ?_
  refine bGo hA 0 3 (5, .aload_n 0, 1, 4, 0, [0], []) rfl rfl rfl ?_
  refine bGo hA 0 4 (6, .getfield 36, 3, 5, 0, [10, 1, 0, 0, 0, 0], []) rfl rfl rfl ?_
  refine ⟨rfl, ?_⟩
  refine bGo hA 0 5 (9, .invokestatic 43, 3, 6, 1, [2, 142, 3], []) rfl rfl rfl ?_
  refine hC _ _ _ _ _ (bRv_e (fun s1 k2 => ?_)) h
  show A (6, [.ref 10, .int x1], [], s1)
  refine bGo hA 0 6 (12, .aload_n 0, 1, 7, 0, [0], []) rfl rfl rfl ?_
  refine bGo hA 0 7 (13, .getfield 15, 3, 8, 0, [10, 3, 3, 53, 1, 0], []) rfl rfl rfl ?_
  refine ⟨rfl, ?_⟩
  refine bGo hA 0 8 (16, .iload_n 1, 1, 9, 0, [1], []) rfl rfl rfl ?_
  refine bGo hA 0 9 (17, .aload_n 0, 1, 10, 0, [0], []) rfl rfl rfl ?_
  refine bGo hA 0 10 (18, .getfield 36, 3, 11, 0, [10, 1, 0, 0, 0, 0], []) rfl rfl rfl ?_
  refine ⟨rfl, ?_⟩
  refine bGo hA 0 11 (21, .invokestatic 43, 3, 12, 1, [2, 142, 3], []) rfl rfl rfl ?_
  refine hC _ _ _ _ _ (bRv_e (fun s3 k4 => ?_)) k2
  show A (12, [.ref 10, .int x1], [], s3)
  refine bGo hA 0 12 (24, .aload_n 0, 1, 13, 0, [0], []) rfl rfl rfl ?_
  refine bGo hA 0 13 (25, .getfield 18, 3, 14, 0, [10, 4, 3, 54, 1, 0], []) rfl rfl rfl ?_
  refine ⟨rfl, ?_⟩
  refine bGo hA 0 14 (28, .iload_n 1, 1, 15, 0, [1], []) rfl rfl rfl ?_
  refine bGo hA 0 15 (29, .aload_n 0, 1, 16, 0, [0], []) rfl rfl rfl ?_
  refine bGo hA 1 0 (30, .getfield 36, 3, 17, 0, [10, 1, 0, 0, 0, 0], []) rfl rfl rfl ?_
  refine ⟨rfl, ?_⟩
  refine bGo hA 1 1 (33, .invokestatic 43, 3, 18, 1, [2, 142, 3], []) rfl rfl rfl ?_
  refine hC _ _ _ _ _ (bRv_e (fun s5 k6 => ?_)) k4
  show A (18, [.ref 10, .int x1], [], s5)
  refine bGo hA 1 2 (36, .aload_n 0, 1, 19, 0, [0], []) rfl rfl rfl ?_
  refine bGo hA 1 3 (37, .getfield 21, 3, 20, 0, [10, 5, 3, 55, 1, 0], []) rfl rfl rfl ?_
  refine ⟨rfl, ?_⟩
  refine bGo hA 1 4 (40, .iload_n 1, 1, 21, 0, [1], []) rfl rfl rfl ?_
  refine bGo hA 1 5 (41, .aload_n 0, 1, 22, 0, [0], []) rfl rfl rfl ?_
  refine bGo hA 1 6 (42, .getfield 36, 3, 23, 0, [10, 1, 0, 0, 0, 0], []) rfl rfl rfl ?_
  refine ⟨rfl, ?_⟩
  refine bGo hA 1 7 (45, .invokestatic 43, 3, 24, 1, [2, 142, 3], []) rfl rfl rfl ?_
  refine hC _ _ _ _ _ (bRv_e (fun s7 k8 => ?_)) k6
  show A (24, [.ref 10, .int x1], [], s7)
  refine bGo hA 1 8 (48, .aload_n 0, 1, 25, 0, [0], []) rfl rfl rfl ?_
  refine bGo hA 1 9 (49, .dup, 1, 26, 0, [], []) rfl rfl rfl ?_
  refine bGo hA 1 10 (50, .getfield 36, 3, 27, 0, [10, 1, 0, 0, 0, 0], []) rfl rfl rfl ?_
  refine ⟨rfl, ?_⟩
  refine bGo hA 1 11 (53, .iconst (1), 1, 28, 0, [], [(1, 0)]) rfl rfl rfl ?_
  refine bGo hA 1 12 (54, .isub, 1, 29, 0, [], []) rfl rfl rfl ?_
  refine bGo hA 1 13 (55, .putfield 36, 3, 30, 0, [10, 1, 0, 0, 0, 0], []) rfl rfl rfl ?_
  refine ⟨rfl, ?_⟩
  refine bGo hA 1 14 (58, .aload_n 0, 1, 31, 0, [0], []) rfl rfl rfl ?_
  refine bGo hA 1 15 (59, .getfield 36, 3, 32, 0, [10, 1, 0, 0, 0, 0], []) rfl rfl rfl ?_
  refine ⟨rfl, ?_⟩
  refine bGo hA 2 0 (62, .ireturn, 1, 0, 0, [1], []) rfl rfl rfl ?_
  exact k8

theorem sg134_0 {lvl : Nat} {C : bCall} {Q : bPost} {A : bPt → Prop} (hC : bMono C) (hA : bClosed lvl bm134 C Q A) {x1 : Int32} {x2 : Int32} {σ : bSt} 
  (h : A (2, [.ref 10, .int x1, .int x2, .int 0, .float 0, .float 0], [], σ)) : A (0, [.ref 10, .int x1, .int x2, .float 0, .float 0, .float 0], [], σ) := by
  refine bGo hA 0 0 (0, .iconst (0), 1, 1, 0, [], [(0, 0)]) rfl rfl rfl ?_
  refine bGo hA 0 1 (1, .istore_n 3, 1, 2, 0, [3], []) rfl rfl rfl ?_
  exact h

theorem sg134_2 {lvl : Nat} {C : bCall} {Q : bPost} {A : bPt → Prop} (hC : bMono C) (hA : bClosed lvl bm134 C Q A) {l1 : Int32} {l2 : Int32} {l3 : Int32} {v4 : Value} {v5 : Value} {σ : bSt} 
  (h : ((l3 < (σ.1 10 1) → (C 140 [.ref 53, .int l3] σ (bRi (fun r4 s2 => ((r4 = (-1) → (C 140 [.ref 52, .int l3] s2 (bRi (fun r9 s7 => ((r9 = l1 → (C 140 [.ref 55, .int l3] s7 (bRi (fun r13 s11 => Q (.inl (some (.int r13))) s11)))) ∧ (¬ r9 = l1 → A (2, [.ref 10, .int l1, .int l2, .int (l3 + 1), .int r4, .int 1], [], s7))))))) ∧ (¬ r4 = (-1) → (C 129 [.int l2, .int r4] s2 (bRi (fun r16 s14 => (C 140 [.ref 54, .int l3] s14 (bRi (fun r19 s17 => ((r16 = r19 → (C 140 [.ref 52, .int l3] s17 (bRi (fun r24 s22 => ((r24 = l1 → (C 140 [.ref 55, .int l3] s22 (bRi (fun r28 s26 => Q (.inl (some (.int r28))) s26)))) ∧ (¬ r24 = l1 → A (2, [.ref 10, .int l1, .int l2, .int (l3 + 1), .int r4, .int 1], [], s22))))))) ∧ (¬ r16 = r19 → A (2, [.ref 10, .int l1, .int l2, .int (l3 + 1), .int r4, .int 0], [], s17))))))))))))))) ∧ (¬ l3 < (σ.1 10 1) → Q (.inl (some (.int (-1)))) σ))) : A (2, [.ref 10, .int l1, .int l2, .int l3, v4, v5], [], σ) := by
  refine bGo hA 0 2 (2, .iload_n 3, 1, 3, 0, [3], []) rfl rfl rfl ?_
  refine bGo hA 0 3 (3, .aload_n 0, 1, 4, 0, [0], []) rfl rfl rfl ?_
  refine bGo hA 0 4 (4, .getfield 36, 3, 5, 0, [10, 1, 0, 0, 0, 0], []) rfl rfl rfl ?_
  refine ⟨rfl, ?_⟩
  refine bGo hA 0 5 (7, .if_icmp .ge (75), 3, 6, 41, [], []) rfl rfl rfl ?_
  refine ⟨fun c1 => ?_, fun c1 => ?_⟩
  · refine bGo hA 0 6 (10, .aload_n 0, 1, 7, 0, [0], []) rfl rfl rfl ?_
    refine bGo hA 0 7 (11, .getfield 15, 3, 8, 0, [10, 3, 3, 53, 1, 0], []) rfl rfl rfl ?_
    refine ⟨rfl, ?_⟩
    refine bGo hA 0 8 (14, .iload_n 3, 1, 9, 0, [3], []) rfl rfl rfl ?_
    refine bGo hA 0 9 (15, .invokestatic 46, 3, 10, 1, [2, 140, 2], []) rfl rfl rfl ?_
    refine hC _ _ _ _ _ (bRi_e (fun r4 s2 k3 => ?_)) (h.1 c1)
    show A (10, [.ref 10, .int l1, .int l2, .int l3, v4, v5], [.int r4], s2)
    refine bGo hA 0 10 (18, .istore 4, 2, 11, 0, [4], []) rfl rfl rfl ?_
    refine bGo hA 0 11 (20, .iload 4, 2, 12, 0, [4], []) rfl rfl rfl ?_
    refine bGo hA 0 12 (22, .iconst (-1), 1, 13, 0, [], [(-1, 0)]) rfl rfl rfl ?_
    refine bGo hA 0 13 (23, .if_icmp .eq (20), 3, 14, 22, [], []) rfl rfl rfl ?_
    refine ⟨fun c5 => ?_, fun c5 => ?_⟩
    · refine bGo hA 1 6 (43, .iconst (1), 1, 23, 0, [], [(1, 0)]) rfl rfl rfl ?_
      refine bGo hA 1 7 (44, .goto (4), 3, 24, 25, [], []) rfl rfl rfl ?_
      refine bGo hA 1 9 (48, .istore 5, 2, 26, 0, [5], []) rfl rfl rfl ?_
      refine bGo hA 1 10 (50, .iload 5, 2, 27, 0, [5], []) rfl rfl rfl ?_
      refine bGo hA 1 11 (52, .ifCond .eq (24), 3, 28, 39, [], []) rfl rfl rfl ?_
      refine ⟨fun c => absurd c (by decide), fun _ => ?_⟩
      refine bGo hA 1 12 (55, .aload_n 0, 1, 29, 0, [0], []) rfl rfl rfl ?_
      refine bGo hA 1 13 (56, .getfield 9, 3, 30, 0, [10, 2, 3, 52, 1, 0], []) rfl rfl rfl ?_
      refine ⟨rfl, ?_⟩
      refine bGo hA 1 14 (59, .iload_n 3, 1, 31, 0, [3], []) rfl rfl rfl ?_
      refine bGo hA 1 15 (60, .invokestatic 46, 3, 32, 1, [2, 140, 2], []) rfl rfl rfl ?_
      refine hC _ _ _ _ _ (bRi_e (fun r9 s7 k8 => ?_)) (k3.1 c5)
      show A (32, [.ref 10, .int l1, .int l2, .int l3, .int r4, .int 1], [.int r9], s7)
      refine bGo hA 2 0 (63, .iload_n 1, 1, 33, 0, [1], []) rfl rfl rfl ?_
      refine bGo hA 2 1 (64, .if_icmp .ne (12), 3, 34, 39, [], []) rfl rfl rfl ?_
      refine ⟨fun c10 => ?_, fun c10 => ?_⟩
      · refine bGo hA 2 2 (67, .aload_n 0, 1, 35, 0, [0], []) rfl rfl rfl ?_
        refine bGo hA 2 3 (68, .getfield 21, 3, 36, 0, [10, 5, 3, 55, 1, 0], []) rfl rfl rfl ?_
        refine ⟨rfl, ?_⟩
        refine bGo hA 2 4 (71, .iload_n 3, 1, 37, 0, [3], []) rfl rfl rfl ?_
        refine bGo hA 2 5 (72, .invokestatic 46, 3, 38, 1, [2, 140, 2], []) rfl rfl rfl ?_
        refine hC _ _ _ _ _ (bRi_e (fun r13 s11 k12 => ?_)) (k8.1 c10)
        show A (38, [.ref 10, .int l1, .int l2, .int l3, .int r4, .int 1], [.int r13], s11)
        refine bGo hA 2 6 (75, .ireturn, 1, 39, 0, [1], []) rfl rfl rfl ?_
        exact k12
      · refine bGo hA 2 7 (76, .iinc 3 (1), 3, 40, 0, [3], [(1, 0)]) rfl rfl rfl ?_
        refine bGo hA 2 8 (79, .goto (-77), 3, 41, 2, [], []) rfl rfl rfl ?_
        exact (k8.2 c10)
    · refine bGo hA 0 14 (26, .iload_n 2, 1, 15, 0, [2], []) rfl rfl rfl ?_
      refine bGo hA 0 15 (27, .iload 4, 2, 16, 0, [4], []) rfl rfl rfl ?_
      refine bGo hA 1 0 (29, .invokestatic 28, 3, 17, 0, [2, 129, 2], []) rfl rfl rfl ?_
      refine hC _ _ _ _ _ (bRi_e (fun r16 s14 k15 => ?_)) (k3.2 c5)
      show A (17, [.ref 10, .int l1, .int l2, .int l3, .int r4, v5], [.int r16], s14)
      refine bGo hA 1 1 (32, .aload_n 0, 1, 18, 0, [0], []) rfl rfl rfl ?_
      refine bGo hA 1 2 (33, .getfield 18, 3, 19, 0, [10, 4, 3, 54, 1, 0], []) rfl rfl rfl ?_
      refine ⟨rfl, ?_⟩
      refine bGo hA 1 3 (36, .iload_n 3, 1, 20, 0, [3], []) rfl rfl rfl ?_
      refine bGo hA 1 4 (37, .invokestatic 46, 3, 21, 1, [2, 140, 2], []) rfl rfl rfl ?_
      refine hC _ _ _ _ _ (bRi_e (fun r19 s17 k18 => ?_)) k15
      show A (21, [.ref 10, .int l1, .int l2, .int l3, .int r4, v5], [.int r19, .int r16], s17)
      refine bGo hA 1 5 (40, .if_icmp .ne (7), 3, 22, 24, [], []) rfl rfl rfl ?_
      refine ⟨fun c20 => ?_, fun c20 => ?_⟩
      · refine bGo hA 1 6 (43, .iconst (1), 1, 23, 0, [], [(1, 0)]) rfl rfl rfl ?_
        refine bGo hA 1 7 (44, .goto (4), 3, 24, 25, [], []) rfl rfl rfl ?_
        refine bGo hA 1 9 (48, .istore 5, 2, 26, 0, [5], []) rfl rfl rfl ?_
        refine bGo hA 1 10 (50, .iload 5, 2, 27, 0, [5], []) rfl rfl rfl ?_
        refine bGo hA 1 11 (52, .ifCond .eq (24), 3, 28, 39, [], []) rfl rfl rfl ?_
        refine ⟨fun c => absurd c (by decide), fun _ => ?_⟩
        refine bGo hA 1 12 (55, .aload_n 0, 1, 29, 0, [0], []) rfl rfl rfl ?_
        refine bGo hA 1 13 (56, .getfield 9, 3, 30, 0, [10, 2, 3, 52, 1, 0], []) rfl rfl rfl ?_
        refine ⟨rfl, ?_⟩
        refine bGo hA 1 14 (59, .iload_n 3, 1, 31, 0, [3], []) rfl rfl rfl ?_
        refine bGo hA 1 15 (60, .invokestatic 46, 3, 32, 1, [2, 140, 2], []) rfl rfl rfl ?_
        refine hC _ _ _ _ _ (bRi_e (fun r24 s22 k23 => ?_)) (k18.1 c20)
        show A (32, [.ref 10, .int l1, .int l2, .int l3, .int r4, .int 1], [.int r24], s22)
        refine bGo hA 2 0 (63, .iload_n 1, 1, 33, 0, [1], []) rfl rfl rfl ?_
        refine bGo hA 2 1 (64, .if_icmp .ne (12), 3, 34, 39, [], []) rfl rfl rfl ?_
        refine ⟨fun c25 => ?_, fun c25 => ?_⟩
        · refine bGo hA 2 2 (67, .aload_n 0, 1, 35, 0, [0], []) rfl rfl rfl ?_
          refine bGo hA 2 3 (68, .getfield 21, 3, 36, 0, [10, 5, 3, 55, 1, 0], []) rfl rfl rfl ?_
          refine ⟨rfl, ?_⟩
          refine bGo hA 2 4 (71, .iload_n 3, 1, 37, 0, [3], []) rfl rfl rfl ?_
          refine bGo hA 2 5 (72, .invokestatic 46, 3, 38, 1, [2, 140, 2], []) rfl rfl rfl ?_
          refine hC _ _ _ _ _ (bRi_e (fun r28 s26 k27 => ?_)) (k23.1 c25)
          show A (38, [.ref 10, .int l1, .int l2, .int l3, .int r4, .int 1], [.int r28], s26)
          refine bGo hA 2 6 (75, .ireturn, 1, 39, 0, [1], []) rfl rfl rfl ?_
          exact k27
        · refine bGo hA 2 7 (76, .iinc 3 (1), 3, 40, 0, [3], [(1, 0)]) rfl rfl rfl ?_
          refine bGo hA 2 8 (79, .goto (-77), 3, 41, 2, [], []) rfl rfl rfl ?_
          exact (k23.2 c25)
      · refine bGo hA 1 8 (47, .iconst (0), 1, 25, 0, [], [(0, 0)]) rfl rfl rfl ?_
        refine bGo hA 1 9 (48, .istore 5, 2, 26, 0, [5], []) rfl rfl rfl ?_
        refine bGo hA 1 10 (50, .iload 5, 2, 27, 0, [5], []) rfl rfl rfl ?_
        refine bGo hA 1 11 (52, .ifCond .eq (24), 3, 28, 39, [], []) rfl rfl rfl ?_
        refine ⟨fun _ => ?_, fun c => absurd (by decide) c⟩
        refine bGo hA 2 7 (76, .iinc 3 (1), 3, 40, 0, [3], [(1, 0)]) rfl rfl rfl ?_
        refine bGo hA 2 8 (79, .goto (-77), 3, 41, 2, [], []) rfl rfl rfl ?_
        exact (k18.2 c20)
  · refine bGo hA 2 9 (82, .iconst (-1), 1, 42, 0, [], [(-1, 0)]) rfl rfl rfl ?_
    refine bGo hA 2 10 (83, .ireturn, 1, 0, 0, [1], []) rfl rfl rfl ?_
    exact (h.2 c1)

theorem sg135_0 {lvl : Nat} {C : bCall} {Q : bPost} {A : bPt → Prop} (hC : bMono C) (hA : bClosed lvl bm135 C Q A)  {σ : bSt} 
  (h : (σ.2.2.2.1 3 = 0 ∧ (C 30 [.retAddr 3] (bNew σ 3 1 4) (bRv (fun s1 => ((bR s1 11 0 (some 3)).2.2.2.1 7 = 0 ∧ (C 90 [.retAddr 7] (bNew (bR s1 11 0 (some 3)) 7 1 16) (bRv (fun s3 => ((bR s3 11 1 (some 7)).2.2.2.1 10 = 0 ∧ (C 128 [.retAddr 10] (bNew (bR s3 11 1 (some 7)) 10 1 6) (bRv (fun s5 => ((bR s5 11 2 (some 10)).2.2.2.1 9 = 0 ∧ (C 119 [.retAddr 9] (bNew (bR s5 11 2 (some 10)) 9 1 4) (bRv (fun s7 => ((bR s7 11 3 (some 9)).2.2.2.1 6 = 0 ∧ (((bNew (bR s7 11 3 (some 9)) 6 1 16).2.2.1 11 0).isSome = true ∧ (((bNew (bR s7 11 3 (some 9)) 6 1 16).2.2.1 11 1).isSome = true ∧ (((bNew (bR s7 11 3 (some 9)) 6 1 16).2.2.1 11 2).isSome = true ∧ (((bNew (bR s7 11 3 (some 9)) 6 1 16).2.2.1 11 3).isSome = true ∧ (C 67 [.retAddr 6, .ref 3, .ref 7, .ref 10, .ref 9] (bNew (bR s7 11 3 (some 9)) 6 1 16) (bRv (fun s9 => ((bR s9 11 4 (some 6)).2.2.2.1 5 = 0 ∧ (((bNew (bR s9 11 4 (some 6)) 5 1 13).2.2.1 11 0).isSome = true ∧ (((bNew (bR s9 11 4 (some 6)) 5 1 13).2.2.1 11 4).isSome = true ∧ (C 45 [.retAddr 5, .ref 3, .ref 6] (bNew (bR s9 11 4 (some 6)) 5 1 13) (bRv (fun s11 => (bAll (bJ (bR s11 11 5 (some 5)) 11 7 (Int64.ofNat 1)) 11 [0, 1, 2, 3, 4, 5] ∧ Q (.inl none) (bA (bJ (bR s11 11 5 (some 5)) 11 7 (Int64.ofNat 1)) 11 2))))))))))))))))))))))))))))))))) : A (0, [.retAddr 11], [], σ) := by
  refine bGo hA 0 0 (0, .aload_n 0, 1, 1, 0, [0], []) rfl rfl rfl ?_
  refine bGo hA 0 1 (1, .invokespecial 3, 3, 2, 0, [6, 0, 0], []) rfl rfl rfl ?_
  refine bGo hA 0 2 (4, .aload_n 0, 1, 3, 0, [0], []) rfl rfl rfl ?_
  refine bGo hA 0 3 (5, .new 9, 3, 4, 0, [0, 3, 4, 0, 0], []) rfl rfl rfl ?_
  refine ⟨h.1, ?_⟩
  refine bGo hA 0 4 (8, .dup, 1, 5, 0, [], []) rfl rfl rfl ?_
  refine bGo hA 0 5 (9, .invokespecial 11, 3, 6, 0, [4, 3, 30, 0], []) rfl rfl rfl ?_
  refine ⟨rfl, rfl, ?_⟩
  refine hC _ _ _ _ _ (bRv_e (fun s1 k2 => ?_)) h.2
  show A (6, [.retAddr 11], [.ref 3, .retAddr 11], s1)
  refine bGo hA 0 6 (12, .putfield 12, 3, 7, 0, [11, 0, 3, 3, 0, 0], []) rfl rfl rfl ?_
  refine ⟨rfl, rfl, ?_⟩
  refine bGo hA 0 7 (15, .aload_n 0, 1, 8, 0, [0], []) rfl rfl rfl ?_
  refine bGo hA 0 8 (16, .new 16, 3, 9, 0, [0, 7, 16, 0, 0], []) rfl rfl rfl ?_
  refine ⟨k2.1, ?_⟩
  refine bGo hA 0 9 (19, .dup, 1, 10, 0, [], []) rfl rfl rfl ?_
  refine bGo hA 0 10 (20, .invokespecial 18, 3, 11, 1, [4, 7, 90, 0], []) rfl rfl rfl ?_
  refine ⟨rfl, rfl, ?_⟩
  refine hC _ _ _ _ _ (bRv_e (fun s3 k4 => ?_)) k2.2
  show A (11, [.retAddr 11], [.ref 7, .retAddr 11], s3)
  refine bGo hA 0 11 (23, .putfield 19, 3, 12, 0, [11, 1, 3, 7, 0, 0], []) rfl rfl rfl ?_
  refine ⟨rfl, rfl, ?_⟩
  refine bGo hA 0 12 (26, .aload_n 0, 1, 13, 0, [0], []) rfl rfl rfl ?_
  refine bGo hA 0 13 (27, .new 23, 3, 14, 0, [0, 10, 6, 0, 0], []) rfl rfl rfl ?_
  refine ⟨k4.1, ?_⟩
  refine bGo hA 0 14 (30, .dup, 1, 15, 0, [], []) rfl rfl rfl ?_
  refine bGo hA 0 15 (31, .invokespecial 25, 3, 16, 1, [4, 10, 128, 0], []) rfl rfl rfl ?_
  refine ⟨rfl, rfl, ?_⟩
  refine hC _ _ _ _ _ (bRv_e (fun s5 k6 => ?_)) k4.2
  show A (16, [.retAddr 11], [.ref 10, .retAddr 11], s5)
  refine bGo hA 1 0 (34, .putfield 26, 3, 17, 0, [11, 2, 3, 10, 0, 0], []) rfl rfl rfl ?_
  refine ⟨rfl, rfl, ?_⟩
  refine bGo hA 1 1 (37, .aload_n 0, 1, 18, 0, [0], []) rfl rfl rfl ?_
  refine bGo hA 1 2 (38, .new 30, 3, 19, 0, [0, 9, 4, 0, 0], []) rfl rfl rfl ?_
  refine ⟨k6.1, ?_⟩
  refine bGo hA 1 3 (41, .dup, 1, 20, 0, [], []) rfl rfl rfl ?_
  refine bGo hA 1 4 (42, .invokespecial 32, 3, 21, 1, [4, 9, 119, 0], []) rfl rfl rfl ?_
  refine ⟨rfl, rfl, ?_⟩
  refine hC _ _ _ _ _ (bRv_e (fun s7 k8 => ?_)) k6.2
  show A (21, [.retAddr 11], [.ref 9, .retAddr 11], s7)
  refine bGo hA 1 5 (45, .putfield 33, 3, 22, 0, [11, 3, 3, 9, 0, 0], []) rfl rfl rfl ?_
  refine ⟨rfl, rfl, ?_⟩
  refine bGo hA 1 6 (48, .aload_n 0, 1, 23, 0, [0], []) rfl rfl rfl ?_
  refine bGo hA 1 7 (49, .new 37, 3, 24, 0, [0, 6, 16, 0, 0], []) rfl rfl rfl ?_
  refine ⟨k8.1, ?_⟩
  refine bGo hA 1 8 (52, .dup, 1, 25, 0, [], []) rfl rfl rfl ?_
  refine bGo hA 1 9 (53, .aload_n 0, 1, 26, 0, [0], []) rfl rfl rfl ?_
  refine bGo hA 1 10 (54, .getfield 12, 3, 27, 0, [11, 0, 3, 3, 0, 0], []) rfl rfl rfl ?_
  refine ⟨rfl, k8.2.1, ?_⟩
  refine bGo hA 1 11 (57, .aload_n 0, 1, 28, 0, [0], []) rfl rfl rfl ?_
  refine bGo hA 1 12 (58, .getfield 19, 3, 29, 0, [11, 1, 3, 7, 0, 0], []) rfl rfl rfl ?_
  refine ⟨rfl, k8.2.2.1, ?_⟩
  refine bGo hA 1 13 (61, .aload_n 0, 1, 30, 0, [0], []) rfl rfl rfl ?_
  refine bGo hA 1 14 (62, .getfield 26, 3, 31, 0, [11, 2, 3, 10, 0, 0], []) rfl rfl rfl ?_
  refine ⟨rfl, k8.2.2.2.1, ?_⟩
  refine bGo hA 1 15 (65, .aload_n 0, 1, 32, 0, [0], []) rfl rfl rfl ?_
  refine bGo hA 2 0 (66, .getfield 33, 3, 33, 0, [11, 3, 3, 9, 0, 0], []) rfl rfl rfl ?_
  refine ⟨rfl, k8.2.2.2.2.1, ?_⟩
  refine bGo hA 2 1 (69, .invokespecial 39, 3, 34, 0, [4, 6, 67, 4], []) rfl rfl rfl ?_
  refine ⟨rfl, rfl, ?_⟩
  refine hC _ _ _ _ _ (bRv_e (fun s9 k10 => ?_)) k8.2.2.2.2.2
  show A (34, [.retAddr 11], [.ref 6, .retAddr 11], s9)
  refine bGo hA 2 2 (72, .putfield 42, 3, 35, 0, [11, 4, 3, 6, 0, 0], []) rfl rfl rfl ?_
  refine ⟨rfl, rfl, ?_⟩
  refine bGo hA 2 3 (75, .aload_n 0, 1, 36, 0, [0], []) rfl rfl rfl ?_
  refine bGo hA 2 4 (76, .new 46, 3, 37, 0, [0, 5, 13, 0, 0], []) rfl rfl rfl ?_
  refine ⟨k10.1, ?_⟩
  refine bGo hA 2 5 (79, .dup, 1, 38, 0, [], []) rfl rfl rfl ?_
  refine bGo hA 2 6 (80, .aload_n 0, 1, 39, 0, [0], []) rfl rfl rfl ?_
  refine bGo hA 2 7 (81, .getfield 12, 3, 40, 0, [11, 0, 3, 3, 0, 0], []) rfl rfl rfl ?_
  refine ⟨rfl, k10.2.1, ?_⟩
  refine bGo hA 2 8 (84, .aload_n 0, 1, 41, 0, [0], []) rfl rfl rfl ?_
  refine bGo hA 2 9 (85, .getfield 42, 3, 42, 0, [11, 4, 3, 6, 0, 0], []) rfl rfl rfl ?_
  refine ⟨rfl, k10.2.2.1, ?_⟩
  refine bGo hA 2 10 (88, .invokespecial 48, 3, 43, 0, [4, 5, 45, 2], []) rfl rfl rfl ?_
  refine ⟨rfl, rfl, ?_⟩
  refine hC _ _ _ _ _ (bRv_e (fun s11 k12 => ?_)) k10.2.2.2
  show A (43, [.retAddr 11], [.ref 5, .retAddr 11], s11)
  refine bGo hA 2 11 (91, .putfield 51, 3, 44, 0, [11, 5, 3, 5, 0, 0], []) rfl rfl rfl ?_
  refine ⟨rfl, rfl, ?_⟩
  refine bGo hA 2 12 (94, .aload_n 0, 1, 45, 0, [0], []) rfl rfl rfl ?_
  refine bGo hA 2 13 (95, .lconst 1, 1, 46, 0, [1], []) rfl rfl rfl ?_
  refine bGo hA 2 14 (96, .putfield 55, 3, 47, 0, [11, 7, 2, 0, 0, 0], []) rfl rfl rfl ?_
  refine ⟨rfl, ?_⟩
  refine bGo hA 2 15 (99, .return_, 1, 0, 0, [5, 0, 1, 2, 3, 4, 5], []) rfl rfl rfl ?_
  exact k12

theorem sg136_0 {lvl : Nat} {C : bCall} {Q : bPost} {A : bPt → Prop} (hC : bMono C) (hA : bClosed lvl bm136 C Q A) {x0 : Int32} {x1 : Int32} {σ : bSt} 
  (h : ((x0 < 0 → (7 ≤ lvl ∧ Q (.inr 0) (bC σ 1 6))) ∧ (¬ x0 < 0 → ((x0 < x1 → Q (.inl none) σ) ∧ (¬ x0 < x1 → (7 ≤ lvl ∧ Q (.inr 0) (bC σ 1 6))))))) : A (0, [.int x0, .int x1], [], σ) := by
  refine bGo hA 0 0 (0, .iload_n 0, 1, 1, 0, [0], []) rfl rfl rfl ?_
  refine bGo hA 0 1 (1, .ifCond .lt (8), 3, 2, 5, [], []) rfl rfl rfl ?_
  refine ⟨fun c1 => ?_, fun c1 => ?_⟩
  · refine bGo hA 0 5 (9, .new 59, 3, 6, 0, [1, 0, 59, 61, 0], []) rfl rfl rfl ?_
    exact (h.1 c1)
  · refine bGo hA 0 2 (4, .iload_n 0, 1, 3, 0, [0], []) rfl rfl rfl ?_
    refine bGo hA 0 3 (5, .iload_n 1, 1, 4, 0, [1], []) rfl rfl rfl ?_
    refine bGo hA 0 4 (6, .if_icmp .lt (11), 3, 5, 9, [], []) rfl rfl rfl ?_
    refine ⟨fun c2 => ?_, fun c2 => ?_⟩
    · refine bGo hA 0 9 (17, .return_, 1, 0, 0, [0], []) rfl rfl rfl ?_
      exact ((h.2 c1).1 c2)
    · refine bGo hA 0 5 (9, .new 59, 3, 6, 0, [1, 0, 59, 61, 0], []) rfl rfl rfl ?_
      exact ((h.2 c1).2 c2)

theorem sg137_0 {lvl : Nat} {C : bCall} {Q : bPost} {A : bPt → Prop} (hC : bMono C) (hA : bClosed lvl bm137 C Q A) {x0 : Int32} {σ : bSt} 
  (h : ((x0 < 0 → (7 ≤ lvl ∧ Q (.inr 0) (bC σ 1 6))) ∧ (¬ x0 < 0 → Q (.inl none) σ))) : A (0, [.int x0], [], σ) := by
  refine bGo hA 0 0 (0, .iload_n 0, 1, 1, 0, [0], []) rfl rfl rfl ?_
  refine bGo hA 0 1 (1, .ifCond .ge (11), 3, 2, 6, [], []) rfl rfl rfl ?_
  refine ⟨fun c1 => ?_, fun c1 => ?_⟩
  · refine bGo hA 0 2 (4, .new 59, 3, 3, 0, [1, 0, 59, 61, 0], []) rfl rfl rfl ?_
    exact (h.1 c1)
  · refine bGo hA 0 6 (12, .return_, 1, 0, 0, [0], []) rfl rfl rfl ?_
    exact (h.2 c1)

theorem sg138_0 {lvl : Nat} {C : bCall} {Q : bPost} {A : bPt → Prop} (hC : bMono C) (hA : bClosed lvl bm138 C Q A) {x0 : Int32} {x1 : Int32} {x2 : Int32} {σ : bSt} 
  (h : ((x0 < x1 → (7 ≤ lvl ∧ Q (.inr 1) (bC σ 1 6))) ∧ (¬ x0 < x1 → ((x2 < x0 → (7 ≤ lvl ∧ Q (.inr 1) (bC σ 1 6))) ∧ (¬ x2 < x0 → Q (.inl none) σ))))) : A (0, [.int x0, .int x1, .int x2], [], σ) := by
  refine bGo hA 0 0 (0, .iload_n 0, 1, 1, 0, [0], []) rfl rfl rfl ?_
  refine bGo hA 0 1 (1, .iload_n 1, 1, 2, 0, [1], []) rfl rfl rfl ?_
  refine bGo hA 0 2 (2, .if_icmp .lt (8), 3, 3, 6, [], []) rfl rfl rfl ?_
  refine ⟨fun c1 => ?_, fun c1 => ?_⟩
  · refine bGo hA 0 6 (10, .new 62, 3, 7, 0, [1, 1, 62, 64, 0], []) rfl rfl rfl ?_
    exact (h.1 c1)
  · refine bGo hA 0 3 (5, .iload_n 0, 1, 4, 0, [0], []) rfl rfl rfl ?_
    refine bGo hA 0 4 (6, .iload_n 2, 1, 5, 0, [2], []) rfl rfl rfl ?_
    refine bGo hA 0 5 (7, .if_icmp .le (11), 3, 6, 10, [], []) rfl rfl rfl ?_
    refine ⟨fun c2 => ?_, fun c2 => ?_⟩
    · refine bGo hA 0 6 (10, .new 62, 3, 7, 0, [1, 1, 62, 64, 0], []) rfl rfl rfl ?_
      exact ((h.2 c1).1 c2)
    · refine bGo hA 0 10 (18, .return_, 1, 0, 0, [0], []) rfl rfl rfl ?_
      exact ((h.2 c1).2 c2)

theorem sg139_0 {lvl : Nat} {C : bCall} {Q : bPost} {A : bPt → Prop} (hC : bMono C) (hA : bClosed lvl bm139 C Q A) {x0 : Int32} {σ : bSt} 
  (h : ((x0 = 0 → (7 ≤ lvl ∧ Q (.inr 2) (bC σ 1 6))) ∧ (¬ x0 = 0 → Q (.inl none) σ))) : A (0, [.int x0], [], σ) := by
  refine bGo hA 0 0 (0, .iload_n 0, 1, 1, 0, [0], []) rfl rfl rfl ?_
  refine bGo hA 0 1 (1, .ifCond .ne (11), 3, 2, 6, [], []) rfl rfl rfl ?_
  refine ⟨fun c1 => ?_, fun c1 => ?_⟩
  · refine bGo hA 0 2 (4, .new 65, 3, 3, 0, [1, 2, 65, 67, 0], []) rfl rfl rfl ?_
    exact (h.1 c1)
  · refine bGo hA 0 6 (12, .return_, 1, 0, 0, [0], []) rfl rfl rfl ?_
    exact (h.2 c1)

theorem sg140_0 {lvl : Nat} {C : bCall} {Q : bPost} {A : bPt → Prop} (hC : bMono C) (hA : bClosed lvl bm140 C Q A) {a0 : Nat} {x1 : Int32} {σ : bSt} 
  (h : ((x1 < 0 → Q (.inl (some (.int (-1)))) σ) ∧ (¬ x1 < 0 → (¬ bTy a0 = 9 ∧ ((x1 < (Int32.ofNat (bLen σ a0)) → (bTy a0 = 0 ∧ (vp_in x1 (bLen σ a0) ∧ Q (.inl (some (.int (σ.1 a0 (x1).toNatClampNeg)))) σ))) ∧ (¬ x1 < (Int32.ofNat (bLen σ a0)) → Q (.inl (some (.int (-1)))) σ)))))) : A (0, [.ref a0, .int x1], [], σ) := by
  refine bGo hA 0 0 (0, .iload_n 1, 1, 1, 0, [1], []) rfl rfl rfl ?_
  refine bGo hA 0 1 (1, .ifCond .lt (15), 3, 2, 10, [], []) rfl rfl rfl ?_
  refine ⟨fun c1 => ?_, fun c1 => ?_⟩
  · refine bGo hA 0 10 (16, .iconst (-1), 1, 11, 0, [], [(-1, 0)]) rfl rfl rfl ?_
    refine bGo hA 0 11 (17, .ireturn, 1, 0, 0, [1], []) rfl rfl rfl ?_
    exact (h.1 c1)
  · refine bGo hA 0 2 (4, .iload_n 1, 1, 3, 0, [1], []) rfl rfl rfl ?_
    refine bGo hA 0 3 (5, .aload_n 0, 1, 4, 0, [0], []) rfl rfl rfl ?_
    refine bGo hA 0 4 (6, .arraylength, 1, 5, 0, [], []) rfl rfl rfl ?_
    refine ⟨(h.2 c1).1, ?_⟩
    refine bGo hA 0 5 (7, .if_icmp .ge (9), 3, 6, 10, [], []) rfl rfl rfl ?_
    refine ⟨fun c2 => ?_, fun c2 => ?_⟩
    · refine bGo hA 0 6 (10, .aload_n 0, 1, 7, 0, [0], []) rfl rfl rfl ?_
      refine bGo hA 0 7 (11, .iload_n 1, 1, 8, 0, [1], []) rfl rfl rfl ?_
      refine bGo hA 0 8 (12, .iaload, 1, 9, 0, [], []) rfl rfl rfl ?_
      refine ⟨((h.2 c1).2.1 c2).1, ((h.2 c1).2.1 c2).2.1, ?_⟩
      refine bGo hA 0 9 (13, .goto (4), 3, 10, 11, [], []) rfl rfl rfl ?_
      refine bGo hA 0 11 (17, .ireturn, 1, 0, 0, [1], []) rfl rfl rfl ?_
      exact ((h.2 c1).2.1 c2).2.2
    · refine bGo hA 0 10 (16, .iconst (-1), 1, 11, 0, [], [(-1, 0)]) rfl rfl rfl ?_
      refine bGo hA 0 11 (17, .ireturn, 1, 0, 0, [1], []) rfl rfl rfl ?_
      exact ((h.2 c1).2.2 c2)

theorem sg141_0 {lvl : Nat} {C : bCall} {Q : bPost} {A : bPt → Prop} (hC : bMono C) (hA : bClosed lvl bm141 C Q A) {a0 : Nat} {x1 : Int32} {x2 : Int32} {σ : bSt} 
  (h : ((x1 < 0 → Q (.inl none) σ) ∧ (¬ x1 < 0 → (¬ bTy a0 = 9 ∧ ((x1 < (Int32.ofNat (bLen σ a0)) → (bTy a0 = 0 ∧ (vp_in x1 (bLen σ a0) ∧ (a0 % 256 < 200 ∧ Q (.inl none) (bI σ a0 (x1).toNatClampNeg x2))))) ∧ (¬ x1 < (Int32.ofNat (bLen σ a0)) → Q (.inl none) σ)))))) : A (0, [.ref a0, .int x1, .int x2], [], σ) := by
  refine bGo hA 0 0 (0, .iload_n 1, 1, 1, 0, [1], []) rfl rfl rfl ?_
  refine bGo hA 0 1 (1, .ifCond .lt (13), 3, 2, 10, [], []) rfl rfl rfl ?_
  refine ⟨fun c1 => ?_, fun c1 => ?_⟩
  · refine bGo hA 0 10 (14, .return_, 1, 0, 0, [0], []) rfl rfl rfl ?_
    exact (h.1 c1)
  · refine bGo hA 0 2 (4, .iload_n 1, 1, 3, 0, [1], []) rfl rfl rfl ?_
    refine bGo hA 0 3 (5, .aload_n 0, 1, 4, 0, [0], []) rfl rfl rfl ?_
    refine bGo hA 0 4 (6, .arraylength, 1, 5, 0, [], []) rfl rfl rfl ?_
    refine ⟨(h.2 c1).1, ?_⟩
    refine bGo hA 0 5 (7, .if_icmp .ge (7), 3, 6, 10, [], []) rfl rfl rfl ?_
    refine ⟨fun c2 => ?_, fun c2 => ?_⟩
    · refine bGo hA 0 6 (10, .aload_n 0, 1, 7, 0, [0], []) rfl rfl rfl ?_
      refine bGo hA 0 7 (11, .iload_n 1, 1, 8, 0, [1], []) rfl rfl rfl ?_
      refine bGo hA 0 8 (12, .iload_n 2, 1, 9, 0, [2], []) rfl rfl rfl ?_
      refine bGo hA 0 9 (13, .iastore, 1, 10, 0, [], []) rfl rfl rfl ?_
      refine ⟨((h.2 c1).2.1 c2).1, ((h.2 c1).2.1 c2).2.1, ((h.2 c1).2.1 c2).2.2.1, ?_⟩
      refine bGo hA 0 10 (14, .return_, 1, 0, 0, [0], []) rfl rfl rfl ?_
      exact ((h.2 c1).2.1 c2).2.2.2
    · refine bGo hA 0 10 (14, .return_, 1, 0, 0, [0], []) rfl rfl rfl ?_
      exact ((h.2 c1).2.2 c2)

theorem sg142_0 {lvl : Nat} {C : bCall} {Q : bPost} {A : bPt → Prop} (hC : bMono C) (hA : bClosed lvl bm142 C Q A) {a0 : Nat} {x1 : Int32} {x2 : Int32} {σ : bSt} 
  (h : A (2, [.ref a0, .int x1, .int x2, .int x1], [], σ)) : A (0, [.ref a0, .int x1, .int x2, .float 0], [], σ) := by
  refine bGo hA 0 0 (0, .iload_n 1, 1, 1, 0, [1], []) rfl rfl rfl ?_
  refine bGo hA 0 1 (1, .istore_n 3, 1, 2, 0, [3], []) rfl rfl rfl ?_
  exact h

theorem sg142_2 {lvl : Nat} {C : bCall} {Q : bPost} {A : bPt → Prop} (hC : bMono C) (hA : bClosed lvl bm142 C Q A) {l0 : Nat} {v1 : Value} {l2 : Int32} {l3 : Int32} {σ : bSt} 
  (h : (((l3 + 1) < l2 → (C 140 [.ref l0, .int (l3 + 1)] σ (bRi (fun r4 s2 => (C 141 [.ref l0, .int l3, .int r4] s2 (bRv (fun s5 => A (2, [.ref l0, v1, .int l2, .int (l3 + 1)], [], s5)))))))) ∧ (¬ (l3 + 1) < l2 → Q (.inl none) σ))) : A (2, [.ref l0, v1, .int l2, .int l3], [], σ) := by
  refine bGo hA 0 2 (2, .iload_n 3, 1, 3, 0, [3], []) rfl rfl rfl ?_
  refine bGo hA 0 3 (3, .iconst (1), 1, 4, 0, [], [(1, 0)]) rfl rfl rfl ?_
  refine bGo hA 0 4 (4, .iadd, 1, 5, 0, [], []) rfl rfl rfl ?_
  refine bGo hA 0 5 (5, .iload_n 2, 1, 6, 0, [2], []) rfl rfl rfl ?_
  refine bGo hA 0 6 (6, .if_icmp .ge (21), 3, 7, 17, [], []) rfl rfl rfl ?_
  refine ⟨fun c1 => ?_, fun c1 => ?_⟩
  · refine bGo hA 0 7 (9, .aload_n 0, 1, 8, 0, [0], []) rfl rfl rfl ?_
    refine bGo hA 0 8 (10, .iload_n 3, 1, 9, 0, [3], []) rfl rfl rfl ?_
    refine bGo hA 0 9 (11, .aload_n 0, 1, 10, 0, [0], []) rfl rfl rfl ?_
    refine bGo hA 0 10 (12, .iload_n 3, 1, 11, 0, [3], []) rfl rfl rfl ?_
    refine bGo hA 0 11 (13, .iconst (1), 1, 12, 0, [], [(1, 0)]) rfl rfl rfl ?_
    refine bGo hA 0 12 (14, .iadd, 1, 13, 0, [], []) rfl rfl rfl ?_
    refine bGo hA 0 13 (15, .invokestatic 68, 3, 14, 0, [2, 140, 2], []) rfl rfl rfl ?_
    refine hC _ _ _ _ _ (bRi_e (fun r4 s2 k3 => ?_)) (h.1 c1)
    show A (14, [.ref l0, v1, .int l2, .int l3], [.int r4, .int l3, .ref l0], s2)
    refine bGo hA 0 14 (18, .invokestatic 72, 3, 15, 0, [2, 141, 3], []) rfl rfl rfl ?_
    refine hC _ _ _ _ _ (bRv_e (fun s5 k6 => ?_)) k3
    show A (15, [.ref l0, v1, .int l2, .int l3], [], s5)
    refine bGo hA 0 15 (21, .iinc 3 (1), 3, 16, 0, [3], [(1, 0)]) rfl rfl rfl ?_
    refine bGo hA 1 0 (24, .goto (-22), 3, 17, 2, [], []) rfl rfl rfl ?_
    exact k6
  · refine bGo hA 1 1 (27, .return_, 1, 0, 0, [0], []) rfl rfl rfl ?_
    exact (h.2 c1)

theorem sg143_0 {lvl : Nat} {C : bCall} {Q : bPost} {A : bPt → Prop} (hC : bMono C) (hA : bClosed lvl bm143 C Q A) {x1 : Int32} {x2 : Int32} {σ : bSt} 
  (h : (C 136 [.int x1, .int 48] σ (bRvx (fun s1 => (C 138 [.int x2, .int 0, .int 999] s1 (bRvx (fun s3 => (C 32 [.ref 3, .int x1, .int x2] s3 (bRi (fun r7 s5 => Q (.inl (some (.int r7))) s5)))) (fun E s3 => Q (.inr E) s3)))) (fun E s1 => Q (.inr E) s1)))) : A (0, [.ref 11, .int x1, .int x2], [], σ) := by
  refine bGo hA 0 0 (0, .iload_n 1, 1, 1, 0, [1], []) rfl rfl rfl ?_
  refine bGo hA 0 1 (1, .bipush (48), 2, 2, 0, [], [(48, 0)]) rfl rfl rfl ?_
  refine bGo hA 0 2 (3, .invokestatic 76, 3, 3, 0, [2, 136, 2], []) rfl rfl rfl ?_
  refine hC _ _ _ _ _ (bRvx_e (fun s1 k2 => ?_) (fun E s1 k2 => ?_)) h
  · show A (3, [.ref 11, .int x1, .int x2], [], s1)
    refine bGo hA 0 3 (6, .iload_n 2, 1, 4, 0, [2], []) rfl rfl rfl ?_
    refine bGo hA 0 4 (7, .iconst (0), 1, 5, 0, [], [(0, 0)]) rfl rfl rfl ?_
    refine bGo hA 0 5 (8, .sipush (999), 3, 6, 0, [], [(999, 0)]) rfl rfl rfl ?_
    refine bGo hA 0 6 (11, .invokestatic 80, 3, 7, 0, [2, 138, 3], []) rfl rfl rfl ?_
    refine hC _ _ _ _ _ (bRvx_e (fun s3 k4 => ?_) (fun E s3 k4 => ?_)) k2
    · show A (7, [.ref 11, .int x1, .int x2], [], s3)
      refine bGo hA 0 7 (14, .aload_n 0, 1, 8, 0, [0], []) rfl rfl rfl ?_
      refine bGo hA 0 8 (15, .getfield 12, 3, 9, 0, [11, 0, 3, 3, 0, 0], []) rfl rfl rfl ?_
      refine ⟨rfl, ?_⟩
      refine bGo hA 0 9 (18, .iload_n 1, 1, 10, 0, [1], []) rfl rfl rfl ?_
      refine bGo hA 0 10 (19, .iload_n 2, 1, 11, 0, [2], []) rfl rfl rfl ?_
      refine bGo hA 0 11 (20, .invokevirtual 84, 3, 12, 0, [0, 3, 32, 2], []) rfl rfl rfl ?_
      refine ⟨rfl, ?_⟩
      refine hC _ _ _ _ _ (bRi_e (fun r7 s5 k6 => ?_)) k4
      show A (12, [.ref 11, .int x1, .int x2], [.int r7], s5)
      refine bGo hA 0 12 (23, .ireturn, 1, 0, 0, [1], []) rfl rfl rfl ?_
      exact k6
    · exact k4
  · exact k2

theorem sg144_0 {lvl : Nat} {C : bCall} {Q : bPost} {A : bPt → Prop} (hC : bMono C) (hA : bClosed lvl bm144 C Q A) {x1 : Int32} {σ : bSt} 
  (h : (C 136 [.int x1, .int 48] σ (bRvx (fun s1 => (C 32 [.ref 3, .int x1, .int (-1)] s1 (bRi (fun r5 s3 => Q (.inl (some (.int r5))) s3)))) (fun E s1 => Q (.inr E) s1)))) : A (0, [.ref 11, .int x1], [], σ) := by
  refine bGo hA 0 0 (0, .iload_n 1, 1, 1, 0, [1], []) rfl rfl rfl ?_
  refine bGo hA 0 1 (1, .bipush (48), 2, 2, 0, [], [(48, 0)]) rfl rfl rfl ?_
  refine bGo hA 0 2 (3, .invokestatic 76, 3, 3, 0, [2, 136, 2], []) rfl rfl rfl ?_
  refine hC _ _ _ _ _ (bRvx_e (fun s1 k2 => ?_) (fun E s1 k2 => ?_)) h
  · show A (3, [.ref 11, .int x1], [], s1)
    refine bGo hA 0 3 (6, .aload_n 0, 1, 4, 0, [0], []) rfl rfl rfl ?_
    refine bGo hA 0 4 (7, .getfield 12, 3, 5, 0, [11, 0, 3, 3, 0, 0], []) rfl rfl rfl ?_
    refine ⟨rfl, ?_⟩
    refine bGo hA 0 5 (10, .iload_n 1, 1, 6, 0, [1], []) rfl rfl rfl ?_
    refine bGo hA 0 6 (11, .iconst (-1), 1, 7, 0, [], [(-1, 0)]) rfl rfl rfl ?_
    refine bGo hA 0 7 (12, .invokevirtual 84, 3, 8, 0, [0, 3, 32, 2], []) rfl rfl rfl ?_
    refine ⟨rfl, ?_⟩
    refine hC _ _ _ _ _ (bRi_e (fun r5 s3 k4 => ?_)) k2
    show A (8, [.ref 11, .int x1], [.int r5], s3)
    refine bGo hA 0 8 (15, .ireturn, 1, 0, 0, [1], []) rfl rfl rfl ?_
    exact k4
  · exact k2

theorem sg145_0 {lvl : Nat} {C : bCall} {Q : bPost} {A : bPt → Prop} (hC : bMono C) (hA : bClosed lvl bm145 C Q A) {x1 : Int32} {x2 : Int32} {σ : bSt} 
  (h : (C 136 [.int x1, .int 6] σ (bRvx (fun s1 => ((x1 = 0 → (C 139 [.int 0] s1 (bRvx (fun s4 => (C 34 [.ref 3, .int x1, .int x2] s4 (bRi (fun r8 s6 => ((r8 = 0 ∨ r8 = 1) ∧ Q (.inl (some (.int r8))) s6))))) (fun E s4 => Q (.inr E) s4)))) ∧ (¬ x1 = 0 → (C 139 [.int 1] s1 (bRvx (fun s9 => (C 34 [.ref 3, .int x1, .int x2] s9 (bRi (fun r13 s11 => ((r13 = 0 ∨ r13 = 1) ∧ Q (.inl (some (.int r13))) s11))))) (fun E s9 => Q (.inr E) s9)))))) (fun E s1 => Q (.inr E) s1)))) : A (0, [.ref 11, .int x1, .int x2], [], σ) := by
  refine bGo hA 0 0 (0, .iload_n 1, 1, 1, 0, [1], []) rfl rfl rfl ?_
  refine bGo hA 0 1 (1, .bipush (6), 2, 2, 0, [], [(6, 0)]) rfl rfl rfl ?_
  refine bGo hA 0 2 (3, .invokestatic 76, 3, 3, 0, [2, 136, 2], []) rfl rfl rfl ?_
  refine hC _ _ _ _ _ (bRvx_e (fun s1 k2 => ?_) (fun E s1 k2 => ?_)) h
  · show A (3, [.ref 11, .int x1, .int x2], [], s1)
    refine bGo hA 0 3 (6, .iload_n 1, 1, 4, 0, [1], []) rfl rfl rfl ?_
    refine bGo hA 0 4 (7, .ifCond .eq (7), 3, 5, 7, [], []) rfl rfl rfl ?_
    refine ⟨fun c3 => ?_, fun c3 => ?_⟩
    · refine bGo hA 0 7 (14, .iconst (0), 1, 8, 0, [], [(0, 0)]) rfl rfl rfl ?_
      refine bGo hA 0 8 (15, .invokestatic 88, 3, 9, 0, [2, 139, 1], []) rfl rfl rfl ?_
      refine hC _ _ _ _ _ (bRvx_e (fun s4 k5 => ?_) (fun E s4 k5 => ?_)) (k2.1 c3)
      · show A (9, [.ref 11, .int x1, .int x2], [], s4)
        refine bGo hA 0 9 (18, .aload_n 0, 1, 10, 0, [0], []) rfl rfl rfl ?_
        refine bGo hA 0 10 (19, .getfield 12, 3, 11, 0, [11, 0, 3, 3, 0, 0], []) rfl rfl rfl ?_
        refine ⟨rfl, ?_⟩
        refine bGo hA 0 11 (22, .iload_n 1, 1, 12, 0, [1], []) rfl rfl rfl ?_
        refine bGo hA 0 12 (23, .iload_n 2, 1, 13, 0, [2], []) rfl rfl rfl ?_
        refine bGo hA 0 13 (24, .invokevirtual 92, 3, 14, 0, [0, 3, 34, 2], []) rfl rfl rfl ?_
        refine ⟨rfl, ?_⟩
        refine hC _ _ _ _ _ (bRi_e (fun r8 s6 k7 => ?_)) k5
        show A (14, [.ref 11, .int x1, .int x2], [.int r8], s6)
        refine bGo hA 0 14 (27, .ireturn, 1, 0, 0, [2], []) rfl rfl rfl ?_
        exact k7
      · exact k5
    · refine bGo hA 0 5 (10, .iconst (1), 1, 6, 0, [], [(1, 0)]) rfl rfl rfl ?_
      refine bGo hA 0 6 (11, .goto (4), 3, 7, 8, [], []) rfl rfl rfl ?_
      refine bGo hA 0 8 (15, .invokestatic 88, 3, 9, 0, [2, 139, 1], []) rfl rfl rfl ?_
      refine hC _ _ _ _ _ (bRvx_e (fun s9 k10 => ?_) (fun E s9 k10 => ?_)) (k2.2 c3)
      · show A (9, [.ref 11, .int x1, .int x2], [], s9)
        refine bGo hA 0 9 (18, .aload_n 0, 1, 10, 0, [0], []) rfl rfl rfl ?_
        refine bGo hA 0 10 (19, .getfield 12, 3, 11, 0, [11, 0, 3, 3, 0, 0], []) rfl rfl rfl ?_
        refine ⟨rfl, ?_⟩
        refine bGo hA 0 11 (22, .iload_n 1, 1, 12, 0, [1], []) rfl rfl rfl ?_
        refine bGo hA 0 12 (23, .iload_n 2, 1, 13, 0, [2], []) rfl rfl rfl ?_
        refine bGo hA 0 13 (24, .invokevirtual 92, 3, 14, 0, [0, 3, 34, 2], []) rfl rfl rfl ?_
        refine ⟨rfl, ?_⟩
        refine hC _ _ _ _ _ (bRi_e (fun r13 s11 k12 => ?_)) k10
        show A (14, [.ref 11, .int x1, .int x2], [.int r13], s11)
        refine bGo hA 0 14 (27, .ireturn, 1, 0, 0, [2], []) rfl rfl rfl ?_
        exact k12
      · exact k10
  · exact k2

theorem sg146_0 {lvl : Nat} {C : bCall} {Q : bPost} {A : bPt → Prop} (hC : bMono C) (hA : bClosed lvl bm146 C Q A) {x1 : Int32} {σ : bSt} 
  (h : (C 136 [.int x1, .int 48] σ (bRvx (fun s1 => (C 35 [.ref 3, .int x1] s1 (bRi (fun r5 s3 => Q (.inl (some (.int r5))) s3)))) (fun E s1 => Q (.inr E) s1)))) : A (0, [.ref 11, .int x1], [], σ) := by
  refine bGo hA 0 0 (0, .iload_n 1, 1, 1, 0, [1], []) rfl rfl rfl ?_
  refine bGo hA 0 1 (1, .bipush (48), 2, 2, 0, [], [(48, 0)]) rfl rfl rfl ?_
  refine bGo hA 0 2 (3, .invokestatic 76, 3, 3, 0, [2, 136, 2], []) rfl rfl rfl ?_
  refine hC _ _ _ _ _ (bRvx_e (fun s1 k2 => ?_) (fun E s1 k2 => ?_)) h
  · show A (3, [.ref 11, .int x1], [], s1)
    refine bGo hA 0 3 (6, .aload_n 0, 1, 4, 0, [0], []) rfl rfl rfl ?_
    refine bGo hA 0 4 (7, .getfield 12, 3, 5, 0, [11, 0, 3, 3, 0, 0], []) rfl rfl rfl ?_
    refine ⟨rfl, ?_⟩
    refine bGo hA 0 5 (10, .iload_n 1, 1, 6, 0, [1], []) rfl rfl rfl ?_
    refine bGo hA 0 6 (11, .invokevirtual 96, 3, 7, 0, [0, 3, 35, 1], []) rfl rfl rfl ?_
    refine ⟨rfl, ?_⟩
    refine hC _ _ _ _ _ (bRi_e (fun r5 s3 k4 => ?_)) k2
    show A (7, [.ref 11, .int x1], [.int r5], s3)
    refine bGo hA 0 7 (14, .ireturn, 1, 0, 0, [1], []) rfl rfl rfl ?_
    exact k4
  · exact k2

theorem sg147_0 {lvl : Nat} {C : bCall} {Q : bPost} {A : bPt → Prop} (hC : bMono C) (hA : bClosed lvl bm147 C Q A) {x1 : Int32} {x2 : Int32} {x3 : Int32} {σ : bSt} 
  (h : (C 136 [.int x1, .int 6] σ (bRvx (fun s1 => (C 138 [.int x2, .int 0, .int 255] s1 (bRvx (fun s3 => (C 33 [.ref 3, .int x1] s3 (bRi (fun r7 s5 => (C 139 [.int r7] s5 (bRvx (fun s8 => (C 36 [.ref 3, .int x1, .int x2, .int x3] s8 (bRj (fun r12 s10 => Q (.inl (some (.long r12))) s10)))) (fun E s8 => Q (.inr E) s8))))))) (fun E s3 => Q (.inr E) s3)))) (fun E s1 => Q (.inr E) s1)))) : A (0, [.ref 11, .int x1, .int x2, .int x3], [], σ) := by
  refine bGo hA 0 0 (0, .iload_n 1, 1, 1, 0, [1], []) rfl rfl rfl ?_
  refine bGo hA 0 1 (1, .bipush (6), 2, 2, 0, [], [(6, 0)]) rfl rfl rfl ?_
  refine bGo hA 0 2 (3, .invokestatic 76, 3, 3, 0, [2, 136, 2], []) rfl rfl rfl ?_
  refine hC _ _ _ _ _ (bRvx_e (fun s1 k2 => ?_) (fun E s1 k2 => ?_)) h
  · show A (3, [.ref 11, .int x1, .int x2, .int x3], [], s1)
    refine bGo hA 0 3 (6, .iload_n 2, 1, 4, 0, [2], []) rfl rfl rfl ?_
    refine bGo hA 0 4 (7, .iconst (0), 1, 5, 0, [], [(0, 0)]) rfl rfl rfl ?_
    refine bGo hA 0 5 (8, .sipush (255), 3, 6, 0, [], [(255, 0)]) rfl rfl rfl ?_
    refine bGo hA 0 6 (11, .invokestatic 80, 3, 7, 0, [2, 138, 3], []) rfl rfl rfl ?_
    refine hC _ _ _ _ _ (bRvx_e (fun s3 k4 => ?_) (fun E s3 k4 => ?_)) k2
    · show A (7, [.ref 11, .int x1, .int x2, .int x3], [], s3)
      refine bGo hA 0 7 (14, .aload_n 0, 1, 8, 0, [0], []) rfl rfl rfl ?_
      refine bGo hA 0 8 (15, .getfield 12, 3, 9, 0, [11, 0, 3, 3, 0, 0], []) rfl rfl rfl ?_
      refine ⟨rfl, ?_⟩
      refine bGo hA 0 9 (18, .iload_n 1, 1, 10, 0, [1], []) rfl rfl rfl ?_
      refine bGo hA 0 10 (19, .invokevirtual 100, 3, 11, 0, [0, 3, 33, 1], []) rfl rfl rfl ?_
      refine ⟨rfl, ?_⟩
      refine hC _ _ _ _ _ (bRi_e (fun r7 s5 k6 => ?_)) k4
      show A (11, [.ref 11, .int x1, .int x2, .int x3], [.int r7], s5)
      refine bGo hA 0 11 (22, .invokestatic 88, 3, 12, 0, [2, 139, 1], []) rfl rfl rfl ?_
      refine hC _ _ _ _ _ (bRvx_e (fun s8 k9 => ?_) (fun E s8 k9 => ?_)) k6
      · show A (12, [.ref 11, .int x1, .int x2, .int x3], [], s8)
        refine bGo hA 0 12 (25, .aload_n 0, 1, 13, 0, [0], []) rfl rfl rfl ?_
        refine bGo hA 0 13 (26, .getfield 12, 3, 14, 0, [11, 0, 3, 3, 0, 0], []) rfl rfl rfl ?_
        refine ⟨rfl, ?_⟩
        refine bGo hA 0 14 (29, .iload_n 1, 1, 15, 0, [1], []) rfl rfl rfl ?_
        refine bGo hA 0 15 (30, .iload_n 2, 1, 16, 0, [2], []) rfl rfl rfl ?_
        refine bGo hA 1 0 (31, .iload_n 3, 1, 17, 0, [3], []) rfl rfl rfl ?_
        refine bGo hA 1 1 (32, .invokevirtual 104, 3, 18, 0, [0, 3, 36, 3], []) rfl rfl rfl ?_
        refine ⟨rfl, ?_⟩
        refine hC _ _ _ _ _ (bRj_e (fun r12 s10 k11 => ?_)) k9
        show A (18, [.ref 11, .int x1, .int x2, .int x3], [.long r12], s10)
        refine bGo hA 1 2 (35, .lreturn, 1, 0, 0, [3], []) rfl rfl rfl ?_
        exact k11
      · exact k9
    · exact k4
  · exact k2

theorem sg148_0 {lvl : Nat} {C : bCall} {Q : bPost} {A : bPt → Prop} (hC : bMono C) (hA : bClosed lvl bm148 C Q A) {x1 : Int32} {x2 : Int32} {x3 : Int32} {x4 : Int32} {x5 : Int32} {σ : bSt} 
  (h : (C 136 [.int x1, .int 6] σ (bRvx (fun s1 => (C 136 [.int x3, .int 8] s1 (bRvx (fun s3 => ((x2 = 1 → A (21, [.ref 11, .int x1, .int x2, .int x3, .int x4, .int x5, .float 0], [.int 1], s3)) ∧ (¬ x2 = 1 → ((x2 = 2 → A (21, [.ref 11, .int x1, .int x2, .int x3, .int x4, .int x5, .float 0], [.int 1], s3)) ∧ (¬ x2 = 2 → ((x2 = 4 → A (21, [.ref 11, .int x1, .int x2, .int x3, .int x4, .int x5, .float 0], [.int 1], s3)) ∧ (¬ x2 = 4 → ((x2 = 5 → A (21, [.ref 11, .int x1, .int x2, .int x3, .int x4, .int x5, .float 0], [.int 1], s3)) ∧ (¬ x2 = 5 → A (21, [.ref 11, .int x1, .int x2, .int x3, .int x4, .int x5, .float 0], [.int 0], s3)))))))))) (fun E s3 => Q (.inr E) s3)))) (fun E s1 => Q (.inr E) s1)))) : A (0, [.ref 11, .int x1, .int x2, .int x3, .int x4, .int x5, .float 0], [], σ) := by
  refine bGo hA 0 0 (0, .iload_n 1, 1, 1, 0, [1], []) rfl rfl rfl ?_
  refine bGo hA 0 1 (1, .bipush (6), 2, 2, 0, [], [(6, 0)]) rfl rfl rfl ?_
  refine bGo hA 0 2 (3, .invokestatic 76, 3, 3, 0, [2, 136, 2], []) rfl rfl rfl ?_
  refine hC _ _ _ _ _ (bRvx_e (fun s1 k2 => ?_) (fun E s1 k2 => ?_)) h
  · show A (3, [.ref 11, .int x1, .int x2, .int x3, .int x4, .int x5, .float 0], [], s1)
    refine bGo hA 0 3 (6, .iload_n 3, 1, 4, 0, [3], []) rfl rfl rfl ?_
    refine bGo hA 0 4 (7, .bipush (8), 2, 5, 0, [], [(8, 0)]) rfl rfl rfl ?_
    refine bGo hA 0 5 (9, .invokestatic 76, 3, 6, 0, [2, 136, 2], []) rfl rfl rfl ?_
    refine hC _ _ _ _ _ (bRvx_e (fun s3 k4 => ?_) (fun E s3 k4 => ?_)) k2
    · show A (6, [.ref 11, .int x1, .int x2, .int x3, .int x4, .int x5, .float 0], [], s3)
      refine bGo hA 0 6 (12, .iload_n 2, 1, 7, 0, [2], []) rfl rfl rfl ?_
      refine bGo hA 0 7 (13, .iconst (1), 1, 8, 0, [], [(1, 0)]) rfl rfl rfl ?_
      refine bGo hA 0 8 (14, .if_icmp .eq (18), 3, 9, 18, [], []) rfl rfl rfl ?_
      refine ⟨fun c5 => ?_, fun c5 => ?_⟩
      · refine bGo hA 1 2 (32, .iconst (1), 1, 19, 0, [], [(1, 0)]) rfl rfl rfl ?_
        refine bGo hA 1 3 (33, .goto (4), 3, 20, 21, [], []) rfl rfl rfl ?_
        exact (k4.1 c5)
      · refine bGo hA 0 9 (17, .iload_n 2, 1, 10, 0, [2], []) rfl rfl rfl ?_
        refine bGo hA 0 10 (18, .iconst (2), 1, 11, 0, [], [(2, 0)]) rfl rfl rfl ?_
        refine bGo hA 0 11 (19, .if_icmp .eq (13), 3, 12, 18, [], []) rfl rfl rfl ?_
        refine ⟨fun c6 => ?_, fun c6 => ?_⟩
        · refine bGo hA 1 2 (32, .iconst (1), 1, 19, 0, [], [(1, 0)]) rfl rfl rfl ?_
          refine bGo hA 1 3 (33, .goto (4), 3, 20, 21, [], []) rfl rfl rfl ?_
          exact ((k4.2 c5).1 c6)
        · refine bGo hA 0 12 (22, .iload_n 2, 1, 13, 0, [2], []) rfl rfl rfl ?_
          refine bGo hA 0 13 (23, .iconst (4), 1, 14, 0, [], [(4, 0)]) rfl rfl rfl ?_
          refine bGo hA 0 14 (24, .if_icmp .eq (8), 3, 15, 18, [], []) rfl rfl rfl ?_
          refine ⟨fun c7 => ?_, fun c7 => ?_⟩
          · refine bGo hA 1 2 (32, .iconst (1), 1, 19, 0, [], [(1, 0)]) rfl rfl rfl ?_
            refine bGo hA 1 3 (33, .goto (4), 3, 20, 21, [], []) rfl rfl rfl ?_
            exact (((k4.2 c5).2 c6).1 c7)
          · refine bGo hA 0 15 (27, .iload_n 2, 1, 16, 0, [2], []) rfl rfl rfl ?_
            refine bGo hA 1 0 (28, .iconst (5), 1, 17, 0, [], [(5, 0)]) rfl rfl rfl ?_
            refine bGo hA 1 1 (29, .if_icmp .ne (7), 3, 18, 20, [], []) rfl rfl rfl ?_
            refine ⟨fun c8 => ?_, fun c8 => ?_⟩
            · refine bGo hA 1 2 (32, .iconst (1), 1, 19, 0, [], [(1, 0)]) rfl rfl rfl ?_
              refine bGo hA 1 3 (33, .goto (4), 3, 20, 21, [], []) rfl rfl rfl ?_
              exact ((((k4.2 c5).2 c6).2 c7).1 c8)
            · refine bGo hA 1 4 (36, .iconst (0), 1, 21, 0, [], [(0, 0)]) rfl rfl rfl ?_
              exact ((((k4.2 c5).2 c6).2 c7).2 c8)
    · exact k4
  · exact k2

theorem sg148_21 {lvl : Nat} {C : bCall} {Q : bPost} {A : bPt → Prop} (hC : bMono C) (hA : bClosed lvl bm148 C Q A) {l1 : Int32} {l2 : Int32} {l3 : Int32} {l4 : Int32} {l5 : Int32} {v6 : Value} {t0 : Int32} {σ : bSt} 
  (h : ((t0 = 0 → ((l2 = 1 → (C 136 [.int l5, .int 6] σ (bRvx (fun s3 => (C 138 [.int l2, .int 0, .int 6] s3 (bRvx (fun s5 => ((t0 = 0 → ((l2 = 0 → (C 138 [.int l4, .int 0, .int 999] s5 (bRvx (fun s9 => A (47, [.ref 11, .int l1, .int l2, .int l3, .int l4, .int l5, .int t0], [], s9)) (fun E s9 => Q (.inr E) s9)))) ∧ (¬ l2 = 0 → (C 138 [.int l4, .int 0, .int 0] s5 (bRvx (fun s11 => A (47, [.ref 11, .int l1, .int l2, .int l3, .int l4, .int l5, .int t0], [], s11)) (fun E s11 => Q (.inr E) s11)))))) ∧ (¬ t0 = 0 → A (47, [.ref 11, .int l1, .int l2, .int l3, .int l4, .int l5, .int t0], [], s5)))) (fun E s5 => Q (.inr E) s5)))) (fun E s3 => Q (.inr E) s3)))) ∧ (¬ l2 = 1 → (C 138 [.int l2, .int 0, .int 6] σ (bRvx (fun s13 => ((t0 = 0 → ((l2 = 0 → (C 138 [.int l4, .int 0, .int 999] s13 (bRvx (fun s17 => A (47, [.ref 11, .int l1, .int l2, .int l3, .int l4, .int l5, .int t0], [], s17)) (fun E s17 => Q (.inr E) s17)))) ∧ (¬ l2 = 0 → (C 138 [.int l4, .int 0, .int 0] s13 (bRvx (fun s19 => A (47, [.ref 11, .int l1, .int l2, .int l3, .int l4, .int l5, .int t0], [], s19)) (fun E s19 => Q (.inr E) s19)))))) ∧ (¬ t0 = 0 → A (47, [.ref 11, .int l1, .int l2, .int l3, .int l4, .int l5, .int t0], [], s13)))) (fun E s13 => Q (.inr E) s13)))))) ∧ (¬ t0 = 0 → (C 136 [.int l4, .int 8] σ (bRvx (fun s21 => ((l2 = 1 → (C 136 [.int l5, .int 6] s21 (bRvx (fun s24 => (C 138 [.int l2, .int 0, .int 6] s24 (bRvx (fun s26 => ((t0 = 0 → ((l2 = 0 → (C 138 [.int l4, .int 0, .int 999] s26 (bRvx (fun s30 => A (47, [.ref 11, .int l1, .int l2, .int l3, .int l4, .int l5, .int t0], [], s30)) (fun E s30 => Q (.inr E) s30)))) ∧ (¬ l2 = 0 → (C 138 [.int l4, .int 0, .int 0] s26 (bRvx (fun s32 => A (47, [.ref 11, .int l1, .int l2, .int l3, .int l4, .int l5, .int t0], [], s32)) (fun E s32 => Q (.inr E) s32)))))) ∧ (¬ t0 = 0 → A (47, [.ref 11, .int l1, .int l2, .int l3, .int l4, .int l5, .int t0], [], s26)))) (fun E s26 => Q (.inr E) s26)))) (fun E s24 => Q (.inr E) s24)))) ∧ (¬ l2 = 1 → (C 138 [.int l2, .int 0, .int 6] s21 (bRvx (fun s34 => ((t0 = 0 → ((l2 = 0 → (C 138 [.int l4, .int 0, .int 999] s34 (bRvx (fun s38 => A (47, [.ref 11, .int l1, .int l2, .int l3, .int l4, .int l5, .int t0], [], s38)) (fun E s38 => Q (.inr E) s38)))) ∧ (¬ l2 = 0 → (C 138 [.int l4, .int 0, .int 0] s34 (bRvx (fun s40 => A (47, [.ref 11, .int l1, .int l2, .int l3, .int l4, .int l5, .int t0], [], s40)) (fun E s40 => Q (.inr E) s40)))))) ∧ (¬ t0 = 0 → A (47, [.ref 11, .int l1, .int l2, .int l3, .int l4, .int l5, .int t0], [], s34)))) (fun E s34 => Q (.inr E) s34)))))) (fun E s21 => Q (.inr E) s21)))))) : A (21, [.ref 11, .int l1, .int l2, .int l3, .int l4, .int l5, v6], [.int t0], σ) := by
  refine bGo hA 1 5 (37, .istore 6, 2, 22, 0, [6], []) rfl rfl rfl ?_
  refine bGo hA 1 6 (39, .iload 6, 2, 23, 0, [6], []) rfl rfl rfl ?_
  refine bGo hA 1 7 (41, .ifCond .eq (10), 3, 24, 27, [], []) rfl rfl rfl ?_
  refine ⟨fun c1 => ?_, fun c1 => ?_⟩
  · refine bGo hA 1 11 (51, .iload_n 2, 1, 28, 0, [2], []) rfl rfl rfl ?_
    refine bGo hA 1 12 (52, .iconst (1), 1, 29, 0, [], [(1, 0)]) rfl rfl rfl ?_
    refine bGo hA 1 13 (53, .if_icmp .ne (10), 3, 30, 33, [], []) rfl rfl rfl ?_
    refine ⟨fun c2 => ?_, fun c2 => ?_⟩
    · refine bGo hA 1 14 (56, .iload 5, 2, 31, 0, [5], []) rfl rfl rfl ?_
      refine bGo hA 1 15 (58, .bipush (6), 2, 32, 0, [], [(6, 0)]) rfl rfl rfl ?_
      refine bGo hA 2 0 (60, .invokestatic 76, 3, 33, 0, [2, 136, 2], []) rfl rfl rfl ?_
      refine hC _ _ _ _ _ (bRvx_e (fun s3 k4 => ?_) (fun E s3 k4 => ?_)) ((h.1 c1).1 c2)
      · show A (33, [.ref 11, .int l1, .int l2, .int l3, .int l4, .int l5, .int t0], [], s3)
        refine bGo hA 2 1 (63, .iload_n 2, 1, 34, 0, [2], []) rfl rfl rfl ?_
        refine bGo hA 2 2 (64, .iconst (0), 1, 35, 0, [], [(0, 0)]) rfl rfl rfl ?_
        refine bGo hA 2 3 (65, .bipush (6), 2, 36, 0, [], [(6, 0)]) rfl rfl rfl ?_
        refine bGo hA 2 4 (67, .invokestatic 80, 3, 37, 0, [2, 138, 3], []) rfl rfl rfl ?_
        refine hC _ _ _ _ _ (bRvx_e (fun s5 k6 => ?_) (fun E s5 k6 => ?_)) k4
        · show A (37, [.ref 11, .int l1, .int l2, .int l3, .int l4, .int l5, .int t0], [], s5)
          refine bGo hA 2 5 (70, .iload 6, 2, 38, 0, [6], []) rfl rfl rfl ?_
          refine bGo hA 2 6 (72, .ifCond .ne (20), 3, 39, 47, [], []) rfl rfl rfl ?_
          refine ⟨fun c7 => ?_, fun c7 => ?_⟩
          · refine bGo hA 2 7 (75, .iload 4, 2, 40, 0, [4], []) rfl rfl rfl ?_
            refine bGo hA 2 8 (77, .iconst (0), 1, 41, 0, [], [(0, 0)]) rfl rfl rfl ?_
            refine bGo hA 2 9 (78, .iload_n 2, 1, 42, 0, [2], []) rfl rfl rfl ?_
            refine bGo hA 2 10 (79, .ifCond .ne (9), 3, 43, 45, [], []) rfl rfl rfl ?_
            refine ⟨fun c8 => ?_, fun c8 => ?_⟩
            · refine bGo hA 2 11 (82, .sipush (999), 3, 44, 0, [], [(999, 0)]) rfl rfl rfl ?_
              refine bGo hA 2 12 (85, .goto (4), 3, 45, 46, [], []) rfl rfl rfl ?_
              refine bGo hA 2 14 (89, .invokestatic 80, 3, 47, 0, [2, 138, 3], []) rfl rfl rfl ?_
              refine hC _ _ _ _ _ (bRvx_e (fun s9 k10 => ?_) (fun E s9 k10 => ?_)) ((k6.1 c7).1 c8)
              · show A (47, [.ref 11, .int l1, .int l2, .int l3, .int l4, .int l5, .int t0], [], s9)
                exact k10
              · exact k10
            · refine bGo hA 2 13 (88, .iconst (0), 1, 46, 0, [], [(0, 0)]) rfl rfl rfl ?_
              refine bGo hA 2 14 (89, .invokestatic 80, 3, 47, 0, [2, 138, 3], []) rfl rfl rfl ?_
              refine hC _ _ _ _ _ (bRvx_e (fun s11 k12 => ?_) (fun E s11 k12 => ?_)) ((k6.1 c7).2 c8)
              · show A (47, [.ref 11, .int l1, .int l2, .int l3, .int l4, .int l5, .int t0], [], s11)
                exact k12
              · exact k12
          · exact (k6.2 c7)
        · exact k6
      · exact k4
    · refine bGo hA 2 1 (63, .iload_n 2, 1, 34, 0, [2], []) rfl rfl rfl ?_
      refine bGo hA 2 2 (64, .iconst (0), 1, 35, 0, [], [(0, 0)]) rfl rfl rfl ?_
      refine bGo hA 2 3 (65, .bipush (6), 2, 36, 0, [], [(6, 0)]) rfl rfl rfl ?_
      refine bGo hA 2 4 (67, .invokestatic 80, 3, 37, 0, [2, 138, 3], []) rfl rfl rfl ?_
      refine hC _ _ _ _ _ (bRvx_e (fun s13 k14 => ?_) (fun E s13 k14 => ?_)) ((h.1 c1).2 c2)
      · show A (37, [.ref 11, .int l1, .int l2, .int l3, .int l4, .int l5, .int t0], [], s13)
        refine bGo hA 2 5 (70, .iload 6, 2, 38, 0, [6], []) rfl rfl rfl ?_
        refine bGo hA 2 6 (72, .ifCond .ne (20), 3, 39, 47, [], []) rfl rfl rfl ?_
        refine ⟨fun c15 => ?_, fun c15 => ?_⟩
        · refine bGo hA 2 7 (75, .iload 4, 2, 40, 0, [4], []) rfl rfl rfl ?_
          refine bGo hA 2 8 (77, .iconst (0), 1, 41, 0, [], [(0, 0)]) rfl rfl rfl ?_
          refine bGo hA 2 9 (78, .iload_n 2, 1, 42, 0, [2], []) rfl rfl rfl ?_
          refine bGo hA 2 10 (79, .ifCond .ne (9), 3, 43, 45, [], []) rfl rfl rfl ?_
          refine ⟨fun c16 => ?_, fun c16 => ?_⟩
          · refine bGo hA 2 11 (82, .sipush (999), 3, 44, 0, [], [(999, 0)]) rfl rfl rfl ?_
            refine bGo hA 2 12 (85, .goto (4), 3, 45, 46, [], []) rfl rfl rfl ?_
            refine bGo hA 2 14 (89, .invokestatic 80, 3, 47, 0, [2, 138, 3], []) rfl rfl rfl ?_
            refine hC _ _ _ _ _ (bRvx_e (fun s17 k18 => ?_) (fun E s17 k18 => ?_)) ((k14.1 c15).1 c16)
            · show A (47, [.ref 11, .int l1, .int l2, .int l3, .int l4, .int l5, .int t0], [], s17)
              exact k18
            · exact k18
          · refine bGo hA 2 13 (88, .iconst (0), 1, 46, 0, [], [(0, 0)]) rfl rfl rfl ?_
            refine bGo hA 2 14 (89, .invokestatic 80, 3, 47, 0, [2, 138, 3], []) rfl rfl rfl ?_
            refine hC _ _ _ _ _ (bRvx_e (fun s19 k20 => ?_) (fun E s19 k20 => ?_)) ((k14.1 c15).2 c16)
            · show A (47, [.ref 11, .int l1, .int l2, .int l3, .int l4, .int l5, .int t0], [], s19)
              exact k20
            · exact k20
        · exact (k14.2 c15)
      · exact k14
  · refine bGo hA 1 8 (44, .iload 4, 2, 25, 0, [4], []) rfl rfl rfl ?_
    refine bGo hA 1 9 (46, .bipush (8), 2, 26, 0, [], [(8, 0)]) rfl rfl rfl ?_
    refine bGo hA 1 10 (48, .invokestatic 76, 3, 27, 0, [2, 136, 2], []) rfl rfl rfl ?_
    refine hC _ _ _ _ _ (bRvx_e (fun s21 k22 => ?_) (fun E s21 k22 => ?_)) (h.2 c1)
    · show A (27, [.ref 11, .int l1, .int l2, .int l3, .int l4, .int l5, .int t0], [], s21)
      refine bGo hA 1 11 (51, .iload_n 2, 1, 28, 0, [2], []) rfl rfl rfl ?_
      refine bGo hA 1 12 (52, .iconst (1), 1, 29, 0, [], [(1, 0)]) rfl rfl rfl ?_
      refine bGo hA 1 13 (53, .if_icmp .ne (10), 3, 30, 33, [], []) rfl rfl rfl ?_
      refine ⟨fun c23 => ?_, fun c23 => ?_⟩
      · refine bGo hA 1 14 (56, .iload 5, 2, 31, 0, [5], []) rfl rfl rfl ?_
        refine bGo hA 1 15 (58, .bipush (6), 2, 32, 0, [], [(6, 0)]) rfl rfl rfl ?_
        refine bGo hA 2 0 (60, .invokestatic 76, 3, 33, 0, [2, 136, 2], []) rfl rfl rfl ?_
        refine hC _ _ _ _ _ (bRvx_e (fun s24 k25 => ?_) (fun E s24 k25 => ?_)) (k22.1 c23)
        · show A (33, [.ref 11, .int l1, .int l2, .int l3, .int l4, .int l5, .int t0], [], s24)
          refine bGo hA 2 1 (63, .iload_n 2, 1, 34, 0, [2], []) rfl rfl rfl ?_
          refine bGo hA 2 2 (64, .iconst (0), 1, 35, 0, [], [(0, 0)]) rfl rfl rfl ?_
          refine bGo hA 2 3 (65, .bipush (6), 2, 36, 0, [], [(6, 0)]) rfl rfl rfl ?_
          refine bGo hA 2 4 (67, .invokestatic 80, 3, 37, 0, [2, 138, 3], []) rfl rfl rfl ?_
          refine hC _ _ _ _ _ (bRvx_e (fun s26 k27 => ?_) (fun E s26 k27 => ?_)) k25
          · show A (37, [.ref 11, .int l1, .int l2, .int l3, .int l4, .int l5, .int t0], [], s26)
            refine bGo hA 2 5 (70, .iload 6, 2, 38, 0, [6], []) rfl rfl rfl ?_
            refine bGo hA 2 6 (72, .ifCond .ne (20), 3, 39, 47, [], []) rfl rfl rfl ?_
            refine ⟨fun c28 => ?_, fun c28 => ?_⟩
            · refine bGo hA 2 7 (75, .iload 4, 2, 40, 0, [4], []) rfl rfl rfl ?_
              refine bGo hA 2 8 (77, .iconst (0), 1, 41, 0, [], [(0, 0)]) rfl rfl rfl ?_
              refine bGo hA 2 9 (78, .iload_n 2, 1, 42, 0, [2], []) rfl rfl rfl ?_
              refine bGo hA 2 10 (79, .ifCond .ne (9), 3, 43, 45, [], []) rfl rfl rfl ?_
              refine ⟨fun c29 => ?_, fun c29 => ?_⟩
              · refine bGo hA 2 11 (82, .sipush (999), 3, 44, 0, [], [(999, 0)]) rfl rfl rfl ?_
                refine bGo hA 2 12 (85, .goto (4), 3, 45, 46, [], []) rfl rfl rfl ?_
                refine bGo hA 2 14 (89, .invokestatic 80, 3, 47, 0, [2, 138, 3], []) rfl rfl rfl ?_
                refine hC _ _ _ _ _ (bRvx_e (fun s30 k31 => ?_) (fun E s30 k31 => ?_)) ((k27.1 c28).1 c29)
                · show A (47, [.ref 11, .int l1, .int l2, .int l3, .int l4, .int l5, .int t0], [], s30)
                  exact k31
                · exact k31
              · refine bGo hA 2 13 (88, .iconst (0), 1, 46, 0, [], [(0, 0)]) rfl rfl rfl ?_
                refine bGo hA 2 14 (89, .invokestatic 80, 3, 47, 0, [2, 138, 3], []) rfl rfl rfl ?_
                refine hC _ _ _ _ _ (bRvx_e (fun s32 k33 => ?_) (fun E s32 k33 => ?_)) ((k27.1 c28).2 c29)
                · show A (47, [.ref 11, .int l1, .int l2, .int l3, .int l4, .int l5, .int t0], [], s32)
                  exact k33
                · exact k33
            · exact (k27.2 c28)
          · exact k27
        · exact k25
      · refine bGo hA 2 1 (63, .iload_n 2, 1, 34, 0, [2], []) rfl rfl rfl ?_
        refine bGo hA 2 2 (64, .iconst (0), 1, 35, 0, [], [(0, 0)]) rfl rfl rfl ?_
        refine bGo hA 2 3 (65, .bipush (6), 2, 36, 0, [], [(6, 0)]) rfl rfl rfl ?_
        refine bGo hA 2 4 (67, .invokestatic 80, 3, 37, 0, [2, 138, 3], []) rfl rfl rfl ?_
        refine hC _ _ _ _ _ (bRvx_e (fun s34 k35 => ?_) (fun E s34 k35 => ?_)) (k22.2 c23)
        · show A (37, [.ref 11, .int l1, .int l2, .int l3, .int l4, .int l5, .int t0], [], s34)
          refine bGo hA 2 5 (70, .iload 6, 2, 38, 0, [6], []) rfl rfl rfl ?_
          refine bGo hA 2 6 (72, .ifCond .ne (20), 3, 39, 47, [], []) rfl rfl rfl ?_
          refine ⟨fun c36 => ?_, fun c36 => ?_⟩
          · refine bGo hA 2 7 (75, .iload 4, 2, 40, 0, [4], []) rfl rfl rfl ?_
            refine bGo hA 2 8 (77, .iconst (0), 1, 41, 0, [], [(0, 0)]) rfl rfl rfl ?_
            refine bGo hA 2 9 (78, .iload_n 2, 1, 42, 0, [2], []) rfl rfl rfl ?_
            refine bGo hA 2 10 (79, .ifCond .ne (9), 3, 43, 45, [], []) rfl rfl rfl ?_
            refine ⟨fun c37 => ?_, fun c37 => ?_⟩
            · refine bGo hA 2 11 (82, .sipush (999), 3, 44, 0, [], [(999, 0)]) rfl rfl rfl ?_
              refine bGo hA 2 12 (85, .goto (4), 3, 45, 46, [], []) rfl rfl rfl ?_
              refine bGo hA 2 14 (89, .invokestatic 80, 3, 47, 0, [2, 138, 3], []) rfl rfl rfl ?_
              refine hC _ _ _ _ _ (bRvx_e (fun s38 k39 => ?_) (fun E s38 k39 => ?_)) ((k35.1 c36).1 c37)
              · show A (47, [.ref 11, .int l1, .int l2, .int l3, .int l4, .int l5, .int t0], [], s38)
                exact k39
              · exact k39
            · refine bGo hA 2 13 (88, .iconst (0), 1, 46, 0, [], [(0, 0)]) rfl rfl rfl ?_
              refine bGo hA 2 14 (89, .invokestatic 80, 3, 47, 0, [2, 138, 3], []) rfl rfl rfl ?_
              refine hC _ _ _ _ _ (bRvx_e (fun s40 k41 => ?_) (fun E s40 k41 => ?_)) ((k35.1 c36).2 c37)
              · show A (47, [.ref 11, .int l1, .int l2, .int l3, .int l4, .int l5, .int t0], [], s40)
                exact k41
              · exact k41
          · exact (k35.2 c36)
        · exact k35
    · exact k22

theorem sg148_47 {lvl : Nat} {C : bCall} {Q : bPost} {A : bPt → Prop} (hC : bMono C) (hA : bClosed lvl bm148 C Q A) {l1 : Int32} {l2 : Int32} {l3 : Int32} {l4 : Int32} {l5 : Int32} {v6 : Value} {σ : bSt} 
  (h : ((l2 = 1 → (C 91 [.ref 7, .int l1] σ (bRi (fun r4 s2 => ((r4 < 12 → (C 139 [.int 1] s2 (bRvx (fun s6 => (C 92 [.ref 7, .int l1, .int l2, .int l3, .int l4, .int l5] s6 (bRi (fun r10 s8 => Q (.inl (some (.int r10))) s8)))) (fun E s6 => Q (.inr E) s6)))) ∧ (¬ r4 < 12 → (C 139 [.int 0] s2 (bRvx (fun s11 => (C 92 [.ref 7, .int l1, .int l2, .int l3, .int l4, .int l5] s11 (bRi (fun r15 s13 => Q (.inl (some (.int r15))) s13)))) (fun E s11 => Q (.inr E) s11))))))))) ∧ (¬ l2 = 1 → (C 138 [.int l5, .int 0, .int 0] σ (bRvx (fun s16 => (C 91 [.ref 7, .int l1] s16 (bRi (fun r20 s18 => ((r20 < 12 → (C 139 [.int 1] s18 (bRvx (fun s22 => (C 92 [.ref 7, .int l1, .int l2, .int l3, .int l4, .int l5] s22 (bRi (fun r26 s24 => Q (.inl (some (.int r26))) s24)))) (fun E s22 => Q (.inr E) s22)))) ∧ (¬ r20 < 12 → (C 139 [.int 0] s18 (bRvx (fun s27 => (C 92 [.ref 7, .int l1, .int l2, .int l3, .int l4, .int l5] s27 (bRi (fun r31 s29 => Q (.inl (some (.int r31))) s29)))) (fun E s27 => Q (.inr E) s27))))))))) (fun E s16 => Q (.inr E) s16)))))) : A (47, [.ref 11, .int l1, .int l2, .int l3, .int l4, .int l5, v6], [], σ) := by
  refine bGo hA 2 15 (92, .iload_n 2, 1, 48, 0, [2], []) rfl rfl rfl ?_
  refine bGo hA 3 0 (93, .iconst (1), 1, 49, 0, [], [(1, 0)]) rfl rfl rfl ?_
  refine bGo hA 3 1 (94, .if_icmp .eq (10), 3, 50, 54, [], []) rfl rfl rfl ?_
  refine ⟨fun c1 => ?_, fun c1 => ?_⟩
  · refine bGo hA 3 6 (104, .aload_n 0, 1, 55, 0, [0], []) rfl rfl rfl ?_
    refine bGo hA 3 7 (105, .getfield 19, 3, 56, 0, [11, 1, 3, 7, 0, 0], []) rfl rfl rfl ?_
    refine ⟨rfl, ?_⟩
    refine bGo hA 3 8 (108, .iload_n 1, 1, 57, 0, [1], []) rfl rfl rfl ?_
    refine bGo hA 3 9 (109, .invokevirtual 108, 3, 58, 0, [0, 7, 91, 1], []) rfl rfl rfl ?_
    refine ⟨rfl, ?_⟩
    refine hC _ _ _ _ _ (bRi_e (fun r4 s2 k3 => ?_)) (h.1 c1)
    show A (58, [.ref 11, .int l1, .int l2, .int l3, .int l4, .int l5, v6], [.int r4], s2)
    refine bGo hA 3 10 (112, .bipush (12), 2, 59, 0, [], [(12, 0)]) rfl rfl rfl ?_
    refine bGo hA 3 11 (114, .if_icmp .ge (7), 3, 60, 62, [], []) rfl rfl rfl ?_
    refine ⟨fun c5 => ?_, fun c5 => ?_⟩
    · refine bGo hA 3 12 (117, .iconst (1), 1, 61, 0, [], [(1, 0)]) rfl rfl rfl ?_
      refine bGo hA 3 13 (118, .goto (4), 3, 62, 63, [], []) rfl rfl rfl ?_
      refine bGo hA 3 15 (122, .invokestatic 88, 3, 64, 0, [2, 139, 1], []) rfl rfl rfl ?_
      refine hC _ _ _ _ _ (bRvx_e (fun s6 k7 => ?_) (fun E s6 k7 => ?_)) (k3.1 c5)
      · show A (64, [.ref 11, .int l1, .int l2, .int l3, .int l4, .int l5, v6], [], s6)
        refine bGo hA 4 0 (125, .aload_n 0, 1, 65, 0, [0], []) rfl rfl rfl ?_
        refine bGo hA 4 1 (126, .getfield 19, 3, 66, 0, [11, 1, 3, 7, 0, 0], []) rfl rfl rfl ?_
        refine ⟨rfl, ?_⟩
        refine bGo hA 4 2 (129, .iload_n 1, 1, 67, 0, [1], []) rfl rfl rfl ?_
        refine bGo hA 4 3 (130, .iload_n 2, 1, 68, 0, [2], []) rfl rfl rfl ?_
        refine bGo hA 4 4 (131, .iload_n 3, 1, 69, 0, [3], []) rfl rfl rfl ?_
        refine bGo hA 4 5 (132, .iload 4, 2, 70, 0, [4], []) rfl rfl rfl ?_
        refine bGo hA 4 6 (134, .iload 5, 2, 71, 0, [5], []) rfl rfl rfl ?_
        refine bGo hA 4 7 (136, .invokevirtual 111, 3, 72, 0, [0, 7, 92, 5], []) rfl rfl rfl ?_
        refine ⟨rfl, ?_⟩
        refine hC _ _ _ _ _ (bRi_e (fun r10 s8 k9 => ?_)) k7
        show A (72, [.ref 11, .int l1, .int l2, .int l3, .int l4, .int l5, v6], [.int r10], s8)
        refine bGo hA 4 8 (139, .ireturn, 1, 0, 0, [1], []) rfl rfl rfl ?_
        exact k9
      · exact k7
    · refine bGo hA 3 14 (121, .iconst (0), 1, 63, 0, [], [(0, 0)]) rfl rfl rfl ?_
      refine bGo hA 3 15 (122, .invokestatic 88, 3, 64, 0, [2, 139, 1], []) rfl rfl rfl ?_
      refine hC _ _ _ _ _ (bRvx_e (fun s11 k12 => ?_) (fun E s11 k12 => ?_)) (k3.2 c5)
      · show A (64, [.ref 11, .int l1, .int l2, .int l3, .int l4, .int l5, v6], [], s11)
        refine bGo hA 4 0 (125, .aload_n 0, 1, 65, 0, [0], []) rfl rfl rfl ?_
        refine bGo hA 4 1 (126, .getfield 19, 3, 66, 0, [11, 1, 3, 7, 0, 0], []) rfl rfl rfl ?_
        refine ⟨rfl, ?_⟩
        refine bGo hA 4 2 (129, .iload_n 1, 1, 67, 0, [1], []) rfl rfl rfl ?_
        refine bGo hA 4 3 (130, .iload_n 2, 1, 68, 0, [2], []) rfl rfl rfl ?_
        refine bGo hA 4 4 (131, .iload_n 3, 1, 69, 0, [3], []) rfl rfl rfl ?_
        refine bGo hA 4 5 (132, .iload 4, 2, 70, 0, [4], []) rfl rfl rfl ?_
        refine bGo hA 4 6 (134, .iload 5, 2, 71, 0, [5], []) rfl rfl rfl ?_
        refine bGo hA 4 7 (136, .invokevirtual 111, 3, 72, 0, [0, 7, 92, 5], []) rfl rfl rfl ?_
        refine ⟨rfl, ?_⟩
        refine hC _ _ _ _ _ (bRi_e (fun r15 s13 k14 => ?_)) k12
        show A (72, [.ref 11, .int l1, .int l2, .int l3, .int l4, .int l5, v6], [.int r15], s13)
        refine bGo hA 4 8 (139, .ireturn, 1, 0, 0, [1], []) rfl rfl rfl ?_
        exact k14
      · exact k12
  · refine bGo hA 3 2 (97, .iload 5, 2, 51, 0, [5], []) rfl rfl rfl ?_
    refine bGo hA 3 3 (99, .iconst (0), 1, 52, 0, [], [(0, 0)]) rfl rfl rfl ?_
    refine bGo hA 3 4 (100, .iconst (0), 1, 53, 0, [], [(0, 0)]) rfl rfl rfl ?_
    refine bGo hA 3 5 (101, .invokestatic 80, 3, 54, 0, [2, 138, 3], []) rfl rfl rfl ?_
    refine hC _ _ _ _ _ (bRvx_e (fun s16 k17 => ?_) (fun E s16 k17 => ?_)) (h.2 c1)
    · show A (54, [.ref 11, .int l1, .int l2, .int l3, .int l4, .int l5, v6], [], s16)
      refine bGo hA 3 6 (104, .aload_n 0, 1, 55, 0, [0], []) rfl rfl rfl ?_
      refine bGo hA 3 7 (105, .getfield 19, 3, 56, 0, [11, 1, 3, 7, 0, 0], []) rfl rfl rfl ?_
      refine ⟨rfl, ?_⟩
      refine bGo hA 3 8 (108, .iload_n 1, 1, 57, 0, [1], []) rfl rfl rfl ?_
      refine bGo hA 3 9 (109, .invokevirtual 108, 3, 58, 0, [0, 7, 91, 1], []) rfl rfl rfl ?_
      refine ⟨rfl, ?_⟩
      refine hC _ _ _ _ _ (bRi_e (fun r20 s18 k19 => ?_)) k17
      show A (58, [.ref 11, .int l1, .int l2, .int l3, .int l4, .int l5, v6], [.int r20], s18)
      refine bGo hA 3 10 (112, .bipush (12), 2, 59, 0, [], [(12, 0)]) rfl rfl rfl ?_
      refine bGo hA 3 11 (114, .if_icmp .ge (7), 3, 60, 62, [], []) rfl rfl rfl ?_
      refine ⟨fun c21 => ?_, fun c21 => ?_⟩
      · refine bGo hA 3 12 (117, .iconst (1), 1, 61, 0, [], [(1, 0)]) rfl rfl rfl ?_
        refine bGo hA 3 13 (118, .goto (4), 3, 62, 63, [], []) rfl rfl rfl ?_
        refine bGo hA 3 15 (122, .invokestatic 88, 3, 64, 0, [2, 139, 1], []) rfl rfl rfl ?_
        refine hC _ _ _ _ _ (bRvx_e (fun s22 k23 => ?_) (fun E s22 k23 => ?_)) (k19.1 c21)
        · show A (64, [.ref 11, .int l1, .int l2, .int l3, .int l4, .int l5, v6], [], s22)
          refine bGo hA 4 0 (125, .aload_n 0, 1, 65, 0, [0], []) rfl rfl rfl ?_
          refine bGo hA 4 1 (126, .getfield 19, 3, 66, 0, [11, 1, 3, 7, 0, 0], []) rfl rfl rfl ?_
          refine ⟨rfl, ?_⟩
          refine bGo hA 4 2 (129, .iload_n 1, 1, 67, 0, [1], []) rfl rfl rfl ?_
          refine bGo hA 4 3 (130, .iload_n 2, 1, 68, 0, [2], []) rfl rfl rfl ?_
          refine bGo hA 4 4 (131, .iload_n 3, 1, 69, 0, [3], []) rfl rfl rfl ?_
          refine bGo hA 4 5 (132, .iload 4, 2, 70, 0, [4], []) rfl rfl rfl ?_
          refine bGo hA 4 6 (134, .iload 5, 2, 71, 0, [5], []) rfl rfl rfl ?_
          refine bGo hA 4 7 (136, .invokevirtual 111, 3, 72, 0, [0, 7, 92, 5], []) rfl rfl rfl ?_
          refine ⟨rfl, ?_⟩
          refine hC _ _ _ _ _ (bRi_e (fun r26 s24 k25 => ?_)) k23
          show A (72, [.ref 11, .int l1, .int l2, .int l3, .int l4, .int l5, v6], [.int r26], s24)
          refine bGo hA 4 8 (139, .ireturn, 1, 0, 0, [1], []) rfl rfl rfl ?_
          exact k25
        · exact k23
      · refine bGo hA 3 14 (121, .iconst (0), 1, 63, 0, [], [(0, 0)]) rfl rfl rfl ?_
        refine bGo hA 3 15 (122, .invokestatic 88, 3, 64, 0, [2, 139, 1], []) rfl rfl rfl ?_
        refine hC _ _ _ _ _ (bRvx_e (fun s27 k28 => ?_) (fun E s27 k28 => ?_)) (k19.2 c21)
        · show A (64, [.ref 11, .int l1, .int l2, .int l3, .int l4, .int l5, v6], [], s27)
          refine bGo hA 4 0 (125, .aload_n 0, 1, 65, 0, [0], []) rfl rfl rfl ?_
          refine bGo hA 4 1 (126, .getfield 19, 3, 66, 0, [11, 1, 3, 7, 0, 0], []) rfl rfl rfl ?_
          refine ⟨rfl, ?_⟩
          refine bGo hA 4 2 (129, .iload_n 1, 1, 67, 0, [1], []) rfl rfl rfl ?_
          refine bGo hA 4 3 (130, .iload_n 2, 1, 68, 0, [2], []) rfl rfl rfl ?_
          refine bGo hA 4 4 (131, .iload_n 3, 1, 69, 0, [3], []) rfl rfl rfl ?_
          refine bGo hA 4 5 (132, .iload 4, 2, 70, 0, [4], []) rfl rfl rfl ?_
          refine bGo hA 4 6 (134, .iload 5, 2, 71, 0, [5], []) rfl rfl rfl ?_
          refine bGo hA 4 7 (136, .invokevirtual 111, 3, 72, 0, [0, 7, 92, 5], []) rfl rfl rfl ?_
          refine ⟨rfl, ?_⟩
          refine hC _ _ _ _ _ (bRi_e (fun r31 s29 k30 => ?_)) k28
          show A (72, [.ref 11, .int l1, .int l2, .int l3, .int l4, .int l5, v6], [.int r31], s29)
          refine bGo hA 4 8 (139, .ireturn, 1, 0, 0, [1], []) rfl rfl rfl ?_
          exact k30
        · exact k28
    · exact k17

theorem sg149_0 {lvl : Nat} {C : bCall} {Q : bPost} {A : bPt → Prop} (hC : bMono C) (hA : bClosed lvl bm149 C Q A) {x1 : Int32} {x2 : Int32} {σ : bSt} 
  (h : (C 136 [.int x1, .int 6] σ (bRvx (fun s1 => (C 91 [.ref 7, .int x1] s1 (bRi (fun r5 s3 => (C 136 [.int x2, .int r5] s3 (bRvx (fun s6 => (C 93 [.ref 7, .int x1, .int x2] s6 (bRi (fun r10 s8 => Q (.inl (some (.int r10))) s8)))) (fun E s6 => Q (.inr E) s6))))))) (fun E s1 => Q (.inr E) s1)))) : A (0, [.ref 11, .int x1, .int x2], [], σ) := by
  refine bGo hA 0 0 (0, .iload_n 1, 1, 1, 0, [1], []) rfl rfl rfl ?_
  refine bGo hA 0 1 (1, .bipush (6), 2, 2, 0, [], [(6, 0)]) rfl rfl rfl ?_
  refine bGo hA 0 2 (3, .invokestatic 76, 3, 3, 0, [2, 136, 2], []) rfl rfl rfl ?_
  refine hC _ _ _ _ _ (bRvx_e (fun s1 k2 => ?_) (fun E s1 k2 => ?_)) h
  · show A (3, [.ref 11, .int x1, .int x2], [], s1)
    refine bGo hA 0 3 (6, .iload_n 2, 1, 4, 0, [2], []) rfl rfl rfl ?_
    refine bGo hA 0 4 (7, .aload_n 0, 1, 5, 0, [0], []) rfl rfl rfl ?_
    refine bGo hA 0 5 (8, .getfield 19, 3, 6, 0, [11, 1, 3, 7, 0, 0], []) rfl rfl rfl ?_
    refine ⟨rfl, ?_⟩
    refine bGo hA 0 6 (11, .iload_n 1, 1, 7, 0, [1], []) rfl rfl rfl ?_
    refine bGo hA 0 7 (12, .invokevirtual 108, 3, 8, 0, [0, 7, 91, 1], []) rfl rfl rfl ?_
    refine ⟨rfl, ?_⟩
    refine hC _ _ _ _ _ (bRi_e (fun r5 s3 k4 => ?_)) k2
    show A (8, [.ref 11, .int x1, .int x2], [.int r5, .int x2], s3)
    refine bGo hA 0 8 (15, .invokestatic 76, 3, 9, 0, [2, 136, 2], []) rfl rfl rfl ?_
    refine hC _ _ _ _ _ (bRvx_e (fun s6 k7 => ?_) (fun E s6 k7 => ?_)) k4
    · show A (9, [.ref 11, .int x1, .int x2], [], s6)
      refine bGo hA 0 9 (18, .aload_n 0, 1, 10, 0, [0], []) rfl rfl rfl ?_
      refine bGo hA 0 10 (19, .getfield 19, 3, 11, 0, [11, 1, 3, 7, 0, 0], []) rfl rfl rfl ?_
      refine ⟨rfl, ?_⟩
      refine bGo hA 0 11 (22, .iload_n 1, 1, 12, 0, [1], []) rfl rfl rfl ?_
      refine bGo hA 0 12 (23, .iload_n 2, 1, 13, 0, [2], []) rfl rfl rfl ?_
      refine bGo hA 0 13 (24, .invokevirtual 115, 3, 14, 0, [0, 7, 93, 2], []) rfl rfl rfl ?_
      refine ⟨rfl, ?_⟩
      refine hC _ _ _ _ _ (bRi_e (fun r10 s8 k9 => ?_)) k7
      show A (14, [.ref 11, .int x1, .int x2], [.int r10], s8)
      refine bGo hA 0 14 (27, .ireturn, 1, 0, 0, [1], []) rfl rfl rfl ?_
      exact k9
    · exact k7
  · exact k2

theorem sg150_0 {lvl : Nat} {C : bCall} {Q : bPost} {A : bPt → Prop} (hC : bMono C) (hA : bClosed lvl bm150 C Q A) {x1 : Int32} {x2 : Int32} {σ : bSt} 
  (h : (C 136 [.int x1, .int 6] σ (bRvx (fun s1 => (C 136 [.int x2, .int 8] s1 (bRvx (fun s3 => (C 95 [.ref 7, .int x1, .int x2] s3 (bRi (fun r7 s5 => Q (.inl (some (.int r7))) s5)))) (fun E s3 => Q (.inr E) s3)))) (fun E s1 => Q (.inr E) s1)))) : A (0, [.ref 11, .int x1, .int x2], [], σ) := by
  refine bGo hA 0 0 (0, .iload_n 1, 1, 1, 0, [1], []) rfl rfl rfl ?_
  refine bGo hA 0 1 (1, .bipush (6), 2, 2, 0, [], [(6, 0)]) rfl rfl rfl ?_
  refine bGo hA 0 2 (3, .invokestatic 76, 3, 3, 0, [2, 136, 2], []) rfl rfl rfl ?_
  refine hC _ _ _ _ _ (bRvx_e (fun s1 k2 => ?_) (fun E s1 k2 => ?_)) h
  · show A (3, [.ref 11, .int x1, .int x2], [], s1)
    refine bGo hA 0 3 (6, .iload_n 2, 1, 4, 0, [2], []) rfl rfl rfl ?_
    refine bGo hA 0 4 (7, .bipush (8), 2, 5, 0, [], [(8, 0)]) rfl rfl rfl ?_
    refine bGo hA 0 5 (9, .invokestatic 76, 3, 6, 0, [2, 136, 2], []) rfl rfl rfl ?_
    refine hC _ _ _ _ _ (bRvx_e (fun s3 k4 => ?_) (fun E s3 k4 => ?_)) k2
    · show A (6, [.ref 11, .int x1, .int x2], [], s3)
      refine bGo hA 0 6 (12, .aload_n 0, 1, 7, 0, [0], []) rfl rfl rfl ?_
      refine bGo hA 0 7 (13, .getfield 19, 3, 8, 0, [11, 1, 3, 7, 0, 0], []) rfl rfl rfl ?_
      refine ⟨rfl, ?_⟩
      refine bGo hA 0 8 (16, .iload_n 1, 1, 9, 0, [1], []) rfl rfl rfl ?_
      refine bGo hA 0 9 (17, .iload_n 2, 1, 10, 0, [2], []) rfl rfl rfl ?_
      refine bGo hA 0 10 (18, .invokevirtual 118, 3, 11, 0, [0, 7, 95, 2], []) rfl rfl rfl ?_
      refine ⟨rfl, ?_⟩
      refine hC _ _ _ _ _ (bRi_e (fun r7 s5 k6 => ?_)) k4
      show A (11, [.ref 11, .int x1, .int x2], [.int r7], s5)
      refine bGo hA 0 11 (21, .ireturn, 1, 0, 0, [1], []) rfl rfl rfl ?_
      exact k6
    · exact k4
  · exact k2

theorem sg151_0 {lvl : Nat} {C : bCall} {Q : bPost} {A : bPt → Prop} (hC : bMono C) (hA : bClosed lvl bm151 C Q A) {x1 : Int32} {x2 : Int32} {x3 : Int32} {σ : bSt} 
  (h : (C 136 [.int x1, .int 6] σ (bRvx (fun s1 => (C 136 [.int x2, .int 8] s1 (bRvx (fun s3 => (C 137 [.int x3] s3 (bRvx (fun s5 => (C 97 [.ref 7, .int x1, .int x2, .int x3] s5 (bRi (fun r9 s7 => Q (.inl (some (.int r9))) s7)))) (fun E s5 => Q (.inr E) s5)))) (fun E s3 => Q (.inr E) s3)))) (fun E s1 => Q (.inr E) s1)))) : A (0, [.ref 11, .int x1, .int x2, .int x3], [], σ) := by
  refine bGo hA 0 0 (0, .iload_n 1, 1, 1, 0, [1], []) rfl rfl rfl ?_
  refine bGo hA 0 1 (1, .bipush (6), 2, 2, 0, [], [(6, 0)]) rfl rfl rfl ?_
  refine bGo hA 0 2 (3, .invokestatic 76, 3, 3, 0, [2, 136, 2], []) rfl rfl rfl ?_
  refine hC _ _ _ _ _ (bRvx_e (fun s1 k2 => ?_) (fun E s1 k2 => ?_)) h
  · show A (3, [.ref 11, .int x1, .int x2, .int x3], [], s1)
    refine bGo hA 0 3 (6, .iload_n 2, 1, 4, 0, [2], []) rfl rfl rfl ?_
    refine bGo hA 0 4 (7, .bipush (8), 2, 5, 0, [], [(8, 0)]) rfl rfl rfl ?_
    refine bGo hA 0 5 (9, .invokestatic 76, 3, 6, 0, [2, 136, 2], []) rfl rfl rfl ?_
    refine hC _ _ _ _ _ (bRvx_e (fun s3 k4 => ?_) (fun E s3 k4 => ?_)) k2
    · show A (6, [.ref 11, .int x1, .int x2, .int x3], [], s3)
      refine bGo hA 0 6 (12, .iload_n 3, 1, 7, 0, [3], []) rfl rfl rfl ?_
      refine bGo hA 0 7 (13, .invokestatic 121, 3, 8, 0, [2, 137, 1], []) rfl rfl rfl ?_
      refine hC _ _ _ _ _ (bRvx_e (fun s5 k6 => ?_) (fun E s5 k6 => ?_)) k4
      · show A (8, [.ref 11, .int x1, .int x2, .int x3], [], s5)
        refine bGo hA 0 8 (16, .aload_n 0, 1, 9, 0, [0], []) rfl rfl rfl ?_
        refine bGo hA 0 9 (17, .getfield 19, 3, 10, 0, [11, 1, 3, 7, 0, 0], []) rfl rfl rfl ?_
        refine ⟨rfl, ?_⟩
        refine bGo hA 0 10 (20, .iload_n 1, 1, 11, 0, [1], []) rfl rfl rfl ?_
        refine bGo hA 0 11 (21, .iload_n 2, 1, 12, 0, [2], []) rfl rfl rfl ?_
        refine bGo hA 0 12 (22, .iload_n 3, 1, 13, 0, [3], []) rfl rfl rfl ?_
        refine bGo hA 0 13 (23, .invokevirtual 125, 3, 14, 0, [0, 7, 97, 3], []) rfl rfl rfl ?_
        refine ⟨rfl, ?_⟩
        refine hC _ _ _ _ _ (bRi_e (fun r9 s7 k8 => ?_)) k6
        show A (14, [.ref 11, .int x1, .int x2, .int x3], [.int r9], s7)
        refine bGo hA 0 14 (26, .ireturn, 1, 0, 0, [1], []) rfl rfl rfl ?_
        exact k8
      · exact k6
    · exact k4
  · exact k2

theorem sg152_0 {lvl : Nat} {C : bCall} {Q : bPost} {A : bPt → Prop} (hC : bMono C) (hA : bClosed lvl bm152 C Q A) {x1 : Int32} {x2 : Int32} {σ : bSt} 
  (h : (C 136 [.int x1, .int 6] σ (bRvx (fun s1 => (C 137 [.int x2] s1 (bRvx (fun s3 => (C 98 [.ref 7, .int x1, .int x2] s3 (bRi (fun r7 s5 => Q (.inl (some (.int r7))) s5)))) (fun E s3 => Q (.inr E) s3)))) (fun E s1 => Q (.inr E) s1)))) : A (0, [.ref 11, .int x1, .int x2], [], σ) := by
  refine bGo hA 0 0 (0, .iload_n 1, 1, 1, 0, [1], []) rfl rfl rfl ?_
  refine bGo hA 0 1 (1, .bipush (6), 2, 2, 0, [], [(6, 0)]) rfl rfl rfl ?_
  refine bGo hA 0 2 (3, .invokestatic 76, 3, 3, 0, [2, 136, 2], []) rfl rfl rfl ?_
  refine hC _ _ _ _ _ (bRvx_e (fun s1 k2 => ?_) (fun E s1 k2 => ?_)) h
  · show A (3, [.ref 11, .int x1, .int x2], [], s1)
    refine bGo hA 0 3 (6, .iload_n 2, 1, 4, 0, [2], []) rfl rfl rfl ?_
    refine bGo hA 0 4 (7, .invokestatic 121, 3, 5, 0, [2, 137, 1], []) rfl rfl rfl ?_
    refine hC _ _ _ _ _ (bRvx_e (fun s3 k4 => ?_) (fun E s3 k4 => ?_)) k2
    · show A (5, [.ref 11, .int x1, .int x2], [], s3)
      refine bGo hA 0 5 (10, .aload_n 0, 1, 6, 0, [0], []) rfl rfl rfl ?_
      refine bGo hA 0 6 (11, .getfield 19, 3, 7, 0, [11, 1, 3, 7, 0, 0], []) rfl rfl rfl ?_
      refine ⟨rfl, ?_⟩
      refine bGo hA 0 7 (14, .iload_n 1, 1, 8, 0, [1], []) rfl rfl rfl ?_
      refine bGo hA 0 8 (15, .iload_n 2, 1, 9, 0, [2], []) rfl rfl rfl ?_
      refine bGo hA 0 9 (16, .invokevirtual 129, 3, 10, 0, [0, 7, 98, 2], []) rfl rfl rfl ?_
      refine ⟨rfl, ?_⟩
      refine hC _ _ _ _ _ (bRi_e (fun r7 s5 k6 => ?_)) k4
      show A (10, [.ref 11, .int x1, .int x2], [.int r7], s5)
      refine bGo hA 0 10 (19, .ireturn, 1, 0, 0, [1], []) rfl rfl rfl ?_
      exact k6
    · exact k4
  · exact k2

theorem sg153_0 {lvl : Nat} {C : bCall} {Q : bPost} {A : bPt → Prop} (hC : bMono C) (hA : bClosed lvl bm153 C Q A) {x1 : Int32} {x2 : Int32} {σ : bSt} 
  (h : (C 136 [.int x1, .int 4] σ (bRvx (fun s1 => (C 138 [.int x2, .int 0, .int 3] s1 (bRvx (fun s3 => (C 131 [.ref 10, .int x1, .int x2] s3 (bRi (fun r7 s5 => Q (.inl (some (.int r7))) s5)))) (fun E s3 => Q (.inr E) s3)))) (fun E s1 => Q (.inr E) s1)))) : A (0, [.ref 11, .int x1, .int x2], [], σ) := by
  refine bGo hA 0 0 (0, .iload_n 1, 1, 1, 0, [1], []) rfl rfl rfl ?_
  refine bGo hA 0 1 (1, .iconst (4), 1, 2, 0, [], [(4, 0)]) rfl rfl rfl ?_
  refine bGo hA 0 2 (2, .invokestatic 76, 3, 3, 0, [2, 136, 2], []) rfl rfl rfl ?_
  refine hC _ _ _ _ _ (bRvx_e (fun s1 k2 => ?_) (fun E s1 k2 => ?_)) h
  · show A (3, [.ref 11, .int x1, .int x2], [], s1)
    refine bGo hA 0 3 (5, .iload_n 2, 1, 4, 0, [2], []) rfl rfl rfl ?_
    refine bGo hA 0 4 (6, .iconst (0), 1, 5, 0, [], [(0, 0)]) rfl rfl rfl ?_
    refine bGo hA 0 5 (7, .iconst (3), 1, 6, 0, [], [(3, 0)]) rfl rfl rfl ?_
    refine bGo hA 0 6 (8, .invokestatic 80, 3, 7, 0, [2, 138, 3], []) rfl rfl rfl ?_
    refine hC _ _ _ _ _ (bRvx_e (fun s3 k4 => ?_) (fun E s3 k4 => ?_)) k2
    · show A (7, [.ref 11, .int x1, .int x2], [], s3)
      refine bGo hA 0 7 (11, .aload_n 0, 1, 8, 0, [0], []) rfl rfl rfl ?_
      refine bGo hA 0 8 (12, .getfield 26, 3, 9, 0, [11, 2, 3, 10, 0, 0], []) rfl rfl rfl ?_
      refine ⟨rfl, ?_⟩
      refine bGo hA 0 9 (15, .iload_n 1, 1, 10, 0, [1], []) rfl rfl rfl ?_
      refine bGo hA 0 10 (16, .iload_n 2, 1, 11, 0, [2], []) rfl rfl rfl ?_
      refine bGo hA 0 11 (17, .invokevirtual 132, 3, 12, 0, [0, 10, 131, 2], []) rfl rfl rfl ?_
      refine ⟨rfl, ?_⟩
      refine hC _ _ _ _ _ (bRi_e (fun r7 s5 k6 => ?_)) k4
      show A (12, [.ref 11, .int x1, .int x2], [.int r7], s5)
      refine bGo hA 0 12 (20, .ireturn, 1, 0, 0, [1], []) rfl rfl rfl ?_
      exact k6
    · exact k4
  · exact k2

theorem sg154_0 {lvl : Nat} {C : bCall} {Q : bPost} {A : bPt → Prop} (hC : bMono C) (hA : bClosed lvl bm154 C Q A) {x1 : Int32} {x2 : Int32} {x3 : Int32} {x4 : Int32} {σ : bSt} 
  (h : ((x2 = (-1) → A (6, [.ref 11, .int x1, .int x2, .int x3, .int x4], [], σ)) ∧ (¬ x2 = (-1) → (C 136 [.int x2, .int 4] σ (bRvx (fun s2 => A (6, [.ref 11, .int x1, .int x2, .int x3, .int x4], [], s2)) (fun E s2 => Q (.inr E) s2)))))) : A (0, [.ref 11, .int x1, .int x2, .int x3, .int x4], [], σ) := by
  refine bGo hA 0 0 (0, .iload_n 2, 1, 1, 0, [2], []) rfl rfl rfl ?_
  refine bGo hA 0 1 (1, .iconst (-1), 1, 2, 0, [], [(-1, 0)]) rfl rfl rfl ?_
  refine bGo hA 0 2 (2, .if_icmp .eq (8), 3, 3, 6, [], []) rfl rfl rfl ?_
  refine ⟨fun c1 => ?_, fun c1 => ?_⟩
  · exact (h.1 c1)
  · refine bGo hA 0 3 (5, .iload_n 2, 1, 4, 0, [2], []) rfl rfl rfl ?_
    refine bGo hA 0 4 (6, .iconst (4), 1, 5, 0, [], [(4, 0)]) rfl rfl rfl ?_
    refine bGo hA 0 5 (7, .invokestatic 76, 3, 6, 0, [2, 136, 2], []) rfl rfl rfl ?_
    refine hC _ _ _ _ _ (bRvx_e (fun s2 k3 => ?_) (fun E s2 k3 => ?_)) (h.2 c1)
    · show A (6, [.ref 11, .int x1, .int x2, .int x3, .int x4], [], s2)
      exact k3
    · exact k3

theorem sg154_6 {lvl : Nat} {C : bCall} {Q : bPost} {A : bPt → Prop} (hC : bMono C) (hA : bClosed lvl bm154 C Q A) {l1 : Int32} {l2 : Int32} {l3 : Int32} {l4 : Int32} {σ : bSt} 
  (h : (C 138 [.int l1, .int 0, .int 2] σ (bRvx (fun s1 => ((l2 = (-1) → (C 138 [.int l3, .int 0, .int 0] s1 (bRvx (fun s4 => (C 138 [.int l4, .int 0, .int 99] s4 (bRvx (fun s6 => (((s6.1 10 1) < 8 → (C 139 [.int 1] s6 (bRvx (fun s9 => (C 132 [.ref 10, .int l1, .int l2, .int l3, .int l4] s9 (bRi (fun r13 s11 => Q (.inl (some (.int r13))) s11)))) (fun E s9 => Q (.inr E) s9)))) ∧ (¬ (s6.1 10 1) < 8 → (C 139 [.int 0] s6 (bRvx (fun s14 => (C 132 [.ref 10, .int l1, .int l2, .int l3, .int l4] s14 (bRi (fun r18 s16 => Q (.inl (some (.int r18))) s16)))) (fun E s14 => Q (.inr E) s14)))))) (fun E s6 => Q (.inr E) s6)))) (fun E s4 => Q (.inr E) s4)))) ∧ (¬ l2 = (-1) → (C 138 [.int l3, .int 0, .int 3] s1 (bRvx (fun s19 => (C 138 [.int l4, .int 0, .int 99] s19 (bRvx (fun s21 => (((s21.1 10 1) < 8 → (C 139 [.int 1] s21 (bRvx (fun s24 => (C 132 [.ref 10, .int l1, .int l2, .int l3, .int l4] s24 (bRi (fun r28 s26 => Q (.inl (some (.int r28))) s26)))) (fun E s24 => Q (.inr E) s24)))) ∧ (¬ (s21.1 10 1) < 8 → (C 139 [.int 0] s21 (bRvx (fun s29 => (C 132 [.ref 10, .int l1, .int l2, .int l3, .int l4] s29 (bRi (fun r33 s31 => Q (.inl (some (.int r33))) s31)))) (fun E s29 => Q (.inr E) s29)))))) (fun E s21 => Q (.inr E) s21)))) (fun E s19 => Q (.inr E) s19)))))) (fun E s1 => Q (.inr E) s1)))) : A (6, [.ref 11, .int l1, .int l2, .int l3, .int l4], [], σ) := by
  refine bGo hA 0 6 (10, .iload_n 1, 1, 7, 0, [1], []) rfl rfl rfl ?_
  refine bGo hA 0 7 (11, .iconst (0), 1, 8, 0, [], [(0, 0)]) rfl rfl rfl ?_
  refine bGo hA 0 8 (12, .iconst (2), 1, 9, 0, [], [(2, 0)]) rfl rfl rfl ?_
  refine bGo hA 0 9 (13, .invokestatic 80, 3, 10, 0, [2, 138, 3], []) rfl rfl rfl ?_
  refine hC _ _ _ _ _ (bRvx_e (fun s1 k2 => ?_) (fun E s1 k2 => ?_)) h
  · show A (10, [.ref 11, .int l1, .int l2, .int l3, .int l4], [], s1)
    refine bGo hA 0 10 (16, .iload_n 3, 1, 11, 0, [3], []) rfl rfl rfl ?_
    refine bGo hA 0 11 (17, .iconst (0), 1, 12, 0, [], [(0, 0)]) rfl rfl rfl ?_
    refine bGo hA 0 12 (18, .iload_n 2, 1, 13, 0, [2], []) rfl rfl rfl ?_
    refine bGo hA 0 13 (19, .iconst (-1), 1, 14, 0, [], [(-1, 0)]) rfl rfl rfl ?_
    refine bGo hA 0 14 (20, .if_icmp .ne (7), 3, 15, 17, [], []) rfl rfl rfl ?_
    refine ⟨fun c3 => ?_, fun c3 => ?_⟩
    · refine bGo hA 0 15 (23, .iconst (0), 1, 16, 0, [], [(0, 0)]) rfl rfl rfl ?_
      refine bGo hA 1 0 (24, .goto (4), 3, 17, 18, [], []) rfl rfl rfl ?_
      refine bGo hA 1 2 (28, .invokestatic 80, 3, 19, 0, [2, 138, 3], []) rfl rfl rfl ?_
      refine hC _ _ _ _ _ (bRvx_e (fun s4 k5 => ?_) (fun E s4 k5 => ?_)) (k2.1 c3)
      · show A (19, [.ref 11, .int l1, .int l2, .int l3, .int l4], [], s4)
        refine bGo hA 1 3 (31, .iload 4, 2, 20, 0, [4], []) rfl rfl rfl ?_
        refine bGo hA 1 4 (33, .iconst (0), 1, 21, 0, [], [(0, 0)]) rfl rfl rfl ?_
        refine bGo hA 1 5 (34, .bipush (99), 2, 22, 0, [], [(99, 0)]) rfl rfl rfl ?_
        refine bGo hA 1 6 (36, .invokestatic 80, 3, 23, 0, [2, 138, 3], []) rfl rfl rfl ?_
        refine hC _ _ _ _ _ (bRvx_e (fun s6 k7 => ?_) (fun E s6 k7 => ?_)) k5
        · show A (23, [.ref 11, .int l1, .int l2, .int l3, .int l4], [], s6)
          refine bGo hA 1 7 (39, .aload_n 0, 1, 24, 0, [0], []) rfl rfl rfl ?_
          refine bGo hA 1 8 (40, .getfield 26, 3, 25, 0, [11, 2, 3, 10, 0, 0], []) rfl rfl rfl ?_
          refine ⟨rfl, ?_⟩
          refine bGo hA 1 9 (43, .getfield 135, 3, 26, 0, [10, 1, 0, 0, 0, 0], []) rfl rfl rfl ?_
          refine ⟨rfl, ?_⟩
          refine bGo hA 1 10 (46, .bipush (8), 2, 27, 0, [], [(8, 0)]) rfl rfl rfl ?_
          refine bGo hA 1 11 (48, .if_icmp .ge (7), 3, 28, 30, [], []) rfl rfl rfl ?_
          refine ⟨fun c8 => ?_, fun c8 => ?_⟩
          · refine bGo hA 1 12 (51, .iconst (1), 1, 29, 0, [], [(1, 0)]) rfl rfl rfl ?_
            refine bGo hA 1 13 (52, .goto (4), 3, 30, 31, [], []) rfl rfl rfl ?_
            refine bGo hA 1 15 (56, .invokestatic 88, 3, 32, 0, [2, 139, 1], []) rfl rfl rfl ?_
            refine hC _ _ _ _ _ (bRvx_e (fun s9 k10 => ?_) (fun E s9 k10 => ?_)) (k7.1 c8)
            · show A (32, [.ref 11, .int l1, .int l2, .int l3, .int l4], [], s9)
              refine bGo hA 2 0 (59, .aload_n 0, 1, 33, 0, [0], []) rfl rfl rfl ?_
              refine bGo hA 2 1 (60, .getfield 26, 3, 34, 0, [11, 2, 3, 10, 0, 0], []) rfl rfl rfl ?_
              refine ⟨rfl, ?_⟩
              refine bGo hA 2 2 (63, .iload_n 1, 1, 35, 0, [1], []) rfl rfl rfl ?_
              refine bGo hA 2 3 (64, .iload_n 2, 1, 36, 0, [2], []) rfl rfl rfl ?_
              refine bGo hA 2 4 (65, .iload_n 3, 1, 37, 0, [3], []) rfl rfl rfl ?_
              refine bGo hA 2 5 (66, .iload 4, 2, 38, 0, [4], []) rfl rfl rfl ?_
              refine bGo hA 2 6 (68, .invokevirtual 139, 3, 39, 0, [0, 10, 132, 4], []) rfl rfl rfl ?_
              refine ⟨rfl, ?_⟩
              refine hC _ _ _ _ _ (bRi_e (fun r13 s11 k12 => ?_)) k10
              show A (39, [.ref 11, .int l1, .int l2, .int l3, .int l4], [.int r13], s11)
              refine bGo hA 2 7 (71, .ireturn, 1, 0, 0, [1], []) rfl rfl rfl ?_
              exact k12
            · exact k10
          · refine bGo hA 1 14 (55, .iconst (0), 1, 31, 0, [], [(0, 0)]) rfl rfl rfl ?_
            refine bGo hA 1 15 (56, .invokestatic 88, 3, 32, 0, [2, 139, 1], []) rfl rfl rfl ?_
            refine hC _ _ _ _ _ (bRvx_e (fun s14 k15 => ?_) (fun E s14 k15 => ?_)) (k7.2 c8)
            · show A (32, [.ref 11, .int l1, .int l2, .int l3, .int l4], [], s14)
              refine bGo hA 2 0 (59, .aload_n 0, 1, 33, 0, [0], []) rfl rfl rfl ?_
              refine bGo hA 2 1 (60, .getfield 26, 3, 34, 0, [11, 2, 3, 10, 0, 0], []) rfl rfl rfl ?_
              refine ⟨rfl, ?_⟩
              refine bGo hA 2 2 (63, .iload_n 1, 1, 35, 0, [1], []) rfl rfl rfl ?_
              refine bGo hA 2 3 (64, .iload_n 2, 1, 36, 0, [2], []) rfl rfl rfl ?_
              refine bGo hA 2 4 (65, .iload_n 3, 1, 37, 0, [3], []) rfl rfl rfl ?_
              refine bGo hA 2 5 (66, .iload 4, 2, 38, 0, [4], []) rfl rfl rfl ?_
              refine bGo hA 2 6 (68, .invokevirtual 139, 3, 39, 0, [0, 10, 132, 4], []) rfl rfl rfl ?_
              refine ⟨rfl, ?_⟩
              refine hC _ _ _ _ _ (bRi_e (fun r18 s16 k17 => ?_)) k15
              show A (39, [.ref 11, .int l1, .int l2, .int l3, .int l4], [.int r18], s16)
              refine bGo hA 2 7 (71, .ireturn, 1, 0, 0, [1], []) rfl rfl rfl ?_
              exact k17
            · exact k15
        · exact k7
      · exact k5
    · refine bGo hA 1 1 (27, .iconst (3), 1, 18, 0, [], [(3, 0)]) rfl rfl rfl ?_
      refine bGo hA 1 2 (28, .invokestatic 80, 3, 19, 0, [2, 138, 3], []) rfl rfl rfl ?_
      refine hC _ _ _ _ _ (bRvx_e (fun s19 k20 => ?_) (fun E s19 k20 => ?_)) (k2.2 c3)
      · show A (19, [.ref 11, .int l1, .int l2, .int l3, .int l4], [], s19)
        refine bGo hA 1 3 (31, .iload 4, 2, 20, 0, [4], []) rfl rfl rfl ?_
        refine bGo hA 1 4 (33, .iconst (0), 1, 21, 0, [], [(0, 0)]) rfl rfl rfl ?_
        refine bGo hA 1 5 (34, .bipush (99), 2, 22, 0, [], [(99, 0)]) rfl rfl rfl ?_
        refine bGo hA 1 6 (36, .invokestatic 80, 3, 23, 0, [2, 138, 3], []) rfl rfl rfl ?_
        refine hC _ _ _ _ _ (bRvx_e (fun s21 k22 => ?_) (fun E s21 k22 => ?_)) k20
        · show A (23, [.ref 11, .int l1, .int l2, .int l3, .int l4], [], s21)
          refine bGo hA 1 7 (39, .aload_n 0, 1, 24, 0, [0], []) rfl rfl rfl ?_
          refine bGo hA 1 8 (40, .getfield 26, 3, 25, 0, [11, 2, 3, 10, 0, 0], []) rfl rfl rfl ?_
          refine ⟨rfl, ?_⟩
          refine bGo hA 1 9 (43, .getfield 135, 3, 26, 0, [10, 1, 0, 0, 0, 0], []) rfl rfl rfl ?_
          refine ⟨rfl, ?_⟩
          refine bGo hA 1 10 (46, .bipush (8), 2, 27, 0, [], [(8, 0)]) rfl rfl rfl ?_
          refine bGo hA 1 11 (48, .if_icmp .ge (7), 3, 28, 30, [], []) rfl rfl rfl ?_
          refine ⟨fun c23 => ?_, fun c23 => ?_⟩
          · refine bGo hA 1 12 (51, .iconst (1), 1, 29, 0, [], [(1, 0)]) rfl rfl rfl ?_
            refine bGo hA 1 13 (52, .goto (4), 3, 30, 31, [], []) rfl rfl rfl ?_
            refine bGo hA 1 15 (56, .invokestatic 88, 3, 32, 0, [2, 139, 1], []) rfl rfl rfl ?_
            refine hC _ _ _ _ _ (bRvx_e (fun s24 k25 => ?_) (fun E s24 k25 => ?_)) (k22.1 c23)
            · show A (32, [.ref 11, .int l1, .int l2, .int l3, .int l4], [], s24)
              refine bGo hA 2 0 (59, .aload_n 0, 1, 33, 0, [0], []) rfl rfl rfl ?_
              refine bGo hA 2 1 (60, .getfield 26, 3, 34, 0, [11, 2, 3, 10, 0, 0], []) rfl rfl rfl ?_
              refine ⟨rfl, ?_⟩
              refine bGo hA 2 2 (63, .iload_n 1, 1, 35, 0, [1], []) rfl rfl rfl ?_
              refine bGo hA 2 3 (64, .iload_n 2, 1, 36, 0, [2], []) rfl rfl rfl ?_
              refine bGo hA 2 4 (65, .iload_n 3, 1, 37, 0, [3], []) rfl rfl rfl ?_
              refine bGo hA 2 5 (66, .iload 4, 2, 38, 0, [4], []) rfl rfl rfl ?_
              refine bGo hA 2 6 (68, .invokevirtual 139, 3, 39, 0, [0, 10, 132, 4], []) rfl rfl rfl ?_
              refine ⟨rfl, ?_⟩
              refine hC _ _ _ _ _ (bRi_e (fun r28 s26 k27 => ?_)) k25
              show A (39, [.ref 11, .int l1, .int l2, .int l3, .int l4], [.int r28], s26)
              refine bGo hA 2 7 (71, .ireturn, 1, 0, 0, [1], []) rfl rfl rfl ?_
              exact k27
            · exact k25
          · refine bGo hA 1 14 (55, .iconst (0), 1, 31, 0, [], [(0, 0)]) rfl rfl rfl ?_
            refine bGo hA 1 15 (56, .invokestatic 88, 3, 32, 0, [2, 139, 1], []) rfl rfl rfl ?_
            refine hC _ _ _ _ _ (bRvx_e (fun s29 k30 => ?_) (fun E s29 k30 => ?_)) (k22.2 c23)
            · show A (32, [.ref 11, .int l1, .int l2, .int l3, .int l4], [], s29)
              refine bGo hA 2 0 (59, .aload_n 0, 1, 33, 0, [0], []) rfl rfl rfl ?_
              refine bGo hA 2 1 (60, .getfield 26, 3, 34, 0, [11, 2, 3, 10, 0, 0], []) rfl rfl rfl ?_
              refine ⟨rfl, ?_⟩
              refine bGo hA 2 2 (63, .iload_n 1, 1, 35, 0, [1], []) rfl rfl rfl ?_
              refine bGo hA 2 3 (64, .iload_n 2, 1, 36, 0, [2], []) rfl rfl rfl ?_
              refine bGo hA 2 4 (65, .iload_n 3, 1, 37, 0, [3], []) rfl rfl rfl ?_
              refine bGo hA 2 5 (66, .iload 4, 2, 38, 0, [4], []) rfl rfl rfl ?_
              refine bGo hA 2 6 (68, .invokevirtual 139, 3, 39, 0, [0, 10, 132, 4], []) rfl rfl rfl ?_
              refine ⟨rfl, ?_⟩
              refine hC _ _ _ _ _ (bRi_e (fun r33 s31 k32 => ?_)) k30
              show A (39, [.ref 11, .int l1, .int l2, .int l3, .int l4], [.int r33], s31)
              refine bGo hA 2 7 (71, .ireturn, 1, 0, 0, [1], []) rfl rfl rfl ?_
              exact k32
            · exact k30
        · exact k22
      · exact k20
  · exact k2

theorem sg155_0 {lvl : Nat} {C : bCall} {Q : bPost} {A : bPt → Prop} (hC : bMono C) (hA : bClosed lvl bm155 C Q A) {x1 : Int32} {σ : bSt} 
  (h : (C 136 [.int x1, .int (σ.1 10 1)] σ (bRvx (fun s1 => (C 133 [.ref 10, .int x1] s1 (bRi (fun r5 s3 => Q (.inl (some (.int r5))) s3)))) (fun E s1 => Q (.inr E) s1)))) : A (0, [.ref 11, .int x1], [], σ) := by
  refine bGo hA 0 0 (0, .iload_n 1, 1, 1, 0, [1], []) rfl rfl rfl ?_
  refine bGo hA 0 1 (1, .aload_n 0, 1, 2, 0, [0], []) rfl rfl rfl ?_
  refine bGo hA 0 2 (2, .getfield 26, 3, 3, 0, [11, 2, 3, 10, 0, 0], []) rfl rfl rfl ?_
  refine ⟨rfl, ?_⟩
  refine bGo hA 0 3 (5, .getfield 135, 3, 4, 0, [10, 1, 0, 0, 0, 0], []) rfl rfl rfl ?_
  refine ⟨rfl, ?_⟩
  refine bGo hA 0 4 (8, .invokestatic 76, 3, 5, 0, [2, 136, 2], []) rfl rfl rfl ?_
  refine hC _ _ _ _ _ (bRvx_e (fun s1 k2 => ?_) (fun E s1 k2 => ?_)) h
  · show A (5, [.ref 11, .int x1], [], s1)
    refine bGo hA 0 5 (11, .aload_n 0, 1, 6, 0, [0], []) rfl rfl rfl ?_
    refine bGo hA 0 6 (12, .getfield 26, 3, 7, 0, [11, 2, 3, 10, 0, 0], []) rfl rfl rfl ?_
    refine ⟨rfl, ?_⟩
    refine bGo hA 0 7 (15, .iload_n 1, 1, 8, 0, [1], []) rfl rfl rfl ?_
    refine bGo hA 0 8 (16, .invokevirtual 142, 3, 9, 0, [0, 10, 133, 1], []) rfl rfl rfl ?_
    refine ⟨rfl, ?_⟩
    refine hC _ _ _ _ _ (bRi_e (fun r5 s3 k4 => ?_)) k2
    show A (9, [.ref 11, .int x1], [.int r5], s3)
    refine bGo hA 0 9 (19, .ireturn, 1, 0, 0, [1], []) rfl rfl rfl ?_
    exact k4
  · exact k2

theorem sg156_0 {lvl : Nat} {C : bCall} {Q : bPost} {A : bPt → Prop} (hC : bMono C) (hA : bClosed lvl bm156 C Q A) {x1 : Int32} {x2 : Int32} {x3 : Int32} {σ : bSt} 
  (h : (C 136 [.int x1, .int 6] σ (bRvx (fun s1 => (C 138 [.int x2, .int 0, .int 5] s1 (bRvx (fun s3 => (C 138 [.int x3, .int 0, .int 999] s3 (bRvx (fun s5 => (((s5.1 9 0) < 16 → (C 139 [.int 1] s5 (bRvx (fun s8 => (C 121 [.ref 9, .int x1, .int x2, .int x3] s8 (bRi (fun r12 s10 => Q (.inl (some (.int r12))) s10)))) (fun E s8 => Q (.inr E) s8)))) ∧ (¬ (s5.1 9 0) < 16 → (C 139 [.int 0] s5 (bRvx (fun s13 => (C 121 [.ref 9, .int x1, .int x2, .int x3] s13 (bRi (fun r17 s15 => Q (.inl (some (.int r17))) s15)))) (fun E s13 => Q (.inr E) s13)))))) (fun E s5 => Q (.inr E) s5)))) (fun E s3 => Q (.inr E) s3)))) (fun E s1 => Q (.inr E) s1)))) : A (0, [.ref 11, .int x1, .int x2, .int x3], [], σ) := by
  refine bGo hA 0 0 (0, .iload_n 1, 1, 1, 0, [1], []) rfl rfl rfl ?_
  refine bGo hA 0 1 (1, .bipush (6), 2, 2, 0, [], [(6, 0)]) rfl rfl rfl ?_
  refine bGo hA 0 2 (3, .invokestatic 76, 3, 3, 0, [2, 136, 2], []) rfl rfl rfl ?_
  refine hC _ _ _ _ _ (bRvx_e (fun s1 k2 => ?_) (fun E s1 k2 => ?_)) h
  · show A (3, [.ref 11, .int x1, .int x2, .int x3], [], s1)
    refine bGo hA 0 3 (6, .iload_n 2, 1, 4, 0, [2], []) rfl rfl rfl ?_
    refine bGo hA 0 4 (7, .iconst (0), 1, 5, 0, [], [(0, 0)]) rfl rfl rfl ?_
    refine bGo hA 0 5 (8, .iconst (5), 1, 6, 0, [], [(5, 0)]) rfl rfl rfl ?_
    refine bGo hA 0 6 (9, .invokestatic 80, 3, 7, 0, [2, 138, 3], []) rfl rfl rfl ?_
    refine hC _ _ _ _ _ (bRvx_e (fun s3 k4 => ?_) (fun E s3 k4 => ?_)) k2
    · show A (7, [.ref 11, .int x1, .int x2, .int x3], [], s3)
      refine bGo hA 0 7 (12, .iload_n 3, 1, 8, 0, [3], []) rfl rfl rfl ?_
      refine bGo hA 0 8 (13, .iconst (0), 1, 9, 0, [], [(0, 0)]) rfl rfl rfl ?_
      refine bGo hA 0 9 (14, .sipush (999), 3, 10, 0, [], [(999, 0)]) rfl rfl rfl ?_
      refine bGo hA 0 10 (17, .invokestatic 80, 3, 11, 0, [2, 138, 3], []) rfl rfl rfl ?_
      refine hC _ _ _ _ _ (bRvx_e (fun s5 k6 => ?_) (fun E s5 k6 => ?_)) k4
      · show A (11, [.ref 11, .int x1, .int x2, .int x3], [], s5)
        refine bGo hA 0 11 (20, .aload_n 0, 1, 12, 0, [0], []) rfl rfl rfl ?_
        refine bGo hA 0 12 (21, .getfield 33, 3, 13, 0, [11, 3, 3, 9, 0, 0], []) rfl rfl rfl ?_
        refine ⟨rfl, ?_⟩
        refine bGo hA 0 13 (24, .getfield 144, 3, 14, 0, [9, 0, 0, 0, 0, 0], []) rfl rfl rfl ?_
        refine ⟨rfl, ?_⟩
        refine bGo hA 0 14 (27, .bipush (16), 2, 15, 0, [], [(16, 0)]) rfl rfl rfl ?_
        refine bGo hA 0 15 (29, .if_icmp .ge (7), 3, 16, 18, [], []) rfl rfl rfl ?_
        refine ⟨fun c7 => ?_, fun c7 => ?_⟩
        · refine bGo hA 1 0 (32, .iconst (1), 1, 17, 0, [], [(1, 0)]) rfl rfl rfl ?_
          refine bGo hA 1 1 (33, .goto (4), 3, 18, 19, [], []) rfl rfl rfl ?_
          refine bGo hA 1 3 (37, .invokestatic 88, 3, 20, 0, [2, 139, 1], []) rfl rfl rfl ?_
          refine hC _ _ _ _ _ (bRvx_e (fun s8 k9 => ?_) (fun E s8 k9 => ?_)) (k6.1 c7)
          · show A (20, [.ref 11, .int x1, .int x2, .int x3], [], s8)
            refine bGo hA 1 4 (40, .aload_n 0, 1, 21, 0, [0], []) rfl rfl rfl ?_
            refine bGo hA 1 5 (41, .getfield 33, 3, 22, 0, [11, 3, 3, 9, 0, 0], []) rfl rfl rfl ?_
            refine ⟨rfl, ?_⟩
            refine bGo hA 1 6 (44, .iload_n 1, 1, 23, 0, [1], []) rfl rfl rfl ?_
            refine bGo hA 1 7 (45, .iload_n 2, 1, 24, 0, [2], []) rfl rfl rfl ?_
            refine bGo hA 1 8 (46, .iload_n 3, 1, 25, 0, [3], []) rfl rfl rfl ?_
            refine bGo hA 1 9 (47, .invokevirtual 145, 3, 26, 0, [0, 9, 121, 3], []) rfl rfl rfl ?_
            refine ⟨rfl, ?_⟩
            refine hC _ _ _ _ _ (bRi_e (fun r12 s10 k11 => ?_)) k9
            show A (26, [.ref 11, .int x1, .int x2, .int x3], [.int r12], s10)
            refine bGo hA 1 10 (50, .ireturn, 1, 0, 0, [1], []) rfl rfl rfl ?_
            exact k11
          · exact k9
        · refine bGo hA 1 2 (36, .iconst (0), 1, 19, 0, [], [(0, 0)]) rfl rfl rfl ?_
          refine bGo hA 1 3 (37, .invokestatic 88, 3, 20, 0, [2, 139, 1], []) rfl rfl rfl ?_
          refine hC _ _ _ _ _ (bRvx_e (fun s13 k14 => ?_) (fun E s13 k14 => ?_)) (k6.2 c7)
          · show A (20, [.ref 11, .int x1, .int x2, .int x3], [], s13)
            refine bGo hA 1 4 (40, .aload_n 0, 1, 21, 0, [0], []) rfl rfl rfl ?_
            refine bGo hA 1 5 (41, .getfield 33, 3, 22, 0, [11, 3, 3, 9, 0, 0], []) rfl rfl rfl ?_
            refine ⟨rfl, ?_⟩
            refine bGo hA 1 6 (44, .iload_n 1, 1, 23, 0, [1], []) rfl rfl rfl ?_
            refine bGo hA 1 7 (45, .iload_n 2, 1, 24, 0, [2], []) rfl rfl rfl ?_
            refine bGo hA 1 8 (46, .iload_n 3, 1, 25, 0, [3], []) rfl rfl rfl ?_
            refine bGo hA 1 9 (47, .invokevirtual 145, 3, 26, 0, [0, 9, 121, 3], []) rfl rfl rfl ?_
            refine ⟨rfl, ?_⟩
            refine hC _ _ _ _ _ (bRi_e (fun r17 s15 k16 => ?_)) k14
            show A (26, [.ref 11, .int x1, .int x2, .int x3], [.int r17], s15)
            refine bGo hA 1 10 (50, .ireturn, 1, 0, 0, [1], []) rfl rfl rfl ?_
            exact k16
          · exact k14
      · exact k6
    · exact k4
  · exact k2

theorem sg157_0 {lvl : Nat} {C : bCall} {Q : bPost} {A : bPt → Prop} (hC : bMono C) (hA : bClosed lvl bm157 C Q A) {x1 : Int32} {x2 : Int32} {x3 : Int32} {σ : bSt} 
  (h : (C 136 [.int x1, .int (σ.1 9 0)] σ (bRvx (fun s1 => (C 136 [.int x2, .int 6] s1 (bRvx (fun s3 => (C 136 [.int x3, .int 8] s3 (bRvx (fun s5 => (C 120 [.ref 9, .int x1] s5 (bRa (fun r9 s7 => (r9 % 256 = 8 ∧ Q (.inl none) (bI s7 r9 3 ((x2 * 8) + x3))))))) (fun E s5 => Q (.inr E) s5)))) (fun E s3 => Q (.inr E) s3)))) (fun E s1 => Q (.inr E) s1)))) : A (0, [.ref 11, .int x1, .int x2, .int x3], [], σ) := by
  refine bGo hA 0 0 (0, .iload_n 1, 1, 1, 0, [1], []) rfl rfl rfl ?_
  refine bGo hA 0 1 (1, .aload_n 0, 1, 2, 0, [0], []) rfl rfl rfl ?_
  refine bGo hA 0 2 (2, .getfield 33, 3, 3, 0, [11, 3, 3, 9, 0, 0], []) rfl rfl rfl ?_
  refine ⟨rfl, ?_⟩
  refine bGo hA 0 3 (5, .getfield 144, 3, 4, 0, [9, 0, 0, 0, 0, 0], []) rfl rfl rfl ?_
  refine ⟨rfl, ?_⟩
  refine bGo hA 0 4 (8, .invokestatic 76, 3, 5, 0, [2, 136, 2], []) rfl rfl rfl ?_
  refine hC _ _ _ _ _ (bRvx_e (fun s1 k2 => ?_) (fun E s1 k2 => ?_)) h
  · show A (5, [.ref 11, .int x1, .int x2, .int x3], [], s1)
    refine bGo hA 0 5 (11, .iload_n 2, 1, 6, 0, [2], []) rfl rfl rfl ?_
    refine bGo hA 0 6 (12, .bipush (6), 2, 7, 0, [], [(6, 0)]) rfl rfl rfl ?_
    refine bGo hA 0 7 (14, .invokestatic 76, 3, 8, 0, [2, 136, 2], []) rfl rfl rfl ?_
    refine hC _ _ _ _ _ (bRvx_e (fun s3 k4 => ?_) (fun E s3 k4 => ?_)) k2
    · show A (8, [.ref 11, .int x1, .int x2, .int x3], [], s3)
      refine bGo hA 0 8 (17, .iload_n 3, 1, 9, 0, [3], []) rfl rfl rfl ?_
      refine bGo hA 0 9 (18, .bipush (8), 2, 10, 0, [], [(8, 0)]) rfl rfl rfl ?_
      refine bGo hA 0 10 (20, .invokestatic 76, 3, 11, 0, [2, 136, 2], []) rfl rfl rfl ?_
      refine hC _ _ _ _ _ (bRvx_e (fun s5 k6 => ?_) (fun E s5 k6 => ?_)) k4
      · show A (11, [.ref 11, .int x1, .int x2, .int x3], [], s5)
        refine bGo hA 0 11 (23, .aload_n 0, 1, 12, 0, [0], []) rfl rfl rfl ?_
        refine bGo hA 0 12 (24, .getfield 33, 3, 13, 0, [11, 3, 3, 9, 0, 0], []) rfl rfl rfl ?_
        refine ⟨rfl, ?_⟩
        refine bGo hA 0 13 (27, .iload_n 1, 1, 14, 0, [1], []) rfl rfl rfl ?_
        refine bGo hA 0 14 (28, .invokevirtual 147, 3, 15, 0, [0, 9, 120, 1], []) rfl rfl rfl ?_
        refine ⟨rfl, ?_⟩
        refine hC _ _ _ _ _ (bRa_e (fun r9 s7 k8 => ?_)) k6
        show A (15, [.ref 11, .int x1, .int x2, .int x3], [.ref r9], s7)
        refine bGo hA 0 15 (31, .iload_n 2, 1, 16, 0, [2], []) rfl rfl rfl ?_
        refine bGo hA 1 0 (32, .bipush (8), 2, 17, 0, [], [(8, 0)]) rfl rfl rfl ?_
        refine bGo hA 1 1 (34, .imul, 1, 18, 0, [], []) rfl rfl rfl ?_
        refine bGo hA 1 2 (35, .iload_n 3, 1, 19, 0, [3], []) rfl rfl rfl ?_
        refine bGo hA 1 3 (36, .iadd, 1, 20, 0, [], []) rfl rfl rfl ?_
        refine bGo hA 1 4 (37, .putfield 151, 3, 21, 0, [8, 3, 0, 0, 0, 0], []) rfl rfl rfl ?_
        refine ⟨k8.1, ?_⟩
        refine bGo hA 1 5 (40, .return_, 1, 0, 0, [0], []) rfl rfl rfl ?_
        exact k8.2
      · exact k6
    · exact k4
  · exact k2

theorem sg158_0 {lvl : Nat} {C : bCall} {Q : bPost} {A : bPt → Prop} (hC : bMono C) (hA : bClosed lvl bm158 C Q A) {x1 : Int32} {x2 : Int32} {x3 : Int32} {x4 : Int32} {σ : bSt} 
  (h : (C 136 [.int x1, .int (σ.1 9 0)] σ (bRvx (fun s1 => (C 136 [.int x2, .int 4] s1 (bRvx (fun s3 => (C 138 [.int x3, .int 0, .int 3] s3 (bRvx (fun s5 => (C 138 [.int x4, .int 0, .int 999] s5 (bRvx (fun s7 => (C 120 [.ref 9, .int x1] s7 (bRa (fun r11 s9 => (r11 % 256 = 8 ∧ (((s9.1 r11 14) < 4 → (C 139 [.int 1] s9 (bRvx (fun s13 => (C 120 [.ref 9, .int x1] s13 (bRa (fun r17 s15 => (r17 % 256 = 8 ∧ (C 113 [.ref r17, .int x2, .int x3, .int x4] s15 (bRi (fun r20 s18 => Q (.inl (some (.int r20))) s18)))))))) (fun E s13 => Q (.inr E) s13)))) ∧ (¬ (s9.1 r11 14) < 4 → (C 139 [.int 0] s9 (bRvx (fun s21 => (C 120 [.ref 9, .int x1] s21 (bRa (fun r25 s23 => (r25 % 256 = 8 ∧ (C 113 [.ref r25, .int x2, .int x3, .int x4] s23 (bRi (fun r28 s26 => Q (.inl (some (.int r28))) s26)))))))) (fun E s21 => Q (.inr E) s21)))))))))) (fun E s7 => Q (.inr E) s7)))) (fun E s5 => Q (.inr E) s5)))) (fun E s3 => Q (.inr E) s3)))) (fun E s1 => Q (.inr E) s1)))) : A (0, [.ref 11, .int x1, .int x2, .int x3, .int x4], [], σ) := by
  refine bGo hA 0 0 (0, .iload_n 1, 1, 1, 0, [1], []) rfl rfl rfl ?_
  refine bGo hA 0 1 (1, .aload_n 0, 1, 2, 0, [0], []) rfl rfl rfl ?_
  refine bGo hA 0 2 (2, .getfield 33, 3, 3, 0, [11, 3, 3, 9, 0, 0], []) rfl rfl rfl ?_
  refine ⟨rfl, ?_⟩
  refine bGo hA 0 3 (5, .getfield 144, 3, 4, 0, [9, 0, 0, 0, 0, 0], []) rfl rfl rfl ?_
  refine ⟨rfl, ?_⟩
  refine bGo hA 0 4 (8, .invokestatic 76, 3, 5, 0, [2, 136, 2], []) rfl rfl rfl ?_
  refine hC _ _ _ _ _ (bRvx_e (fun s1 k2 => ?_) (fun E s1 k2 => ?_)) h
  · show A (5, [.ref 11, .int x1, .int x2, .int x3, .int x4], [], s1)
    refine bGo hA 0 5 (11, .iload_n 2, 1, 6, 0, [2], []) rfl rfl rfl ?_
    refine bGo hA 0 6 (12, .iconst (4), 1, 7, 0, [], [(4, 0)]) rfl rfl rfl ?_
    refine bGo hA 0 7 (13, .invokestatic 76, 3, 8, 0, [2, 136, 2], []) rfl rfl rfl ?_
    refine hC _ _ _ _ _ (bRvx_e (fun s3 k4 => ?_) (fun E s3 k4 => ?_)) k2
    · show A (8, [.ref 11, .int x1, .int x2, .int x3, .int x4], [], s3)
      refine bGo hA 0 8 (16, .iload_n 3, 1, 9, 0, [3], []) rfl rfl rfl ?_
      refine bGo hA 0 9 (17, .iconst (0), 1, 10, 0, [], [(0, 0)]) rfl rfl rfl ?_
      refine bGo hA 0 10 (18, .iconst (3), 1, 11, 0, [], [(3, 0)]) rfl rfl rfl ?_
      refine bGo hA 0 11 (19, .invokestatic 80, 3, 12, 0, [2, 138, 3], []) rfl rfl rfl ?_
      refine hC _ _ _ _ _ (bRvx_e (fun s5 k6 => ?_) (fun E s5 k6 => ?_)) k4
      · show A (12, [.ref 11, .int x1, .int x2, .int x3, .int x4], [], s5)
        refine bGo hA 0 12 (22, .iload 4, 2, 13, 0, [4], []) rfl rfl rfl ?_
        refine bGo hA 0 13 (24, .iconst (0), 1, 14, 0, [], [(0, 0)]) rfl rfl rfl ?_
        refine bGo hA 0 14 (25, .sipush (999), 3, 15, 0, [], [(999, 0)]) rfl rfl rfl ?_
        refine bGo hA 0 15 (28, .invokestatic 80, 3, 16, 0, [2, 138, 3], []) rfl rfl rfl ?_
        refine hC _ _ _ _ _ (bRvx_e (fun s7 k8 => ?_) (fun E s7 k8 => ?_)) k6
        · show A (16, [.ref 11, .int x1, .int x2, .int x3, .int x4], [], s7)
          refine bGo hA 1 0 (31, .aload_n 0, 1, 17, 0, [0], []) rfl rfl rfl ?_
          refine bGo hA 1 1 (32, .getfield 33, 3, 18, 0, [11, 3, 3, 9, 0, 0], []) rfl rfl rfl ?_
          refine ⟨rfl, ?_⟩
          refine bGo hA 1 2 (35, .iload_n 1, 1, 19, 0, [1], []) rfl rfl rfl ?_
          refine bGo hA 1 3 (36, .invokevirtual 147, 3, 20, 0, [0, 9, 120, 1], []) rfl rfl rfl ?_
          refine ⟨rfl, ?_⟩
          refine hC _ _ _ _ _ (bRa_e (fun r11 s9 k10 => ?_)) k8
          show A (20, [.ref 11, .int x1, .int x2, .int x3, .int x4], [.ref r11], s9)
          refine bGo hA 1 4 (39, .getfield 156, 3, 21, 0, [8, 14, 0, 0, 0, 0], []) rfl rfl rfl ?_
          refine ⟨k10.1, ?_⟩
          refine bGo hA 1 5 (42, .iconst (4), 1, 22, 0, [], [(4, 0)]) rfl rfl rfl ?_
          refine bGo hA 1 6 (43, .if_icmp .ge (7), 3, 23, 25, [], []) rfl rfl rfl ?_
          refine ⟨fun c12 => ?_, fun c12 => ?_⟩
          · refine bGo hA 1 7 (46, .iconst (1), 1, 24, 0, [], [(1, 0)]) rfl rfl rfl ?_
            refine bGo hA 1 8 (47, .goto (4), 3, 25, 26, [], []) rfl rfl rfl ?_
            refine bGo hA 1 10 (51, .invokestatic 88, 3, 27, 0, [2, 139, 1], []) rfl rfl rfl ?_
            refine hC _ _ _ _ _ (bRvx_e (fun s13 k14 => ?_) (fun E s13 k14 => ?_)) (k10.2.1 c12)
            · show A (27, [.ref 11, .int x1, .int x2, .int x3, .int x4], [], s13)
              refine bGo hA 1 11 (54, .aload_n 0, 1, 28, 0, [0], []) rfl rfl rfl ?_
              refine bGo hA 1 12 (55, .getfield 33, 3, 29, 0, [11, 3, 3, 9, 0, 0], []) rfl rfl rfl ?_
              refine ⟨rfl, ?_⟩
              refine bGo hA 1 13 (58, .iload_n 1, 1, 30, 0, [1], []) rfl rfl rfl ?_
              refine bGo hA 1 14 (59, .invokevirtual 147, 3, 31, 0, [0, 9, 120, 1], []) rfl rfl rfl ?_
              refine ⟨rfl, ?_⟩
              refine hC _ _ _ _ _ (bRa_e (fun r17 s15 k16 => ?_)) k14
              show A (31, [.ref 11, .int x1, .int x2, .int x3, .int x4], [.ref r17], s15)
              refine bGo hA 1 15 (62, .iload_n 2, 1, 32, 0, [2], []) rfl rfl rfl ?_
              refine bGo hA 2 0 (63, .iload_n 3, 1, 33, 0, [3], []) rfl rfl rfl ?_
              refine bGo hA 2 1 (64, .iload 4, 2, 34, 0, [4], []) rfl rfl rfl ?_
              refine bGo hA 2 2 (66, .invokevirtual 159, 3, 35, 0, [0, 8, 113, 3], []) rfl rfl rfl ?_
              refine ⟨k16.1, ?_⟩
              refine hC _ _ _ _ _ (bRi_e (fun r20 s18 k19 => ?_)) k16.2
              show A (35, [.ref 11, .int x1, .int x2, .int x3, .int x4], [.int r20], s18)
              refine bGo hA 2 3 (69, .ireturn, 1, 0, 0, [1], []) rfl rfl rfl ?_
              exact k19
            · exact k14
          · refine bGo hA 1 9 (50, .iconst (0), 1, 26, 0, [], [(0, 0)]) rfl rfl rfl ?_
            refine bGo hA 1 10 (51, .invokestatic 88, 3, 27, 0, [2, 139, 1], []) rfl rfl rfl ?_
            refine hC _ _ _ _ _ (bRvx_e (fun s21 k22 => ?_) (fun E s21 k22 => ?_)) (k10.2.2 c12)
            · show A (27, [.ref 11, .int x1, .int x2, .int x3, .int x4], [], s21)
              refine bGo hA 1 11 (54, .aload_n 0, 1, 28, 0, [0], []) rfl rfl rfl ?_
              refine bGo hA 1 12 (55, .getfield 33, 3, 29, 0, [11, 3, 3, 9, 0, 0], []) rfl rfl rfl ?_
              refine ⟨rfl, ?_⟩
              refine bGo hA 1 13 (58, .iload_n 1, 1, 30, 0, [1], []) rfl rfl rfl ?_
              refine bGo hA 1 14 (59, .invokevirtual 147, 3, 31, 0, [0, 9, 120, 1], []) rfl rfl rfl ?_
              refine ⟨rfl, ?_⟩
              refine hC _ _ _ _ _ (bRa_e (fun r25 s23 k24 => ?_)) k22
              show A (31, [.ref 11, .int x1, .int x2, .int x3, .int x4], [.ref r25], s23)
              refine bGo hA 1 15 (62, .iload_n 2, 1, 32, 0, [2], []) rfl rfl rfl ?_
              refine bGo hA 2 0 (63, .iload_n 3, 1, 33, 0, [3], []) rfl rfl rfl ?_
              refine bGo hA 2 1 (64, .iload 4, 2, 34, 0, [4], []) rfl rfl rfl ?_
              refine bGo hA 2 2 (66, .invokevirtual 159, 3, 35, 0, [0, 8, 113, 3], []) rfl rfl rfl ?_
              refine ⟨k24.1, ?_⟩
              refine hC _ _ _ _ _ (bRi_e (fun r28 s26 k27 => ?_)) k24.2
              show A (35, [.ref 11, .int x1, .int x2, .int x3, .int x4], [.int r28], s26)
              refine bGo hA 2 3 (69, .ireturn, 1, 0, 0, [1], []) rfl rfl rfl ?_
              exact k27
            · exact k22
        · exact k8
      · exact k6
    · exact k4
  · exact k2

theorem sg159_0 {lvl : Nat} {C : bCall} {Q : bPost} {A : bPt → Prop} (hC : bMono C) (hA : bClosed lvl bm159 C Q A) {x1 : Int32} {x2 : Int32} {σ : bSt} 
  (h : (C 136 [.int x1, .int (σ.1 9 0)] σ (bRvx (fun s1 => (C 136 [.int x2, .int 48] s1 (bRvx (fun s3 => (C 120 [.ref 9, .int x1] s3 (bRa (fun r7 s5 => (r7 % 256 = 8 ∧ (((s5.1 r7 13) < 6 → (C 139 [.int 1] s5 (bRvx (fun s9 => (C 120 [.ref 9, .int x1] s9 (bRa (fun r13 s11 => (r13 % 256 = 8 ∧ (C 110 [.ref r13, .int x2] s11 (bRi (fun r16 s14 => Q (.inl (some (.int r16))) s14)))))))) (fun E s9 => Q (.inr E) s9)))) ∧ (¬ (s5.1 r7 13) < 6 → (C 139 [.int 0] s5 (bRvx (fun s17 => (C 120 [.ref 9, .int x1] s17 (bRa (fun r21 s19 => (r21 % 256 = 8 ∧ (C 110 [.ref r21, .int x2] s19 (bRi (fun r24 s22 => Q (.inl (some (.int r24))) s22)))))))) (fun E s17 => Q (.inr E) s17)))))))))) (fun E s3 => Q (.inr E) s3)))) (fun E s1 => Q (.inr E) s1)))) : A (0, [.ref 11, .int x1, .int x2], [], σ) := by
  refine bGo hA 0 0 (0, .iload_n 1, 1, 1, 0, [1], []) rfl rfl rfl ?_
  refine bGo hA 0 1 (1, .aload_n 0, 1, 2, 0, [0], []) rfl rfl rfl ?_
  refine bGo hA 0 2 (2, .getfield 33, 3, 3, 0, [11, 3, 3, 9, 0, 0], []) rfl rfl rfl ?_
  refine ⟨rfl, ?_⟩
  refine bGo hA 0 3 (5, .getfield 144, 3, 4, 0, [9, 0, 0, 0, 0, 0], []) rfl rfl rfl ?_
  refine ⟨rfl, ?_⟩
  refine bGo hA 0 4 (8, .invokestatic 76, 3, 5, 0, [2, 136, 2], []) rfl rfl rfl ?_
  refine hC _ _ _ _ _ (bRvx_e (fun s1 k2 => ?_) (fun E s1 k2 => ?_)) h
  · show A (5, [.ref 11, .int x1, .int x2], [], s1)
    refine bGo hA 0 5 (11, .iload_n 2, 1, 6, 0, [2], []) rfl rfl rfl ?_
    refine bGo hA 0 6 (12, .bipush (48), 2, 7, 0, [], [(48, 0)]) rfl rfl rfl ?_
    refine bGo hA 0 7 (14, .invokestatic 76, 3, 8, 0, [2, 136, 2], []) rfl rfl rfl ?_
    refine hC _ _ _ _ _ (bRvx_e (fun s3 k4 => ?_) (fun E s3 k4 => ?_)) k2
    · show A (8, [.ref 11, .int x1, .int x2], [], s3)
      refine bGo hA 0 8 (17, .aload_n 0, 1, 9, 0, [0], []) rfl rfl rfl ?_
      refine bGo hA 0 9 (18, .getfield 33, 3, 10, 0, [11, 3, 3, 9, 0, 0], []) rfl rfl rfl ?_
      refine ⟨rfl, ?_⟩
      refine bGo hA 0 10 (21, .iload_n 1, 1, 11, 0, [1], []) rfl rfl rfl ?_
      refine bGo hA 0 11 (22, .invokevirtual 147, 3, 12, 0, [0, 9, 120, 1], []) rfl rfl rfl ?_
      refine ⟨rfl, ?_⟩
      refine hC _ _ _ _ _ (bRa_e (fun r7 s5 k6 => ?_)) k4
      show A (12, [.ref 11, .int x1, .int x2], [.ref r7], s5)
      refine bGo hA 0 12 (25, .getfield 162, 3, 13, 0, [8, 13, 0, 0, 0, 0], []) rfl rfl rfl ?_
      refine ⟨k6.1, ?_⟩
      refine bGo hA 0 13 (28, .bipush (6), 2, 14, 0, [], [(6, 0)]) rfl rfl rfl ?_
      refine bGo hA 0 14 (30, .if_icmp .ge (7), 3, 15, 17, [], []) rfl rfl rfl ?_
      refine ⟨fun c8 => ?_, fun c8 => ?_⟩
      · refine bGo hA 0 15 (33, .iconst (1), 1, 16, 0, [], [(1, 0)]) rfl rfl rfl ?_
        refine bGo hA 1 0 (34, .goto (4), 3, 17, 18, [], []) rfl rfl rfl ?_
        refine bGo hA 1 2 (38, .invokestatic 88, 3, 19, 0, [2, 139, 1], []) rfl rfl rfl ?_
        refine hC _ _ _ _ _ (bRvx_e (fun s9 k10 => ?_) (fun E s9 k10 => ?_)) (k6.2.1 c8)
        · show A (19, [.ref 11, .int x1, .int x2], [], s9)
          refine bGo hA 1 3 (41, .aload_n 0, 1, 20, 0, [0], []) rfl rfl rfl ?_
          refine bGo hA 1 4 (42, .getfield 33, 3, 21, 0, [11, 3, 3, 9, 0, 0], []) rfl rfl rfl ?_
          refine ⟨rfl, ?_⟩
          refine bGo hA 1 5 (45, .iload_n 1, 1, 22, 0, [1], []) rfl rfl rfl ?_
          refine bGo hA 1 6 (46, .invokevirtual 147, 3, 23, 0, [0, 9, 120, 1], []) rfl rfl rfl ?_
          refine ⟨rfl, ?_⟩
          refine hC _ _ _ _ _ (bRa_e (fun r13 s11 k12 => ?_)) k10
          show A (23, [.ref 11, .int x1, .int x2], [.ref r13], s11)
          refine bGo hA 1 7 (49, .iload_n 2, 1, 24, 0, [2], []) rfl rfl rfl ?_
          refine bGo hA 1 8 (50, .invokevirtual 165, 3, 25, 0, [0, 8, 110, 1], []) rfl rfl rfl ?_
          refine ⟨k12.1, ?_⟩
          refine hC _ _ _ _ _ (bRi_e (fun r16 s14 k15 => ?_)) k12.2
          show A (25, [.ref 11, .int x1, .int x2], [.int r16], s14)
          refine bGo hA 1 9 (53, .ireturn, 1, 0, 0, [1], []) rfl rfl rfl ?_
          exact k15
        · exact k10
      · refine bGo hA 1 1 (37, .iconst (0), 1, 18, 0, [], [(0, 0)]) rfl rfl rfl ?_
        refine bGo hA 1 2 (38, .invokestatic 88, 3, 19, 0, [2, 139, 1], []) rfl rfl rfl ?_
        refine hC _ _ _ _ _ (bRvx_e (fun s17 k18 => ?_) (fun E s17 k18 => ?_)) (k6.2.2 c8)
        · show A (19, [.ref 11, .int x1, .int x2], [], s17)
          refine bGo hA 1 3 (41, .aload_n 0, 1, 20, 0, [0], []) rfl rfl rfl ?_
          refine bGo hA 1 4 (42, .getfield 33, 3, 21, 0, [11, 3, 3, 9, 0, 0], []) rfl rfl rfl ?_
          refine ⟨rfl, ?_⟩
          refine bGo hA 1 5 (45, .iload_n 1, 1, 22, 0, [1], []) rfl rfl rfl ?_
          refine bGo hA 1 6 (46, .invokevirtual 147, 3, 23, 0, [0, 9, 120, 1], []) rfl rfl rfl ?_
          refine ⟨rfl, ?_⟩
          refine hC _ _ _ _ _ (bRa_e (fun r21 s19 k20 => ?_)) k18
          show A (23, [.ref 11, .int x1, .int x2], [.ref r21], s19)
          refine bGo hA 1 7 (49, .iload_n 2, 1, 24, 0, [2], []) rfl rfl rfl ?_
          refine bGo hA 1 8 (50, .invokevirtual 165, 3, 25, 0, [0, 8, 110, 1], []) rfl rfl rfl ?_
          refine ⟨k20.1, ?_⟩
          refine hC _ _ _ _ _ (bRi_e (fun r24 s22 k23 => ?_)) k20.2
          show A (25, [.ref 11, .int x1, .int x2], [.int r24], s22)
          refine bGo hA 1 9 (53, .ireturn, 1, 0, 0, [1], []) rfl rfl rfl ?_
          exact k23
        · exact k18
    · exact k4
  · exact k2

theorem sg160_0 {lvl : Nat} {C : bCall} {Q : bPost} {A : bPt → Prop} (hC : bMono C) (hA : bClosed lvl bm160 C Q A) {x1 : Int32} {x2 : Int32} {x3 : Int32} {σ : bSt} 
  (h : (C 136 [.int x1, .int (σ.1 9 0)] σ (bRvx (fun s1 => (C 138 [.int x2, .int 0, .int 255] s1 (bRvx (fun s3 => (C 120 [.ref 9, .int x1] s3 (bRa (fun r7 s5 => (r7 % 256 = 8 ∧ (((s5.1 r7 13) < 6 → (C 139 [.int 1] s5 (bRvx (fun s9 => (C 120 [.ref 9, .int x1] s9 (bRa (fun r13 s11 => ((x3 = 0 → (r13 % 256 = 8 ∧ (C 110 [.ref r13, .int ((1000 + (x2 * 2)) + 0)] s11 (bRi (fun r17 s15 => Q (.inl (some (.int r17))) s15))))) ∧ (¬ x3 = 0 → (r13 % 256 = 8 ∧ (C 110 [.ref r13, .int ((1000 + (x2 * 2)) + 1)] s11 (bRi (fun r20 s18 => Q (.inl (some (.int r20))) s18)))))))))) (fun E s9 => Q (.inr E) s9)))) ∧ (¬ (s5.1 r7 13) < 6 → (C 139 [.int 0] s5 (bRvx (fun s21 => (C 120 [.ref 9, .int x1] s21 (bRa (fun r25 s23 => ((x3 = 0 → (r25 % 256 = 8 ∧ (C 110 [.ref r25, .int ((1000 + (x2 * 2)) + 0)] s23 (bRi (fun r29 s27 => Q (.inl (some (.int r29))) s27))))) ∧ (¬ x3 = 0 → (r25 % 256 = 8 ∧ (C 110 [.ref r25, .int ((1000 + (x2 * 2)) + 1)] s23 (bRi (fun r32 s30 => Q (.inl (some (.int r32))) s30)))))))))) (fun E s21 => Q (.inr E) s21)))))))))) (fun E s3 => Q (.inr E) s3)))) (fun E s1 => Q (.inr E) s1)))) : A (0, [.ref 11, .int x1, .int x2, .int x3], [], σ) := by
  refine bGo hA 0 0 (0, .iload_n 1, 1, 1, 0, [1], []) rfl rfl rfl ?_
  refine bGo hA 0 1 (1, .aload_n 0, 1, 2, 0, [0], []) rfl rfl rfl ?_
  refine bGo hA 0 2 (2, .getfield 33, 3, 3, 0, [11, 3, 3, 9, 0, 0], []) rfl rfl rfl ?_
  refine ⟨rfl, ?_⟩
  refine bGo hA 0 3 (5, .getfield 144, 3, 4, 0, [9, 0, 0, 0, 0, 0], []) rfl rfl rfl ?_
  refine ⟨rfl, ?_⟩
  refine bGo hA 0 4 (8, .invokestatic 76, 3, 5, 0, [2, 136, 2], []) rfl rfl rfl ?_
  refine hC _ _ _ _ _ (bRvx_e (fun s1 k2 => ?_) (fun E s1 k2 => ?_)) h
  · show A (5, [.ref 11, .int x1, .int x2, .int x3], [], s1)
    refine bGo hA 0 5 (11, .iload_n 2, 1, 6, 0, [2], []) rfl rfl rfl ?_
    refine bGo hA 0 6 (12, .iconst (0), 1, 7, 0, [], [(0, 0)]) rfl rfl rfl ?_
    refine bGo hA 0 7 (13, .sipush (255), 3, 8, 0, [], [(255, 0)]) rfl rfl rfl ?_
    refine bGo hA 0 8 (16, .invokestatic 80, 3, 9, 0, [2, 138, 3], []) rfl rfl rfl ?_
    refine hC _ _ _ _ _ (bRvx_e (fun s3 k4 => ?_) (fun E s3 k4 => ?_)) k2
    · show A (9, [.ref 11, .int x1, .int x2, .int x3], [], s3)
      refine bGo hA 0 9 (19, .aload_n 0, 1, 10, 0, [0], []) rfl rfl rfl ?_
      refine bGo hA 0 10 (20, .getfield 33, 3, 11, 0, [11, 3, 3, 9, 0, 0], []) rfl rfl rfl ?_
      refine ⟨rfl, ?_⟩
      refine bGo hA 0 11 (23, .iload_n 1, 1, 12, 0, [1], []) rfl rfl rfl ?_
      refine bGo hA 0 12 (24, .invokevirtual 147, 3, 13, 0, [0, 9, 120, 1], []) rfl rfl rfl ?_
      refine ⟨rfl, ?_⟩
      refine hC _ _ _ _ _ (bRa_e (fun r7 s5 k6 => ?_)) k4
      show A (13, [.ref 11, .int x1, .int x2, .int x3], [.ref r7], s5)
      refine bGo hA 0 13 (27, .getfield 162, 3, 14, 0, [8, 13, 0, 0, 0, 0], []) rfl rfl rfl ?_
      refine ⟨k6.1, ?_⟩
      refine bGo hA 0 14 (30, .bipush (6), 2, 15, 0, [], [(6, 0)]) rfl rfl rfl ?_
      refine bGo hA 0 15 (32, .if_icmp .ge (7), 3, 16, 18, [], []) rfl rfl rfl ?_
      refine ⟨fun c8 => ?_, fun c8 => ?_⟩
      · refine bGo hA 1 0 (35, .iconst (1), 1, 17, 0, [], [(1, 0)]) rfl rfl rfl ?_
        refine bGo hA 1 1 (36, .goto (4), 3, 18, 19, [], []) rfl rfl rfl ?_
        refine bGo hA 1 3 (40, .invokestatic 88, 3, 20, 0, [2, 139, 1], []) rfl rfl rfl ?_
        refine hC _ _ _ _ _ (bRvx_e (fun s9 k10 => ?_) (fun E s9 k10 => ?_)) (k6.2.1 c8)
        · show A (20, [.ref 11, .int x1, .int x2, .int x3], [], s9)
          refine bGo hA 1 4 (43, .aload_n 0, 1, 21, 0, [0], []) rfl rfl rfl ?_
          refine bGo hA 1 5 (44, .getfield 33, 3, 22, 0, [11, 3, 3, 9, 0, 0], []) rfl rfl rfl ?_
          refine ⟨rfl, ?_⟩
          refine bGo hA 1 6 (47, .iload_n 1, 1, 23, 0, [1], []) rfl rfl rfl ?_
          refine bGo hA 1 7 (48, .invokevirtual 147, 3, 24, 0, [0, 9, 120, 1], []) rfl rfl rfl ?_
          refine ⟨rfl, ?_⟩
          refine hC _ _ _ _ _ (bRa_e (fun r13 s11 k12 => ?_)) k10
          show A (24, [.ref 11, .int x1, .int x2, .int x3], [.ref r13], s11)
          refine bGo hA 1 8 (51, .sipush (1000), 3, 25, 0, [], [(1000, 0)]) rfl rfl rfl ?_
          refine bGo hA 1 9 (54, .iload_n 2, 1, 26, 0, [2], []) rfl rfl rfl ?_
          refine bGo hA 1 10 (55, .iconst (2), 1, 27, 0, [], [(2, 0)]) rfl rfl rfl ?_
          refine bGo hA 1 11 (56, .imul, 1, 28, 0, [], []) rfl rfl rfl ?_
          refine bGo hA 1 12 (57, .iadd, 1, 29, 0, [], []) rfl rfl rfl ?_
          refine bGo hA 1 13 (58, .iload_n 3, 1, 30, 0, [3], []) rfl rfl rfl ?_
          refine bGo hA 1 14 (59, .ifCond .eq (7), 3, 31, 33, [], []) rfl rfl rfl ?_
          refine ⟨fun c14 => ?_, fun c14 => ?_⟩
          · refine bGo hA 2 1 (66, .iconst (0), 1, 34, 0, [], [(0, 0)]) rfl rfl rfl ?_
            refine bGo hA 2 2 (67, .iadd, 1, 35, 0, [], []) rfl rfl rfl ?_
            refine bGo hA 2 3 (68, .invokevirtual 165, 3, 36, 0, [0, 8, 110, 1], []) rfl rfl rfl ?_
            refine ⟨(k12.1 c14).1, ?_⟩
            refine hC _ _ _ _ _ (bRi_e (fun r17 s15 k16 => ?_)) (k12.1 c14).2
            show A (36, [.ref 11, .int x1, .int x2, .int x3], [.int r17], s15)
            refine bGo hA 2 4 (71, .ireturn, 1, 0, 0, [1], []) rfl rfl rfl ?_
            exact k16
          · refine bGo hA 1 15 (62, .iconst (1), 1, 32, 0, [], [(1, 0)]) rfl rfl rfl ?_
            refine bGo hA 2 0 (63, .goto (4), 3, 33, 34, [], []) rfl rfl rfl ?_
            refine bGo hA 2 2 (67, .iadd, 1, 35, 0, [], []) rfl rfl rfl ?_
            refine bGo hA 2 3 (68, .invokevirtual 165, 3, 36, 0, [0, 8, 110, 1], []) rfl rfl rfl ?_
            refine ⟨(k12.2 c14).1, ?_⟩
            refine hC _ _ _ _ _ (bRi_e (fun r20 s18 k19 => ?_)) (k12.2 c14).2
            show A (36, [.ref 11, .int x1, .int x2, .int x3], [.int r20], s18)
            refine bGo hA 2 4 (71, .ireturn, 1, 0, 0, [1], []) rfl rfl rfl ?_
            exact k19
        · exact k10
      · refine bGo hA 1 2 (39, .iconst (0), 1, 19, 0, [], [(0, 0)]) rfl rfl rfl ?_
        refine bGo hA 1 3 (40, .invokestatic 88, 3, 20, 0, [2, 139, 1], []) rfl rfl rfl ?_
        refine hC _ _ _ _ _ (bRvx_e (fun s21 k22 => ?_) (fun E s21 k22 => ?_)) (k6.2.2 c8)
        · show A (20, [.ref 11, .int x1, .int x2, .int x3], [], s21)
          refine bGo hA 1 4 (43, .aload_n 0, 1, 21, 0, [0], []) rfl rfl rfl ?_
          refine bGo hA 1 5 (44, .getfield 33, 3, 22, 0, [11, 3, 3, 9, 0, 0], []) rfl rfl rfl ?_
          refine ⟨rfl, ?_⟩
          refine bGo hA 1 6 (47, .iload_n 1, 1, 23, 0, [1], []) rfl rfl rfl ?_
          refine bGo hA 1 7 (48, .invokevirtual 147, 3, 24, 0, [0, 9, 120, 1], []) rfl rfl rfl ?_
          refine ⟨rfl, ?_⟩
          refine hC _ _ _ _ _ (bRa_e (fun r25 s23 k24 => ?_)) k22
          show A (24, [.ref 11, .int x1, .int x2, .int x3], [.ref r25], s23)
          refine bGo hA 1 8 (51, .sipush (1000), 3, 25, 0, [], [(1000, 0)]) rfl rfl rfl ?_
          refine bGo hA 1 9 (54, .iload_n 2, 1, 26, 0, [2], []) rfl rfl rfl ?_
          refine bGo hA 1 10 (55, .iconst (2), 1, 27, 0, [], [(2, 0)]) rfl rfl rfl ?_
          refine bGo hA 1 11 (56, .imul, 1, 28, 0, [], []) rfl rfl rfl ?_
          refine bGo hA 1 12 (57, .iadd, 1, 29, 0, [], []) rfl rfl rfl ?_
          refine bGo hA 1 13 (58, .iload_n 3, 1, 30, 0, [3], []) rfl rfl rfl ?_
          refine bGo hA 1 14 (59, .ifCond .eq (7), 3, 31, 33, [], []) rfl rfl rfl ?_
          refine ⟨fun c26 => ?_, fun c26 => ?_⟩
          · refine bGo hA 2 1 (66, .iconst (0), 1, 34, 0, [], [(0, 0)]) rfl rfl rfl ?_
            refine bGo hA 2 2 (67, .iadd, 1, 35, 0, [], []) rfl rfl rfl ?_
            refine bGo hA 2 3 (68, .invokevirtual 165, 3, 36, 0, [0, 8, 110, 1], []) rfl rfl rfl ?_
            refine ⟨(k24.1 c26).1, ?_⟩
            refine hC _ _ _ _ _ (bRi_e (fun r29 s27 k28 => ?_)) (k24.1 c26).2
            show A (36, [.ref 11, .int x1, .int x2, .int x3], [.int r29], s27)
            refine bGo hA 2 4 (71, .ireturn, 1, 0, 0, [1], []) rfl rfl rfl ?_
            exact k28
          · refine bGo hA 1 15 (62, .iconst (1), 1, 32, 0, [], [(1, 0)]) rfl rfl rfl ?_
            refine bGo hA 2 0 (63, .goto (4), 3, 33, 34, [], []) rfl rfl rfl ?_
            refine bGo hA 2 2 (67, .iadd, 1, 35, 0, [], []) rfl rfl rfl ?_
            refine bGo hA 2 3 (68, .invokevirtual 165, 3, 36, 0, [0, 8, 110, 1], []) rfl rfl rfl ?_
            refine ⟨(k24.2 c26).1, ?_⟩
            refine hC _ _ _ _ _ (bRi_e (fun r32 s30 k31 => ?_)) (k24.2 c26).2
            show A (36, [.ref 11, .int x1, .int x2, .int x3], [.int r32], s30)
            refine bGo hA 2 4 (71, .ireturn, 1, 0, 0, [1], []) rfl rfl rfl ?_
            exact k31
        · exact k22
    · exact k4
  · exact k2

theorem sg161_0 {lvl : Nat} {C : bCall} {Q : bPost} {A : bPt → Prop} (hC : bMono C) (hA : bClosed lvl bm161 C Q A) {x1 : Int32} {x2 : Int32} {σ : bSt} 
  (h : (C 136 [.int x1, .int (σ.1 9 0)] σ (bRvx (fun s1 => (C 136 [.int x2, .int (s1.1 9 0)] s1 (bRvx (fun s3 => (C 138 [.int x2, .int 0, .int (x1 - 1)] s3 (bRvx (fun s5 => (C 120 [.ref 9, .int x1] s5 (bRa (fun r9 s7 => (r9 % 256 = 8 ∧ (((s7.1 r9 13) < 6 → (C 139 [.int 1] s7 (bRvx (fun s11 => (C 120 [.ref 9, .int x1] s11 (bRa (fun r15 s13 => (r15 % 256 = 8 ∧ (C 110 [.ref r15, .int (100 + x2)] s13 (bRi (fun r18 s16 => Q (.inl (some (.int r18))) s16)))))))) (fun E s11 => Q (.inr E) s11)))) ∧ (¬ (s7.1 r9 13) < 6 → (C 139 [.int 0] s7 (bRvx (fun s19 => (C 120 [.ref 9, .int x1] s19 (bRa (fun r23 s21 => (r23 % 256 = 8 ∧ (C 110 [.ref r23, .int (100 + x2)] s21 (bRi (fun r26 s24 => Q (.inl (some (.int r26))) s24)))))))) (fun E s19 => Q (.inr E) s19)))))))))) (fun E s5 => Q (.inr E) s5)))) (fun E s3 => Q (.inr E) s3)))) (fun E s1 => Q (.inr E) s1)))) : A (0, [.ref 11, .int x1, .int x2], [], σ) := by
  refine bGo hA 0 0 (0, .iload_n 1, 1, 1, 0, [1], []) rfl rfl rfl ?_
  refine bGo hA 0 1 (1, .aload_n 0, 1, 2, 0, [0], []) rfl rfl rfl ?_
  refine bGo hA 0 2 (2, .getfield 33, 3, 3, 0, [11, 3, 3, 9, 0, 0], []) rfl rfl rfl ?_
  refine ⟨rfl, ?_⟩
  refine bGo hA 0 3 (5, .getfield 144, 3, 4, 0, [9, 0, 0, 0, 0, 0], []) rfl rfl rfl ?_
  refine ⟨rfl, ?_⟩
  refine bGo hA 0 4 (8, .invokestatic 76, 3, 5, 0, [2, 136, 2], []) rfl rfl rfl ?_
  refine hC _ _ _ _ _ (bRvx_e (fun s1 k2 => ?_) (fun E s1 k2 => ?_)) h
  · show A (5, [.ref 11, .int x1, .int x2], [], s1)
    refine bGo hA 0 5 (11, .iload_n 2, 1, 6, 0, [2], []) rfl rfl rfl ?_
    refine bGo hA 0 6 (12, .aload_n 0, 1, 7, 0, [0], []) rfl rfl rfl ?_
    refine bGo hA 0 7 (13, .getfield 33, 3, 8, 0, [11, 3, 3, 9, 0, 0], []) rfl rfl rfl ?_
    refine ⟨rfl, ?_⟩
    refine bGo hA 0 8 (16, .getfield 144, 3, 9, 0, [9, 0, 0, 0, 0, 0], []) rfl rfl rfl ?_
    refine ⟨rfl, ?_⟩
    refine bGo hA 0 9 (19, .invokestatic 76, 3, 10, 0, [2, 136, 2], []) rfl rfl rfl ?_
    refine hC _ _ _ _ _ (bRvx_e (fun s3 k4 => ?_) (fun E s3 k4 => ?_)) k2
    · show A (10, [.ref 11, .int x1, .int x2], [], s3)
      refine bGo hA 0 10 (22, .iload_n 2, 1, 11, 0, [2], []) rfl rfl rfl ?_
      refine bGo hA 0 11 (23, .iconst (0), 1, 12, 0, [], [(0, 0)]) rfl rfl rfl ?_
      refine bGo hA 0 12 (24, .iload_n 1, 1, 13, 0, [1], []) rfl rfl rfl ?_
      refine bGo hA 0 13 (25, .iconst (1), 1, 14, 0, [], [(1, 0)]) rfl rfl rfl ?_
      refine bGo hA 0 14 (26, .isub, 1, 15, 0, [], []) rfl rfl rfl ?_
      refine bGo hA 0 15 (27, .invokestatic 80, 3, 16, 0, [2, 138, 3], []) rfl rfl rfl ?_
      refine hC _ _ _ _ _ (bRvx_e (fun s5 k6 => ?_) (fun E s5 k6 => ?_)) k4
      · show A (16, [.ref 11, .int x1, .int x2], [], s5)
        refine bGo hA 1 0 (30, .aload_n 0, 1, 17, 0, [0], []) rfl rfl rfl ?_
        refine bGo hA 1 1 (31, .getfield 33, 3, 18, 0, [11, 3, 3, 9, 0, 0], []) rfl rfl rfl ?_
        refine ⟨rfl, ?_⟩
        refine bGo hA 1 2 (34, .iload_n 1, 1, 19, 0, [1], []) rfl rfl rfl ?_
        refine bGo hA 1 3 (35, .invokevirtual 147, 3, 20, 0, [0, 9, 120, 1], []) rfl rfl rfl ?_
        refine ⟨rfl, ?_⟩
        refine hC _ _ _ _ _ (bRa_e (fun r9 s7 k8 => ?_)) k6
        show A (20, [.ref 11, .int x1, .int x2], [.ref r9], s7)
        refine bGo hA 1 4 (38, .getfield 162, 3, 21, 0, [8, 13, 0, 0, 0, 0], []) rfl rfl rfl ?_
        refine ⟨k8.1, ?_⟩
        refine bGo hA 1 5 (41, .bipush (6), 2, 22, 0, [], [(6, 0)]) rfl rfl rfl ?_
        refine bGo hA 1 6 (43, .if_icmp .ge (7), 3, 23, 25, [], []) rfl rfl rfl ?_
        refine ⟨fun c10 => ?_, fun c10 => ?_⟩
        · refine bGo hA 1 7 (46, .iconst (1), 1, 24, 0, [], [(1, 0)]) rfl rfl rfl ?_
          refine bGo hA 1 8 (47, .goto (4), 3, 25, 26, [], []) rfl rfl rfl ?_
          refine bGo hA 1 10 (51, .invokestatic 88, 3, 27, 0, [2, 139, 1], []) rfl rfl rfl ?_
          refine hC _ _ _ _ _ (bRvx_e (fun s11 k12 => ?_) (fun E s11 k12 => ?_)) (k8.2.1 c10)
          · show A (27, [.ref 11, .int x1, .int x2], [], s11)
            refine bGo hA 1 11 (54, .aload_n 0, 1, 28, 0, [0], []) rfl rfl rfl ?_
            refine bGo hA 1 12 (55, .getfield 33, 3, 29, 0, [11, 3, 3, 9, 0, 0], []) rfl rfl rfl ?_
            refine ⟨rfl, ?_⟩
            refine bGo hA 1 13 (58, .iload_n 1, 1, 30, 0, [1], []) rfl rfl rfl ?_
            refine bGo hA 1 14 (59, .invokevirtual 147, 3, 31, 0, [0, 9, 120, 1], []) rfl rfl rfl ?_
            refine ⟨rfl, ?_⟩
            refine hC _ _ _ _ _ (bRa_e (fun r15 s13 k14 => ?_)) k12
            show A (31, [.ref 11, .int x1, .int x2], [.ref r15], s13)
            refine bGo hA 1 15 (62, .bipush (100), 2, 32, 0, [], [(100, 0)]) rfl rfl rfl ?_
            refine bGo hA 2 0 (64, .iload_n 2, 1, 33, 0, [2], []) rfl rfl rfl ?_
            refine bGo hA 2 1 (65, .iadd, 1, 34, 0, [], []) rfl rfl rfl ?_
            refine bGo hA 2 2 (66, .invokevirtual 165, 3, 35, 0, [0, 8, 110, 1], []) rfl rfl rfl ?_
            refine ⟨k14.1, ?_⟩
            refine hC _ _ _ _ _ (bRi_e (fun r18 s16 k17 => ?_)) k14.2
            show A (35, [.ref 11, .int x1, .int x2], [.int r18], s16)
            refine bGo hA 2 3 (69, .ireturn, 1, 0, 0, [1], []) rfl rfl rfl ?_
            exact k17
          · exact k12
        · refine bGo hA 1 9 (50, .iconst (0), 1, 26, 0, [], [(0, 0)]) rfl rfl rfl ?_
          refine bGo hA 1 10 (51, .invokestatic 88, 3, 27, 0, [2, 139, 1], []) rfl rfl rfl ?_
          refine hC _ _ _ _ _ (bRvx_e (fun s19 k20 => ?_) (fun E s19 k20 => ?_)) (k8.2.2 c10)
          · show A (27, [.ref 11, .int x1, .int x2], [], s19)
            refine bGo hA 1 11 (54, .aload_n 0, 1, 28, 0, [0], []) rfl rfl rfl ?_
            refine bGo hA 1 12 (55, .getfield 33, 3, 29, 0, [11, 3, 3, 9, 0, 0], []) rfl rfl rfl ?_
            refine ⟨rfl, ?_⟩
            refine bGo hA 1 13 (58, .iload_n 1, 1, 30, 0, [1], []) rfl rfl rfl ?_
            refine bGo hA 1 14 (59, .invokevirtual 147, 3, 31, 0, [0, 9, 120, 1], []) rfl rfl rfl ?_
            refine ⟨rfl, ?_⟩
            refine hC _ _ _ _ _ (bRa_e (fun r23 s21 k22 => ?_)) k20
            show A (31, [.ref 11, .int x1, .int x2], [.ref r23], s21)
            refine bGo hA 1 15 (62, .bipush (100), 2, 32, 0, [], [(100, 0)]) rfl rfl rfl ?_
            refine bGo hA 2 0 (64, .iload_n 2, 1, 33, 0, [2], []) rfl rfl rfl ?_
            refine bGo hA 2 1 (65, .iadd, 1, 34, 0, [], []) rfl rfl rfl ?_
            refine bGo hA 2 2 (66, .invokevirtual 165, 3, 35, 0, [0, 8, 110, 1], []) rfl rfl rfl ?_
            refine ⟨k22.1, ?_⟩
            refine hC _ _ _ _ _ (bRi_e (fun r26 s24 k25 => ?_)) k22.2
            show A (35, [.ref 11, .int x1, .int x2], [.int r26], s24)
            refine bGo hA 2 3 (69, .ireturn, 1, 0, 0, [1], []) rfl rfl rfl ?_
            exact k25
          · exact k20
      · exact k6
    · exact k4
  · exact k2

theorem sg162_0 {lvl : Nat} {C : bCall} {Q : bPost} {A : bPt → Prop} (hC : bMono C) (hA : bClosed lvl bm162 C Q A) {x1 : Int32} {σ : bSt} 
  (h : (C 136 [.int x1, .int (σ.1 9 0)] σ (bRvx (fun s1 => (C 120 [.ref 9, .int x1] s1 (bRa (fun r5 s3 => (r5 % 256 = 8 ∧ ((0 < (s3.1 r5 13) → (C 139 [.int 1] s3 (bRvx (fun s7 => (C 120 [.ref 9, .int x1] s7 (bRa (fun r11 s9 => (r11 % 256 = 8 ∧ (C 111 [.ref r11] s9 (bRi (fun r14 s12 => Q (.inl (some (.int r14))) s12)))))))) (fun E s7 => Q (.inr E) s7)))) ∧ (¬ 0 < (s3.1 r5 13) → (C 139 [.int 0] s3 (bRvx (fun s15 => (C 120 [.ref 9, .int x1] s15 (bRa (fun r19 s17 => (r19 % 256 = 8 ∧ (C 111 [.ref r19] s17 (bRi (fun r22 s20 => Q (.inl (some (.int r22))) s20)))))))) (fun E s15 => Q (.inr E) s15)))))))))) (fun E s1 => Q (.inr E) s1)))) : A (0, [.ref 11, .int x1], [], σ) := by
  refine bGo hA 0 0 (0, .iload_n 1, 1, 1, 0, [1], []) rfl rfl rfl ?_
  refine bGo hA 0 1 (1, .aload_n 0, 1, 2, 0, [0], []) rfl rfl rfl ?_
  refine bGo hA 0 2 (2, .getfield 33, 3, 3, 0, [11, 3, 3, 9, 0, 0], []) rfl rfl rfl ?_
  refine ⟨rfl, ?_⟩
  refine bGo hA 0 3 (5, .getfield 144, 3, 4, 0, [9, 0, 0, 0, 0, 0], []) rfl rfl rfl ?_
  refine ⟨rfl, ?_⟩
  refine bGo hA 0 4 (8, .invokestatic 76, 3, 5, 0, [2, 136, 2], []) rfl rfl rfl ?_
  refine hC _ _ _ _ _ (bRvx_e (fun s1 k2 => ?_) (fun E s1 k2 => ?_)) h
  · show A (5, [.ref 11, .int x1], [], s1)
    refine bGo hA 0 5 (11, .aload_n 0, 1, 6, 0, [0], []) rfl rfl rfl ?_
    refine bGo hA 0 6 (12, .getfield 33, 3, 7, 0, [11, 3, 3, 9, 0, 0], []) rfl rfl rfl ?_
    refine ⟨rfl, ?_⟩
    refine bGo hA 0 7 (15, .iload_n 1, 1, 8, 0, [1], []) rfl rfl rfl ?_
    refine bGo hA 0 8 (16, .invokevirtual 147, 3, 9, 0, [0, 9, 120, 1], []) rfl rfl rfl ?_
    refine ⟨rfl, ?_⟩
    refine hC _ _ _ _ _ (bRa_e (fun r5 s3 k4 => ?_)) k2
    show A (9, [.ref 11, .int x1], [.ref r5], s3)
    refine bGo hA 0 9 (19, .getfield 162, 3, 10, 0, [8, 13, 0, 0, 0, 0], []) rfl rfl rfl ?_
    refine ⟨k4.1, ?_⟩
    refine bGo hA 0 10 (22, .ifCond .le (7), 3, 11, 13, [], []) rfl rfl rfl ?_
    refine ⟨fun c6 => ?_, fun c6 => ?_⟩
    · refine bGo hA 0 11 (25, .iconst (1), 1, 12, 0, [], [(1, 0)]) rfl rfl rfl ?_
      refine bGo hA 0 12 (26, .goto (4), 3, 13, 14, [], []) rfl rfl rfl ?_
      refine bGo hA 0 14 (30, .invokestatic 88, 3, 15, 0, [2, 139, 1], []) rfl rfl rfl ?_
      refine hC _ _ _ _ _ (bRvx_e (fun s7 k8 => ?_) (fun E s7 k8 => ?_)) (k4.2.1 c6)
      · show A (15, [.ref 11, .int x1], [], s7)
        refine bGo hA 0 15 (33, .aload_n 0, 1, 16, 0, [0], []) rfl rfl rfl ?_
        refine bGo hA 1 0 (34, .getfield 33, 3, 17, 0, [11, 3, 3, 9, 0, 0], []) rfl rfl rfl ?_
        refine ⟨rfl, ?_⟩
        refine bGo hA 1 1 (37, .iload_n 1, 1, 18, 0, [1], []) rfl rfl rfl ?_
        refine bGo hA 1 2 (38, .invokevirtual 147, 3, 19, 0, [0, 9, 120, 1], []) rfl rfl rfl ?_
        refine ⟨rfl, ?_⟩
        refine hC _ _ _ _ _ (bRa_e (fun r11 s9 k10 => ?_)) k8
        show A (19, [.ref 11, .int x1], [.ref r11], s9)
        refine bGo hA 1 3 (41, .invokevirtual 168, 3, 20, 0, [0, 8, 111, 0], []) rfl rfl rfl ?_
        refine ⟨k10.1, ?_⟩
        refine hC _ _ _ _ _ (bRi_e (fun r14 s12 k13 => ?_)) k10.2
        show A (20, [.ref 11, .int x1], [.int r14], s12)
        refine bGo hA 1 4 (44, .ireturn, 1, 0, 0, [1], []) rfl rfl rfl ?_
        exact k13
      · exact k8
    · refine bGo hA 0 13 (29, .iconst (0), 1, 14, 0, [], [(0, 0)]) rfl rfl rfl ?_
      refine bGo hA 0 14 (30, .invokestatic 88, 3, 15, 0, [2, 139, 1], []) rfl rfl rfl ?_
      refine hC _ _ _ _ _ (bRvx_e (fun s15 k16 => ?_) (fun E s15 k16 => ?_)) (k4.2.2 c6)
      · show A (15, [.ref 11, .int x1], [], s15)
        refine bGo hA 0 15 (33, .aload_n 0, 1, 16, 0, [0], []) rfl rfl rfl ?_
        refine bGo hA 1 0 (34, .getfield 33, 3, 17, 0, [11, 3, 3, 9, 0, 0], []) rfl rfl rfl ?_
        refine ⟨rfl, ?_⟩
        refine bGo hA 1 1 (37, .iload_n 1, 1, 18, 0, [1], []) rfl rfl rfl ?_
        refine bGo hA 1 2 (38, .invokevirtual 147, 3, 19, 0, [0, 9, 120, 1], []) rfl rfl rfl ?_
        refine ⟨rfl, ?_⟩
        refine hC _ _ _ _ _ (bRa_e (fun r19 s17 k18 => ?_)) k16
        show A (19, [.ref 11, .int x1], [.ref r19], s17)
        refine bGo hA 1 3 (41, .invokevirtual 168, 3, 20, 0, [0, 8, 111, 0], []) rfl rfl rfl ?_
        refine ⟨k18.1, ?_⟩
        refine hC _ _ _ _ _ (bRi_e (fun r22 s20 k21 => ?_)) k18.2
        show A (20, [.ref 11, .int x1], [.int r22], s20)
        refine bGo hA 1 4 (44, .ireturn, 1, 0, 0, [1], []) rfl rfl rfl ?_
        exact k21
      · exact k16
  · exact k2

theorem sg163_0 {lvl : Nat} {C : bCall} {Q : bPost} {A : bPt → Prop} (hC : bMono C) (hA : bClosed lvl bm163 C Q A) {x1 : Int32} {x2 : Int32} {σ : bSt} 
  (h : (C 136 [.int x1, .int (σ.1 9 0)] σ (bRvx (fun s1 => (C 138 [.int x2, .int (-1), .int 2] s1 (bRvx (fun s3 => (C 120 [.ref 9, .int x1] s3 (bRa (fun r7 s5 => (r7 % 256 = 8 ∧ (C 120 [.ref 9, .int x1] s5 (bRa (fun r10 s8 => (r10 % 256 = 8 ∧ Q (.inl (some (.int (s5.1 r7 5)))) (bI s8 r10 5 x2)))))))))) (fun E s3 => Q (.inr E) s3)))) (fun E s1 => Q (.inr E) s1)))) : A (0, [.ref 11, .int x1, .int x2, .float 0], [], σ) := by
  refine bGo hA 0 0 (0, .iload_n 1, 1, 1, 0, [1], []) rfl rfl rfl ?_
  refine bGo hA 0 1 (1, .aload_n 0, 1, 2, 0, [0], []) rfl rfl rfl ?_
  refine bGo hA 0 2 (2, .getfield 33, 3, 3, 0, [11, 3, 3, 9, 0, 0], []) rfl rfl rfl ?_
  refine ⟨rfl, ?_⟩
  refine bGo hA 0 3 (5, .getfield 144, 3, 4, 0, [9, 0, 0, 0, 0, 0], []) rfl rfl rfl ?_
  refine ⟨rfl, ?_⟩
  refine bGo hA 0 4 (8, .invokestatic 76, 3, 5, 0, [2, 136, 2], []) rfl rfl rfl ?_
  refine hC _ _ _ _ _ (bRvx_e (fun s1 k2 => ?_) (fun E s1 k2 => ?_)) h
  · show A (5, [.ref 11, .int x1, .int x2, .float 0], [], s1)
    refine bGo hA 0 5 (11, .iload_n 2, 1, 6, 0, [2], []) rfl rfl rfl ?_
    refine bGo hA 0 6 (12, .iconst (-1), 1, 7, 0, [], [(-1, 0)]) rfl rfl rfl ?_
    refine bGo hA 0 7 (13, .iconst (2), 1, 8, 0, [], [(2, 0)]) rfl rfl rfl ?_
    refine bGo hA 0 8 (14, .invokestatic 80, 3, 9, 0, [2, 138, 3], []) rfl rfl rfl ?_
    refine hC _ _ _ _ _ (bRvx_e (fun s3 k4 => ?_) (fun E s3 k4 => ?_)) k2
    · show A (9, [.ref 11, .int x1, .int x2, .float 0], [], s3)
      refine bGo hA 0 9 (17, .aload_n 0, 1, 10, 0, [0], []) rfl rfl rfl ?_
      refine bGo hA 0 10 (18, .getfield 33, 3, 11, 0, [11, 3, 3, 9, 0, 0], []) rfl rfl rfl ?_
      refine ⟨rfl, ?_⟩
      refine bGo hA 0 11 (21, .iload_n 1, 1, 12, 0, [1], []) rfl rfl rfl ?_
      refine bGo hA 0 12 (22, .invokevirtual 147, 3, 13, 0, [0, 9, 120, 1], []) rfl rfl rfl ?_
      refine ⟨rfl, ?_⟩
      refine hC _ _ _ _ _ (bRa_e (fun r7 s5 k6 => ?_)) k4
      show A (13, [.ref 11, .int x1, .int x2, .float 0], [.ref r7], s5)
      refine bGo hA 0 13 (25, .getfield 172, 3, 14, 0, [8, 5, 0, 0, 0, 0], []) rfl rfl rfl ?_
      refine ⟨k6.1, ?_⟩
      refine bGo hA 0 14 (28, .istore_n 3, 1, 15, 0, [3], []) rfl rfl rfl ?_
      refine bGo hA 0 15 (29, .aload_n 0, 1, 16, 0, [0], []) rfl rfl rfl ?_
      refine bGo hA 1 0 (30, .getfield 33, 3, 17, 0, [11, 3, 3, 9, 0, 0], []) rfl rfl rfl ?_
      refine ⟨rfl, ?_⟩
      refine bGo hA 1 1 (33, .iload_n 1, 1, 18, 0, [1], []) rfl rfl rfl ?_
      refine bGo hA 1 2 (34, .invokevirtual 147, 3, 19, 0, [0, 9, 120, 1], []) rfl rfl rfl ?_
      refine ⟨rfl, ?_⟩
      refine hC _ _ _ _ _ (bRa_e (fun r10 s8 k9 => ?_)) k6.2
      show A (19, [.ref 11, .int x1, .int x2, .int (s5.1 r7 5)], [.ref r10], s8)
      refine bGo hA 1 3 (37, .iload_n 2, 1, 20, 0, [2], []) rfl rfl rfl ?_
      refine bGo hA 1 4 (38, .putfield 172, 3, 21, 0, [8, 5, 0, 0, 0, 0], []) rfl rfl rfl ?_
      refine ⟨k9.1, ?_⟩
      refine bGo hA 1 5 (41, .iload_n 3, 1, 22, 0, [3], []) rfl rfl rfl ?_
      refine bGo hA 1 6 (42, .ireturn, 1, 0, 0, [1], []) rfl rfl rfl ?_
      exact k9.2
    · exact k4
  · exact k2

theorem sg164_0 {lvl : Nat} {C : bCall} {Q : bPost} {A : bPt → Prop} (hC : bMono C) (hA : bClosed lvl bm164 C Q A) {x1 : Int32} {x2 : Int32} {x3 : Int32} {σ : bSt} 
  (h : (C 136 [.int x1, .int (σ.1 9 0)] σ (bRvx (fun s1 => ((x2 = (-1) → ((x2 = (-1) → (C 138 [.int x3, .int 0, .int 0] s1 (bRvx (fun s5 => (C 120 [.ref 9, .int x1] s5 (bRa (fun r9 s7 => (r9 % 256 = 8 ∧ (C 114 [.ref r9, .int x2, .int x3] s7 (bRv (fun s10 => Q (.inl none) s10)))))))) (fun E s5 => Q (.inr E) s5)))) ∧ (¬ x2 = (-1) → (C 138 [.int x3, .int 0, .int 3] s1 (bRvx (fun s12 => (C 120 [.ref 9, .int x1] s12 (bRa (fun r16 s14 => (r16 % 256 = 8 ∧ (C 114 [.ref r16, .int x2, .int x3] s14 (bRv (fun s17 => Q (.inl none) s17)))))))) (fun E s12 => Q (.inr E) s12)))))) ∧ (¬ x2 = (-1) → (C 136 [.int x2, .int 4] s1 (bRvx (fun s19 => ((x2 = (-1) → (C 138 [.int x3, .int 0, .int 0] s19 (bRvx (fun s22 => (C 120 [.ref 9, .int x1] s22 (bRa (fun r26 s24 => (r26 % 256 = 8 ∧ (C 114 [.ref r26, .int x2, .int x3] s24 (bRv (fun s27 => Q (.inl none) s27)))))))) (fun E s22 => Q (.inr E) s22)))) ∧ (¬ x2 = (-1) → (C 138 [.int x3, .int 0, .int 3] s19 (bRvx (fun s29 => (C 120 [.ref 9, .int x1] s29 (bRa (fun r33 s31 => (r33 % 256 = 8 ∧ (C 114 [.ref r33, .int x2, .int x3] s31 (bRv (fun s34 => Q (.inl none) s34)))))))) (fun E s29 => Q (.inr E) s29)))))) (fun E s19 => Q (.inr E) s19)))))) (fun E s1 => Q (.inr E) s1)))) : A (0, [.ref 11, .int x1, .int x2, .int x3], [], σ) := by
  refine bGo hA 0 0 (0, .iload_n 1, 1, 1, 0, [1], []) rfl rfl rfl ?_
  refine bGo hA 0 1 (1, .aload_n 0, 1, 2, 0, [0], []) rfl rfl rfl ?_
  refine bGo hA 0 2 (2, .getfield 33, 3, 3, 0, [11, 3, 3, 9, 0, 0], []) rfl rfl rfl ?_
  refine ⟨rfl, ?_⟩
  refine bGo hA 0 3 (5, .getfield 144, 3, 4, 0, [9, 0, 0, 0, 0, 0], []) rfl rfl rfl ?_
  refine ⟨rfl, ?_⟩
  refine bGo hA 0 4 (8, .invokestatic 76, 3, 5, 0, [2, 136, 2], []) rfl rfl rfl ?_
  refine hC _ _ _ _ _ (bRvx_e (fun s1 k2 => ?_) (fun E s1 k2 => ?_)) h
  · show A (5, [.ref 11, .int x1, .int x2, .int x3], [], s1)
    refine bGo hA 0 5 (11, .iload_n 2, 1, 6, 0, [2], []) rfl rfl rfl ?_
    refine bGo hA 0 6 (12, .iconst (-1), 1, 7, 0, [], [(-1, 0)]) rfl rfl rfl ?_
    refine bGo hA 0 7 (13, .if_icmp .eq (8), 3, 8, 11, [], []) rfl rfl rfl ?_
    refine ⟨fun c3 => ?_, fun c3 => ?_⟩
    · refine bGo hA 0 11 (21, .iload_n 3, 1, 12, 0, [3], []) rfl rfl rfl ?_
      refine bGo hA 0 12 (22, .iconst (0), 1, 13, 0, [], [(0, 0)]) rfl rfl rfl ?_
      refine bGo hA 0 13 (23, .iload_n 2, 1, 14, 0, [2], []) rfl rfl rfl ?_
      refine bGo hA 0 14 (24, .iconst (-1), 1, 15, 0, [], [(-1, 0)]) rfl rfl rfl ?_
      refine bGo hA 0 15 (25, .if_icmp .ne (7), 3, 16, 18, [], []) rfl rfl rfl ?_
      refine ⟨fun c4 => ?_, fun c4 => ?_⟩
      · refine bGo hA 1 0 (28, .iconst (0), 1, 17, 0, [], [(0, 0)]) rfl rfl rfl ?_
        refine bGo hA 1 1 (29, .goto (4), 3, 18, 19, [], []) rfl rfl rfl ?_
        refine bGo hA 1 3 (33, .invokestatic 80, 3, 20, 0, [2, 138, 3], []) rfl rfl rfl ?_
        refine hC _ _ _ _ _ (bRvx_e (fun s5 k6 => ?_) (fun E s5 k6 => ?_)) ((k2.1 c3).1 c4)
        · show A (20, [.ref 11, .int x1, .int x2, .int x3], [], s5)
          refine bGo hA 1 4 (36, .aload_n 0, 1, 21, 0, [0], []) rfl rfl rfl ?_
          refine bGo hA 1 5 (37, .getfield 33, 3, 22, 0, [11, 3, 3, 9, 0, 0], []) rfl rfl rfl ?_
          refine ⟨rfl, ?_⟩
          refine bGo hA 1 6 (40, .iload_n 1, 1, 23, 0, [1], []) rfl rfl rfl ?_
          refine bGo hA 1 7 (41, .invokevirtual 147, 3, 24, 0, [0, 9, 120, 1], []) rfl rfl rfl ?_
          refine ⟨rfl, ?_⟩
          refine hC _ _ _ _ _ (bRa_e (fun r9 s7 k8 => ?_)) k6
          show A (24, [.ref 11, .int x1, .int x2, .int x3], [.ref r9], s7)
          refine bGo hA 1 8 (44, .iload_n 2, 1, 25, 0, [2], []) rfl rfl rfl ?_
          refine bGo hA 1 9 (45, .iload_n 3, 1, 26, 0, [3], []) rfl rfl rfl ?_
          refine bGo hA 1 10 (46, .invokevirtual 175, 3, 27, 0, [0, 8, 114, 2], []) rfl rfl rfl ?_
          refine ⟨k8.1, ?_⟩
          refine hC _ _ _ _ _ (bRv_e (fun s10 k11 => ?_)) k8.2
          show A (27, [.ref 11, .int x1, .int x2, .int x3], [], s10)
          refine bGo hA 1 11 (49, .return_, 1, 0, 0, [0], []) rfl rfl rfl ?_
          exact k11
        · exact k6
      · refine bGo hA 1 2 (32, .iconst (3), 1, 19, 0, [], [(3, 0)]) rfl rfl rfl ?_
        refine bGo hA 1 3 (33, .invokestatic 80, 3, 20, 0, [2, 138, 3], []) rfl rfl rfl ?_
        refine hC _ _ _ _ _ (bRvx_e (fun s12 k13 => ?_) (fun E s12 k13 => ?_)) ((k2.1 c3).2 c4)
        · show A (20, [.ref 11, .int x1, .int x2, .int x3], [], s12)
          refine bGo hA 1 4 (36, .aload_n 0, 1, 21, 0, [0], []) rfl rfl rfl ?_
          refine bGo hA 1 5 (37, .getfield 33, 3, 22, 0, [11, 3, 3, 9, 0, 0], []) rfl rfl rfl ?_
          refine ⟨rfl, ?_⟩
          refine bGo hA 1 6 (40, .iload_n 1, 1, 23, 0, [1], []) rfl rfl rfl ?_
          refine bGo hA 1 7 (41, .invokevirtual 147, 3, 24, 0, [0, 9, 120, 1], []) rfl rfl rfl ?_
          refine ⟨rfl, ?_⟩
          refine hC _ _ _ _ _ (bRa_e (fun r16 s14 k15 => ?_)) k13
          show A (24, [.ref 11, .int x1, .int x2, .int x3], [.ref r16], s14)
          refine bGo hA 1 8 (44, .iload_n 2, 1, 25, 0, [2], []) rfl rfl rfl ?_
          refine bGo hA 1 9 (45, .iload_n 3, 1, 26, 0, [3], []) rfl rfl rfl ?_
          refine bGo hA 1 10 (46, .invokevirtual 175, 3, 27, 0, [0, 8, 114, 2], []) rfl rfl rfl ?_
          refine ⟨k15.1, ?_⟩
          refine hC _ _ _ _ _ (bRv_e (fun s17 k18 => ?_)) k15.2
          show A (27, [.ref 11, .int x1, .int x2, .int x3], [], s17)
          refine bGo hA 1 11 (49, .return_, 1, 0, 0, [0], []) rfl rfl rfl ?_
          exact k18
        · exact k13
    · refine bGo hA 0 8 (16, .iload_n 2, 1, 9, 0, [2], []) rfl rfl rfl ?_
      refine bGo hA 0 9 (17, .iconst (4), 1, 10, 0, [], [(4, 0)]) rfl rfl rfl ?_
      refine bGo hA 0 10 (18, .invokestatic 76, 3, 11, 0, [2, 136, 2], []) rfl rfl rfl ?_
      refine hC _ _ _ _ _ (bRvx_e (fun s19 k20 => ?_) (fun E s19 k20 => ?_)) (k2.2 c3)
      · show A (11, [.ref 11, .int x1, .int x2, .int x3], [], s19)
        refine bGo hA 0 11 (21, .iload_n 3, 1, 12, 0, [3], []) rfl rfl rfl ?_
        refine bGo hA 0 12 (22, .iconst (0), 1, 13, 0, [], [(0, 0)]) rfl rfl rfl ?_
        refine bGo hA 0 13 (23, .iload_n 2, 1, 14, 0, [2], []) rfl rfl rfl ?_
        refine bGo hA 0 14 (24, .iconst (-1), 1, 15, 0, [], [(-1, 0)]) rfl rfl rfl ?_
        refine bGo hA 0 15 (25, .if_icmp .ne (7), 3, 16, 18, [], []) rfl rfl rfl ?_
        refine ⟨fun c21 => ?_, fun c21 => ?_⟩
        · refine bGo hA 1 0 (28, .iconst (0), 1, 17, 0, [], [(0, 0)]) rfl rfl rfl ?_
          refine bGo hA 1 1 (29, .goto (4), 3, 18, 19, [], []) rfl rfl rfl ?_
          refine bGo hA 1 3 (33, .invokestatic 80, 3, 20, 0, [2, 138, 3], []) rfl rfl rfl ?_
          refine hC _ _ _ _ _ (bRvx_e (fun s22 k23 => ?_) (fun E s22 k23 => ?_)) (k20.1 c21)
          · show A (20, [.ref 11, .int x1, .int x2, .int x3], [], s22)
            refine bGo hA 1 4 (36, .aload_n 0, 1, 21, 0, [0], []) rfl rfl rfl ?_
            refine bGo hA 1 5 (37, .getfield 33, 3, 22, 0, [11, 3, 3, 9, 0, 0], []) rfl rfl rfl ?_
            refine ⟨rfl, ?_⟩
            refine bGo hA 1 6 (40, .iload_n 1, 1, 23, 0, [1], []) rfl rfl rfl ?_
            refine bGo hA 1 7 (41, .invokevirtual 147, 3, 24, 0, [0, 9, 120, 1], []) rfl rfl rfl ?_
            refine ⟨rfl, ?_⟩
            refine hC _ _ _ _ _ (bRa_e (fun r26 s24 k25 => ?_)) k23
            show A (24, [.ref 11, .int x1, .int x2, .int x3], [.ref r26], s24)
            refine bGo hA 1 8 (44, .iload_n 2, 1, 25, 0, [2], []) rfl rfl rfl ?_
            refine bGo hA 1 9 (45, .iload_n 3, 1, 26, 0, [3], []) rfl rfl rfl ?_
            refine bGo hA 1 10 (46, .invokevirtual 175, 3, 27, 0, [0, 8, 114, 2], []) rfl rfl rfl ?_
            refine ⟨k25.1, ?_⟩
            refine hC _ _ _ _ _ (bRv_e (fun s27 k28 => ?_)) k25.2
            show A (27, [.ref 11, .int x1, .int x2, .int x3], [], s27)
            refine bGo hA 1 11 (49, .return_, 1, 0, 0, [0], []) rfl rfl rfl ?_
            exact k28
          · exact k23
        · refine bGo hA 1 2 (32, .iconst (3), 1, 19, 0, [], [(3, 0)]) rfl rfl rfl ?_
          refine bGo hA 1 3 (33, .invokestatic 80, 3, 20, 0, [2, 138, 3], []) rfl rfl rfl ?_
          refine hC _ _ _ _ _ (bRvx_e (fun s29 k30 => ?_) (fun E s29 k30 => ?_)) (k20.2 c21)
          · show A (20, [.ref 11, .int x1, .int x2, .int x3], [], s29)
            refine bGo hA 1 4 (36, .aload_n 0, 1, 21, 0, [0], []) rfl rfl rfl ?_
            refine bGo hA 1 5 (37, .getfield 33, 3, 22, 0, [11, 3, 3, 9, 0, 0], []) rfl rfl rfl ?_
            refine ⟨rfl, ?_⟩
            refine bGo hA 1 6 (40, .iload_n 1, 1, 23, 0, [1], []) rfl rfl rfl ?_
            refine bGo hA 1 7 (41, .invokevirtual 147, 3, 24, 0, [0, 9, 120, 1], []) rfl rfl rfl ?_
            refine ⟨rfl, ?_⟩
            refine hC _ _ _ _ _ (bRa_e (fun r33 s31 k32 => ?_)) k30
            show A (24, [.ref 11, .int x1, .int x2, .int x3], [.ref r33], s31)
            refine bGo hA 1 8 (44, .iload_n 2, 1, 25, 0, [2], []) rfl rfl rfl ?_
            refine bGo hA 1 9 (45, .iload_n 3, 1, 26, 0, [3], []) rfl rfl rfl ?_
            refine bGo hA 1 10 (46, .invokevirtual 175, 3, 27, 0, [0, 8, 114, 2], []) rfl rfl rfl ?_
            refine ⟨k32.1, ?_⟩
            refine hC _ _ _ _ _ (bRv_e (fun s34 k35 => ?_)) k32.2
            show A (27, [.ref 11, .int x1, .int x2, .int x3], [], s34)
            refine bGo hA 1 11 (49, .return_, 1, 0, 0, [0], []) rfl rfl rfl ?_
            exact k35
          · exact k30
      · exact k20
  · exact k2

theorem sg165_0 {lvl : Nat} {C : bCall} {Q : bPost} {A : bPt → Prop} (hC : bMono C) (hA : bClosed lvl bm165 C Q A) {x1 : Int32} {x2 : Int32} {x3 : Int32} {x4 : Int32} {σ : bSt} 
  (h : (C 136 [.int x1, .int (σ.1 9 0)] σ (bRvx (fun s1 => (C 136 [.int x2, .int 3] s1 (bRvx (fun s3 => (C 138 [.int x3, .int 1, .int 20] s3 (bRvx (fun s5 => (C 120 [.ref 9, .int x1] s5 (bRa (fun r9 s7 => (r9 % 256 = 8 ∧ (C 115 [.ref r9, .int x2, .int x3, .int x4] s7 (bRv (fun s10 => Q (.inl none) s10)))))))) (fun E s5 => Q (.inr E) s5)))) (fun E s3 => Q (.inr E) s3)))) (fun E s1 => Q (.inr E) s1)))) : A (0, [.ref 11, .int x1, .int x2, .int x3, .int x4], [], σ) := by
  refine bGo hA 0 0 (0, .iload_n 1, 1, 1, 0, [1], []) rfl rfl rfl ?_
  refine bGo hA 0 1 (1, .aload_n 0, 1, 2, 0, [0], []) rfl rfl rfl ?_
  refine bGo hA 0 2 (2, .getfield 33, 3, 3, 0, [11, 3, 3, 9, 0, 0], []) rfl rfl rfl ?_
  refine ⟨rfl, ?_⟩
  refine bGo hA 0 3 (5, .getfield 144, 3, 4, 0, [9, 0, 0, 0, 0, 0], []) rfl rfl rfl ?_
  refine ⟨rfl, ?_⟩
  refine bGo hA 0 4 (8, .invokestatic 76, 3, 5, 0, [2, 136, 2], []) rfl rfl rfl ?_
  refine hC _ _ _ _ _ (bRvx_e (fun s1 k2 => ?_) (fun E s1 k2 => ?_)) h
  · show A (5, [.ref 11, .int x1, .int x2, .int x3, .int x4], [], s1)
    refine bGo hA 0 5 (11, .iload_n 2, 1, 6, 0, [2], []) rfl rfl rfl ?_
    refine bGo hA 0 6 (12, .iconst (3), 1, 7, 0, [], [(3, 0)]) rfl rfl rfl ?_
    refine bGo hA 0 7 (13, .invokestatic 76, 3, 8, 0, [2, 136, 2], []) rfl rfl rfl ?_
    refine hC _ _ _ _ _ (bRvx_e (fun s3 k4 => ?_) (fun E s3 k4 => ?_)) k2
    · show A (8, [.ref 11, .int x1, .int x2, .int x3, .int x4], [], s3)
      refine bGo hA 0 8 (16, .iload_n 3, 1, 9, 0, [3], []) rfl rfl rfl ?_
      refine bGo hA 0 9 (17, .iconst (1), 1, 10, 0, [], [(1, 0)]) rfl rfl rfl ?_
      refine bGo hA 0 10 (18, .bipush (20), 2, 11, 0, [], [(20, 0)]) rfl rfl rfl ?_
      refine bGo hA 0 11 (20, .invokestatic 80, 3, 12, 0, [2, 138, 3], []) rfl rfl rfl ?_
      refine hC _ _ _ _ _ (bRvx_e (fun s5 k6 => ?_) (fun E s5 k6 => ?_)) k4
      · show A (12, [.ref 11, .int x1, .int x2, .int x3, .int x4], [], s5)
        refine bGo hA 0 12 (23, .aload_n 0, 1, 13, 0, [0], []) rfl rfl rfl ?_
        refine bGo hA 0 13 (24, .getfield 33, 3, 14, 0, [11, 3, 3, 9, 0, 0], []) rfl rfl rfl ?_
        refine ⟨rfl, ?_⟩
        refine bGo hA 0 14 (27, .iload_n 1, 1, 15, 0, [1], []) rfl rfl rfl ?_
        refine bGo hA 0 15 (28, .invokevirtual 147, 3, 16, 0, [0, 9, 120, 1], []) rfl rfl rfl ?_
        refine ⟨rfl, ?_⟩
        refine hC _ _ _ _ _ (bRa_e (fun r9 s7 k8 => ?_)) k6
        show A (16, [.ref 11, .int x1, .int x2, .int x3, .int x4], [.ref r9], s7)
        refine bGo hA 1 0 (31, .iload_n 2, 1, 17, 0, [2], []) rfl rfl rfl ?_
        refine bGo hA 1 1 (32, .iload_n 3, 1, 18, 0, [3], []) rfl rfl rfl ?_
        refine bGo hA 1 2 (33, .iload 4, 2, 19, 0, [4], []) rfl rfl rfl ?_
        refine bGo hA 1 3 (35, .invokevirtual 178, 3, 20, 0, [0, 8, 115, 3], []) rfl rfl rfl ?_
        refine ⟨k8.1, ?_⟩
        refine hC _ _ _ _ _ (bRv_e (fun s10 k11 => ?_)) k8.2
        show A (20, [.ref 11, .int x1, .int x2, .int x3, .int x4], [], s10)
        refine bGo hA 1 4 (38, .return_, 1, 0, 0, [0], []) rfl rfl rfl ?_
        exact k11
      · exact k6
    · exact k4
  · exact k2

theorem sg166_0 {lvl : Nat} {C : bCall} {Q : bPost} {A : bPt → Prop} (hC : bMono C) (hA : bClosed lvl bm166 C Q A) {x1 : Int32} {x2 : Int32} {x3 : Int32} {σ : bSt} 
  (h : (C 136 [.int x1, .int (σ.1 9 0)] σ (bRvx (fun s1 => (C 138 [.int x2, .int 0, .int 4] s1 (bRvx (fun s3 => (C 138 [.int x3, .int 0, .int 9] s3 (bRvx (fun s5 => (C 120 [.ref 9, .int x1] s5 (bRa (fun r9 s7 => (r9 % 256 = 8 ∧ (C 120 [.ref 9, .int x1] (bI s7 r9 11 x2) (bRa (fun r12 s10 => (r12 % 256 = 8 ∧ Q (.inl none) (bI s10 r12 12 x3)))))))))) (fun E s5 => Q (.inr E) s5)))) (fun E s3 => Q (.inr E) s3)))) (fun E s1 => Q (.inr E) s1)))) : A (0, [.ref 11, .int x1, .int x2, .int x3], [], σ) := by
  refine bGo hA 0 0 (0, .iload_n 1, 1, 1, 0, [1], []) rfl rfl rfl ?_
  refine bGo hA 0 1 (1, .aload_n 0, 1, 2, 0, [0], []) rfl rfl rfl ?_
  refine bGo hA 0 2 (2, .getfield 33, 3, 3, 0, [11, 3, 3, 9, 0, 0], []) rfl rfl rfl ?_
  refine ⟨rfl, ?_⟩
  refine bGo hA 0 3 (5, .getfield 144, 3, 4, 0, [9, 0, 0, 0, 0, 0], []) rfl rfl rfl ?_
  refine ⟨rfl, ?_⟩
  refine bGo hA 0 4 (8, .invokestatic 76, 3, 5, 0, [2, 136, 2], []) rfl rfl rfl ?_
  refine hC _ _ _ _ _ (bRvx_e (fun s1 k2 => ?_) (fun E s1 k2 => ?_)) h
  · show A (5, [.ref 11, .int x1, .int x2, .int x3], [], s1)
    refine bGo hA 0 5 (11, .iload_n 2, 1, 6, 0, [2], []) rfl rfl rfl ?_
    refine bGo hA 0 6 (12, .iconst (0), 1, 7, 0, [], [(0, 0)]) rfl rfl rfl ?_
    refine bGo hA 0 7 (13, .iconst (4), 1, 8, 0, [], [(4, 0)]) rfl rfl rfl ?_
    refine bGo hA 0 8 (14, .invokestatic 80, 3, 9, 0, [2, 138, 3], []) rfl rfl rfl ?_
    refine hC _ _ _ _ _ (bRvx_e (fun s3 k4 => ?_) (fun E s3 k4 => ?_)) k2
    · show A (9, [.ref 11, .int x1, .int x2, .int x3], [], s3)
      refine bGo hA 0 9 (17, .iload_n 3, 1, 10, 0, [3], []) rfl rfl rfl ?_
      refine bGo hA 0 10 (18, .iconst (0), 1, 11, 0, [], [(0, 0)]) rfl rfl rfl ?_
      refine bGo hA 0 11 (19, .bipush (9), 2, 12, 0, [], [(9, 0)]) rfl rfl rfl ?_
      refine bGo hA 0 12 (21, .invokestatic 80, 3, 13, 0, [2, 138, 3], []) rfl rfl rfl ?_
      refine hC _ _ _ _ _ (bRvx_e (fun s5 k6 => ?_) (fun E s5 k6 => ?_)) k4
      · show A (13, [.ref 11, .int x1, .int x2, .int x3], [], s5)
        refine bGo hA 0 13 (24, .aload_n 0, 1, 14, 0, [0], []) rfl rfl rfl ?_
        refine bGo hA 0 14 (25, .getfield 33, 3, 15, 0, [11, 3, 3, 9, 0, 0], []) rfl rfl rfl ?_
        refine ⟨rfl, ?_⟩
        refine bGo hA 0 15 (28, .iload_n 1, 1, 16, 0, [1], []) rfl rfl rfl ?_
        refine bGo hA 1 0 (29, .invokevirtual 147, 3, 17, 0, [0, 9, 120, 1], []) rfl rfl rfl ?_
        refine ⟨rfl, ?_⟩
        refine hC _ _ _ _ _ (bRa_e (fun r9 s7 k8 => ?_)) k6
        show A (17, [.ref 11, .int x1, .int x2, .int x3], [.ref r9], s7)
        refine bGo hA 1 1 (32, .iload_n 2, 1, 18, 0, [2], []) rfl rfl rfl ?_
        refine bGo hA 1 2 (33, .putfield 182, 3, 19, 0, [8, 11, 0, 0, 0, 0], []) rfl rfl rfl ?_
        refine ⟨k8.1, ?_⟩
        refine bGo hA 1 3 (36, .aload_n 0, 1, 20, 0, [0], []) rfl rfl rfl ?_
        refine bGo hA 1 4 (37, .getfield 33, 3, 21, 0, [11, 3, 3, 9, 0, 0], []) rfl rfl rfl ?_
        refine ⟨rfl, ?_⟩
        refine bGo hA 1 5 (40, .iload_n 1, 1, 22, 0, [1], []) rfl rfl rfl ?_
        refine bGo hA 1 6 (41, .invokevirtual 147, 3, 23, 0, [0, 9, 120, 1], []) rfl rfl rfl ?_
        refine ⟨rfl, ?_⟩
        refine hC _ _ _ _ _ (bRa_e (fun r12 s10 k11 => ?_)) k8.2
        show A (23, [.ref 11, .int x1, .int x2, .int x3], [.ref r12], s10)
        refine bGo hA 1 7 (44, .iload_n 3, 1, 24, 0, [3], []) rfl rfl rfl ?_
        refine bGo hA 1 8 (45, .putfield 185, 3, 25, 0, [8, 12, 0, 0, 0, 0], []) rfl rfl rfl ?_
        refine ⟨k11.1, ?_⟩
        refine bGo hA 1 9 (48, .return_, 1, 0, 0, [0], []) rfl rfl rfl ?_
        exact k11.2
      · exact k6
    · exact k4
  · exact k2

theorem sg167_0 {lvl : Nat} {C : bCall} {Q : bPost} {A : bPt → Prop} (hC : bMono C) (hA : bClosed lvl bm167 C Q A) {x1 : Int32} {x2 : Int32} {σ : bSt} 
  (h : (C 136 [.int x1, .int (σ.1 9 0)] σ (bRvx (fun s1 => (C 137 [.int x2] s1 (bRvx (fun s3 => (C 68 [.ref 6] s3 (bRv (fun s5 => (C 78 [.ref 6, .int x1, .int x2] s5 (bRi (fun r9 s7 => Q (.inl (some (.int r9))) s7))))))) (fun E s3 => Q (.inr E) s3)))) (fun E s1 => Q (.inr E) s1)))) : A (0, [.ref 11, .int x1, .int x2], [], σ) := by
  refine bGo hA 0 0 (0, .iload_n 1, 1, 1, 0, [1], []) rfl rfl rfl ?_
  refine bGo hA 0 1 (1, .aload_n 0, 1, 2, 0, [0], []) rfl rfl rfl ?_
  refine bGo hA 0 2 (2, .getfield 33, 3, 3, 0, [11, 3, 3, 9, 0, 0], []) rfl rfl rfl ?_
  refine ⟨rfl, ?_⟩
  refine bGo hA 0 3 (5, .getfield 144, 3, 4, 0, [9, 0, 0, 0, 0, 0], []) rfl rfl rfl ?_
  refine ⟨rfl, ?_⟩
  refine bGo hA 0 4 (8, .invokestatic 76, 3, 5, 0, [2, 136, 2], []) rfl rfl rfl ?_
  refine hC _ _ _ _ _ (bRvx_e (fun s1 k2 => ?_) (fun E s1 k2 => ?_)) h
  · show A (5, [.ref 11, .int x1, .int x2], [], s1)
    refine bGo hA 0 5 (11, .iload_n 2, 1, 6, 0, [2], []) rfl rfl rfl ?_
    refine bGo hA 0 6 (12, .invokestatic 121, 3, 7, 0, [2, 137, 1], []) rfl rfl rfl ?_
    refine hC _ _ _ _ _ (bRvx_e (fun s3 k4 => ?_) (fun E s3 k4 => ?_)) k2
    · show A (7, [.ref 11, .int x1, .int x2], [], s3)
      refine bGo hA 0 7 (15, .aload_n 0, 1, 8, 0, [0], []) rfl rfl rfl ?_
      refine bGo hA 0 8 (16, .getfield 42, 3, 9, 0, [11, 4, 3, 6, 0, 0], []) rfl rfl rfl ?_
      refine ⟨rfl, ?_⟩
      refine bGo hA 0 9 (19, .invokevirtual 188, 3, 10, 0, [0, 6, 68, 0], []) rfl rfl rfl ?_
      refine ⟨rfl, ?_⟩
      refine hC _ _ _ _ _ (bRv_e (fun s5 k6 => ?_)) k4
      show A (10, [.ref 11, .int x1, .int x2], [], s5)
      refine bGo hA 0 10 (22, .aload_n 0, 1, 11, 0, [0], []) rfl rfl rfl ?_
      refine bGo hA 0 11 (23, .getfield 42, 3, 12, 0, [11, 4, 3, 6, 0, 0], []) rfl rfl rfl ?_
      refine ⟨rfl, ?_⟩
      refine bGo hA 0 12 (26, .iload_n 1, 1, 13, 0, [1], []) rfl rfl rfl ?_
      refine bGo hA 0 13 (27, .iload_n 2, 1, 14, 0, [2], []) rfl rfl rfl ?_
      refine bGo hA 0 14 (28, .invokevirtual 191, 3, 15, 0, [0, 6, 78, 2], []) rfl rfl rfl ?_
      refine ⟨rfl, ?_⟩
      refine hC _ _ _ _ _ (bRi_e (fun r9 s7 k8 => ?_)) k6
      show A (15, [.ref 11, .int x1, .int x2], [.int r9], s7)
      refine bGo hA 0 15 (31, .ireturn, 1, 0, 0, [1], []) rfl rfl rfl ?_
      exact k8
    · exact k4
  · exact k2

theorem sg168_0 {lvl : Nat} {C : bCall} {Q : bPost} {A : bPt → Prop} (hC : bMono C) (hA : bClosed lvl bm168 C Q A) {x1 : Int32} {x2 : Int32} {σ : bSt} 
  (h : (C 136 [.int x1, .int 3] σ (bRvx (fun s1 => (C 138 [.int x2, .int 1, .int 4] s1 (bRvx (fun s3 => (C 24 [.ref 2, .int x1, .int x2] s3 (bRi (fun r7 s5 => Q (.inl (some (.int r7))) s5)))) (fun E s3 => Q (.inr E) s3)))) (fun E s1 => Q (.inr E) s1)))) : A (0, [.ref 11, .int x1, .int x2], [], σ) := by
  refine bGo hA 0 0 (0, .iload_n 1, 1, 1, 0, [1], []) rfl rfl rfl ?_
  refine bGo hA 0 1 (1, .iconst (3), 1, 2, 0, [], [(3, 0)]) rfl rfl rfl ?_
  refine bGo hA 0 2 (2, .invokestatic 76, 3, 3, 0, [2, 136, 2], []) rfl rfl rfl ?_
  refine hC _ _ _ _ _ (bRvx_e (fun s1 k2 => ?_) (fun E s1 k2 => ?_)) h
  · show A (3, [.ref 11, .int x1, .int x2], [], s1)
    refine bGo hA 0 3 (5, .iload_n 2, 1, 4, 0, [2], []) rfl rfl rfl ?_
    refine bGo hA 0 4 (6, .iconst (1), 1, 5, 0, [], [(1, 0)]) rfl rfl rfl ?_
    refine bGo hA 0 5 (7, .iconst (4), 1, 6, 0, [], [(4, 0)]) rfl rfl rfl ?_
    refine bGo hA 0 6 (8, .invokestatic 80, 3, 7, 0, [2, 138, 3], []) rfl rfl rfl ?_
    refine hC _ _ _ _ _ (bRvx_e (fun s3 k4 => ?_) (fun E s3 k4 => ?_)) k2
    · show A (7, [.ref 11, .int x1, .int x2], [], s3)
      refine bGo hA 0 7 (11, .aload_n 0, 1, 8, 0, [0], []) rfl rfl rfl ?_
      refine bGo hA 0 8 (12, .getfield 51, 3, 9, 0, [11, 5, 3, 5, 0, 0], []) rfl rfl rfl ?_
      refine ⟨rfl, ?_⟩
      refine bGo hA 0 9 (15, .getfield 194, 3, 10, 0, [5, 4, 3, 2, 0, 0], []) rfl rfl rfl ?_
      refine ⟨rfl, ?_⟩
      refine bGo hA 0 10 (18, .iload_n 1, 1, 11, 0, [1], []) rfl rfl rfl ?_
      refine bGo hA 0 11 (19, .iload_n 2, 1, 12, 0, [2], []) rfl rfl rfl ?_
      refine bGo hA 0 12 (20, .invokevirtual 198, 3, 13, 0, [0, 2, 24, 2], []) rfl rfl rfl ?_
      refine ⟨rfl, ?_⟩
      refine hC _ _ _ _ _ (bRi_e (fun r7 s5 k6 => ?_)) k4
      show A (13, [.ref 11, .int x1, .int x2], [.int r7], s5)
      refine bGo hA 0 13 (23, .ireturn, 1, 0, 0, [1], []) rfl rfl rfl ?_
      exact k6
    · exact k4
  · exact k2

theorem sg169_0 {lvl : Nat} {C : bCall} {Q : bPost} {A : bPt → Prop} (hC : bMono C) (hA : bClosed lvl bm169 C Q A) {x1 : Int32} {σ : bSt} 
  (h : ((x1 = 0 ∨ x1 = 1) ∧ (((σ.1 3 3) = 0 ∨ (σ.1 3 3) = 1) ∧ Q (.inl (some (.int (σ.1 3 3)))) (bI σ 3 3 x1)))) : A (0, [.ref 11, .int x1, .float 0], [], σ) := by
  refine bGo hA 0 0 (0, .aload_n 0, 1, 1, 0, [0], []) rfl rfl rfl ?_
  refine bGo hA 0 1 (1, .getfield 12, 3, 2, 0, [11, 0, 3, 3, 0, 0], []) rfl rfl rfl ?_
  refine ⟨rfl, ?_⟩
  refine bGo hA 0 2 (4, .getfield 203, 3, 3, 0, [3, 3, 1, 0, 0, 0], []) rfl rfl rfl ?_
  refine ⟨rfl, ?_⟩
  refine bGo hA 0 3 (7, .istore_n 2, 1, 4, 0, [2], []) rfl rfl rfl ?_
  refine bGo hA 0 4 (8, .aload_n 0, 1, 5, 0, [0], []) rfl rfl rfl ?_
  refine bGo hA 0 5 (9, .getfield 12, 3, 6, 0, [11, 0, 3, 3, 0, 0], []) rfl rfl rfl ?_
  refine ⟨rfl, ?_⟩
  refine bGo hA 0 6 (12, .iload_n 1, 1, 7, 0, [1], []) rfl rfl rfl ?_
  refine bGo hA 0 7 (13, .putfield 203, 3, 8, 0, [3, 3, 1, 0, 0, 0], []) rfl rfl rfl ?_
  refine ⟨rfl, h.1, ?_⟩
  refine bGo hA 0 8 (16, .iload_n 2, 1, 9, 0, [2], []) rfl rfl rfl ?_
  refine bGo hA 0 9 (17, .ireturn, 1, 0, 0, [2], []) rfl rfl rfl ?_
  exact h.2

theorem sg170_0 {lvl : Nat} {C : bCall} {Q : bPost} {A : bPt → Prop} (hC : bMono C) (hA : bClosed lvl bm170 C Q A) {x1 : Int32} {x2 : Int32} {σ : bSt} 
  (h : (C 138 [.int x2, .int 1, .int 9] σ (bRvx (fun s1 => ((x1 = 0 ∨ x1 = 1) ∧ (((s1.1 5 5) = 0 ∨ (s1.1 5 5) = 1) ∧ Q (.inl (some (.int (s1.1 5 5)))) (bI (bI s1 5 5 x1) 5 6 x2)))) (fun E s1 => Q (.inr E) s1)))) : A (0, [.ref 11, .int x1, .int x2, .float 0], [], σ) := by
  refine bGo hA 0 0 (0, .iload_n 2, 1, 1, 0, [2], []) rfl rfl rfl ?_
  refine bGo hA 0 1 (1, .iconst (1), 1, 2, 0, [], [(1, 0)]) rfl rfl rfl ?_
  refine bGo hA 0 2 (2, .bipush (9), 2, 3, 0, [], [(9, 0)]) rfl rfl rfl ?_
  refine bGo hA 0 3 (4, .invokestatic 80, 3, 4, 0, [2, 138, 3], []) rfl rfl rfl ?_
  refine hC _ _ _ _ _ (bRvx_e (fun s1 k2 => ?_) (fun E s1 k2 => ?_)) h
  · show A (4, [.ref 11, .int x1, .int x2, .float 0], [], s1)
    refine bGo hA 0 4 (7, .aload_n 0, 1, 5, 0, [0], []) rfl rfl rfl ?_
    refine bGo hA 0 5 (8, .getfield 51, 3, 6, 0, [11, 5, 3, 5, 0, 0], []) rfl rfl rfl ?_
    refine ⟨rfl, ?_⟩
    refine bGo hA 0 6 (11, .getfield 207, 3, 7, 0, [5, 5, 1, 0, 0, 0], []) rfl rfl rfl ?_
    refine ⟨rfl, ?_⟩
    refine bGo hA 0 7 (14, .istore_n 3, 1, 8, 0, [3], []) rfl rfl rfl ?_
    refine bGo hA 0 8 (15, .aload_n 0, 1, 9, 0, [0], []) rfl rfl rfl ?_
    refine bGo hA 0 9 (16, .getfield 51, 3, 10, 0, [11, 5, 3, 5, 0, 0], []) rfl rfl rfl ?_
    refine ⟨rfl, ?_⟩
    refine bGo hA 0 10 (19, .iload_n 1, 1, 11, 0, [1], []) rfl rfl rfl ?_
    refine bGo hA 0 11 (20, .putfield 207, 3, 12, 0, [5, 5, 1, 0, 0, 0], []) rfl rfl rfl ?_
    refine ⟨rfl, k2.1, ?_⟩
    refine bGo hA 0 12 (23, .aload_n 0, 1, 13, 0, [0], []) rfl rfl rfl ?_
    refine bGo hA 0 13 (24, .getfield 51, 3, 14, 0, [11, 5, 3, 5, 0, 0], []) rfl rfl rfl ?_
    refine ⟨rfl, ?_⟩
    refine bGo hA 0 14 (27, .iload_n 2, 1, 15, 0, [2], []) rfl rfl rfl ?_
    refine bGo hA 0 15 (28, .putfield 210, 3, 16, 0, [5, 6, 0, 0, 0, 0], []) rfl rfl rfl ?_
    refine ⟨rfl, ?_⟩
    refine bGo hA 1 0 (31, .iload_n 3, 1, 17, 0, [3], []) rfl rfl rfl ?_
    refine bGo hA 1 1 (32, .ireturn, 1, 0, 0, [2], []) rfl rfl rfl ?_
    exact k2.2
  · exact k2

theorem sg171_0 {lvl : Nat} {C : bCall} {Q : bPost} {A : bPt → Prop} (hC : bMono C) (hA : bClosed lvl bm171 C Q A) {x1 : Int32} {σ : bSt} 
  (h : (C 138 [.int x1, .int 0, .int 999] σ (bRvx (fun s1 => (C 22 [.ref 257, .int x1] s1 (bRi (fun r5 s3 => ((r5 = 0 ∨ r5 = 1) ∧ Q (.inl (some (.int r5))) s3))))) (fun E s1 => Q (.inr E) s1)))) : A (0, [.ref 11, .int x1], [], σ) := by
  refine bGo hA 0 0 (0, .iload_n 1, 1, 1, 0, [1], []) rfl rfl rfl ?_
  refine bGo hA 0 1 (1, .iconst (0), 1, 2, 0, [], [(0, 0)]) rfl rfl rfl ?_
  refine bGo hA 0 2 (2, .sipush (999), 3, 3, 0, [], [(999, 0)]) rfl rfl rfl ?_
  refine bGo hA 0 3 (5, .invokestatic 80, 3, 4, 0, [2, 138, 3], []) rfl rfl rfl ?_
  refine hC _ _ _ _ _ (bRvx_e (fun s1 k2 => ?_) (fun E s1 k2 => ?_)) h
  · show A (4, [.ref 11, .int x1], [], s1)
    refine bGo hA 0 4 (8, .aload_n 0, 1, 5, 0, [0], []) rfl rfl rfl ?_
    refine bGo hA 0 5 (9, .getfield 51, 3, 6, 0, [11, 5, 3, 5, 0, 0], []) rfl rfl rfl ?_
    refine ⟨rfl, ?_⟩
    refine bGo hA 0 6 (12, .getfield 213, 3, 7, 0, [5, 3, 3, 1, 0, 1], []) rfl rfl rfl ?_
    refine ⟨rfl, ?_⟩
    refine bGo hA 0 7 (15, .iload_n 1, 1, 8, 0, [1], []) rfl rfl rfl ?_
    refine bGo hA 0 8 (16, .invokevirtual 217, 3, 9, 0, [0, 1, 22, 1], []) rfl rfl rfl ?_
    refine ⟨rfl, ?_⟩
    refine hC _ _ _ _ _ (bRi_e (fun r5 s3 k4 => ?_)) k2
    show A (9, [.ref 11, .int x1], [.int r5], s3)
    refine bGo hA 0 9 (19, .ireturn, 1, 0, 0, [2], []) rfl rfl rfl ?_
    exact k4
  · exact k2

theorem sg172_0 {lvl : Nat} {C : bCall} {Q : bPost} {A : bPt → Prop} (hC : bMono C) (hA : bClosed lvl bm172 C Q A) {x1 : Int32} {σ : bSt} 
  (h : ((x1 = 0 → (C 19 [.ref 1] σ (bRi (fun r4 s2 => Q (.inl (some (.int r4))) s2)))) ∧ (¬ x1 = 0 → (C 19 [.ref 257] σ (bRi (fun r7 s5 => Q (.inl (some (.int r7))) s5)))))) : A (0, [.ref 11, .int x1], [], σ) := by
  refine bGo hA 0 0 (0, .iload_n 1, 1, 1, 0, [1], []) rfl rfl rfl ?_
  refine bGo hA 0 1 (1, .ifCond .eq (16), 3, 2, 7, [], []) rfl rfl rfl ?_
  refine ⟨fun c1 => ?_, fun c1 => ?_⟩
  · refine bGo hA 0 7 (17, .aload_n 0, 1, 8, 0, [0], []) rfl rfl rfl ?_
    refine bGo hA 0 8 (18, .getfield 51, 3, 9, 0, [11, 5, 3, 5, 0, 0], []) rfl rfl rfl ?_
    refine ⟨rfl, ?_⟩
    refine bGo hA 0 9 (21, .getfield 225, 3, 10, 0, [5, 2, 3, 1, 0, 0], []) rfl rfl rfl ?_
    refine ⟨rfl, ?_⟩
    refine bGo hA 0 10 (24, .invokevirtual 222, 3, 11, 0, [0, 1, 19, 0], []) rfl rfl rfl ?_
    refine ⟨rfl, ?_⟩
    refine hC _ _ _ _ _ (bRi_e (fun r4 s2 k3 => ?_)) (h.1 c1)
    show A (11, [.ref 11, .int x1], [.int r4], s2)
    refine bGo hA 0 11 (27, .ireturn, 1, 0, 0, [1], []) rfl rfl rfl ?_
    exact k3
  · refine bGo hA 0 2 (4, .aload_n 0, 1, 3, 0, [0], []) rfl rfl rfl ?_
    refine bGo hA 0 3 (5, .getfield 51, 3, 4, 0, [11, 5, 3, 5, 0, 0], []) rfl rfl rfl ?_
    refine ⟨rfl, ?_⟩
    refine bGo hA 0 4 (8, .getfield 213, 3, 5, 0, [5, 3, 3, 1, 0, 1], []) rfl rfl rfl ?_
    refine ⟨rfl, ?_⟩
    refine bGo hA 0 5 (11, .invokevirtual 222, 3, 6, 0, [0, 1, 19, 0], []) rfl rfl rfl ?_
    refine ⟨rfl, ?_⟩
    refine hC _ _ _ _ _ (bRi_e (fun r7 s5 k6 => ?_)) (h.2 c1)
    show A (6, [.ref 11, .int x1], [.int r7], s5)
    refine bGo hA 0 6 (14, .goto (13), 3, 7, 11, [], []) rfl rfl rfl ?_
    refine bGo hA 0 11 (27, .ireturn, 1, 0, 0, [1], []) rfl rfl rfl ?_
    exact k6

theorem sg173_0 {lvl : Nat} {C : bCall} {Q : bPost} {A : bPt → Prop} (hC : bMono C) (hA : bClosed lvl bm173 C Q A) {x1 : Int32} {σ : bSt} 
  (h : ((x1 = 0 → Q (.inl (some (.int (σ.1 1 0)))) σ) ∧ (¬ x1 = 0 → Q (.inl (some (.int (σ.1 257 0)))) σ))) : A (0, [.ref 11, .int x1], [], σ) := by
  refine bGo hA 0 0 (0, .iload_n 1, 1, 1, 0, [1], []) rfl rfl rfl ?_
  refine bGo hA 0 1 (1, .ifCond .eq (16), 3, 2, 7, [], []) rfl rfl rfl ?_
  refine ⟨fun c1 => ?_, fun c1 => ?_⟩
  · refine bGo hA 0 7 (17, .aload_n 0, 1, 8, 0, [0], []) rfl rfl rfl ?_
    refine bGo hA 0 8 (18, .getfield 51, 3, 9, 0, [11, 5, 3, 5, 0, 0], []) rfl rfl rfl ?_
    refine ⟨rfl, ?_⟩
    refine bGo hA 0 9 (21, .getfield 225, 3, 10, 0, [5, 2, 3, 1, 0, 0], []) rfl rfl rfl ?_
    refine ⟨rfl, ?_⟩
    refine bGo hA 0 10 (24, .getfield 228, 3, 11, 0, [1, 0, 0, 0, 0, 0], []) rfl rfl rfl ?_
    refine ⟨rfl, ?_⟩
    refine bGo hA 0 11 (27, .ireturn, 1, 0, 0, [1], []) rfl rfl rfl ?_
    exact (h.1 c1)
  · refine bGo hA 0 2 (4, .aload_n 0, 1, 3, 0, [0], []) rfl rfl rfl ?_
    refine bGo hA 0 3 (5, .getfield 51, 3, 4, 0, [11, 5, 3, 5, 0, 0], []) rfl rfl rfl ?_
    refine ⟨rfl, ?_⟩
    refine bGo hA 0 4 (8, .getfield 213, 3, 5, 0, [5, 3, 3, 1, 0, 1], []) rfl rfl rfl ?_
    refine ⟨rfl, ?_⟩
    refine bGo hA 0 5 (11, .getfield 228, 3, 6, 0, [1, 0, 0, 0, 0, 0], []) rfl rfl rfl ?_
    refine ⟨rfl, ?_⟩
    refine bGo hA 0 6 (14, .goto (13), 3, 7, 11, [], []) rfl rfl rfl ?_
    refine bGo hA 0 11 (27, .ireturn, 1, 0, 0, [1], []) rfl rfl rfl ?_
    exact (h.2 c1)

theorem sg174_0 {lvl : Nat} {C : bCall} {Q : bPost} {A : bPt → Prop} (hC : bMono C) (hA : bClosed lvl bm174 C Q A) {x1 : Int32} {x2 : Int32} {x3 : Int32} {σ : bSt} 
  (h : (C 136 [.int (x1 - 1), .int ((1 <<< ((σ.1 9 0) &&& 31)) - 1)] σ (bRvx (fun s1 => (C 138 [.int x3, .int 0, .int 999] s1 (bRvx (fun s3 => (C 68 [.ref 6] s3 (bRv (fun s5 => (C 46 [.ref 5, .int x1, .int x2, .int x3] s5 (bRi (fun r9 s7 => ((r9 = (-2) → (C 139 [.int 0] s7 (bRvx (fun s11 => Q (.inl (some (.int r9))) s11) (fun E s11 => Q (.inr E) s11)))) ∧ (¬ r9 = (-2) → (C 139 [.int 1] s7 (bRvx (fun s13 => Q (.inl (some (.int r9))) s13) (fun E s13 => Q (.inr E) s13)))))))))))) (fun E s3 => Q (.inr E) s3)))) (fun E s1 => Q (.inr E) s1)))) : A (0, [.ref 11, .int x1, .int x2, .int x3, .float 0], [], σ) := by
  refine bGo hA 0 0 (0, .iload_n 1, 1, 1, 0, [1], []) rfl rfl rfl ?_
  refine bGo hA 0 1 (1, .iconst (1), 1, 2, 0, [], [(1, 0)]) rfl rfl rfl ?_
  refine bGo hA 0 2 (2, .isub, 1, 3, 0, [], []) rfl rfl rfl ?_
  refine bGo hA 0 3 (3, .iconst (1), 1, 4, 0, [], [(1, 0)]) rfl rfl rfl ?_
  refine bGo hA 0 4 (4, .aload_n 0, 1, 5, 0, [0], []) rfl rfl rfl ?_
  refine bGo hA 0 5 (5, .getfield 33, 3, 6, 0, [11, 3, 3, 9, 0, 0], []) rfl rfl rfl ?_
  refine ⟨rfl, ?_⟩
  refine bGo hA 0 6 (8, .getfield 144, 3, 7, 0, [9, 0, 0, 0, 0, 0], []) rfl rfl rfl ?_
  refine ⟨rfl, ?_⟩
  refine bGo hA 0 7 (11, .ishl, 1, 8, 0, [], []) rfl rfl rfl ?_
  refine bGo hA 0 8 (12, .iconst (1), 1, 9, 0, [], [(1, 0)]) rfl rfl rfl ?_
  refine bGo hA 0 9 (13, .isub, 1, 10, 0, [], []) rfl rfl rfl ?_
  refine bGo hA 0 10 (14, .invokestatic 76, 3, 11, 0, [2, 136, 2], []) rfl rfl rfl ?_
  refine hC _ _ _ _ _ (bRvx_e (fun s1 k2 => ?_) (fun E s1 k2 => ?_)) h
  · show A (11, [.ref 11, .int x1, .int x2, .int x3, .float 0], [], s1)
    refine bGo hA 0 11 (17, .iload_n 3, 1, 12, 0, [3], []) rfl rfl rfl ?_
    refine bGo hA 0 12 (18, .iconst (0), 1, 13, 0, [], [(0, 0)]) rfl rfl rfl ?_
    refine bGo hA 0 13 (19, .sipush (999), 3, 14, 0, [], [(999, 0)]) rfl rfl rfl ?_
    refine bGo hA 0 14 (22, .invokestatic 80, 3, 15, 0, [2, 138, 3], []) rfl rfl rfl ?_
    refine hC _ _ _ _ _ (bRvx_e (fun s3 k4 => ?_) (fun E s3 k4 => ?_)) k2
    · show A (15, [.ref 11, .int x1, .int x2, .int x3, .float 0], [], s3)
      refine bGo hA 0 15 (25, .aload_n 0, 1, 16, 0, [0], []) rfl rfl rfl ?_
      refine bGo hA 1 0 (26, .getfield 42, 3, 17, 0, [11, 4, 3, 6, 0, 0], []) rfl rfl rfl ?_
      refine ⟨rfl, ?_⟩
      refine bGo hA 1 1 (29, .invokevirtual 188, 3, 18, 0, [0, 6, 68, 0], []) rfl rfl rfl ?_
      refine ⟨rfl, ?_⟩
      refine hC _ _ _ _ _ (bRv_e (fun s5 k6 => ?_)) k4
      show A (18, [.ref 11, .int x1, .int x2, .int x3, .float 0], [], s5)
      refine bGo hA 1 2 (32, .aload_n 0, 1, 19, 0, [0], []) rfl rfl rfl ?_
      refine bGo hA 1 3 (33, .getfield 51, 3, 20, 0, [11, 5, 3, 5, 0, 0], []) rfl rfl rfl ?_
      refine ⟨rfl, ?_⟩
      refine bGo hA 1 4 (36, .iload_n 1, 1, 21, 0, [1], []) rfl rfl rfl ?_
      refine bGo hA 1 5 (37, .iload_n 2, 1, 22, 0, [2], []) rfl rfl rfl ?_
      refine bGo hA 1 6 (38, .iload_n 3, 1, 23, 0, [3], []) rfl rfl rfl ?_
      refine bGo hA 1 7 (39, .invokevirtual 229, 3, 24, 0, [0, 5, 46, 3], []) rfl rfl rfl ?_
      refine ⟨rfl, ?_⟩
      refine hC _ _ _ _ _ (bRi_e (fun r9 s7 k8 => ?_)) k6
      show A (24, [.ref 11, .int x1, .int x2, .int x3, .float 0], [.int r9], s7)
      refine bGo hA 1 8 (42, .istore 4, 2, 25, 0, [4], []) rfl rfl rfl ?_
      refine bGo hA 1 9 (44, .iload 4, 2, 26, 0, [4], []) rfl rfl rfl ?_
      refine bGo hA 1 10 (46, .bipush (-2), 2, 27, 0, [], [(-2, 0)]) rfl rfl rfl ?_
      refine bGo hA 1 11 (48, .if_icmp .eq (7), 3, 28, 30, [], []) rfl rfl rfl ?_
      refine ⟨fun c10 => ?_, fun c10 => ?_⟩
      · refine bGo hA 1 14 (55, .iconst (0), 1, 31, 0, [], [(0, 0)]) rfl rfl rfl ?_
        refine bGo hA 1 15 (56, .invokestatic 88, 3, 32, 0, [2, 139, 1], []) rfl rfl rfl ?_
        refine hC _ _ _ _ _ (bRvx_e (fun s11 k12 => ?_) (fun E s11 k12 => ?_)) (k8.1 c10)
        · show A (32, [.ref 11, .int x1, .int x2, .int x3, .int r9], [], s11)
          refine bGo hA 2 0 (59, .iload 4, 2, 33, 0, [4], []) rfl rfl rfl ?_
          refine bGo hA 2 1 (61, .ireturn, 1, 0, 0, [1], []) rfl rfl rfl ?_
          exact k12
        · exact k12
      · refine bGo hA 1 12 (51, .iconst (1), 1, 29, 0, [], [(1, 0)]) rfl rfl rfl ?_
        refine bGo hA 1 13 (52, .goto (4), 3, 30, 31, [], []) rfl rfl rfl ?_
        refine bGo hA 1 15 (56, .invokestatic 88, 3, 32, 0, [2, 139, 1], []) rfl rfl rfl ?_
        refine hC _ _ _ _ _ (bRvx_e (fun s13 k14 => ?_) (fun E s13 k14 => ?_)) (k8.2 c10)
        · show A (32, [.ref 11, .int x1, .int x2, .int x3, .int r9], [], s13)
          refine bGo hA 2 0 (59, .iload 4, 2, 33, 0, [4], []) rfl rfl rfl ?_
          refine bGo hA 2 1 (61, .ireturn, 1, 0, 0, [1], []) rfl rfl rfl ?_
          exact k14
        · exact k14
    · exact k4
  · exact k2

theorem sg175_0 {lvl : Nat} {C : bCall} {Q : bPost} {A : bPt → Prop} (hC : bMono C) (hA : bClosed lvl bm175 C Q A) {x1 : Int32} {σ : bSt} 
  (h : (C 138 [.int x1, .int 0, .int 11] σ (bRvx (fun s1 => (C 140 [.ref 24, .int x1] s1 (bRi (fun r5 s3 => Q (.inl (some (.int r5))) s3)))) (fun E s1 => Q (.inr E) s1)))) : A (0, [.ref 11, .int x1], [], σ) := by
  refine bGo hA 0 0 (0, .iload_n 1, 1, 1, 0, [1], []) rfl rfl rfl ?_
  refine bGo hA 0 1 (1, .iconst (0), 1, 2, 0, [], [(0, 0)]) rfl rfl rfl ?_
  refine bGo hA 0 2 (2, .bipush (11), 2, 3, 0, [], [(11, 0)]) rfl rfl rfl ?_
  refine bGo hA 0 3 (4, .invokestatic 80, 3, 4, 0, [2, 138, 3], []) rfl rfl rfl ?_
  refine hC _ _ _ _ _ (bRvx_e (fun s1 k2 => ?_) (fun E s1 k2 => ?_)) h
  · show A (4, [.ref 11, .int x1], [], s1)
    refine bGo hA 0 4 (7, .aload_n 0, 1, 5, 0, [0], []) rfl rfl rfl ?_
    refine bGo hA 0 5 (8, .getfield 51, 3, 6, 0, [11, 5, 3, 5, 0, 0], []) rfl rfl rfl ?_
    refine ⟨rfl, ?_⟩
    refine bGo hA 0 6 (11, .getfield 233, 3, 7, 0, [5, 7, 3, 24, 1, 0], []) rfl rfl rfl ?_
    refine ⟨rfl, ?_⟩
    refine bGo hA 0 7 (14, .iload_n 1, 1, 8, 0, [1], []) rfl rfl rfl ?_
    refine bGo hA 0 8 (15, .invokestatic 68, 3, 9, 0, [2, 140, 2], []) rfl rfl rfl ?_
    refine hC _ _ _ _ _ (bRi_e (fun r5 s3 k4 => ?_)) k2
    show A (9, [.ref 11, .int x1], [.int r5], s3)
    refine bGo hA 0 9 (18, .ireturn, 1, 0, 0, [1], []) rfl rfl rfl ?_
    exact k4
  · exact k2

theorem sg176_0 {lvl : Nat} {C : bCall} {Q : bPost} {A : bPt → Prop} (hC : bMono C) (hA : bClosed lvl bm176 C Q A)  {σ : bSt} 
  (h : Q (.inl (some (.int (σ.1 5 8)))) σ) : A (0, [.ref 11], [], σ) := by
  refine bGo hA 0 0 (0, .aload_n 0, 1, 1, 0, [0], []) rfl rfl rfl ?_
  refine bGo hA 0 1 (1, .getfield 51, 3, 2, 0, [11, 5, 3, 5, 0, 0], []) rfl rfl rfl ?_
  refine ⟨rfl, ?_⟩
  refine bGo hA 0 2 (4, .getfield 237, 3, 3, 0, [5, 8, 0, 0, 0, 0], []) rfl rfl rfl ?_
  refine ⟨rfl, ?_⟩
  refine bGo hA 0 3 (7, .ireturn, 1, 0, 0, [1], []) rfl rfl rfl ?_
  exact h

theorem sg177_0 {lvl : Nat} {C : bCall} {Q : bPost} {A : bPt → Prop} (hC : bMono C) (hA : bClosed lvl bm177 C Q A) {x1 : Int32} {σ : bSt} 
  (h : (C 137 [.int x1] σ (bRvx (fun s1 => (C 64 [.ref 5, .int x1] s1 (bRi (fun r5 s3 => Q (.inl (some (.int r5))) s3)))) (fun E s1 => Q (.inr E) s1)))) : A (0, [.ref 11, .int x1], [], σ) := by
  refine bGo hA 0 0 (0, .iload_n 1, 1, 1, 0, [1], []) rfl rfl rfl ?_
  refine bGo hA 0 1 (1, .invokestatic 121, 3, 2, 0, [2, 137, 1], []) rfl rfl rfl ?_
  refine hC _ _ _ _ _ (bRvx_e (fun s1 k2 => ?_) (fun E s1 k2 => ?_)) h
  · show A (2, [.ref 11, .int x1], [], s1)
    refine bGo hA 0 2 (4, .aload_n 0, 1, 3, 0, [0], []) rfl rfl rfl ?_
    refine bGo hA 0 3 (5, .getfield 51, 3, 4, 0, [11, 5, 3, 5, 0, 0], []) rfl rfl rfl ?_
    refine ⟨rfl, ?_⟩
    refine bGo hA 0 4 (8, .iload_n 1, 1, 5, 0, [1], []) rfl rfl rfl ?_
    refine bGo hA 0 5 (9, .invokevirtual 240, 3, 6, 0, [0, 5, 64, 1], []) rfl rfl rfl ?_
    refine ⟨rfl, ?_⟩
    refine hC _ _ _ _ _ (bRi_e (fun r5 s3 k4 => ?_)) k2
    show A (6, [.ref 11, .int x1], [.int r5], s3)
    refine bGo hA 0 6 (12, .ireturn, 1, 0, 0, [1], []) rfl rfl rfl ?_
    exact k4
  · exact k2

theorem sg178_0 {lvl : Nat} {C : bCall} {Q : bPost} {A : bPt → Prop} (hC : bMono C) (hA : bClosed lvl bm178 C Q A)  {σ : bSt} 
  (h : Q (.inl (some (.int (σ.1 6 13)))) σ) : A (0, [.ref 11], [], σ) := by
  refine bGo hA 0 0 (0, .aload_n 0, 1, 1, 0, [0], []) rfl rfl rfl ?_
  refine bGo hA 0 1 (1, .getfield 42, 3, 2, 0, [11, 4, 3, 6, 0, 0], []) rfl rfl rfl ?_
  refine ⟨rfl, ?_⟩
  refine bGo hA 0 2 (4, .getfield 243, 3, 3, 0, [6, 13, 0, 0, 0, 0], []) rfl rfl rfl ?_
  refine ⟨rfl, ?_⟩
  refine bGo hA 0 3 (7, .ireturn, 1, 0, 0, [1], []) rfl rfl rfl ?_
  exact h

theorem sg179_0 {lvl : Nat} {C : bCall} {Q : bPost} {A : bPt → Prop} (hC : bMono C) (hA : bClosed lvl bm179 C Q A) {x1 : Int32} {σ : bSt} 
  (h : (C 136 [.int x1, .int (σ.1 9 0)] σ (bRvx (fun s1 => (C 68 [.ref 6] s1 (bRv (fun s3 => (C 83 [.ref 6, .int x1] s3 (bRi (fun r7 s5 => Q (.inl (some (.int r7))) s5))))))) (fun E s1 => Q (.inr E) s1)))) : A (0, [.ref 11, .int x1], [], σ) := by
  refine bGo hA 0 0 (0, .iload_n 1, 1, 1, 0, [1], []) rfl rfl rfl ?_
  refine bGo hA 0 1 (1, .aload_n 0, 1, 2, 0, [0], []) rfl rfl rfl ?_
  refine bGo hA 0 2 (2, .getfield 33, 3, 3, 0, [11, 3, 3, 9, 0, 0], []) rfl rfl rfl ?_
  refine ⟨rfl, ?_⟩
  refine bGo hA 0 3 (5, .getfield 144, 3, 4, 0, [9, 0, 0, 0, 0, 0], []) rfl rfl rfl ?_
  refine ⟨rfl, ?_⟩
  refine bGo hA 0 4 (8, .invokestatic 76, 3, 5, 0, [2, 136, 2], []) rfl rfl rfl ?_
  refine hC _ _ _ _ _ (bRvx_e (fun s1 k2 => ?_) (fun E s1 k2 => ?_)) h
  · show A (5, [.ref 11, .int x1], [], s1)
    refine bGo hA 0 5 (11, .aload_n 0, 1, 6, 0, [0], []) rfl rfl rfl ?_
    refine bGo hA 0 6 (12, .getfield 42, 3, 7, 0, [11, 4, 3, 6, 0, 0], []) rfl rfl rfl ?_
    refine ⟨rfl, ?_⟩
    refine bGo hA 0 7 (15, .invokevirtual 188, 3, 8, 0, [0, 6, 68, 0], []) rfl rfl rfl ?_
    refine ⟨rfl, ?_⟩
    refine hC _ _ _ _ _ (bRv_e (fun s3 k4 => ?_)) k2
    show A (8, [.ref 11, .int x1], [], s3)
    refine bGo hA 0 8 (18, .aload_n 0, 1, 9, 0, [0], []) rfl rfl rfl ?_
    refine bGo hA 0 9 (19, .getfield 42, 3, 10, 0, [11, 4, 3, 6, 0, 0], []) rfl rfl rfl ?_
    refine ⟨rfl, ?_⟩
    refine bGo hA 0 10 (22, .iload_n 1, 1, 11, 0, [1], []) rfl rfl rfl ?_
    refine bGo hA 0 11 (23, .invokevirtual 244, 3, 12, 0, [0, 6, 83, 1], []) rfl rfl rfl ?_
    refine ⟨rfl, ?_⟩
    refine hC _ _ _ _ _ (bRi_e (fun r7 s5 k6 => ?_)) k4
    show A (12, [.ref 11, .int x1], [.int r7], s5)
    refine bGo hA 0 12 (26, .ireturn, 1, 0, 0, [1], []) rfl rfl rfl ?_
    exact k6
  · exact k2

theorem sg180_0 {lvl : Nat} {C : bCall} {Q : bPost} {A : bPt → Prop} (hC : bMono C) (hA : bClosed lvl bm180 C Q A) {x1 : Int32} {x2 : Int32} {σ : bSt} 
  (h : (C 136 [.int x1, .int (σ.1 6 13)] σ (bRvx (fun s1 => (C 137 [.int x2] s1 (bRvx (fun s3 => (C 89 [.ref 6, .int x1] s3 (bRa (fun r7 s5 => (r7 % 256 = 0 ∧ (C 4 [.ref r7, .int x2] s5 (bRi (fun r10 s8 => Q (.inl (some (.int r10))) s8)))))))) (fun E s3 => Q (.inr E) s3)))) (fun E s1 => Q (.inr E) s1)))) : A (0, [.ref 11, .int x1, .int x2], [], σ) := by
  refine bGo hA 0 0 (0, .iload_n 1, 1, 1, 0, [1], []) rfl rfl rfl ?_
  refine bGo hA 0 1 (1, .aload_n 0, 1, 2, 0, [0], []) rfl rfl rfl ?_
  refine bGo hA 0 2 (2, .getfield 42, 3, 3, 0, [11, 4, 3, 6, 0, 0], []) rfl rfl rfl ?_
  refine ⟨rfl, ?_⟩
  refine bGo hA 0 3 (5, .getfield 243, 3, 4, 0, [6, 13, 0, 0, 0, 0], []) rfl rfl rfl ?_
  refine ⟨rfl, ?_⟩
  refine bGo hA 0 4 (8, .invokestatic 76, 3, 5, 0, [2, 136, 2], []) rfl rfl rfl ?_
  refine hC _ _ _ _ _ (bRvx_e (fun s1 k2 => ?_) (fun E s1 k2 => ?_)) h
  · show A (5, [.ref 11, .int x1, .int x2], [], s1)
    refine bGo hA 0 5 (11, .iload_n 2, 1, 6, 0, [2], []) rfl rfl rfl ?_
    refine bGo hA 0 6 (12, .invokestatic 121, 3, 7, 0, [2, 137, 1], []) rfl rfl rfl ?_
    refine hC _ _ _ _ _ (bRvx_e (fun s3 k4 => ?_) (fun E s3 k4 => ?_)) k2
    · show A (7, [.ref 11, .int x1, .int x2], [], s3)
      refine bGo hA 0 7 (15, .aload_n 0, 1, 8, 0, [0], []) rfl rfl rfl ?_
      refine bGo hA 0 8 (16, .getfield 42, 3, 9, 0, [11, 4, 3, 6, 0, 0], []) rfl rfl rfl ?_
      refine ⟨rfl, ?_⟩
      refine bGo hA 0 9 (19, .iload_n 1, 1, 10, 0, [1], []) rfl rfl rfl ?_
      refine bGo hA 0 10 (20, .invokevirtual 247, 3, 11, 0, [0, 6, 89, 1], []) rfl rfl rfl ?_
      refine ⟨rfl, ?_⟩
      refine hC _ _ _ _ _ (bRa_e (fun r7 s5 k6 => ?_)) k4
      show A (11, [.ref 11, .int x1, .int x2], [.ref r7], s5)
      refine bGo hA 0 11 (23, .iload_n 2, 1, 12, 0, [2], []) rfl rfl rfl ?_
      refine bGo hA 0 12 (24, .invokevirtual 251, 3, 13, 0, [0, 0, 4, 1], []) rfl rfl rfl ?_
      refine ⟨k6.1, ?_⟩
      refine hC _ _ _ _ _ (bRi_e (fun r10 s8 k9 => ?_)) k6.2
      show A (13, [.ref 11, .int x1, .int x2], [.int r10], s8)
      refine bGo hA 0 13 (27, .ireturn, 1, 0, 0, [1], []) rfl rfl rfl ?_
      exact k9
    · exact k4
  · exact k2

theorem sg181_0 {lvl : Nat} {C : bCall} {Q : bPost} {A : bPt → Prop} (hC : bMono C) (hA : bClosed lvl bm181 C Q A) {x1 : Int32} {x2 : Int32} {σ : bSt} 
  (h : (C 136 [.int x1, .int (σ.1 6 13)] σ (bRvx (fun s1 => (C 138 [.int x2, .int 0, .int 2] s1 (bRvx (fun s3 => (C 89 [.ref 6, .int x1] s3 (bRa (fun r7 s5 => (r7 % 256 = 0 ∧ (C 14 [.ref r7, .int x2] s5 (bRi (fun r10 s8 => Q (.inl (some (.int r10))) s8)))))))) (fun E s3 => Q (.inr E) s3)))) (fun E s1 => Q (.inr E) s1)))) : A (0, [.ref 11, .int x1, .int x2], [], σ) := by
  refine bGo hA 0 0 (0, .iload_n 1, 1, 1, 0, [1], []) rfl rfl rfl ?_
  refine bGo hA 0 1 (1, .aload_n 0, 1, 2, 0, [0], []) rfl rfl rfl ?_
  refine bGo hA 0 2 (2, .getfield 42, 3, 3, 0, [11, 4, 3, 6, 0, 0], []) rfl rfl rfl ?_
  refine ⟨rfl, ?_⟩
  refine bGo hA 0 3 (5, .getfield 243, 3, 4, 0, [6, 13, 0, 0, 0, 0], []) rfl rfl rfl ?_
  refine ⟨rfl, ?_⟩
  refine bGo hA 0 4 (8, .invokestatic 76, 3, 5, 0, [2, 136, 2], []) rfl rfl rfl ?_
  refine hC _ _ _ _ _ (bRvx_e (fun s1 k2 => ?_) (fun E s1 k2 => ?_)) h
  · show A (5, [.ref 11, .int x1, .int x2], [], s1)
    refine bGo hA 0 5 (11, .iload_n 2, 1, 6, 0, [2], []) rfl rfl rfl ?_
    refine bGo hA 0 6 (12, .iconst (0), 1, 7, 0, [], [(0, 0)]) rfl rfl rfl ?_
    refine bGo hA 0 7 (13, .iconst (2), 1, 8, 0, [], [(2, 0)]) rfl rfl rfl ?_
    refine bGo hA 0 8 (14, .invokestatic 80, 3, 9, 0, [2, 138, 3], []) rfl rfl rfl ?_
    refine hC _ _ _ _ _ (bRvx_e (fun s3 k4 => ?_) (fun E s3 k4 => ?_)) k2
    · show A (9, [.ref 11, .int x1, .int x2], [], s3)
      refine bGo hA 0 9 (17, .aload_n 0, 1, 10, 0, [0], []) rfl rfl rfl ?_
      refine bGo hA 0 10 (18, .getfield 42, 3, 11, 0, [11, 4, 3, 6, 0, 0], []) rfl rfl rfl ?_
      refine ⟨rfl, ?_⟩
      refine bGo hA 0 11 (21, .iload_n 1, 1, 12, 0, [1], []) rfl rfl rfl ?_
      refine bGo hA 0 12 (22, .invokevirtual 247, 3, 13, 0, [0, 6, 89, 1], []) rfl rfl rfl ?_
      refine ⟨rfl, ?_⟩
      refine hC _ _ _ _ _ (bRa_e (fun r7 s5 k6 => ?_)) k4
      show A (13, [.ref 11, .int x1, .int x2], [.ref r7], s5)
      refine bGo hA 0 13 (25, .iload_n 2, 1, 14, 0, [2], []) rfl rfl rfl ?_
      refine bGo hA 0 14 (26, .invokevirtual 256, 3, 15, 0, [0, 0, 14, 1], []) rfl rfl rfl ?_
      refine ⟨k6.1, ?_⟩
      refine hC _ _ _ _ _ (bRi_e (fun r10 s8 k9 => ?_)) k6.2
      show A (15, [.ref 11, .int x1, .int x2], [.int r10], s8)
      refine bGo hA 0 15 (29, .ireturn, 1, 0, 0, [1], []) rfl rfl rfl ?_
      exact k9
    · exact k4
  · exact k2

theorem sg182_0 {lvl : Nat} {C : bCall} {Q : bPost} {A : bPt → Prop} (hC : bMono C) (hA : bClosed lvl bm182 C Q A) {x1 : Int32} {x2 : Int32} {σ : bSt} 
  (h : (C 136 [.int x1, .int (σ.1 6 13)] σ (bRvx (fun s1 => (C 137 [.int x2] s1 (bRvx (fun s3 => (C 89 [.ref 6, .int x1] s3 (bRa (fun r7 s5 => (r7 % 256 = 0 ∧ ((256 * (2 * (r7 / 256) + 1) + 4) % 256 = 4 ∧ (C 39 [.ref (256 * (2 * (r7 / 256) + 1) + 4), .int x2] s5 (bRi (fun r10 s8 => Q (.inl (some (.int r10))) s8))))))))) (fun E s3 => Q (.inr E) s3)))) (fun E s1 => Q (.inr E) s1)))) : A (0, [.ref 11, .int x1, .int x2], [], σ) := by
  refine bGo hA 0 0 (0, .iload_n 1, 1, 1, 0, [1], []) rfl rfl rfl ?_
  refine bGo hA 0 1 (1, .aload_n 0, 1, 2, 0, [0], []) rfl rfl rfl ?_
  refine bGo hA 0 2 (2, .getfield 42, 3, 3, 0, [11, 4, 3, 6, 0, 0], []) rfl rfl rfl ?_
  refine ⟨rfl, ?_⟩
  refine bGo hA 0 3 (5, .getfield 243, 3, 4, 0, [6, 13, 0, 0, 0, 0], []) rfl rfl rfl ?_
  refine ⟨rfl, ?_⟩
  refine bGo hA 0 4 (8, .invokestatic 76, 3, 5, 0, [2, 136, 2], []) rfl rfl rfl ?_
  refine hC _ _ _ _ _ (bRvx_e (fun s1 k2 => ?_) (fun E s1 k2 => ?_)) h
  · show A (5, [.ref 11, .int x1, .int x2], [], s1)
    refine bGo hA 0 5 (11, .iload_n 2, 1, 6, 0, [2], []) rfl rfl rfl ?_
    refine bGo hA 0 6 (12, .invokestatic 121, 3, 7, 0, [2, 137, 1], []) rfl rfl rfl ?_
    refine hC _ _ _ _ _ (bRvx_e (fun s3 k4 => ?_) (fun E s3 k4 => ?_)) k2
    · show A (7, [.ref 11, .int x1, .int x2], [], s3)
      refine bGo hA 0 7 (15, .aload_n 0, 1, 8, 0, [0], []) rfl rfl rfl ?_
      refine bGo hA 0 8 (16, .getfield 42, 3, 9, 0, [11, 4, 3, 6, 0, 0], []) rfl rfl rfl ?_
      refine ⟨rfl, ?_⟩
      refine bGo hA 0 9 (19, .iload_n 1, 1, 10, 0, [1], []) rfl rfl rfl ?_
      refine bGo hA 0 10 (20, .invokevirtual 247, 3, 11, 0, [0, 6, 89, 1], []) rfl rfl rfl ?_
      refine ⟨rfl, ?_⟩
      refine hC _ _ _ _ _ (bRa_e (fun r7 s5 k6 => ?_)) k4
      show A (11, [.ref 11, .int x1, .int x2], [.ref r7], s5)
      refine bGo hA 0 11 (23, .getfield 259, 3, 12, 0, [0, 4, 3, 4, 2, 1], []) rfl rfl rfl ?_
      refine ⟨k6.1, ?_⟩
      refine bGo hA 0 12 (26, .iload_n 2, 1, 13, 0, [2], []) rfl rfl rfl ?_
      refine bGo hA 0 13 (27, .invokevirtual 263, 3, 14, 0, [0, 4, 39, 1], []) rfl rfl rfl ?_
      refine ⟨k6.2.1, ?_⟩
      refine hC _ _ _ _ _ (bRi_e (fun r10 s8 k9 => ?_)) k6.2.2
      show A (14, [.ref 11, .int x1, .int x2], [.int r10], s8)
      refine bGo hA 0 14 (30, .ireturn, 1, 0, 0, [1], []) rfl rfl rfl ?_
      exact k9
    · exact k4
  · exact k2

theorem sg183_0 {lvl : Nat} {C : bCall} {Q : bPost} {A : bPt → Prop} (hC : bMono C) (hA : bClosed lvl bm183 C Q A) {x1 : Int32} {σ : bSt} 
  (h : (C 136 [.int x1, .int (σ.1 9 0)] σ (bRvx (fun s1 => (C 68 [.ref 6] s1 (bRv (fun s3 => (C 83 [.ref 6, .int x1] s3 (bRi (fun r7 s5 => ((r7 = (-1) → Q (.inl (some (.int (-1)))) s5) ∧ (¬ r7 = (-1) → (C 89 [.ref 6, .int r7] s5 (bRa (fun r11 s9 => (r11 % 256 = 0 ∧ ((256 * (2 * (r11 / 256) + 1) + 4) % 256 = 4 ∧ Q (.inl (some (.int (s9.1 (256 * (2 * (r11 / 256) + 1) + 4) 8)))) s9)))))))))))))) (fun E s1 => Q (.inr E) s1)))) : A (0, [.ref 11, .int x1, .float 0], [], σ) := by
  refine bGo hA 0 0 (0, .iload_n 1, 1, 1, 0, [1], []) rfl rfl rfl ?_
  refine bGo hA 0 1 (1, .aload_n 0, 1, 2, 0, [0], []) rfl rfl rfl ?_
  refine bGo hA 0 2 (2, .getfield 33, 3, 3, 0, [11, 3, 3, 9, 0, 0], []) rfl rfl rfl ?_
  refine ⟨rfl, ?_⟩
  refine bGo hA 0 3 (5, .getfield 144, 3, 4, 0, [9, 0, 0, 0, 0, 0], []) rfl rfl rfl ?_
  refine ⟨rfl, ?_⟩
  refine bGo hA 0 4 (8, .invokestatic 76, 3, 5, 0, [2, 136, 2], []) rfl rfl rfl ?_
  refine hC _ _ _ _ _ (bRvx_e (fun s1 k2 => ?_) (fun E s1 k2 => ?_)) h
  · show A (5, [.ref 11, .int x1, .float 0], [], s1)
    refine bGo hA 0 5 (11, .aload_n 0, 1, 6, 0, [0], []) rfl rfl rfl ?_
    refine bGo hA 0 6 (12, .getfield 42, 3, 7, 0, [11, 4, 3, 6, 0, 0], []) rfl rfl rfl ?_
    refine ⟨rfl, ?_⟩
    refine bGo hA 0 7 (15, .invokevirtual 188, 3, 8, 0, [0, 6, 68, 0], []) rfl rfl rfl ?_
    refine ⟨rfl, ?_⟩
    refine hC _ _ _ _ _ (bRv_e (fun s3 k4 => ?_)) k2
    show A (8, [.ref 11, .int x1, .float 0], [], s3)
    refine bGo hA 0 8 (18, .aload_n 0, 1, 9, 0, [0], []) rfl rfl rfl ?_
    refine bGo hA 0 9 (19, .getfield 42, 3, 10, 0, [11, 4, 3, 6, 0, 0], []) rfl rfl rfl ?_
    refine ⟨rfl, ?_⟩
    refine bGo hA 0 10 (22, .iload_n 1, 1, 11, 0, [1], []) rfl rfl rfl ?_
    refine bGo hA 0 11 (23, .invokevirtual 244, 3, 12, 0, [0, 6, 83, 1], []) rfl rfl rfl ?_
    refine ⟨rfl, ?_⟩
    refine hC _ _ _ _ _ (bRi_e (fun r7 s5 k6 => ?_)) k4
    show A (12, [.ref 11, .int x1, .float 0], [.int r7], s5)
    refine bGo hA 0 12 (26, .istore_n 2, 1, 13, 0, [2], []) rfl rfl rfl ?_
    refine bGo hA 0 13 (27, .iload_n 2, 1, 14, 0, [2], []) rfl rfl rfl ?_
    refine bGo hA 0 14 (28, .iconst (-1), 1, 15, 0, [], [(-1, 0)]) rfl rfl rfl ?_
    refine bGo hA 0 15 (29, .if_icmp .ne (7), 3, 16, 18, [], []) rfl rfl rfl ?_
    refine ⟨fun c8 => ?_, fun c8 => ?_⟩
    · refine bGo hA 1 0 (32, .iconst (-1), 1, 17, 0, [], [(-1, 0)]) rfl rfl rfl ?_
      refine bGo hA 1 1 (33, .goto (17), 3, 18, 24, [], []) rfl rfl rfl ?_
      refine bGo hA 1 8 (50, .ireturn, 1, 0, 0, [1], []) rfl rfl rfl ?_
      exact (k6.1 c8)
    · refine bGo hA 1 2 (36, .aload_n 0, 1, 19, 0, [0], []) rfl rfl rfl ?_
      refine bGo hA 1 3 (37, .getfield 42, 3, 20, 0, [11, 4, 3, 6, 0, 0], []) rfl rfl rfl ?_
      refine ⟨rfl, ?_⟩
      refine bGo hA 1 4 (40, .iload_n 2, 1, 21, 0, [2], []) rfl rfl rfl ?_
      refine bGo hA 1 5 (41, .invokevirtual 247, 3, 22, 0, [0, 6, 89, 1], []) rfl rfl rfl ?_
      refine ⟨rfl, ?_⟩
      refine hC _ _ _ _ _ (bRa_e (fun r11 s9 k10 => ?_)) (k6.2 c8)
      show A (22, [.ref 11, .int x1, .int r7], [.ref r11], s9)
      refine bGo hA 1 6 (44, .getfield 259, 3, 23, 0, [0, 4, 3, 4, 2, 1], []) rfl rfl rfl ?_
      refine ⟨k10.1, ?_⟩
      refine bGo hA 1 7 (47, .getfield 268, 3, 24, 0, [4, 8, 0, 0, 0, 0], []) rfl rfl rfl ?_
      refine ⟨k10.2.1, ?_⟩
      refine bGo hA 1 8 (50, .ireturn, 1, 0, 0, [1], []) rfl rfl rfl ?_
      exact k10.2.2
  · exact k2

theorem sg184_0 {lvl : Nat} {C : bCall} {Q : bPost} {A : bPt → Prop} (hC : bMono C) (hA : bClosed lvl bm184 C Q A) {x1 : Int32} {σ : bSt} 
  (h : (C 136 [.int x1, .int (σ.1 9 0)] σ (bRvx (fun s1 => (C 68 [.ref 6] s1 (bRv (fun s3 => (C 84 [.ref 6, .int x1] s3 (bRi (fun r7 s5 => Q (.inl (some (.int r7))) s5))))))) (fun E s1 => Q (.inr E) s1)))) : A (0, [.ref 11, .int x1], [], σ) := by
  refine bGo hA 0 0 (0, .iload_n 1, 1, 1, 0, [1], []) rfl rfl rfl ?_
  refine bGo hA 0 1 (1, .aload_n 0, 1, 2, 0, [0], []) rfl rfl rfl ?_
  refine bGo hA 0 2 (2, .getfield 33, 3, 3, 0, [11, 3, 3, 9, 0, 0], []) rfl rfl rfl ?_
  refine ⟨rfl, ?_⟩
  refine bGo hA 0 3 (5, .getfield 144, 3, 4, 0, [9, 0, 0, 0, 0, 0], []) rfl rfl rfl ?_
  refine ⟨rfl, ?_⟩
  refine bGo hA 0 4 (8, .invokestatic 76, 3, 5, 0, [2, 136, 2], []) rfl rfl rfl ?_
  refine hC _ _ _ _ _ (bRvx_e (fun s1 k2 => ?_) (fun E s1 k2 => ?_)) h
  · show A (5, [.ref 11, .int x1], [], s1)
    refine bGo hA 0 5 (11, .aload_n 0, 1, 6, 0, [0], []) rfl rfl rfl ?_
    refine bGo hA 0 6 (12, .getfield 42, 3, 7, 0, [11, 4, 3, 6, 0, 0], []) rfl rfl rfl ?_
    refine ⟨rfl, ?_⟩
    refine bGo hA 0 7 (15, .invokevirtual 188, 3, 8, 0, [0, 6, 68, 0], []) rfl rfl rfl ?_
    refine ⟨rfl, ?_⟩
    refine hC _ _ _ _ _ (bRv_e (fun s3 k4 => ?_)) k2
    show A (8, [.ref 11, .int x1], [], s3)
    refine bGo hA 0 8 (18, .aload_n 0, 1, 9, 0, [0], []) rfl rfl rfl ?_
    refine bGo hA 0 9 (19, .getfield 42, 3, 10, 0, [11, 4, 3, 6, 0, 0], []) rfl rfl rfl ?_
    refine ⟨rfl, ?_⟩
    refine bGo hA 0 10 (22, .iload_n 1, 1, 11, 0, [1], []) rfl rfl rfl ?_
    refine bGo hA 0 11 (23, .invokevirtual 271, 3, 12, 0, [0, 6, 84, 1], []) rfl rfl rfl ?_
    refine ⟨rfl, ?_⟩
    refine hC _ _ _ _ _ (bRi_e (fun r7 s5 k6 => ?_)) k4
    show A (12, [.ref 11, .int x1], [.int r7], s5)
    refine bGo hA 0 12 (26, .ireturn, 1, 0, 0, [1], []) rfl rfl rfl ?_
    exact k6
  · exact k2

theorem sg185_0 {lvl : Nat} {C : bCall} {Q : bPost} {A : bPt → Prop} (hC : bMono C) (hA : bClosed lvl bm185 C Q A) {x1 : Int32} {σ : bSt} 
  (h : (C 136 [.int x1, .int (σ.1 9 0)] σ (bRvx (fun s1 => (C 120 [.ref 9, .int x1] s1 (bRa (fun r5 s3 => (r5 % 256 = 8 ∧ ((0 < (s3.1 r5 11) → A (16, [.ref 11, .int x1, .ref r5, .float 0], [.int 1], s3)) ∧ (¬ 0 < (s3.1 r5 11) → A (16, [.ref 11, .int x1, .ref r5, .float 0], [.int 0], s3)))))))) (fun E s1 => Q (.inr E) s1)))) : A (0, [.ref 11, .int x1, .float 0, .float 0], [], σ) := by
  refine bGo hA 0 0 (0, .iload_n 1, 1, 1, 0, [1], []) rfl rfl rfl ?_
  refine bGo hA 0 1 (1, .aload_n 0, 1, 2, 0, [0], []) rfl rfl rfl ?_
  refine bGo hA 0 2 (2, .getfield 33, 3, 3, 0, [11, 3, 3, 9, 0, 0], []) rfl rfl rfl ?_
  refine ⟨rfl, ?_⟩
  refine bGo hA 0 3 (5, .getfield 144, 3, 4, 0, [9, 0, 0, 0, 0, 0], []) rfl rfl rfl ?_
  refine ⟨rfl, ?_⟩
  refine bGo hA 0 4 (8, .invokestatic 76, 3, 5, 0, [2, 136, 2], []) rfl rfl rfl ?_
  refine hC _ _ _ _ _ (bRvx_e (fun s1 k2 => ?_) (fun E s1 k2 => ?_)) h
  · show A (5, [.ref 11, .int x1, .float 0, .float 0], [], s1)
    refine bGo hA 0 5 (11, .aload_n 0, 1, 6, 0, [0], []) rfl rfl rfl ?_
    refine bGo hA 0 6 (12, .getfield 33, 3, 7, 0, [11, 3, 3, 9, 0, 0], []) rfl rfl rfl ?_
    refine ⟨rfl, ?_⟩
    refine bGo hA 0 7 (15, .iload_n 1, 1, 8, 0, [1], []) rfl rfl rfl ?_
    refine bGo hA 0 8 (16, .invokevirtual 147, 3, 9, 0, [0, 9, 120, 1], []) rfl rfl rfl ?_
    refine ⟨rfl, ?_⟩
    refine hC _ _ _ _ _ (bRa_e (fun r5 s3 k4 => ?_)) k2
    show A (9, [.ref 11, .int x1, .float 0, .float 0], [.ref r5], s3)
    refine bGo hA 0 9 (19, .astore_n 2, 1, 10, 0, [2], []) rfl rfl rfl ?_
    refine bGo hA 0 10 (20, .aload_n 2, 1, 11, 0, [2], []) rfl rfl rfl ?_
    refine bGo hA 0 11 (21, .getfield 182, 3, 12, 0, [8, 11, 0, 0, 0, 0], []) rfl rfl rfl ?_
    refine ⟨k4.1, ?_⟩
    refine bGo hA 0 12 (24, .ifCond .le (7), 3, 13, 15, [], []) rfl rfl rfl ?_
    refine ⟨fun c6 => ?_, fun c6 => ?_⟩
    · refine bGo hA 0 13 (27, .iconst (1), 1, 14, 0, [], [(1, 0)]) rfl rfl rfl ?_
      refine bGo hA 0 14 (28, .goto (4), 3, 15, 16, [], []) rfl rfl rfl ?_
      exact (k4.2.1 c6)
    · refine bGo hA 0 15 (31, .iconst (0), 1, 16, 0, [], [(0, 0)]) rfl rfl rfl ?_
      exact (k4.2.2 c6)
  · exact k2

theorem sg185_16 {lvl : Nat} {C : bCall} {Q : bPost} {A : bPt → Prop} (hC : bMono C) (hA : bClosed lvl bm185 C Q A) {l1 : Int32} {l2 : Nat} {v3 : Value} {t0 : Int32} {σ : bSt} 
  (h : (C 139 [.int t0] σ (bRvx (fun s1 => (C 68 [.ref 6] s1 (bRv (fun s3 => (C 46 [.ref 5, .int (1 <<< (l1 &&& 31)), .int 0, .int 0] s3 (bRi (fun r7 s5 => ((r7 = (-2) → (C 139 [.int 0] s5 (bRvx (fun s9 => ((r7 = 1 → (C 82 [.ref 6, .int l1] (bI s9 11 6 0) (bRa (fun r14 s12 => (r14 % 256 = 0 ∧ ((256 * (2 * (r14 / 256) + 0) + 4) % 256 = 4 ∧ (C 186 [.ref 11, .ref l2, .int (s12.1 (256 * (2 * (r14 / 256) + 0) + 4) 8)] s12 (bRi (fun r17 s15 => Q (.inl (some (.int r17))) s15))))))))) ∧ (¬ r7 = 1 → Q (.inl (some (.int (-1)))) (bI s9 11 6 0)))) (fun E s9 => Q (.inr E) s9)))) ∧ (¬ r7 = (-2) → (C 139 [.int 1] s5 (bRvx (fun s18 => ((r7 = 1 → (C 82 [.ref 6, .int l1] (bI s18 11 6 0) (bRa (fun r23 s21 => (r23 % 256 = 0 ∧ ((256 * (2 * (r23 / 256) + 0) + 4) % 256 = 4 ∧ (C 186 [.ref 11, .ref l2, .int (s21.1 (256 * (2 * (r23 / 256) + 0) + 4) 8)] s21 (bRi (fun r26 s24 => Q (.inl (some (.int r26))) s24))))))))) ∧ (¬ r7 = 1 → Q (.inl (some (.int (-1)))) (bI s18 11 6 0)))) (fun E s18 => Q (.inr E) s18)))))))))))) (fun E s1 => Q (.inr E) s1)))) : A (16, [.ref 11, .int l1, .ref l2, v3], [.int t0], σ) := by
  refine bGo hA 1 0 (32, .invokestatic 88, 3, 17, 0, [2, 139, 1], []) rfl rfl rfl ?_
  refine hC _ _ _ _ _ (bRvx_e (fun s1 k2 => ?_) (fun E s1 k2 => ?_)) h
  · show A (17, [.ref 11, .int l1, .ref l2, v3], [], s1)
    refine bGo hA 1 1 (35, .aload_n 0, 1, 18, 0, [0], []) rfl rfl rfl ?_
    refine bGo hA 1 2 (36, .getfield 42, 3, 19, 0, [11, 4, 3, 6, 0, 0], []) rfl rfl rfl ?_
    refine ⟨rfl, ?_⟩
    refine bGo hA 1 3 (39, .invokevirtual 188, 3, 20, 0, [0, 6, 68, 0], []) rfl rfl rfl ?_
    refine ⟨rfl, ?_⟩
    refine hC _ _ _ _ _ (bRv_e (fun s3 k4 => ?_)) k2
    show A (20, [.ref 11, .int l1, .ref l2, v3], [], s3)
    refine bGo hA 1 4 (42, .aload_n 0, 1, 21, 0, [0], []) rfl rfl rfl ?_
    refine bGo hA 1 5 (43, .getfield 51, 3, 22, 0, [11, 5, 3, 5, 0, 0], []) rfl rfl rfl ?_
    refine ⟨rfl, ?_⟩
    refine bGo hA 1 6 (46, .iconst (1), 1, 23, 0, [], [(1, 0)]) rfl rfl rfl ?_
    refine bGo hA 1 7 (47, .iload_n 1, 1, 24, 0, [1], []) rfl rfl rfl ?_
    refine bGo hA 1 8 (48, .ishl, 1, 25, 0, [], []) rfl rfl rfl ?_
    refine bGo hA 1 9 (49, .iconst (0), 1, 26, 0, [], [(0, 0)]) rfl rfl rfl ?_
    refine bGo hA 1 10 (50, .iconst (0), 1, 27, 0, [], [(0, 0)]) rfl rfl rfl ?_
    refine bGo hA 1 11 (51, .invokevirtual 229, 3, 28, 0, [0, 5, 46, 3], []) rfl rfl rfl ?_
    refine ⟨rfl, ?_⟩
    refine hC _ _ _ _ _ (bRi_e (fun r7 s5 k6 => ?_)) k4
    show A (28, [.ref 11, .int l1, .ref l2, v3], [.int r7], s5)
    refine bGo hA 1 12 (54, .istore_n 3, 1, 29, 0, [3], []) rfl rfl rfl ?_
    refine bGo hA 1 13 (55, .iload_n 3, 1, 30, 0, [3], []) rfl rfl rfl ?_
    refine bGo hA 1 14 (56, .bipush (-2), 2, 31, 0, [], [(-2, 0)]) rfl rfl rfl ?_
    refine bGo hA 1 15 (58, .if_icmp .eq (7), 3, 32, 34, [], []) rfl rfl rfl ?_
    refine ⟨fun c8 => ?_, fun c8 => ?_⟩
    · refine bGo hA 2 2 (65, .iconst (0), 1, 35, 0, [], [(0, 0)]) rfl rfl rfl ?_
      refine bGo hA 2 3 (66, .invokestatic 88, 3, 36, 0, [2, 139, 1], []) rfl rfl rfl ?_
      refine hC _ _ _ _ _ (bRvx_e (fun s9 k10 => ?_) (fun E s9 k10 => ?_)) (k6.1 c8)
      · show A (36, [.ref 11, .int l1, .ref l2, .int r7], [], s9)
        refine bGo hA 2 4 (69, .aload_n 0, 1, 37, 0, [0], []) rfl rfl rfl ?_
        refine bGo hA 2 5 (70, .iconst (0), 1, 38, 0, [], [(0, 0)]) rfl rfl rfl ?_
        refine bGo hA 2 6 (71, .putfield 274, 3, 39, 0, [11, 6, 0, 0, 0, 0], []) rfl rfl rfl ?_
        refine ⟨rfl, ?_⟩
        refine bGo hA 2 7 (74, .iload_n 3, 1, 40, 0, [3], []) rfl rfl rfl ?_
        refine bGo hA 2 8 (75, .iconst (1), 1, 41, 0, [], [(1, 0)]) rfl rfl rfl ?_
        refine bGo hA 2 9 (76, .if_icmp .ne (25), 3, 42, 52, [], []) rfl rfl rfl ?_
        refine ⟨fun c11 => ?_, fun c11 => ?_⟩
        · refine bGo hA 2 10 (79, .aload_n 0, 1, 43, 0, [0], []) rfl rfl rfl ?_
          refine bGo hA 2 11 (80, .aload_n 2, 1, 44, 0, [2], []) rfl rfl rfl ?_
          refine bGo hA 2 12 (81, .aload_n 0, 1, 45, 0, [0], []) rfl rfl rfl ?_
          refine bGo hA 2 13 (82, .getfield 42, 3, 46, 0, [11, 4, 3, 6, 0, 0], []) rfl rfl rfl ?_
          refine ⟨rfl, ?_⟩
          refine bGo hA 2 14 (85, .iload_n 1, 1, 47, 0, [1], []) rfl rfl rfl ?_
          refine bGo hA 2 15 (86, .invokevirtual 277, 3, 48, 0, [0, 6, 82, 1], []) rfl rfl rfl ?_
          refine ⟨rfl, ?_⟩
          refine hC _ _ _ _ _ (bRa_e (fun r14 s12 k13 => ?_)) (k10.1 c11)
          show A (48, [.ref 11, .int l1, .ref l2, .int r7], [.ref r14, .ref l2, .ref 11], s12)
          refine bGo hA 3 0 (89, .getfield 280, 3, 49, 0, [0, 3, 3, 4, 2, 0], []) rfl rfl rfl ?_
          refine ⟨k13.1, ?_⟩
          refine bGo hA 3 1 (92, .getfield 268, 3, 50, 0, [4, 8, 0, 0, 0, 0], []) rfl rfl rfl ?_
          refine ⟨k13.2.1, ?_⟩
          refine bGo hA 3 2 (95, .invokevirtual 283, 3, 51, 0, [0, 11, 186, 2], []) rfl rfl rfl ?_
          refine ⟨rfl, ?_⟩
          refine hC _ _ _ _ _ (bRi_e (fun r17 s15 k16 => ?_)) k13.2.2
          show A (51, [.ref 11, .int l1, .ref l2, .int r7], [.int r17], s15)
          refine bGo hA 3 3 (98, .goto (4), 3, 52, 53, [], []) rfl rfl rfl ?_
          refine bGo hA 3 5 (102, .ireturn, 1, 0, 0, [1], []) rfl rfl rfl ?_
          exact k16
        · refine bGo hA 3 4 (101, .iconst (-1), 1, 53, 0, [], [(-1, 0)]) rfl rfl rfl ?_
          refine bGo hA 3 5 (102, .ireturn, 1, 0, 0, [1], []) rfl rfl rfl ?_
          exact (k10.2 c11)
      · exact k10
    · refine bGo hA 2 0 (61, .iconst (1), 1, 33, 0, [], [(1, 0)]) rfl rfl rfl ?_
      refine bGo hA 2 1 (62, .goto (4), 3, 34, 35, [], []) rfl rfl rfl ?_
      refine bGo hA 2 3 (66, .invokestatic 88, 3, 36, 0, [2, 139, 1], []) rfl rfl rfl ?_
      refine hC _ _ _ _ _ (bRvx_e (fun s18 k19 => ?_) (fun E s18 k19 => ?_)) (k6.2 c8)
      · show A (36, [.ref 11, .int l1, .ref l2, .int r7], [], s18)
        refine bGo hA 2 4 (69, .aload_n 0, 1, 37, 0, [0], []) rfl rfl rfl ?_
        refine bGo hA 2 5 (70, .iconst (0), 1, 38, 0, [], [(0, 0)]) rfl rfl rfl ?_
        refine bGo hA 2 6 (71, .putfield 274, 3, 39, 0, [11, 6, 0, 0, 0, 0], []) rfl rfl rfl ?_
        refine ⟨rfl, ?_⟩
        refine bGo hA 2 7 (74, .iload_n 3, 1, 40, 0, [3], []) rfl rfl rfl ?_
        refine bGo hA 2 8 (75, .iconst (1), 1, 41, 0, [], [(1, 0)]) rfl rfl rfl ?_
        refine bGo hA 2 9 (76, .if_icmp .ne (25), 3, 42, 52, [], []) rfl rfl rfl ?_
        refine ⟨fun c20 => ?_, fun c20 => ?_⟩
        · refine bGo hA 2 10 (79, .aload_n 0, 1, 43, 0, [0], []) rfl rfl rfl ?_
          refine bGo hA 2 11 (80, .aload_n 2, 1, 44, 0, [2], []) rfl rfl rfl ?_
          refine bGo hA 2 12 (81, .aload_n 0, 1, 45, 0, [0], []) rfl rfl rfl ?_
          refine bGo hA 2 13 (82, .getfield 42, 3, 46, 0, [11, 4, 3, 6, 0, 0], []) rfl rfl rfl ?_
          refine ⟨rfl, ?_⟩
          refine bGo hA 2 14 (85, .iload_n 1, 1, 47, 0, [1], []) rfl rfl rfl ?_
          refine bGo hA 2 15 (86, .invokevirtual 277, 3, 48, 0, [0, 6, 82, 1], []) rfl rfl rfl ?_
          refine ⟨rfl, ?_⟩
          refine hC _ _ _ _ _ (bRa_e (fun r23 s21 k22 => ?_)) (k19.1 c20)
          show A (48, [.ref 11, .int l1, .ref l2, .int r7], [.ref r23, .ref l2, .ref 11], s21)
          refine bGo hA 3 0 (89, .getfield 280, 3, 49, 0, [0, 3, 3, 4, 2, 0], []) rfl rfl rfl ?_
          refine ⟨k22.1, ?_⟩
          refine bGo hA 3 1 (92, .getfield 268, 3, 50, 0, [4, 8, 0, 0, 0, 0], []) rfl rfl rfl ?_
          refine ⟨k22.2.1, ?_⟩
          refine bGo hA 3 2 (95, .invokevirtual 283, 3, 51, 0, [0, 11, 186, 2], []) rfl rfl rfl ?_
          refine ⟨rfl, ?_⟩
          refine hC _ _ _ _ _ (bRi_e (fun r26 s24 k25 => ?_)) k22.2.2
          show A (51, [.ref 11, .int l1, .ref l2, .int r7], [.int r26], s24)
          refine bGo hA 3 3 (98, .goto (4), 3, 52, 53, [], []) rfl rfl rfl ?_
          refine bGo hA 3 5 (102, .ireturn, 1, 0, 0, [1], []) rfl rfl rfl ?_
          exact k25
        · refine bGo hA 3 4 (101, .iconst (-1), 1, 53, 0, [], [(-1, 0)]) rfl rfl rfl ?_
          refine bGo hA 3 5 (102, .ireturn, 1, 0, 0, [1], []) rfl rfl rfl ?_
          exact (k19.2 c20)
      · exact k19
  · exact k2

theorem sg186_0 {lvl : Nat} {C : bCall} {Q : bPost} {A : bPt → Prop} (hC : bMono C) (hA : bClosed lvl bm186 C Q A) {a1 : Nat} {x2 : Int32} {σ : bSt} (h_a1 : a1 % 256 = 8)
  (h : A (4, [.ref 11, .ref a1, .int x2, .int 0, .int 0, .float 0, .float 0], [], σ)) : A (0, [.ref 11, .ref a1, .int x2, .float 0, .float 0, .float 0, .float 0], [], σ) := by
  refine bGo hA 0 0 (0, .iconst (0), 1, 1, 0, [], [(0, 0)]) rfl rfl rfl ?_
  refine bGo hA 0 1 (1, .istore_n 3, 1, 2, 0, [3], []) rfl rfl rfl ?_
  refine bGo hA 0 2 (2, .iconst (0), 1, 3, 0, [], [(0, 0)]) rfl rfl rfl ?_
  refine bGo hA 0 3 (3, .istore 4, 2, 4, 0, [4], []) rfl rfl rfl ?_
  exact h

theorem sg186_4 {lvl : Nat} {C : bCall} {Q : bPost} {A : bPt → Prop} (hC : bMono C) (hA : bClosed lvl bm186 C Q A) {l1 : Nat} {l2 : Int32} {l3 : Int32} {l4 : Int32} {v5 : Value} {v6 : Value} {σ : bSt} 
  (h : ((l4 < 4 → (l1 % 256 = 8 ∧ ((l4 < (σ.1 l1 11) → ((((l2 + l4) - (l2 + l4) / 4 * 4) = 3 → A (23, [.ref 11, .ref l1, .int l2, .int l3, .int l4, .int (-1), v6], [.int 0], σ)) ∧ (¬ ((l2 + l4) - (l2 + l4) / 4 * 4) = 3 → A (23, [.ref 11, .ref l1, .int l2, .int l3, .int l4, .int (-1), v6], [.int 1], σ)))) ∧ (¬ l4 < (σ.1 l1 11) → (C 141 [.ref (256 * (1 * (l1 / 256) + 0) + 48), .int l4, .int (-1)] σ (bRv (fun s4 => A (4, [.ref 11, .ref l1, .int l2, .int (l3 + 0), .int (l4 + 1), .int (-1), v6], [], s4)))))))) ∧ (¬ l4 < 4 → Q (.inl (some (.int l3))) σ))) : A (4, [.ref 11, .ref l1, .int l2, .int l3, .int l4, v5, v6], [], σ) := by
  refine bGo hA 0 4 (5, .iload 4, 2, 5, 0, [4], []) rfl rfl rfl ?_
  refine bGo hA 0 5 (7, .iconst (4), 1, 6, 0, [], [(4, 0)]) rfl rfl rfl ?_
  refine bGo hA 0 6 (8, .if_icmp .ge (97), 3, 7, 58, [], []) rfl rfl rfl ?_
  refine ⟨fun c1 => ?_, fun c1 => ?_⟩
  · refine bGo hA 0 7 (11, .iconst (-1), 1, 8, 0, [], [(-1, 0)]) rfl rfl rfl ?_
    refine bGo hA 0 8 (12, .istore 5, 2, 9, 0, [5], []) rfl rfl rfl ?_
    refine bGo hA 0 9 (14, .iload 4, 2, 10, 0, [4], []) rfl rfl rfl ?_
    refine bGo hA 0 10 (16, .aload_n 1, 1, 11, 0, [1], []) rfl rfl rfl ?_
    refine bGo hA 0 11 (17, .getfield 182, 3, 12, 0, [8, 11, 0, 0, 0, 0], []) rfl rfl rfl ?_
    refine ⟨(h.1 c1).1, ?_⟩
    refine bGo hA 0 12 (20, .if_icmp .ge (55), 3, 13, 43, [], []) rfl rfl rfl ?_
    refine ⟨fun c2 => ?_, fun c2 => ?_⟩
    · refine bGo hA 0 13 (23, .iload_n 2, 1, 14, 0, [2], []) rfl rfl rfl ?_
      refine bGo hA 0 14 (24, .iload 4, 2, 15, 0, [4], []) rfl rfl rfl ?_
      refine bGo hA 0 15 (26, .iadd, 1, 16, 0, [], []) rfl rfl rfl ?_
      refine bGo hA 1 0 (27, .iconst (4), 1, 17, 0, [], [(4, 0)]) rfl rfl rfl ?_
      refine bGo hA 1 1 (28, .irem, 1, 18, 0, [], []) rfl rfl rfl ?_
      refine ⟨by decide, ?_⟩
      refine bGo hA 1 2 (29, .iconst (3), 1, 19, 0, [], [(3, 0)]) rfl rfl rfl ?_
      refine bGo hA 1 3 (30, .if_icmp .eq (7), 3, 20, 22, [], []) rfl rfl rfl ?_
      refine ⟨fun c3 => ?_, fun c3 => ?_⟩
      · refine bGo hA 1 6 (37, .iconst (0), 1, 23, 0, [], [(0, 0)]) rfl rfl rfl ?_
        exact (((h.1 c1).2.1 c2).1 c3)
      · refine bGo hA 1 4 (33, .iconst (1), 1, 21, 0, [], [(1, 0)]) rfl rfl rfl ?_
        refine bGo hA 1 5 (34, .goto (4), 3, 22, 23, [], []) rfl rfl rfl ?_
        exact (((h.1 c1).2.1 c2).2 c3)
    · refine bGo hA 2 11 (75, .aload_n 1, 1, 44, 0, [1], []) rfl rfl rfl ?_
      refine bGo hA 2 12 (76, .getfield 295, 3, 45, 0, [8, 17, 3, 48, 1, 0], []) rfl rfl rfl ?_
      refine ⟨(h.1 c1).1, ?_⟩
      refine bGo hA 2 13 (79, .iload 4, 2, 46, 0, [4], []) rfl rfl rfl ?_
      refine bGo hA 2 14 (81, .iload 5, 2, 47, 0, [5], []) rfl rfl rfl ?_
      refine bGo hA 2 15 (83, .invokestatic 72, 3, 48, 0, [2, 141, 3], []) rfl rfl rfl ?_
      refine hC _ _ _ _ _ (bRv_e (fun s4 k5 => ?_)) ((h.1 c1).2.2 c2)
      show A (48, [.ref 11, .ref l1, .int l2, .int l3, .int l4, .int (-1), v6], [], s4)
      refine bGo hA 3 0 (86, .iload_n 3, 1, 49, 0, [3], []) rfl rfl rfl ?_
      refine bGo hA 3 1 (87, .iload 5, 2, 50, 0, [5], []) rfl rfl rfl ?_
      refine bGo hA 3 2 (89, .ifCond .ne (7), 3, 51, 53, [], []) rfl rfl rfl ?_
      refine ⟨fun c => absurd c (by decide), fun _ => ?_⟩
      refine bGo hA 3 5 (96, .iconst (0), 1, 54, 0, [], [(0, 0)]) rfl rfl rfl ?_
      refine bGo hA 3 6 (97, .iadd, 1, 55, 0, [], []) rfl rfl rfl ?_
      refine bGo hA 3 7 (98, .istore_n 3, 1, 56, 0, [3], []) rfl rfl rfl ?_
      refine bGo hA 3 8 (99, .iinc 4 (1), 3, 57, 0, [4], [(1, 0)]) rfl rfl rfl ?_
      refine bGo hA 3 9 (102, .goto (-97), 3, 58, 4, [], []) rfl rfl rfl ?_
      exact k5
  · refine bGo hA 3 10 (105, .iload_n 3, 1, 59, 0, [3], []) rfl rfl rfl ?_
    refine bGo hA 3 11 (106, .ireturn, 1, 0, 0, [1], []) rfl rfl rfl ?_
    exact (h.2 c1)

theorem sg186_23 {lvl : Nat} {C : bCall} {Q : bPost} {A : bPt → Prop} (hC : bMono C) (hA : bClosed lvl bm186 C Q A) {l1 : Nat} {l2 : Int32} {l3 : Int32} {l4 : Int32} {v5 : Value} {v6 : Value} {t0 : Int32} {σ : bSt} 
  (h : (l1 % 256 = 8 ∧ (((σ.1 l1 12) = 0 → (C 187 [.ref 11, .ref l1, .int ((l2 * 4) + l4), .int t0] σ (bRi (fun r4 s2 => (C 141 [.ref (256 * (1 * (l1 / 256) + 0) + 48), .int l4, .int r4] s2 (bRv (fun s5 => ((r4 = 0 → A (4, [.ref 11, .ref l1, .int l2, .int (l3 + 1), .int (l4 + 1), .int r4, .int t0], [], s5)) ∧ (¬ r4 = 0 → A (4, [.ref 11, .ref l1, .int l2, .int (l3 + 0), .int (l4 + 1), .int r4, .int t0], [], s5)))))))))) ∧ (¬ (σ.1 l1 12) = 0 → (C 188 [.ref 11, .int (σ.1 l1 12), .int t0] σ (bRi (fun r10 s8 => (C 141 [.ref (256 * (1 * (l1 / 256) + 0) + 48), .int l4, .int r10] s8 (bRv (fun s11 => ((r10 = 0 → A (4, [.ref 11, .ref l1, .int l2, .int (l3 + 1), .int (l4 + 1), .int r10, .int t0], [], s11)) ∧ (¬ r10 = 0 → A (4, [.ref 11, .ref l1, .int l2, .int (l3 + 0), .int (l4 + 1), .int r10, .int t0], [], s11))))))))))))) : A (23, [.ref 11, .ref l1, .int l2, .int l3, .int l4, v5, v6], [.int t0], σ) := by
  refine bGo hA 1 7 (38, .istore 6, 2, 24, 0, [6], []) rfl rfl rfl ?_
  refine bGo hA 1 8 (40, .aload_n 1, 1, 25, 0, [1], []) rfl rfl rfl ?_
  refine bGo hA 1 9 (41, .getfield 185, 3, 26, 0, [8, 12, 0, 0, 0, 0], []) rfl rfl rfl ?_
  refine ⟨h.1, ?_⟩
  refine bGo hA 1 10 (44, .ifCond .ne (19), 3, 27, 37, [], []) rfl rfl rfl ?_
  refine ⟨fun c1 => ?_, fun c1 => ?_⟩
  · refine bGo hA 1 11 (47, .aload_n 0, 1, 28, 0, [0], []) rfl rfl rfl ?_
    refine bGo hA 1 12 (48, .aload_n 1, 1, 29, 0, [1], []) rfl rfl rfl ?_
    refine bGo hA 1 13 (49, .iload_n 2, 1, 30, 0, [2], []) rfl rfl rfl ?_
    refine bGo hA 1 14 (50, .iconst (4), 1, 31, 0, [], [(4, 0)]) rfl rfl rfl ?_
    refine bGo hA 1 15 (51, .imul, 1, 32, 0, [], []) rfl rfl rfl ?_
    refine bGo hA 2 0 (52, .iload 4, 2, 33, 0, [4], []) rfl rfl rfl ?_
    refine bGo hA 2 1 (54, .iadd, 1, 34, 0, [], []) rfl rfl rfl ?_
    refine bGo hA 2 2 (55, .iload 6, 2, 35, 0, [6], []) rfl rfl rfl ?_
    refine bGo hA 2 3 (57, .invokevirtual 287, 3, 36, 0, [0, 11, 187, 3], []) rfl rfl rfl ?_
    refine ⟨rfl, ?_⟩
    refine hC _ _ _ _ _ (bRi_e (fun r4 s2 k3 => ?_)) (h.2.1 c1)
    show A (36, [.ref 11, .ref l1, .int l2, .int l3, .int l4, (bUnl v5), .int t0], [.int r4], s2)
    refine bGo hA 2 4 (60, .goto (13), 3, 37, 42, [], []) rfl rfl rfl ?_
    refine bGo hA 2 10 (73, .istore 5, 2, 43, 0, [5], []) rfl rfl rfl ?_
    refine bGo hA 2 11 (75, .aload_n 1, 1, 44, 0, [1], []) rfl rfl rfl ?_
    refine bGo hA 2 12 (76, .getfield 295, 3, 45, 0, [8, 17, 3, 48, 1, 0], []) rfl rfl rfl ?_
    refine ⟨h.1, ?_⟩
    refine bGo hA 2 13 (79, .iload 4, 2, 46, 0, [4], []) rfl rfl rfl ?_
    refine bGo hA 2 14 (81, .iload 5, 2, 47, 0, [5], []) rfl rfl rfl ?_
    refine bGo hA 2 15 (83, .invokestatic 72, 3, 48, 0, [2, 141, 3], []) rfl rfl rfl ?_
    refine hC _ _ _ _ _ (bRv_e (fun s5 k6 => ?_)) k3
    show A (48, [.ref 11, .ref l1, .int l2, .int l3, .int l4, .int r4, .int t0], [], s5)
    refine bGo hA 3 0 (86, .iload_n 3, 1, 49, 0, [3], []) rfl rfl rfl ?_
    refine bGo hA 3 1 (87, .iload 5, 2, 50, 0, [5], []) rfl rfl rfl ?_
    refine bGo hA 3 2 (89, .ifCond .ne (7), 3, 51, 53, [], []) rfl rfl rfl ?_
    refine ⟨fun c7 => ?_, fun c7 => ?_⟩
    · refine bGo hA 3 3 (92, .iconst (1), 1, 52, 0, [], [(1, 0)]) rfl rfl rfl ?_
      refine bGo hA 3 4 (93, .goto (4), 3, 53, 54, [], []) rfl rfl rfl ?_
      refine bGo hA 3 6 (97, .iadd, 1, 55, 0, [], []) rfl rfl rfl ?_
      refine bGo hA 3 7 (98, .istore_n 3, 1, 56, 0, [3], []) rfl rfl rfl ?_
      refine bGo hA 3 8 (99, .iinc 4 (1), 3, 57, 0, [4], [(1, 0)]) rfl rfl rfl ?_
      refine bGo hA 3 9 (102, .goto (-97), 3, 58, 4, [], []) rfl rfl rfl ?_
      exact (k6.1 c7)
    · refine bGo hA 3 5 (96, .iconst (0), 1, 54, 0, [], [(0, 0)]) rfl rfl rfl ?_
      refine bGo hA 3 6 (97, .iadd, 1, 55, 0, [], []) rfl rfl rfl ?_
      refine bGo hA 3 7 (98, .istore_n 3, 1, 56, 0, [3], []) rfl rfl rfl ?_
      refine bGo hA 3 8 (99, .iinc 4 (1), 3, 57, 0, [4], [(1, 0)]) rfl rfl rfl ?_
      refine bGo hA 3 9 (102, .goto (-97), 3, 58, 4, [], []) rfl rfl rfl ?_
      exact (k6.2 c7)
  · refine bGo hA 2 5 (63, .aload_n 0, 1, 38, 0, [0], []) rfl rfl rfl ?_
    refine bGo hA 2 6 (64, .aload_n 1, 1, 39, 0, [1], []) rfl rfl rfl ?_
    refine bGo hA 2 7 (65, .getfield 185, 3, 40, 0, [8, 12, 0, 0, 0, 0], []) rfl rfl rfl ?_
    refine ⟨h.1, ?_⟩
    refine bGo hA 2 8 (68, .iload 6, 2, 41, 0, [6], []) rfl rfl rfl ?_
    refine bGo hA 2 9 (70, .invokevirtual 291, 3, 42, 0, [0, 11, 188, 2], []) rfl rfl rfl ?_
    refine ⟨rfl, ?_⟩
    refine hC _ _ _ _ _ (bRi_e (fun r10 s8 k9 => ?_)) (h.2.2 c1)
    show A (42, [.ref 11, .ref l1, .int l2, .int l3, .int l4, (bUnl v5), .int t0], [.int r10], s8)
    refine bGo hA 2 10 (73, .istore 5, 2, 43, 0, [5], []) rfl rfl rfl ?_
    refine bGo hA 2 11 (75, .aload_n 1, 1, 44, 0, [1], []) rfl rfl rfl ?_
    refine bGo hA 2 12 (76, .getfield 295, 3, 45, 0, [8, 17, 3, 48, 1, 0], []) rfl rfl rfl ?_
    refine ⟨h.1, ?_⟩
    refine bGo hA 2 13 (79, .iload 4, 2, 46, 0, [4], []) rfl rfl rfl ?_
    refine bGo hA 2 14 (81, .iload 5, 2, 47, 0, [5], []) rfl rfl rfl ?_
    refine bGo hA 2 15 (83, .invokestatic 72, 3, 48, 0, [2, 141, 3], []) rfl rfl rfl ?_
    refine hC _ _ _ _ _ (bRv_e (fun s11 k12 => ?_)) k9
    show A (48, [.ref 11, .ref l1, .int l2, .int l3, .int l4, .int r10, .int t0], [], s11)
    refine bGo hA 3 0 (86, .iload_n 3, 1, 49, 0, [3], []) rfl rfl rfl ?_
    refine bGo hA 3 1 (87, .iload 5, 2, 50, 0, [5], []) rfl rfl rfl ?_
    refine bGo hA 3 2 (89, .ifCond .ne (7), 3, 51, 53, [], []) rfl rfl rfl ?_
    refine ⟨fun c13 => ?_, fun c13 => ?_⟩
    · refine bGo hA 3 3 (92, .iconst (1), 1, 52, 0, [], [(1, 0)]) rfl rfl rfl ?_
      refine bGo hA 3 4 (93, .goto (4), 3, 53, 54, [], []) rfl rfl rfl ?_
      refine bGo hA 3 6 (97, .iadd, 1, 55, 0, [], []) rfl rfl rfl ?_
      refine bGo hA 3 7 (98, .istore_n 3, 1, 56, 0, [3], []) rfl rfl rfl ?_
      refine bGo hA 3 8 (99, .iinc 4 (1), 3, 57, 0, [4], [(1, 0)]) rfl rfl rfl ?_
      refine bGo hA 3 9 (102, .goto (-97), 3, 58, 4, [], []) rfl rfl rfl ?_
      exact (k12.1 c13)
    · refine bGo hA 3 5 (96, .iconst (0), 1, 54, 0, [], [(0, 0)]) rfl rfl rfl ?_
      refine bGo hA 3 6 (97, .iadd, 1, 55, 0, [], []) rfl rfl rfl ?_
      refine bGo hA 3 7 (98, .istore_n 3, 1, 56, 0, [3], []) rfl rfl rfl ?_
      refine bGo hA 3 8 (99, .iinc 4 (1), 3, 57, 0, [4], [(1, 0)]) rfl rfl rfl ?_
      refine bGo hA 3 9 (102, .goto (-97), 3, 58, 4, [], []) rfl rfl rfl ?_
      exact (k12.2 c13)

theorem sg187_0 {lvl : Nat} {C : bCall} {Q : bPost} {A : bPt → Prop} (hC : bMono C) (hA : bClosed lvl bm187 C Q A) {a1 : Nat} {x2 : Int32} {x3 : Int32} {σ : bSt} (h_a1 : a1 % 256 = 8)
  (h : (C 118 [.ref a1, .int x2] σ (bRi (fun r3 s1 => ((r3 = 0 → ((x3 = 0 → Q (.inl (some (.int 2))) s1) ∧ (¬ x3 = 0 → Q (.inl (some (.int 0))) s1))) ∧ (¬ r3 = 0 → ((x3 = 0 → Q (.inl (some (.int 2))) (bI s1 11 6 ((s1.1 11 6) + 1))) ∧ (¬ x3 = 0 → Q (.inl (some (.int 0))) (bI s1 11 6 ((s1.1 11 6) + 1)))))))))) : A (0, [.ref 11, .ref a1, .int x2, .int x3], [], σ) := by
  refine bGo hA 0 0 (0, .aload_n 1, 1, 1, 0, [1], []) rfl rfl rfl ?_
  refine bGo hA 0 1 (1, .iload_n 2, 1, 2, 0, [2], []) rfl rfl rfl ?_
  refine bGo hA 0 2 (2, .invokevirtual 298, 3, 3, 0, [0, 8, 118, 1], []) rfl rfl rfl ?_
  refine ⟨h_a1, ?_⟩
  refine hC _ _ _ _ _ (bRi_e (fun r3 s1 k2 => ?_)) h
  show A (3, [.ref 11, .ref a1, .int x2, .int x3], [.int r3], s1)
  refine bGo hA 0 3 (5, .ifCond .eq (13), 3, 4, 10, [], []) rfl rfl rfl ?_
  refine ⟨fun c4 => ?_, fun c4 => ?_⟩
  · refine bGo hA 0 10 (18, .iload_n 3, 1, 11, 0, [3], []) rfl rfl rfl ?_
    refine bGo hA 0 11 (19, .ifCond .eq (7), 3, 12, 14, [], []) rfl rfl rfl ?_
    refine ⟨fun c5 => ?_, fun c5 => ?_⟩
    · refine bGo hA 0 14 (26, .iconst (2), 1, 15, 0, [], [(2, 0)]) rfl rfl rfl ?_
      refine bGo hA 0 15 (27, .ireturn, 1, 0, 0, [1], []) rfl rfl rfl ?_
      exact ((k2.1 c4).1 c5)
    · refine bGo hA 0 12 (22, .iconst (0), 1, 13, 0, [], [(0, 0)]) rfl rfl rfl ?_
      refine bGo hA 0 13 (23, .goto (4), 3, 14, 15, [], []) rfl rfl rfl ?_
      refine bGo hA 0 15 (27, .ireturn, 1, 0, 0, [1], []) rfl rfl rfl ?_
      exact ((k2.1 c4).2 c5)
  · refine bGo hA 0 4 (8, .aload_n 0, 1, 5, 0, [0], []) rfl rfl rfl ?_
    refine bGo hA 0 5 (9, .dup, 1, 6, 0, [], []) rfl rfl rfl ?_
    refine bGo hA 0 6 (10, .getfield 274, 3, 7, 0, [11, 6, 0, 0, 0, 0], []) rfl rfl rfl ?_
    refine ⟨rfl, ?_⟩
    refine bGo hA 0 7 (13, .iconst (1), 1, 8, 0, [], [(1, 0)]) rfl rfl rfl ?_
    refine bGo hA 0 8 (14, .iadd, 1, 9, 0, [], []) rfl rfl rfl ?_
    refine bGo hA 0 9 (15, .putfield 274, 3, 10, 0, [11, 6, 0, 0, 0, 0], []) rfl rfl rfl ?_
    refine ⟨rfl, ?_⟩
    refine bGo hA 0 10 (18, .iload_n 3, 1, 11, 0, [3], []) rfl rfl rfl ?_
    refine bGo hA 0 11 (19, .ifCond .eq (7), 3, 12, 14, [], []) rfl rfl rfl ?_
    refine ⟨fun c6 => ?_, fun c6 => ?_⟩
    · refine bGo hA 0 14 (26, .iconst (2), 1, 15, 0, [], [(2, 0)]) rfl rfl rfl ?_
      refine bGo hA 0 15 (27, .ireturn, 1, 0, 0, [1], []) rfl rfl rfl ?_
      exact ((k2.2 c4).1 c6)
    · refine bGo hA 0 12 (22, .iconst (0), 1, 13, 0, [], [(0, 0)]) rfl rfl rfl ?_
      refine bGo hA 0 13 (23, .goto (4), 3, 14, 15, [], []) rfl rfl rfl ?_
      refine bGo hA 0 15 (27, .ireturn, 1, 0, 0, [1], []) rfl rfl rfl ?_
      exact ((k2.2 c4).2 c6)

theorem sg188_0 {lvl : Nat} {C : bCall} {Q : bPost} {A : bPt → Prop} (hC : bMono C) (hA : bClosed lvl bm188 C Q A) {x1 : Int32} {x2 : Int32} {σ : bSt} 
  (h : A (2, [.ref 11, .int x1, .int x2, .int 0], [], σ)) : A (0, [.ref 11, .int x1, .int x2, .float 0], [], σ) := by
  refine bGo hA 0 0 (0, .iconst (0), 1, 1, 0, [], [(0, 0)]) rfl rfl rfl ?_
  refine bGo hA 0 1 (1, .istore_n 3, 1, 2, 0, [3], []) rfl rfl rfl ?_
  exact h

theorem sg188_2 {lvl : Nat} {C : bCall} {Q : bPost} {A : bPt → Prop} (hC : bMono C) (hA : bClosed lvl bm188 C Q A) {l1 : Int32} {l2 : Int32} {l3 : Int32} {σ : bSt} 
  (h : ((l3 < 3 → (((lg_cmp ((((bJ (bI σ 11 6 ((σ.1 11 6) + 1)) 11 7 (((((bI σ 11 6 ((σ.1 11 6) + 1)).2.1 11 7) * (Int64.ofNat 1103515245)) + (Int64.ofNat 12345)) - ((((bI σ 11 6 ((σ.1 11 6) + 1)).2.1 11 7) * (Int64.ofNat 1103515245)) + (Int64.ofNat 12345)) / (Int64.ofNat 2147483648) * (Int64.ofNat 2147483648))).2.1 11 7) / (Int64.ofNat 65536)) - (((bJ (bI σ 11 6 ((σ.1 11 6) + 1)) 11 7 (((((bI σ 11 6 ((σ.1 11 6) + 1)).2.1 11 7) * (Int64.ofNat 1103515245)) + (Int64.ofNat 12345)) - ((((bI σ 11 6 ((σ.1 11 6) + 1)).2.1 11 7) * (Int64.ofNat 1103515245)) + (Int64.ofNat 12345)) / (Int64.ofNat 2147483648) * (Int64.ofNat 2147483648))).2.1 11 7) / (Int64.ofNat 65536)) / (Int64.ofNat 10) * (Int64.ofNat 10)) (Int32.toInt64 l1)) < 0 → A (2, [.ref 11, .int l1, .int l2, .int (l3 + 1)], [], (bJ (bI σ 11 6 ((σ.1 11 6) + 1)) 11 7 (((((bI σ 11 6 ((σ.1 11 6) + 1)).2.1 11 7) * (Int64.ofNat 1103515245)) + (Int64.ofNat 12345)) - ((((bI σ 11 6 ((σ.1 11 6) + 1)).2.1 11 7) * (Int64.ofNat 1103515245)) + (Int64.ofNat 12345)) / (Int64.ofNat 2147483648) * (Int64.ofNat 2147483648))))) ∧ (¬ (lg_cmp ((((bJ (bI σ 11 6 ((σ.1 11 6) + 1)) 11 7 (((((bI σ 11 6 ((σ.1 11 6) + 1)).2.1 11 7) * (Int64.ofNat 1103515245)) + (Int64.ofNat 12345)) - ((((bI σ 11 6 ((σ.1 11 6) + 1)).2.1 11 7) * (Int64.ofNat 1103515245)) + (Int64.ofNat 12345)) / (Int64.ofNat 2147483648) * (Int64.ofNat 2147483648))).2.1 11 7) / (Int64.ofNat 65536)) - (((bJ (bI σ 11 6 ((σ.1 11 6) + 1)) 11 7 (((((bI σ 11 6 ((σ.1 11 6) + 1)).2.1 11 7) * (Int64.ofNat 1103515245)) + (Int64.ofNat 12345)) - ((((bI σ 11 6 ((σ.1 11 6) + 1)).2.1 11 7) * (Int64.ofNat 1103515245)) + (Int64.ofNat 12345)) / (Int64.ofNat 2147483648) * (Int64.ofNat 2147483648))).2.1 11 7) / (Int64.ofNat 65536)) / (Int64.ofNat 10) * (Int64.ofNat 10)) (Int32.toInt64 l1)) < 0 → ((l2 = 0 → A (2, [.ref 11, .int l1, .int l2, .int (l3 + 1)], [], (bJ (bI σ 11 6 ((σ.1 11 6) + 1)) 11 7 (((((bI σ 11 6 ((σ.1 11 6) + 1)).2.1 11 7) * (Int64.ofNat 1103515245)) + (Int64.ofNat 12345)) - ((((bI σ 11 6 ((σ.1 11 6) + 1)).2.1 11 7) * (Int64.ofNat 1103515245)) + (Int64.ofNat 12345)) / (Int64.ofNat 2147483648) * (Int64.ofNat 2147483648))))) ∧ (¬ l2 = 0 → ((l3 = 0 → Q (.inl (some (.int 0))) (bJ (bI σ 11 6 ((σ.1 11 6) + 1)) 11 7 (((((bI σ 11 6 ((σ.1 11 6) + 1)).2.1 11 7) * (Int64.ofNat 1103515245)) + (Int64.ofNat 12345)) - ((((bI σ 11 6 ((σ.1 11 6) + 1)).2.1 11 7) * (Int64.ofNat 1103515245)) + (Int64.ofNat 12345)) / (Int64.ofNat 2147483648) * (Int64.ofNat 2147483648)))) ∧ (¬ l3 = 0 → Q (.inl (some (.int 1))) (bJ (bI σ 11 6 ((σ.1 11 6) + 1)) 11 7 (((((bI σ 11 6 ((σ.1 11 6) + 1)).2.1 11 7) * (Int64.ofNat 1103515245)) + (Int64.ofNat 12345)) - ((((bI σ 11 6 ((σ.1 11 6) + 1)).2.1 11 7) * (Int64.ofNat 1103515245)) + (Int64.ofNat 12345)) / (Int64.ofNat 2147483648) * (Int64.ofNat 2147483648)))))))))) ∧ (¬ l3 < 3 → Q (.inl (some (.int 2))) σ))) : A (2, [.ref 11, .int l1, .int l2, .int l3], [], σ) := by
  refine bGo hA 0 2 (2, .iload_n 3, 1, 3, 0, [3], []) rfl rfl rfl ?_
  refine bGo hA 0 3 (3, .iconst (3), 1, 4, 0, [], [(3, 0)]) rfl rfl rfl ?_
  refine bGo hA 0 4 (4, .if_icmp .ge (71), 3, 5, 41, [], []) rfl rfl rfl ?_
  refine ⟨fun c1 => ?_, fun c1 => ?_⟩
  · refine bGo hA 0 5 (7, .aload_n 0, 1, 6, 0, [0], []) rfl rfl rfl ?_
    refine bGo hA 0 6 (8, .dup, 1, 7, 0, [], []) rfl rfl rfl ?_
    refine bGo hA 0 7 (9, .getfield 274, 3, 8, 0, [11, 6, 0, 0, 0, 0], []) rfl rfl rfl ?_
    refine ⟨rfl, ?_⟩
    refine bGo hA 0 8 (12, .iconst (1), 1, 9, 0, [], [(1, 0)]) rfl rfl rfl ?_
    refine bGo hA 0 9 (13, .iadd, 1, 10, 0, [], []) rfl rfl rfl ?_
    refine bGo hA 0 10 (14, .putfield 274, 3, 11, 0, [11, 6, 0, 0, 0, 0], []) rfl rfl rfl ?_
    refine ⟨rfl, ?_⟩
    refine bGo hA 0 11 (17, .aload_n 0, 1, 12, 0, [0], []) rfl rfl rfl ?_
    refine bGo hA 0 12 (18, .aload_n 0, 1, 13, 0, [0], []) rfl rfl rfl ?_
    refine bGo hA 0 13 (19, .getfield 55, 3, 14, 0, [11, 7, 2, 0, 0, 0], []) rfl rfl rfl ?_
    refine ⟨rfl, ?_⟩
    refine bGo hA 0 14 (22, .ldc2_w 301, 3, 15, 0, [1103515245], []) rfl rfl rfl ?_
    refine bGo hA 0 15 (25, .lmul, 1, 16, 0, [], []) rfl rfl rfl ?_
    refine bGo hA 1 0 (26, .ldc2_w 303, 3, 17, 0, [12345], []) rfl rfl rfl ?_
    refine bGo hA 1 1 (29, .ladd, 1, 18, 0, [], []) rfl rfl rfl ?_
    refine bGo hA 1 2 (30, .ldc2_w 305, 3, 19, 0, [2147483648], []) rfl rfl rfl ?_
    refine bGo hA 1 3 (33, .lrem, 1, 20, 0, [], []) rfl rfl rfl ?_
    refine ⟨by decide, ?_⟩
    refine bGo hA 1 4 (34, .putfield 55, 3, 21, 0, [11, 7, 2, 0, 0, 0], []) rfl rfl rfl ?_
    refine ⟨rfl, ?_⟩
    refine bGo hA 1 5 (37, .aload_n 0, 1, 22, 0, [0], []) rfl rfl rfl ?_
    refine bGo hA 1 6 (38, .getfield 55, 3, 23, 0, [11, 7, 2, 0, 0, 0], []) rfl rfl rfl ?_
    refine ⟨rfl, ?_⟩
    refine bGo hA 1 7 (41, .ldc2_w 307, 3, 24, 0, [65536], []) rfl rfl rfl ?_
    refine bGo hA 1 8 (44, .ldiv, 1, 25, 0, [], []) rfl rfl rfl ?_
    refine ⟨by decide, ?_⟩
    refine bGo hA 1 9 (45, .ldc2_w 309, 3, 26, 0, [10], []) rfl rfl rfl ?_
    refine bGo hA 1 10 (48, .lrem, 1, 27, 0, [], []) rfl rfl rfl ?_
    refine ⟨by decide, ?_⟩
    refine bGo hA 1 11 (49, .iload_n 1, 1, 28, 0, [1], []) rfl rfl rfl ?_
    refine bGo hA 1 12 (50, .i2l, 1, 29, 0, [], []) rfl rfl rfl ?_
    refine bGo hA 1 13 (51, .lcmp, 1, 30, 0, [], []) rfl rfl rfl ?_
    refine bGo hA 1 14 (52, .ifCond .lt (17), 3, 31, 39, [], []) rfl rfl rfl ?_
    refine ⟨fun c2 => ?_, fun c2 => ?_⟩
    · refine bGo hA 2 7 (69, .iinc 3 (1), 3, 40, 0, [3], [(1, 0)]) rfl rfl rfl ?_
      refine bGo hA 2 8 (72, .goto (-70), 3, 41, 2, [], []) rfl rfl rfl ?_
      exact ((h.1 c1).1 c2)
    · refine bGo hA 1 15 (55, .iload_n 2, 1, 32, 0, [2], []) rfl rfl rfl ?_
      refine bGo hA 2 0 (56, .ifCond .eq (13), 3, 33, 39, [], []) rfl rfl rfl ?_
      refine ⟨fun c3 => ?_, fun c3 => ?_⟩
      · refine bGo hA 2 7 (69, .iinc 3 (1), 3, 40, 0, [3], [(1, 0)]) rfl rfl rfl ?_
        refine bGo hA 2 8 (72, .goto (-70), 3, 41, 2, [], []) rfl rfl rfl ?_
        exact (((h.1 c1).2 c2).1 c3)
      · refine bGo hA 2 1 (59, .iload_n 3, 1, 34, 0, [3], []) rfl rfl rfl ?_
        refine bGo hA 2 2 (60, .ifCond .ne (7), 3, 35, 37, [], []) rfl rfl rfl ?_
        refine ⟨fun c4 => ?_, fun c4 => ?_⟩
        · refine bGo hA 2 3 (63, .iconst (0), 1, 36, 0, [], [(0, 0)]) rfl rfl rfl ?_
          refine bGo hA 2 4 (64, .goto (4), 3, 37, 38, [], []) rfl rfl rfl ?_
          refine bGo hA 2 6 (68, .ireturn, 1, 39, 0, [1], []) rfl rfl rfl ?_
          exact ((((h.1 c1).2 c2).2 c3).1 c4)
        · refine bGo hA 2 5 (67, .iconst (1), 1, 38, 0, [], [(1, 0)]) rfl rfl rfl ?_
          refine bGo hA 2 6 (68, .ireturn, 1, 39, 0, [1], []) rfl rfl rfl ?_
          exact ((((h.1 c1).2 c2).2 c3).2 c4)
  · refine bGo hA 2 9 (75, .iconst (2), 1, 42, 0, [], [(2, 0)]) rfl rfl rfl ?_
    refine bGo hA 2 10 (76, .ireturn, 1, 0, 0, [1], []) rfl rfl rfl ?_
    exact (h.2 c1)

theorem sg189_0 {lvl : Nat} {C : bCall} {Q : bPost} {A : bPt → Prop} (hC : bMono C) (hA : bClosed lvl bm189 C Q A) {x1 : Int32} {x2 : Int32} {σ : bSt} 
  (h : (C 136 [.int x1, .int (σ.1 9 0)] σ (bRvx (fun s1 => (C 136 [.int x2, .int 4] s1 (bRvx (fun s3 => (C 120 [.ref 9, .int x1] s3 (bRa (fun r7 s5 => (r7 % 256 = 8 ∧ (C 140 [.ref (256 * (1 * (r7 / 256) + 0) + 48), .int x2] s5 (bRi (fun r10 s8 => Q (.inl (some (.int r10))) s8)))))))) (fun E s3 => Q (.inr E) s3)))) (fun E s1 => Q (.inr E) s1)))) : A (0, [.ref 11, .int x1, .int x2], [], σ) := by
  refine bGo hA 0 0 (0, .iload_n 1, 1, 1, 0, [1], []) rfl rfl rfl ?_
  refine bGo hA 0 1 (1, .aload_n 0, 1, 2, 0, [0], []) rfl rfl rfl ?_
  refine bGo hA 0 2 (2, .getfield 33, 3, 3, 0, [11, 3, 3, 9, 0, 0], []) rfl rfl rfl ?_
  refine ⟨rfl, ?_⟩
  refine bGo hA 0 3 (5, .getfield 144, 3, 4, 0, [9, 0, 0, 0, 0, 0], []) rfl rfl rfl ?_
  refine ⟨rfl, ?_⟩
  refine bGo hA 0 4 (8, .invokestatic 76, 3, 5, 0, [2, 136, 2], []) rfl rfl rfl ?_
  refine hC _ _ _ _ _ (bRvx_e (fun s1 k2 => ?_) (fun E s1 k2 => ?_)) h
  · show A (5, [.ref 11, .int x1, .int x2], [], s1)
    refine bGo hA 0 5 (11, .iload_n 2, 1, 6, 0, [2], []) rfl rfl rfl ?_
    refine bGo hA 0 6 (12, .iconst (4), 1, 7, 0, [], [(4, 0)]) rfl rfl rfl ?_
    refine bGo hA 0 7 (13, .invokestatic 76, 3, 8, 0, [2, 136, 2], []) rfl rfl rfl ?_
    refine hC _ _ _ _ _ (bRvx_e (fun s3 k4 => ?_) (fun E s3 k4 => ?_)) k2
    · show A (8, [.ref 11, .int x1, .int x2], [], s3)
      refine bGo hA 0 8 (16, .aload_n 0, 1, 9, 0, [0], []) rfl rfl rfl ?_
      refine bGo hA 0 9 (17, .getfield 33, 3, 10, 0, [11, 3, 3, 9, 0, 0], []) rfl rfl rfl ?_
      refine ⟨rfl, ?_⟩
      refine bGo hA 0 10 (20, .iload_n 1, 1, 11, 0, [1], []) rfl rfl rfl ?_
      refine bGo hA 0 11 (21, .invokevirtual 147, 3, 12, 0, [0, 9, 120, 1], []) rfl rfl rfl ?_
      refine ⟨rfl, ?_⟩
      refine hC _ _ _ _ _ (bRa_e (fun r7 s5 k6 => ?_)) k4
      show A (12, [.ref 11, .int x1, .int x2], [.ref r7], s5)
      refine bGo hA 0 12 (24, .getfield 295, 3, 13, 0, [8, 17, 3, 48, 1, 0], []) rfl rfl rfl ?_
      refine ⟨k6.1, ?_⟩
      refine bGo hA 0 13 (27, .iload_n 2, 1, 14, 0, [2], []) rfl rfl rfl ?_
      refine bGo hA 0 14 (28, .invokestatic 68, 3, 15, 0, [2, 140, 2], []) rfl rfl rfl ?_
      refine hC _ _ _ _ _ (bRi_e (fun r10 s8 k9 => ?_)) k6.2
      show A (15, [.ref 11, .int x1, .int x2], [.int r10], s8)
      refine bGo hA 0 15 (31, .ireturn, 1, 0, 0, [1], []) rfl rfl rfl ?_
      exact k9
    · exact k4
  · exact k2

theorem sg190_0 {lvl : Nat} {C : bCall} {Q : bPost} {A : bPt → Prop} (hC : bMono C) (hA : bClosed lvl bm190 C Q A)  {σ : bSt} 
  (h : Q (.inl (some (.int (σ.1 11 6)))) σ) : A (0, [.ref 11], [], σ) := by
  refine bGo hA 0 0 (0, .aload_n 0, 1, 1, 0, [0], []) rfl rfl rfl ?_
  refine bGo hA 0 1 (1, .getfield 274, 3, 2, 0, [11, 6, 0, 0, 0, 0], []) rfl rfl rfl ?_
  refine ⟨rfl, ?_⟩
  refine bGo hA 0 2 (4, .ireturn, 1, 0, 0, [1], []) rfl rfl rfl ?_
  exact h

theorem sg191_0 {lvl : Nat} {C : bCall} {Q : bPost} {A : bPt → Prop} (hC : bMono C) (hA : bClosed lvl bm191 C Q A) {x1 : Int32} {σ : bSt} 
  (h : (C 138 [.int x1, .int 0, .int 2147483647] σ (bRvx (fun s1 => Q (.inl none) (bJ s1 11 7 (Int32.toInt64 x1))) (fun E s1 => Q (.inr E) s1)))) : A (0, [.ref 11, .int x1], [], σ) := by
  refine bGo hA 0 0 (0, .iload_n 1, 1, 1, 0, [1], []) rfl rfl rfl ?_
  refine bGo hA 0 1 (1, .iconst (0), 1, 2, 0, [], [(0, 0)]) rfl rfl rfl ?_
  refine bGo hA 0 2 (2, .ldc_w 311, 3, 3, 0, [311], [(2147483647, 0)]) rfl rfl rfl ?_
  refine bGo hA 0 3 (5, .invokestatic 80, 3, 4, 0, [2, 138, 3], []) rfl rfl rfl ?_
  refine hC _ _ _ _ _ (bRvx_e (fun s1 k2 => ?_) (fun E s1 k2 => ?_)) h
  · show A (4, [.ref 11, .int x1], [], s1)
    refine bGo hA 0 4 (8, .aload_n 0, 1, 5, 0, [0], []) rfl rfl rfl ?_
    refine bGo hA 0 5 (9, .iload_n 1, 1, 6, 0, [1], []) rfl rfl rfl ?_
    refine bGo hA 0 6 (10, .i2l, 1, 7, 0, [], []) rfl rfl rfl ?_
    refine bGo hA 0 7 (11, .putfield 55, 3, 8, 0, [11, 7, 2, 0, 0, 0], []) rfl rfl rfl ?_
    refine ⟨rfl, ?_⟩
    refine bGo hA 0 8 (14, .return_, 1, 0, 0, [0], []) rfl rfl rfl ?_
    exact k2
  · exact k2

theorem sg192_0 {lvl : Nat} {C : bCall} {Q : bPost} {A : bPt → Prop} (hC : bMono C) (hA : bClosed lvl bm192 C Q A) {x1 : Int32} {x2 : Int32} {x3 : Int32} {σ : bSt} 
  (h : (C 136 [.int x1, .int (σ.1 9 0)] σ (bRvx (fun s1 => (C 136 [.int x2, .int (s1.1 9 0)] s1 (bRvx (fun s3 => (C 137 [.int x3] s3 (bRvx (fun s5 => (C 125 [.ref 9, .int x1, .int x2, .int x3] s5 (bRi (fun r9 s7 => Q (.inl (some (.int r9))) s7)))) (fun E s5 => Q (.inr E) s5)))) (fun E s3 => Q (.inr E) s3)))) (fun E s1 => Q (.inr E) s1)))) : A (0, [.ref 11, .int x1, .int x2, .int x3], [], σ) := by
  refine bGo hA 0 0 (0, .iload_n 1, 1, 1, 0, [1], []) rfl rfl rfl ?_
  refine bGo hA 0 1 (1, .aload_n 0, 1, 2, 0, [0], []) rfl rfl rfl ?_
  refine bGo hA 0 2 (2, .getfield 33, 3, 3, 0, [11, 3, 3, 9, 0, 0], []) rfl rfl rfl ?_
  refine ⟨rfl, ?_⟩
  refine bGo hA 0 3 (5, .getfield 144, 3, 4, 0, [9, 0, 0, 0, 0, 0], []) rfl rfl rfl ?_
  refine ⟨rfl, ?_⟩
  refine bGo hA 0 4 (8, .invokestatic 76, 3, 5, 0, [2, 136, 2], []) rfl rfl rfl ?_
  refine hC _ _ _ _ _ (bRvx_e (fun s1 k2 => ?_) (fun E s1 k2 => ?_)) h
  · show A (5, [.ref 11, .int x1, .int x2, .int x3], [], s1)
    refine bGo hA 0 5 (11, .iload_n 2, 1, 6, 0, [2], []) rfl rfl rfl ?_
    refine bGo hA 0 6 (12, .aload_n 0, 1, 7, 0, [0], []) rfl rfl rfl ?_
    refine bGo hA 0 7 (13, .getfield 33, 3, 8, 0, [11, 3, 3, 9, 0, 0], []) rfl rfl rfl ?_
    refine ⟨rfl, ?_⟩
    refine bGo hA 0 8 (16, .getfield 144, 3, 9, 0, [9, 0, 0, 0, 0, 0], []) rfl rfl rfl ?_
    refine ⟨rfl, ?_⟩
    refine bGo hA 0 9 (19, .invokestatic 76, 3, 10, 0, [2, 136, 2], []) rfl rfl rfl ?_
    refine hC _ _ _ _ _ (bRvx_e (fun s3 k4 => ?_) (fun E s3 k4 => ?_)) k2
    · show A (10, [.ref 11, .int x1, .int x2, .int x3], [], s3)
      refine bGo hA 0 10 (22, .iload_n 3, 1, 11, 0, [3], []) rfl rfl rfl ?_
      refine bGo hA 0 11 (23, .invokestatic 121, 3, 12, 0, [2, 137, 1], []) rfl rfl rfl ?_
      refine hC _ _ _ _ _ (bRvx_e (fun s5 k6 => ?_) (fun E s5 k6 => ?_)) k4
      · show A (12, [.ref 11, .int x1, .int x2, .int x3], [], s5)
        refine bGo hA 0 12 (26, .aload_n 0, 1, 13, 0, [0], []) rfl rfl rfl ?_
        refine bGo hA 0 13 (27, .getfield 33, 3, 14, 0, [11, 3, 3, 9, 0, 0], []) rfl rfl rfl ?_
        refine ⟨rfl, ?_⟩
        refine bGo hA 0 14 (30, .iload_n 1, 1, 15, 0, [1], []) rfl rfl rfl ?_
        refine bGo hA 0 15 (31, .iload_n 2, 1, 16, 0, [2], []) rfl rfl rfl ?_
        refine bGo hA 1 0 (32, .iload_n 3, 1, 17, 0, [3], []) rfl rfl rfl ?_
        refine bGo hA 1 1 (33, .invokevirtual 312, 3, 18, 0, [0, 9, 125, 3], []) rfl rfl rfl ?_
        refine ⟨rfl, ?_⟩
        refine hC _ _ _ _ _ (bRi_e (fun r9 s7 k8 => ?_)) k6
        show A (18, [.ref 11, .int x1, .int x2, .int x3], [.int r9], s7)
        refine bGo hA 1 2 (36, .ireturn, 1, 0, 0, [1], []) rfl rfl rfl ?_
        exact k8
      · exact k6
    · exact k4
  · exact k2

theorem sg193_0 {lvl : Nat} {C : bCall} {Q : bPost} {A : bPt → Prop} (hC : bMono C) (hA : bClosed lvl bm193 C Q A) {x1 : Int32} {x2 : Int32} {σ : bSt} 
  (h : (C 136 [.int x1, .int (σ.1 9 0)] σ (bRvx (fun s1 => (C 136 [.int x2, .int (s1.1 9 0)] s1 (bRvx (fun s3 => (C 123 [.ref 9, .int x1] s3 (bRi (fun r7 s5 => ((((r7 >>> (x2 &&& 31)) &&& 1) = 0 → Q (.inl (some (.int 0))) s5) ∧ (¬ ((r7 >>> (x2 &&& 31)) &&& 1) = 0 → (C 124 [.ref 9, .int x2] s5 (bRi (fun r11 s9 => Q (.inl (some (.int (r7 &&& r11)))) s9))))))))) (fun E s3 => Q (.inr E) s3)))) (fun E s1 => Q (.inr E) s1)))) : A (0, [.ref 11, .int x1, .int x2, .float 0], [], σ) := by
  refine bGo hA 0 0 (0, .iload_n 1, 1, 1, 0, [1], []) rfl rfl rfl ?_
  refine bGo hA 0 1 (1, .aload_n 0, 1, 2, 0, [0], []) rfl rfl rfl ?_
  refine bGo hA 0 2 (2, .getfield 33, 3, 3, 0, [11, 3, 3, 9, 0, 0], []) rfl rfl rfl ?_
  refine ⟨rfl, ?_⟩
  refine bGo hA 0 3 (5, .getfield 144, 3, 4, 0, [9, 0, 0, 0, 0, 0], []) rfl rfl rfl ?_
  refine ⟨rfl, ?_⟩
  refine bGo hA 0 4 (8, .invokestatic 76, 3, 5, 0, [2, 136, 2], []) rfl rfl rfl ?_
  refine hC _ _ _ _ _ (bRvx_e (fun s1 k2 => ?_) (fun E s1 k2 => ?_)) h
  · show A (5, [.ref 11, .int x1, .int x2, .float 0], [], s1)
    refine bGo hA 0 5 (11, .iload_n 2, 1, 6, 0, [2], []) rfl rfl rfl ?_
    refine bGo hA 0 6 (12, .aload_n 0, 1, 7, 0, [0], []) rfl rfl rfl ?_
    refine bGo hA 0 7 (13, .getfield 33, 3, 8, 0, [11, 3, 3, 9, 0, 0], []) rfl rfl rfl ?_
    refine ⟨rfl, ?_⟩
    refine bGo hA 0 8 (16, .getfield 144, 3, 9, 0, [9, 0, 0, 0, 0, 0], []) rfl rfl rfl ?_
    refine ⟨rfl, ?_⟩
    refine bGo hA 0 9 (19, .invokestatic 76, 3, 10, 0, [2, 136, 2], []) rfl rfl rfl ?_
    refine hC _ _ _ _ _ (bRvx_e (fun s3 k4 => ?_) (fun E s3 k4 => ?_)) k2
    · show A (10, [.ref 11, .int x1, .int x2, .float 0], [], s3)
      refine bGo hA 0 10 (22, .aload_n 0, 1, 11, 0, [0], []) rfl rfl rfl ?_
      refine bGo hA 0 11 (23, .getfield 33, 3, 12, 0, [11, 3, 3, 9, 0, 0], []) rfl rfl rfl ?_
      refine ⟨rfl, ?_⟩
      refine bGo hA 0 12 (26, .iload_n 1, 1, 13, 0, [1], []) rfl rfl rfl ?_
      refine bGo hA 0 13 (27, .invokevirtual 315, 3, 14, 0, [0, 9, 123, 1], []) rfl rfl rfl ?_
      refine ⟨rfl, ?_⟩
      refine hC _ _ _ _ _ (bRi_e (fun r7 s5 k6 => ?_)) k4
      show A (14, [.ref 11, .int x1, .int x2, .float 0], [.int r7], s5)
      refine bGo hA 0 14 (30, .istore_n 3, 1, 15, 0, [3], []) rfl rfl rfl ?_
      refine bGo hA 0 15 (31, .iload_n 3, 1, 16, 0, [3], []) rfl rfl rfl ?_
      refine bGo hA 1 0 (32, .iload_n 2, 1, 17, 0, [2], []) rfl rfl rfl ?_
      refine bGo hA 1 1 (33, .ishr, 1, 18, 0, [], []) rfl rfl rfl ?_
      refine bGo hA 1 2 (34, .iconst (1), 1, 19, 0, [], [(1, 0)]) rfl rfl rfl ?_
      refine bGo hA 1 3 (35, .iand, 1, 20, 0, [], []) rfl rfl rfl ?_
      refine bGo hA 1 4 (36, .ifCond .ne (7), 3, 21, 23, [], []) rfl rfl rfl ?_
      refine ⟨fun c8 => ?_, fun c8 => ?_⟩
      · refine bGo hA 1 5 (39, .iconst (0), 1, 22, 0, [], [(0, 0)]) rfl rfl rfl ?_
        refine bGo hA 1 6 (40, .goto (13), 3, 23, 29, [], []) rfl rfl rfl ?_
        refine bGo hA 1 13 (53, .ireturn, 1, 0, 0, [1], []) rfl rfl rfl ?_
        exact (k6.1 c8)
      · refine bGo hA 1 7 (43, .iload_n 3, 1, 24, 0, [3], []) rfl rfl rfl ?_
        refine bGo hA 1 8 (44, .aload_n 0, 1, 25, 0, [0], []) rfl rfl rfl ?_
        refine bGo hA 1 9 (45, .getfield 33, 3, 26, 0, [11, 3, 3, 9, 0, 0], []) rfl rfl rfl ?_
        refine ⟨rfl, ?_⟩
        refine bGo hA 1 10 (48, .iload_n 2, 1, 27, 0, [2], []) rfl rfl rfl ?_
        refine bGo hA 1 11 (49, .invokevirtual 318, 3, 28, 0, [0, 9, 124, 1], []) rfl rfl rfl ?_
        refine ⟨rfl, ?_⟩
        refine hC _ _ _ _ _ (bRi_e (fun r11 s9 k10 => ?_)) (k6.2 c8)
        show A (28, [.ref 11, .int x1, .int x2, .int r7], [.int r11, .int r7], s9)
        refine bGo hA 1 12 (52, .iand, 1, 29, 0, [], []) rfl rfl rfl ?_
        refine bGo hA 1 13 (53, .ireturn, 1, 0, 0, [1], []) rfl rfl rfl ?_
        exact k10
    · exact k4
  · exact k2

theorem sg194_0 {lvl : Nat} {C : bCall} {Q : bPost} {A : bPt → Prop} (hC : bMono C) (hA : bClosed lvl bm194 C Q A) {x1 : Int32} {σ : bSt} 
  (h : (C 136 [.int x1, .int (σ.1 9 0)] σ (bRvx (fun s1 => (C 124 [.ref 9, .int x1] s1 (bRi (fun r5 s3 => Q (.inl (some (.int r5))) s3)))) (fun E s1 => Q (.inr E) s1)))) : A (0, [.ref 11, .int x1], [], σ) := by
  refine bGo hA 0 0 (0, .iload_n 1, 1, 1, 0, [1], []) rfl rfl rfl ?_
  refine bGo hA 0 1 (1, .aload_n 0, 1, 2, 0, [0], []) rfl rfl rfl ?_
  refine bGo hA 0 2 (2, .getfield 33, 3, 3, 0, [11, 3, 3, 9, 0, 0], []) rfl rfl rfl ?_
  refine ⟨rfl, ?_⟩
  refine bGo hA 0 3 (5, .getfield 144, 3, 4, 0, [9, 0, 0, 0, 0, 0], []) rfl rfl rfl ?_
  refine ⟨rfl, ?_⟩
  refine bGo hA 0 4 (8, .invokestatic 76, 3, 5, 0, [2, 136, 2], []) rfl rfl rfl ?_
  refine hC _ _ _ _ _ (bRvx_e (fun s1 k2 => ?_) (fun E s1 k2 => ?_)) h
  · show A (5, [.ref 11, .int x1], [], s1)
    refine bGo hA 0 5 (11, .aload_n 0, 1, 6, 0, [0], []) rfl rfl rfl ?_
    refine bGo hA 0 6 (12, .getfield 33, 3, 7, 0, [11, 3, 3, 9, 0, 0], []) rfl rfl rfl ?_
    refine ⟨rfl, ?_⟩
    refine bGo hA 0 7 (15, .iload_n 1, 1, 8, 0, [1], []) rfl rfl rfl ?_
    refine bGo hA 0 8 (16, .invokevirtual 318, 3, 9, 0, [0, 9, 124, 1], []) rfl rfl rfl ?_
    refine ⟨rfl, ?_⟩
    refine hC _ _ _ _ _ (bRi_e (fun r5 s3 k4 => ?_)) k2
    show A (9, [.ref 11, .int x1], [.int r5], s3)
    refine bGo hA 0 9 (19, .ireturn, 1, 0, 0, [1], []) rfl rfl rfl ?_
    exact k4
  · exact k2

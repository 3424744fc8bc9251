/-! segments of methods 0,15,23,37,45,67,90,109,119,128,135,195, by program (wip/whole/gen8.py): from a cut of a method on to the next cuts -/
theorem sq0_0 {lvl : Nat} {C : bCall} {Q : bPost} {A : bPt → Prop} (hC : bMono C) (hA : bClosed lvl bm0 C Q A) {a0 : Nat} {σ : bSt} (h_a0 : a0 % 256 = 0) 
  (h : (σ.2.2.2.1 (256 * (1 * (a0 / 256) + 0) + 13) = 0 ∧ ((40 : Int) = (bLen σ (256 * (1 * (a0 / 256) + 0) + 13) : Int) ∧ ((256 * (1 * (a0 / 256) + 0) + 13) % 256 < 200 ∧ ((bLen σ (256 * (1 * (a0 / 256) + 0) + 13)) ≤ 10000 ∧ ((bwr (bNew σ (256 * (1 * (a0 / 256) + 0) + 13) 2 (bLen σ (256 * (1 * (a0 / 256) + 0) + 13))) a0 2 (some (256 * (1 * (a0 / 256) + 0) + 13))).2.2.2.1 (256 * (2 * (a0 / 256) + 0) + 4) = 0 ∧ ((256 * (2 * (a0 / 256) + 0) + 4) % 256 = 4 ∧ (C 37 [.retAddr (256 * (2 * (a0 / 256) + 0) + 4)] (bNew (bwr (bNew σ (256 * (1 * (a0 / 256) + 0) + 13) 2 (bLen σ (256 * (1 * (a0 / 256) + 0) + 13))) a0 2 (some (256 * (1 * (a0 / 256) + 0) + 13))) (256 * (2 * (a0 / 256) + 0) + 4) 1 9) (bRv (fun s1 => (s1.2.2.2.1 (256 * (2 * (a0 / 256) + 0) + 4) = 2 ∧ ((bwr s1 a0 3 (some (256 * (2 * (a0 / 256) + 0) + 4))).2.2.2.1 (256 * (2 * (a0 / 256) + 1) + 4) = 0 ∧ ((256 * (2 * (a0 / 256) + 1) + 4) % 256 = 4 ∧ (C 37 [.retAddr (256 * (2 * (a0 / 256) + 1) + 4)] (bNew (bwr s1 a0 3 (some (256 * (2 * (a0 / 256) + 0) + 4))) (256 * (2 * (a0 / 256) + 1) + 4) 1 9) (bRv (fun s3 => (s3.2.2.2.1 (256 * (2 * (a0 / 256) + 1) + 4) = 2 ∧ (bAll (bw (bw (bw (bw (bw (bw (bw (bw (bwr s3 a0 4 (some (256 * (2 * (a0 / 256) + 1) + 4))) a0 10 (-1)) a0 11 (-1)) a0 12 (-1)) a0 13 (-1)) a0 14 (-1)) a0 15 2147483647) a0 16 2147483647) a0 17 2147483647) a0 [2, 3, 4] ∧ Q (.inl none) (bA (bw (bw (bw (bw (bw (bw (bw (bw (bwr s3 a0 4 (some (256 * (2 * (a0 / 256) + 1) + 4))) a0 10 (-1)) a0 11 (-1)) a0 12 (-1)) a0 13 (-1)) a0 14 (-1)) a0 15 2147483647) a0 16 2147483647) a0 17 2147483647) a0 2))))))))))))))))))) : A (0, [.retAddr a0], [], σ) := by
  refine bGo hA 0 0 (0, .aload_n 0, 1, 1, 0, [0], []) rfl rfl rfl ?_
  refine bGo hA 0 1 (1, .invokespecial 3, 3, 2, 0, [6, 0, 0], []) rfl rfl rfl ?_
  refine ⟨rfl, ?_⟩
  refine bGo hA 0 2 (4, .aload_n 0, 1, 3, 0, [0], []) rfl rfl rfl ?_
  refine bGo hA 0 3 (5, .bipush (40), 2, 4, 0, [], [(40, 0)]) rfl rfl rfl ?_
  refine bEqI bl_40 ?_
  refine bGo hA 0 4 (7, .newarray .int, 2, 5, 0, [13], []) rfl rfl rfl ?_
  refine ⟨h.1, (bn_len h.2.1), h.2.2.1, h.2.2.2.1, ?_⟩
  refine bGo hA 0 5 (9, .putfield 9, 3, 6, 0, [0, 2, 3, 13, 1, 0], []) rfl rfl rfl ?_
  refine ⟨h_a0, rfl, ?_⟩
  refine bGo hA 0 6 (12, .aload_n 0, 1, 7, 0, [0], []) rfl rfl rfl ?_
  refine bGo hA 0 7 (13, .new 15, 3, 8, 0, [0, 4, 9, 2, 0], []) rfl rfl rfl ?_
  refine ⟨h.2.2.2.2.1, ?_⟩
  refine bGo hA 0 8 (16, .dup, 1, 9, 0, [], []) rfl rfl rfl ?_
  refine bGo hA 0 9 (17, .invokespecial 17, 3, 10, 1, [4, 4, 37, 0], []) rfl rfl rfl ?_
  refine ⟨h.2.2.2.2.2.1, rfl, ?_⟩
  refine hC _ _ _ _ _ (bRv_e (fun s1 k2 => ?_)) h.2.2.2.2.2.2
  refine ⟨⟨rfl, k2.1⟩, ?_⟩
  show A (10, [.retAddr a0], [.ref (256 * (2 * (a0 / 256) + 0) + 4), .retAddr a0], s1)
  refine bGo hA 0 10 (20, .putfield 18, 3, 11, 0, [0, 3, 3, 4, 2, 0], []) rfl rfl rfl ?_
  refine ⟨h_a0, rfl, ?_⟩
  refine bGo hA 0 11 (23, .aload_n 0, 1, 12, 0, [0], []) rfl rfl rfl ?_
  refine bGo hA 0 12 (24, .new 15, 3, 13, 0, [0, 4, 9, 2, 1], []) rfl rfl rfl ?_
  refine ⟨k2.2.1, ?_⟩
  refine bGo hA 0 13 (27, .dup, 1, 14, 0, [], []) rfl rfl rfl ?_
  refine bGo hA 0 14 (28, .invokespecial 17, 3, 15, 1, [4, 4, 37, 0], []) rfl rfl rfl ?_
  refine ⟨k2.2.2.1, rfl, ?_⟩
  refine hC _ _ _ _ _ (bRv_e (fun s3 k4 => ?_)) k2.2.2.2
  refine ⟨⟨rfl, k4.1⟩, ?_⟩
  show A (15, [.retAddr a0], [.ref (256 * (2 * (a0 / 256) + 1) + 4), .retAddr a0], s3)
  refine bGo hA 0 15 (31, .putfield 22, 3, 16, 0, [0, 4, 3, 4, 2, 1], []) rfl rfl rfl ?_
  refine ⟨h_a0, rfl, ?_⟩
  refine bGo hA 1 0 (34, .aload_n 0, 1, 17, 0, [0], []) rfl rfl rfl ?_
  refine bGo hA 1 1 (35, .iconst (-1), 1, 18, 0, [], [(-1, 0)]) rfl rfl rfl ?_
  refine bEqI bl_m1 ?_
  refine bGo hA 1 2 (36, .putfield 25, 3, 19, 0, [0, 10, 0, 0, 0, 0], []) rfl rfl rfl ?_
  refine ⟨h_a0, ?_⟩
  refine bGo hA 1 3 (39, .aload_n 0, 1, 20, 0, [0], []) rfl rfl rfl ?_
  refine bGo hA 1 4 (40, .iconst (-1), 1, 21, 0, [], [(-1, 0)]) rfl rfl rfl ?_
  refine bEqI bl_m1 ?_
  refine bGo hA 1 5 (41, .putfield 29, 3, 22, 0, [0, 11, 0, 0, 0, 0], []) rfl rfl rfl ?_
  refine ⟨h_a0, ?_⟩
  refine bGo hA 1 6 (44, .aload_n 0, 1, 23, 0, [0], []) rfl rfl rfl ?_
  refine bGo hA 1 7 (45, .iconst (-1), 1, 24, 0, [], [(-1, 0)]) rfl rfl rfl ?_
  refine bEqI bl_m1 ?_
  refine bGo hA 1 8 (46, .putfield 32, 3, 25, 0, [0, 12, 0, 0, 0, 0], []) rfl rfl rfl ?_
  refine ⟨h_a0, ?_⟩
  refine bGo hA 1 9 (49, .aload_n 0, 1, 26, 0, [0], []) rfl rfl rfl ?_
  refine bGo hA 1 10 (50, .iconst (-1), 1, 27, 0, [], [(-1, 0)]) rfl rfl rfl ?_
  refine bEqI bl_m1 ?_
  refine bGo hA 1 11 (51, .putfield 35, 3, 28, 0, [0, 13, 0, 0, 0, 0], []) rfl rfl rfl ?_
  refine ⟨h_a0, ?_⟩
  refine bGo hA 1 12 (54, .aload_n 0, 1, 29, 0, [0], []) rfl rfl rfl ?_
  refine bGo hA 1 13 (55, .iconst (-1), 1, 30, 0, [], [(-1, 0)]) rfl rfl rfl ?_
  refine bEqI bl_m1 ?_
  refine bGo hA 1 14 (56, .putfield 38, 3, 31, 0, [0, 14, 0, 0, 0, 0], []) rfl rfl rfl ?_
  refine ⟨h_a0, ?_⟩
  refine bGo hA 1 15 (59, .aload_n 0, 1, 32, 0, [0], []) rfl rfl rfl ?_
  refine bGo hA 2 0 (60, .ldc 41, 2, 33, 0, [41], [(2147483647, 0)]) rfl rfl rfl ?_
  refine bEqI bl_2147483647 ?_
  refine bGo hA 2 1 (62, .putfield 42, 3, 34, 0, [0, 15, 0, 0, 0, 0], []) rfl rfl rfl ?_
  refine ⟨h_a0, ?_⟩
  refine bGo hA 2 2 (65, .aload_n 0, 1, 35, 0, [0], []) rfl rfl rfl ?_
  refine bGo hA 2 3 (66, .ldc 41, 2, 36, 0, [41], [(2147483647, 0)]) rfl rfl rfl ?_
  refine bEqI bl_2147483647 ?_
  refine bGo hA 2 4 (68, .putfield 45, 3, 37, 0, [0, 16, 0, 0, 0, 0], []) rfl rfl rfl ?_
  refine ⟨h_a0, ?_⟩
  refine bGo hA 2 5 (71, .aload_n 0, 1, 38, 0, [0], []) rfl rfl rfl ?_
  refine bGo hA 2 6 (72, .ldc 41, 2, 39, 0, [41], [(2147483647, 0)]) rfl rfl rfl ?_
  refine bEqI bl_2147483647 ?_
  refine bGo hA 2 7 (74, .putfield 48, 3, 40, 0, [0, 17, 0, 0, 0, 0], []) rfl rfl rfl ?_
  refine ⟨h_a0, ?_⟩
  refine bGo hA 2 8 (77, .return_, 1, 0, 0, [5, 0, 2, 3, 4], []) rfl rfl rfl ?_
  exact ⟨h_a0, k4.2⟩

theorem sq15_0 {lvl : Nat} {C : bCall} {Q : bPost} {A : bPt → Prop} (hC : bMono C) (hA : bClosed lvl bm15 C Q A) {a0 : Nat} {x1 : Int} {σ : bSt} (h_a0 : a0 % 256 = 1) (h_x1 : bRg x1)
  (h : (σ.2.2.2.1 (256 * (1 * (a0 / 256) + 0) + 15) = 0 ∧ ((1000 : Int) = (bLen σ (256 * (1 * (a0 / 256) + 0) + 15) : Int) ∧ ((256 * (1 * (a0 / 256) + 0) + 15) % 256 < 200 ∧ ((bLen σ (256 * (1 * (a0 / 256) + 0) + 15)) ≤ 10000 ∧ (((0 : Int) < x1 → ((bwr (bNew σ (256 * (1 * (a0 / 256) + 0) + 15) 2 (bLen σ (256 * (1 * (a0 / 256) + 0) + 15))) a0 2 (some (256 * (1 * (a0 / 256) + 0) + 15))).2.2.2.1 (256 * (1 * (a0 / 256) + 0) + 14) = 0 ∧ (x1 = (bLen (bwr (bNew σ (256 * (1 * (a0 / 256) + 0) + 15) 2 (bLen σ (256 * (1 * (a0 / 256) + 0) + 15))) a0 2 (some (256 * (1 * (a0 / 256) + 0) + 15))) (256 * (1 * (a0 / 256) + 0) + 14) : Int) ∧ ((256 * (1 * (a0 / 256) + 0) + 14) % 256 < 200 ∧ ((bLen (bwr (bNew σ (256 * (1 * (a0 / 256) + 0) + 15) 2 (bLen σ (256 * (1 * (a0 / 256) + 0) + 15))) a0 2 (some (256 * (1 * (a0 / 256) + 0) + 15))) (256 * (1 * (a0 / 256) + 0) + 14)) ≤ 10000 ∧ (∀ s2 : bSt, s2 = (bwr (bNew (bwr (bNew σ (256 * (1 * (a0 / 256) + 0) + 15) 2 (bLen σ (256 * (1 * (a0 / 256) + 0) + 15))) a0 2 (some (256 * (1 * (a0 / 256) + 0) + 15))) (256 * (1 * (a0 / 256) + 0) + 14) 2 (bLen (bwr (bNew σ (256 * (1 * (a0 / 256) + 0) + 15) 2 (bLen σ (256 * (1 * (a0 / 256) + 0) + 15))) a0 2 (some (256 * (1 * (a0 / 256) + 0) + 15))) (256 * (1 * (a0 / 256) + 0) + 14))) a0 1 (some (256 * (1 * (a0 / 256) + 0) + 14))) → (bAll s2 a0 [1, 2] ∧ Q (.inl none) (bA s2 a0 2)))))))) ∧ (¬ (0 : Int) < x1 → ((bwr (bNew σ (256 * (1 * (a0 / 256) + 0) + 15) 2 (bLen σ (256 * (1 * (a0 / 256) + 0) + 15))) a0 2 (some (256 * (1 * (a0 / 256) + 0) + 15))).2.2.2.1 (256 * (1 * (a0 / 256) + 0) + 14) = 0 ∧ ((1 : Int) = (bLen (bwr (bNew σ (256 * (1 * (a0 / 256) + 0) + 15) 2 (bLen σ (256 * (1 * (a0 / 256) + 0) + 15))) a0 2 (some (256 * (1 * (a0 / 256) + 0) + 15))) (256 * (1 * (a0 / 256) + 0) + 14) : Int) ∧ ((256 * (1 * (a0 / 256) + 0) + 14) % 256 < 200 ∧ ((bLen (bwr (bNew σ (256 * (1 * (a0 / 256) + 0) + 15) 2 (bLen σ (256 * (1 * (a0 / 256) + 0) + 15))) a0 2 (some (256 * (1 * (a0 / 256) + 0) + 15))) (256 * (1 * (a0 / 256) + 0) + 14)) ≤ 10000 ∧ (∀ s3 : bSt, s3 = (bwr (bNew (bwr (bNew σ (256 * (1 * (a0 / 256) + 0) + 15) 2 (bLen σ (256 * (1 * (a0 / 256) + 0) + 15))) a0 2 (some (256 * (1 * (a0 / 256) + 0) + 15))) (256 * (1 * (a0 / 256) + 0) + 14) 2 (bLen (bwr (bNew σ (256 * (1 * (a0 / 256) + 0) + 15) 2 (bLen σ (256 * (1 * (a0 / 256) + 0) + 15))) a0 2 (some (256 * (1 * (a0 / 256) + 0) + 15))) (256 * (1 * (a0 / 256) + 0) + 14))) a0 1 (some (256 * (1 * (a0 / 256) + 0) + 14))) → (bAll s3 a0 [1, 2] ∧ Q (.inl none) (bA s3 a0 2)))))))))))))) : A (0, [.retAddr a0, .int (bn x1)], [], σ) := by
  refine bGo hA 0 0 (0, .aload_n 0, 1, 1, 0, [0], []) rfl rfl rfl ?_
  refine bGo hA 0 1 (1, .invokespecial 3, 3, 2, 0, [6, 0, 0], []) rfl rfl rfl ?_
  refine ⟨rfl, ?_⟩
  refine bGo hA 0 2 (4, .aload_n 0, 1, 3, 0, [0], []) rfl rfl rfl ?_
  refine bGo hA 0 3 (5, .sipush (1000), 3, 4, 0, [], [(1000, 0)]) rfl rfl rfl ?_
  refine bEqI bl_1000 ?_
  refine bGo hA 0 4 (8, .newarray .boolean, 2, 5, 0, [15], []) rfl rfl rfl ?_
  refine ⟨h.1, (bn_len h.2.1), h.2.2.1, h.2.2.2.1, ?_⟩
  refine bGo hA 0 5 (10, .putfield 9, 3, 6, 0, [1, 2, 3, 15, 1, 0], []) rfl rfl rfl ?_
  refine ⟨h_a0, rfl, ?_⟩
  refine bGo hA 0 6 (13, .aload_n 0, 1, 7, 0, [0], []) rfl rfl rfl ?_
  refine bGo hA 0 7 (14, .iload_n 1, 1, 8, 0, [1], []) rfl rfl rfl ?_
  refine bGo hA 0 8 (15, .ifCond .le (7), 3, 9, 11, [], []) rfl rfl rfl ?_
  refine bB_gt0 (x := x1) h_x1 (fun c1 => ?_) (fun c1 => ?_)
  · refine bGo hA 0 9 (18, .iload_n 1, 1, 10, 0, [1], []) rfl rfl rfl ?_
    refine bGo hA 0 10 (19, .goto (4), 3, 11, 12, [], []) rfl rfl rfl ?_
    refine bGo hA 0 12 (23, .anewarray 15, 3, 13, 0, [14], []) rfl rfl rfl ?_
    refine ⟨(h.2.2.2.2.1 c1).1, (bn_len (h.2.2.2.2.1 c1).2.1), (h.2.2.2.2.1 c1).2.2.1, (h.2.2.2.2.1 c1).2.2.2.1, ?_⟩
    refine bGo hA 0 13 (26, .putfield 17, 3, 14, 0, [1, 1, 3, 14, 1, 0], []) rfl rfl rfl ?_
    refine ⟨h_a0, rfl, ?_⟩
    refine bGo hA 0 14 (29, .return_, 1, 0, 0, [5, 1, 1, 2], []) rfl rfl rfl ?_
    exact ⟨h_a0, ((h.2.2.2.2.1 c1).2.2.2.2 _ rfl)⟩
  · refine bGo hA 0 11 (22, .iconst (1), 1, 12, 0, [], [(1, 0)]) rfl rfl rfl ?_
    refine bEqI bl_1 ?_
    refine bGo hA 0 12 (23, .anewarray 15, 3, 13, 0, [14], []) rfl rfl rfl ?_
    refine ⟨(h.2.2.2.2.2 c1).1, (bn_len (h.2.2.2.2.2 c1).2.1), (h.2.2.2.2.2 c1).2.2.1, (h.2.2.2.2.2 c1).2.2.2.1, ?_⟩
    refine bGo hA 0 13 (26, .putfield 17, 3, 14, 0, [1, 1, 3, 14, 1, 0], []) rfl rfl rfl ?_
    refine ⟨h_a0, rfl, ?_⟩
    refine bGo hA 0 14 (29, .return_, 1, 0, 0, [5, 1, 1, 2], []) rfl rfl rfl ?_
    exact ⟨h_a0, ((h.2.2.2.2.2 c1).2.2.2.2 _ rfl)⟩

theorem sq23_0 {lvl : Nat} {C : bCall} {Q : bPost} {A : bPt → Prop} (hC : bMono C) (hA : bClosed lvl bm23 C Q A)  {σ : bSt}  
  (h : (σ.2.2.2.1 16 = 0 ∧ ((bwr (bNew σ 16 2 3) 2 0 (some 16)).2.2.2.1 17 = 0 ∧ ((bwr (bNew (bwr (bNew σ 16 2 3) 2 0 (some 16)) 17 2 12) 2 1 (some 17)).2.2.2.1 18 = 0 ∧ ((br (bwr (bNew (bwr (bNew (bwr (bNew σ 16 2 3) 2 0 (some 16)) 17 2 12) 2 1 (some 17)) 18 2 12) 2 2 (some 18)) 2 0).isSome = true ∧ (C 361 [.ref 16, .int (bn 1)] (bwr (bNew (bwr (bNew (bwr (bNew σ 16 2 3) 2 0 (some 16)) 17 2 12) 2 1 (some 17)) 18 2 12) 2 2 (some 18)) (bRv (fun s1 => ((br s1 2 1).isSome = true ∧ (C 361 [.ref 17, .int (bn (-1))] s1 (bRv (fun s3 => (bAll s3 2 [0, 1, 2] ∧ Q (.inl none) (bA s3 2 2)))))))))))))) : A (0, [.retAddr 2], [], σ) := by
  refine bGo hA 0 0 (0, .aload_n 0, 1, 1, 0, [0], []) rfl rfl rfl ?_
  refine bGo hA 0 1 (1, .invokespecial 3, 3, 2, 0, [6, 0, 0], []) rfl rfl rfl ?_
  refine ⟨rfl, ?_⟩
  refine bGo hA 0 2 (4, .aload_n 0, 1, 3, 0, [0], []) rfl rfl rfl ?_
  refine bGo hA 0 3 (5, .iconst (3), 1, 4, 0, [], [(3, 0)]) rfl rfl rfl ?_
  refine bEqI bl_3 ?_
  refine bGo hA 0 4 (6, .newarray .int, 2, 5, 0, [16], []) rfl rfl rfl ?_
  refine ⟨h.1, (bn_nat 3), by decide, (by decide : 3 ≤ 10000), ?_⟩
  refine bGo hA 0 5 (8, .putfield 9, 3, 6, 0, [2, 0, 3, 16, 1, 0], []) rfl rfl rfl ?_
  refine ⟨rfl, rfl, ?_⟩
  refine bGo hA 0 6 (11, .aload_n 0, 1, 7, 0, [0], []) rfl rfl rfl ?_
  refine bGo hA 0 7 (12, .bipush (12), 2, 8, 0, [], [(12, 0)]) rfl rfl rfl ?_
  refine bEqI bl_12 ?_
  refine bGo hA 0 8 (14, .newarray .int, 2, 9, 0, [17], []) rfl rfl rfl ?_
  refine ⟨h.2.1, (bn_nat 12), by decide, (by decide : 12 ≤ 10000), ?_⟩
  refine bGo hA 0 9 (16, .putfield 15, 3, 10, 0, [2, 1, 3, 17, 1, 0], []) rfl rfl rfl ?_
  refine ⟨rfl, rfl, ?_⟩
  refine bGo hA 0 10 (19, .aload_n 0, 1, 11, 0, [0], []) rfl rfl rfl ?_
  refine bGo hA 0 11 (20, .bipush (12), 2, 12, 0, [], [(12, 0)]) rfl rfl rfl ?_
  refine bEqI bl_12 ?_
  refine bGo hA 0 12 (22, .newarray .boolean, 2, 13, 0, [18], []) rfl rfl rfl ?_
  refine ⟨h.2.2.1, (bn_nat 12), by decide, (by decide : 12 ≤ 10000), ?_⟩
  refine bGo hA 0 13 (24, .putfield 18, 3, 14, 0, [2, 2, 3, 18, 1, 0], []) rfl rfl rfl ?_
  refine ⟨rfl, rfl, ?_⟩
  refine bGo hA 0 14 (27, .aload_n 0, 1, 15, 0, [0], []) rfl rfl rfl ?_
  refine bGo hA 0 15 (28, .getfield 9, 3, 16, 0, [2, 0, 3, 16, 1, 0], []) rfl rfl rfl ?_
  refine ⟨rfl, h.2.2.2.1, ?_⟩
  refine bGo hA 1 0 (31, .iconst (1), 1, 17, 0, [], [(1, 0)]) rfl rfl rfl ?_
  refine bEqI bl_1 ?_
  refine bGo hA 1 1 (32, .invokestatic 22, 3, 18, 0, [2, 361, 2], []) rfl rfl rfl ?_
  refine hC _ _ _ _ _ (bRv_e (fun s1 k2 => ?_)) h.2.2.2.2
  show A (18, [.retAddr 2], [], s1)
  refine bGo hA 1 2 (35, .aload_n 0, 1, 19, 0, [0], []) rfl rfl rfl ?_
  refine bGo hA 1 3 (36, .getfield 15, 3, 20, 0, [2, 1, 3, 17, 1, 0], []) rfl rfl rfl ?_
  refine ⟨rfl, k2.1, ?_⟩
  refine bGo hA 1 4 (39, .iconst (-1), 1, 21, 0, [], [(-1, 0)]) rfl rfl rfl ?_
  refine bEqI bl_m1 ?_
  refine bGo hA 1 5 (40, .invokestatic 22, 3, 22, 0, [2, 361, 2], []) rfl rfl rfl ?_
  refine hC _ _ _ _ _ (bRv_e (fun s3 k4 => ?_)) k2.2
  show A (22, [.retAddr 2], [], s3)
  refine bGo hA 1 6 (43, .return_, 1, 0, 0, [5, 2, 0, 1, 2], []) rfl rfl rfl ?_
  exact ⟨rfl, k4⟩

theorem sq37_0 {lvl : Nat} {C : bCall} {Q : bPost} {A : bPt → Prop} (hC : bMono C) (hA : bClosed lvl bm37 C Q A) {a0 : Nat} {σ : bSt} (h_a0 : a0 % 256 = 4) 
  (h : ((bw σ a0 0 (-1)).2.2.2.1 (256 * (1 * (a0 / 256) + 0) + 22) = 0 ∧ ((40 : Int) = (bLen (bw σ a0 0 (-1)) (256 * (1 * (a0 / 256) + 0) + 22) : Int) ∧ ((256 * (1 * (a0 / 256) + 0) + 22) % 256 < 200 ∧ ((bLen (bw σ a0 0 (-1)) (256 * (1 * (a0 / 256) + 0) + 22)) ≤ 10000 ∧ ((bwr (bNew (bw σ a0 0 (-1)) (256 * (1 * (a0 / 256) + 0) + 22) 2 (bLen (bw σ a0 0 (-1)) (256 * (1 * (a0 / 256) + 0) + 22))) a0 4 (some (256 * (1 * (a0 / 256) + 0) + 22))).2.2.2.1 (256 * (1 * (a0 / 256) + 0) + 23) = 0 ∧ ((48 : Int) = (bLen (bwr (bNew (bw σ a0 0 (-1)) (256 * (1 * (a0 / 256) + 0) + 22) 2 (bLen (bw σ a0 0 (-1)) (256 * (1 * (a0 / 256) + 0) + 22))) a0 4 (some (256 * (1 * (a0 / 256) + 0) + 22))) (256 * (1 * (a0 / 256) + 0) + 23) : Int) ∧ ((256 * (1 * (a0 / 256) + 0) + 23) % 256 < 200 ∧ ((bLen (bwr (bNew (bw σ a0 0 (-1)) (256 * (1 * (a0 / 256) + 0) + 22) 2 (bLen (bw σ a0 0 (-1)) (256 * (1 * (a0 / 256) + 0) + 22))) a0 4 (some (256 * (1 * (a0 / 256) + 0) + 22))) (256 * (1 * (a0 / 256) + 0) + 23)) ≤ 10000 ∧ (∀ s1 : bSt, s1 = (bNew (bwr (bNew (bw σ a0 0 (-1)) (256 * (1 * (a0 / 256) + 0) + 22) 2 (bLen (bw σ a0 0 (-1)) (256 * (1 * (a0 / 256) + 0) + 22))) a0 4 (some (256 * (1 * (a0 / 256) + 0) + 22))) (256 * (1 * (a0 / 256) + 0) + 23) 2 (bLen (bwr (bNew (bw σ a0 0 (-1)) (256 * (1 * (a0 / 256) + 0) + 22) 2 (bLen (bw σ a0 0 (-1)) (256 * (1 * (a0 / 256) + 0) + 22))) a0 4 (some (256 * (1 * (a0 / 256) + 0) + 22))) (256 * (1 * (a0 / 256) + 0) + 23))) → (bAll (bw (bwr s1 a0 6 (some (256 * (1 * (a0 / 256) + 0) + 23))) a0 8 (-1)) a0 [4, 6] ∧ Q (.inl none) (bA (bw (bwr s1 a0 6 (some (256 * (1 * (a0 / 256) + 0) + 23))) a0 8 (-1)) a0 2)))))))))))) : A (0, [.retAddr a0], [], σ) := by
  refine bGo hA 0 0 (0, .aload_n 0, 1, 1, 0, [0], []) rfl rfl rfl ?_
  refine bGo hA 0 1 (1, .invokespecial 3, 3, 2, 0, [6, 0, 0], []) rfl rfl rfl ?_
  refine ⟨rfl, ?_⟩
  refine bGo hA 0 2 (4, .aload_n 0, 1, 3, 0, [0], []) rfl rfl rfl ?_
  refine bGo hA 0 3 (5, .iconst (-1), 1, 4, 0, [], [(-1, 0)]) rfl rfl rfl ?_
  refine bEqI bl_m1 ?_
  refine bGo hA 0 4 (6, .putfield 9, 3, 5, 0, [4, 0, 0, 0, 0, 0], []) rfl rfl rfl ?_
  refine ⟨h_a0, ?_⟩
  refine bGo hA 0 5 (9, .aload_n 0, 1, 6, 0, [0], []) rfl rfl rfl ?_
  refine bGo hA 0 6 (10, .bipush (40), 2, 7, 0, [], [(40, 0)]) rfl rfl rfl ?_
  refine bEqI bl_40 ?_
  refine bGo hA 0 7 (12, .newarray .int, 2, 8, 0, [22], []) rfl rfl rfl ?_
  refine ⟨h.1, (bn_len h.2.1), h.2.2.1, h.2.2.2.1, ?_⟩
  refine bGo hA 0 8 (14, .putfield 15, 3, 9, 0, [4, 4, 3, 22, 1, 0], []) rfl rfl rfl ?_
  refine ⟨h_a0, rfl, ?_⟩
  refine bGo hA 0 9 (17, .aload_n 0, 1, 10, 0, [0], []) rfl rfl rfl ?_
  refine bGo hA 0 10 (18, .bipush (48), 2, 11, 0, [], [(48, 0)]) rfl rfl rfl ?_
  refine bEqI bl_48 ?_
  refine bGo hA 0 11 (20, .newarray .int, 2, 12, 0, [23], []) rfl rfl rfl ?_
  refine ⟨h.2.2.2.2.1, (bn_len h.2.2.2.2.2.1), h.2.2.2.2.2.2.1, h.2.2.2.2.2.2.2.1, ?_⟩
  refine bGo hA 0 12 (22, .putfield 19, 3, 13, 0, [4, 6, 3, 23, 1, 0], []) rfl rfl rfl ?_
  refine ⟨h_a0, rfl, ?_⟩
  refine bGo hA 0 13 (25, .aload_n 0, 1, 14, 0, [0], []) rfl rfl rfl ?_
  refine bGo hA 0 14 (26, .iconst (-1), 1, 15, 0, [], [(-1, 0)]) rfl rfl rfl ?_
  refine bEqI bl_m1 ?_
  refine bGo hA 0 15 (27, .putfield 22, 3, 16, 0, [4, 8, 0, 0, 0, 0], []) rfl rfl rfl ?_
  refine ⟨h_a0, ?_⟩
  refine bGo hA 1 0 (30, .return_, 1, 0, 0, [5, 4, 4, 6], []) rfl rfl rfl ?_
  exact ⟨h_a0, (h.2.2.2.2.2.2.2.2 _ rfl)⟩

theorem sq45_0 {lvl : Nat} {C : bCall} {Q : bPost} {A : bPt → Prop} (hC : bMono C) (hA : bClosed lvl bm45 C Q A)  {σ : bSt}  
  (h : (σ.2.2.2.1 1 = 0 ∧ (C 15 [.retAddr 1, .int (bn 24)] (bNew σ 1 1 3) (bRv (fun s1 => (s1.2.2.2.1 1 = 2 ∧ ((bwr s1 5 2 (some 1)).2.2.2.1 257 = 0 ∧ (C 15 [.retAddr 257, .int (bn 40)] (bNew (bwr s1 5 2 (some 1)) 257 1 3) (bRv (fun s3 => (s3.2.2.2.1 257 = 2 ∧ ((bwr s3 5 3 (some 257)).2.2.2.1 2 = 0 ∧ (C 23 [.retAddr 2] (bNew (bwr s3 5 3 (some 257)) 2 1 3) (bRv (fun s5 => (s5.2.2.2.1 2 = 2 ∧ ((bw (bw (bwr s5 5 4 (some 2)) 5 5 1) 5 6 2).2.2.2.1 24 = 0 ∧ ((bw (bwr (bNew (bw (bw (bwr s5 5 4 (some 2)) 5 5 1) 5 6 2) 24 2 12) 5 7 (some 24)) 5 8 (-1)).2.2.2.1 25 = 0 ∧ ((bwr (bNew (bw (bwr (bNew (bw (bw (bwr s5 5 4 (some 2)) 5 5 1) 5 6 2) 24 2 12) 5 7 (some 24)) 5 8 (-1)) 25 2 17) 5 11 (some 25)).2.2.2.1 26 = 0 ∧ (bAll (bwr (bwr (bwr (bNew (bwr (bNew (bw (bwr (bNew (bw (bw (bwr s5 5 4 (some 2)) 5 5 1) 5 6 2) 24 2 12) 5 7 (some 24)) 5 8 (-1)) 25 2 17) 5 11 (some 25)) 26 2 17) 5 12 (some 26)) 5 0 (some 3)) 5 1 (some 6)) 5 [0, 1, 2, 3, 4, 7, 11, 12] ∧ Q (.inl none) (bA (bwr (bwr (bwr (bNew (bwr (bNew (bw (bwr (bNew (bw (bw (bwr s5 5 4 (some 2)) 5 5 1) 5 6 2) 24 2 12) 5 7 (some 24)) 5 8 (-1)) 25 2 17) 5 11 (some 25)) 26 2 17) 5 12 (some 26)) 5 0 (some 3)) 5 1 (some 6)) 5 2))))))))))))))))))))) : A (0, [.retAddr 5, .ref 3, .ref 6], [], σ) := by
  refine bGo hA 0 0 (0, .aload_n 0, 1, 1, 0, [0], []) rfl rfl rfl ?_
  refine bGo hA 0 1 (1, .invokespecial 3, 3, 2, 0, [6, 0, 0], []) rfl rfl rfl ?_
  refine ⟨rfl, ?_⟩
  refine bGo hA 0 2 (4, .aload_n 0, 1, 3, 0, [0], []) rfl rfl rfl ?_
  refine bGo hA 0 3 (5, .new 9, 3, 4, 0, [0, 1, 3, 0, 0], []) rfl rfl rfl ?_
  refine ⟨h.1, ?_⟩
  refine bGo hA 0 4 (8, .dup, 1, 5, 0, [], []) rfl rfl rfl ?_
  refine bGo hA 0 5 (9, .bipush (24), 2, 6, 0, [], [(24, 0)]) rfl rfl rfl ?_
  refine bEqI bl_24 ?_
  refine bGo hA 0 6 (11, .invokespecial 11, 3, 7, 0, [4, 1, 15, 1], []) rfl rfl rfl ?_
  refine ⟨rfl, rfl, ?_⟩
  refine hC _ _ _ _ _ (bRv_e (fun s1 k2 => ?_)) h.2
  refine ⟨⟨rfl, k2.1⟩, ?_⟩
  show A (7, [.retAddr 5, .ref 3, .ref 6], [.ref 1, .retAddr 5], s1)
  refine bGo hA 0 7 (14, .putfield 14, 3, 8, 0, [5, 2, 3, 1, 0, 0], []) rfl rfl rfl ?_
  refine ⟨rfl, rfl, ?_⟩
  refine bGo hA 0 8 (17, .aload_n 0, 1, 9, 0, [0], []) rfl rfl rfl ?_
  refine bGo hA 0 9 (18, .new 9, 3, 10, 0, [0, 1, 3, 0, 1], []) rfl rfl rfl ?_
  refine ⟨k2.2.1, ?_⟩
  refine bGo hA 0 10 (21, .dup, 1, 11, 0, [], []) rfl rfl rfl ?_
  refine bGo hA 0 11 (22, .bipush (40), 2, 12, 0, [], [(40, 0)]) rfl rfl rfl ?_
  refine bEqI bl_40 ?_
  refine bGo hA 0 12 (24, .invokespecial 11, 3, 13, 0, [4, 1, 15, 1], []) rfl rfl rfl ?_
  refine ⟨rfl, rfl, ?_⟩
  refine hC _ _ _ _ _ (bRv_e (fun s3 k4 => ?_)) k2.2.2
  refine ⟨⟨rfl, k4.1⟩, ?_⟩
  show A (13, [.retAddr 5, .ref 3, .ref 6], [.ref 257, .retAddr 5], s3)
  refine bGo hA 0 13 (27, .putfield 20, 3, 14, 0, [5, 3, 3, 1, 0, 1], []) rfl rfl rfl ?_
  refine ⟨rfl, rfl, ?_⟩
  refine bGo hA 0 14 (30, .aload_n 0, 1, 15, 0, [0], []) rfl rfl rfl ?_
  refine bGo hA 0 15 (31, .new 23, 3, 16, 0, [0, 2, 3, 0, 0], []) rfl rfl rfl ?_
  refine ⟨k4.2.1, ?_⟩
  refine bGo hA 1 0 (34, .dup, 1, 17, 0, [], []) rfl rfl rfl ?_
  refine bGo hA 1 1 (35, .invokespecial 25, 3, 18, 0, [4, 2, 23, 0], []) rfl rfl rfl ?_
  refine ⟨rfl, rfl, ?_⟩
  refine hC _ _ _ _ _ (bRv_e (fun s5 k6 => ?_)) k4.2.2
  refine ⟨⟨rfl, k6.1⟩, ?_⟩
  show A (18, [.retAddr 5, .ref 3, .ref 6], [.ref 2, .retAddr 5], s5)
  refine bGo hA 1 2 (38, .putfield 26, 3, 19, 0, [5, 4, 3, 2, 0, 0], []) rfl rfl rfl ?_
  refine ⟨rfl, rfl, ?_⟩
  refine bGo hA 1 3 (41, .aload_n 0, 1, 20, 0, [0], []) rfl rfl rfl ?_
  refine bGo hA 1 4 (42, .iconst (1), 1, 21, 0, [], [(1, 0)]) rfl rfl rfl ?_
  refine bEqI bl_1 ?_
  refine bGo hA 1 5 (43, .putfield 30, 3, 22, 0, [5, 5, 1, 0, 0, 0], []) rfl rfl rfl ?_
  refine ⟨rfl, b01 (Or.inr rfl), ?_⟩
  refine bGo hA 1 6 (46, .aload_n 0, 1, 23, 0, [0], []) rfl rfl rfl ?_
  refine bGo hA 1 7 (47, .iconst (2), 1, 24, 0, [], [(2, 0)]) rfl rfl rfl ?_
  refine bEqI bl_2 ?_
  refine bGo hA 1 8 (48, .putfield 34, 3, 25, 0, [5, 6, 0, 0, 0, 0], []) rfl rfl rfl ?_
  refine ⟨rfl, ?_⟩
  refine bGo hA 1 9 (51, .aload_n 0, 1, 26, 0, [0], []) rfl rfl rfl ?_
  refine bGo hA 1 10 (52, .bipush (12), 2, 27, 0, [], [(12, 0)]) rfl rfl rfl ?_
  refine bEqI bl_12 ?_
  refine bGo hA 1 11 (54, .newarray .int, 2, 28, 0, [24], []) rfl rfl rfl ?_
  refine ⟨k6.2.1, (bn_nat 12), by decide, (by decide : 12 ≤ 10000), ?_⟩
  refine bGo hA 1 12 (56, .putfield 38, 3, 29, 0, [5, 7, 3, 24, 1, 0], []) rfl rfl rfl ?_
  refine ⟨rfl, rfl, ?_⟩
  refine bGo hA 1 13 (59, .aload_n 0, 1, 30, 0, [0], []) rfl rfl rfl ?_
  refine bGo hA 1 14 (60, .iconst (-1), 1, 31, 0, [], [(-1, 0)]) rfl rfl rfl ?_
  refine bEqI bl_m1 ?_
  refine bGo hA 1 15 (61, .putfield 42, 3, 32, 0, [5, 8, 0, 0, 0, 0], []) rfl rfl rfl ?_
  refine ⟨rfl, ?_⟩
  refine bGo hA 2 0 (64, .aload_n 0, 1, 33, 0, [0], []) rfl rfl rfl ?_
  refine bGo hA 2 1 (65, .bipush (17), 2, 34, 0, [], [(17, 0)]) rfl rfl rfl ?_
  refine bEqI bl_17 ?_
  refine bGo hA 2 2 (67, .newarray .int, 2, 35, 0, [25], []) rfl rfl rfl ?_
  refine ⟨k6.2.2.1, (bn_nat 17), by decide, (by decide : 17 ≤ 10000), ?_⟩
  refine bGo hA 2 3 (69, .putfield 45, 3, 36, 0, [5, 11, 3, 25, 1, 0], []) rfl rfl rfl ?_
  refine ⟨rfl, rfl, ?_⟩
  refine bGo hA 2 4 (72, .aload_n 0, 1, 37, 0, [0], []) rfl rfl rfl ?_
  refine bGo hA 2 5 (73, .bipush (17), 2, 38, 0, [], [(17, 0)]) rfl rfl rfl ?_
  refine bEqI bl_17 ?_
  refine bGo hA 2 6 (75, .newarray .int, 2, 39, 0, [26], []) rfl rfl rfl ?_
  refine ⟨k6.2.2.2.1, (bn_nat 17), by decide, (by decide : 17 ≤ 10000), ?_⟩
  refine bGo hA 2 7 (77, .putfield 48, 3, 40, 0, [5, 12, 3, 26, 1, 0], []) rfl rfl rfl ?_
  refine ⟨rfl, rfl, ?_⟩
  refine bGo hA 2 8 (80, .aload_n 0, 1, 41, 0, [0], []) rfl rfl rfl ?_
  refine bGo hA 2 9 (81, .aload_n 1, 1, 42, 0, [1], []) rfl rfl rfl ?_
  refine bGo hA 2 10 (82, .putfield 51, 3, 43, 0, [5, 0, 3, 3, 0, 0], []) rfl rfl rfl ?_
  refine ⟨rfl, rfl, ?_⟩
  refine bGo hA 2 11 (85, .aload_n 0, 1, 44, 0, [0], []) rfl rfl rfl ?_
  refine bGo hA 2 12 (86, .aload_n 2, 1, 45, 0, [2], []) rfl rfl rfl ?_
  refine bGo hA 2 13 (87, .putfield 55, 3, 46, 0, [5, 1, 3, 6, 0, 0], []) rfl rfl rfl ?_
  refine ⟨rfl, rfl, ?_⟩
  refine bGo hA 2 14 (90, .return_, 1, 0, 0, [5, 5, 0, 1, 2, 3, 4, 7, 11, 12], []) rfl rfl rfl ?_
  exact ⟨rfl, k6.2.2.2.2⟩

theorem sq67_0 {lvl : Nat} {C : bCall} {Q : bPost} {A : bPt → Prop} (hC : bMono C) (hA : bClosed lvl bm67 C Q A)  {σ : bSt}  
  (h : (σ.2.2.2.1 27 = 0 ∧ ((bwr (bNew σ 27 2 4096) 6 4 (some 27)).2.2.2.1 28 = 0 ∧ ((bwr (bNew (bwr (bNew σ 27 2 4096) 6 4 (some 27)) 28 2 4096) 6 5 (some 28)).2.2.2.1 29 = 0 ∧ ((bwr (bNew (bwr (bNew (bwr (bNew σ 27 2 4096) 6 4 (some 27)) 28 2 4096) 6 5 (some 28)) 29 2 4096) 6 6 (some 29)).2.2.2.1 30 = 0 ∧ ((bwr (bNew (bwr (bNew (bwr (bNew (bwr (bNew σ 27 2 4096) 6 4 (some 27)) 28 2 4096) 6 5 (some 28)) 29 2 4096) 6 6 (some 29)) 30 2 4096) 6 7 (some 30)).2.2.2.1 31 = 0 ∧ ((bwr (bNew (bwr (bNew (bwr (bNew (bwr (bNew (bwr (bNew σ 27 2 4096) 6 4 (some 27)) 28 2 4096) 6 5 (some 28)) 29 2 4096) 6 6 (some 29)) 30 2 4096) 6 7 (some 30)) 31 2 16) 6 8 (some 31)).2.2.2.1 32 = 0 ∧ ((bwr (bNew (bwr (bNew (bwr (bNew (bwr (bNew (bwr (bNew (bwr (bNew σ 27 2 4096) 6 4 (some 27)) 28 2 4096) 6 5 (some 28)) 29 2 4096) 6 6 (some 29)) 30 2 4096) 6 7 (some 30)) 31 2 16) 6 8 (some 31)) 32 2 16) 6 9 (some 32)).2.2.2.1 33 = 0 ∧ ((bwr (bNew (bwr (bNew (bwr (bNew (bwr (bNew (bwr (bNew (bwr (bNew (bwr (bNew σ 27 2 4096) 6 4 (some 27)) 28 2 4096) 6 5 (some 28)) 29 2 4096) 6 6 (some 29)) 30 2 4096) 6 7 (some 30)) 31 2 16) 6 8 (some 31)) 32 2 16) 6 9 (some 32)) 33 2 121) 6 14 (some 33)).2.2.2.1 0 = 0 ∧ (C 0 [.retAddr 0] (bNew (bwr (bNew (bwr (bNew (bwr (bNew (bwr (bNew (bwr (bNew (bwr (bNew (bwr (bNew σ 27 2 4096) 6 4 (some 27)) 28 2 4096) 6 5 (some 28)) 29 2 4096) 6 6 (some 29)) 30 2 4096) 6 7 (some 30)) 31 2 16) 6 8 (some 31)) 32 2 16) 6 9 (some 32)) 33 2 121) 6 14 (some 33)) 0 1 18) (bRv (fun s1 => (s1.2.2.2.1 0 = 2 ∧ (bAll (bwr (bwr (bwr (bwr (bwr s1 6 15 (some 0)) 6 0 (some 3)) 6 1 (some 7)) 6 2 (some 10)) 6 3 (some 9)) 6 [0, 1, 2, 3, 4, 5, 6, 7, 8, 9, 14, 15] ∧ Q (.inl none) (bA (bwr (bwr (bwr (bwr (bwr s1 6 15 (some 0)) 6 0 (some 3)) 6 1 (some 7)) 6 2 (some 10)) 6 3 (some 9)) 6 2))))))))))))))) : A (0, [.retAddr 6, .ref 3, .ref 7, .ref 10, .ref 9], [], σ) := by
  refine bGo hA 0 0 (0, .aload_n 0, 1, 1, 0, [0], []) rfl rfl rfl ?_
  refine bGo hA 0 1 (1, .invokespecial 3, 3, 2, 0, [6, 0, 0], []) rfl rfl rfl ?_
  refine ⟨rfl, ?_⟩
  refine bGo hA 0 2 (4, .aload_n 0, 1, 3, 0, [0], []) rfl rfl rfl ?_
  refine bGo hA 0 3 (5, .sipush (4096), 3, 4, 0, [], [(4096, 0)]) rfl rfl rfl ?_
  refine bEqI bl_4096 ?_
  refine bGo hA 0 4 (8, .newarray .int, 2, 5, 0, [27], []) rfl rfl rfl ?_
  refine ⟨h.1, (bn_nat 4096), by decide, (by decide : 4096 ≤ 10000), ?_⟩
  refine bGo hA 0 5 (10, .putfield 9, 3, 6, 0, [6, 4, 3, 27, 1, 0], []) rfl rfl rfl ?_
  refine ⟨rfl, rfl, ?_⟩
  refine bGo hA 0 6 (13, .aload_n 0, 1, 7, 0, [0], []) rfl rfl rfl ?_
  refine bGo hA 0 7 (14, .sipush (4096), 3, 8, 0, [], [(4096, 0)]) rfl rfl rfl ?_
  refine bEqI bl_4096 ?_
  refine bGo hA 0 8 (17, .newarray .int, 2, 9, 0, [28], []) rfl rfl rfl ?_
  refine ⟨h.2.1, (bn_nat 4096), by decide, (by decide : 4096 ≤ 10000), ?_⟩
  refine bGo hA 0 9 (19, .putfield 15, 3, 10, 0, [6, 5, 3, 28, 1, 0], []) rfl rfl rfl ?_
  refine ⟨rfl, rfl, ?_⟩
  refine bGo hA 0 10 (22, .aload_n 0, 1, 11, 0, [0], []) rfl rfl rfl ?_
  refine bGo hA 0 11 (23, .sipush (4096), 3, 12, 0, [], [(4096, 0)]) rfl rfl rfl ?_
  refine bEqI bl_4096 ?_
  refine bGo hA 0 12 (26, .newarray .int, 2, 13, 0, [29], []) rfl rfl rfl ?_
  refine ⟨h.2.2.1, (bn_nat 4096), by decide, (by decide : 4096 ≤ 10000), ?_⟩
  refine bGo hA 0 13 (28, .putfield 18, 3, 14, 0, [6, 6, 3, 29, 1, 0], []) rfl rfl rfl ?_
  refine ⟨rfl, rfl, ?_⟩
  refine bGo hA 0 14 (31, .aload_n 0, 1, 15, 0, [0], []) rfl rfl rfl ?_
  refine bGo hA 0 15 (32, .sipush (4096), 3, 16, 0, [], [(4096, 0)]) rfl rfl rfl ?_
  refine bEqI bl_4096 ?_
  refine bGo hA 1 0 (35, .newarray .int, 2, 17, 0, [30], []) rfl rfl rfl ?_
  refine ⟨h.2.2.2.1, (bn_nat 4096), by decide, (by decide : 4096 ≤ 10000), ?_⟩
  refine bGo hA 1 1 (37, .putfield 21, 3, 18, 0, [6, 7, 3, 30, 1, 0], []) rfl rfl rfl ?_
  refine ⟨rfl, rfl, ?_⟩
  refine bGo hA 1 2 (40, .aload_n 0, 1, 19, 0, [0], []) rfl rfl rfl ?_
  refine bGo hA 1 3 (41, .bipush (16), 2, 20, 0, [], [(16, 0)]) rfl rfl rfl ?_
  refine bEqI bl_16 ?_
  refine bGo hA 1 4 (43, .newarray .int, 2, 21, 0, [31], []) rfl rfl rfl ?_
  refine ⟨h.2.2.2.2.1, (bn_nat 16), by decide, (by decide : 16 ≤ 10000), ?_⟩
  refine bGo hA 1 5 (45, .putfield 24, 3, 22, 0, [6, 8, 3, 31, 1, 0], []) rfl rfl rfl ?_
  refine ⟨rfl, rfl, ?_⟩
  refine bGo hA 1 6 (48, .aload_n 0, 1, 23, 0, [0], []) rfl rfl rfl ?_
  refine bGo hA 1 7 (49, .bipush (16), 2, 24, 0, [], [(16, 0)]) rfl rfl rfl ?_
  refine bEqI bl_16 ?_
  refine bGo hA 1 8 (51, .newarray .int, 2, 25, 0, [32], []) rfl rfl rfl ?_
  refine ⟨h.2.2.2.2.2.1, (bn_nat 16), by decide, (by decide : 16 ≤ 10000), ?_⟩
  refine bGo hA 1 9 (53, .putfield 27, 3, 26, 0, [6, 9, 3, 32, 1, 0], []) rfl rfl rfl ?_
  refine ⟨rfl, rfl, ?_⟩
  refine bGo hA 1 10 (56, .aload_n 0, 1, 27, 0, [0], []) rfl rfl rfl ?_
  refine bGo hA 1 11 (57, .bipush (121), 2, 28, 0, [], [(121, 0)]) rfl rfl rfl ?_
  refine bEqI bl_121 ?_
  refine bGo hA 1 12 (59, .anewarray 30, 3, 29, 0, [33], []) rfl rfl rfl ?_
  refine ⟨h.2.2.2.2.2.2.1, (bn_nat 121), by decide, (by decide : 121 ≤ 10000), ?_⟩
  refine bGo hA 1 13 (62, .putfield 32, 3, 30, 0, [6, 14, 3, 33, 1, 0], []) rfl rfl rfl ?_
  refine ⟨rfl, rfl, ?_⟩
  refine bGo hA 1 14 (65, .aload_n 0, 1, 31, 0, [0], []) rfl rfl rfl ?_
  refine bGo hA 1 15 (66, .new 30, 3, 32, 0, [0, 0, 18, 0, 0], []) rfl rfl rfl ?_
  refine ⟨h.2.2.2.2.2.2.2.1, ?_⟩
  refine bGo hA 2 0 (69, .dup, 1, 33, 0, [], []) rfl rfl rfl ?_
  refine bGo hA 2 1 (70, .invokespecial 36, 3, 34, 1, [4, 0, 0, 0], []) rfl rfl rfl ?_
  refine ⟨rfl, rfl, ?_⟩
  refine hC _ _ _ _ _ (bRv_e (fun s1 k2 => ?_)) h.2.2.2.2.2.2.2.2
  refine ⟨⟨rfl, k2.1⟩, ?_⟩
  show A (34, [.retAddr 6, .ref 3, .ref 7, .ref 10, .ref 9], [.ref 0, .retAddr 6], s1)
  refine bGo hA 2 2 (73, .putfield 37, 3, 35, 0, [6, 15, 3, 0, 0, 0], []) rfl rfl rfl ?_
  refine ⟨rfl, rfl, ?_⟩
  refine bGo hA 2 3 (76, .aload_n 0, 1, 36, 0, [0], []) rfl rfl rfl ?_
  refine bGo hA 2 4 (77, .aload_n 1, 1, 37, 0, [1], []) rfl rfl rfl ?_
  refine bGo hA 2 5 (78, .putfield 41, 3, 38, 0, [6, 0, 3, 3, 0, 0], []) rfl rfl rfl ?_
  refine ⟨rfl, rfl, ?_⟩
  refine bGo hA 2 6 (81, .aload_n 0, 1, 39, 0, [0], []) rfl rfl rfl ?_
  refine bGo hA 2 7 (82, .aload_n 2, 1, 40, 0, [2], []) rfl rfl rfl ?_
  refine bGo hA 2 8 (83, .putfield 45, 3, 41, 0, [6, 1, 3, 7, 0, 0], []) rfl rfl rfl ?_
  refine ⟨rfl, rfl, ?_⟩
  refine bGo hA 2 9 (86, .aload_n 0, 1, 42, 0, [0], []) rfl rfl rfl ?_
  refine bGo hA 2 10 (87, .aload_n 3, 1, 43, 0, [3], []) rfl rfl rfl ?_
  refine bGo hA 2 11 (88, .putfield 49, 3, 44, 0, [6, 2, 3, 10, 0, 0], []) rfl rfl rfl ?_
  refine ⟨rfl, rfl, ?_⟩
  refine bGo hA 2 12 (91, .aload_n 0, 1, 45, 0, [0], []) rfl rfl rfl ?_
  refine bGo hA 2 13 (92, .aload 4, 2, 46, 0, [4], []) rfl rfl rfl ?_
  refine bGo hA 2 14 (94, .putfield 53, 3, 47, 0, [6, 3, 3, 9, 0, 0], []) rfl rfl rfl ?_
  refine ⟨rfl, rfl, ?_⟩
  refine bGo hA 2 15 (97, .return_, 1, 0, 0, [5, 6, 0, 1, 2, 3, 4, 5, 6, 7, 8, 9, 14, 15], []) rfl rfl rfl ?_
  exact ⟨rfl, k2.2⟩

theorem sq90_0 {lvl : Nat} {C : bCall} {Q : bPost} {A : bPt → Prop} (hC : bMono C) (hA : bClosed lvl bm90 C Q A)  {σ : bSt}  
  (h : (σ.2.2.2.1 34 = 0 ∧ ((bwr (bNew σ 34 2 6) 7 0 (some 34)).2.2.2.1 35 = 0 ∧ ((bwr (bNew (bwr (bNew σ 34 2 6) 7 0 (some 34)) 35 2 72) 7 1 (some 35)).2.2.2.1 36 = 0 ∧ ((bwr (bNew (bwr (bNew (bwr (bNew σ 34 2 6) 7 0 (some 34)) 35 2 72) 7 1 (some 35)) 36 2 72) 7 2 (some 36)).2.2.2.1 37 = 0 ∧ ((bwr (bNew (bwr (bNew (bwr (bNew (bwr (bNew σ 34 2 6) 7 0 (some 34)) 35 2 72) 7 1 (some 35)) 36 2 72) 7 2 (some 36)) 37 2 72) 7 3 (some 37)).2.2.2.1 38 = 0 ∧ ((bwr (bNew (bwr (bNew (bwr (bNew (bwr (bNew (bwr (bNew σ 34 2 6) 7 0 (some 34)) 35 2 72) 7 1 (some 35)) 36 2 72) 7 2 (some 36)) 37 2 72) 7 3 (some 37)) 38 2 72) 7 4 (some 38)).2.2.2.1 39 = 0 ∧ ((bwr (bNew (bwr (bNew (bwr (bNew (bwr (bNew (bwr (bNew (bwr (bNew σ 34 2 6) 7 0 (some 34)) 35 2 72) 7 1 (some 35)) 36 2 72) 7 2 (some 36)) 37 2 72) 7 3 (some 37)) 38 2 72) 7 4 (some 38)) 39 2 48) 7 5 (some 39)).2.2.2.1 40 = 0 ∧ ((bwr (bNew (bwr (bNew (bwr (bNew (bwr (bNew (bwr (bNew (bwr (bNew (bwr (bNew σ 34 2 6) 7 0 (some 34)) 35 2 72) 7 1 (some 35)) 36 2 72) 7 2 (some 36)) 37 2 72) 7 3 (some 37)) 38 2 72) 7 4 (some 38)) 39 2 48) 7 5 (some 39)) 40 2 6) 7 6 (some 40)).2.2.2.1 41 = 0 ∧ ((bwr (bNew (bwr (bNew (bwr (bNew (bwr (bNew (bwr (bNew (bwr (bNew (bwr (bNew (bwr (bNew σ 34 2 6) 7 0 (some 34)) 35 2 72) 7 1 (some 35)) 36 2 72) 7 2 (some 36)) 37 2 72) 7 3 (some 37)) 38 2 72) 7 4 (some 38)) 39 2 48) 7 5 (some 39)) 40 2 6) 7 6 (some 40)) 41 2 6) 7 7 (some 41)).2.2.2.1 42 = 0 ∧ ((bwr (bNew (bwr (bNew (bwr (bNew (bwr (bNew (bwr (bNew (bwr (bNew (bwr (bNew (bwr (bNew (bwr (bNew σ 34 2 6) 7 0 (some 34)) 35 2 72) 7 1 (some 35)) 36 2 72) 7 2 (some 36)) 37 2 72) 7 3 (some 37)) 38 2 72) 7 4 (some 38)) 39 2 48) 7 5 (some 39)) 40 2 6) 7 6 (some 40)) 41 2 6) 7 7 (some 41)) 42 2 6) 7 8 (some 42)).2.2.2.1 43 = 0 ∧ ((bwr (bNew (bwr (bNew (bwr (bNew (bwr (bNew (bwr (bNew (bwr (bNew (bwr (bNew (bwr (bNew (bwr (bNew (bwr (bNew σ 34 2 6) 7 0 (some 34)) 35 2 72) 7 1 (some 35)) 36 2 72) 7 2 (some 36)) 37 2 72) 7 3 (some 37)) 38 2 72) 7 4 (some 38)) 39 2 48) 7 5 (some 39)) 40 2 6) 7 6 (some 40)) 41 2 6) 7 7 (some 41)) 42 2 6) 7 8 (some 42)) 43 2 72) 7 9 (some 43)).2.2.2.1 44 = 0 ∧ ((bwr (bNew (bwr (bNew (bwr (bNew (bwr (bNew (bwr (bNew (bwr (bNew (bwr (bNew (bwr (bNew (bwr (bNew (bwr (bNew (bwr (bNew σ 34 2 6) 7 0 (some 34)) 35 2 72) 7 1 (some 35)) 36 2 72) 7 2 (some 36)) 37 2 72) 7 3 (some 37)) 38 2 72) 7 4 (some 38)) 39 2 48) 7 5 (some 39)) 40 2 6) 7 6 (some 40)) 41 2 6) 7 7 (some 41)) 42 2 6) 7 8 (some 42)) 43 2 72) 7 9 (some 43)) 44 2 72) 7 10 (some 44)).2.2.2.1 45 = 0 ∧ (∀ s1 : bSt, s1 = (bwr (bNew (bwr (bNew (bwr (bNew (bwr (bNew (bwr (bNew (bwr (bNew (bwr (bNew (bwr (bNew (bwr (bNew (bwr (bNew (bwr (bNew (bwr (bNew σ 34 2 6) 7 0 (some 34)) 35 2 72) 7 1 (some 35)) 36 2 72) 7 2 (some 36)) 37 2 72) 7 3 (some 37)) 38 2 72) 7 4 (some 38)) 39 2 48) 7 5 (some 39)) 40 2 6) 7 6 (some 40)) 41 2 6) 7 7 (some 41)) 42 2 6) 7 8 (some 42)) 43 2 72) 7 9 (some 43)) 44 2 72) 7 10 (some 44)) 45 2 576) 7 11 (some 45)) → (bAll (bw (bw s1 7 14 (-1)) 7 15 (-1)) 7 [0, 1, 2, 3, 4, 5, 6, 7, 8, 9, 10, 11] ∧ Q (.inl none) (bA (bw (bw s1 7 14 (-1)) 7 15 (-1)) 7 2)))))))))))))))) : A (0, [.retAddr 7], [], σ) := by
  refine bGo hA 0 0 (0, .aload_n 0, 1, 1, 0, [0], []) rfl rfl rfl ?_
  refine bGo hA 0 1 (1, .invokespecial 3, 3, 2, 0, [6, 0, 0], []) rfl rfl rfl ?_
  refine ⟨rfl, ?_⟩
  refine bGo hA 0 2 (4, .aload_n 0, 1, 3, 0, [0], []) rfl rfl rfl ?_
  refine bGo hA 0 3 (5, .bipush (6), 2, 4, 0, [], [(6, 0)]) rfl rfl rfl ?_
  refine bEqI bl_6 ?_
  refine bGo hA 0 4 (7, .newarray .int, 2, 5, 0, [34], []) rfl rfl rfl ?_
  refine ⟨h.1, (bn_nat 6), by decide, (by decide : 6 ≤ 10000), ?_⟩
  refine bGo hA 0 5 (9, .putfield 9, 3, 6, 0, [7, 0, 3, 34, 1, 0], []) rfl rfl rfl ?_
  refine ⟨rfl, rfl, ?_⟩
  refine bGo hA 0 6 (12, .aload_n 0, 1, 7, 0, [0], []) rfl rfl rfl ?_
  refine bGo hA 0 7 (13, .bipush (72), 2, 8, 0, [], [(72, 0)]) rfl rfl rfl ?_
  refine bEqI bl_72 ?_
  refine bGo hA 0 8 (15, .newarray .int, 2, 9, 0, [35], []) rfl rfl rfl ?_
  refine ⟨h.2.1, (bn_nat 72), by decide, (by decide : 72 ≤ 10000), ?_⟩
  refine bGo hA 0 9 (17, .putfield 15, 3, 10, 0, [7, 1, 3, 35, 1, 0], []) rfl rfl rfl ?_
  refine ⟨rfl, rfl, ?_⟩
  refine bGo hA 0 10 (20, .aload_n 0, 1, 11, 0, [0], []) rfl rfl rfl ?_
  refine bGo hA 0 11 (21, .bipush (72), 2, 12, 0, [], [(72, 0)]) rfl rfl rfl ?_
  refine bEqI bl_72 ?_
  refine bGo hA 0 12 (23, .newarray .int, 2, 13, 0, [36], []) rfl rfl rfl ?_
  refine ⟨h.2.2.1, (bn_nat 72), by decide, (by decide : 72 ≤ 10000), ?_⟩
  refine bGo hA 0 13 (25, .putfield 18, 3, 14, 0, [7, 2, 3, 36, 1, 0], []) rfl rfl rfl ?_
  refine ⟨rfl, rfl, ?_⟩
  refine bGo hA 0 14 (28, .aload_n 0, 1, 15, 0, [0], []) rfl rfl rfl ?_
  refine bGo hA 0 15 (29, .bipush (72), 2, 16, 0, [], [(72, 0)]) rfl rfl rfl ?_
  refine bEqI bl_72 ?_
  refine bGo hA 1 0 (31, .newarray .int, 2, 17, 0, [37], []) rfl rfl rfl ?_
  refine ⟨h.2.2.2.1, (bn_nat 72), by decide, (by decide : 72 ≤ 10000), ?_⟩
  refine bGo hA 1 1 (33, .putfield 21, 3, 18, 0, [7, 3, 3, 37, 1, 0], []) rfl rfl rfl ?_
  refine ⟨rfl, rfl, ?_⟩
  refine bGo hA 1 2 (36, .aload_n 0, 1, 19, 0, [0], []) rfl rfl rfl ?_
  refine bGo hA 1 3 (37, .bipush (72), 2, 20, 0, [], [(72, 0)]) rfl rfl rfl ?_
  refine bEqI bl_72 ?_
  refine bGo hA 1 4 (39, .newarray .int, 2, 21, 0, [38], []) rfl rfl rfl ?_
  refine ⟨h.2.2.2.2.1, (bn_nat 72), by decide, (by decide : 72 ≤ 10000), ?_⟩
  refine bGo hA 1 5 (41, .putfield 24, 3, 22, 0, [7, 4, 3, 38, 1, 0], []) rfl rfl rfl ?_
  refine ⟨rfl, rfl, ?_⟩
  refine bGo hA 1 6 (44, .aload_n 0, 1, 23, 0, [0], []) rfl rfl rfl ?_
  refine bGo hA 1 7 (45, .bipush (48), 2, 24, 0, [], [(48, 0)]) rfl rfl rfl ?_
  refine bEqI bl_48 ?_
  refine bGo hA 1 8 (47, .newarray .int, 2, 25, 0, [39], []) rfl rfl rfl ?_
  refine ⟨h.2.2.2.2.2.1, (bn_nat 48), by decide, (by decide : 48 ≤ 10000), ?_⟩
  refine bGo hA 1 9 (49, .putfield 27, 3, 26, 0, [7, 5, 3, 39, 1, 0], []) rfl rfl rfl ?_
  refine ⟨rfl, rfl, ?_⟩
  refine bGo hA 1 10 (52, .aload_n 0, 1, 27, 0, [0], []) rfl rfl rfl ?_
  refine bGo hA 1 11 (53, .bipush (6), 2, 28, 0, [], [(6, 0)]) rfl rfl rfl ?_
  refine bEqI bl_6 ?_
  refine bGo hA 1 12 (55, .newarray .int, 2, 29, 0, [40], []) rfl rfl rfl ?_
  refine ⟨h.2.2.2.2.2.2.1, (bn_nat 6), by decide, (by decide : 6 ≤ 10000), ?_⟩
  refine bGo hA 1 13 (57, .putfield 30, 3, 30, 0, [7, 6, 3, 40, 1, 0], []) rfl rfl rfl ?_
  refine ⟨rfl, rfl, ?_⟩
  refine bGo hA 1 14 (60, .aload_n 0, 1, 31, 0, [0], []) rfl rfl rfl ?_
  refine bGo hA 1 15 (61, .bipush (6), 2, 32, 0, [], [(6, 0)]) rfl rfl rfl ?_
  refine bEqI bl_6 ?_
  refine bGo hA 2 0 (63, .newarray .int, 2, 33, 0, [41], []) rfl rfl rfl ?_
  refine ⟨h.2.2.2.2.2.2.2.1, (bn_nat 6), by decide, (by decide : 6 ≤ 10000), ?_⟩
  refine bGo hA 2 1 (65, .putfield 33, 3, 34, 0, [7, 7, 3, 41, 1, 0], []) rfl rfl rfl ?_
  refine ⟨rfl, rfl, ?_⟩
  refine bGo hA 2 2 (68, .aload_n 0, 1, 35, 0, [0], []) rfl rfl rfl ?_
  refine bGo hA 2 3 (69, .bipush (6), 2, 36, 0, [], [(6, 0)]) rfl rfl rfl ?_
  refine bEqI bl_6 ?_
  refine bGo hA 2 4 (71, .newarray .int, 2, 37, 0, [42], []) rfl rfl rfl ?_
  refine ⟨h.2.2.2.2.2.2.2.2.1, (bn_nat 6), by decide, (by decide : 6 ≤ 10000), ?_⟩
  refine bGo hA 2 5 (73, .putfield 36, 3, 38, 0, [7, 8, 3, 42, 1, 0], []) rfl rfl rfl ?_
  refine ⟨rfl, rfl, ?_⟩
  refine bGo hA 2 6 (76, .aload_n 0, 1, 39, 0, [0], []) rfl rfl rfl ?_
  refine bGo hA 2 7 (77, .bipush (72), 2, 40, 0, [], [(72, 0)]) rfl rfl rfl ?_
  refine bEqI bl_72 ?_
  refine bGo hA 2 8 (79, .newarray .int, 2, 41, 0, [43], []) rfl rfl rfl ?_
  refine ⟨h.2.2.2.2.2.2.2.2.2.1, (bn_nat 72), by decide, (by decide : 72 ≤ 10000), ?_⟩
  refine bGo hA 2 9 (81, .putfield 39, 3, 42, 0, [7, 9, 3, 43, 1, 0], []) rfl rfl rfl ?_
  refine ⟨rfl, rfl, ?_⟩
  refine bGo hA 2 10 (84, .aload_n 0, 1, 43, 0, [0], []) rfl rfl rfl ?_
  refine bGo hA 2 11 (85, .bipush (72), 2, 44, 0, [], [(72, 0)]) rfl rfl rfl ?_
  refine bEqI bl_72 ?_
  refine bGo hA 2 12 (87, .newarray .int, 2, 45, 0, [44], []) rfl rfl rfl ?_
  refine ⟨h.2.2.2.2.2.2.2.2.2.2.1, (bn_nat 72), by decide, (by decide : 72 ≤ 10000), ?_⟩
  refine bGo hA 2 13 (89, .putfield 42, 3, 46, 0, [7, 10, 3, 44, 1, 0], []) rfl rfl rfl ?_
  refine ⟨rfl, rfl, ?_⟩
  refine bGo hA 2 14 (92, .aload_n 0, 1, 47, 0, [0], []) rfl rfl rfl ?_
  refine bGo hA 2 15 (93, .sipush (576), 3, 48, 0, [], [(576, 0)]) rfl rfl rfl ?_
  refine bEqI bl_576 ?_
  refine bGo hA 3 0 (96, .newarray .int, 2, 49, 0, [45], []) rfl rfl rfl ?_
  refine ⟨h.2.2.2.2.2.2.2.2.2.2.2.1, (bn_nat 576), by decide, (by decide : 576 ≤ 10000), ?_⟩
  refine bGo hA 3 1 (98, .putfield 45, 3, 50, 0, [7, 11, 3, 45, 1, 0], []) rfl rfl rfl ?_
  refine ⟨rfl, rfl, ?_⟩
  refine bGo hA 3 2 (101, .aload_n 0, 1, 51, 0, [0], []) rfl rfl rfl ?_
  refine bGo hA 3 3 (102, .iconst (-1), 1, 52, 0, [], [(-1, 0)]) rfl rfl rfl ?_
  refine bEqI bl_m1 ?_
  refine bGo hA 3 4 (103, .putfield 48, 3, 53, 0, [7, 14, 0, 0, 0, 0], []) rfl rfl rfl ?_
  refine ⟨rfl, ?_⟩
  refine bGo hA 3 5 (106, .aload_n 0, 1, 54, 0, [0], []) rfl rfl rfl ?_
  refine bGo hA 3 6 (107, .iconst (-1), 1, 55, 0, [], [(-1, 0)]) rfl rfl rfl ?_
  refine bEqI bl_m1 ?_
  refine bGo hA 3 7 (108, .putfield 52, 3, 56, 0, [7, 15, 0, 0, 0, 0], []) rfl rfl rfl ?_
  refine ⟨rfl, ?_⟩
  refine bGo hA 3 8 (111, .return_, 1, 0, 0, [5, 7, 0, 1, 2, 3, 4, 5, 6, 7, 8, 9, 10, 11], []) rfl rfl rfl ?_
  exact ⟨rfl, (h.2.2.2.2.2.2.2.2.2.2.2.2 _ rfl)⟩

theorem sq109_0 {lvl : Nat} {C : bCall} {Q : bPost} {A : bPt → Prop} (hC : bMono C) (hA : bClosed lvl bm109 C Q A) {a0 : Nat} {x1 : Int} {x2 : Int} {x3 : Int} {σ : bSt} (h_a0 : a0 % 256 = 8) (h_x1 : bRg x1) (h_x2 : bRg x2) (h_x3 : bRg x3)
  (h : ((bw (bw (bw (bw (bw σ a0 3 (-1)) a0 4 (-1)) a0 5 (-1)) a0 6 255) a0 9 1).2.2.2.1 (256 * (1 * (a0 / 256) + 0) + 46) = 0 ∧ ((6 : Int) = (bLen (bw (bw (bw (bw (bw σ a0 3 (-1)) a0 4 (-1)) a0 5 (-1)) a0 6 255) a0 9 1) (256 * (1 * (a0 / 256) + 0) + 46) : Int) ∧ ((256 * (1 * (a0 / 256) + 0) + 46) % 256 < 200 ∧ ((bLen (bw (bw (bw (bw (bw σ a0 3 (-1)) a0 4 (-1)) a0 5 (-1)) a0 6 255) a0 9 1) (256 * (1 * (a0 / 256) + 0) + 46)) ≤ 10000 ∧ ((bwr (bNew (bw (bw (bw (bw (bw σ a0 3 (-1)) a0 4 (-1)) a0 5 (-1)) a0 6 255) a0 9 1) (256 * (1 * (a0 / 256) + 0) + 46) 2 (bLen (bw (bw (bw (bw (bw σ a0 3 (-1)) a0 4 (-1)) a0 5 (-1)) a0 6 255) a0 9 1) (256 * (1 * (a0 / 256) + 0) + 46))) a0 15 (some (256 * (1 * (a0 / 256) + 0) + 46))).2.2.2.1 (256 * (1 * (a0 / 256) + 0) + 47) = 0 ∧ ((4 : Int) = (bLen (bwr (bNew (bw (bw (bw (bw (bw σ a0 3 (-1)) a0 4 (-1)) a0 5 (-1)) a0 6 255) a0 9 1) (256 * (1 * (a0 / 256) + 0) + 46) 2 (bLen (bw (bw (bw (bw (bw σ a0 3 (-1)) a0 4 (-1)) a0 5 (-1)) a0 6 255) a0 9 1) (256 * (1 * (a0 / 256) + 0) + 46))) a0 15 (some (256 * (1 * (a0 / 256) + 0) + 46))) (256 * (1 * (a0 / 256) + 0) + 47) : Int) ∧ ((256 * (1 * (a0 / 256) + 0) + 47) % 256 < 200 ∧ ((bLen (bwr (bNew (bw (bw (bw (bw (bw σ a0 3 (-1)) a0 4 (-1)) a0 5 (-1)) a0 6 255) a0 9 1) (256 * (1 * (a0 / 256) + 0) + 46) 2 (bLen (bw (bw (bw (bw (bw σ a0 3 (-1)) a0 4 (-1)) a0 5 (-1)) a0 6 255) a0 9 1) (256 * (1 * (a0 / 256) + 0) + 46))) a0 15 (some (256 * (1 * (a0 / 256) + 0) + 46))) (256 * (1 * (a0 / 256) + 0) + 47)) ≤ 10000 ∧ (∀ s1 : bSt, s1 = (bNew (bwr (bNew (bw (bw (bw (bw (bw σ a0 3 (-1)) a0 4 (-1)) a0 5 (-1)) a0 6 255) a0 9 1) (256 * (1 * (a0 / 256) + 0) + 46) 2 (bLen (bw (bw (bw (bw (bw σ a0 3 (-1)) a0 4 (-1)) a0 5 (-1)) a0 6 255) a0 9 1) (256 * (1 * (a0 / 256) + 0) + 46))) a0 15 (some (256 * (1 * (a0 / 256) + 0) + 46))) (256 * (1 * (a0 / 256) + 0) + 47) 2 (bLen (bwr (bNew (bw (bw (bw (bw (bw σ a0 3 (-1)) a0 4 (-1)) a0 5 (-1)) a0 6 255) a0 9 1) (256 * (1 * (a0 / 256) + 0) + 46) 2 (bLen (bw (bw (bw (bw (bw σ a0 3 (-1)) a0 4 (-1)) a0 5 (-1)) a0 6 255) a0 9 1) (256 * (1 * (a0 / 256) + 0) + 46))) a0 15 (some (256 * (1 * (a0 / 256) + 0) + 46))) (256 * (1 * (a0 / 256) + 0) + 47))) → ((bwr s1 a0 16 (some (256 * (1 * (a0 / 256) + 0) + 47))).2.2.2.1 (256 * (1 * (a0 / 256) + 0) + 48) = 0 ∧ ((4 : Int) = (bLen (bwr s1 a0 16 (some (256 * (1 * (a0 / 256) + 0) + 47))) (256 * (1 * (a0 / 256) + 0) + 48) : Int) ∧ ((256 * (1 * (a0 / 256) + 0) + 48) % 256 < 200 ∧ ((bLen (bwr s1 a0 16 (some (256 * (1 * (a0 / 256) + 0) + 47))) (256 * (1 * (a0 / 256) + 0) + 48)) ≤ 10000 ∧ ((bwr (bNew (bwr s1 a0 16 (some (256 * (1 * (a0 / 256) + 0) + 47))) (256 * (1 * (a0 / 256) + 0) + 48) 2 (bLen (bwr s1 a0 16 (some (256 * (1 * (a0 / 256) + 0) + 47))) (256 * (1 * (a0 / 256) + 0) + 48))) a0 17 (some (256 * (1 * (a0 / 256) + 0) + 48))).2.2.2.1 (256 * (1 * (a0 / 256) + 0) + 49) = 0 ∧ ((63 : Int) = (bLen (bwr (bNew (bwr s1 a0 16 (some (256 * (1 * (a0 / 256) + 0) + 47))) (256 * (1 * (a0 / 256) + 0) + 48) 2 (bLen (bwr s1 a0 16 (some (256 * (1 * (a0 / 256) + 0) + 47))) (256 * (1 * (a0 / 256) + 0) + 48))) a0 17 (some (256 * (1 * (a0 / 256) + 0) + 48))) (256 * (1 * (a0 / 256) + 0) + 49) : Int) ∧ ((256 * (1 * (a0 / 256) + 0) + 49) % 256 < 200 ∧ ((bLen (bwr (bNew (bwr s1 a0 16 (some (256 * (1 * (a0 / 256) + 0) + 47))) (256 * (1 * (a0 / 256) + 0) + 48) 2 (bLen (bwr s1 a0 16 (some (256 * (1 * (a0 / 256) + 0) + 47))) (256 * (1 * (a0 / 256) + 0) + 48))) a0 17 (some (256 * (1 * (a0 / 256) + 0) + 48))) (256 * (1 * (a0 / 256) + 0) + 49)) ≤ 10000 ∧ (∀ s2 : bSt, s2 = (bNew (bwr (bNew (bwr s1 a0 16 (some (256 * (1 * (a0 / 256) + 0) + 47))) (256 * (1 * (a0 / 256) + 0) + 48) 2 (bLen (bwr s1 a0 16 (some (256 * (1 * (a0 / 256) + 0) + 47))) (256 * (1 * (a0 / 256) + 0) + 48))) a0 17 (some (256 * (1 * (a0 / 256) + 0) + 48))) (256 * (1 * (a0 / 256) + 0) + 49) 2 (bLen (bwr (bNew (bwr s1 a0 16 (some (256 * (1 * (a0 / 256) + 0) + 47))) (256 * (1 * (a0 / 256) + 0) + 48) 2 (bLen (bwr s1 a0 16 (some (256 * (1 * (a0 / 256) + 0) + 47))) (256 * (1 * (a0 / 256) + 0) + 48))) a0 17 (some (256 * (1 * (a0 / 256) + 0) + 48))) (256 * (1 * (a0 / 256) + 0) + 49))) → ((br (bw (bw (bw (bwr s2 a0 18 (some (256 * (1 * (a0 / 256) + 0) + 49))) a0 0 x1) a0 1 x2) a0 2 x3) a0 17).isSome = true ∧ (C 361 [.ref (256 * (1 * (a0 / 256) + 0) + 48), .int (bn (-1))] (bw (bw (bw (bwr s2 a0 18 (some (256 * (1 * (a0 / 256) + 0) + 49))) a0 0 x1) a0 1 x2) a0 2 x3) (bRv (fun s3 => (bAll s3 a0 [15, 16, 17, 18] ∧ Q (.inl none) (bA s3 a0 2))))))))))))))))))))))))) : A (0, [.retAddr a0, .int (bn x1), .int (bn x2), .int (bn x3)], [], σ) := by
  refine bGo hA 0 0 (0, .aload_n 0, 1, 1, 0, [0], []) rfl rfl rfl ?_
  refine bGo hA 0 1 (1, .invokespecial 3, 3, 2, 0, [6, 0, 0], []) rfl rfl rfl ?_
  refine ⟨rfl, ?_⟩
  refine bGo hA 0 2 (4, .aload_n 0, 1, 3, 0, [0], []) rfl rfl rfl ?_
  refine bGo hA 0 3 (5, .iconst (-1), 1, 4, 0, [], [(-1, 0)]) rfl rfl rfl ?_
  refine bEqI bl_m1 ?_
  refine bGo hA 0 4 (6, .putfield 9, 3, 5, 0, [8, 3, 0, 0, 0, 0], []) rfl rfl rfl ?_
  refine ⟨h_a0, ?_⟩
  refine bGo hA 0 5 (9, .aload_n 0, 1, 6, 0, [0], []) rfl rfl rfl ?_
  refine bGo hA 0 6 (10, .iconst (-1), 1, 7, 0, [], [(-1, 0)]) rfl rfl rfl ?_
  refine bEqI bl_m1 ?_
  refine bGo hA 0 7 (11, .putfield 15, 3, 8, 0, [8, 4, 0, 0, 0, 0], []) rfl rfl rfl ?_
  refine ⟨h_a0, ?_⟩
  refine bGo hA 0 8 (14, .aload_n 0, 1, 9, 0, [0], []) rfl rfl rfl ?_
  refine bGo hA 0 9 (15, .iconst (-1), 1, 10, 0, [], [(-1, 0)]) rfl rfl rfl ?_
  refine bEqI bl_m1 ?_
  refine bGo hA 0 10 (16, .putfield 18, 3, 11, 0, [8, 5, 0, 0, 0, 0], []) rfl rfl rfl ?_
  refine ⟨h_a0, ?_⟩
  refine bGo hA 0 11 (19, .aload_n 0, 1, 12, 0, [0], []) rfl rfl rfl ?_
  refine bGo hA 0 12 (20, .sipush (255), 3, 13, 0, [], [(255, 0)]) rfl rfl rfl ?_
  refine bEqI bl_255 ?_
  refine bGo hA 0 13 (23, .putfield 21, 3, 14, 0, [8, 6, 0, 0, 0, 0], []) rfl rfl rfl ?_
  refine ⟨h_a0, ?_⟩
  refine bGo hA 0 14 (26, .aload_n 0, 1, 15, 0, [0], []) rfl rfl rfl ?_
  refine bGo hA 0 15 (27, .iconst (1), 1, 16, 0, [], [(1, 0)]) rfl rfl rfl ?_
  refine bEqI bl_1 ?_
  refine bGo hA 1 0 (28, .putfield 24, 3, 17, 0, [8, 9, 0, 0, 0, 0], []) rfl rfl rfl ?_
  refine ⟨h_a0, ?_⟩
  refine bGo hA 1 1 (31, .aload_n 0, 1, 18, 0, [0], []) rfl rfl rfl ?_
  refine bGo hA 1 2 (32, .bipush (6), 2, 19, 0, [], [(6, 0)]) rfl rfl rfl ?_
  refine bEqI bl_6 ?_
  refine bGo hA 1 3 (34, .newarray .int, 2, 20, 0, [46], []) rfl rfl rfl ?_
  refine ⟨h.1, (bn_len h.2.1), h.2.2.1, h.2.2.2.1, ?_⟩
  refine bGo hA 1 4 (36, .putfield 27, 3, 21, 0, [8, 15, 3, 46, 1, 0], []) rfl rfl rfl ?_
  refine ⟨h_a0, rfl, ?_⟩
  refine bGo hA 1 5 (39, .aload_n 0, 1, 22, 0, [0], []) rfl rfl rfl ?_
  refine bGo hA 1 6 (40, .iconst (4), 1, 23, 0, [], [(4, 0)]) rfl rfl rfl ?_
  refine bEqI bl_4 ?_
  refine bGo hA 1 7 (41, .newarray .int, 2, 24, 0, [47], []) rfl rfl rfl ?_
  refine ⟨h.2.2.2.2.1, (bn_len h.2.2.2.2.2.1), h.2.2.2.2.2.2.1, h.2.2.2.2.2.2.2.1, ?_⟩
  refine bGo hA 1 8 (43, .putfield 31, 3, 25, 0, [8, 16, 3, 47, 1, 0], []) rfl rfl rfl ?_
  refine ⟨h_a0, rfl, ?_⟩
  refine bGo hA 1 9 (46, .aload_n 0, 1, 26, 0, [0], []) rfl rfl rfl ?_
  refine bGo hA 1 10 (47, .iconst (4), 1, 27, 0, [], [(4, 0)]) rfl rfl rfl ?_
  refine bEqI bl_4 ?_
  refine bGo hA 1 11 (48, .newarray .int, 2, 28, 0, [48], []) rfl rfl rfl ?_
  refine ⟨(h.2.2.2.2.2.2.2.2 _ rfl).1, (bn_len (h.2.2.2.2.2.2.2.2 _ rfl).2.1), (h.2.2.2.2.2.2.2.2 _ rfl).2.2.1, (h.2.2.2.2.2.2.2.2 _ rfl).2.2.2.1, ?_⟩
  refine bGo hA 1 12 (50, .putfield 34, 3, 29, 0, [8, 17, 3, 48, 1, 0], []) rfl rfl rfl ?_
  refine ⟨h_a0, rfl, ?_⟩
  refine bGo hA 1 13 (53, .aload_n 0, 1, 30, 0, [0], []) rfl rfl rfl ?_
  refine bGo hA 1 14 (54, .bipush (63), 2, 31, 0, [], [(63, 0)]) rfl rfl rfl ?_
  refine bEqI bl_63 ?_
  refine bGo hA 1 15 (56, .newarray .long, 2, 32, 0, [49], []) rfl rfl rfl ?_
  refine ⟨(h.2.2.2.2.2.2.2.2 _ rfl).2.2.2.2.1, (bn_len (h.2.2.2.2.2.2.2.2 _ rfl).2.2.2.2.2.1), (h.2.2.2.2.2.2.2.2 _ rfl).2.2.2.2.2.2.1, (h.2.2.2.2.2.2.2.2 _ rfl).2.2.2.2.2.2.2.1, ?_⟩
  refine bGo hA 2 0 (58, .putfield 37, 3, 33, 0, [8, 18, 3, 49, 1, 0], []) rfl rfl rfl ?_
  refine ⟨h_a0, rfl, ?_⟩
  refine bGo hA 2 1 (61, .aload_n 0, 1, 34, 0, [0], []) rfl rfl rfl ?_
  refine bGo hA 2 2 (62, .iload_n 1, 1, 35, 0, [1], []) rfl rfl rfl ?_
  refine bGo hA 2 3 (63, .putfield 41, 3, 36, 0, [8, 0, 0, 0, 0, 0], []) rfl rfl rfl ?_
  refine ⟨h_a0, ?_⟩
  refine bGo hA 2 4 (66, .aload_n 0, 1, 37, 0, [0], []) rfl rfl rfl ?_
  refine bGo hA 2 5 (67, .iload_n 2, 1, 38, 0, [2], []) rfl rfl rfl ?_
  refine bGo hA 2 6 (68, .putfield 44, 3, 39, 0, [8, 1, 0, 0, 0, 0], []) rfl rfl rfl ?_
  refine ⟨h_a0, ?_⟩
  refine bGo hA 2 7 (71, .aload_n 0, 1, 40, 0, [0], []) rfl rfl rfl ?_
  refine bGo hA 2 8 (72, .iload_n 3, 1, 41, 0, [3], []) rfl rfl rfl ?_
  refine bGo hA 2 9 (73, .putfield 47, 3, 42, 0, [8, 2, 0, 0, 0, 0], []) rfl rfl rfl ?_
  refine ⟨h_a0, ?_⟩
  refine bGo hA 2 10 (76, .aload_n 0, 1, 43, 0, [0], []) rfl rfl rfl ?_
  refine bGo hA 2 11 (77, .getfield 34, 3, 44, 0, [8, 17, 3, 48, 1, 0], []) rfl rfl rfl ?_
  refine ⟨h_a0, ((h.2.2.2.2.2.2.2.2 _ rfl).2.2.2.2.2.2.2.2 _ rfl).1, ?_⟩
  refine bGo hA 2 12 (80, .iconst (-1), 1, 45, 0, [], [(-1, 0)]) rfl rfl rfl ?_
  refine bEqI bl_m1 ?_
  refine bGo hA 2 13 (81, .invokestatic 50, 3, 46, 0, [2, 361, 2], []) rfl rfl rfl ?_
  refine hC _ _ _ _ _ (bRv_e (fun s3 k4 => ?_)) ((h.2.2.2.2.2.2.2.2 _ rfl).2.2.2.2.2.2.2.2 _ rfl).2
  show A (46, [.retAddr a0, .int (bn x1), .int (bn x2), .int (bn x3)], [], s3)
  refine bGo hA 2 14 (84, .return_, 1, 0, 0, [5, 8, 15, 16, 17, 18], []) rfl rfl rfl ?_
  exact ⟨h_a0, k4⟩

theorem sq119_0 {lvl : Nat} {C : bCall} {Q : bPost} {A : bPt → Prop} (hC : bMono C) (hA : bClosed lvl bm119 C Q A)  {σ : bSt}  
  (h : (σ.2.2.2.1 50 = 0 ∧ ((bwr (bNew σ 50 2 16) 9 1 (some 50)).2.2.2.1 8 = 0 ∧ (C 109 [.retAddr 8, .int (bn 0), .int (bn 0), .int (bn 0)] (bNew (bwr (bNew σ 50 2 16) 9 1 (some 50)) 8 1 19) (bRv (fun s1 => (s1.2.2.2.1 8 = 2 ∧ ((bwr s1 9 2 (some 8)).2.2.2.1 51 = 0 ∧ (bAll (bwr (bNew (bwr s1 9 2 (some 8)) 51 2 16) 9 3 (some 51)) 9 [1, 2, 3] ∧ Q (.inl none) (bA (bwr (bNew (bwr s1 9 2 (some 8)) 51 2 16) 9 3 (some 51)) 9 2)))))))))) : A (0, [.retAddr 9], [], σ) := by
  refine bGo hA 0 0 (0, .aload_n 0, 1, 1, 0, [0], []) rfl rfl rfl ?_
  refine bGo hA 0 1 (1, .invokespecial 3, 3, 2, 0, [6, 0, 0], []) rfl rfl rfl ?_
  refine ⟨rfl, ?_⟩
  refine bGo hA 0 2 (4, .aload_n 0, 1, 3, 0, [0], []) rfl rfl rfl ?_
  refine bGo hA 0 3 (5, .bipush (16), 2, 4, 0, [], [(16, 0)]) rfl rfl rfl ?_
  refine bEqI bl_16 ?_
  refine bGo hA 0 4 (7, .anewarray 9, 3, 5, 0, [50], []) rfl rfl rfl ?_
  refine ⟨h.1, (bn_nat 16), by decide, (by decide : 16 ≤ 10000), ?_⟩
  refine bGo hA 0 5 (10, .putfield 11, 3, 6, 0, [9, 1, 3, 50, 1, 0], []) rfl rfl rfl ?_
  refine ⟨rfl, rfl, ?_⟩
  refine bGo hA 0 6 (13, .aload_n 0, 1, 7, 0, [0], []) rfl rfl rfl ?_
  refine bGo hA 0 7 (14, .new 9, 3, 8, 0, [0, 8, 19, 0, 0], []) rfl rfl rfl ?_
  refine ⟨h.2.1, ?_⟩
  refine bGo hA 0 8 (17, .dup, 1, 9, 0, [], []) rfl rfl rfl ?_
  refine bGo hA 0 9 (18, .iconst (0), 1, 10, 0, [], [(0, 0)]) rfl rfl rfl ?_
  refine bEqI bl_0 ?_
  refine bGo hA 0 10 (19, .iconst (0), 1, 11, 0, [], [(0, 0)]) rfl rfl rfl ?_
  refine bEqI bl_0 ?_
  refine bGo hA 0 11 (20, .iconst (0), 1, 12, 0, [], [(0, 0)]) rfl rfl rfl ?_
  refine bEqI bl_0 ?_
  refine bGo hA 0 12 (21, .invokespecial 17, 3, 13, 0, [4, 8, 109, 3], []) rfl rfl rfl ?_
  refine ⟨rfl, rfl, ?_⟩
  refine hC _ _ _ _ _ (bRv_e (fun s1 k2 => ?_)) h.2.2
  refine ⟨⟨rfl, k2.1⟩, ?_⟩
  show A (13, [.retAddr 9], [.ref 8, .retAddr 9], s1)
  refine bGo hA 0 13 (24, .putfield 20, 3, 14, 0, [9, 2, 3, 8, 0, 0], []) rfl rfl rfl ?_
  refine ⟨rfl, rfl, ?_⟩
  refine bGo hA 0 14 (27, .aload_n 0, 1, 15, 0, [0], []) rfl rfl rfl ?_
  refine bGo hA 0 15 (28, .bipush (16), 2, 16, 0, [], [(16, 0)]) rfl rfl rfl ?_
  refine bEqI bl_16 ?_
  refine bGo hA 1 0 (30, .newarray .int, 2, 17, 0, [51], []) rfl rfl rfl ?_
  refine ⟨k2.2.1, (bn_nat 16), by decide, (by decide : 16 ≤ 10000), ?_⟩
  refine bGo hA 1 1 (32, .putfield 24, 3, 18, 0, [9, 3, 3, 51, 1, 0], []) rfl rfl rfl ?_
  refine ⟨rfl, rfl, ?_⟩
  refine bGo hA 1 2 (35, .return_, 1, 0, 0, [5, 9, 1, 2, 3], []) rfl rfl rfl ?_
  exact ⟨rfl, k2.2.2⟩

theorem sq128_0 {lvl : Nat} {C : bCall} {Q : bPost} {A : bPt → Prop} (hC : bMono C) (hA : bClosed lvl bm128 C Q A)  {σ : bSt}  
  (h : (σ.2.2.2.1 52 = 0 ∧ ((bwr (bNew σ 52 2 8) 10 2 (some 52)).2.2.2.1 53 = 0 ∧ ((bwr (bNew (bwr (bNew σ 52 2 8) 10 2 (some 52)) 53 2 8) 10 3 (some 53)).2.2.2.1 54 = 0 ∧ ((bwr (bNew (bwr (bNew (bwr (bNew σ 52 2 8) 10 2 (some 52)) 53 2 8) 10 3 (some 53)) 54 2 8) 10 4 (some 54)).2.2.2.1 55 = 0 ∧ (bAll (bwr (bNew (bwr (bNew (bwr (bNew (bwr (bNew σ 52 2 8) 10 2 (some 52)) 53 2 8) 10 3 (some 53)) 54 2 8) 10 4 (some 54)) 55 2 8) 10 5 (some 55)) 10 [2, 3, 4, 5] ∧ Q (.inl none) (bA (bwr (bNew (bwr (bNew (bwr (bNew (bwr (bNew σ 52 2 8) 10 2 (some 52)) 53 2 8) 10 3 (some 53)) 54 2 8) 10 4 (some 54)) 55 2 8) 10 5 (some 55)) 10 2))))))) : A (0, [.retAddr 10], [], σ) := by
  refine bGo hA 0 0 (0, .aload_n 0, 1, 1, 0, [0], []) rfl rfl rfl ?_
  refine bGo hA 0 1 (1, .invokespecial 3, 3, 2, 0, [6, 0, 0], []) rfl rfl rfl ?_
  refine ⟨rfl, ?_⟩
  refine bGo hA 0 2 (4, .aload_n 0, 1, 3, 0, [0], []) rfl rfl rfl ?_
  refine bGo hA 0 3 (5, .bipush (8), 2, 4, 0, [], [(8, 0)]) rfl rfl rfl ?_
  refine bEqI bl_8 ?_
  refine bGo hA 0 4 (7, .newarray .int, 2, 5, 0, [52], []) rfl rfl rfl ?_
  refine ⟨h.1, (bn_nat 8), by decide, (by decide : 8 ≤ 10000), ?_⟩
  refine bGo hA 0 5 (9, .putfield 9, 3, 6, 0, [10, 2, 3, 52, 1, 0], []) rfl rfl rfl ?_
  refine ⟨rfl, rfl, ?_⟩
  refine bGo hA 0 6 (12, .aload_n 0, 1, 7, 0, [0], []) rfl rfl rfl ?_
  refine bGo hA 0 7 (13, .bipush (8), 2, 8, 0, [], [(8, 0)]) rfl rfl rfl ?_
  refine bEqI bl_8 ?_
  refine bGo hA 0 8 (15, .newarray .int, 2, 9, 0, [53], []) rfl rfl rfl ?_
  refine ⟨h.2.1, (bn_nat 8), by decide, (by decide : 8 ≤ 10000), ?_⟩
  refine bGo hA 0 9 (17, .putfield 15, 3, 10, 0, [10, 3, 3, 53, 1, 0], []) rfl rfl rfl ?_
  refine ⟨rfl, rfl, ?_⟩
  refine bGo hA 0 10 (20, .aload_n 0, 1, 11, 0, [0], []) rfl rfl rfl ?_
  refine bGo hA 0 11 (21, .bipush (8), 2, 12, 0, [], [(8, 0)]) rfl rfl rfl ?_
  refine bEqI bl_8 ?_
  refine bGo hA 0 12 (23, .newarray .int, 2, 13, 0, [54], []) rfl rfl rfl ?_
  refine ⟨h.2.2.1, (bn_nat 8), by decide, (by decide : 8 ≤ 10000), ?_⟩
  refine bGo hA 0 13 (25, .putfield 18, 3, 14, 0, [10, 4, 3, 54, 1, 0], []) rfl rfl rfl ?_
  refine ⟨rfl, rfl, ?_⟩
  refine bGo hA 0 14 (28, .aload_n 0, 1, 15, 0, [0], []) rfl rfl rfl ?_
  refine bGo hA 0 15 (29, .bipush (8), 2, 16, 0, [], [(8, 0)]) rfl rfl rfl ?_
  refine bEqI bl_8 ?_
  refine bGo hA 1 0 (31, .newarray .int, 2, 17, 0, [55], []) rfl rfl rfl ?_
  refine ⟨h.2.2.2.1, (bn_nat 8), by decide, (by decide : 8 ≤ 10000), ?_⟩
  refine bGo hA 1 1 (33, .putfield 21, 3, 18, 0, [10, 5, 3, 55, 1, 0], []) rfl rfl rfl ?_
  refine ⟨rfl, rfl, ?_⟩
  refine bGo hA 1 2 (36, .return_, 1, 0, 0, [5, 10, 2, 3, 4, 5], []) rfl rfl rfl ?_
  exact ⟨rfl, h.2.2.2.2⟩

theorem sq135_0 {lvl : Nat} {C : bCall} {Q : bPost} {A : bPt → Prop} (hC : bMono C) (hA : bClosed lvl bm135 C Q A)  {σ : bSt}  
  (h : (σ.2.2.2.1 3 = 0 ∧ (C 30 [.retAddr 3] (bNew σ 3 1 4) (bRv (fun s1 => (s1.2.2.2.1 3 = 2 ∧ ((bwr s1 11 0 (some 3)).2.2.2.1 7 = 0 ∧ (C 90 [.retAddr 7] (bNew (bwr s1 11 0 (some 3)) 7 1 16) (bRv (fun s3 => (s3.2.2.2.1 7 = 2 ∧ ((bwr s3 11 1 (some 7)).2.2.2.1 10 = 0 ∧ (C 128 [.retAddr 10] (bNew (bwr s3 11 1 (some 7)) 10 1 6) (bRv (fun s5 => (s5.2.2.2.1 10 = 2 ∧ ((bwr s5 11 2 (some 10)).2.2.2.1 9 = 0 ∧ (C 119 [.retAddr 9] (bNew (bwr s5 11 2 (some 10)) 9 1 4) (bRv (fun s7 => (s7.2.2.2.1 9 = 2 ∧ ((bwr s7 11 3 (some 9)).2.2.2.1 6 = 0 ∧ ((br (bNew (bwr s7 11 3 (some 9)) 6 1 16) 11 0).isSome = true ∧ ((br (bNew (bwr s7 11 3 (some 9)) 6 1 16) 11 1).isSome = true ∧ ((br (bNew (bwr s7 11 3 (some 9)) 6 1 16) 11 2).isSome = true ∧ ((br (bNew (bwr s7 11 3 (some 9)) 6 1 16) 11 3).isSome = true ∧ (C 67 [.retAddr 6, .ref 3, .ref 7, .ref 10, .ref 9] (bNew (bwr s7 11 3 (some 9)) 6 1 16) (bRv (fun s9 => (s9.2.2.2.1 6 = 2 ∧ ((bwr s9 11 4 (some 6)).2.2.2.1 5 = 0 ∧ ((br (bNew (bwr s9 11 4 (some 6)) 5 1 13) 11 0).isSome = true ∧ ((br (bNew (bwr s9 11 4 (some 6)) 5 1 13) 11 4).isSome = true ∧ (C 45 [.retAddr 5, .ref 3, .ref 6] (bNew (bwr s9 11 4 (some 6)) 5 1 13) (bRv (fun s11 => (s11.2.2.2.1 5 = 2 ∧ (bAll (bwj (bwr s11 11 5 (some 5)) 11 7 (Int64.ofNat 1)) 11 [0, 1, 2, 3, 4, 5] ∧ Q (.inl none) (bA (bwj (bwr s11 11 5 (some 5)) 11 7 (Int64.ofNat 1)) 11 2))))))))))))))))))))))))))))))))))))))) : A (0, [.retAddr 11], [], σ) := by
  refine bGo hA 0 0 (0, .aload_n 0, 1, 1, 0, [0], []) rfl rfl rfl ?_
  refine bGo hA 0 1 (1, .invokespecial 3, 3, 2, 0, [6, 0, 0], []) rfl rfl rfl ?_
  refine ⟨rfl, ?_⟩
  refine bGo hA 0 2 (4, .aload_n 0, 1, 3, 0, [0], []) rfl rfl rfl ?_
  refine bGo hA 0 3 (5, .new 9, 3, 4, 0, [0, 3, 4, 0, 0], []) rfl rfl rfl ?_
  refine ⟨h.1, ?_⟩
  refine bGo hA 0 4 (8, .dup, 1, 5, 0, [], []) rfl rfl rfl ?_
  refine bGo hA 0 5 (9, .invokespecial 11, 3, 6, 0, [4, 3, 30, 0], []) rfl rfl rfl ?_
  refine ⟨rfl, rfl, ?_⟩
  refine hC _ _ _ _ _ (bRv_e (fun s1 k2 => ?_)) h.2
  refine ⟨⟨rfl, k2.1⟩, ?_⟩
  show A (6, [.retAddr 11], [.ref 3, .retAddr 11], s1)
  refine bGo hA 0 6 (12, .putfield 12, 3, 7, 0, [11, 0, 3, 3, 0, 0], []) rfl rfl rfl ?_
  refine ⟨rfl, rfl, ?_⟩
  refine bGo hA 0 7 (15, .aload_n 0, 1, 8, 0, [0], []) rfl rfl rfl ?_
  refine bGo hA 0 8 (16, .new 16, 3, 9, 0, [0, 7, 16, 0, 0], []) rfl rfl rfl ?_
  refine ⟨k2.2.1, ?_⟩
  refine bGo hA 0 9 (19, .dup, 1, 10, 0, [], []) rfl rfl rfl ?_
  refine bGo hA 0 10 (20, .invokespecial 18, 3, 11, 1, [4, 7, 90, 0], []) rfl rfl rfl ?_
  refine ⟨rfl, rfl, ?_⟩
  refine hC _ _ _ _ _ (bRv_e (fun s3 k4 => ?_)) k2.2.2
  refine ⟨⟨rfl, k4.1⟩, ?_⟩
  show A (11, [.retAddr 11], [.ref 7, .retAddr 11], s3)
  refine bGo hA 0 11 (23, .putfield 19, 3, 12, 0, [11, 1, 3, 7, 0, 0], []) rfl rfl rfl ?_
  refine ⟨rfl, rfl, ?_⟩
  refine bGo hA 0 12 (26, .aload_n 0, 1, 13, 0, [0], []) rfl rfl rfl ?_
  refine bGo hA 0 13 (27, .new 23, 3, 14, 0, [0, 10, 6, 0, 0], []) rfl rfl rfl ?_
  refine ⟨k4.2.1, ?_⟩
  refine bGo hA 0 14 (30, .dup, 1, 15, 0, [], []) rfl rfl rfl ?_
  refine bGo hA 0 15 (31, .invokespecial 25, 3, 16, 1, [4, 10, 128, 0], []) rfl rfl rfl ?_
  refine ⟨rfl, rfl, ?_⟩
  refine hC _ _ _ _ _ (bRv_e (fun s5 k6 => ?_)) k4.2.2
  refine ⟨⟨rfl, k6.1⟩, ?_⟩
  show A (16, [.retAddr 11], [.ref 10, .retAddr 11], s5)
  refine bGo hA 1 0 (34, .putfield 26, 3, 17, 0, [11, 2, 3, 10, 0, 0], []) rfl rfl rfl ?_
  refine ⟨rfl, rfl, ?_⟩
  refine bGo hA 1 1 (37, .aload_n 0, 1, 18, 0, [0], []) rfl rfl rfl ?_
  refine bGo hA 1 2 (38, .new 30, 3, 19, 0, [0, 9, 4, 0, 0], []) rfl rfl rfl ?_
  refine ⟨k6.2.1, ?_⟩
  refine bGo hA 1 3 (41, .dup, 1, 20, 0, [], []) rfl rfl rfl ?_
  refine bGo hA 1 4 (42, .invokespecial 32, 3, 21, 1, [4, 9, 119, 0], []) rfl rfl rfl ?_
  refine ⟨rfl, rfl, ?_⟩
  refine hC _ _ _ _ _ (bRv_e (fun s7 k8 => ?_)) k6.2.2
  refine ⟨⟨rfl, k8.1⟩, ?_⟩
  show A (21, [.retAddr 11], [.ref 9, .retAddr 11], s7)
  refine bGo hA 1 5 (45, .putfield 33, 3, 22, 0, [11, 3, 3, 9, 0, 0], []) rfl rfl rfl ?_
  refine ⟨rfl, rfl, ?_⟩
  refine bGo hA 1 6 (48, .aload_n 0, 1, 23, 0, [0], []) rfl rfl rfl ?_
  refine bGo hA 1 7 (49, .new 37, 3, 24, 0, [0, 6, 16, 0, 0], []) rfl rfl rfl ?_
  refine ⟨k8.2.1, ?_⟩
  refine bGo hA 1 8 (52, .dup, 1, 25, 0, [], []) rfl rfl rfl ?_
  refine bGo hA 1 9 (53, .aload_n 0, 1, 26, 0, [0], []) rfl rfl rfl ?_
  refine bGo hA 1 10 (54, .getfield 12, 3, 27, 0, [11, 0, 3, 3, 0, 0], []) rfl rfl rfl ?_
  refine ⟨rfl, k8.2.2.1, ?_⟩
  refine bGo hA 1 11 (57, .aload_n 0, 1, 28, 0, [0], []) rfl rfl rfl ?_
  refine bGo hA 1 12 (58, .getfield 19, 3, 29, 0, [11, 1, 3, 7, 0, 0], []) rfl rfl rfl ?_
  refine ⟨rfl, k8.2.2.2.1, ?_⟩
  refine bGo hA 1 13 (61, .aload_n 0, 1, 30, 0, [0], []) rfl rfl rfl ?_
  refine bGo hA 1 14 (62, .getfield 26, 3, 31, 0, [11, 2, 3, 10, 0, 0], []) rfl rfl rfl ?_
  refine ⟨rfl, k8.2.2.2.2.1, ?_⟩
  refine bGo hA 1 15 (65, .aload_n 0, 1, 32, 0, [0], []) rfl rfl rfl ?_
  refine bGo hA 2 0 (66, .getfield 33, 3, 33, 0, [11, 3, 3, 9, 0, 0], []) rfl rfl rfl ?_
  refine ⟨rfl, k8.2.2.2.2.2.1, ?_⟩
  refine bGo hA 2 1 (69, .invokespecial 39, 3, 34, 0, [4, 6, 67, 4], []) rfl rfl rfl ?_
  refine ⟨rfl, rfl, ?_⟩
  refine hC _ _ _ _ _ (bRv_e (fun s9 k10 => ?_)) k8.2.2.2.2.2.2
  refine ⟨⟨rfl, k10.1⟩, ?_⟩
  show A (34, [.retAddr 11], [.ref 6, .retAddr 11], s9)
  refine bGo hA 2 2 (72, .putfield 42, 3, 35, 0, [11, 4, 3, 6, 0, 0], []) rfl rfl rfl ?_
  refine ⟨rfl, rfl, ?_⟩
  refine bGo hA 2 3 (75, .aload_n 0, 1, 36, 0, [0], []) rfl rfl rfl ?_
  refine bGo hA 2 4 (76, .new 46, 3, 37, 0, [0, 5, 13, 0, 0], []) rfl rfl rfl ?_
  refine ⟨k10.2.1, ?_⟩
  refine bGo hA 2 5 (79, .dup, 1, 38, 0, [], []) rfl rfl rfl ?_
  refine bGo hA 2 6 (80, .aload_n 0, 1, 39, 0, [0], []) rfl rfl rfl ?_
  refine bGo hA 2 7 (81, .getfield 12, 3, 40, 0, [11, 0, 3, 3, 0, 0], []) rfl rfl rfl ?_
  refine ⟨rfl, k10.2.2.1, ?_⟩
  refine bGo hA 2 8 (84, .aload_n 0, 1, 41, 0, [0], []) rfl rfl rfl ?_
  refine bGo hA 2 9 (85, .getfield 42, 3, 42, 0, [11, 4, 3, 6, 0, 0], []) rfl rfl rfl ?_
  refine ⟨rfl, k10.2.2.2.1, ?_⟩
  refine bGo hA 2 10 (88, .invokespecial 48, 3, 43, 0, [4, 5, 45, 2], []) rfl rfl rfl ?_
  refine ⟨rfl, rfl, ?_⟩
  refine hC _ _ _ _ _ (bRv_e (fun s11 k12 => ?_)) k10.2.2.2.2
  refine ⟨⟨rfl, k12.1⟩, ?_⟩
  show A (43, [.retAddr 11], [.ref 5, .retAddr 11], s11)
  refine bGo hA 2 11 (91, .putfield 51, 3, 44, 0, [11, 5, 3, 5, 0, 0], []) rfl rfl rfl ?_
  refine ⟨rfl, rfl, ?_⟩
  refine bGo hA 2 12 (94, .aload_n 0, 1, 45, 0, [0], []) rfl rfl rfl ?_
  refine bGo hA 2 13 (95, .lconst 1, 1, 46, 0, [1], []) rfl rfl rfl ?_
  refine bGo hA 2 14 (96, .putfield 55, 3, 47, 0, [11, 7, 2, 0, 0, 0], []) rfl rfl rfl ?_
  refine ⟨rfl, ?_⟩
  refine bGo hA 2 15 (99, .return_, 1, 0, 0, [5, 11, 0, 1, 2, 3, 4, 5], []) rfl rfl rfl ?_
  exact ⟨rfl, k12.2⟩

theorem sq195_0 {lvl : Nat} {C : bCall} {Q : bPost} {A : bPt → Prop} (hC : bMono C) (hA : bClosed lvl bm195 C Q A)  {σ : bSt}  
  (h : (σ.2.2.2.1 56 = 0 ∧ ((bwr (bNew σ 56 2 48) 12 1 (some 56)).2.2.2.1 57 = 0 ∧ ((bwr (bNew (bwr (bNew σ 56 2 48) 12 1 (some 56)) 57 2 6) 12 2 (some 57)).2.2.2.1 58 = 0 ∧ ((bwr (bNew (bwr (bNew (bwr (bNew σ 56 2 48) 12 1 (some 56)) 57 2 6) 12 2 (some 57)) 58 2 6) 12 3 (some 58)).2.2.2.1 59 = 0 ∧ ((bwr (bNew (bwr (bNew (bwr (bNew (bwr (bNew σ 56 2 48) 12 1 (some 56)) 57 2 6) 12 2 (some 57)) 58 2 6) 12 3 (some 58)) 59 2 288) 12 4 (some 59)).2.2.2.1 60 = 0 ∧ ((bwr (bNew (bwr (bNew (bwr (bNew (bwr (bNew (bwr (bNew σ 56 2 48) 12 1 (some 56)) 57 2 6) 12 2 (some 57)) 58 2 6) 12 3 (some 58)) 59 2 288) 12 4 (some 59)) 60 2 48) 12 5 (some 60)).2.2.2.1 61 = 0 ∧ ((bwr (bNew (bwr (bNew (bwr (bNew (bwr (bNew (bwr (bNew (bwr (bNew σ 56 2 48) 12 1 (some 56)) 57 2 6) 12 2 (some 57)) 58 2 6) 12 3 (some 58)) 59 2 288) 12 4 (some 59)) 60 2 48) 12 5 (some 60)) 61 2 48) 12 6 (some 61)).2.2.2.1 62 = 0 ∧ ((bwr (bNew (bwr (bNew (bwr (bNew (bwr (bNew (bwr (bNew (bwr (bNew (bwr (bNew σ 56 2 48) 12 1 (some 56)) 57 2 6) 12 2 (some 57)) 58 2 6) 12 3 (some 58)) 59 2 288) 12 4 (some 59)) 60 2 48) 12 5 (some 60)) 61 2 48) 12 6 (some 61)) 62 2 96) 12 8 (some 62)).2.2.2.1 63 = 0 ∧ A (34, [.retAddr 12, .float 0], [], (bwr (bNew (bwr (bNew (bwr (bNew (bwr (bNew (bwr (bNew (bwr (bNew (bwr (bNew (bwr (bNew σ 56 2 48) 12 1 (some 56)) 57 2 6) 12 2 (some 57)) 58 2 6) 12 3 (some 58)) 59 2 288) 12 4 (some 59)) 60 2 48) 12 5 (some 60)) 61 2 48) 12 6 (some 61)) 62 2 96) 12 8 (some 62)) 63 2 96) 12 9 (some 63)))))))))))) : A (0, [.retAddr 12, .float 0], [], σ) := by
  refine bGo hA 0 0 (0, .aload_n 0, 1, 1, 0, [0], []) rfl rfl rfl ?_
  refine bGo hA 0 1 (1, .invokespecial 1, 3, 2, 0, [6, 0, 0], []) rfl rfl rfl ?_
  refine ⟨rfl, ?_⟩
  refine bGo hA 0 2 (4, .aload_n 0, 1, 3, 0, [0], []) rfl rfl rfl ?_
  refine bGo hA 0 3 (5, .bipush (48), 2, 4, 0, [], [(48, 0)]) rfl rfl rfl ?_
  refine bEqI bl_48 ?_
  refine bGo hA 0 4 (7, .newarray .int, 2, 5, 0, [56], []) rfl rfl rfl ?_
  refine ⟨h.1, (bn_nat 48), by decide, (by decide : 48 ≤ 10000), ?_⟩
  refine bGo hA 0 5 (9, .putfield 7, 3, 6, 0, [12, 1, 3, 56, 1, 0], []) rfl rfl rfl ?_
  refine ⟨rfl, rfl, ?_⟩
  refine bGo hA 0 6 (12, .aload_n 0, 1, 7, 0, [0], []) rfl rfl rfl ?_
  refine bGo hA 0 7 (13, .bipush (6), 2, 8, 0, [], [(6, 0)]) rfl rfl rfl ?_
  refine bEqI bl_6 ?_
  refine bGo hA 0 8 (15, .newarray .boolean, 2, 9, 0, [57], []) rfl rfl rfl ?_
  refine ⟨h.2.1, (bn_nat 6), by decide, (by decide : 6 ≤ 10000), ?_⟩
  refine bGo hA 0 9 (17, .putfield 13, 3, 10, 0, [12, 2, 3, 57, 1, 0], []) rfl rfl rfl ?_
  refine ⟨rfl, rfl, ?_⟩
  refine bGo hA 0 10 (20, .aload_n 0, 1, 11, 0, [0], []) rfl rfl rfl ?_
  refine bGo hA 0 11 (21, .bipush (6), 2, 12, 0, [], [(6, 0)]) rfl rfl rfl ?_
  refine bEqI bl_6 ?_
  refine bGo hA 0 12 (23, .newarray .int, 2, 13, 0, [58], []) rfl rfl rfl ?_
  refine ⟨h.2.2.1, (bn_nat 6), by decide, (by decide : 6 ≤ 10000), ?_⟩
  refine bGo hA 0 13 (25, .putfield 17, 3, 14, 0, [12, 3, 3, 58, 1, 0], []) rfl rfl rfl ?_
  refine ⟨rfl, rfl, ?_⟩
  refine bGo hA 0 14 (28, .aload_n 0, 1, 15, 0, [0], []) rfl rfl rfl ?_
  refine bGo hA 0 15 (29, .sipush (288), 3, 16, 0, [], [(288, 0)]) rfl rfl rfl ?_
  refine bEqI bl_288 ?_
  refine bGo hA 1 0 (32, .newarray .int, 2, 17, 0, [59], []) rfl rfl rfl ?_
  refine ⟨h.2.2.2.1, (bn_nat 288), by decide, (by decide : 288 ≤ 10000), ?_⟩
  refine bGo hA 1 1 (34, .putfield 20, 3, 18, 0, [12, 4, 3, 59, 1, 0], []) rfl rfl rfl ?_
  refine ⟨rfl, rfl, ?_⟩
  refine bGo hA 1 2 (37, .aload_n 0, 1, 19, 0, [0], []) rfl rfl rfl ?_
  refine bGo hA 1 3 (38, .bipush (48), 2, 20, 0, [], [(48, 0)]) rfl rfl rfl ?_
  refine bEqI bl_48 ?_
  refine bGo hA 1 4 (40, .newarray .int, 2, 21, 0, [60], []) rfl rfl rfl ?_
  refine ⟨h.2.2.2.2.1, (bn_nat 48), by decide, (by decide : 48 ≤ 10000), ?_⟩
  refine bGo hA 1 5 (42, .putfield 23, 3, 22, 0, [12, 5, 3, 60, 1, 0], []) rfl rfl rfl ?_
  refine ⟨rfl, rfl, ?_⟩
  refine bGo hA 1 6 (45, .aload_n 0, 1, 23, 0, [0], []) rfl rfl rfl ?_
  refine bGo hA 1 7 (46, .bipush (48), 2, 24, 0, [], [(48, 0)]) rfl rfl rfl ?_
  refine bEqI bl_48 ?_
  refine bGo hA 1 8 (48, .newarray .int, 2, 25, 0, [61], []) rfl rfl rfl ?_
  refine ⟨h.2.2.2.2.2.1, (bn_nat 48), by decide, (by decide : 48 ≤ 10000), ?_⟩
  refine bGo hA 1 9 (50, .putfield 26, 3, 26, 0, [12, 6, 3, 61, 1, 0], []) rfl rfl rfl ?_
  refine ⟨rfl, rfl, ?_⟩
  refine bGo hA 1 10 (53, .aload_n 0, 1, 27, 0, [0], []) rfl rfl rfl ?_
  refine bGo hA 1 11 (54, .bipush (96), 2, 28, 0, [], [(96, 0)]) rfl rfl rfl ?_
  refine bEqI bl_96 ?_
  refine bGo hA 1 12 (56, .newarray .int, 2, 29, 0, [62], []) rfl rfl rfl ?_
  refine ⟨h.2.2.2.2.2.2.1, (bn_nat 96), by decide, (by decide : 96 ≤ 10000), ?_⟩
  refine bGo hA 1 13 (58, .putfield 29, 3, 30, 0, [12, 8, 3, 62, 1, 0], []) rfl rfl rfl ?_
  refine ⟨rfl, rfl, ?_⟩
  refine bGo hA 1 14 (61, .aload_n 0, 1, 31, 0, [0], []) rfl rfl rfl ?_
  refine bGo hA 1 15 (62, .bipush (96), 2, 32, 0, [], [(96, 0)]) rfl rfl rfl ?_
  refine bEqI bl_96 ?_
  refine bGo hA 2 0 (64, .newarray .int, 2, 33, 0, [63], []) rfl rfl rfl ?_
  refine ⟨h.2.2.2.2.2.2.2.1, (bn_nat 96), by decide, (by decide : 96 ≤ 10000), ?_⟩
  refine bGo hA 2 1 (66, .putfield 32, 3, 34, 0, [12, 9, 3, 63, 1, 0], []) rfl rfl rfl ?_
  refine ⟨rfl, rfl, ?_⟩
  exact h.2.2.2.2.2.2.2.2

theorem sq195_34 {lvl : Nat} {C : bCall} {Q : bPost} {A : bPt → Prop} (hC : bMono C) (hA : bClosed lvl bm195 C Q A) {v1 : Value} {σ : bSt}  
  (h : (σ.2.2.2.1 64 = 0 ∧ ((bwr (bNew σ 64 2 768) 12 10 (some 64)).2.2.2.1 65 = 0 ∧ ((bwr (bNew (bwr (bNew σ 64 2 768) 12 10 (some 64)) 65 2 6) 12 11 (some 65)).2.2.2.1 66 = 0 ∧ ((bwr (bNew (bwr (bNew (bwr (bNew σ 64 2 768) 12 10 (some 64)) 65 2 6) 12 11 (some 65)) 66 2 6) 12 12 (some 66)).2.2.2.1 67 = 0 ∧ ((bwr (bNew (bwr (bNew (bwr (bNew (bwr (bNew σ 64 2 768) 12 10 (some 64)) 65 2 6) 12 11 (some 65)) 66 2 6) 12 12 (some 66)) 67 2 6) 12 13 (some 67)).2.2.2.1 68 = 0 ∧ ((bwr (bNew (bwr (bNew (bwr (bNew (bwr (bNew (bwr (bNew σ 64 2 768) 12 10 (some 64)) 65 2 6) 12 11 (some 65)) 66 2 6) 12 12 (some 66)) 67 2 6) 12 13 (some 67)) 68 2 6) 12 14 (some 68)).2.2.2.1 69 = 0 ∧ ((bwr (bNew (bwr (bNew (bwr (bNew (bwr (bNew (bwr (bNew (bwr (bNew σ 64 2 768) 12 10 (some 64)) 65 2 6) 12 11 (some 65)) 66 2 6) 12 12 (some 66)) 67 2 6) 12 13 (some 67)) 68 2 6) 12 14 (some 68)) 69 2 8) 12 15 (some 69)).2.2.2.1 70 = 0 ∧ ((bwr (bNew (bwr (bNew (bwr (bNew (bwr (bNew (bwr (bNew (bwr (bNew (bwr (bNew σ 64 2 768) 12 10 (some 64)) 65 2 6) 12 11 (some 65)) 66 2 6) 12 12 (some 66)) 67 2 6) 12 13 (some 67)) 68 2 6) 12 14 (some 68)) 69 2 8) 12 15 (some 69)) 70 2 4) 12 16 (some 70)).2.2.2.1 71 = 0 ∧ A (66, [.retAddr 12, v1], [], (bwr (bNew (bwr (bNew (bwr (bNew (bwr (bNew (bwr (bNew (bwr (bNew (bwr (bNew (bwr (bNew σ 64 2 768) 12 10 (some 64)) 65 2 6) 12 11 (some 65)) 66 2 6) 12 12 (some 66)) 67 2 6) 12 13 (some 67)) 68 2 6) 12 14 (some 68)) 69 2 8) 12 15 (some 69)) 70 2 4) 12 16 (some 70)) 71 2 8) 12 18 (some 71)))))))))))) : A (34, [.retAddr 12, v1], [], σ) := by
  refine bGo hA 2 2 (69, .aload_n 0, 1, 35, 0, [0], []) rfl rfl rfl ?_
  refine bGo hA 2 3 (70, .sipush (768), 3, 36, 0, [], [(768, 0)]) rfl rfl rfl ?_
  refine bEqI bl_768 ?_
  refine bGo hA 2 4 (73, .newarray .int, 2, 37, 0, [64], []) rfl rfl rfl ?_
  refine ⟨h.1, (bn_nat 768), by decide, (by decide : 768 ≤ 10000), ?_⟩
  refine bGo hA 2 5 (75, .putfield 35, 3, 38, 0, [12, 10, 3, 64, 1, 0], []) rfl rfl rfl ?_
  refine ⟨rfl, rfl, ?_⟩
  refine bGo hA 2 6 (78, .aload_n 0, 1, 39, 0, [0], []) rfl rfl rfl ?_
  refine bGo hA 2 7 (79, .bipush (6), 2, 40, 0, [], [(6, 0)]) rfl rfl rfl ?_
  refine bEqI bl_6 ?_
  refine bGo hA 2 8 (81, .newarray .int, 2, 41, 0, [65], []) rfl rfl rfl ?_
  refine ⟨h.2.1, (bn_nat 6), by decide, (by decide : 6 ≤ 10000), ?_⟩
  refine bGo hA 2 9 (83, .putfield 38, 3, 42, 0, [12, 11, 3, 65, 1, 0], []) rfl rfl rfl ?_
  refine ⟨rfl, rfl, ?_⟩
  refine bGo hA 2 10 (86, .aload_n 0, 1, 43, 0, [0], []) rfl rfl rfl ?_
  refine bGo hA 2 11 (87, .bipush (6), 2, 44, 0, [], [(6, 0)]) rfl rfl rfl ?_
  refine bEqI bl_6 ?_
  refine bGo hA 2 12 (89, .newarray .int, 2, 45, 0, [66], []) rfl rfl rfl ?_
  refine ⟨h.2.2.1, (bn_nat 6), by decide, (by decide : 6 ≤ 10000), ?_⟩
  refine bGo hA 2 13 (91, .putfield 41, 3, 46, 0, [12, 12, 3, 66, 1, 0], []) rfl rfl rfl ?_
  refine ⟨rfl, rfl, ?_⟩
  refine bGo hA 2 14 (94, .aload_n 0, 1, 47, 0, [0], []) rfl rfl rfl ?_
  refine bGo hA 2 15 (95, .bipush (6), 2, 48, 0, [], [(6, 0)]) rfl rfl rfl ?_
  refine bEqI bl_6 ?_
  refine bGo hA 3 0 (97, .newarray .int, 2, 49, 0, [67], []) rfl rfl rfl ?_
  refine ⟨h.2.2.2.1, (bn_nat 6), by decide, (by decide : 6 ≤ 10000), ?_⟩
  refine bGo hA 3 1 (99, .putfield 44, 3, 50, 0, [12, 13, 3, 67, 1, 0], []) rfl rfl rfl ?_
  refine ⟨rfl, rfl, ?_⟩
  refine bGo hA 3 2 (102, .aload_n 0, 1, 51, 0, [0], []) rfl rfl rfl ?_
  refine bGo hA 3 3 (103, .bipush (6), 2, 52, 0, [], [(6, 0)]) rfl rfl rfl ?_
  refine bEqI bl_6 ?_
  refine bGo hA 3 4 (105, .newarray .int, 2, 53, 0, [68], []) rfl rfl rfl ?_
  refine ⟨h.2.2.2.2.1, (bn_nat 6), by decide, (by decide : 6 ≤ 10000), ?_⟩
  refine bGo hA 3 5 (107, .putfield 47, 3, 54, 0, [12, 14, 3, 68, 1, 0], []) rfl rfl rfl ?_
  refine ⟨rfl, rfl, ?_⟩
  refine bGo hA 3 6 (110, .aload_n 0, 1, 55, 0, [0], []) rfl rfl rfl ?_
  refine bGo hA 3 7 (111, .bipush (8), 2, 56, 0, [], [(8, 0)]) rfl rfl rfl ?_
  refine bEqI bl_8 ?_
  refine bGo hA 3 8 (113, .newarray .int, 2, 57, 0, [69], []) rfl rfl rfl ?_
  refine ⟨h.2.2.2.2.2.1, (bn_nat 8), by decide, (by decide : 8 ≤ 10000), ?_⟩
  refine bGo hA 3 9 (115, .putfield 50, 3, 58, 0, [12, 15, 3, 69, 1, 0], []) rfl rfl rfl ?_
  refine ⟨rfl, rfl, ?_⟩
  refine bGo hA 3 10 (118, .aload_n 0, 1, 59, 0, [0], []) rfl rfl rfl ?_
  refine bGo hA 3 11 (119, .iconst (4), 1, 60, 0, [], [(4, 0)]) rfl rfl rfl ?_
  refine bEqI bl_4 ?_
  refine bGo hA 3 12 (120, .newarray .int, 2, 61, 0, [70], []) rfl rfl rfl ?_
  refine ⟨h.2.2.2.2.2.2.1, (bn_nat 4), by decide, (by decide : 4 ≤ 10000), ?_⟩
  refine bGo hA 3 13 (122, .putfield 53, 3, 62, 0, [12, 16, 3, 70, 1, 0], []) rfl rfl rfl ?_
  refine ⟨rfl, rfl, ?_⟩
  refine bGo hA 3 14 (125, .aload_n 0, 1, 63, 0, [0], []) rfl rfl rfl ?_
  refine bGo hA 3 15 (126, .bipush (8), 2, 64, 0, [], [(8, 0)]) rfl rfl rfl ?_
  refine bEqI bl_8 ?_
  refine bGo hA 4 0 (128, .newarray .int, 2, 65, 0, [71], []) rfl rfl rfl ?_
  refine ⟨h.2.2.2.2.2.2.2.1, (bn_nat 8), by decide, (by decide : 8 ≤ 10000), ?_⟩
  refine bGo hA 4 1 (130, .putfield 56, 3, 66, 0, [12, 18, 3, 71, 1, 0], []) rfl rfl rfl ?_
  refine ⟨rfl, rfl, ?_⟩
  exact h.2.2.2.2.2.2.2.2

theorem sq195_66 {lvl : Nat} {C : bCall} {Q : bPost} {A : bPt → Prop} (hC : bMono C) (hA : bClosed lvl bm195 C Q A) {v1 : Value} {σ : bSt}  
  (h : (σ.2.2.2.1 72 = 0 ∧ ((bwr (bNew σ 72 2 8) 12 19 (some 72)).2.2.2.1 73 = 0 ∧ ((bwr (bNew (bwr (bNew σ 72 2 8) 12 19 (some 72)) 73 2 8) 12 20 (some 73)).2.2.2.1 74 = 0 ∧ ((bwr (bNew (bwr (bNew (bwr (bNew σ 72 2 8) 12 19 (some 72)) 73 2 8) 12 20 (some 73)) 74 2 8) 12 21 (some 74)).2.2.2.1 75 = 0 ∧ ((bwr (bNew (bwr (bNew (bwr (bNew (bwr (bNew σ 72 2 8) 12 19 (some 72)) 73 2 8) 12 20 (some 73)) 74 2 8) 12 21 (some 74)) 75 2 16) 12 23 (some 75)).2.2.2.1 76 = 0 ∧ ((bwr (bNew (bwr (bNew (bwr (bNew (bwr (bNew (bwr (bNew σ 72 2 8) 12 19 (some 72)) 73 2 8) 12 20 (some 73)) 74 2 8) 12 21 (some 74)) 75 2 16) 12 23 (some 75)) 76 2 16) 12 24 (some 76)).2.2.2.1 77 = 0 ∧ ((bwr (bNew (bwr (bNew (bwr (bNew (bwr (bNew (bwr (bNew (bwr (bNew σ 72 2 8) 12 19 (some 72)) 73 2 8) 12 20 (some 73)) 74 2 8) 12 21 (some 74)) 75 2 16) 12 23 (some 75)) 76 2 16) 12 24 (some 76)) 77 2 16) 12 25 (some 77)).2.2.2.1 78 = 0 ∧ ((bwr (bNew (bwr (bNew (bwr (bNew (bwr (bNew (bwr (bNew (bwr (bNew (bwr (bNew σ 72 2 8) 12 19 (some 72)) 73 2 8) 12 20 (some 73)) 74 2 8) 12 21 (some 74)) 75 2 16) 12 23 (some 75)) 76 2 16) 12 24 (some 76)) 77 2 16) 12 25 (some 77)) 78 2 16) 12 26 (some 78)).2.2.2.1 79 = 0 ∧ A (98, [.retAddr 12, v1], [], (bwr (bNew (bwr (bNew (bwr (bNew (bwr (bNew (bwr (bNew (bwr (bNew (bwr (bNew (bwr (bNew σ 72 2 8) 12 19 (some 72)) 73 2 8) 12 20 (some 73)) 74 2 8) 12 21 (some 74)) 75 2 16) 12 23 (some 75)) 76 2 16) 12 24 (some 76)) 77 2 16) 12 25 (some 77)) 78 2 16) 12 26 (some 78)) 79 2 16) 12 27 (some 79)))))))))))) : A (66, [.retAddr 12, v1], [], σ) := by
  refine bGo hA 4 2 (133, .aload_n 0, 1, 67, 0, [0], []) rfl rfl rfl ?_
  refine bGo hA 4 3 (134, .bipush (8), 2, 68, 0, [], [(8, 0)]) rfl rfl rfl ?_
  refine bEqI bl_8 ?_
  refine bGo hA 4 4 (136, .newarray .int, 2, 69, 0, [72], []) rfl rfl rfl ?_
  refine ⟨h.1, (bn_nat 8), by decide, (by decide : 8 ≤ 10000), ?_⟩
  refine bGo hA 4 5 (138, .putfield 59, 3, 70, 0, [12, 19, 3, 72, 1, 0], []) rfl rfl rfl ?_
  refine ⟨rfl, rfl, ?_⟩
  refine bGo hA 4 6 (141, .aload_n 0, 1, 71, 0, [0], []) rfl rfl rfl ?_
  refine bGo hA 4 7 (142, .bipush (8), 2, 72, 0, [], [(8, 0)]) rfl rfl rfl ?_
  refine bEqI bl_8 ?_
  refine bGo hA 4 8 (144, .newarray .int, 2, 73, 0, [73], []) rfl rfl rfl ?_
  refine ⟨h.2.1, (bn_nat 8), by decide, (by decide : 8 ≤ 10000), ?_⟩
  refine bGo hA 4 9 (146, .putfield 62, 3, 74, 0, [12, 20, 3, 73, 1, 0], []) rfl rfl rfl ?_
  refine ⟨rfl, rfl, ?_⟩
  refine bGo hA 4 10 (149, .aload_n 0, 1, 75, 0, [0], []) rfl rfl rfl ?_
  refine bGo hA 4 11 (150, .bipush (8), 2, 76, 0, [], [(8, 0)]) rfl rfl rfl ?_
  refine bEqI bl_8 ?_
  refine bGo hA 4 12 (152, .newarray .int, 2, 77, 0, [74], []) rfl rfl rfl ?_
  refine ⟨h.2.2.1, (bn_nat 8), by decide, (by decide : 8 ≤ 10000), ?_⟩
  refine bGo hA 4 13 (154, .putfield 65, 3, 78, 0, [12, 21, 3, 74, 1, 0], []) rfl rfl rfl ?_
  refine ⟨rfl, rfl, ?_⟩
  refine bGo hA 4 14 (157, .aload_n 0, 1, 79, 0, [0], []) rfl rfl rfl ?_
  refine bGo hA 4 15 (158, .bipush (16), 2, 80, 0, [], [(16, 0)]) rfl rfl rfl ?_
  refine bEqI bl_16 ?_
  refine bGo hA 5 0 (160, .newarray .int, 2, 81, 0, [75], []) rfl rfl rfl ?_
  refine ⟨h.2.2.2.1, (bn_nat 16), by decide, (by decide : 16 ≤ 10000), ?_⟩
  refine bGo hA 5 1 (162, .putfield 68, 3, 82, 0, [12, 23, 3, 75, 1, 0], []) rfl rfl rfl ?_
  refine ⟨rfl, rfl, ?_⟩
  refine bGo hA 5 2 (165, .aload_n 0, 1, 83, 0, [0], []) rfl rfl rfl ?_
  refine bGo hA 5 3 (166, .bipush (16), 2, 84, 0, [], [(16, 0)]) rfl rfl rfl ?_
  refine bEqI bl_16 ?_
  refine bGo hA 5 4 (168, .newarray .int, 2, 85, 0, [76], []) rfl rfl rfl ?_
  refine ⟨h.2.2.2.2.1, (bn_nat 16), by decide, (by decide : 16 ≤ 10000), ?_⟩
  refine bGo hA 5 5 (170, .putfield 71, 3, 86, 0, [12, 24, 3, 76, 1, 0], []) rfl rfl rfl ?_
  refine ⟨rfl, rfl, ?_⟩
  refine bGo hA 5 6 (173, .aload_n 0, 1, 87, 0, [0], []) rfl rfl rfl ?_
  refine bGo hA 5 7 (174, .bipush (16), 2, 88, 0, [], [(16, 0)]) rfl rfl rfl ?_
  refine bEqI bl_16 ?_
  refine bGo hA 5 8 (176, .newarray .int, 2, 89, 0, [77], []) rfl rfl rfl ?_
  refine ⟨h.2.2.2.2.2.1, (bn_nat 16), by decide, (by decide : 16 ≤ 10000), ?_⟩
  refine bGo hA 5 9 (178, .putfield 74, 3, 90, 0, [12, 25, 3, 77, 1, 0], []) rfl rfl rfl ?_
  refine ⟨rfl, rfl, ?_⟩
  refine bGo hA 5 10 (181, .aload_n 0, 1, 91, 0, [0], []) rfl rfl rfl ?_
  refine bGo hA 5 11 (182, .bipush (16), 2, 92, 0, [], [(16, 0)]) rfl rfl rfl ?_
  refine bEqI bl_16 ?_
  refine bGo hA 5 12 (184, .newarray .int, 2, 93, 0, [78], []) rfl rfl rfl ?_
  refine ⟨h.2.2.2.2.2.2.1, (bn_nat 16), by decide, (by decide : 16 ≤ 10000), ?_⟩
  refine bGo hA 5 13 (186, .putfield 77, 3, 94, 0, [12, 26, 3, 78, 1, 0], []) rfl rfl rfl ?_
  refine ⟨rfl, rfl, ?_⟩
  refine bGo hA 5 14 (189, .aload_n 0, 1, 95, 0, [0], []) rfl rfl rfl ?_
  refine bGo hA 5 15 (190, .bipush (16), 2, 96, 0, [], [(16, 0)]) rfl rfl rfl ?_
  refine bEqI bl_16 ?_
  refine bGo hA 6 0 (192, .newarray .int, 2, 97, 0, [79], []) rfl rfl rfl ?_
  refine ⟨h.2.2.2.2.2.2.2.1, (bn_nat 16), by decide, (by decide : 16 ≤ 10000), ?_⟩
  refine bGo hA 6 1 (194, .putfield 80, 3, 98, 0, [12, 27, 3, 79, 1, 0], []) rfl rfl rfl ?_
  refine ⟨rfl, rfl, ?_⟩
  exact h.2.2.2.2.2.2.2.2

theorem sq195_98 {lvl : Nat} {C : bCall} {Q : bPost} {A : bPt → Prop} (hC : bMono C) (hA : bClosed lvl bm195 C Q A) {v1 : Value} {σ : bSt}  
  (h : (σ.2.2.2.1 80 = 0 ∧ ((bwr (bNew σ 80 2 16) 12 28 (some 80)).2.2.2.1 81 = 0 ∧ ((bwr (bNew (bwr (bNew σ 80 2 16) 12 28 (some 80)) 81 2 16) 12 29 (some 81)).2.2.2.1 82 = 0 ∧ ((bwr (bNew (bwr (bNew (bwr (bNew σ 80 2 16) 12 28 (some 80)) 81 2 16) 12 29 (some 81)) 82 2 16) 12 30 (some 82)).2.2.2.1 83 = 0 ∧ ((bwr (bNew (bwr (bNew (bwr (bNew (bwr (bNew σ 80 2 16) 12 28 (some 80)) 81 2 16) 12 29 (some 81)) 82 2 16) 12 30 (some 82)) 83 2 16) 12 31 (some 83)).2.2.2.1 84 = 0 ∧ ((bwr (bNew (bwr (bNew (bwr (bNew (bwr (bNew (bwr (bNew σ 80 2 16) 12 28 (some 80)) 81 2 16) 12 29 (some 81)) 82 2 16) 12 30 (some 82)) 83 2 16) 12 31 (some 83)) 84 2 192) 12 32 (some 84)).2.2.2.1 85 = 0 ∧ ((bwr (bNew (bwr (bNew (bwr (bNew (bwr (bNew (bwr (bNew (bwr (bNew σ 80 2 16) 12 28 (some 80)) 81 2 16) 12 29 (some 81)) 82 2 16) 12 30 (some 82)) 83 2 16) 12 31 (some 83)) 84 2 192) 12 32 (some 84)) 85 2 16) 12 33 (some 85)).2.2.2.1 86 = 0 ∧ ((bwr (bNew (bwr (bNew (bwr (bNew (bwr (bNew (bwr (bNew (bwr (bNew (bwr (bNew σ 80 2 16) 12 28 (some 80)) 81 2 16) 12 29 (some 81)) 82 2 16) 12 30 (some 82)) 83 2 16) 12 31 (some 83)) 84 2 192) 12 32 (some 84)) 85 2 16) 12 33 (some 85)) 86 2 96) 12 34 (some 86)).2.2.2.1 87 = 0 ∧ A (130, [.retAddr 12, v1], [], (bwr (bNew (bwr (bNew (bwr (bNew (bwr (bNew (bwr (bNew (bwr (bNew (bwr (bNew (bwr (bNew σ 80 2 16) 12 28 (some 80)) 81 2 16) 12 29 (some 81)) 82 2 16) 12 30 (some 82)) 83 2 16) 12 31 (some 83)) 84 2 192) 12 32 (some 84)) 85 2 16) 12 33 (some 85)) 86 2 96) 12 34 (some 86)) 87 2 96) 12 35 (some 87)))))))))))) : A (98, [.retAddr 12, v1], [], σ) := by
  refine bGo hA 6 2 (197, .aload_n 0, 1, 99, 0, [0], []) rfl rfl rfl ?_
  refine bGo hA 6 3 (198, .bipush (16), 2, 100, 0, [], [(16, 0)]) rfl rfl rfl ?_
  refine bEqI bl_16 ?_
  refine bGo hA 6 4 (200, .newarray .int, 2, 101, 0, [80], []) rfl rfl rfl ?_
  refine ⟨h.1, (bn_nat 16), by decide, (by decide : 16 ≤ 10000), ?_⟩
  refine bGo hA 6 5 (202, .putfield 83, 3, 102, 0, [12, 28, 3, 80, 1, 0], []) rfl rfl rfl ?_
  refine ⟨rfl, rfl, ?_⟩
  refine bGo hA 6 6 (205, .aload_n 0, 1, 103, 0, [0], []) rfl rfl rfl ?_
  refine bGo hA 6 7 (206, .bipush (16), 2, 104, 0, [], [(16, 0)]) rfl rfl rfl ?_
  refine bEqI bl_16 ?_
  refine bGo hA 6 8 (208, .newarray .int, 2, 105, 0, [81], []) rfl rfl rfl ?_
  refine ⟨h.2.1, (bn_nat 16), by decide, (by decide : 16 ≤ 10000), ?_⟩
  refine bGo hA 6 9 (210, .putfield 86, 3, 106, 0, [12, 29, 3, 81, 1, 0], []) rfl rfl rfl ?_
  refine ⟨rfl, rfl, ?_⟩
  refine bGo hA 6 10 (213, .aload_n 0, 1, 107, 0, [0], []) rfl rfl rfl ?_
  refine bGo hA 6 11 (214, .bipush (16), 2, 108, 0, [], [(16, 0)]) rfl rfl rfl ?_
  refine bEqI bl_16 ?_
  refine bGo hA 6 12 (216, .newarray .int, 2, 109, 0, [82], []) rfl rfl rfl ?_
  refine ⟨h.2.2.1, (bn_nat 16), by decide, (by decide : 16 ≤ 10000), ?_⟩
  refine bGo hA 6 13 (218, .putfield 89, 3, 110, 0, [12, 30, 3, 82, 1, 0], []) rfl rfl rfl ?_
  refine ⟨rfl, rfl, ?_⟩
  refine bGo hA 6 14 (221, .aload_n 0, 1, 111, 0, [0], []) rfl rfl rfl ?_
  refine bGo hA 6 15 (222, .bipush (16), 2, 112, 0, [], [(16, 0)]) rfl rfl rfl ?_
  refine bEqI bl_16 ?_
  refine bGo hA 7 0 (224, .newarray .int, 2, 113, 0, [83], []) rfl rfl rfl ?_
  refine ⟨h.2.2.2.1, (bn_nat 16), by decide, (by decide : 16 ≤ 10000), ?_⟩
  refine bGo hA 7 1 (226, .putfield 92, 3, 114, 0, [12, 31, 3, 83, 1, 0], []) rfl rfl rfl ?_
  refine ⟨rfl, rfl, ?_⟩
  refine bGo hA 7 2 (229, .aload_n 0, 1, 115, 0, [0], []) rfl rfl rfl ?_
  refine bGo hA 7 3 (230, .sipush (192), 3, 116, 0, [], [(192, 0)]) rfl rfl rfl ?_
  refine bEqI bl_192 ?_
  refine bGo hA 7 4 (233, .newarray .int, 2, 117, 0, [84], []) rfl rfl rfl ?_
  refine ⟨h.2.2.2.2.1, (bn_nat 192), by decide, (by decide : 192 ≤ 10000), ?_⟩
  refine bGo hA 7 5 (235, .putfield 95, 3, 118, 0, [12, 32, 3, 84, 1, 0], []) rfl rfl rfl ?_
  refine ⟨rfl, rfl, ?_⟩
  refine bGo hA 7 6 (238, .aload_n 0, 1, 119, 0, [0], []) rfl rfl rfl ?_
  refine bGo hA 7 7 (239, .bipush (16), 2, 120, 0, [], [(16, 0)]) rfl rfl rfl ?_
  refine bEqI bl_16 ?_
  refine bGo hA 7 8 (241, .newarray .int, 2, 121, 0, [85], []) rfl rfl rfl ?_
  refine ⟨h.2.2.2.2.2.1, (bn_nat 16), by decide, (by decide : 16 ≤ 10000), ?_⟩
  refine bGo hA 7 9 (243, .putfield 98, 3, 122, 0, [12, 33, 3, 85, 1, 0], []) rfl rfl rfl ?_
  refine ⟨rfl, rfl, ?_⟩
  refine bGo hA 7 10 (246, .aload_n 0, 1, 123, 0, [0], []) rfl rfl rfl ?_
  refine bGo hA 7 11 (247, .bipush (96), 2, 124, 0, [], [(96, 0)]) rfl rfl rfl ?_
  refine bEqI bl_96 ?_
  refine bGo hA 7 12 (249, .newarray .int, 2, 125, 0, [86], []) rfl rfl rfl ?_
  refine ⟨h.2.2.2.2.2.2.1, (bn_nat 96), by decide, (by decide : 96 ≤ 10000), ?_⟩
  refine bGo hA 7 13 (251, .putfield 101, 3, 126, 0, [12, 34, 3, 86, 1, 0], []) rfl rfl rfl ?_
  refine ⟨rfl, rfl, ?_⟩
  refine bGo hA 7 14 (254, .aload_n 0, 1, 127, 0, [0], []) rfl rfl rfl ?_
  refine bGo hA 7 15 (255, .bipush (96), 2, 128, 0, [], [(96, 0)]) rfl rfl rfl ?_
  refine bEqI bl_96 ?_
  refine bGo hA 8 0 (257, .newarray .int, 2, 129, 0, [87], []) rfl rfl rfl ?_
  refine ⟨h.2.2.2.2.2.2.2.1, (bn_nat 96), by decide, (by decide : 96 ≤ 10000), ?_⟩
  refine bGo hA 8 1 (259, .putfield 104, 3, 130, 0, [12, 35, 3, 87, 1, 0], []) rfl rfl rfl ?_
  refine ⟨rfl, rfl, ?_⟩
  exact h.2.2.2.2.2.2.2.2

theorem sq195_130 {lvl : Nat} {C : bCall} {Q : bPost} {A : bPt → Prop} (hC : bMono C) (hA : bClosed lvl bm195 C Q A) {v1 : Value} {σ : bSt}  
  (h : (σ.2.2.2.1 88 = 0 ∧ ((bwr (bNew σ 88 2 96) 12 36 (some 88)).2.2.2.1 89 = 0 ∧ ((bwr (bNew (bwr (bNew σ 88 2 96) 12 36 (some 88)) 89 2 16) 12 37 (some 89)).2.2.2.1 90 = 0 ∧ ((bwr (bNew (bwr (bNew (bwr (bNew σ 88 2 96) 12 36 (some 88)) 89 2 16) 12 37 (some 89)) 90 2 16) 12 38 (some 90)).2.2.2.1 91 = 0 ∧ ((bwr (bNew (bwr (bNew (bwr (bNew (bwr (bNew σ 88 2 96) 12 36 (some 88)) 89 2 16) 12 37 (some 89)) 90 2 16) 12 38 (some 90)) 91 2 16) 12 39 (some 91)).2.2.2.1 92 = 0 ∧ ((bwr (bNew (bwr (bNew (bwr (bNew (bwr (bNew (bwr (bNew σ 88 2 96) 12 36 (some 88)) 89 2 16) 12 37 (some 89)) 90 2 16) 12 38 (some 90)) 91 2 16) 12 39 (some 91)) 92 2 16) 12 40 (some 92)).2.2.2.1 93 = 0 ∧ ((bwr (bNew (bwr (bNew (bwr (bNew (bwr (bNew (bwr (bNew (bwr (bNew σ 88 2 96) 12 36 (some 88)) 89 2 16) 12 37 (some 89)) 90 2 16) 12 38 (some 90)) 91 2 16) 12 39 (some 91)) 92 2 16) 12 40 (some 92)) 93 2 16) 12 41 (some 93)).2.2.2.1 94 = 0 ∧ ((bwr (bNew (bwr (bNew (bwr (bNew (bwr (bNew (bwr (bNew (bwr (bNew (bwr (bNew σ 88 2 96) 12 36 (some 88)) 89 2 16) 12 37 (some 89)) 90 2 16) 12 38 (some 90)) 91 2 16) 12 39 (some 91)) 92 2 16) 12 40 (some 92)) 93 2 16) 12 41 (some 93)) 94 2 4096) 12 42 (some 94)).2.2.2.1 95 = 0 ∧ A (162, [.retAddr 12, v1], [], (bwr (bNew (bwr (bNew (bwr (bNew (bwr (bNew (bwr (bNew (bwr (bNew (bwr (bNew (bwr (bNew σ 88 2 96) 12 36 (some 88)) 89 2 16) 12 37 (some 89)) 90 2 16) 12 38 (some 90)) 91 2 16) 12 39 (some 91)) 92 2 16) 12 40 (some 92)) 93 2 16) 12 41 (some 93)) 94 2 4096) 12 42 (some 94)) 95 2 4096) 12 43 (some 95)))))))))))) : A (130, [.retAddr 12, v1], [], σ) := by
  refine bGo hA 8 2 (262, .aload_n 0, 1, 131, 0, [0], []) rfl rfl rfl ?_
  refine bGo hA 8 3 (263, .bipush (96), 2, 132, 0, [], [(96, 0)]) rfl rfl rfl ?_
  refine bEqI bl_96 ?_
  refine bGo hA 8 4 (265, .newarray .boolean, 2, 133, 0, [88], []) rfl rfl rfl ?_
  refine ⟨h.1, (bn_nat 96), by decide, (by decide : 96 ≤ 10000), ?_⟩
  refine bGo hA 8 5 (267, .putfield 107, 3, 134, 0, [12, 36, 3, 88, 1, 0], []) rfl rfl rfl ?_
  refine ⟨rfl, rfl, ?_⟩
  refine bGo hA 8 6 (270, .aload_n 0, 1, 135, 0, [0], []) rfl rfl rfl ?_
  refine bGo hA 8 7 (271, .bipush (16), 2, 136, 0, [], [(16, 0)]) rfl rfl rfl ?_
  refine bEqI bl_16 ?_
  refine bGo hA 8 8 (273, .newarray .int, 2, 137, 0, [89], []) rfl rfl rfl ?_
  refine ⟨h.2.1, (bn_nat 16), by decide, (by decide : 16 ≤ 10000), ?_⟩
  refine bGo hA 8 9 (275, .putfield 110, 3, 138, 0, [12, 37, 3, 89, 1, 0], []) rfl rfl rfl ?_
  refine ⟨rfl, rfl, ?_⟩
  refine bGo hA 8 10 (278, .aload_n 0, 1, 139, 0, [0], []) rfl rfl rfl ?_
  refine bGo hA 8 11 (279, .bipush (16), 2, 140, 0, [], [(16, 0)]) rfl rfl rfl ?_
  refine bEqI bl_16 ?_
  refine bGo hA 8 12 (281, .newarray .int, 2, 141, 0, [90], []) rfl rfl rfl ?_
  refine ⟨h.2.2.1, (bn_nat 16), by decide, (by decide : 16 ≤ 10000), ?_⟩
  refine bGo hA 8 13 (283, .putfield 113, 3, 142, 0, [12, 38, 3, 90, 1, 0], []) rfl rfl rfl ?_
  refine ⟨rfl, rfl, ?_⟩
  refine bGo hA 8 14 (286, .aload_n 0, 1, 143, 0, [0], []) rfl rfl rfl ?_
  refine bGo hA 8 15 (287, .bipush (16), 2, 144, 0, [], [(16, 0)]) rfl rfl rfl ?_
  refine bEqI bl_16 ?_
  refine bGo hA 9 0 (289, .newarray .boolean, 2, 145, 0, [91], []) rfl rfl rfl ?_
  refine ⟨h.2.2.2.1, (bn_nat 16), by decide, (by decide : 16 ≤ 10000), ?_⟩
  refine bGo hA 9 1 (291, .putfield 116, 3, 146, 0, [12, 39, 3, 91, 1, 0], []) rfl rfl rfl ?_
  refine ⟨rfl, rfl, ?_⟩
  refine bGo hA 9 2 (294, .aload_n 0, 1, 147, 0, [0], []) rfl rfl rfl ?_
  refine bGo hA 9 3 (295, .bipush (16), 2, 148, 0, [], [(16, 0)]) rfl rfl rfl ?_
  refine bEqI bl_16 ?_
  refine bGo hA 9 4 (297, .newarray .int, 2, 149, 0, [92], []) rfl rfl rfl ?_
  refine ⟨h.2.2.2.2.1, (bn_nat 16), by decide, (by decide : 16 ≤ 10000), ?_⟩
  refine bGo hA 9 5 (299, .putfield 119, 3, 150, 0, [12, 40, 3, 92, 1, 0], []) rfl rfl rfl ?_
  refine ⟨rfl, rfl, ?_⟩
  refine bGo hA 9 6 (302, .aload_n 0, 1, 151, 0, [0], []) rfl rfl rfl ?_
  refine bGo hA 9 7 (303, .bipush (16), 2, 152, 0, [], [(16, 0)]) rfl rfl rfl ?_
  refine bEqI bl_16 ?_
  refine bGo hA 9 8 (305, .newarray .int, 2, 153, 0, [93], []) rfl rfl rfl ?_
  refine ⟨h.2.2.2.2.2.1, (bn_nat 16), by decide, (by decide : 16 ≤ 10000), ?_⟩
  refine bGo hA 9 9 (307, .putfield 122, 3, 154, 0, [12, 41, 3, 93, 1, 0], []) rfl rfl rfl ?_
  refine ⟨rfl, rfl, ?_⟩
  refine bGo hA 9 10 (310, .aload_n 0, 1, 155, 0, [0], []) rfl rfl rfl ?_
  refine bGo hA 9 11 (311, .sipush (4096), 3, 156, 0, [], [(4096, 0)]) rfl rfl rfl ?_
  refine bEqI bl_4096 ?_
  refine bGo hA 9 12 (314, .newarray .boolean, 2, 157, 0, [94], []) rfl rfl rfl ?_
  refine ⟨h.2.2.2.2.2.2.1, (bn_nat 4096), by decide, (by decide : 4096 ≤ 10000), ?_⟩
  refine bGo hA 9 13 (316, .putfield 125, 3, 158, 0, [12, 42, 3, 94, 1, 0], []) rfl rfl rfl ?_
  refine ⟨rfl, rfl, ?_⟩
  refine bGo hA 9 14 (319, .aload_n 0, 1, 159, 0, [0], []) rfl rfl rfl ?_
  refine bGo hA 9 15 (320, .sipush (4096), 3, 160, 0, [], [(4096, 0)]) rfl rfl rfl ?_
  refine bEqI bl_4096 ?_
  refine bGo hA 10 0 (323, .newarray .int, 2, 161, 0, [95], []) rfl rfl rfl ?_
  refine ⟨h.2.2.2.2.2.2.2.1, (bn_nat 4096), by decide, (by decide : 4096 ≤ 10000), ?_⟩
  refine bGo hA 10 1 (325, .putfield 128, 3, 162, 0, [12, 43, 3, 95, 1, 0], []) rfl rfl rfl ?_
  refine ⟨rfl, rfl, ?_⟩
  exact h.2.2.2.2.2.2.2.2

theorem sq195_162 {lvl : Nat} {C : bCall} {Q : bPost} {A : bPt → Prop} (hC : bMono C) (hA : bClosed lvl bm195 C Q A) {v1 : Value} {σ : bSt}  
  (h : (σ.2.2.2.1 96 = 0 ∧ ((bwr (bNew σ 96 2 4096) 12 44 (some 96)).2.2.2.1 97 = 0 ∧ ((bwr (bNew (bwr (bNew σ 96 2 4096) 12 44 (some 96)) 97 2 4096) 12 45 (some 97)).2.2.2.1 98 = 0 ∧ ((bwr (bNew (bwr (bNew (bwr (bNew σ 96 2 4096) 12 44 (some 96)) 97 2 4096) 12 45 (some 97)) 98 2 4096) 12 46 (some 98)).2.2.2.1 99 = 0 ∧ ((bwr (bNew (bwr (bNew (bwr (bNew (bwr (bNew σ 96 2 4096) 12 44 (some 96)) 97 2 4096) 12 45 (some 97)) 98 2 4096) 12 46 (some 98)) 99 2 4096) 12 47 (some 99)).2.2.2.1 100 = 0 ∧ ((bwr (bNew (bwr (bNew (bwr (bNew (bwr (bNew (bwr (bNew σ 96 2 4096) 12 44 (some 96)) 97 2 4096) 12 45 (some 97)) 98 2 4096) 12 46 (some 98)) 99 2 4096) 12 47 (some 99)) 100 2 4096) 12 48 (some 100)).2.2.2.1 101 = 0 ∧ ((bwr (bNew (bwr (bNew (bwr (bNew (bwr (bNew (bwr (bNew (bwr (bNew σ 96 2 4096) 12 44 (some 96)) 97 2 4096) 12 45 (some 97)) 98 2 4096) 12 46 (some 98)) 99 2 4096) 12 47 (some 99)) 100 2 4096) 12 48 (some 100)) 101 2 120) 12 50 (some 101)).2.2.2.1 102 = 0 ∧ ((bwr (bNew (bwr (bNew (bwr (bNew (bwr (bNew (bwr (bNew (bwr (bNew (bwr (bNew σ 96 2 4096) 12 44 (some 96)) 97 2 4096) 12 45 (some 97)) 98 2 4096) 12 46 (some 98)) 99 2 4096) 12 47 (some 99)) 100 2 4096) 12 48 (some 100)) 101 2 120) 12 50 (some 101)) 102 2 120) 12 51 (some 102)).2.2.2.1 103 = 0 ∧ A (194, [.retAddr 12, v1], [], (bwr (bNew (bwr (bNew (bwr (bNew (bwr (bNew (bwr (bNew (bwr (bNew (bwr (bNew (bwr (bNew σ 96 2 4096) 12 44 (some 96)) 97 2 4096) 12 45 (some 97)) 98 2 4096) 12 46 (some 98)) 99 2 4096) 12 47 (some 99)) 100 2 4096) 12 48 (some 100)) 101 2 120) 12 50 (some 101)) 102 2 120) 12 51 (some 102)) 103 2 120) 12 52 (some 103)))))))))))) : A (162, [.retAddr 12, v1], [], σ) := by
  refine bGo hA 10 2 (328, .aload_n 0, 1, 163, 0, [0], []) rfl rfl rfl ?_
  refine bGo hA 10 3 (329, .sipush (4096), 3, 164, 0, [], [(4096, 0)]) rfl rfl rfl ?_
  refine bEqI bl_4096 ?_
  refine bGo hA 10 4 (332, .newarray .int, 2, 165, 0, [96], []) rfl rfl rfl ?_
  refine ⟨h.1, (bn_nat 4096), by decide, (by decide : 4096 ≤ 10000), ?_⟩
  refine bGo hA 10 5 (334, .putfield 131, 3, 166, 0, [12, 44, 3, 96, 1, 0], []) rfl rfl rfl ?_
  refine ⟨rfl, rfl, ?_⟩
  refine bGo hA 10 6 (337, .aload_n 0, 1, 167, 0, [0], []) rfl rfl rfl ?_
  refine bGo hA 10 7 (338, .sipush (4096), 3, 168, 0, [], [(4096, 0)]) rfl rfl rfl ?_
  refine bEqI bl_4096 ?_
  refine bGo hA 10 8 (341, .newarray .int, 2, 169, 0, [97], []) rfl rfl rfl ?_
  refine ⟨h.2.1, (bn_nat 4096), by decide, (by decide : 4096 ≤ 10000), ?_⟩
  refine bGo hA 10 9 (343, .putfield 134, 3, 170, 0, [12, 45, 3, 97, 1, 0], []) rfl rfl rfl ?_
  refine ⟨rfl, rfl, ?_⟩
  refine bGo hA 10 10 (346, .aload_n 0, 1, 171, 0, [0], []) rfl rfl rfl ?_
  refine bGo hA 10 11 (347, .sipush (4096), 3, 172, 0, [], [(4096, 0)]) rfl rfl rfl ?_
  refine bEqI bl_4096 ?_
  refine bGo hA 10 12 (350, .newarray .int, 2, 173, 0, [98], []) rfl rfl rfl ?_
  refine ⟨h.2.2.1, (bn_nat 4096), by decide, (by decide : 4096 ≤ 10000), ?_⟩
  refine bGo hA 10 13 (352, .putfield 137, 3, 174, 0, [12, 46, 3, 98, 1, 0], []) rfl rfl rfl ?_
  refine ⟨rfl, rfl, ?_⟩
  refine bGo hA 10 14 (355, .aload_n 0, 1, 175, 0, [0], []) rfl rfl rfl ?_
  refine bGo hA 10 15 (356, .sipush (4096), 3, 176, 0, [], [(4096, 0)]) rfl rfl rfl ?_
  refine bEqI bl_4096 ?_
  refine bGo hA 11 0 (359, .newarray .int, 2, 177, 0, [99], []) rfl rfl rfl ?_
  refine ⟨h.2.2.2.1, (bn_nat 4096), by decide, (by decide : 4096 ≤ 10000), ?_⟩
  refine bGo hA 11 1 (361, .putfield 140, 3, 178, 0, [12, 47, 3, 99, 1, 0], []) rfl rfl rfl ?_
  refine ⟨rfl, rfl, ?_⟩
  refine bGo hA 11 2 (364, .aload_n 0, 1, 179, 0, [0], []) rfl rfl rfl ?_
  refine bGo hA 11 3 (365, .sipush (4096), 3, 180, 0, [], [(4096, 0)]) rfl rfl rfl ?_
  refine bEqI bl_4096 ?_
  refine bGo hA 11 4 (368, .newarray .int, 2, 181, 0, [100], []) rfl rfl rfl ?_
  refine ⟨h.2.2.2.2.1, (bn_nat 4096), by decide, (by decide : 4096 ≤ 10000), ?_⟩
  refine bGo hA 11 5 (370, .putfield 143, 3, 182, 0, [12, 48, 3, 100, 1, 0], []) rfl rfl rfl ?_
  refine ⟨rfl, rfl, ?_⟩
  refine bGo hA 11 6 (373, .aload_n 0, 1, 183, 0, [0], []) rfl rfl rfl ?_
  refine bGo hA 11 7 (374, .bipush (120), 2, 184, 0, [], [(120, 0)]) rfl rfl rfl ?_
  refine bEqI bl_120 ?_
  refine bGo hA 11 8 (376, .newarray .int, 2, 185, 0, [101], []) rfl rfl rfl ?_
  refine ⟨h.2.2.2.2.2.1, (bn_nat 120), by decide, (by decide : 120 ≤ 10000), ?_⟩
  refine bGo hA 11 9 (378, .putfield 146, 3, 186, 0, [12, 50, 3, 101, 1, 0], []) rfl rfl rfl ?_
  refine ⟨rfl, rfl, ?_⟩
  refine bGo hA 11 10 (381, .aload_n 0, 1, 187, 0, [0], []) rfl rfl rfl ?_
  refine bGo hA 11 11 (382, .bipush (120), 2, 188, 0, [], [(120, 0)]) rfl rfl rfl ?_
  refine bEqI bl_120 ?_
  refine bGo hA 11 12 (384, .newarray .int, 2, 189, 0, [102], []) rfl rfl rfl ?_
  refine ⟨h.2.2.2.2.2.2.1, (bn_nat 120), by decide, (by decide : 120 ≤ 10000), ?_⟩
  refine bGo hA 11 13 (386, .putfield 149, 3, 190, 0, [12, 51, 3, 102, 1, 0], []) rfl rfl rfl ?_
  refine ⟨rfl, rfl, ?_⟩
  refine bGo hA 11 14 (389, .aload_n 0, 1, 191, 0, [0], []) rfl rfl rfl ?_
  refine bGo hA 11 15 (390, .bipush (120), 2, 192, 0, [], [(120, 0)]) rfl rfl rfl ?_
  refine bEqI bl_120 ?_
  refine bGo hA 12 0 (392, .newarray .int, 2, 193, 0, [103], []) rfl rfl rfl ?_
  refine ⟨h.2.2.2.2.2.2.2.1, (bn_nat 120), by decide, (by decide : 120 ≤ 10000), ?_⟩
  refine bGo hA 12 1 (394, .putfield 152, 3, 194, 0, [12, 52, 3, 103, 1, 0], []) rfl rfl rfl ?_
  refine ⟨rfl, rfl, ?_⟩
  exact h.2.2.2.2.2.2.2.2

theorem sq195_194 {lvl : Nat} {C : bCall} {Q : bPost} {A : bPt → Prop} (hC : bMono C) (hA : bClosed lvl bm195 C Q A) {v1 : Value} {σ : bSt}  
  (h : (σ.2.2.2.1 104 = 0 ∧ ((bwr (bNew σ 104 2 120) 12 53 (some 104)).2.2.2.1 105 = 0 ∧ ((bwr (bNew (bwr (bNew σ 104 2 120) 12 53 (some 104)) 105 2 120) 12 54 (some 105)).2.2.2.1 106 = 0 ∧ ((bwr (bNew (bwr (bNew (bwr (bNew σ 104 2 120) 12 53 (some 104)) 105 2 120) 12 54 (some 105)) 106 2 4800) 12 55 (some 106)).2.2.2.1 107 = 0 ∧ ((bwr (bNew (bwr (bNew (bwr (bNew (bwr (bNew σ 104 2 120) 12 53 (some 104)) 105 2 120) 12 54 (some 105)) 106 2 4800) 12 55 (some 106)) 107 2 120) 12 56 (some 107)).2.2.2.1 108 = 0 ∧ ((bwr (bNew (bwr (bNew (bwr (bNew (bwr (bNew (bwr (bNew σ 104 2 120) 12 53 (some 104)) 105 2 120) 12 54 (some 105)) 106 2 4800) 12 55 (some 106)) 107 2 120) 12 56 (some 107)) 108 2 120) 12 57 (some 108)).2.2.2.1 109 = 0 ∧ ((bwr (bNew (bwr (bNew (bwr (bNew (bwr (bNew (bwr (bNew (bwr (bNew σ 104 2 120) 12 53 (some 104)) 105 2 120) 12 54 (some 105)) 106 2 4800) 12 55 (some 106)) 107 2 120) 12 56 (some 107)) 108 2 120) 12 57 (some 108)) 109 2 120) 12 58 (some 109)).2.2.2.1 110 = 0 ∧ ((bwr (bNew (bwr (bNew (bwr (bNew (bwr (bNew (bwr (bNew (bwr (bNew (bwr (bNew σ 104 2 120) 12 53 (some 104)) 105 2 120) 12 54 (some 105)) 106 2 4800) 12 55 (some 106)) 107 2 120) 12 56 (some 107)) 108 2 120) 12 57 (some 108)) 109 2 120) 12 58 (some 109)) 110 2 120) 12 59 (some 110)).2.2.2.1 111 = 0 ∧ A (226, [.retAddr 12, v1], [], (bwr (bNew (bwr (bNew (bwr (bNew (bwr (bNew (bwr (bNew (bwr (bNew (bwr (bNew (bwr (bNew σ 104 2 120) 12 53 (some 104)) 105 2 120) 12 54 (some 105)) 106 2 4800) 12 55 (some 106)) 107 2 120) 12 56 (some 107)) 108 2 120) 12 57 (some 108)) 109 2 120) 12 58 (some 109)) 110 2 120) 12 59 (some 110)) 111 2 120) 12 60 (some 111)))))))))))) : A (194, [.retAddr 12, v1], [], σ) := by
  refine bGo hA 12 2 (397, .aload_n 0, 1, 195, 0, [0], []) rfl rfl rfl ?_
  refine bGo hA 12 3 (398, .bipush (120), 2, 196, 0, [], [(120, 0)]) rfl rfl rfl ?_
  refine bEqI bl_120 ?_
  refine bGo hA 12 4 (400, .newarray .int, 2, 197, 0, [104], []) rfl rfl rfl ?_
  refine ⟨h.1, (bn_nat 120), by decide, (by decide : 120 ≤ 10000), ?_⟩
  refine bGo hA 12 5 (402, .putfield 155, 3, 198, 0, [12, 53, 3, 104, 1, 0], []) rfl rfl rfl ?_
  refine ⟨rfl, rfl, ?_⟩
  refine bGo hA 12 6 (405, .aload_n 0, 1, 199, 0, [0], []) rfl rfl rfl ?_
  refine bGo hA 12 7 (406, .bipush (120), 2, 200, 0, [], [(120, 0)]) rfl rfl rfl ?_
  refine bEqI bl_120 ?_
  refine bGo hA 12 8 (408, .newarray .int, 2, 201, 0, [105], []) rfl rfl rfl ?_
  refine ⟨h.2.1, (bn_nat 120), by decide, (by decide : 120 ≤ 10000), ?_⟩
  refine bGo hA 12 9 (410, .putfield 158, 3, 202, 0, [12, 54, 3, 105, 1, 0], []) rfl rfl rfl ?_
  refine ⟨rfl, rfl, ?_⟩
  refine bGo hA 12 10 (413, .aload_n 0, 1, 203, 0, [0], []) rfl rfl rfl ?_
  refine bGo hA 12 11 (414, .sipush (4800), 3, 204, 0, [], [(4800, 0)]) rfl rfl rfl ?_
  refine bEqI bl_4800 ?_
  refine bGo hA 12 12 (417, .newarray .int, 2, 205, 0, [106], []) rfl rfl rfl ?_
  refine ⟨h.2.2.1, (bn_nat 4800), by decide, (by decide : 4800 ≤ 10000), ?_⟩
  refine bGo hA 12 13 (419, .putfield 161, 3, 206, 0, [12, 55, 3, 106, 1, 0], []) rfl rfl rfl ?_
  refine ⟨rfl, rfl, ?_⟩
  refine bGo hA 12 14 (422, .aload_n 0, 1, 207, 0, [0], []) rfl rfl rfl ?_
  refine bGo hA 12 15 (423, .bipush (120), 2, 208, 0, [], [(120, 0)]) rfl rfl rfl ?_
  refine bEqI bl_120 ?_
  refine bGo hA 13 0 (425, .newarray .int, 2, 209, 0, [107], []) rfl rfl rfl ?_
  refine ⟨h.2.2.2.1, (bn_nat 120), by decide, (by decide : 120 ≤ 10000), ?_⟩
  refine bGo hA 13 1 (427, .putfield 164, 3, 210, 0, [12, 56, 3, 107, 1, 0], []) rfl rfl rfl ?_
  refine ⟨rfl, rfl, ?_⟩
  refine bGo hA 13 2 (430, .aload_n 0, 1, 211, 0, [0], []) rfl rfl rfl ?_
  refine bGo hA 13 3 (431, .bipush (120), 2, 212, 0, [], [(120, 0)]) rfl rfl rfl ?_
  refine bEqI bl_120 ?_
  refine bGo hA 13 4 (433, .newarray .int, 2, 213, 0, [108], []) rfl rfl rfl ?_
  refine ⟨h.2.2.2.2.1, (bn_nat 120), by decide, (by decide : 120 ≤ 10000), ?_⟩
  refine bGo hA 13 5 (435, .putfield 167, 3, 214, 0, [12, 57, 3, 108, 1, 0], []) rfl rfl rfl ?_
  refine ⟨rfl, rfl, ?_⟩
  refine bGo hA 13 6 (438, .aload_n 0, 1, 215, 0, [0], []) rfl rfl rfl ?_
  refine bGo hA 13 7 (439, .bipush (120), 2, 216, 0, [], [(120, 0)]) rfl rfl rfl ?_
  refine bEqI bl_120 ?_
  refine bGo hA 13 8 (441, .newarray .boolean, 2, 217, 0, [109], []) rfl rfl rfl ?_
  refine ⟨h.2.2.2.2.2.1, (bn_nat 120), by decide, (by decide : 120 ≤ 10000), ?_⟩
  refine bGo hA 13 9 (443, .putfield 170, 3, 218, 0, [12, 58, 3, 109, 1, 0], []) rfl rfl rfl ?_
  refine ⟨rfl, rfl, ?_⟩
  refine bGo hA 13 10 (446, .aload_n 0, 1, 219, 0, [0], []) rfl rfl rfl ?_
  refine bGo hA 13 11 (447, .bipush (120), 2, 220, 0, [], [(120, 0)]) rfl rfl rfl ?_
  refine bEqI bl_120 ?_
  refine bGo hA 13 12 (449, .newarray .boolean, 2, 221, 0, [110], []) rfl rfl rfl ?_
  refine ⟨h.2.2.2.2.2.2.1, (bn_nat 120), by decide, (by decide : 120 ≤ 10000), ?_⟩
  refine bGo hA 13 13 (451, .putfield 173, 3, 222, 0, [12, 59, 3, 110, 1, 0], []) rfl rfl rfl ?_
  refine ⟨rfl, rfl, ?_⟩
  refine bGo hA 13 14 (454, .aload_n 0, 1, 223, 0, [0], []) rfl rfl rfl ?_
  refine bGo hA 13 15 (455, .bipush (120), 2, 224, 0, [], [(120, 0)]) rfl rfl rfl ?_
  refine bEqI bl_120 ?_
  refine bGo hA 14 0 (457, .newarray .boolean, 2, 225, 0, [111], []) rfl rfl rfl ?_
  refine ⟨h.2.2.2.2.2.2.2.1, (bn_nat 120), by decide, (by decide : 120 ≤ 10000), ?_⟩
  refine bGo hA 14 1 (459, .putfield 176, 3, 226, 0, [12, 60, 3, 111, 1, 0], []) rfl rfl rfl ?_
  refine ⟨rfl, rfl, ?_⟩
  exact h.2.2.2.2.2.2.2.2

theorem sq195_226 {lvl : Nat} {C : bCall} {Q : bPost} {A : bPt → Prop} (hC : bMono C) (hA : bClosed lvl bm195 C Q A) {v1 : Value} {σ : bSt}  
  (h : (σ.2.2.2.1 112 = 0 ∧ ((bwr (bNew σ 112 2 120) 12 61 (some 112)).2.2.2.1 113 = 0 ∧ ((bwr (bNew (bwr (bNew σ 112 2 120) 12 61 (some 112)) 113 2 4800) 12 62 (some 113)).2.2.2.1 114 = 0 ∧ ((bwr (bNew (bwr (bNew (bwr (bNew σ 112 2 120) 12 61 (some 112)) 113 2 4800) 12 62 (some 113)) 114 2 120) 12 63 (some 114)).2.2.2.1 115 = 0 ∧ ((bwr (bNew (bwr (bNew (bwr (bNew (bwr (bNew σ 112 2 120) 12 61 (some 112)) 113 2 4800) 12 62 (some 113)) 114 2 120) 12 63 (some 114)) 115 2 5760) 12 64 (some 115)).2.2.2.1 116 = 0 ∧ ((bwr (bNew (bwr (bNew (bwr (bNew (bwr (bNew (bwr (bNew σ 112 2 120) 12 61 (some 112)) 113 2 4800) 12 62 (some 113)) 114 2 120) 12 63 (some 114)) 115 2 5760) 12 64 (some 115)) 116 2 64) 12 65 (some 116)).2.2.2.1 117 = 0 ∧ ((bwr (bNew (bwr (bNew (bwr (bNew (bwr (bNew (bwr (bNew (bwr (bNew σ 112 2 120) 12 61 (some 112)) 113 2 4800) 12 62 (some 113)) 114 2 120) 12 63 (some 114)) 115 2 5760) 12 64 (some 115)) 116 2 64) 12 65 (some 116)) 117 2 64) 12 66 (some 117)).2.2.2.1 118 = 0 ∧ ((bwr (bNew (bwr (bNew (bwr (bNew (bwr (bNew (bwr (bNew (bwr (bNew (bwr (bNew σ 112 2 120) 12 61 (some 112)) 113 2 4800) 12 62 (some 113)) 114 2 120) 12 63 (some 114)) 115 2 5760) 12 64 (some 115)) 116 2 64) 12 65 (some 116)) 117 2 64) 12 66 (some 117)) 118 2 64) 12 67 (some 118)).2.2.2.1 119 = 0 ∧ A (258, [.retAddr 12, v1], [], (bwr (bNew (bwr (bNew (bwr (bNew (bwr (bNew (bwr (bNew (bwr (bNew (bwr (bNew (bwr (bNew σ 112 2 120) 12 61 (some 112)) 113 2 4800) 12 62 (some 113)) 114 2 120) 12 63 (some 114)) 115 2 5760) 12 64 (some 115)) 116 2 64) 12 65 (some 116)) 117 2 64) 12 66 (some 117)) 118 2 64) 12 67 (some 118)) 119 2 64) 12 69 (some 119)))))))))))) : A (226, [.retAddr 12, v1], [], σ) := by
  refine bGo hA 14 2 (462, .aload_n 0, 1, 227, 0, [0], []) rfl rfl rfl ?_
  refine bGo hA 14 3 (463, .bipush (120), 2, 228, 0, [], [(120, 0)]) rfl rfl rfl ?_
  refine bEqI bl_120 ?_
  refine bGo hA 14 4 (465, .newarray .int, 2, 229, 0, [112], []) rfl rfl rfl ?_
  refine ⟨h.1, (bn_nat 120), by decide, (by decide : 120 ≤ 10000), ?_⟩
  refine bGo hA 14 5 (467, .putfield 179, 3, 230, 0, [12, 61, 3, 112, 1, 0], []) rfl rfl rfl ?_
  refine ⟨rfl, rfl, ?_⟩
  refine bGo hA 14 6 (470, .aload_n 0, 1, 231, 0, [0], []) rfl rfl rfl ?_
  refine bGo hA 14 7 (471, .sipush (4800), 3, 232, 0, [], [(4800, 0)]) rfl rfl rfl ?_
  refine bEqI bl_4800 ?_
  refine bGo hA 14 8 (474, .newarray .int, 2, 233, 0, [113], []) rfl rfl rfl ?_
  refine ⟨h.2.1, (bn_nat 4800), by decide, (by decide : 4800 ≤ 10000), ?_⟩
  refine bGo hA 14 9 (476, .putfield 182, 3, 234, 0, [12, 62, 3, 113, 1, 0], []) rfl rfl rfl ?_
  refine ⟨rfl, rfl, ?_⟩
  refine bGo hA 14 10 (479, .aload_n 0, 1, 235, 0, [0], []) rfl rfl rfl ?_
  refine bGo hA 14 11 (480, .bipush (120), 2, 236, 0, [], [(120, 0)]) rfl rfl rfl ?_
  refine bEqI bl_120 ?_
  refine bGo hA 14 12 (482, .newarray .int, 2, 237, 0, [114], []) rfl rfl rfl ?_
  refine ⟨h.2.2.1, (bn_nat 120), by decide, (by decide : 120 ≤ 10000), ?_⟩
  refine bGo hA 14 13 (484, .putfield 185, 3, 238, 0, [12, 63, 3, 114, 1, 0], []) rfl rfl rfl ?_
  refine ⟨rfl, rfl, ?_⟩
  refine bGo hA 14 14 (487, .aload_n 0, 1, 239, 0, [0], []) rfl rfl rfl ?_
  refine bGo hA 14 15 (488, .sipush (5760), 3, 240, 0, [], [(5760, 0)]) rfl rfl rfl ?_
  refine bEqI bl_5760 ?_
  refine bGo hA 15 0 (491, .newarray .int, 2, 241, 0, [115], []) rfl rfl rfl ?_
  refine ⟨h.2.2.2.1, (bn_nat 5760), by decide, (by decide : 5760 ≤ 10000), ?_⟩
  refine bGo hA 15 1 (493, .putfield 188, 3, 242, 0, [12, 64, 3, 115, 1, 0], []) rfl rfl rfl ?_
  refine ⟨rfl, rfl, ?_⟩
  refine bGo hA 15 2 (496, .aload_n 0, 1, 243, 0, [0], []) rfl rfl rfl ?_
  refine bGo hA 15 3 (497, .bipush (64), 2, 244, 0, [], [(64, 0)]) rfl rfl rfl ?_
  refine bEqI bl_64 ?_
  refine bGo hA 15 4 (499, .newarray .int, 2, 245, 0, [116], []) rfl rfl rfl ?_
  refine ⟨h.2.2.2.2.1, (bn_nat 64), by decide, (by decide : 64 ≤ 10000), ?_⟩
  refine bGo hA 15 5 (501, .putfield 191, 3, 246, 0, [12, 65, 3, 116, 1, 0], []) rfl rfl rfl ?_
  refine ⟨rfl, rfl, ?_⟩
  refine bGo hA 15 6 (504, .aload_n 0, 1, 247, 0, [0], []) rfl rfl rfl ?_
  refine bGo hA 15 7 (505, .bipush (64), 2, 248, 0, [], [(64, 0)]) rfl rfl rfl ?_
  refine bEqI bl_64 ?_
  refine bGo hA 15 8 (507, .newarray .int, 2, 249, 0, [117], []) rfl rfl rfl ?_
  refine ⟨h.2.2.2.2.2.1, (bn_nat 64), by decide, (by decide : 64 ≤ 10000), ?_⟩
  refine bGo hA 15 9 (509, .putfield 194, 3, 250, 0, [12, 66, 3, 117, 1, 0], []) rfl rfl rfl ?_
  refine ⟨rfl, rfl, ?_⟩
  refine bGo hA 15 10 (512, .aload_n 0, 1, 251, 0, [0], []) rfl rfl rfl ?_
  refine bGo hA 15 11 (513, .bipush (64), 2, 252, 0, [], [(64, 0)]) rfl rfl rfl ?_
  refine bEqI bl_64 ?_
  refine bGo hA 15 12 (515, .newarray .int, 2, 253, 0, [118], []) rfl rfl rfl ?_
  refine ⟨h.2.2.2.2.2.2.1, (bn_nat 64), by decide, (by decide : 64 ≤ 10000), ?_⟩
  refine bGo hA 15 13 (517, .putfield 197, 3, 254, 0, [12, 67, 3, 118, 1, 0], []) rfl rfl rfl ?_
  refine ⟨rfl, rfl, ?_⟩
  refine bGo hA 15 14 (520, .aload_n 0, 1, 255, 0, [0], []) rfl rfl rfl ?_
  refine bGo hA 15 15 (521, .bipush (64), 2, 256, 0, [], [(64, 0)]) rfl rfl rfl ?_
  refine bEqI bl_64 ?_
  refine bGo hA 16 0 (523, .newarray .int, 2, 257, 0, [119], []) rfl rfl rfl ?_
  refine ⟨h.2.2.2.2.2.2.2.1, (bn_nat 64), by decide, (by decide : 64 ≤ 10000), ?_⟩
  refine bGo hA 16 1 (525, .putfield 200, 3, 258, 0, [12, 69, 3, 119, 1, 0], []) rfl rfl rfl ?_
  refine ⟨rfl, rfl, ?_⟩
  exact h.2.2.2.2.2.2.2.2

theorem sq195_258 {lvl : Nat} {C : bCall} {Q : bPost} {A : bPt → Prop} (hC : bMono C) (hA : bClosed lvl bm195 C Q A) {v1 : Value} {σ : bSt}  
  (h : (σ.2.2.2.1 120 = 0 ∧ ((bwr (bNew σ 120 2 48) 12 71 (some 120)).2.2.2.1 121 = 0 ∧ ((bwr (bNew (bwr (bNew σ 120 2 48) 12 71 (some 120)) 121 2 80) 12 74 (some 121)).2.2.2.1 122 = 0 ∧ ((bwr (bNew (bwr (bNew (bwr (bNew σ 120 2 48) 12 71 (some 120)) 121 2 80) 12 74 (some 121)) 122 2 80) 12 75 (some 122)).2.2.2.1 123 = 0 ∧ ((bwr (bNew (bwr (bNew (bwr (bNew (bwr (bNew σ 120 2 48) 12 71 (some 120)) 121 2 80) 12 74 (some 121)) 122 2 80) 12 75 (some 122)) 123 2 80) 12 76 (some 123)).2.2.2.1 124 = 0 ∧ ((bwr (bNew (bwr (bNew (bwr (bNew (bwr (bNew (bwr (bNew σ 120 2 48) 12 71 (some 120)) 121 2 80) 12 74 (some 121)) 122 2 80) 12 75 (some 122)) 123 2 80) 12 76 (some 123)) 124 2 80) 12 77 (some 124)).2.2.2.1 125 = 0 ∧ ((bwr (bNew (bwr (bNew (bwr (bNew (bwr (bNew (bwr (bNew (bwr (bNew σ 120 2 48) 12 71 (some 120)) 121 2 80) 12 74 (some 121)) 122 2 80) 12 75 (some 122)) 123 2 80) 12 76 (some 123)) 124 2 80) 12 77 (some 124)) 125 2 80) 12 78 (some 125)).2.2.2.1 126 = 0 ∧ ((bwr (bNew (bwr (bNew (bwr (bNew (bwr (bNew (bwr (bNew (bwr (bNew (bwr (bNew σ 120 2 48) 12 71 (some 120)) 121 2 80) 12 74 (some 121)) 122 2 80) 12 75 (some 122)) 123 2 80) 12 76 (some 123)) 124 2 80) 12 77 (some 124)) 125 2 80) 12 78 (some 125)) 126 2 3200) 12 79 (some 126)).2.2.2.1 127 = 0 ∧ A (290, [.retAddr 12, v1], [], (bwr (bNew (bwr (bNew (bwr (bNew (bwr (bNew (bwr (bNew (bwr (bNew (bwr (bNew (bwr (bNew σ 120 2 48) 12 71 (some 120)) 121 2 80) 12 74 (some 121)) 122 2 80) 12 75 (some 122)) 123 2 80) 12 76 (some 123)) 124 2 80) 12 77 (some 124)) 125 2 80) 12 78 (some 125)) 126 2 3200) 12 79 (some 126)) 127 2 80) 12 80 (some 127)))))))))))) : A (258, [.retAddr 12, v1], [], σ) := by
  refine bGo hA 16 2 (528, .aload_n 0, 1, 259, 0, [0], []) rfl rfl rfl ?_
  refine bGo hA 16 3 (529, .bipush (48), 2, 260, 0, [], [(48, 0)]) rfl rfl rfl ?_
  refine bEqI bl_48 ?_
  refine bGo hA 16 4 (531, .newarray .int, 2, 261, 0, [120], []) rfl rfl rfl ?_
  refine ⟨h.1, (bn_nat 48), by decide, (by decide : 48 ≤ 10000), ?_⟩
  refine bGo hA 16 5 (533, .putfield 203, 3, 262, 0, [12, 71, 3, 120, 1, 0], []) rfl rfl rfl ?_
  refine ⟨rfl, rfl, ?_⟩
  refine bGo hA 16 6 (536, .aload_n 0, 1, 263, 0, [0], []) rfl rfl rfl ?_
  refine bGo hA 16 7 (537, .bipush (80), 2, 264, 0, [], [(80, 0)]) rfl rfl rfl ?_
  refine bEqI bl_80 ?_
  refine bGo hA 16 8 (539, .newarray .int, 2, 265, 0, [121], []) rfl rfl rfl ?_
  refine ⟨h.2.1, (bn_nat 80), by decide, (by decide : 80 ≤ 10000), ?_⟩
  refine bGo hA 16 9 (541, .putfield 206, 3, 266, 0, [12, 74, 3, 121, 1, 0], []) rfl rfl rfl ?_
  refine ⟨rfl, rfl, ?_⟩
  refine bGo hA 16 10 (544, .aload_n 0, 1, 267, 0, [0], []) rfl rfl rfl ?_
  refine bGo hA 16 11 (545, .bipush (80), 2, 268, 0, [], [(80, 0)]) rfl rfl rfl ?_
  refine bEqI bl_80 ?_
  refine bGo hA 16 12 (547, .newarray .int, 2, 269, 0, [122], []) rfl rfl rfl ?_
  refine ⟨h.2.2.1, (bn_nat 80), by decide, (by decide : 80 ≤ 10000), ?_⟩
  refine bGo hA 16 13 (549, .putfield 209, 3, 270, 0, [12, 75, 3, 122, 1, 0], []) rfl rfl rfl ?_
  refine ⟨rfl, rfl, ?_⟩
  refine bGo hA 16 14 (552, .aload_n 0, 1, 271, 0, [0], []) rfl rfl rfl ?_
  refine bGo hA 16 15 (553, .bipush (80), 2, 272, 0, [], [(80, 0)]) rfl rfl rfl ?_
  refine bEqI bl_80 ?_
  refine bGo hA 17 0 (555, .newarray .int, 2, 273, 0, [123], []) rfl rfl rfl ?_
  refine ⟨h.2.2.2.1, (bn_nat 80), by decide, (by decide : 80 ≤ 10000), ?_⟩
  refine bGo hA 17 1 (557, .putfield 212, 3, 274, 0, [12, 76, 3, 123, 1, 0], []) rfl rfl rfl ?_
  refine ⟨rfl, rfl, ?_⟩
  refine bGo hA 17 2 (560, .aload_n 0, 1, 275, 0, [0], []) rfl rfl rfl ?_
  refine bGo hA 17 3 (561, .bipush (80), 2, 276, 0, [], [(80, 0)]) rfl rfl rfl ?_
  refine bEqI bl_80 ?_
  refine bGo hA 17 4 (563, .newarray .int, 2, 277, 0, [124], []) rfl rfl rfl ?_
  refine ⟨h.2.2.2.2.1, (bn_nat 80), by decide, (by decide : 80 ≤ 10000), ?_⟩
  refine bGo hA 17 5 (565, .putfield 215, 3, 278, 0, [12, 77, 3, 124, 1, 0], []) rfl rfl rfl ?_
  refine ⟨rfl, rfl, ?_⟩
  refine bGo hA 17 6 (568, .aload_n 0, 1, 279, 0, [0], []) rfl rfl rfl ?_
  refine bGo hA 17 7 (569, .bipush (80), 2, 280, 0, [], [(80, 0)]) rfl rfl rfl ?_
  refine bEqI bl_80 ?_
  refine bGo hA 17 8 (571, .newarray .int, 2, 281, 0, [125], []) rfl rfl rfl ?_
  refine ⟨h.2.2.2.2.2.1, (bn_nat 80), by decide, (by decide : 80 ≤ 10000), ?_⟩
  refine bGo hA 17 9 (573, .putfield 218, 3, 282, 0, [12, 78, 3, 125, 1, 0], []) rfl rfl rfl ?_
  refine ⟨rfl, rfl, ?_⟩
  refine bGo hA 17 10 (576, .aload_n 0, 1, 283, 0, [0], []) rfl rfl rfl ?_
  refine bGo hA 17 11 (577, .sipush (3200), 3, 284, 0, [], [(3200, 0)]) rfl rfl rfl ?_
  refine bEqI bl_3200 ?_
  refine bGo hA 17 12 (580, .newarray .int, 2, 285, 0, [126], []) rfl rfl rfl ?_
  refine ⟨h.2.2.2.2.2.2.1, (bn_nat 3200), by decide, (by decide : 3200 ≤ 10000), ?_⟩
  refine bGo hA 17 13 (582, .putfield 221, 3, 286, 0, [12, 79, 3, 126, 1, 0], []) rfl rfl rfl ?_
  refine ⟨rfl, rfl, ?_⟩
  refine bGo hA 17 14 (585, .aload_n 0, 1, 287, 0, [0], []) rfl rfl rfl ?_
  refine bGo hA 17 15 (586, .bipush (80), 2, 288, 0, [], [(80, 0)]) rfl rfl rfl ?_
  refine bEqI bl_80 ?_
  refine bGo hA 18 0 (588, .newarray .int, 2, 289, 0, [127], []) rfl rfl rfl ?_
  refine ⟨h.2.2.2.2.2.2.2.1, (bn_nat 80), by decide, (by decide : 80 ≤ 10000), ?_⟩
  refine bGo hA 18 1 (590, .putfield 224, 3, 290, 0, [12, 80, 3, 127, 1, 0], []) rfl rfl rfl ?_
  refine ⟨rfl, rfl, ?_⟩
  exact h.2.2.2.2.2.2.2.2

theorem sq195_290 {lvl : Nat} {C : bCall} {Q : bPost} {A : bPt → Prop} (hC : bMono C) (hA : bClosed lvl bm195 C Q A) {v1 : Value} {σ : bSt}  
  (h : (σ.2.2.2.1 128 = 0 ∧ ((bwr (bNew σ 128 2 3840) 12 81 (some 128)).2.2.2.1 129 = 0 ∧ ((bwr (bNew (bwr (bNew σ 128 2 3840) 12 81 (some 128)) 129 2 80) 12 82 (some 129)).2.2.2.1 130 = 0 ∧ ((bwr (bNew (bwr (bNew (bwr (bNew σ 128 2 3840) 12 81 (some 128)) 129 2 80) 12 82 (some 129)) 130 2 120) 12 83 (some 130)).2.2.2.1 131 = 0 ∧ ((bwr (bNew (bwr (bNew (bwr (bNew (bwr (bNew σ 128 2 3840) 12 81 (some 128)) 129 2 80) 12 82 (some 129)) 130 2 120) 12 83 (some 130)) 131 2 120) 12 84 (some 131)).2.2.2.1 132 = 0 ∧ ((bwr (bNew (bwr (bNew (bwr (bNew (bwr (bNew (bwr (bNew σ 128 2 3840) 12 81 (some 128)) 129 2 80) 12 82 (some 129)) 130 2 120) 12 83 (some 130)) 131 2 120) 12 84 (some 131)) 132 2 5760) 12 85 (some 132)).2.2.2.1 133 = 0 ∧ ((bwr (bNew (bwr (bNew (bwr (bNew (bwr (bNew (bwr (bNew (bwr (bNew σ 128 2 3840) 12 81 (some 128)) 129 2 80) 12 82 (some 129)) 130 2 120) 12 83 (some 130)) 131 2 120) 12 84 (some 131)) 132 2 5760) 12 85 (some 132)) 133 2 120) 12 86 (some 133)).2.2.2.1 134 = 0 ∧ ((bwr (bNew (bwr (bNew (bwr (bNew (bwr (bNew (bwr (bNew (bwr (bNew (bwr (bNew σ 128 2 3840) 12 81 (some 128)) 129 2 80) 12 82 (some 129)) 130 2 120) 12 83 (some 130)) 131 2 120) 12 84 (some 131)) 132 2 5760) 12 85 (some 132)) 133 2 120) 12 86 (some 133)) 134 2 1000) 12 89 (some 134)).2.2.2.1 135 = 0 ∧ A (322, [.retAddr 12, v1], [], (bwr (bNew (bwr (bNew (bwr (bNew (bwr (bNew (bwr (bNew (bwr (bNew (bwr (bNew (bwr (bNew σ 128 2 3840) 12 81 (some 128)) 129 2 80) 12 82 (some 129)) 130 2 120) 12 83 (some 130)) 131 2 120) 12 84 (some 131)) 132 2 5760) 12 85 (some 132)) 133 2 120) 12 86 (some 133)) 134 2 1000) 12 89 (some 134)) 135 2 1000) 12 90 (some 135)))))))))))) : A (290, [.retAddr 12, v1], [], σ) := by
  refine bGo hA 18 2 (593, .aload_n 0, 1, 291, 0, [0], []) rfl rfl rfl ?_
  refine bGo hA 18 3 (594, .sipush (3840), 3, 292, 0, [], [(3840, 0)]) rfl rfl rfl ?_
  refine bEqI bl_3840 ?_
  refine bGo hA 18 4 (597, .newarray .int, 2, 293, 0, [128], []) rfl rfl rfl ?_
  refine ⟨h.1, (bn_nat 3840), by decide, (by decide : 3840 ≤ 10000), ?_⟩
  refine bGo hA 18 5 (599, .putfield 227, 3, 294, 0, [12, 81, 3, 128, 1, 0], []) rfl rfl rfl ?_
  refine ⟨rfl, rfl, ?_⟩
  refine bGo hA 18 6 (602, .aload_n 0, 1, 295, 0, [0], []) rfl rfl rfl ?_
  refine bGo hA 18 7 (603, .bipush (80), 2, 296, 0, [], [(80, 0)]) rfl rfl rfl ?_
  refine bEqI bl_80 ?_
  refine bGo hA 18 8 (605, .newarray .int, 2, 297, 0, [129], []) rfl rfl rfl ?_
  refine ⟨h.2.1, (bn_nat 80), by decide, (by decide : 80 ≤ 10000), ?_⟩
  refine bGo hA 18 9 (607, .putfield 230, 3, 298, 0, [12, 82, 3, 129, 1, 0], []) rfl rfl rfl ?_
  refine ⟨rfl, rfl, ?_⟩
  refine bGo hA 18 10 (610, .aload_n 0, 1, 299, 0, [0], []) rfl rfl rfl ?_
  refine bGo hA 18 11 (611, .bipush (120), 2, 300, 0, [], [(120, 0)]) rfl rfl rfl ?_
  refine bEqI bl_120 ?_
  refine bGo hA 18 12 (613, .newarray .int, 2, 301, 0, [130], []) rfl rfl rfl ?_
  refine ⟨h.2.2.1, (bn_nat 120), by decide, (by decide : 120 ≤ 10000), ?_⟩
  refine bGo hA 18 13 (615, .putfield 233, 3, 302, 0, [12, 83, 3, 130, 1, 0], []) rfl rfl rfl ?_
  refine ⟨rfl, rfl, ?_⟩
  refine bGo hA 18 14 (618, .aload_n 0, 1, 303, 0, [0], []) rfl rfl rfl ?_
  refine bGo hA 18 15 (619, .bipush (120), 2, 304, 0, [], [(120, 0)]) rfl rfl rfl ?_
  refine bEqI bl_120 ?_
  refine bGo hA 19 0 (621, .newarray .int, 2, 305, 0, [131], []) rfl rfl rfl ?_
  refine ⟨h.2.2.2.1, (bn_nat 120), by decide, (by decide : 120 ≤ 10000), ?_⟩
  refine bGo hA 19 1 (623, .putfield 236, 3, 306, 0, [12, 84, 3, 131, 1, 0], []) rfl rfl rfl ?_
  refine ⟨rfl, rfl, ?_⟩
  refine bGo hA 19 2 (626, .aload_n 0, 1, 307, 0, [0], []) rfl rfl rfl ?_
  refine bGo hA 19 3 (627, .sipush (5760), 3, 308, 0, [], [(5760, 0)]) rfl rfl rfl ?_
  refine bEqI bl_5760 ?_
  refine bGo hA 19 4 (630, .newarray .int, 2, 309, 0, [132], []) rfl rfl rfl ?_
  refine ⟨h.2.2.2.2.1, (bn_nat 5760), by decide, (by decide : 5760 ≤ 10000), ?_⟩
  refine bGo hA 19 5 (632, .putfield 239, 3, 310, 0, [12, 85, 3, 132, 1, 0], []) rfl rfl rfl ?_
  refine ⟨rfl, rfl, ?_⟩
  refine bGo hA 19 6 (635, .aload_n 0, 1, 311, 0, [0], []) rfl rfl rfl ?_
  refine bGo hA 19 7 (636, .bipush (120), 2, 312, 0, [], [(120, 0)]) rfl rfl rfl ?_
  refine bEqI bl_120 ?_
  refine bGo hA 19 8 (638, .newarray .boolean, 2, 313, 0, [133], []) rfl rfl rfl ?_
  refine ⟨h.2.2.2.2.2.1, (bn_nat 120), by decide, (by decide : 120 ≤ 10000), ?_⟩
  refine bGo hA 19 9 (640, .putfield 242, 3, 314, 0, [12, 86, 3, 133, 1, 0], []) rfl rfl rfl ?_
  refine ⟨rfl, rfl, ?_⟩
  refine bGo hA 19 10 (643, .aload_n 0, 1, 315, 0, [0], []) rfl rfl rfl ?_
  refine bGo hA 19 11 (644, .sipush (1000), 3, 316, 0, [], [(1000, 0)]) rfl rfl rfl ?_
  refine bEqI bl_1000 ?_
  refine bGo hA 19 12 (647, .newarray .boolean, 2, 317, 0, [134], []) rfl rfl rfl ?_
  refine ⟨h.2.2.2.2.2.2.1, (bn_nat 1000), by decide, (by decide : 1000 ≤ 10000), ?_⟩
  refine bGo hA 19 13 (649, .putfield 245, 3, 318, 0, [12, 89, 3, 134, 1, 0], []) rfl rfl rfl ?_
  refine ⟨rfl, rfl, ?_⟩
  refine bGo hA 19 14 (652, .aload_n 0, 1, 319, 0, [0], []) rfl rfl rfl ?_
  refine bGo hA 19 15 (653, .sipush (1000), 3, 320, 0, [], [(1000, 0)]) rfl rfl rfl ?_
  refine bEqI bl_1000 ?_
  refine bGo hA 20 0 (656, .newarray .boolean, 2, 321, 0, [135], []) rfl rfl rfl ?_
  refine ⟨h.2.2.2.2.2.2.2.1, (bn_nat 1000), by decide, (by decide : 1000 ≤ 10000), ?_⟩
  refine bGo hA 20 1 (658, .putfield 248, 3, 322, 0, [12, 90, 3, 135, 1, 0], []) rfl rfl rfl ?_
  refine ⟨rfl, rfl, ?_⟩
  exact h.2.2.2.2.2.2.2.2

theorem sq195_322 {lvl : Nat} {C : bCall} {Q : bPost} {A : bPt → Prop} (hC : bMono C) (hA : bClosed lvl bm195 C Q A) {v1 : Value} {σ : bSt}  
  (h : (σ.2.2.2.1 136 = 0 ∧ ((bwr (bNew σ 136 2 3) 12 91 (some 136)).2.2.2.1 137 = 0 ∧ ((bwr (bNew (bwr (bNew σ 136 2 3) 12 91 (some 136)) 137 2 12) 12 92 (some 137)).2.2.2.1 138 = 0 ∧ ((bwr (bNew (bwr (bNew (bwr (bNew σ 136 2 3) 12 91 (some 136)) 137 2 12) 12 92 (some 137)) 138 2 12) 12 93 (some 138)).2.2.2.1 139 = 0 ∧ ((bwr (bNew (bwr (bNew (bwr (bNew (bwr (bNew σ 136 2 3) 12 91 (some 136)) 137 2 12) 12 92 (some 137)) 138 2 12) 12 93 (some 138)) 139 2 12) 12 94 (some 139)).2.2.2.1 140 = 0 ∧ ((bwr (bNew (bwr (bNew (bwr (bNew (bwr (bNew (bwr (bNew σ 136 2 3) 12 91 (some 136)) 137 2 12) 12 92 (some 137)) 138 2 12) 12 93 (some 138)) 139 2 12) 12 94 (some 139)) 140 2 120) 12 96 (some 140)).2.2.2.1 141 = 0 ∧ ((bwr (bNew (bwr (bNew (bwr (bNew (bwr (bNew (bwr (bNew (bwr (bNew σ 136 2 3) 12 91 (some 136)) 137 2 12) 12 92 (some 137)) 138 2 12) 12 93 (some 138)) 139 2 12) 12 94 (some 139)) 140 2 120) 12 96 (some 140)) 141 2 120) 12 97 (some 141)).2.2.2.1 142 = 0 ∧ ((bwr (bNew (bwr (bNew (bwr (bNew (bwr (bNew (bwr (bNew (bwr (bNew (bwr (bNew σ 136 2 3) 12 91 (some 136)) 137 2 12) 12 92 (some 137)) 138 2 12) 12 93 (some 138)) 139 2 12) 12 94 (some 139)) 140 2 120) 12 96 (some 140)) 141 2 120) 12 97 (some 141)) 142 2 120) 12 98 (some 142)).2.2.2.1 143 = 0 ∧ ((bwr (bNew (bwr (bNew (bwr (bNew (bwr (bNew (bwr (bNew (bwr (bNew (bwr (bNew (bwr (bNew σ 136 2 3) 12 91 (some 136)) 137 2 12) 12 92 (some 137)) 138 2 12) 12 93 (some 138)) 139 2 12) 12 94 (some 139)) 140 2 120) 12 96 (some 140)) 141 2 120) 12 97 (some 141)) 142 2 120) 12 98 (some 142)) 143 2 120) 12 99 (some 143)).2.2.2.1 144 = 0 ∧ ((bwr (bNew (bwr (bNew (bwr (bNew (bwr (bNew (bwr (bNew (bwr (bNew (bwr (bNew (bwr (bNew (bwr (bNew σ 136 2 3) 12 91 (some 136)) 137 2 12) 12 92 (some 137)) 138 2 12) 12 93 (some 138)) 139 2 12) 12 94 (some 139)) 140 2 120) 12 96 (some 140)) 141 2 120) 12 97 (some 141)) 142 2 120) 12 98 (some 142)) 143 2 120) 12 99 (some 143)) 144 2 120) 12 100 (some 144)).2.2.2.1 145 = 0 ∧ ((bwr (bNew (bwr (bNew (bwr (bNew (bwr (bNew (bwr (bNew (bwr (bNew (bwr (bNew (bwr (bNew (bwr (bNew (bwr (bNew σ 136 2 3) 12 91 (some 136)) 137 2 12) 12 92 (some 137)) 138 2 12) 12 93 (some 138)) 139 2 12) 12 94 (some 139)) 140 2 120) 12 96 (some 140)) 141 2 120) 12 97 (some 141)) 142 2 120) 12 98 (some 142)) 143 2 120) 12 99 (some 143)) 144 2 120) 12 100 (some 144)) 145 2 120) 12 101 (some 145)).2.2.2.1 146 = 0 ∧ (∀ s1 : bSt, s1 = (bNew (bwr (bNew (bwr (bNew (bwr (bNew (bwr (bNew (bwr (bNew (bwr (bNew (bwr (bNew (bwr (bNew (bwr (bNew (bwr (bNew σ 136 2 3) 12 91 (some 136)) 137 2 12) 12 92 (some 137)) 138 2 12) 12 93 (some 138)) 139 2 12) 12 94 (some 139)) 140 2 120) 12 96 (some 140)) 141 2 120) 12 97 (some 141)) 142 2 120) 12 98 (some 142)) 143 2 120) 12 99 (some 143)) 144 2 120) 12 100 (some 144)) 145 2 120) 12 101 (some 145)) 146 2 120) → ((bwr s1 12 102 (some 146)).2.2.2.1 147 = 0 ∧ ((bwr (bNew (bwr s1 12 102 (some 146)) 147 2 120) 12 103 (some 147)).2.2.2.1 148 = 0 ∧ ((bwr (bNew (bwr (bNew (bwr s1 12 102 (some 146)) 147 2 120) 12 103 (some 147)) 148 2 120) 12 104 (some 148)).2.2.2.1 149 = 0 ∧ ((bwr (bNew (bwr (bNew (bwr (bNew (bwr s1 12 102 (some 146)) 147 2 120) 12 103 (some 147)) 148 2 120) 12 104 (some 148)) 149 2 128) 12 107 (some 149)).2.2.2.1 150 = 0 ∧ ((bwr (bNew (bwr (bNew (bwr (bNew (bwr (bNew (bwr s1 12 102 (some 146)) 147 2 120) 12 103 (some 147)) 148 2 120) 12 104 (some 148)) 149 2 128) 12 107 (some 149)) 150 2 128) 12 108 (some 150)).2.2.2.1 151 = 0 ∧ ((bwr (bNew (bwr (bNew (bwr (bNew (bwr (bNew (bwr (bNew (bwr s1 12 102 (some 146)) 147 2 120) 12 103 (some 147)) 148 2 120) 12 104 (some 148)) 149 2 128) 12 107 (some 149)) 150 2 128) 12 108 (some 150)) 151 2 64) 12 109 (some 151)).2.2.2.1 152 = 0 ∧ ((bwr (bNew (bwr (bNew (bwr (bNew (bwr (bNew (bwr (bNew (bwr (bNew (bwr s1 12 102 (some 146)) 147 2 120) 12 103 (some 147)) 148 2 120) 12 104 (some 148)) 149 2 128) 12 107 (some 149)) 150 2 128) 12 108 (some 150)) 151 2 64) 12 109 (some 151)) 152 2 2048) 12 110 (some 152)).2.2.2.1 153 = 0 ∧ A (396, [.retAddr 12, .int (bn 0)], [], (bwr (bNew (bwr (bNew (bwr (bNew (bwr (bNew (bwr (bNew (bwr (bNew (bwr (bNew (bwr s1 12 102 (some 146)) 147 2 120) 12 103 (some 147)) 148 2 120) 12 104 (some 148)) 149 2 128) 12 107 (some 149)) 150 2 128) 12 108 (some 150)) 151 2 64) 12 109 (some 151)) 152 2 2048) 12 110 (some 152)) 153 2 16) 12 113 (some 153))))))))))))))))))))))) : A (322, [.retAddr 12, v1], [], σ) := by
  refine bGo hA 20 2 (661, .aload_n 0, 1, 323, 0, [0], []) rfl rfl rfl ?_
  refine bGo hA 20 3 (662, .iconst (3), 1, 324, 0, [], [(3, 0)]) rfl rfl rfl ?_
  refine bEqI bl_3 ?_
  refine bGo hA 20 4 (663, .newarray .int, 2, 325, 0, [136], []) rfl rfl rfl ?_
  refine ⟨h.1, (bn_nat 3), by decide, (by decide : 3 ≤ 10000), ?_⟩
  refine bGo hA 20 5 (665, .putfield 251, 3, 326, 0, [12, 91, 3, 136, 1, 0], []) rfl rfl rfl ?_
  refine ⟨rfl, rfl, ?_⟩
  refine bGo hA 20 6 (668, .aload_n 0, 1, 327, 0, [0], []) rfl rfl rfl ?_
  refine bGo hA 20 7 (669, .bipush (12), 2, 328, 0, [], [(12, 0)]) rfl rfl rfl ?_
  refine bEqI bl_12 ?_
  refine bGo hA 20 8 (671, .newarray .int, 2, 329, 0, [137], []) rfl rfl rfl ?_
  refine ⟨h.2.1, (bn_nat 12), by decide, (by decide : 12 ≤ 10000), ?_⟩
  refine bGo hA 20 9 (673, .putfield 254, 3, 330, 0, [12, 92, 3, 137, 1, 0], []) rfl rfl rfl ?_
  refine ⟨rfl, rfl, ?_⟩
  refine bGo hA 20 10 (676, .aload_n 0, 1, 331, 0, [0], []) rfl rfl rfl ?_
  refine bGo hA 20 11 (677, .bipush (12), 2, 332, 0, [], [(12, 0)]) rfl rfl rfl ?_
  refine bEqI bl_12 ?_
  refine bGo hA 20 12 (679, .newarray .boolean, 2, 333, 0, [138], []) rfl rfl rfl ?_
  refine ⟨h.2.2.1, (bn_nat 12), by decide, (by decide : 12 ≤ 10000), ?_⟩
  refine bGo hA 20 13 (681, .putfield 257, 3, 334, 0, [12, 93, 3, 138, 1, 0], []) rfl rfl rfl ?_
  refine ⟨rfl, rfl, ?_⟩
  refine bGo hA 20 14 (684, .aload_n 0, 1, 335, 0, [0], []) rfl rfl rfl ?_
  refine bGo hA 20 15 (685, .bipush (12), 2, 336, 0, [], [(12, 0)]) rfl rfl rfl ?_
  refine bEqI bl_12 ?_
  refine bGo hA 21 0 (687, .newarray .int, 2, 337, 0, [139], []) rfl rfl rfl ?_
  refine ⟨h.2.2.2.1, (bn_nat 12), by decide, (by decide : 12 ≤ 10000), ?_⟩
  refine bGo hA 21 1 (689, .putfield 260, 3, 338, 0, [12, 94, 3, 139, 1, 0], []) rfl rfl rfl ?_
  refine ⟨rfl, rfl, ?_⟩
  refine bGo hA 21 2 (692, .aload_n 0, 1, 339, 0, [0], []) rfl rfl rfl ?_
  refine bGo hA 21 3 (693, .bipush (120), 2, 340, 0, [], [(120, 0)]) rfl rfl rfl ?_
  refine bEqI bl_120 ?_
  refine bGo hA 21 4 (695, .newarray .boolean, 2, 341, 0, [140], []) rfl rfl rfl ?_
  refine ⟨h.2.2.2.2.1, (bn_nat 120), by decide, (by decide : 120 ≤ 10000), ?_⟩
  refine bGo hA 21 5 (697, .putfield 263, 3, 342, 0, [12, 96, 3, 140, 1, 0], []) rfl rfl rfl ?_
  refine ⟨rfl, rfl, ?_⟩
  refine bGo hA 21 6 (700, .aload_n 0, 1, 343, 0, [0], []) rfl rfl rfl ?_
  refine bGo hA 21 7 (701, .bipush (120), 2, 344, 0, [], [(120, 0)]) rfl rfl rfl ?_
  refine bEqI bl_120 ?_
  refine bGo hA 21 8 (703, .newarray .int, 2, 345, 0, [141], []) rfl rfl rfl ?_
  refine ⟨h.2.2.2.2.2.1, (bn_nat 120), by decide, (by decide : 120 ≤ 10000), ?_⟩
  refine bGo hA 21 9 (705, .putfield 266, 3, 346, 0, [12, 97, 3, 141, 1, 0], []) rfl rfl rfl ?_
  refine ⟨rfl, rfl, ?_⟩
  refine bGo hA 21 10 (708, .aload_n 0, 1, 347, 0, [0], []) rfl rfl rfl ?_
  refine bGo hA 21 11 (709, .bipush (120), 2, 348, 0, [], [(120, 0)]) rfl rfl rfl ?_
  refine bEqI bl_120 ?_
  refine bGo hA 21 12 (711, .newarray .int, 2, 349, 0, [142], []) rfl rfl rfl ?_
  refine ⟨h.2.2.2.2.2.2.1, (bn_nat 120), by decide, (by decide : 120 ≤ 10000), ?_⟩
  refine bGo hA 21 13 (713, .putfield 269, 3, 350, 0, [12, 98, 3, 142, 1, 0], []) rfl rfl rfl ?_
  refine ⟨rfl, rfl, ?_⟩
  refine bGo hA 21 14 (716, .aload_n 0, 1, 351, 0, [0], []) rfl rfl rfl ?_
  refine bGo hA 21 15 (717, .bipush (120), 2, 352, 0, [], [(120, 0)]) rfl rfl rfl ?_
  refine bEqI bl_120 ?_
  refine bGo hA 22 0 (719, .newarray .int, 2, 353, 0, [143], []) rfl rfl rfl ?_
  refine ⟨h.2.2.2.2.2.2.2.1, (bn_nat 120), by decide, (by decide : 120 ≤ 10000), ?_⟩
  refine bGo hA 22 1 (721, .putfield 272, 3, 354, 0, [12, 99, 3, 143, 1, 0], []) rfl rfl rfl ?_
  refine ⟨rfl, rfl, ?_⟩
  refine bGo hA 22 2 (724, .aload_n 0, 1, 355, 0, [0], []) rfl rfl rfl ?_
  refine bGo hA 22 3 (725, .bipush (120), 2, 356, 0, [], [(120, 0)]) rfl rfl rfl ?_
  refine bEqI bl_120 ?_
  refine bGo hA 22 4 (727, .newarray .int, 2, 357, 0, [144], []) rfl rfl rfl ?_
  refine ⟨h.2.2.2.2.2.2.2.2.1, (bn_nat 120), by decide, (by decide : 120 ≤ 10000), ?_⟩
  refine bGo hA 22 5 (729, .putfield 275, 3, 358, 0, [12, 100, 3, 144, 1, 0], []) rfl rfl rfl ?_
  refine ⟨rfl, rfl, ?_⟩
  refine bGo hA 22 6 (732, .aload_n 0, 1, 359, 0, [0], []) rfl rfl rfl ?_
  refine bGo hA 22 7 (733, .bipush (120), 2, 360, 0, [], [(120, 0)]) rfl rfl rfl ?_
  refine bEqI bl_120 ?_
  refine bGo hA 22 8 (735, .newarray .int, 2, 361, 0, [145], []) rfl rfl rfl ?_
  refine ⟨h.2.2.2.2.2.2.2.2.2.1, (bn_nat 120), by decide, (by decide : 120 ≤ 10000), ?_⟩
  refine bGo hA 22 9 (737, .putfield 278, 3, 362, 0, [12, 101, 3, 145, 1, 0], []) rfl rfl rfl ?_
  refine ⟨rfl, rfl, ?_⟩
  refine bGo hA 22 10 (740, .aload_n 0, 1, 363, 0, [0], []) rfl rfl rfl ?_
  refine bGo hA 22 11 (741, .bipush (120), 2, 364, 0, [], [(120, 0)]) rfl rfl rfl ?_
  refine bEqI bl_120 ?_
  refine bGo hA 22 12 (743, .newarray .int, 2, 365, 0, [146], []) rfl rfl rfl ?_
  refine ⟨h.2.2.2.2.2.2.2.2.2.2.1, (bn_nat 120), by decide, (by decide : 120 ≤ 10000), ?_⟩
  refine bGo hA 22 13 (745, .putfield 281, 3, 366, 0, [12, 102, 3, 146, 1, 0], []) rfl rfl rfl ?_
  refine ⟨rfl, rfl, ?_⟩
  refine bGo hA 22 14 (748, .aload_n 0, 1, 367, 0, [0], []) rfl rfl rfl ?_
  refine bGo hA 22 15 (749, .bipush (120), 2, 368, 0, [], [(120, 0)]) rfl rfl rfl ?_
  refine bEqI bl_120 ?_
  refine bGo hA 23 0 (751, .newarray .boolean, 2, 369, 0, [147], []) rfl rfl rfl ?_
  refine ⟨(h.2.2.2.2.2.2.2.2.2.2.2 _ rfl).1, (bn_nat 120), by decide, (by decide : 120 ≤ 10000), ?_⟩
  refine bGo hA 23 1 (753, .putfield 284, 3, 370, 0, [12, 103, 3, 147, 1, 0], []) rfl rfl rfl ?_
  refine ⟨rfl, rfl, ?_⟩
  refine bGo hA 23 2 (756, .aload_n 0, 1, 371, 0, [0], []) rfl rfl rfl ?_
  refine bGo hA 23 3 (757, .bipush (120), 2, 372, 0, [], [(120, 0)]) rfl rfl rfl ?_
  refine bEqI bl_120 ?_
  refine bGo hA 23 4 (759, .newarray .int, 2, 373, 0, [148], []) rfl rfl rfl ?_
  refine ⟨(h.2.2.2.2.2.2.2.2.2.2.2 _ rfl).2.1, (bn_nat 120), by decide, (by decide : 120 ≤ 10000), ?_⟩
  refine bGo hA 23 5 (761, .putfield 287, 3, 374, 0, [12, 104, 3, 148, 1, 0], []) rfl rfl rfl ?_
  refine ⟨rfl, rfl, ?_⟩
  refine bGo hA 23 6 (764, .aload_n 0, 1, 375, 0, [0], []) rfl rfl rfl ?_
  refine bGo hA 23 7 (765, .sipush (128), 3, 376, 0, [], [(128, 0)]) rfl rfl rfl ?_
  refine bEqI bl_128 ?_
  refine bGo hA 23 8 (768, .newarray .int, 2, 377, 0, [149], []) rfl rfl rfl ?_
  refine ⟨(h.2.2.2.2.2.2.2.2.2.2.2 _ rfl).2.2.1, (bn_nat 128), by decide, (by decide : 128 ≤ 10000), ?_⟩
  refine bGo hA 23 9 (770, .putfield 290, 3, 378, 0, [12, 107, 3, 149, 1, 0], []) rfl rfl rfl ?_
  refine ⟨rfl, rfl, ?_⟩
  refine bGo hA 23 10 (773, .aload_n 0, 1, 379, 0, [0], []) rfl rfl rfl ?_
  refine bGo hA 23 11 (774, .sipush (128), 3, 380, 0, [], [(128, 0)]) rfl rfl rfl ?_
  refine bEqI bl_128 ?_
  refine bGo hA 23 12 (777, .newarray .int, 2, 381, 0, [150], []) rfl rfl rfl ?_
  refine ⟨(h.2.2.2.2.2.2.2.2.2.2.2 _ rfl).2.2.2.1, (bn_nat 128), by decide, (by decide : 128 ≤ 10000), ?_⟩
  refine bGo hA 23 13 (779, .putfield 293, 3, 382, 0, [12, 108, 3, 150, 1, 0], []) rfl rfl rfl ?_
  refine ⟨rfl, rfl, ?_⟩
  refine bGo hA 23 14 (782, .aload_n 0, 1, 383, 0, [0], []) rfl rfl rfl ?_
  refine bGo hA 23 15 (783, .bipush (64), 2, 384, 0, [], [(64, 0)]) rfl rfl rfl ?_
  refine bEqI bl_64 ?_
  refine bGo hA 24 0 (785, .newarray .int, 2, 385, 0, [151], []) rfl rfl rfl ?_
  refine ⟨(h.2.2.2.2.2.2.2.2.2.2.2 _ rfl).2.2.2.2.1, (bn_nat 64), by decide, (by decide : 64 ≤ 10000), ?_⟩
  refine bGo hA 24 1 (787, .putfield 296, 3, 386, 0, [12, 109, 3, 151, 1, 0], []) rfl rfl rfl ?_
  refine ⟨rfl, rfl, ?_⟩
  refine bGo hA 24 2 (790, .aload_n 0, 1, 387, 0, [0], []) rfl rfl rfl ?_
  refine bGo hA 24 3 (791, .sipush (2048), 3, 388, 0, [], [(2048, 0)]) rfl rfl rfl ?_
  refine bEqI bl_2048 ?_
  refine bGo hA 24 4 (794, .newarray .int, 2, 389, 0, [152], []) rfl rfl rfl ?_
  refine ⟨(h.2.2.2.2.2.2.2.2.2.2.2 _ rfl).2.2.2.2.2.1, (bn_nat 2048), by decide, (by decide : 2048 ≤ 10000), ?_⟩
  refine bGo hA 24 5 (796, .putfield 299, 3, 390, 0, [12, 110, 3, 152, 1, 0], []) rfl rfl rfl ?_
  refine ⟨rfl, rfl, ?_⟩
  refine bGo hA 24 6 (799, .aload_n 0, 1, 391, 0, [0], []) rfl rfl rfl ?_
  refine bGo hA 24 7 (800, .bipush (16), 2, 392, 0, [], [(16, 0)]) rfl rfl rfl ?_
  refine bEqI bl_16 ?_
  refine bGo hA 24 8 (802, .newarray .int, 2, 393, 0, [153], []) rfl rfl rfl ?_
  refine ⟨(h.2.2.2.2.2.2.2.2.2.2.2 _ rfl).2.2.2.2.2.2.1, (bn_nat 16), by decide, (by decide : 16 ≤ 10000), ?_⟩
  refine bGo hA 24 9 (804, .putfield 302, 3, 394, 0, [12, 113, 3, 153, 1, 0], []) rfl rfl rfl ?_
  refine ⟨rfl, rfl, ?_⟩
  refine bGo hA 24 10 (807, .iconst (0), 1, 395, 0, [], [(0, 0)]) rfl rfl rfl ?_
  refine bEqI bl_0 ?_
  refine bGo hA 24 11 (808, .istore_n 1, 1, 396, 0, [1], []) rfl rfl rfl ?_
  exact (h.2.2.2.2.2.2.2.2.2.2.2 _ rfl).2.2.2.2.2.2.2

theorem sq195_396 {lvl : Nat} {C : bCall} {Q : bPost} {A : bPt → Prop} (hC : bMono C) (hA : bClosed lvl bm195 C Q A) {l1 : Int} {σ : bSt}  (h_l1 : bRg l1)
  (h : ((l1 < 48 → ((br σ 12 1).isSome = true ∧ ((0 ≤ l1 ∧ l1 < 48) ∧ (bRg (l1 + 1) ∧ A (396, [.retAddr 12, .int (bn (l1 + 1))], [], (bw σ 56 l1 (-1))))))) ∧ (¬ l1 < 48 → ((br σ 12 2).isSome = true ∧ A (422, [.retAddr 12, .int (bn 0)], [], (bw (bw (bw (bw σ 57 0 1) 12 68 1) 12 87 1) 12 88 2)))))) : A (396, [.retAddr 12, .int (bn l1)], [], σ) := by
  refine bGo hA 24 12 (809, .iload_n 1, 1, 397, 0, [1], []) rfl rfl rfl ?_
  refine bGo hA 24 13 (810, .bipush (48), 2, 398, 0, [], [(48, 0)]) rfl rfl rfl ?_
  refine bEqI bl_48 ?_
  refine bGo hA 24 14 (812, .if_icmp .ge (16), 3, 399, 406, [], []) rfl rfl rfl ?_
  refine bB_lt (x := l1) (y := 48) h_l1 (by decide : bRg 48) (fun c1 => ?_) (fun c1 => ?_)
  · refine bGo hA 24 15 (815, .aload_n 0, 1, 400, 0, [0], []) rfl rfl rfl ?_
    refine bGo hA 25 0 (816, .getfield 7, 3, 401, 0, [12, 1, 3, 56, 1, 0], []) rfl rfl rfl ?_
    refine ⟨rfl, (h.1 c1).1, ?_⟩
    refine bGo hA 25 1 (819, .iload_n 1, 1, 402, 0, [1], []) rfl rfl rfl ?_
    refine bGo hA 25 2 (820, .iconst (-1), 1, 403, 0, [], [(-1, 0)]) rfl rfl rfl ?_
    refine bEqI bl_m1 ?_
    refine bGo hA 25 3 (821, .iastore, 1, 404, 0, [], []) rfl rfl rfl ?_
    refine ⟨rfl, (bIxP (x := l1) (n := 48) h_l1 (h.1 c1).2.1), by decide, ?_⟩
    refine bEqS (x := l1) h_l1 ?_
    refine bGo hA 25 4 (822, .iinc 1 (1), 3, 405, 0, [1], [(1, 0)]) rfl rfl rfl ?_
    refine bEqC (fun v => A (405, [.retAddr 12, .int v], [], (bw σ 56 l1 (-1)))) ((congrArg (fun w => bn l1 + w) bl_1).trans (bn_add l1 1)) ?_
    refine bGo hA 25 5 (825, .goto (-16), 3, 406, 396, [], []) rfl rfl rfl ?_
    exact (h.1 c1).2.2.2
  · refine bGo hA 25 6 (828, .aload_n 0, 1, 407, 0, [0], []) rfl rfl rfl ?_
    refine bGo hA 25 7 (829, .getfield 13, 3, 408, 0, [12, 2, 3, 57, 1, 0], []) rfl rfl rfl ?_
    refine ⟨rfl, (h.2 c1).1, ?_⟩
    refine bGo hA 25 8 (832, .iconst (0), 1, 409, 0, [], [(0, 0)]) rfl rfl rfl ?_
    refine bEqI bl_0 ?_
    refine bGo hA 25 9 (833, .iconst (1), 1, 410, 0, [], [(1, 0)]) rfl rfl rfl ?_
    refine bEqI bl_1 ?_
    refine bGo hA 25 10 (834, .bastore, 1, 411, 0, [], []) rfl rfl rfl ?_
    refine ⟨rfl, (bIxP (x := 0) (n := 6) (by decide) (by decide)), by decide, b01 (Or.inr rfl), ?_⟩
    refine bEqS (x := 0) (by decide : bRg 0) ?_
    refine bGo hA 25 11 (835, .aload_n 0, 1, 412, 0, [0], []) rfl rfl rfl ?_
    refine bGo hA 25 12 (836, .iconst (1), 1, 413, 0, [], [(1, 0)]) rfl rfl rfl ?_
    refine bEqI bl_1 ?_
    refine bGo hA 25 13 (837, .putfield 305, 3, 414, 0, [12, 68, 1, 0, 0, 0], []) rfl rfl rfl ?_
    refine ⟨rfl, b01 (Or.inr rfl), ?_⟩
    refine bGo hA 25 14 (840, .aload_n 0, 1, 415, 0, [0], []) rfl rfl rfl ?_
    refine bGo hA 25 15 (841, .iconst (1), 1, 416, 0, [], [(1, 0)]) rfl rfl rfl ?_
    refine bEqI bl_1 ?_
    refine bGo hA 26 0 (842, .putfield 309, 3, 417, 0, [12, 87, 1, 0, 0, 0], []) rfl rfl rfl ?_
    refine ⟨rfl, b01 (Or.inr rfl), ?_⟩
    refine bGo hA 26 1 (845, .aload_n 0, 1, 418, 0, [0], []) rfl rfl rfl ?_
    refine bGo hA 26 2 (846, .iconst (2), 1, 419, 0, [], [(2, 0)]) rfl rfl rfl ?_
    refine bEqI bl_2 ?_
    refine bGo hA 26 3 (847, .putfield 312, 3, 420, 0, [12, 88, 0, 0, 0, 0], []) rfl rfl rfl ?_
    refine ⟨rfl, ?_⟩
    refine bGo hA 26 4 (850, .iconst (0), 1, 421, 0, [], [(0, 0)]) rfl rfl rfl ?_
    refine bEqI bl_0 ?_
    refine bGo hA 26 5 (851, .istore_n 1, 1, 422, 0, [1], []) rfl rfl rfl ?_
    exact (h.2 c1).2

theorem sq195_422 {lvl : Nat} {C : bCall} {Q : bPost} {A : bPt → Prop} (hC : bMono C) (hA : bClosed lvl bm195 C Q A) {l1 : Int} {σ : bSt}  (h_l1 : bRg l1)
  (h : ((l1 < 3 → ((br σ 12 91).isSome = true ∧ ((0 ≤ l1 ∧ l1 < 3) ∧ (bRg (l1 + 1) ∧ A (422, [.retAddr 12, .int (bn (l1 + 1))], [], (bw σ 136 l1 1)))))) ∧ (¬ l1 < 3 → A (434, [.retAddr 12, .int (bn 0)], [], σ)))) : A (422, [.retAddr 12, .int (bn l1)], [], σ) := by
  refine bGo hA 26 6 (852, .iload_n 1, 1, 423, 0, [1], []) rfl rfl rfl ?_
  refine bGo hA 26 7 (853, .iconst (3), 1, 424, 0, [], [(3, 0)]) rfl rfl rfl ?_
  refine bEqI bl_3 ?_
  refine bGo hA 26 8 (854, .if_icmp .ge (16), 3, 425, 432, [], []) rfl rfl rfl ?_
  refine bB_lt (x := l1) (y := 3) h_l1 (by decide : bRg 3) (fun c1 => ?_) (fun c1 => ?_)
  · refine bGo hA 26 9 (857, .aload_n 0, 1, 426, 0, [0], []) rfl rfl rfl ?_
    refine bGo hA 26 10 (858, .getfield 251, 3, 427, 0, [12, 91, 3, 136, 1, 0], []) rfl rfl rfl ?_
    refine ⟨rfl, (h.1 c1).1, ?_⟩
    refine bGo hA 26 11 (861, .iload_n 1, 1, 428, 0, [1], []) rfl rfl rfl ?_
    refine bGo hA 26 12 (862, .iconst (1), 1, 429, 0, [], [(1, 0)]) rfl rfl rfl ?_
    refine bEqI bl_1 ?_
    refine bGo hA 26 13 (863, .iastore, 1, 430, 0, [], []) rfl rfl rfl ?_
    refine ⟨rfl, (bIxP (x := l1) (n := 3) h_l1 (h.1 c1).2.1), by decide, ?_⟩
    refine bEqS (x := l1) h_l1 ?_
    refine bGo hA 26 14 (864, .iinc 1 (1), 3, 431, 0, [1], [(1, 0)]) rfl rfl rfl ?_
    refine bEqC (fun v => A (431, [.retAddr 12, .int v], [], (bw σ 136 l1 1))) ((congrArg (fun w => bn l1 + w) bl_1).trans (bn_add l1 1)) ?_
    refine bGo hA 26 15 (867, .goto (-15), 3, 432, 422, [], []) rfl rfl rfl ?_
    exact (h.1 c1).2.2.2
  · refine bGo hA 27 0 (870, .iconst (0), 1, 433, 0, [], [(0, 0)]) rfl rfl rfl ?_
    refine bEqI bl_0 ?_
    refine bGo hA 27 1 (871, .istore_n 1, 1, 434, 0, [1], []) rfl rfl rfl ?_
    exact (h.2 c1)

theorem sq195_434 {lvl : Nat} {C : bCall} {Q : bPost} {A : bPt → Prop} (hC : bMono C) (hA : bClosed lvl bm195 C Q A) {l1 : Int} {σ : bSt}  (h_l1 : bRg l1)
  (h : ((l1 < 12 → ((br σ 12 92).isSome = true ∧ ((0 ≤ l1 ∧ l1 < 12) ∧ (bRg (l1 + 1) ∧ A (434, [.retAddr 12, .int (bn (l1 + 1))], [], (bw σ 137 l1 (-1))))))) ∧ (¬ l1 < 12 → A (446, [.retAddr 12, .int (bn 0)], [], σ)))) : A (434, [.retAddr 12, .int (bn l1)], [], σ) := by
  refine bGo hA 27 2 (872, .iload_n 1, 1, 435, 0, [1], []) rfl rfl rfl ?_
  refine bGo hA 27 3 (873, .bipush (12), 2, 436, 0, [], [(12, 0)]) rfl rfl rfl ?_
  refine bEqI bl_12 ?_
  refine bGo hA 27 4 (875, .if_icmp .ge (16), 3, 437, 444, [], []) rfl rfl rfl ?_
  refine bB_lt (x := l1) (y := 12) h_l1 (by decide : bRg 12) (fun c1 => ?_) (fun c1 => ?_)
  · refine bGo hA 27 5 (878, .aload_n 0, 1, 438, 0, [0], []) rfl rfl rfl ?_
    refine bGo hA 27 6 (879, .getfield 254, 3, 439, 0, [12, 92, 3, 137, 1, 0], []) rfl rfl rfl ?_
    refine ⟨rfl, (h.1 c1).1, ?_⟩
    refine bGo hA 27 7 (882, .iload_n 1, 1, 440, 0, [1], []) rfl rfl rfl ?_
    refine bGo hA 27 8 (883, .iconst (-1), 1, 441, 0, [], [(-1, 0)]) rfl rfl rfl ?_
    refine bEqI bl_m1 ?_
    refine bGo hA 27 9 (884, .iastore, 1, 442, 0, [], []) rfl rfl rfl ?_
    refine ⟨rfl, (bIxP (x := l1) (n := 12) h_l1 (h.1 c1).2.1), by decide, ?_⟩
    refine bEqS (x := l1) h_l1 ?_
    refine bGo hA 27 10 (885, .iinc 1 (1), 3, 443, 0, [1], [(1, 0)]) rfl rfl rfl ?_
    refine bEqC (fun v => A (443, [.retAddr 12, .int v], [], (bw σ 137 l1 (-1)))) ((congrArg (fun w => bn l1 + w) bl_1).trans (bn_add l1 1)) ?_
    refine bGo hA 27 11 (888, .goto (-16), 3, 444, 434, [], []) rfl rfl rfl ?_
    exact (h.1 c1).2.2.2
  · refine bGo hA 27 12 (891, .iconst (0), 1, 445, 0, [], [(0, 0)]) rfl rfl rfl ?_
    refine bEqI bl_0 ?_
    refine bGo hA 27 13 (892, .istore_n 1, 1, 446, 0, [1], []) rfl rfl rfl ?_
    exact (h.2 c1)

theorem sq195_446 {lvl : Nat} {C : bCall} {Q : bPost} {A : bPt → Prop} (hC : bMono C) (hA : bClosed lvl bm195 C Q A) {l1 : Int} {σ : bSt}  (h_l1 : bRg l1)
  (h : ((l1 < 64 → ((br σ 12 109).isSome = true ∧ ((0 ≤ l1 ∧ l1 < 64) ∧ (bRg (l1 + 1) ∧ A (446, [.retAddr 12, .int (bn (l1 + 1))], [], (bw σ 151 l1 (-1))))))) ∧ (¬ l1 < 64 → (bAll (bw (bw σ 12 95 (-1)) 12 112 1) 12 [1, 2, 3, 4, 5, 6, 8, 9, 10, 11, 12, 13, 14, 15, 16, 18, 19, 20, 21, 23, 24, 25, 26, 27, 28, 29, 30, 31, 32, 33, 34, 35, 36, 37, 38, 39, 40, 41, 42, 43, 44, 45, 46, 47, 48, 50, 51, 52, 53, 54, 55, 56, 57, 58, 59, 60, 61, 62, 63, 64, 65, 66, 67, 69, 71, 74, 75, 76, 77, 78, 79, 80, 81, 82, 83, 84, 85, 86, 89, 90, 91, 92, 93, 94, 96, 97, 98, 99, 100, 101, 102, 103, 104, 107, 108, 109, 110, 113] ∧ Q (.inl none) (bA (bw (bw σ 12 95 (-1)) 12 112 1) 12 2))))) : A (446, [.retAddr 12, .int (bn l1)], [], σ) := by
  refine bGo hA 27 14 (893, .iload_n 1, 1, 447, 0, [1], []) rfl rfl rfl ?_
  refine bGo hA 27 15 (894, .bipush (64), 2, 448, 0, [], [(64, 0)]) rfl rfl rfl ?_
  refine bEqI bl_64 ?_
  refine bGo hA 28 0 (896, .if_icmp .ge (16), 3, 449, 456, [], []) rfl rfl rfl ?_
  refine bB_lt (x := l1) (y := 64) h_l1 (by decide : bRg 64) (fun c1 => ?_) (fun c1 => ?_)
  · refine bGo hA 28 1 (899, .aload_n 0, 1, 450, 0, [0], []) rfl rfl rfl ?_
    refine bGo hA 28 2 (900, .getfield 296, 3, 451, 0, [12, 109, 3, 151, 1, 0], []) rfl rfl rfl ?_
    refine ⟨rfl, (h.1 c1).1, ?_⟩
    refine bGo hA 28 3 (903, .iload_n 1, 1, 452, 0, [1], []) rfl rfl rfl ?_
    refine bGo hA 28 4 (904, .iconst (-1), 1, 453, 0, [], [(-1, 0)]) rfl rfl rfl ?_
    refine bEqI bl_m1 ?_
    refine bGo hA 28 5 (905, .iastore, 1, 454, 0, [], []) rfl rfl rfl ?_
    refine ⟨rfl, (bIxP (x := l1) (n := 64) h_l1 (h.1 c1).2.1), by decide, ?_⟩
    refine bEqS (x := l1) h_l1 ?_
    refine bGo hA 28 6 (906, .iinc 1 (1), 3, 455, 0, [1], [(1, 0)]) rfl rfl rfl ?_
    refine bEqC (fun v => A (455, [.retAddr 12, .int v], [], (bw σ 151 l1 (-1)))) ((congrArg (fun w => bn l1 + w) bl_1).trans (bn_add l1 1)) ?_
    refine bGo hA 28 7 (909, .goto (-16), 3, 456, 446, [], []) rfl rfl rfl ?_
    exact (h.1 c1).2.2.2
  · refine bGo hA 28 8 (912, .aload_n 0, 1, 457, 0, [0], []) rfl rfl rfl ?_
    refine bGo hA 28 9 (913, .iconst (-1), 1, 458, 0, [], [(-1, 0)]) rfl rfl rfl ?_
    refine bEqI bl_m1 ?_
    refine bGo hA 28 10 (914, .putfield 316, 3, 459, 0, [12, 95, 0, 0, 0, 0], []) rfl rfl rfl ?_
    refine ⟨rfl, ?_⟩
    refine bGo hA 28 11 (917, .aload_n 0, 1, 460, 0, [0], []) rfl rfl rfl ?_
    refine bGo hA 28 12 (918, .iconst (1), 1, 461, 0, [], [(1, 0)]) rfl rfl rfl ?_
    refine bEqI bl_1 ?_
    refine bGo hA 28 13 (919, .putfield 319, 3, 462, 0, [12, 112, 0, 0, 0, 0], []) rfl rfl rfl ?_
    refine ⟨rfl, ?_⟩
    refine bGo hA 28 14 (922, .return_, 1, 0, 0, [5, 12, 1, 2, 3, 4, 5, 6, 8, 9, 10, 11, 12, 13, 14, 15, 16, 18, 19, 20, 21, 23, 24, 25, 26, 27, 28, 29, 30, 31, 32, 33, 34, 35, 36, 37, 38, 39, 40, 41, 42, 43, 44, 45, 46, 47, 48, 50, 51, 52, 53, 54, 55, 56, 57, 58, 59, 60, 61, 62, 63, 64, 65, 66, 67, 69, 71, 74, 75, 76, 77, 78, 79, 80, 81, 82, 83, 84, 85, 86, 89, 90, 91, 92, 93, 94, 96, 97, 98, 99, 100, 101, 102, 103, 104, 107, 108, 109, 110, 113], []) rfl rfl rfl ?_
    exact ⟨rfl, (h.2 c1)⟩


/-! segments of methods 357, by program (wip/whole/gen8.py): from a cut of a method on to the next cuts -/
theorem sq357_0 {lvl : Nat} {C : bCall} {Q : bPost} {A : bPt → Prop} (hC : bMono C) (hA : bClosed lvl bm357 C Q A)  {σ : bSt}  
  (h : (σ.2.2.2.1 11 = 0 ∧ (C 135 [.retAddr 11] (bNew σ 11 1 8) (bRv (fun s1 => (s1.2.2.2.1 11 = 2 ∧ (s1.2.2.2.1 12 = 0 ∧ (C 195 [.retAddr 12] (bNew s1 12 1 114) (bRv (fun s3 => (s3.2.2.2.1 12 = 2 ∧ (s3.2.2.2.1 154 = 0 ∧ A (13, [.ref 200, .ref 11, .ref 12, .ref 154, .int (bn 0), .float 0, .float 0, .float 0], [], (bNew s3 154 2 1)))))))))))))) : A (0, [.ref 200, .float 0, .float 0, .float 0, .float 0, .float 0, .float 0, .float 0], [], σ) := by
  refine bGo hA 0 0 (0, .new 8, 3, 1, 0, [0, 11, 8, 0, 0], []) rfl rfl rfl ?_
  refine ⟨h.1, ?_⟩
  refine bGo hA 0 1 (3, .dup, 1, 2, 0, [], []) rfl rfl rfl ?_
  refine bGo hA 0 2 (4, .invokespecial 158, 3, 3, 0, [4, 11, 135, 0], []) rfl rfl rfl ?_
  refine ⟨rfl, rfl, ?_⟩
  refine hC _ _ _ _ _ (bRv_e (fun s1 k2 => ?_)) h.2
  refine ⟨⟨rfl, k2.1⟩, ?_⟩
  show A (3, [.ref 200, .float 0, .float 0, .float 0, .float 0, .float 0, .float 0, .float 0], [.ref 11], s1)
  refine bGo hA 0 3 (7, .astore_n 1, 1, 4, 0, [1], []) rfl rfl rfl ?_
  refine bGo hA 0 4 (8, .new 159, 3, 5, 0, [0, 12, 114, 0, 0], []) rfl rfl rfl ?_
  refine ⟨k2.2.1, ?_⟩
  refine bGo hA 0 5 (11, .dup, 1, 6, 0, [], []) rfl rfl rfl ?_
  refine bGo hA 0 6 (12, .invokespecial 161, 3, 7, 0, [4, 12, 195, 0], []) rfl rfl rfl ?_
  refine ⟨rfl, rfl, ?_⟩
  refine hC _ _ _ _ _ (bRv_e (fun s3 k4 => ?_)) k2.2.2
  refine ⟨⟨rfl, k4.1⟩, ?_⟩
  show A (7, [.ref 200, .ref 11, .float 0, .float 0, .float 0, .float 0, .float 0, .float 0], [.ref 12], s3)
  refine bGo hA 0 7 (15, .astore_n 2, 1, 8, 0, [2], []) rfl rfl rfl ?_
  refine bGo hA 0 8 (16, .iconst (1), 1, 9, 0, [], [(1, 0)]) rfl rfl rfl ?_
  refine bEqI bl_1 ?_
  refine bGo hA 0 9 (17, .newarray .long, 2, 10, 0, [154], []) rfl rfl rfl ?_
  refine ⟨k4.2.1, (bn_nat 1), by decide, (by decide : 1 ≤ 10000), ?_⟩
  refine bGo hA 0 10 (19, .astore_n 3, 1, 11, 0, [3], []) rfl rfl rfl ?_
  refine bGo hA 0 11 (20, .iconst (0), 1, 12, 0, [], [(0, 0)]) rfl rfl rfl ?_
  refine bEqI bl_0 ?_
  refine bGo hA 0 12 (21, .istore 4, 2, 13, 0, [4], []) rfl rfl rfl ?_
  exact k4.2.2

theorem sq357_13 {lvl : Nat} {C : bCall} {Q : bPost} {A : bPt → Prop} (hC : bMono C) (hA : bClosed lvl bm357 C Q A) {l4 : Int} {v5 : Value} {v6 : Value} {v7 : Value} {σ : bSt}  (h_l4 : bRg l4)
  (h : (bRg (bLen σ 200 : Int) ∧ (bRg ((bLen σ 200 : Int) - 6) ∧ ((((bLen σ 200 : Int) - 6) < l4 → Q (.inl (some (.int (bn 1)))) σ) ∧ (¬ ((bLen σ 200 : Int) - 6) < l4 → ((0 ≤ l4 ∧ l4 < (bLen σ 200 : Int)) ∧ (((bAnd (bi σ 200 l4) 63) = 0 → A (25, [.ref 200, .ref 11, .ref 12, .ref 154, .int (bn l4), v5, v6, v7], [], σ)) ∧ (¬ (bAnd (bi σ 200 l4) 63) = 0 → (((bAnd (bi σ 200 l4) 63) = 1 → A (70, [.ref 200, .ref 11, .ref 12, .ref 154, .int (bn l4), v5, v6, v7], [], σ)) ∧ (¬ (bAnd (bi σ 200 l4) 63) = 1 → (((bAnd (bi σ 200 l4) 63) = 2 → A (105, [.ref 200, .ref 11, .ref 12, .ref 154, .int (bn l4), v5, v6, v7], [], σ)) ∧ (¬ (bAnd (bi σ 200 l4) 63) = 2 → (((bAnd (bi σ 200 l4) 63) = 3 → A (161, [.ref 200, .ref 11, .ref 12, .ref 154, .int (bn l4), v5, v6, v7], [], σ)) ∧ (¬ (bAnd (bi σ 200 l4) 63) = 3 → (((bAnd (bi σ 200 l4) 63) = 4 → A (196, [.ref 200, .ref 11, .ref 12, .ref 154, .int (bn l4), v5, v6, v7], [], σ)) ∧ (¬ (bAnd (bi σ 200 l4) 63) = 4 → (((bAnd (bi σ 200 l4) 63) = 5 → A (258, [.ref 200, .ref 11, .ref 12, .ref 154, .int (bn l4), v5, v6, v7], [], σ)) ∧ (¬ (bAnd (bi σ 200 l4) 63) = 5 → (((bAnd (bi σ 200 l4) 63) = 6 → A (333, [.ref 200, .ref 11, .ref 12, .ref 154, .int (bn l4), v5, v6, v7], [], σ)) ∧ (¬ (bAnd (bi σ 200 l4) 63) = 6 → (((bAnd (bi σ 200 l4) 63) = 7 → A (378, [.ref 200, .ref 11, .ref 12, .ref 154, .int (bn l4), v5, v6, v7], [], σ)) ∧ (¬ (bAnd (bi σ 200 l4) 63) = 7 → (((bAnd (bi σ 200 l4) 63) = 8 → A (423, [.ref 200, .ref 11, .ref 12, .ref 154, .int (bn l4), v5, v6, v7], [], σ)) ∧ (¬ (bAnd (bi σ 200 l4) 63) = 8 → (((bAnd (bi σ 200 l4) 63) = 9 → A (478, [.ref 200, .ref 11, .ref 12, .ref 154, .int (bn l4), v5, v6, v7], [], σ)) ∧ (¬ (bAnd (bi σ 200 l4) 63) = 9 → (((bAnd (bi σ 200 l4) 63) = 10 → A (523, [.ref 200, .ref 11, .ref 12, .ref 154, .int (bn l4), v5, v6, v7], [], σ)) ∧ (¬ (bAnd (bi σ 200 l4) 63) = 10 → (((bAnd (bi σ 200 l4) 63) = 11 → A (568, [.ref 200, .ref 11, .ref 12, .ref 154, .int (bn l4), v5, v6, v7], [], σ)) ∧ (¬ (bAnd (bi σ 200 l4) 63) = 11 → (((bAnd (bi σ 200 l4) 63) = 12 → A (633, [.ref 200, .ref 11, .ref 12, .ref 154, .int (bn l4), v5, v6, v7], [], σ)) ∧ (¬ (bAnd (bi σ 200 l4) 63) = 12 → (((bAnd (bi σ 200 l4) 63) = 13 → A (668, [.ref 200, .ref 11, .ref 12, .ref 154, .int (bn l4), v5, v6, v7], [], σ)) ∧ (¬ (bAnd (bi σ 200 l4) 63) = 13 → (((bAnd (bi σ 200 l4) 63) = 14 → A (723, [.ref 200, .ref 11, .ref 12, .ref 154, .int (bn l4), v5, v6, v7], [], σ)) ∧ (¬ (bAnd (bi σ 200 l4) 63) = 14 → (((bAnd (bi σ 200 l4) 63) = 15 → A (765, [.ref 200, .ref 11, .ref 12, .ref 154, .int (bn l4), v5, v6, v7], [], σ)) ∧ (¬ (bAnd (bi σ 200 l4) 63) = 15 → (((bAnd (bi σ 200 l4) 63) = 16 → A (830, [.ref 200, .ref 11, .ref 12, .ref 154, .int (bn l4), v5, v6, v7], [], σ)) ∧ (¬ (bAnd (bi σ 200 l4) 63) = 16 → (((bAnd (bi σ 200 l4) 63) = 17 → A (875, [.ref 200, .ref 11, .ref 12, .ref 154, .int (bn l4), v5, v6, v7], [], σ)) ∧ (¬ (bAnd (bi σ 200 l4) 63) = 17 → (((bAnd (bi σ 200 l4) 63) = 18 → A (938, [.ref 200, .ref 11, .ref 12, .ref 154, .int (bn l4), v5, v6, v7], [], σ)) ∧ (¬ (bAnd (bi σ 200 l4) 63) = 18 → (((bAnd (bi σ 200 l4) 63) = 19 → A (983, [.ref 200, .ref 11, .ref 12, .ref 154, .int (bn l4), v5, v6, v7], [], σ)) ∧ (¬ (bAnd (bi σ 200 l4) 63) = 19 → (((bAnd (bi σ 200 l4) 63) = 20 → A (1018, [.ref 200, .ref 11, .ref 12, .ref 154, .int (bn l4), v5, v6, v7], [], σ)) ∧ (¬ (bAnd (bi σ 200 l4) 63) = 20 → (((bAnd (bi σ 200 l4) 63) = 21 → A (1063, [.ref 200, .ref 11, .ref 12, .ref 154, .int (bn l4), v5, v6, v7], [], σ)) ∧ (¬ (bAnd (bi σ 200 l4) 63) = 21 → (((bAnd (bi σ 200 l4) 63) = 22 → A (1105, [.ref 200, .ref 11, .ref 12, .ref 154, .int (bn l4), v5, v6, v7], [], σ)) ∧ (¬ (bAnd (bi σ 200 l4) 63) = 22 → (((bAnd (bi σ 200 l4) 63) = 23 → A (1165, [.ref 200, .ref 11, .ref 12, .ref 154, .int (bn l4), v5, v6, v7], [], σ)) ∧ (¬ (bAnd (bi σ 200 l4) 63) = 23 → (((bAnd (bi σ 200 l4) 63) = 24 → A (1207, [.ref 200, .ref 11, .ref 12, .ref 154, .int (bn l4), v5, v6, v7], [], σ)) ∧ (¬ (bAnd (bi σ 200 l4) 63) = 24 → (((bAnd (bi σ 200 l4) 63) = 25 → A (1252, [.ref 200, .ref 11, .ref 12, .ref 154, .int (bn l4), v5, v6, v7], [], σ)) ∧ (¬ (bAnd (bi σ 200 l4) 63) = 25 → (((bAnd (bi σ 200 l4) 63) = 26 → A (1297, [.ref 200, .ref 11, .ref 12, .ref 154, .int (bn l4), v5, v6, v7], [], σ)) ∧ (¬ (bAnd (bi σ 200 l4) 63) = 26 → (((bAnd (bi σ 200 l4) 63) = 27 → A (1322, [.ref 200, .ref 11, .ref 12, .ref 154, .int (bn l4), v5, v6, v7], [], σ)) ∧ (¬ (bAnd (bi σ 200 l4) 63) = 27 → (((bAnd (bi σ 200 l4) 63) = 28 → A (1378, [.ref 200, .ref 11, .ref 12, .ref 154, .int (bn l4), v5, v6, v7], [], σ)) ∧ (¬ (bAnd (bi σ 200 l4) 63) = 28 → (((bAnd (bi σ 200 l4) 63) = 29 → A (1416, [.ref 200, .ref 11, .ref 12, .ref 154, .int (bn l4), v5, v6, v7], [], σ)) ∧ (¬ (bAnd (bi σ 200 l4) 63) = 29 → (((bAnd (bi σ 200 l4) 63) = 30 → A (1441, [.ref 200, .ref 11, .ref 12, .ref 154, .int (bn l4), v5, v6, v7], [], σ)) ∧ (¬ (bAnd (bi σ 200 l4) 63) = 30 → (((bAnd (bi σ 200 l4) 63) = 31 → A (1466, [.ref 200, .ref 11, .ref 12, .ref 154, .int (bn l4), v5, v6, v7], [], σ)) ∧ (¬ (bAnd (bi σ 200 l4) 63) = 31 → (((bAnd (bi σ 200 l4) 63) = 32 → A (1529, [.ref 200, .ref 11, .ref 12, .ref 154, .int (bn l4), v5, v6, v7], [], σ)) ∧ (¬ (bAnd (bi σ 200 l4) 63) = 32 → (((bAnd (bi σ 200 l4) 63) = 33 → A (1564, [.ref 200, .ref 11, .ref 12, .ref 154, .int (bn l4), v5, v6, v7], [], σ)) ∧ (¬ (bAnd (bi σ 200 l4) 63) = 33 → (((bAnd (bi σ 200 l4) 63) = 34 → A (1571, [.ref 200, .ref 11, .ref 12, .ref 154, .int (bn l4), v5, v6, v7], [], σ)) ∧ (¬ (bAnd (bi σ 200 l4) 63) = 34 → (((bAnd (bi σ 200 l4) 63) = 35 → A (1606, [.ref 200, .ref 11, .ref 12, .ref 154, .int (bn l4), v5, v6, v7], [], σ)) ∧ (¬ (bAnd (bi σ 200 l4) 63) = 35 → (((bAnd (bi σ 200 l4) 63) = 36 → A (1613, [.ref 200, .ref 11, .ref 12, .ref 154, .int (bn l4), v5, v6, v7], [], σ)) ∧ (¬ (bAnd (bi σ 200 l4) 63) = 36 → (((bAnd (bi σ 200 l4) 63) = 37 → A (1648, [.ref 200, .ref 11, .ref 12, .ref 154, .int (bn l4), v5, v6, v7], [], σ)) ∧ (¬ (bAnd (bi σ 200 l4) 63) = 37 → (((bAnd (bi σ 200 l4) 63) = 38 → A (1693, [.ref 200, .ref 11, .ref 12, .ref 154, .int (bn l4), v5, v6, v7], [], σ)) ∧ (¬ (bAnd (bi σ 200 l4) 63) = 38 → (((bAnd (bi σ 200 l4) 63) = 39 → A (1738, [.ref 200, .ref 11, .ref 12, .ref 154, .int (bn l4), v5, v6, v7], [], σ)) ∧ (¬ (bAnd (bi σ 200 l4) 63) = 39 → (((bAnd (bi σ 200 l4) 63) = 40 → A (1783, [.ref 200, .ref 11, .ref 12, .ref 154, .int (bn l4), v5, v6, v7], [], σ)) ∧ (¬ (bAnd (bi σ 200 l4) 63) = 40 → (((bAnd (bi σ 200 l4) 63) = 41 → A (1818, [.ref 200, .ref 11, .ref 12, .ref 154, .int (bn l4), v5, v6, v7], [], σ)) ∧ (¬ (bAnd (bi σ 200 l4) 63) = 41 → (((bAnd (bi σ 200 l4) 63) = 42 → A (1853, [.ref 200, .ref 11, .ref 12, .ref 154, .int (bn l4), v5, v6, v7], [], σ)) ∧ (¬ (bAnd (bi σ 200 l4) 63) = 42 → (((bAnd (bi σ 200 l4) 63) = 43 → A (1888, [.ref 200, .ref 11, .ref 12, .ref 154, .int (bn l4), v5, v6, v7], [], σ)) ∧ (¬ (bAnd (bi σ 200 l4) 63) = 43 → (((bAnd (bi σ 200 l4) 63) = 44 → A (1933, [.ref 200, .ref 11, .ref 12, .ref 154, .int (bn l4), v5, v6, v7], [], σ)) ∧ (¬ (bAnd (bi σ 200 l4) 63) = 44 → (((bAnd (bi σ 200 l4) 63) = 45 → A (1940, [.ref 200, .ref 11, .ref 12, .ref 154, .int (bn l4), v5, v6, v7], [], σ)) ∧ (¬ (bAnd (bi σ 200 l4) 63) = 45 → (((bAnd (bi σ 200 l4) 63) = 46 → A (1962, [.ref 200, .ref 11, .ref 12, .ref 154, .int (bn l4), v5, v6, v7], [], σ)) ∧ (¬ (bAnd (bi σ 200 l4) 63) = 46 → (((bAnd (bi σ 200 l4) 63) = 47 → A (2017, [.ref 200, .ref 11, .ref 12, .ref 154, .int (bn l4), v5, v6, v7], [], σ)) ∧ (¬ (bAnd (bi σ 200 l4) 63) = 47 → (((bAnd (bi σ 200 l4) 63) = 48 → A (2062, [.ref 200, .ref 11, .ref 12, .ref 154, .int (bn l4), v5, v6, v7], [], σ)) ∧ (¬ (bAnd (bi σ 200 l4) 63) = 48 → (bRg (l4 + 6) ∧ A (13, [.ref 200, .ref 11, .ref 12, .ref 154, .int (bn (l4 + 6)), v5, v6, v7], [], σ)))))))))))))))))))))))))))))))))))))))))))))))))))))))))))))))))))))))))))))))))))))))))))))))))))))))))) : A (13, [.ref 200, .ref 11, .ref 12, .ref 154, .int (bn l4), v5, v6, v7], [], σ) := by
  refine bGo hA 0 13 (23, .iload 4, 2, 14, 0, [4], []) rfl rfl rfl ?_
  refine bGo hA 0 14 (25, .aload_n 0, 1, 15, 0, [0], []) rfl rfl rfl ?_
  refine bGo hA 0 15 (26, .arraylength, 1, 16, 0, [], []) rfl rfl rfl ?_
  refine ⟨by decide, ?_⟩
  refine bEqI (bn_nat _).symm ?_
  refine bGo hA 1 0 (27, .bipush (6), 2, 17, 0, [], [(6, 0)]) rfl rfl rfl ?_
  refine bEqI bl_6 ?_
  refine bGo hA 1 1 (29, .isub, 1, 18, 0, [], []) rfl rfl rfl ?_
  refine bEqI (bn_sub (bLen σ 200 : Int) 6) ?_
  refine bGo hA 1 2 (30, .if_icmp .gt (3390), 3, 19, 2099, [], []) rfl rfl rfl ?_
  refine bB_lt (x := ((bLen σ 200 : Int) - 6)) (y := l4) h.2.1 h_l4 (fun c1 => ?_) (fun c1 => ?_)
  · refine bGo hA 131 3 (3420, .iconst (1), 1, 2100, 0, [], [(1, 0)]) rfl rfl rfl ?_
    refine bEqI bl_1 ?_
    refine bGo hA 131 4 (3421, .ireturn, 1, 0, 0, [2], []) rfl rfl rfl ?_
    exact ⟨b01 (Or.inr rfl), (h.2.2.1 c1)⟩
  · refine bGo hA 1 3 (33, .aload_n 0, 1, 20, 0, [0], []) rfl rfl rfl ?_
    refine bGo hA 1 4 (34, .iload 4, 2, 21, 0, [4], []) rfl rfl rfl ?_
    refine bGo hA 1 5 (36, .iaload, 1, 22, 0, [], []) rfl rfl rfl ?_
    refine ⟨rfl, (bIxP (x := l4) (n := bLen σ 200) h_l4 (h.2.2.2 c1).1), ?_⟩
    refine bEqL (x := l4) h_l4 ?_
    refine bGo hA 1 6 (37, .bipush (63), 2, 23, 0, [], [(63, 0)]) rfl rfl rfl ?_
    refine bEqI bl_63 ?_
    refine bGo hA 1 7 (39, .iand, 1, 24, 0, [], []) rfl rfl rfl ?_
    refine bEqI (bn_and (bi σ 200 l4) 63) ?_
    refine bGo hA 1 8 (40, .tableswitch (3374) (0) (48) #[212, 280, 336, 427, 483, 578, 682, 750, 818, 898, 966, 1034, 1126, 1182, 1262, 1322, 1414, 1482, 1578, 1646, 1702, 1770, 1830, 1918, 1978, 2046, 2114, 2155, 2246, 2309, 2350, 2391, 2487, 2543, 2556, 2612, 2625, 2681, 2749, 2817, 2885, 2941, 2997, 3053, 3121, 3134, 3170, 3250, 3318], 212, 25, 2097, [], [(0, 25), (1, 70), (2, 105), (3, 161), (4, 196), (5, 258), (6, 333), (7, 378), (8, 423), (9, 478), (10, 523), (11, 568), (12, 633), (13, 668), (14, 723), (15, 765), (16, 830), (17, 875), (18, 938), (19, 983), (20, 1018), (21, 1063), (22, 1105), (23, 1165), (24, 1207), (25, 1252), (26, 1297), (27, 1322), (28, 1378), (29, 1416), (30, 1441), (31, 1466), (32, 1529), (33, 1564), (34, 1571), (35, 1606), (36, 1613), (37, 1648), (38, 1693), (39, 1738), (40, 1783), (41, 1818), (42, 1853), (43, 1888), (44, 1933), (45, 1940), (46, 1962), (47, 2017), (48, 2062)]) rfl rfl rfl ?_
    refine bB_sw (x := (bAnd (bi σ 200 l4) 63)) (k := 0) bl_0 (bRgI _) (by decide) (fun c2 => ?_) (fun c2 => ?_)
    · exact ((h.2.2.2 c1).2.1 c2)
    · refine bB_sw (x := (bAnd (bi σ 200 l4) 63)) (k := 1) bl_1 (bRgI _) (by decide) (fun c3 => ?_) (fun c3 => ?_)
      · exact (((h.2.2.2 c1).2.2 c2).1 c3)
      · refine bB_sw (x := (bAnd (bi σ 200 l4) 63)) (k := 2) bl_2 (bRgI _) (by decide) (fun c4 => ?_) (fun c4 => ?_)
        · exact ((((h.2.2.2 c1).2.2 c2).2 c3).1 c4)
        · refine bB_sw (x := (bAnd (bi σ 200 l4) 63)) (k := 3) bl_3 (bRgI _) (by decide) (fun c5 => ?_) (fun c5 => ?_)
          · exact (((((h.2.2.2 c1).2.2 c2).2 c3).2 c4).1 c5)
          · refine bB_sw (x := (bAnd (bi σ 200 l4) 63)) (k := 4) bl_4 (bRgI _) (by decide) (fun c6 => ?_) (fun c6 => ?_)
            · exact ((((((h.2.2.2 c1).2.2 c2).2 c3).2 c4).2 c5).1 c6)
            · refine bB_sw (x := (bAnd (bi σ 200 l4) 63)) (k := 5) bl_5 (bRgI _) (by decide) (fun c7 => ?_) (fun c7 => ?_)
              · exact (((((((h.2.2.2 c1).2.2 c2).2 c3).2 c4).2 c5).2 c6).1 c7)
              · refine bB_sw (x := (bAnd (bi σ 200 l4) 63)) (k := 6) bl_6 (bRgI _) (by decide) (fun c8 => ?_) (fun c8 => ?_)
                · exact ((((((((h.2.2.2 c1).2.2 c2).2 c3).2 c4).2 c5).2 c6).2 c7).1 c8)
                · refine bB_sw (x := (bAnd (bi σ 200 l4) 63)) (k := 7) bl_7 (bRgI _) (by decide) (fun c9 => ?_) (fun c9 => ?_)
                  · exact (((((((((h.2.2.2 c1).2.2 c2).2 c3).2 c4).2 c5).2 c6).2 c7).2 c8).1 c9)
                  · refine bB_sw (x := (bAnd (bi σ 200 l4) 63)) (k := 8) bl_8 (bRgI _) (by decide) (fun c10 => ?_) (fun c10 => ?_)
                    · exact ((((((((((h.2.2.2 c1).2.2 c2).2 c3).2 c4).2 c5).2 c6).2 c7).2 c8).2 c9).1 c10)
                    · refine bB_sw (x := (bAnd (bi σ 200 l4) 63)) (k := 9) bl_9 (bRgI _) (by decide) (fun c11 => ?_) (fun c11 => ?_)
                      · exact (((((((((((h.2.2.2 c1).2.2 c2).2 c3).2 c4).2 c5).2 c6).2 c7).2 c8).2 c9).2 c10).1 c11)
                      · refine bB_sw (x := (bAnd (bi σ 200 l4) 63)) (k := 10) bl_10 (bRgI _) (by decide) (fun c12 => ?_) (fun c12 => ?_)
                        · exact ((((((((((((h.2.2.2 c1).2.2 c2).2 c3).2 c4).2 c5).2 c6).2 c7).2 c8).2 c9).2 c10).2 c11).1 c12)
                        · refine bB_sw (x := (bAnd (bi σ 200 l4) 63)) (k := 11) bl_11 (bRgI _) (by decide) (fun c13 => ?_) (fun c13 => ?_)
                          · exact (((((((((((((h.2.2.2 c1).2.2 c2).2 c3).2 c4).2 c5).2 c6).2 c7).2 c8).2 c9).2 c10).2 c11).2 c12).1 c13)
                          · refine bB_sw (x := (bAnd (bi σ 200 l4) 63)) (k := 12) bl_12 (bRgI _) (by decide) (fun c14 => ?_) (fun c14 => ?_)
                            · exact ((((((((((((((h.2.2.2 c1).2.2 c2).2 c3).2 c4).2 c5).2 c6).2 c7).2 c8).2 c9).2 c10).2 c11).2 c12).2 c13).1 c14)
                            · refine bB_sw (x := (bAnd (bi σ 200 l4) 63)) (k := 13) bl_13 (bRgI _) (by decide) (fun c15 => ?_) (fun c15 => ?_)
                              · exact (((((((((((((((h.2.2.2 c1).2.2 c2).2 c3).2 c4).2 c5).2 c6).2 c7).2 c8).2 c9).2 c10).2 c11).2 c12).2 c13).2 c14).1 c15)
                              · refine bB_sw (x := (bAnd (bi σ 200 l4) 63)) (k := 14) bl_14 (bRgI _) (by decide) (fun c16 => ?_) (fun c16 => ?_)
                                · exact ((((((((((((((((h.2.2.2 c1).2.2 c2).2 c3).2 c4).2 c5).2 c6).2 c7).2 c8).2 c9).2 c10).2 c11).2 c12).2 c13).2 c14).2 c15).1 c16)
                                · refine bB_sw (x := (bAnd (bi σ 200 l4) 63)) (k := 15) bl_15 (bRgI _) (by decide) (fun c17 => ?_) (fun c17 => ?_)
                                  · exact (((((((((((((((((h.2.2.2 c1).2.2 c2).2 c3).2 c4).2 c5).2 c6).2 c7).2 c8).2 c9).2 c10).2 c11).2 c12).2 c13).2 c14).2 c15).2 c16).1 c17)
                                  · refine bB_sw (x := (bAnd (bi σ 200 l4) 63)) (k := 16) bl_16 (bRgI _) (by decide) (fun c18 => ?_) (fun c18 => ?_)
                                    · exact ((((((((((((((((((h.2.2.2 c1).2.2 c2).2 c3).2 c4).2 c5).2 c6).2 c7).2 c8).2 c9).2 c10).2 c11).2 c12).2 c13).2 c14).2 c15).2 c16).2 c17).1 c18)
                                    · refine bB_sw (x := (bAnd (bi σ 200 l4) 63)) (k := 17) bl_17 (bRgI _) (by decide) (fun c19 => ?_) (fun c19 => ?_)
                                      · exact (((((((((((((((((((h.2.2.2 c1).2.2 c2).2 c3).2 c4).2 c5).2 c6).2 c7).2 c8).2 c9).2 c10).2 c11).2 c12).2 c13).2 c14).2 c15).2 c16).2 c17).2 c18).1 c19)
                                      · refine bB_sw (x := (bAnd (bi σ 200 l4) 63)) (k := 18) bl_18 (bRgI _) (by decide) (fun c20 => ?_) (fun c20 => ?_)
                                        · exact ((((((((((((((((((((h.2.2.2 c1).2.2 c2).2 c3).2 c4).2 c5).2 c6).2 c7).2 c8).2 c9).2 c10).2 c11).2 c12).2 c13).2 c14).2 c15).2 c16).2 c17).2 c18).2 c19).1 c20)
                                        · refine bB_sw (x := (bAnd (bi σ 200 l4) 63)) (k := 19) bl_19 (bRgI _) (by decide) (fun c21 => ?_) (fun c21 => ?_)
                                          · exact (((((((((((((((((((((h.2.2.2 c1).2.2 c2).2 c3).2 c4).2 c5).2 c6).2 c7).2 c8).2 c9).2 c10).2 c11).2 c12).2 c13).2 c14).2 c15).2 c16).2 c17).2 c18).2 c19).2 c20).1 c21)
                                          · refine bB_sw (x := (bAnd (bi σ 200 l4) 63)) (k := 20) bl_20 (bRgI _) (by decide) (fun c22 => ?_) (fun c22 => ?_)
                                            · exact ((((((((((((((((((((((h.2.2.2 c1).2.2 c2).2 c3).2 c4).2 c5).2 c6).2 c7).2 c8).2 c9).2 c10).2 c11).2 c12).2 c13).2 c14).2 c15).2 c16).2 c17).2 c18).2 c19).2 c20).2 c21).1 c22)
                                            · refine bB_sw (x := (bAnd (bi σ 200 l4) 63)) (k := 21) bl_21 (bRgI _) (by decide) (fun c23 => ?_) (fun c23 => ?_)
                                              · exact (((((((((((((((((((((((h.2.2.2 c1).2.2 c2).2 c3).2 c4).2 c5).2 c6).2 c7).2 c8).2 c9).2 c10).2 c11).2 c12).2 c13).2 c14).2 c15).2 c16).2 c17).2 c18).2 c19).2 c20).2 c21).2 c22).1 c23)
                                              · refine bB_sw (x := (bAnd (bi σ 200 l4) 63)) (k := 22) bl_22 (bRgI _) (by decide) (fun c24 => ?_) (fun c24 => ?_)
                                                · exact ((((((((((((((((((((((((h.2.2.2 c1).2.2 c2).2 c3).2 c4).2 c5).2 c6).2 c7).2 c8).2 c9).2 c10).2 c11).2 c12).2 c13).2 c14).2 c15).2 c16).2 c17).2 c18).2 c19).2 c20).2 c21).2 c22).2 c23).1 c24)
                                                · refine bB_sw (x := (bAnd (bi σ 200 l4) 63)) (k := 23) bl_23 (bRgI _) (by decide) (fun c25 => ?_) (fun c25 => ?_)
                                                  · exact (((((((((((((((((((((((((h.2.2.2 c1).2.2 c2).2 c3).2 c4).2 c5).2 c6).2 c7).2 c8).2 c9).2 c10).2 c11).2 c12).2 c13).2 c14).2 c15).2 c16).2 c17).2 c18).2 c19).2 c20).2 c21).2 c22).2 c23).2 c24).1 c25)
                                                  · refine bB_sw (x := (bAnd (bi σ 200 l4) 63)) (k := 24) bl_24 (bRgI _) (by decide) (fun c26 => ?_) (fun c26 => ?_)
                                                    · exact ((((((((((((((((((((((((((h.2.2.2 c1).2.2 c2).2 c3).2 c4).2 c5).2 c6).2 c7).2 c8).2 c9).2 c10).2 c11).2 c12).2 c13).2 c14).2 c15).2 c16).2 c17).2 c18).2 c19).2 c20).2 c21).2 c22).2 c23).2 c24).2 c25).1 c26)
                                                    · refine bB_sw (x := (bAnd (bi σ 200 l4) 63)) (k := 25) bl_25 (bRgI _) (by decide) (fun c27 => ?_) (fun c27 => ?_)
                                                      · exact (((((((((((((((((((((((((((h.2.2.2 c1).2.2 c2).2 c3).2 c4).2 c5).2 c6).2 c7).2 c8).2 c9).2 c10).2 c11).2 c12).2 c13).2 c14).2 c15).2 c16).2 c17).2 c18).2 c19).2 c20).2 c21).2 c22).2 c23).2 c24).2 c25).2 c26).1 c27)
                                                      · refine bB_sw (x := (bAnd (bi σ 200 l4) 63)) (k := 26) bl_26 (bRgI _) (by decide) (fun c28 => ?_) (fun c28 => ?_)
                                                        · exact ((((((((((((((((((((((((((((h.2.2.2 c1).2.2 c2).2 c3).2 c4).2 c5).2 c6).2 c7).2 c8).2 c9).2 c10).2 c11).2 c12).2 c13).2 c14).2 c15).2 c16).2 c17).2 c18).2 c19).2 c20).2 c21).2 c22).2 c23).2 c24).2 c25).2 c26).2 c27).1 c28)
                                                        · refine bB_sw (x := (bAnd (bi σ 200 l4) 63)) (k := 27) bl_27 (bRgI _) (by decide) (fun c29 => ?_) (fun c29 => ?_)
                                                          · exact (((((((((((((((((((((((((((((h.2.2.2 c1).2.2 c2).2 c3).2 c4).2 c5).2 c6).2 c7).2 c8).2 c9).2 c10).2 c11).2 c12).2 c13).2 c14).2 c15).2 c16).2 c17).2 c18).2 c19).2 c20).2 c21).2 c22).2 c23).2 c24).2 c25).2 c26).2 c27).2 c28).1 c29)
                                                          · refine bB_sw (x := (bAnd (bi σ 200 l4) 63)) (k := 28) bl_28 (bRgI _) (by decide) (fun c30 => ?_) (fun c30 => ?_)
                                                            · exact ((((((((((((((((((((((((((((((h.2.2.2 c1).2.2 c2).2 c3).2 c4).2 c5).2 c6).2 c7).2 c8).2 c9).2 c10).2 c11).2 c12).2 c13).2 c14).2 c15).2 c16).2 c17).2 c18).2 c19).2 c20).2 c21).2 c22).2 c23).2 c24).2 c25).2 c26).2 c27).2 c28).2 c29).1 c30)
                                                            · refine bB_sw (x := (bAnd (bi σ 200 l4) 63)) (k := 29) bl_29 (bRgI _) (by decide) (fun c31 => ?_) (fun c31 => ?_)
                                                              · exact (((((((((((((((((((((((((((((((h.2.2.2 c1).2.2 c2).2 c3).2 c4).2 c5).2 c6).2 c7).2 c8).2 c9).2 c10).2 c11).2 c12).2 c13).2 c14).2 c15).2 c16).2 c17).2 c18).2 c19).2 c20).2 c21).2 c22).2 c23).2 c24).2 c25).2 c26).2 c27).2 c28).2 c29).2 c30).1 c31)
                                                              · refine bB_sw (x := (bAnd (bi σ 200 l4) 63)) (k := 30) bl_30 (bRgI _) (by decide) (fun c32 => ?_) (fun c32 => ?_)
                                                                · exact ((((((((((((((((((((((((((((((((h.2.2.2 c1).2.2 c2).2 c3).2 c4).2 c5).2 c6).2 c7).2 c8).2 c9).2 c10).2 c11).2 c12).2 c13).2 c14).2 c15).2 c16).2 c17).2 c18).2 c19).2 c20).2 c21).2 c22).2 c23).2 c24).2 c25).2 c26).2 c27).2 c28).2 c29).2 c30).2 c31).1 c32)
                                                                · refine bB_sw (x := (bAnd (bi σ 200 l4) 63)) (k := 31) bl_31 (bRgI _) (by decide) (fun c33 => ?_) (fun c33 => ?_)
                                                                  · exact (((((((((((((((((((((((((((((((((h.2.2.2 c1).2.2 c2).2 c3).2 c4).2 c5).2 c6).2 c7).2 c8).2 c9).2 c10).2 c11).2 c12).2 c13).2 c14).2 c15).2 c16).2 c17).2 c18).2 c19).2 c20).2 c21).2 c22).2 c23).2 c24).2 c25).2 c26).2 c27).2 c28).2 c29).2 c30).2 c31).2 c32).1 c33)
                                                                  · refine bB_sw (x := (bAnd (bi σ 200 l4) 63)) (k := 32) bl_32 (bRgI _) (by decide) (fun c34 => ?_) (fun c34 => ?_)
                                                                    · exact ((((((((((((((((((((((((((((((((((h.2.2.2 c1).2.2 c2).2 c3).2 c4).2 c5).2 c6).2 c7).2 c8).2 c9).2 c10).2 c11).2 c12).2 c13).2 c14).2 c15).2 c16).2 c17).2 c18).2 c19).2 c20).2 c21).2 c22).2 c23).2 c24).2 c25).2 c26).2 c27).2 c28).2 c29).2 c30).2 c31).2 c32).2 c33).1 c34)
                                                                    · refine bB_sw (x := (bAnd (bi σ 200 l4) 63)) (k := 33) bl_33 (bRgI _) (by decide) (fun c35 => ?_) (fun c35 => ?_)
                                                                      · exact (((((((((((((((((((((((((((((((((((h.2.2.2 c1).2.2 c2).2 c3).2 c4).2 c5).2 c6).2 c7).2 c8).2 c9).2 c10).2 c11).2 c12).2 c13).2 c14).2 c15).2 c16).2 c17).2 c18).2 c19).2 c20).2 c21).2 c22).2 c23).2 c24).2 c25).2 c26).2 c27).2 c28).2 c29).2 c30).2 c31).2 c32).2 c33).2 c34).1 c35)
                                                                      · refine bB_sw (x := (bAnd (bi σ 200 l4) 63)) (k := 34) bl_34 (bRgI _) (by decide) (fun c36 => ?_) (fun c36 => ?_)
                                                                        · exact ((((((((((((((((((((((((((((((((((((h.2.2.2 c1).2.2 c2).2 c3).2 c4).2 c5).2 c6).2 c7).2 c8).2 c9).2 c10).2 c11).2 c12).2 c13).2 c14).2 c15).2 c16).2 c17).2 c18).2 c19).2 c20).2 c21).2 c22).2 c23).2 c24).2 c25).2 c26).2 c27).2 c28).2 c29).2 c30).2 c31).2 c32).2 c33).2 c34).2 c35).1 c36)
                                                                        · refine bB_sw (x := (bAnd (bi σ 200 l4) 63)) (k := 35) bl_35 (bRgI _) (by decide) (fun c37 => ?_) (fun c37 => ?_)
                                                                          · exact (((((((((((((((((((((((((((((((((((((h.2.2.2 c1).2.2 c2).2 c3).2 c4).2 c5).2 c6).2 c7).2 c8).2 c9).2 c10).2 c11).2 c12).2 c13).2 c14).2 c15).2 c16).2 c17).2 c18).2 c19).2 c20).2 c21).2 c22).2 c23).2 c24).2 c25).2 c26).2 c27).2 c28).2 c29).2 c30).2 c31).2 c32).2 c33).2 c34).2 c35).2 c36).1 c37)
                                                                          · refine bB_sw (x := (bAnd (bi σ 200 l4) 63)) (k := 36) bl_36 (bRgI _) (by decide) (fun c38 => ?_) (fun c38 => ?_)
                                                                            · exact ((((((((((((((((((((((((((((((((((((((h.2.2.2 c1).2.2 c2).2 c3).2 c4).2 c5).2 c6).2 c7).2 c8).2 c9).2 c10).2 c11).2 c12).2 c13).2 c14).2 c15).2 c16).2 c17).2 c18).2 c19).2 c20).2 c21).2 c22).2 c23).2 c24).2 c25).2 c26).2 c27).2 c28).2 c29).2 c30).2 c31).2 c32).2 c33).2 c34).2 c35).2 c36).2 c37).1 c38)
                                                                            · refine bB_sw (x := (bAnd (bi σ 200 l4) 63)) (k := 37) bl_37 (bRgI _) (by decide) (fun c39 => ?_) (fun c39 => ?_)
                                                                              · exact (((((((((((((((((((((((((((((((((((((((h.2.2.2 c1).2.2 c2).2 c3).2 c4).2 c5).2 c6).2 c7).2 c8).2 c9).2 c10).2 c11).2 c12).2 c13).2 c14).2 c15).2 c16).2 c17).2 c18).2 c19).2 c20).2 c21).2 c22).2 c23).2 c24).2 c25).2 c26).2 c27).2 c28).2 c29).2 c30).2 c31).2 c32).2 c33).2 c34).2 c35).2 c36).2 c37).2 c38).1 c39)
                                                                              · refine bB_sw (x := (bAnd (bi σ 200 l4) 63)) (k := 38) bl_38 (bRgI _) (by decide) (fun c40 => ?_) (fun c40 => ?_)
                                                                                · exact ((((((((((((((((((((((((((((((((((((((((h.2.2.2 c1).2.2 c2).2 c3).2 c4).2 c5).2 c6).2 c7).2 c8).2 c9).2 c10).2 c11).2 c12).2 c13).2 c14).2 c15).2 c16).2 c17).2 c18).2 c19).2 c20).2 c21).2 c22).2 c23).2 c24).2 c25).2 c26).2 c27).2 c28).2 c29).2 c30).2 c31).2 c32).2 c33).2 c34).2 c35).2 c36).2 c37).2 c38).2 c39).1 c40)
                                                                                · refine bB_sw (x := (bAnd (bi σ 200 l4) 63)) (k := 39) bl_39 (bRgI _) (by decide) (fun c41 => ?_) (fun c41 => ?_)
                                                                                  · exact (((((((((((((((((((((((((((((((((((((((((h.2.2.2 c1).2.2 c2).2 c3).2 c4).2 c5).2 c6).2 c7).2 c8).2 c9).2 c10).2 c11).2 c12).2 c13).2 c14).2 c15).2 c16).2 c17).2 c18).2 c19).2 c20).2 c21).2 c22).2 c23).2 c24).2 c25).2 c26).2 c27).2 c28).2 c29).2 c30).2 c31).2 c32).2 c33).2 c34).2 c35).2 c36).2 c37).2 c38).2 c39).2 c40).1 c41)
                                                                                  · refine bB_sw (x := (bAnd (bi σ 200 l4) 63)) (k := 40) bl_40 (bRgI _) (by decide) (fun c42 => ?_) (fun c42 => ?_)
                                                                                    · exact ((((((((((((((((((((((((((((((((((((((((((h.2.2.2 c1).2.2 c2).2 c3).2 c4).2 c5).2 c6).2 c7).2 c8).2 c9).2 c10).2 c11).2 c12).2 c13).2 c14).2 c15).2 c16).2 c17).2 c18).2 c19).2 c20).2 c21).2 c22).2 c23).2 c24).2 c25).2 c26).2 c27).2 c28).2 c29).2 c30).2 c31).2 c32).2 c33).2 c34).2 c35).2 c36).2 c37).2 c38).2 c39).2 c40).2 c41).1 c42)
                                                                                    · refine bB_sw (x := (bAnd (bi σ 200 l4) 63)) (k := 41) bl_41 (bRgI _) (by decide) (fun c43 => ?_) (fun c43 => ?_)
                                                                                      · exact (((((((((((((((((((((((((((((((((((((((((((h.2.2.2 c1).2.2 c2).2 c3).2 c4).2 c5).2 c6).2 c7).2 c8).2 c9).2 c10).2 c11).2 c12).2 c13).2 c14).2 c15).2 c16).2 c17).2 c18).2 c19).2 c20).2 c21).2 c22).2 c23).2 c24).2 c25).2 c26).2 c27).2 c28).2 c29).2 c30).2 c31).2 c32).2 c33).2 c34).2 c35).2 c36).2 c37).2 c38).2 c39).2 c40).2 c41).2 c42).1 c43)
                                                                                      · refine bB_sw (x := (bAnd (bi σ 200 l4) 63)) (k := 42) bl_42 (bRgI _) (by decide) (fun c44 => ?_) (fun c44 => ?_)
                                                                                        · exact ((((((((((((((((((((((((((((((((((((((((((((h.2.2.2 c1).2.2 c2).2 c3).2 c4).2 c5).2 c6).2 c7).2 c8).2 c9).2 c10).2 c11).2 c12).2 c13).2 c14).2 c15).2 c16).2 c17).2 c18).2 c19).2 c20).2 c21).2 c22).2 c23).2 c24).2 c25).2 c26).2 c27).2 c28).2 c29).2 c30).2 c31).2 c32).2 c33).2 c34).2 c35).2 c36).2 c37).2 c38).2 c39).2 c40).2 c41).2 c42).2 c43).1 c44)
                                                                                        · refine bB_sw (x := (bAnd (bi σ 200 l4) 63)) (k := 43) bl_43 (bRgI _) (by decide) (fun c45 => ?_) (fun c45 => ?_)
                                                                                          · exact (((((((((((((((((((((((((((((((((((((((((((((h.2.2.2 c1).2.2 c2).2 c3).2 c4).2 c5).2 c6).2 c7).2 c8).2 c9).2 c10).2 c11).2 c12).2 c13).2 c14).2 c15).2 c16).2 c17).2 c18).2 c19).2 c20).2 c21).2 c22).2 c23).2 c24).2 c25).2 c26).2 c27).2 c28).2 c29).2 c30).2 c31).2 c32).2 c33).2 c34).2 c35).2 c36).2 c37).2 c38).2 c39).2 c40).2 c41).2 c42).2 c43).2 c44).1 c45)
                                                                                          · refine bB_sw (x := (bAnd (bi σ 200 l4) 63)) (k := 44) bl_44 (bRgI _) (by decide) (fun c46 => ?_) (fun c46 => ?_)
                                                                                            · exact ((((((((((((((((((((((((((((((((((((((((((((((h.2.2.2 c1).2.2 c2).2 c3).2 c4).2 c5).2 c6).2 c7).2 c8).2 c9).2 c10).2 c11).2 c12).2 c13).2 c14).2 c15).2 c16).2 c17).2 c18).2 c19).2 c20).2 c21).2 c22).2 c23).2 c24).2 c25).2 c26).2 c27).2 c28).2 c29).2 c30).2 c31).2 c32).2 c33).2 c34).2 c35).2 c36).2 c37).2 c38).2 c39).2 c40).2 c41).2 c42).2 c43).2 c44).2 c45).1 c46)
                                                                                            · refine bB_sw (x := (bAnd (bi σ 200 l4) 63)) (k := 45) bl_45 (bRgI _) (by decide) (fun c47 => ?_) (fun c47 => ?_)
                                                                                              · exact (((((((((((((((((((((((((((((((((((((((((((((((h.2.2.2 c1).2.2 c2).2 c3).2 c4).2 c5).2 c6).2 c7).2 c8).2 c9).2 c10).2 c11).2 c12).2 c13).2 c14).2 c15).2 c16).2 c17).2 c18).2 c19).2 c20).2 c21).2 c22).2 c23).2 c24).2 c25).2 c26).2 c27).2 c28).2 c29).2 c30).2 c31).2 c32).2 c33).2 c34).2 c35).2 c36).2 c37).2 c38).2 c39).2 c40).2 c41).2 c42).2 c43).2 c44).2 c45).2 c46).1 c47)
                                                                                              · refine bB_sw (x := (bAnd (bi σ 200 l4) 63)) (k := 46) bl_46 (bRgI _) (by decide) (fun c48 => ?_) (fun c48 => ?_)
                                                                                                · exact ((((((((((((((((((((((((((((((((((((((((((((((((h.2.2.2 c1).2.2 c2).2 c3).2 c4).2 c5).2 c6).2 c7).2 c8).2 c9).2 c10).2 c11).2 c12).2 c13).2 c14).2 c15).2 c16).2 c17).2 c18).2 c19).2 c20).2 c21).2 c22).2 c23).2 c24).2 c25).2 c26).2 c27).2 c28).2 c29).2 c30).2 c31).2 c32).2 c33).2 c34).2 c35).2 c36).2 c37).2 c38).2 c39).2 c40).2 c41).2 c42).2 c43).2 c44).2 c45).2 c46).2 c47).1 c48)
                                                                                                · refine bB_sw (x := (bAnd (bi σ 200 l4) 63)) (k := 47) bl_47 (bRgI _) (by decide) (fun c49 => ?_) (fun c49 => ?_)
                                                                                                  · exact (((((((((((((((((((((((((((((((((((((((((((((((((h.2.2.2 c1).2.2 c2).2 c3).2 c4).2 c5).2 c6).2 c7).2 c8).2 c9).2 c10).2 c11).2 c12).2 c13).2 c14).2 c15).2 c16).2 c17).2 c18).2 c19).2 c20).2 c21).2 c22).2 c23).2 c24).2 c25).2 c26).2 c27).2 c28).2 c29).2 c30).2 c31).2 c32).2 c33).2 c34).2 c35).2 c36).2 c37).2 c38).2 c39).2 c40).2 c41).2 c42).2 c43).2 c44).2 c45).2 c46).2 c47).2 c48).1 c49)
                                                                                                  · refine bB_sw (x := (bAnd (bi σ 200 l4) 63)) (k := 48) bl_48 (bRgI _) (by decide) (fun c50 => ?_) (fun c50 => ?_)
                                                                                                    · exact ((((((((((((((((((((((((((((((((((((((((((((((((((h.2.2.2 c1).2.2 c2).2 c3).2 c4).2 c5).2 c6).2 c7).2 c8).2 c9).2 c10).2 c11).2 c12).2 c13).2 c14).2 c15).2 c16).2 c17).2 c18).2 c19).2 c20).2 c21).2 c22).2 c23).2 c24).2 c25).2 c26).2 c27).2 c28).2 c29).2 c30).2 c31).2 c32).2 c33).2 c34).2 c35).2 c36).2 c37).2 c38).2 c39).2 c40).2 c41).2 c42).2 c43).2 c44).2 c45).2 c46).2 c47).2 c48).2 c49).1 c50)
                                                                                                    · refine bGo hA 131 1 (3414, .iinc 4 (6), 3, 2098, 0, [4], [(6, 0)]) rfl rfl rfl ?_
                                                                                                      refine bEqC (fun v => A (2098, [.ref 200, .ref 11, .ref 12, .ref 154, .int v, v5, v6, v7], [], σ)) ((congrArg (fun w => bn l4 + w) bl_6).trans (bn_add l4 6)) ?_
                                                                                                      refine bGo hA 131 2 (3417, .goto (-3394), 3, 2099, 13, [], []) rfl rfl rfl ?_
                                                                                                      exact ((((((((((((((((((((((((((((((((((((((((((((((((((h.2.2.2 c1).2.2 c2).2 c3).2 c4).2 c5).2 c6).2 c7).2 c8).2 c9).2 c10).2 c11).2 c12).2 c13).2 c14).2 c15).2 c16).2 c17).2 c18).2 c19).2 c20).2 c21).2 c22).2 c23).2 c24).2 c25).2 c26).2 c27).2 c28).2 c29).2 c30).2 c31).2 c32).2 c33).2 c34).2 c35).2 c36).2 c37).2 c38).2 c39).2 c40).2 c41).2 c42).2 c43).2 c44).2 c45).2 c46).2 c47).2 c48).2 c49).2 c50).2

theorem sq357_25 {lvl : Nat} {C : bCall} {Q : bPost} {A : bPt → Prop} (hC : bMono C) (hA : bClosed lvl bm357 C Q A) {l4 : Int} {v5 : Value} {v6 : Value} {v7 : Value} {σ : bSt}  (h_l4 : bRg l4)
  (h : (bRg (l4 + 1) ∧ ((0 ≤ (l4 + 1) ∧ (l4 + 1) < (bLen σ 200 : Int)) ∧ (bRg (l4 + 2) ∧ ((0 ≤ (l4 + 2) ∧ (l4 + 2) < (bLen σ 200 : Int)) ∧ (C 314 [.ref 11, .int (bn (bi σ 200 (l4 + 1))), .int (bn (bi σ 200 (l4 + 2))), .ref 154] σ (bRn (fun r3 s1 => ((0 ≤ (l4 + 1) ∧ (l4 + 1) < (bLen s1 200 : Int)) ∧ ((0 ≤ (l4 + 2) ∧ (l4 + 2) < (bLen s1 200 : Int)) ∧ (C 202 [.ref 12, .int (bn (bi s1 200 (l4 + 1))), .int (bn (bi s1 200 (l4 + 2)))] s1 (bRn (fun r7 s5 => (C 196 [.ref 12] s5 (bRn (fun r11 s9 => ((r11 = r3 → ((r3 = 0 → (((bCmp (bj s9 154 0) (bL r7)) = 0 → (bRg (l4 + 6) ∧ A (13, [.ref 200, .ref 11, .ref 12, .ref 154, .int (bn (l4 + 6)), .int (bn r3), .int (bn r7), v7], [], s9))) ∧ (¬ (bCmp (bj s9 154 0) (bL r7)) = 0 → Q (.inl (some (.int (bn 0)))) s9))) ∧ (¬ r3 = 0 → (bRg (l4 + 6) ∧ A (13, [.ref 200, .ref 11, .ref 12, .ref 154, .int (bn (l4 + 6)), .int (bn r3), .int (bn r7), v7], [], s9))))) ∧ (¬ r11 = r3 → Q (.inl (some (.int (bn 0)))) s9)))))))))))))))))) : A (25, [.ref 200, .ref 11, .ref 12, .ref 154, .int (bn l4), v5, v6, v7], [], σ) := by
  refine bGo hA 1 9 (252, .aload_n 1, 1, 26, 0, [1], []) rfl rfl rfl ?_
  refine bGo hA 1 10 (253, .aload_n 0, 1, 27, 0, [0], []) rfl rfl rfl ?_
  refine bGo hA 1 11 (254, .iload 4, 2, 28, 0, [4], []) rfl rfl rfl ?_
  refine bGo hA 1 12 (256, .iconst (1), 1, 29, 0, [], [(1, 0)]) rfl rfl rfl ?_
  refine bEqI bl_1 ?_
  refine bGo hA 1 13 (257, .iadd, 1, 30, 0, [], []) rfl rfl rfl ?_
  refine bEqI (bn_add l4 1) ?_
  refine bGo hA 1 14 (258, .iaload, 1, 31, 0, [], []) rfl rfl rfl ?_
  refine ⟨rfl, (bIxP (x := (l4 + 1)) (n := bLen σ 200) h.1 h.2.1), ?_⟩
  refine bEqL (x := (l4 + 1)) h.1 ?_
  refine bGo hA 1 15 (259, .aload_n 0, 1, 32, 0, [0], []) rfl rfl rfl ?_
  refine bGo hA 2 0 (260, .iload 4, 2, 33, 0, [4], []) rfl rfl rfl ?_
  refine bGo hA 2 1 (262, .iconst (2), 1, 34, 0, [], [(2, 0)]) rfl rfl rfl ?_
  refine bEqI bl_2 ?_
  refine bGo hA 2 2 (263, .iadd, 1, 35, 0, [], []) rfl rfl rfl ?_
  refine bEqI (bn_add l4 2) ?_
  refine bGo hA 2 3 (264, .iaload, 1, 36, 0, [], []) rfl rfl rfl ?_
  refine ⟨rfl, (bIxP (x := (l4 + 2)) (n := bLen σ 200) h.2.2.1 h.2.2.2.1), ?_⟩
  refine bEqL (x := (l4 + 2)) h.2.2.1 ?_
  refine bGo hA 2 4 (265, .aload_n 3, 1, 37, 0, [3], []) rfl rfl rfl ?_
  refine bGo hA 2 5 (266, .invokestatic 162, 3, 38, 0, [2, 314, 4], []) rfl rfl rfl ?_
  refine hC _ _ _ _ _ (bRn_e (fun r3 s1 q4 k2 => ?_)) h.2.2.2.2
  show A (38, [.ref 200, .ref 11, .ref 12, .ref 154, .int (bn l4), v5, v6, v7], [.int (bn r3)], s1)
  refine bGo hA 2 6 (269, .istore 5, 2, 39, 0, [5], []) rfl rfl rfl ?_
  refine bGo hA 2 7 (271, .aload_n 2, 1, 40, 0, [2], []) rfl rfl rfl ?_
  refine bGo hA 2 8 (272, .aload_n 0, 1, 41, 0, [0], []) rfl rfl rfl ?_
  refine bGo hA 2 9 (273, .iload 4, 2, 42, 0, [4], []) rfl rfl rfl ?_
  refine bGo hA 2 10 (275, .iconst (1), 1, 43, 0, [], [(1, 0)]) rfl rfl rfl ?_
  refine bEqI bl_1 ?_
  refine bGo hA 2 11 (276, .iadd, 1, 44, 0, [], []) rfl rfl rfl ?_
  refine bEqI (bn_add l4 1) ?_
  refine bGo hA 2 12 (277, .iaload, 1, 45, 0, [], []) rfl rfl rfl ?_
  refine ⟨rfl, (bIxP (x := (l4 + 1)) (n := bLen s1 200) h.1 k2.1), ?_⟩
  refine bEqL (x := (l4 + 1)) h.1 ?_
  refine bGo hA 2 13 (278, .aload_n 0, 1, 46, 0, [0], []) rfl rfl rfl ?_
  refine bGo hA 2 14 (279, .iload 4, 2, 47, 0, [4], []) rfl rfl rfl ?_
  refine bGo hA 2 15 (281, .iconst (2), 1, 48, 0, [], [(2, 0)]) rfl rfl rfl ?_
  refine bEqI bl_2 ?_
  refine bGo hA 3 0 (282, .iadd, 1, 49, 0, [], []) rfl rfl rfl ?_
  refine bEqI (bn_add l4 2) ?_
  refine bGo hA 3 1 (283, .iaload, 1, 50, 0, [], []) rfl rfl rfl ?_
  refine ⟨rfl, (bIxP (x := (l4 + 2)) (n := bLen s1 200) h.2.2.1 k2.2.1), ?_⟩
  refine bEqL (x := (l4 + 2)) h.2.2.1 ?_
  refine bGo hA 3 2 (284, .invokevirtual 167, 3, 51, 0, [0, 12, 202, 2], []) rfl rfl rfl ?_
  refine ⟨rfl, ?_⟩
  refine hC _ _ _ _ _ (bRn_e (fun r7 s5 q8 k6 => ?_)) k2.2.2
  show A (51, [.ref 200, .ref 11, .ref 12, .ref 154, .int (bn l4), .int (bn r3), v6, v7], [.int (bn r7)], s5)
  refine bGo hA 3 3 (287, .istore 6, 2, 52, 0, [6], []) rfl rfl rfl ?_
  refine bGo hA 3 4 (289, .aload_n 2, 1, 53, 0, [2], []) rfl rfl rfl ?_
  refine bGo hA 3 5 (290, .invokevirtual 168, 3, 54, 0, [0, 12, 196, 0], []) rfl rfl rfl ?_
  refine ⟨rfl, ?_⟩
  refine hC _ _ _ _ _ (bRn_e (fun r11 s9 q12 k10 => ?_)) k6
  show A (54, [.ref 200, .ref 11, .ref 12, .ref 154, .int (bn l4), .int (bn r3), .int (bn r7), v7], [.int (bn r11)], s9)
  refine bGo hA 3 6 (293, .iload 5, 2, 55, 0, [5], []) rfl rfl rfl ?_
  refine bGo hA 3 7 (295, .if_icmp .eq (5), 3, 56, 58, [], []) rfl rfl rfl ?_
  refine bB_eq (x := r11) (y := r3) q12 q4 (fun c13 => ?_) (fun c13 => ?_)
  · refine bGo hA 3 10 (300, .iload 5, 2, 59, 0, [5], []) rfl rfl rfl ?_
    refine bGo hA 3 11 (302, .ifCond .ne (15), 3, 60, 69, [], []) rfl rfl rfl ?_
    refine bB_eq0 (x := r3) q4 (fun c14 => ?_) (fun c14 => ?_)
    · refine bGo hA 3 12 (305, .aload_n 3, 1, 61, 0, [3], []) rfl rfl rfl ?_
      refine bGo hA 3 13 (306, .iconst (0), 1, 62, 0, [], [(0, 0)]) rfl rfl rfl ?_
      refine bEqI bl_0 ?_
      refine bGo hA 3 14 (307, .laload, 1, 63, 0, [], []) rfl rfl rfl ?_
      refine ⟨rfl, (bIxP (x := 0) (n := 1) (by decide) (by decide)), ?_⟩
      refine bEqJ (x := 0) (by decide : bRg 0) ?_
      refine bGo hA 3 15 (308, .iload 6, 2, 64, 0, [6], []) rfl rfl rfl ?_
      refine bGo hA 4 0 (310, .i2l, 1, 65, 0, [], []) rfl rfl rfl ?_
      refine bGo hA 4 1 (311, .lcmp, 1, 66, 0, [], []) rfl rfl rfl ?_
      refine bEqI (bn_cmp (bj s9 154 0) (bL r7)) ?_
      refine bGo hA 4 2 (312, .ifCond .eq (5), 3, 67, 69, [], []) rfl rfl rfl ?_
      refine bB_eq0 (x := (bCmp (bj s9 154 0) (bL r7))) (bRgI _) (fun c15 => ?_) (fun c15 => ?_)
      · refine bGo hA 4 5 (317, .goto (3097), 3, 70, 2097, [], []) rfl rfl rfl ?_
        refine bGo hA 131 1 (3414, .iinc 4 (6), 3, 2098, 0, [4], [(6, 0)]) rfl rfl rfl ?_
        refine bEqC (fun v => A (2098, [.ref 200, .ref 11, .ref 12, .ref 154, .int v, .int (bn r3), .int (bn r7), v7], [], s9)) ((congrArg (fun w => bn l4 + w) bl_6).trans (bn_add l4 6)) ?_
        refine bGo hA 131 2 (3417, .goto (-3394), 3, 2099, 13, [], []) rfl rfl rfl ?_
        exact (((k10.1 c13).1 c14).1 c15).2
      · refine bGo hA 4 3 (315, .iconst (0), 1, 68, 0, [], [(0, 0)]) rfl rfl rfl ?_
        refine bEqI bl_0 ?_
        refine bGo hA 4 4 (316, .ireturn, 1, 69, 0, [2], []) rfl rfl rfl ?_
        exact ⟨b01 (Or.inl rfl), (((k10.1 c13).1 c14).2 c15)⟩
    · refine bGo hA 4 5 (317, .goto (3097), 3, 70, 2097, [], []) rfl rfl rfl ?_
      refine bGo hA 131 1 (3414, .iinc 4 (6), 3, 2098, 0, [4], [(6, 0)]) rfl rfl rfl ?_
      refine bEqC (fun v => A (2098, [.ref 200, .ref 11, .ref 12, .ref 154, .int v, .int (bn r3), .int (bn r7), v7], [], s9)) ((congrArg (fun w => bn l4 + w) bl_6).trans (bn_add l4 6)) ?_
      refine bGo hA 131 2 (3417, .goto (-3394), 3, 2099, 13, [], []) rfl rfl rfl ?_
      exact ((k10.1 c13).2 c14).2
  · refine bGo hA 3 8 (298, .iconst (0), 1, 57, 0, [], [(0, 0)]) rfl rfl rfl ?_
    refine bEqI bl_0 ?_
    refine bGo hA 3 9 (299, .ireturn, 1, 58, 0, [2], []) rfl rfl rfl ?_
    exact ⟨b01 (Or.inl rfl), (k10.2 c13)⟩

theorem sq357_70 {lvl : Nat} {C : bCall} {Q : bPost} {A : bPt → Prop} (hC : bMono C) (hA : bClosed lvl bm357 C Q A) {l4 : Int} {v5 : Value} {v6 : Value} {v7 : Value} {σ : bSt}  (h_l4 : bRg l4)
  (h : (bRg (l4 + 1) ∧ ((0 ≤ (l4 + 1) ∧ (l4 + 1) < (bLen σ 200 : Int)) ∧ (C 315 [.ref 11, .int (bn (bi σ 200 (l4 + 1))), .ref 154] σ (bRn (fun r3 s1 => ((0 ≤ (l4 + 1) ∧ (l4 + 1) < (bLen s1 200 : Int)) ∧ (C 203 [.ref 12, .int (bn (bi s1 200 (l4 + 1)))] s1 (bRn (fun r7 s5 => (C 196 [.ref 12] s5 (bRn (fun r11 s9 => ((r11 = r3 → ((r3 = 0 → (((bCmp (bj s9 154 0) (bL r7)) = 0 → (bRg (l4 + 6) ∧ A (13, [.ref 200, .ref 11, .ref 12, .ref 154, .int (bn (l4 + 6)), .int (bn r3), .int (bn r7), v7], [], s9))) ∧ (¬ (bCmp (bj s9 154 0) (bL r7)) = 0 → Q (.inl (some (.int (bn 0)))) s9))) ∧ (¬ r3 = 0 → (bRg (l4 + 6) ∧ A (13, [.ref 200, .ref 11, .ref 12, .ref 154, .int (bn (l4 + 6)), .int (bn r3), .int (bn r7), v7], [], s9))))) ∧ (¬ r11 = r3 → Q (.inl (some (.int (bn 0)))) s9))))))))))))))) : A (70, [.ref 200, .ref 11, .ref 12, .ref 154, .int (bn l4), v5, v6, v7], [], σ) := by
  refine bGo hA 4 6 (320, .aload_n 1, 1, 71, 0, [1], []) rfl rfl rfl ?_
  refine bGo hA 4 7 (321, .aload_n 0, 1, 72, 0, [0], []) rfl rfl rfl ?_
  refine bGo hA 4 8 (322, .iload 4, 2, 73, 0, [4], []) rfl rfl rfl ?_
  refine bGo hA 4 9 (324, .iconst (1), 1, 74, 0, [], [(1, 0)]) rfl rfl rfl ?_
  refine bEqI bl_1 ?_
  refine bGo hA 4 10 (325, .iadd, 1, 75, 0, [], []) rfl rfl rfl ?_
  refine bEqI (bn_add l4 1) ?_
  refine bGo hA 4 11 (326, .iaload, 1, 76, 0, [], []) rfl rfl rfl ?_
  refine ⟨rfl, (bIxP (x := (l4 + 1)) (n := bLen σ 200) h.1 h.2.1), ?_⟩
  refine bEqL (x := (l4 + 1)) h.1 ?_
  refine bGo hA 4 12 (327, .aload_n 3, 1, 77, 0, [3], []) rfl rfl rfl ?_
  refine bGo hA 4 13 (328, .invokestatic 172, 3, 78, 0, [2, 315, 3], []) rfl rfl rfl ?_
  refine hC _ _ _ _ _ (bRn_e (fun r3 s1 q4 k2 => ?_)) h.2.2
  show A (78, [.ref 200, .ref 11, .ref 12, .ref 154, .int (bn l4), v5, v6, v7], [.int (bn r3)], s1)
  refine bGo hA 4 14 (331, .istore 5, 2, 79, 0, [5], []) rfl rfl rfl ?_
  refine bGo hA 4 15 (333, .aload_n 2, 1, 80, 0, [2], []) rfl rfl rfl ?_
  refine bGo hA 5 0 (334, .aload_n 0, 1, 81, 0, [0], []) rfl rfl rfl ?_
  refine bGo hA 5 1 (335, .iload 4, 2, 82, 0, [4], []) rfl rfl rfl ?_
  refine bGo hA 5 2 (337, .iconst (1), 1, 83, 0, [], [(1, 0)]) rfl rfl rfl ?_
  refine bEqI bl_1 ?_
  refine bGo hA 5 3 (338, .iadd, 1, 84, 0, [], []) rfl rfl rfl ?_
  refine bEqI (bn_add l4 1) ?_
  refine bGo hA 5 4 (339, .iaload, 1, 85, 0, [], []) rfl rfl rfl ?_
  refine ⟨rfl, (bIxP (x := (l4 + 1)) (n := bLen s1 200) h.1 k2.1), ?_⟩
  refine bEqL (x := (l4 + 1)) h.1 ?_
  refine bGo hA 5 5 (340, .invokevirtual 175, 3, 86, 0, [0, 12, 203, 1], []) rfl rfl rfl ?_
  refine ⟨rfl, ?_⟩
  refine hC _ _ _ _ _ (bRn_e (fun r7 s5 q8 k6 => ?_)) k2.2
  show A (86, [.ref 200, .ref 11, .ref 12, .ref 154, .int (bn l4), .int (bn r3), v6, v7], [.int (bn r7)], s5)
  refine bGo hA 5 6 (343, .istore 6, 2, 87, 0, [6], []) rfl rfl rfl ?_
  refine bGo hA 5 7 (345, .aload_n 2, 1, 88, 0, [2], []) rfl rfl rfl ?_
  refine bGo hA 5 8 (346, .invokevirtual 168, 3, 89, 0, [0, 12, 196, 0], []) rfl rfl rfl ?_
  refine ⟨rfl, ?_⟩
  refine hC _ _ _ _ _ (bRn_e (fun r11 s9 q12 k10 => ?_)) k6
  show A (89, [.ref 200, .ref 11, .ref 12, .ref 154, .int (bn l4), .int (bn r3), .int (bn r7), v7], [.int (bn r11)], s9)
  refine bGo hA 5 9 (349, .iload 5, 2, 90, 0, [5], []) rfl rfl rfl ?_
  refine bGo hA 5 10 (351, .if_icmp .eq (5), 3, 91, 93, [], []) rfl rfl rfl ?_
  refine bB_eq (x := r11) (y := r3) q12 q4 (fun c13 => ?_) (fun c13 => ?_)
  · refine bGo hA 5 13 (356, .iload 5, 2, 94, 0, [5], []) rfl rfl rfl ?_
    refine bGo hA 5 14 (358, .ifCond .ne (15), 3, 95, 104, [], []) rfl rfl rfl ?_
    refine bB_eq0 (x := r3) q4 (fun c14 => ?_) (fun c14 => ?_)
    · refine bGo hA 5 15 (361, .aload_n 3, 1, 96, 0, [3], []) rfl rfl rfl ?_
      refine bGo hA 6 0 (362, .iconst (0), 1, 97, 0, [], [(0, 0)]) rfl rfl rfl ?_
      refine bEqI bl_0 ?_
      refine bGo hA 6 1 (363, .laload, 1, 98, 0, [], []) rfl rfl rfl ?_
      refine ⟨rfl, (bIxP (x := 0) (n := 1) (by decide) (by decide)), ?_⟩
      refine bEqJ (x := 0) (by decide : bRg 0) ?_
      refine bGo hA 6 2 (364, .iload 6, 2, 99, 0, [6], []) rfl rfl rfl ?_
      refine bGo hA 6 3 (366, .i2l, 1, 100, 0, [], []) rfl rfl rfl ?_
      refine bGo hA 6 4 (367, .lcmp, 1, 101, 0, [], []) rfl rfl rfl ?_
      refine bEqI (bn_cmp (bj s9 154 0) (bL r7)) ?_
      refine bGo hA 6 5 (368, .ifCond .eq (5), 3, 102, 104, [], []) rfl rfl rfl ?_
      refine bB_eq0 (x := (bCmp (bj s9 154 0) (bL r7))) (bRgI _) (fun c15 => ?_) (fun c15 => ?_)
      · refine bGo hA 6 8 (373, .goto (3041), 3, 105, 2097, [], []) rfl rfl rfl ?_
        refine bGo hA 131 1 (3414, .iinc 4 (6), 3, 2098, 0, [4], [(6, 0)]) rfl rfl rfl ?_
        refine bEqC (fun v => A (2098, [.ref 200, .ref 11, .ref 12, .ref 154, .int v, .int (bn r3), .int (bn r7), v7], [], s9)) ((congrArg (fun w => bn l4 + w) bl_6).trans (bn_add l4 6)) ?_
        refine bGo hA 131 2 (3417, .goto (-3394), 3, 2099, 13, [], []) rfl rfl rfl ?_
        exact (((k10.1 c13).1 c14).1 c15).2
      · refine bGo hA 6 6 (371, .iconst (0), 1, 103, 0, [], [(0, 0)]) rfl rfl rfl ?_
        refine bEqI bl_0 ?_
        refine bGo hA 6 7 (372, .ireturn, 1, 104, 0, [2], []) rfl rfl rfl ?_
        exact ⟨b01 (Or.inl rfl), (((k10.1 c13).1 c14).2 c15)⟩
    · refine bGo hA 6 8 (373, .goto (3041), 3, 105, 2097, [], []) rfl rfl rfl ?_
      refine bGo hA 131 1 (3414, .iinc 4 (6), 3, 2098, 0, [4], [(6, 0)]) rfl rfl rfl ?_
      refine bEqC (fun v => A (2098, [.ref 200, .ref 11, .ref 12, .ref 154, .int v, .int (bn r3), .int (bn r7), v7], [], s9)) ((congrArg (fun w => bn l4 + w) bl_6).trans (bn_add l4 6)) ?_
      refine bGo hA 131 2 (3417, .goto (-3394), 3, 2099, 13, [], []) rfl rfl rfl ?_
      exact ((k10.1 c13).2 c14).2
  · refine bGo hA 5 11 (354, .iconst (0), 1, 92, 0, [], [(0, 0)]) rfl rfl rfl ?_
    refine bEqI bl_0 ?_
    refine bGo hA 5 12 (355, .ireturn, 1, 93, 0, [2], []) rfl rfl rfl ?_
    exact ⟨b01 (Or.inl rfl), (k10.2 c13)⟩

theorem sq357_105 {lvl : Nat} {C : bCall} {Q : bPost} {A : bPt → Prop} (hC : bMono C) (hA : bClosed lvl bm357 C Q A) {l4 : Int} {v5 : Value} {v6 : Value} {v7 : Value} {σ : bSt}  (h_l4 : bRg l4)
  (h : (bRg (l4 + 1) ∧ ((0 ≤ (l4 + 1) ∧ (l4 + 1) < (bLen σ 200 : Int)) ∧ (bRg (l4 + 2) ∧ ((0 ≤ (l4 + 2) ∧ (l4 + 2) < (bLen σ 200 : Int)) ∧ (((bi σ 200 (l4 + 2)) = 0 → A (120, [.ref 200, .ref 11, .ref 12, .ref 154, .int (bn l4), v5, v6, v7], [.int (bn 0), .int (bn (bi σ 200 (l4 + 1))), .ref 11], σ)) ∧ (¬ (bi σ 200 (l4 + 2)) = 0 → A (120, [.ref 200, .ref 11, .ref 12, .ref 154, .int (bn l4), v5, v6, v7], [.int (bn 1), .int (bn (bi σ 200 (l4 + 1))), .ref 11], σ)))))))) : A (105, [.ref 200, .ref 11, .ref 12, .ref 154, .int (bn l4), v5, v6, v7], [], σ) := by
  refine bGo hA 6 9 (376, .aload_n 1, 1, 106, 0, [1], []) rfl rfl rfl ?_
  refine bGo hA 6 10 (377, .aload_n 0, 1, 107, 0, [0], []) rfl rfl rfl ?_
  refine bGo hA 6 11 (378, .iload 4, 2, 108, 0, [4], []) rfl rfl rfl ?_
  refine bGo hA 6 12 (380, .iconst (1), 1, 109, 0, [], [(1, 0)]) rfl rfl rfl ?_
  refine bEqI bl_1 ?_
  refine bGo hA 6 13 (381, .iadd, 1, 110, 0, [], []) rfl rfl rfl ?_
  refine bEqI (bn_add l4 1) ?_
  refine bGo hA 6 14 (382, .iaload, 1, 111, 0, [], []) rfl rfl rfl ?_
  refine ⟨rfl, (bIxP (x := (l4 + 1)) (n := bLen σ 200) h.1 h.2.1), ?_⟩
  refine bEqL (x := (l4 + 1)) h.1 ?_
  refine bGo hA 6 15 (383, .aload_n 0, 1, 112, 0, [0], []) rfl rfl rfl ?_
  refine bGo hA 7 0 (384, .iload 4, 2, 113, 0, [4], []) rfl rfl rfl ?_
  refine bGo hA 7 1 (386, .iconst (2), 1, 114, 0, [], [(2, 0)]) rfl rfl rfl ?_
  refine bEqI bl_2 ?_
  refine bGo hA 7 2 (387, .iadd, 1, 115, 0, [], []) rfl rfl rfl ?_
  refine bEqI (bn_add l4 2) ?_
  refine bGo hA 7 3 (388, .iaload, 1, 116, 0, [], []) rfl rfl rfl ?_
  refine ⟨rfl, (bIxP (x := (l4 + 2)) (n := bLen σ 200) h.2.2.1 h.2.2.2.1), ?_⟩
  refine bEqL (x := (l4 + 2)) h.2.2.1 ?_
  refine bGo hA 7 4 (389, .ifCond .eq (7), 3, 117, 119, [], []) rfl rfl rfl ?_
  refine bB_eq0 (x := (bi σ 200 (l4 + 2))) (bi_rg _ _ _) (fun c1 => ?_) (fun c1 => ?_)
  · refine bGo hA 7 7 (396, .iconst (0), 1, 120, 0, [], [(0, 0)]) rfl rfl rfl ?_
    refine bEqI bl_0 ?_
    exact (h.2.2.2.2.1 c1)
  · refine bGo hA 7 5 (392, .iconst (1), 1, 118, 0, [], [(1, 0)]) rfl rfl rfl ?_
    refine bEqI bl_1 ?_
    refine bGo hA 7 6 (393, .goto (4), 3, 119, 120, [], []) rfl rfl rfl ?_
    exact (h.2.2.2.2.2 c1)

theorem sq357_161 {lvl : Nat} {C : bCall} {Q : bPost} {A : bPt → Prop} (hC : bMono C) (hA : bClosed lvl bm357 C Q A) {l4 : Int} {v5 : Value} {v6 : Value} {v7 : Value} {σ : bSt}  (h_l4 : bRg l4)
  (h : (bRg (l4 + 1) ∧ ((0 ≤ (l4 + 1) ∧ (l4 + 1) < (bLen σ 200 : Int)) ∧ (C 317 [.ref 11, .int (bn (bi σ 200 (l4 + 1))), .ref 154] σ (bRn (fun r3 s1 => ((0 ≤ (l4 + 1) ∧ (l4 + 1) < (bLen s1 200 : Int)) ∧ (C 207 [.ref 12, .int (bn (bi s1 200 (l4 + 1)))] s1 (bRn (fun r7 s5 => (C 196 [.ref 12] s5 (bRn (fun r11 s9 => ((r11 = r3 → ((r3 = 0 → (((bCmp (bj s9 154 0) (bL r7)) = 0 → (bRg (l4 + 6) ∧ A (13, [.ref 200, .ref 11, .ref 12, .ref 154, .int (bn (l4 + 6)), .int (bn r3), .int (bn r7), v7], [], s9))) ∧ (¬ (bCmp (bj s9 154 0) (bL r7)) = 0 → Q (.inl (some (.int (bn 0)))) s9))) ∧ (¬ r3 = 0 → (bRg (l4 + 6) ∧ A (13, [.ref 200, .ref 11, .ref 12, .ref 154, .int (bn (l4 + 6)), .int (bn r3), .int (bn r7), v7], [], s9))))) ∧ (¬ r11 = r3 → Q (.inl (some (.int (bn 0)))) s9))))))))))))))) : A (161, [.ref 200, .ref 11, .ref 12, .ref 154, .int (bn l4), v5, v6, v7], [], σ) := by
  refine bGo hA 10 1 (467, .aload_n 1, 1, 162, 0, [1], []) rfl rfl rfl ?_
  refine bGo hA 10 2 (468, .aload_n 0, 1, 163, 0, [0], []) rfl rfl rfl ?_
  refine bGo hA 10 3 (469, .iload 4, 2, 164, 0, [4], []) rfl rfl rfl ?_
  refine bGo hA 10 4 (471, .iconst (1), 1, 165, 0, [], [(1, 0)]) rfl rfl rfl ?_
  refine bEqI bl_1 ?_
  refine bGo hA 10 5 (472, .iadd, 1, 166, 0, [], []) rfl rfl rfl ?_
  refine bEqI (bn_add l4 1) ?_
  refine bGo hA 10 6 (473, .iaload, 1, 167, 0, [], []) rfl rfl rfl ?_
  refine ⟨rfl, (bIxP (x := (l4 + 1)) (n := bLen σ 200) h.1 h.2.1), ?_⟩
  refine bEqL (x := (l4 + 1)) h.1 ?_
  refine bGo hA 10 7 (474, .aload_n 3, 1, 168, 0, [3], []) rfl rfl rfl ?_
  refine bGo hA 10 8 (475, .invokestatic 180, 3, 169, 0, [2, 317, 3], []) rfl rfl rfl ?_
  refine hC _ _ _ _ _ (bRn_e (fun r3 s1 q4 k2 => ?_)) h.2.2
  show A (169, [.ref 200, .ref 11, .ref 12, .ref 154, .int (bn l4), v5, v6, v7], [.int (bn r3)], s1)
  refine bGo hA 10 9 (478, .istore 5, 2, 170, 0, [5], []) rfl rfl rfl ?_
  refine bGo hA 10 10 (480, .aload_n 2, 1, 171, 0, [2], []) rfl rfl rfl ?_
  refine bGo hA 10 11 (481, .aload_n 0, 1, 172, 0, [0], []) rfl rfl rfl ?_
  refine bGo hA 10 12 (482, .iload 4, 2, 173, 0, [4], []) rfl rfl rfl ?_
  refine bGo hA 10 13 (484, .iconst (1), 1, 174, 0, [], [(1, 0)]) rfl rfl rfl ?_
  refine bEqI bl_1 ?_
  refine bGo hA 10 14 (485, .iadd, 1, 175, 0, [], []) rfl rfl rfl ?_
  refine bEqI (bn_add l4 1) ?_
  refine bGo hA 10 15 (486, .iaload, 1, 176, 0, [], []) rfl rfl rfl ?_
  refine ⟨rfl, (bIxP (x := (l4 + 1)) (n := bLen s1 200) h.1 k2.1), ?_⟩
  refine bEqL (x := (l4 + 1)) h.1 ?_
  refine bGo hA 11 0 (487, .invokevirtual 182, 3, 177, 0, [0, 12, 207, 1], []) rfl rfl rfl ?_
  refine ⟨rfl, ?_⟩
  refine hC _ _ _ _ _ (bRn_e (fun r7 s5 q8 k6 => ?_)) k2.2
  show A (177, [.ref 200, .ref 11, .ref 12, .ref 154, .int (bn l4), .int (bn r3), v6, v7], [.int (bn r7)], s5)
  refine bGo hA 11 1 (490, .istore 6, 2, 178, 0, [6], []) rfl rfl rfl ?_
  refine bGo hA 11 2 (492, .aload_n 2, 1, 179, 0, [2], []) rfl rfl rfl ?_
  refine bGo hA 11 3 (493, .invokevirtual 168, 3, 180, 0, [0, 12, 196, 0], []) rfl rfl rfl ?_
  refine ⟨rfl, ?_⟩
  refine hC _ _ _ _ _ (bRn_e (fun r11 s9 q12 k10 => ?_)) k6
  show A (180, [.ref 200, .ref 11, .ref 12, .ref 154, .int (bn l4), .int (bn r3), .int (bn r7), v7], [.int (bn r11)], s9)
  refine bGo hA 11 4 (496, .iload 5, 2, 181, 0, [5], []) rfl rfl rfl ?_
  refine bGo hA 11 5 (498, .if_icmp .eq (5), 3, 182, 184, [], []) rfl rfl rfl ?_
  refine bB_eq (x := r11) (y := r3) q12 q4 (fun c13 => ?_) (fun c13 => ?_)
  · refine bGo hA 11 8 (503, .iload 5, 2, 185, 0, [5], []) rfl rfl rfl ?_
    refine bGo hA 11 9 (505, .ifCond .ne (15), 3, 186, 195, [], []) rfl rfl rfl ?_
    refine bB_eq0 (x := r3) q4 (fun c14 => ?_) (fun c14 => ?_)
    · refine bGo hA 11 10 (508, .aload_n 3, 1, 187, 0, [3], []) rfl rfl rfl ?_
      refine bGo hA 11 11 (509, .iconst (0), 1, 188, 0, [], [(0, 0)]) rfl rfl rfl ?_
      refine bEqI bl_0 ?_
      refine bGo hA 11 12 (510, .laload, 1, 189, 0, [], []) rfl rfl rfl ?_
      refine ⟨rfl, (bIxP (x := 0) (n := 1) (by decide) (by decide)), ?_⟩
      refine bEqJ (x := 0) (by decide : bRg 0) ?_
      refine bGo hA 11 13 (511, .iload 6, 2, 190, 0, [6], []) rfl rfl rfl ?_
      refine bGo hA 11 14 (513, .i2l, 1, 191, 0, [], []) rfl rfl rfl ?_
      refine bGo hA 11 15 (514, .lcmp, 1, 192, 0, [], []) rfl rfl rfl ?_
      refine bEqI (bn_cmp (bj s9 154 0) (bL r7)) ?_
      refine bGo hA 12 0 (515, .ifCond .eq (5), 3, 193, 195, [], []) rfl rfl rfl ?_
      refine bB_eq0 (x := (bCmp (bj s9 154 0) (bL r7))) (bRgI _) (fun c15 => ?_) (fun c15 => ?_)
      · refine bGo hA 12 3 (520, .goto (2894), 3, 196, 2097, [], []) rfl rfl rfl ?_
        refine bGo hA 131 1 (3414, .iinc 4 (6), 3, 2098, 0, [4], [(6, 0)]) rfl rfl rfl ?_
        refine bEqC (fun v => A (2098, [.ref 200, .ref 11, .ref 12, .ref 154, .int v, .int (bn r3), .int (bn r7), v7], [], s9)) ((congrArg (fun w => bn l4 + w) bl_6).trans (bn_add l4 6)) ?_
        refine bGo hA 131 2 (3417, .goto (-3394), 3, 2099, 13, [], []) rfl rfl rfl ?_
        exact (((k10.1 c13).1 c14).1 c15).2
      · refine bGo hA 12 1 (518, .iconst (0), 1, 194, 0, [], [(0, 0)]) rfl rfl rfl ?_
        refine bEqI bl_0 ?_
        refine bGo hA 12 2 (519, .ireturn, 1, 195, 0, [2], []) rfl rfl rfl ?_
        exact ⟨b01 (Or.inl rfl), (((k10.1 c13).1 c14).2 c15)⟩
    · refine bGo hA 12 3 (520, .goto (2894), 3, 196, 2097, [], []) rfl rfl rfl ?_
      refine bGo hA 131 1 (3414, .iinc 4 (6), 3, 2098, 0, [4], [(6, 0)]) rfl rfl rfl ?_
      refine bEqC (fun v => A (2098, [.ref 200, .ref 11, .ref 12, .ref 154, .int v, .int (bn r3), .int (bn r7), v7], [], s9)) ((congrArg (fun w => bn l4 + w) bl_6).trans (bn_add l4 6)) ?_
      refine bGo hA 131 2 (3417, .goto (-3394), 3, 2099, 13, [], []) rfl rfl rfl ?_
      exact ((k10.1 c13).2 c14).2
  · refine bGo hA 11 6 (501, .iconst (0), 1, 183, 0, [], [(0, 0)]) rfl rfl rfl ?_
    refine bEqI bl_0 ?_
    refine bGo hA 11 7 (502, .ireturn, 1, 184, 0, [2], []) rfl rfl rfl ?_
    exact ⟨b01 (Or.inl rfl), (k10.2 c13)⟩

theorem sq357_196 {lvl : Nat} {C : bCall} {Q : bPost} {A : bPt → Prop} (hC : bMono C) (hA : bClosed lvl bm357 C Q A) {l4 : Int} {v5 : Value} {v6 : Value} {v7 : Value} {σ : bSt}  (h_l4 : bRg l4)
  (h : (bRg (l4 + 1) ∧ ((0 ≤ (l4 + 1) ∧ (l4 + 1) < (bLen σ 200 : Int)) ∧ (bRg (l4 + 2) ∧ ((0 ≤ (l4 + 2) ∧ (l4 + 2) < (bLen σ 200 : Int)) ∧ (bRg (l4 + 3) ∧ ((0 ≤ (l4 + 3) ∧ (l4 + 3) < (bLen σ 200 : Int)) ∧ (((bi σ 200 (l4 + 3)) = 0 → A (216, [.ref 200, .ref 11, .ref 12, .ref 154, .int (bn l4), v5, v6, v7], [.int (bn 0), .int (bn (bi σ 200 (l4 + 2))), .int (bn (bi σ 200 (l4 + 1))), .ref 11], σ)) ∧ (¬ (bi σ 200 (l4 + 3)) = 0 → A (216, [.ref 200, .ref 11, .ref 12, .ref 154, .int (bn l4), v5, v6, v7], [.int (bn 1), .int (bn (bi σ 200 (l4 + 2))), .int (bn (bi σ 200 (l4 + 1))), .ref 11], σ)))))))))) : A (196, [.ref 200, .ref 11, .ref 12, .ref 154, .int (bn l4), v5, v6, v7], [], σ) := by
  refine bGo hA 12 4 (523, .aload_n 1, 1, 197, 0, [1], []) rfl rfl rfl ?_
  refine bGo hA 12 5 (524, .aload_n 0, 1, 198, 0, [0], []) rfl rfl rfl ?_
  refine bGo hA 12 6 (525, .iload 4, 2, 199, 0, [4], []) rfl rfl rfl ?_
  refine bGo hA 12 7 (527, .iconst (1), 1, 200, 0, [], [(1, 0)]) rfl rfl rfl ?_
  refine bEqI bl_1 ?_
  refine bGo hA 12 8 (528, .iadd, 1, 201, 0, [], []) rfl rfl rfl ?_
  refine bEqI (bn_add l4 1) ?_
  refine bGo hA 12 9 (529, .iaload, 1, 202, 0, [], []) rfl rfl rfl ?_
  refine ⟨rfl, (bIxP (x := (l4 + 1)) (n := bLen σ 200) h.1 h.2.1), ?_⟩
  refine bEqL (x := (l4 + 1)) h.1 ?_
  refine bGo hA 12 10 (530, .aload_n 0, 1, 203, 0, [0], []) rfl rfl rfl ?_
  refine bGo hA 12 11 (531, .iload 4, 2, 204, 0, [4], []) rfl rfl rfl ?_
  refine bGo hA 12 12 (533, .iconst (2), 1, 205, 0, [], [(2, 0)]) rfl rfl rfl ?_
  refine bEqI bl_2 ?_
  refine bGo hA 12 13 (534, .iadd, 1, 206, 0, [], []) rfl rfl rfl ?_
  refine bEqI (bn_add l4 2) ?_
  refine bGo hA 12 14 (535, .iaload, 1, 207, 0, [], []) rfl rfl rfl ?_
  refine ⟨rfl, (bIxP (x := (l4 + 2)) (n := bLen σ 200) h.2.2.1 h.2.2.2.1), ?_⟩
  refine bEqL (x := (l4 + 2)) h.2.2.1 ?_
  refine bGo hA 12 15 (536, .aload_n 0, 1, 208, 0, [0], []) rfl rfl rfl ?_
  refine bGo hA 13 0 (537, .iload 4, 2, 209, 0, [4], []) rfl rfl rfl ?_
  refine bGo hA 13 1 (539, .iconst (3), 1, 210, 0, [], [(3, 0)]) rfl rfl rfl ?_
  refine bEqI bl_3 ?_
  refine bGo hA 13 2 (540, .iadd, 1, 211, 0, [], []) rfl rfl rfl ?_
  refine bEqI (bn_add l4 3) ?_
  refine bGo hA 13 3 (541, .iaload, 1, 212, 0, [], []) rfl rfl rfl ?_
  refine ⟨rfl, (bIxP (x := (l4 + 3)) (n := bLen σ 200) h.2.2.2.2.1 h.2.2.2.2.2.1), ?_⟩
  refine bEqL (x := (l4 + 3)) h.2.2.2.2.1 ?_
  refine bGo hA 13 4 (542, .ifCond .eq (7), 3, 213, 215, [], []) rfl rfl rfl ?_
  refine bB_eq0 (x := (bi σ 200 (l4 + 3))) (bi_rg _ _ _) (fun c1 => ?_) (fun c1 => ?_)
  · refine bGo hA 13 7 (549, .iconst (0), 1, 216, 0, [], [(0, 0)]) rfl rfl rfl ?_
    refine bEqI bl_0 ?_
    exact (h.2.2.2.2.2.2.1 c1)
  · refine bGo hA 13 5 (545, .iconst (1), 1, 214, 0, [], [(1, 0)]) rfl rfl rfl ?_
    refine bEqI bl_1 ?_
    refine bGo hA 13 6 (546, .goto (4), 3, 215, 216, [], []) rfl rfl rfl ?_
    exact (h.2.2.2.2.2.2.2 c1)

theorem sq357_258 {lvl : Nat} {C : bCall} {Q : bPost} {A : bPt → Prop} (hC : bMono C) (hA : bClosed lvl bm357 C Q A) {l4 : Int} {v5 : Value} {v6 : Value} {v7 : Value} {σ : bSt}  (h_l4 : bRg l4)
  (h : (bRg (l4 + 1) ∧ ((0 ≤ (l4 + 1) ∧ (l4 + 1) < (bLen σ 200 : Int)) ∧ (bRg (l4 + 2) ∧ ((0 ≤ (l4 + 2) ∧ (l4 + 2) < (bLen σ 200 : Int)) ∧ (bRg (l4 + 3) ∧ ((0 ≤ (l4 + 3) ∧ (l4 + 3) < (bLen σ 200 : Int)) ∧ (bRg (l4 + 4) ∧ ((0 ≤ (l4 + 4) ∧ (l4 + 4) < (bLen σ 200 : Int)) ∧ (bRg (l4 + 5) ∧ ((0 ≤ (l4 + 5) ∧ (l4 + 5) < (bLen σ 200 : Int)) ∧ (C 319 [.ref 11, .int (bn (bi σ 200 (l4 + 1))), .int (bn (bi σ 200 (l4 + 2))), .int (bn (bi σ 200 (l4 + 3))), .int (bn (bi σ 200 (l4 + 4))), .int (bn (bi σ 200 (l4 + 5))), .ref 154] σ (bRn (fun r3 s1 => ((0 ≤ (l4 + 1) ∧ (l4 + 1) < (bLen s1 200 : Int)) ∧ ((0 ≤ (l4 + 2) ∧ (l4 + 2) < (bLen s1 200 : Int)) ∧ ((0 ≤ (l4 + 3) ∧ (l4 + 3) < (bLen s1 200 : Int)) ∧ ((0 ≤ (l4 + 4) ∧ (l4 + 4) < (bLen s1 200 : Int)) ∧ ((0 ≤ (l4 + 5) ∧ (l4 + 5) < (bLen s1 200 : Int)) ∧ (C 212 [.ref 12, .int (bn (bi s1 200 (l4 + 1))), .int (bn (bi s1 200 (l4 + 2))), .int (bn (bi s1 200 (l4 + 3))), .int (bn (bi s1 200 (l4 + 4))), .int (bn (bi s1 200 (l4 + 5)))] s1 (bRn (fun r7 s5 => (C 196 [.ref 12] s5 (bRn (fun r11 s9 => ((r11 = r3 → ((r3 = 0 → (((bCmp (bj s9 154 0) (bL r7)) = 0 → (bRg (l4 + 6) ∧ A (13, [.ref 200, .ref 11, .ref 12, .ref 154, .int (bn (l4 + 6)), .int (bn r3), .int (bn r7), v7], [], s9))) ∧ (¬ (bCmp (bj s9 154 0) (bL r7)) = 0 → Q (.inl (some (.int (bn 0)))) s9))) ∧ (¬ r3 = 0 → (bRg (l4 + 6) ∧ A (13, [.ref 200, .ref 11, .ref 12, .ref 154, .int (bn (l4 + 6)), .int (bn r3), .int (bn r7), v7], [], s9))))) ∧ (¬ r11 = r3 → Q (.inl (some (.int (bn 0)))) s9))))))))))))))))))))))))))) : A (258, [.ref 200, .ref 11, .ref 12, .ref 154, .int (bn l4), v5, v6, v7], [], σ) := by
  refine bGo hA 16 2 (618, .aload_n 1, 1, 259, 0, [1], []) rfl rfl rfl ?_
  refine bGo hA 16 3 (619, .aload_n 0, 1, 260, 0, [0], []) rfl rfl rfl ?_
  refine bGo hA 16 4 (620, .iload 4, 2, 261, 0, [4], []) rfl rfl rfl ?_
  refine bGo hA 16 5 (622, .iconst (1), 1, 262, 0, [], [(1, 0)]) rfl rfl rfl ?_
  refine bEqI bl_1 ?_
  refine bGo hA 16 6 (623, .iadd, 1, 263, 0, [], []) rfl rfl rfl ?_
  refine bEqI (bn_add l4 1) ?_
  refine bGo hA 16 7 (624, .iaload, 1, 264, 0, [], []) rfl rfl rfl ?_
  refine ⟨rfl, (bIxP (x := (l4 + 1)) (n := bLen σ 200) h.1 h.2.1), ?_⟩
  refine bEqL (x := (l4 + 1)) h.1 ?_
  refine bGo hA 16 8 (625, .aload_n 0, 1, 265, 0, [0], []) rfl rfl rfl ?_
  refine bGo hA 16 9 (626, .iload 4, 2, 266, 0, [4], []) rfl rfl rfl ?_
  refine bGo hA 16 10 (628, .iconst (2), 1, 267, 0, [], [(2, 0)]) rfl rfl rfl ?_
  refine bEqI bl_2 ?_
  refine bGo hA 16 11 (629, .iadd, 1, 268, 0, [], []) rfl rfl rfl ?_
  refine bEqI (bn_add l4 2) ?_
  refine bGo hA 16 12 (630, .iaload, 1, 269, 0, [], []) rfl rfl rfl ?_
  refine ⟨rfl, (bIxP (x := (l4 + 2)) (n := bLen σ 200) h.2.2.1 h.2.2.2.1), ?_⟩
  refine bEqL (x := (l4 + 2)) h.2.2.1 ?_
  refine bGo hA 16 13 (631, .aload_n 0, 1, 270, 0, [0], []) rfl rfl rfl ?_
  refine bGo hA 16 14 (632, .iload 4, 2, 271, 0, [4], []) rfl rfl rfl ?_
  refine bGo hA 16 15 (634, .iconst (3), 1, 272, 0, [], [(3, 0)]) rfl rfl rfl ?_
  refine bEqI bl_3 ?_
  refine bGo hA 17 0 (635, .iadd, 1, 273, 0, [], []) rfl rfl rfl ?_
  refine bEqI (bn_add l4 3) ?_
  refine bGo hA 17 1 (636, .iaload, 1, 274, 0, [], []) rfl rfl rfl ?_
  refine ⟨rfl, (bIxP (x := (l4 + 3)) (n := bLen σ 200) h.2.2.2.2.1 h.2.2.2.2.2.1), ?_⟩
  refine bEqL (x := (l4 + 3)) h.2.2.2.2.1 ?_
  refine bGo hA 17 2 (637, .aload_n 0, 1, 275, 0, [0], []) rfl rfl rfl ?_
  refine bGo hA 17 3 (638, .iload 4, 2, 276, 0, [4], []) rfl rfl rfl ?_
  refine bGo hA 17 4 (640, .iconst (4), 1, 277, 0, [], [(4, 0)]) rfl rfl rfl ?_
  refine bEqI bl_4 ?_
  refine bGo hA 17 5 (641, .iadd, 1, 278, 0, [], []) rfl rfl rfl ?_
  refine bEqI (bn_add l4 4) ?_
  refine bGo hA 17 6 (642, .iaload, 1, 279, 0, [], []) rfl rfl rfl ?_
  refine ⟨rfl, (bIxP (x := (l4 + 4)) (n := bLen σ 200) h.2.2.2.2.2.2.1 h.2.2.2.2.2.2.2.1), ?_⟩
  refine bEqL (x := (l4 + 4)) h.2.2.2.2.2.2.1 ?_
  refine bGo hA 17 7 (643, .aload_n 0, 1, 280, 0, [0], []) rfl rfl rfl ?_
  refine bGo hA 17 8 (644, .iload 4, 2, 281, 0, [4], []) rfl rfl rfl ?_
  refine bGo hA 17 9 (646, .iconst (5), 1, 282, 0, [], [(5, 0)]) rfl rfl rfl ?_
  refine bEqI bl_5 ?_
  refine bGo hA 17 10 (647, .iadd, 1, 283, 0, [], []) rfl rfl rfl ?_
  refine bEqI (bn_add l4 5) ?_
  refine bGo hA 17 11 (648, .iaload, 1, 284, 0, [], []) rfl rfl rfl ?_
  refine ⟨rfl, (bIxP (x := (l4 + 5)) (n := bLen σ 200) h.2.2.2.2.2.2.2.2.1 h.2.2.2.2.2.2.2.2.2.1), ?_⟩
  refine bEqL (x := (l4 + 5)) h.2.2.2.2.2.2.2.2.1 ?_
  refine bGo hA 17 12 (649, .aload_n 3, 1, 285, 0, [3], []) rfl rfl rfl ?_
  refine bGo hA 17 13 (650, .invokestatic 187, 3, 286, 0, [2, 319, 7], []) rfl rfl rfl ?_
  refine hC _ _ _ _ _ (bRn_e (fun r3 s1 q4 k2 => ?_)) h.2.2.2.2.2.2.2.2.2.2
  show A (286, [.ref 200, .ref 11, .ref 12, .ref 154, .int (bn l4), v5, v6, v7], [.int (bn r3)], s1)
  refine bGo hA 17 14 (653, .istore 5, 2, 287, 0, [5], []) rfl rfl rfl ?_
  refine bGo hA 17 15 (655, .aload_n 2, 1, 288, 0, [2], []) rfl rfl rfl ?_
  refine bGo hA 18 0 (656, .aload_n 0, 1, 289, 0, [0], []) rfl rfl rfl ?_
  refine bGo hA 18 1 (657, .iload 4, 2, 290, 0, [4], []) rfl rfl rfl ?_
  refine bGo hA 18 2 (659, .iconst (1), 1, 291, 0, [], [(1, 0)]) rfl rfl rfl ?_
  refine bEqI bl_1 ?_
  refine bGo hA 18 3 (660, .iadd, 1, 292, 0, [], []) rfl rfl rfl ?_
  refine bEqI (bn_add l4 1) ?_
  refine bGo hA 18 4 (661, .iaload, 1, 293, 0, [], []) rfl rfl rfl ?_
  refine ⟨rfl, (bIxP (x := (l4 + 1)) (n := bLen s1 200) h.1 k2.1), ?_⟩
  refine bEqL (x := (l4 + 1)) h.1 ?_
  refine bGo hA 18 5 (662, .aload_n 0, 1, 294, 0, [0], []) rfl rfl rfl ?_
  refine bGo hA 18 6 (663, .iload 4, 2, 295, 0, [4], []) rfl rfl rfl ?_
  refine bGo hA 18 7 (665, .iconst (2), 1, 296, 0, [], [(2, 0)]) rfl rfl rfl ?_
  refine bEqI bl_2 ?_
  refine bGo hA 18 8 (666, .iadd, 1, 297, 0, [], []) rfl rfl rfl ?_
  refine bEqI (bn_add l4 2) ?_
  refine bGo hA 18 9 (667, .iaload, 1, 298, 0, [], []) rfl rfl rfl ?_
  refine ⟨rfl, (bIxP (x := (l4 + 2)) (n := bLen s1 200) h.2.2.1 k2.2.1), ?_⟩
  refine bEqL (x := (l4 + 2)) h.2.2.1 ?_
  refine bGo hA 18 10 (668, .aload_n 0, 1, 299, 0, [0], []) rfl rfl rfl ?_
  refine bGo hA 18 11 (669, .iload 4, 2, 300, 0, [4], []) rfl rfl rfl ?_
  refine bGo hA 18 12 (671, .iconst (3), 1, 301, 0, [], [(3, 0)]) rfl rfl rfl ?_
  refine bEqI bl_3 ?_
  refine bGo hA 18 13 (672, .iadd, 1, 302, 0, [], []) rfl rfl rfl ?_
  refine bEqI (bn_add l4 3) ?_
  refine bGo hA 18 14 (673, .iaload, 1, 303, 0, [], []) rfl rfl rfl ?_
  refine ⟨rfl, (bIxP (x := (l4 + 3)) (n := bLen s1 200) h.2.2.2.2.1 k2.2.2.1), ?_⟩
  refine bEqL (x := (l4 + 3)) h.2.2.2.2.1 ?_
  refine bGo hA 18 15 (674, .aload_n 0, 1, 304, 0, [0], []) rfl rfl rfl ?_
  refine bGo hA 19 0 (675, .iload 4, 2, 305, 0, [4], []) rfl rfl rfl ?_
  refine bGo hA 19 1 (677, .iconst (4), 1, 306, 0, [], [(4, 0)]) rfl rfl rfl ?_
  refine bEqI bl_4 ?_
  refine bGo hA 19 2 (678, .iadd, 1, 307, 0, [], []) rfl rfl rfl ?_
  refine bEqI (bn_add l4 4) ?_
  refine bGo hA 19 3 (679, .iaload, 1, 308, 0, [], []) rfl rfl rfl ?_
  refine ⟨rfl, (bIxP (x := (l4 + 4)) (n := bLen s1 200) h.2.2.2.2.2.2.1 k2.2.2.2.1), ?_⟩
  refine bEqL (x := (l4 + 4)) h.2.2.2.2.2.2.1 ?_
  refine bGo hA 19 4 (680, .aload_n 0, 1, 309, 0, [0], []) rfl rfl rfl ?_
  refine bGo hA 19 5 (681, .iload 4, 2, 310, 0, [4], []) rfl rfl rfl ?_
  refine bGo hA 19 6 (683, .iconst (5), 1, 311, 0, [], [(5, 0)]) rfl rfl rfl ?_
  refine bEqI bl_5 ?_
  refine bGo hA 19 7 (684, .iadd, 1, 312, 0, [], []) rfl rfl rfl ?_
  refine bEqI (bn_add l4 5) ?_
  refine bGo hA 19 8 (685, .iaload, 1, 313, 0, [], []) rfl rfl rfl ?_
  refine ⟨rfl, (bIxP (x := (l4 + 5)) (n := bLen s1 200) h.2.2.2.2.2.2.2.2.1 k2.2.2.2.2.1), ?_⟩
  refine bEqL (x := (l4 + 5)) h.2.2.2.2.2.2.2.2.1 ?_
  refine bGo hA 19 9 (686, .invokevirtual 190, 3, 314, 0, [0, 12, 212, 5], []) rfl rfl rfl ?_
  refine ⟨rfl, ?_⟩
  refine hC _ _ _ _ _ (bRn_e (fun r7 s5 q8 k6 => ?_)) k2.2.2.2.2.2
  show A (314, [.ref 200, .ref 11, .ref 12, .ref 154, .int (bn l4), .int (bn r3), v6, v7], [.int (bn r7)], s5)
  refine bGo hA 19 10 (689, .istore 6, 2, 315, 0, [6], []) rfl rfl rfl ?_
  refine bGo hA 19 11 (691, .aload_n 2, 1, 316, 0, [2], []) rfl rfl rfl ?_
  refine bGo hA 19 12 (692, .invokevirtual 168, 3, 317, 0, [0, 12, 196, 0], []) rfl rfl rfl ?_
  refine ⟨rfl, ?_⟩
  refine hC _ _ _ _ _ (bRn_e (fun r11 s9 q12 k10 => ?_)) k6
  show A (317, [.ref 200, .ref 11, .ref 12, .ref 154, .int (bn l4), .int (bn r3), .int (bn r7), v7], [.int (bn r11)], s9)
  refine bGo hA 19 13 (695, .iload 5, 2, 318, 0, [5], []) rfl rfl rfl ?_
  refine bGo hA 19 14 (697, .if_icmp .eq (5), 3, 319, 321, [], []) rfl rfl rfl ?_
  refine bB_eq (x := r11) (y := r3) q12 q4 (fun c13 => ?_) (fun c13 => ?_)
  · refine bGo hA 20 1 (702, .iload 5, 2, 322, 0, [5], []) rfl rfl rfl ?_
    refine bGo hA 20 2 (704, .ifCond .ne (15), 3, 323, 332, [], []) rfl rfl rfl ?_
    refine bB_eq0 (x := r3) q4 (fun c14 => ?_) (fun c14 => ?_)
    · refine bGo hA 20 3 (707, .aload_n 3, 1, 324, 0, [3], []) rfl rfl rfl ?_
      refine bGo hA 20 4 (708, .iconst (0), 1, 325, 0, [], [(0, 0)]) rfl rfl rfl ?_
      refine bEqI bl_0 ?_
      refine bGo hA 20 5 (709, .laload, 1, 326, 0, [], []) rfl rfl rfl ?_
      refine ⟨rfl, (bIxP (x := 0) (n := 1) (by decide) (by decide)), ?_⟩
      refine bEqJ (x := 0) (by decide : bRg 0) ?_
      refine bGo hA 20 6 (710, .iload 6, 2, 327, 0, [6], []) rfl rfl rfl ?_
      refine bGo hA 20 7 (712, .i2l, 1, 328, 0, [], []) rfl rfl rfl ?_
      refine bGo hA 20 8 (713, .lcmp, 1, 329, 0, [], []) rfl rfl rfl ?_
      refine bEqI (bn_cmp (bj s9 154 0) (bL r7)) ?_
      refine bGo hA 20 9 (714, .ifCond .eq (5), 3, 330, 332, [], []) rfl rfl rfl ?_
      refine bB_eq0 (x := (bCmp (bj s9 154 0) (bL r7))) (bRgI _) (fun c15 => ?_) (fun c15 => ?_)
      · refine bGo hA 20 12 (719, .goto (2695), 3, 333, 2097, [], []) rfl rfl rfl ?_
        refine bGo hA 131 1 (3414, .iinc 4 (6), 3, 2098, 0, [4], [(6, 0)]) rfl rfl rfl ?_
        refine bEqC (fun v => A (2098, [.ref 200, .ref 11, .ref 12, .ref 154, .int v, .int (bn r3), .int (bn r7), v7], [], s9)) ((congrArg (fun w => bn l4 + w) bl_6).trans (bn_add l4 6)) ?_
        refine bGo hA 131 2 (3417, .goto (-3394), 3, 2099, 13, [], []) rfl rfl rfl ?_
        exact (((k10.1 c13).1 c14).1 c15).2
      · refine bGo hA 20 10 (717, .iconst (0), 1, 331, 0, [], [(0, 0)]) rfl rfl rfl ?_
        refine bEqI bl_0 ?_
        refine bGo hA 20 11 (718, .ireturn, 1, 332, 0, [2], []) rfl rfl rfl ?_
        exact ⟨b01 (Or.inl rfl), (((k10.1 c13).1 c14).2 c15)⟩
    · refine bGo hA 20 12 (719, .goto (2695), 3, 333, 2097, [], []) rfl rfl rfl ?_
      refine bGo hA 131 1 (3414, .iinc 4 (6), 3, 2098, 0, [4], [(6, 0)]) rfl rfl rfl ?_
      refine bEqC (fun v => A (2098, [.ref 200, .ref 11, .ref 12, .ref 154, .int v, .int (bn r3), .int (bn r7), v7], [], s9)) ((congrArg (fun w => bn l4 + w) bl_6).trans (bn_add l4 6)) ?_
      refine bGo hA 131 2 (3417, .goto (-3394), 3, 2099, 13, [], []) rfl rfl rfl ?_
      exact ((k10.1 c13).2 c14).2
  · refine bGo hA 19 15 (700, .iconst (0), 1, 320, 0, [], [(0, 0)]) rfl rfl rfl ?_
    refine bEqI bl_0 ?_
    refine bGo hA 20 0 (701, .ireturn, 1, 321, 0, [2], []) rfl rfl rfl ?_
    exact ⟨b01 (Or.inl rfl), (k10.2 c13)⟩

theorem sq357_333 {lvl : Nat} {C : bCall} {Q : bPost} {A : bPt → Prop} (hC : bMono C) (hA : bClosed lvl bm357 C Q A) {l4 : Int} {v5 : Value} {v6 : Value} {v7 : Value} {σ : bSt}  (h_l4 : bRg l4)
  (h : (bRg (l4 + 1) ∧ ((0 ≤ (l4 + 1) ∧ (l4 + 1) < (bLen σ 200 : Int)) ∧ (bRg (l4 + 2) ∧ ((0 ≤ (l4 + 2) ∧ (l4 + 2) < (bLen σ 200 : Int)) ∧ (C 320 [.ref 11, .int (bn (bi σ 200 (l4 + 1))), .int (bn (bi σ 200 (l4 + 2))), .ref 154] σ (bRn (fun r3 s1 => ((0 ≤ (l4 + 1) ∧ (l4 + 1) < (bLen s1 200 : Int)) ∧ ((0 ≤ (l4 + 2) ∧ (l4 + 2) < (bLen s1 200 : Int)) ∧ (C 213 [.ref 12, .int (bn (bi s1 200 (l4 + 1))), .int (bn (bi s1 200 (l4 + 2)))] s1 (bRn (fun r7 s5 => (C 196 [.ref 12] s5 (bRn (fun r11 s9 => ((r11 = r3 → ((r3 = 0 → (((bCmp (bj s9 154 0) (bL r7)) = 0 → (bRg (l4 + 6) ∧ A (13, [.ref 200, .ref 11, .ref 12, .ref 154, .int (bn (l4 + 6)), .int (bn r3), .int (bn r7), v7], [], s9))) ∧ (¬ (bCmp (bj s9 154 0) (bL r7)) = 0 → Q (.inl (some (.int (bn 0)))) s9))) ∧ (¬ r3 = 0 → (bRg (l4 + 6) ∧ A (13, [.ref 200, .ref 11, .ref 12, .ref 154, .int (bn (l4 + 6)), .int (bn r3), .int (bn r7), v7], [], s9))))) ∧ (¬ r11 = r3 → Q (.inl (some (.int (bn 0)))) s9)))))))))))))))))) : A (333, [.ref 200, .ref 11, .ref 12, .ref 154, .int (bn l4), v5, v6, v7], [], σ) := by
  refine bGo hA 20 13 (722, .aload_n 1, 1, 334, 0, [1], []) rfl rfl rfl ?_
  refine bGo hA 20 14 (723, .aload_n 0, 1, 335, 0, [0], []) rfl rfl rfl ?_
  refine bGo hA 20 15 (724, .iload 4, 2, 336, 0, [4], []) rfl rfl rfl ?_
  refine bGo hA 21 0 (726, .iconst (1), 1, 337, 0, [], [(1, 0)]) rfl rfl rfl ?_
  refine bEqI bl_1 ?_
  refine bGo hA 21 1 (727, .iadd, 1, 338, 0, [], []) rfl rfl rfl ?_
  refine bEqI (bn_add l4 1) ?_
  refine bGo hA 21 2 (728, .iaload, 1, 339, 0, [], []) rfl rfl rfl ?_
  refine ⟨rfl, (bIxP (x := (l4 + 1)) (n := bLen σ 200) h.1 h.2.1), ?_⟩
  refine bEqL (x := (l4 + 1)) h.1 ?_
  refine bGo hA 21 3 (729, .aload_n 0, 1, 340, 0, [0], []) rfl rfl rfl ?_
  refine bGo hA 21 4 (730, .iload 4, 2, 341, 0, [4], []) rfl rfl rfl ?_
  refine bGo hA 21 5 (732, .iconst (2), 1, 342, 0, [], [(2, 0)]) rfl rfl rfl ?_
  refine bEqI bl_2 ?_
  refine bGo hA 21 6 (733, .iadd, 1, 343, 0, [], []) rfl rfl rfl ?_
  refine bEqI (bn_add l4 2) ?_
  refine bGo hA 21 7 (734, .iaload, 1, 344, 0, [], []) rfl rfl rfl ?_
  refine ⟨rfl, (bIxP (x := (l4 + 2)) (n := bLen σ 200) h.2.2.1 h.2.2.2.1), ?_⟩
  refine bEqL (x := (l4 + 2)) h.2.2.1 ?_
  refine bGo hA 21 8 (735, .aload_n 3, 1, 345, 0, [3], []) rfl rfl rfl ?_
  refine bGo hA 21 9 (736, .invokestatic 191, 3, 346, 0, [2, 320, 4], []) rfl rfl rfl ?_
  refine hC _ _ _ _ _ (bRn_e (fun r3 s1 q4 k2 => ?_)) h.2.2.2.2
  show A (346, [.ref 200, .ref 11, .ref 12, .ref 154, .int (bn l4), v5, v6, v7], [.int (bn r3)], s1)
  refine bGo hA 21 10 (739, .istore 5, 2, 347, 0, [5], []) rfl rfl rfl ?_
  refine bGo hA 21 11 (741, .aload_n 2, 1, 348, 0, [2], []) rfl rfl rfl ?_
  refine bGo hA 21 12 (742, .aload_n 0, 1, 349, 0, [0], []) rfl rfl rfl ?_
  refine bGo hA 21 13 (743, .iload 4, 2, 350, 0, [4], []) rfl rfl rfl ?_
  refine bGo hA 21 14 (745, .iconst (1), 1, 351, 0, [], [(1, 0)]) rfl rfl rfl ?_
  refine bEqI bl_1 ?_
  refine bGo hA 21 15 (746, .iadd, 1, 352, 0, [], []) rfl rfl rfl ?_
  refine bEqI (bn_add l4 1) ?_
  refine bGo hA 22 0 (747, .iaload, 1, 353, 0, [], []) rfl rfl rfl ?_
  refine ⟨rfl, (bIxP (x := (l4 + 1)) (n := bLen s1 200) h.1 k2.1), ?_⟩
  refine bEqL (x := (l4 + 1)) h.1 ?_
  refine bGo hA 22 1 (748, .aload_n 0, 1, 354, 0, [0], []) rfl rfl rfl ?_
  refine bGo hA 22 2 (749, .iload 4, 2, 355, 0, [4], []) rfl rfl rfl ?_
  refine bGo hA 22 3 (751, .iconst (2), 1, 356, 0, [], [(2, 0)]) rfl rfl rfl ?_
  refine bEqI bl_2 ?_
  refine bGo hA 22 4 (752, .iadd, 1, 357, 0, [], []) rfl rfl rfl ?_
  refine bEqI (bn_add l4 2) ?_
  refine bGo hA 22 5 (753, .iaload, 1, 358, 0, [], []) rfl rfl rfl ?_
  refine ⟨rfl, (bIxP (x := (l4 + 2)) (n := bLen s1 200) h.2.2.1 k2.2.1), ?_⟩
  refine bEqL (x := (l4 + 2)) h.2.2.1 ?_
  refine bGo hA 22 6 (754, .invokevirtual 193, 3, 359, 0, [0, 12, 213, 2], []) rfl rfl rfl ?_
  refine ⟨rfl, ?_⟩
  refine hC _ _ _ _ _ (bRn_e (fun r7 s5 q8 k6 => ?_)) k2.2.2
  show A (359, [.ref 200, .ref 11, .ref 12, .ref 154, .int (bn l4), .int (bn r3), v6, v7], [.int (bn r7)], s5)
  refine bGo hA 22 7 (757, .istore 6, 2, 360, 0, [6], []) rfl rfl rfl ?_
  refine bGo hA 22 8 (759, .aload_n 2, 1, 361, 0, [2], []) rfl rfl rfl ?_
  refine bGo hA 22 9 (760, .invokevirtual 168, 3, 362, 0, [0, 12, 196, 0], []) rfl rfl rfl ?_
  refine ⟨rfl, ?_⟩
  refine hC _ _ _ _ _ (bRn_e (fun r11 s9 q12 k10 => ?_)) k6
  show A (362, [.ref 200, .ref 11, .ref 12, .ref 154, .int (bn l4), .int (bn r3), .int (bn r7), v7], [.int (bn r11)], s9)
  refine bGo hA 22 10 (763, .iload 5, 2, 363, 0, [5], []) rfl rfl rfl ?_
  refine bGo hA 22 11 (765, .if_icmp .eq (5), 3, 364, 366, [], []) rfl rfl rfl ?_
  refine bB_eq (x := r11) (y := r3) q12 q4 (fun c13 => ?_) (fun c13 => ?_)
  · refine bGo hA 22 14 (770, .iload 5, 2, 367, 0, [5], []) rfl rfl rfl ?_
    refine bGo hA 22 15 (772, .ifCond .ne (15), 3, 368, 377, [], []) rfl rfl rfl ?_
    refine bB_eq0 (x := r3) q4 (fun c14 => ?_) (fun c14 => ?_)
    · refine bGo hA 23 0 (775, .aload_n 3, 1, 369, 0, [3], []) rfl rfl rfl ?_
      refine bGo hA 23 1 (776, .iconst (0), 1, 370, 0, [], [(0, 0)]) rfl rfl rfl ?_
      refine bEqI bl_0 ?_
      refine bGo hA 23 2 (777, .laload, 1, 371, 0, [], []) rfl rfl rfl ?_
      refine ⟨rfl, (bIxP (x := 0) (n := 1) (by decide) (by decide)), ?_⟩
      refine bEqJ (x := 0) (by decide : bRg 0) ?_
      refine bGo hA 23 3 (778, .iload 6, 2, 372, 0, [6], []) rfl rfl rfl ?_
      refine bGo hA 23 4 (780, .i2l, 1, 373, 0, [], []) rfl rfl rfl ?_
      refine bGo hA 23 5 (781, .lcmp, 1, 374, 0, [], []) rfl rfl rfl ?_
      refine bEqI (bn_cmp (bj s9 154 0) (bL r7)) ?_
      refine bGo hA 23 6 (782, .ifCond .eq (5), 3, 375, 377, [], []) rfl rfl rfl ?_
      refine bB_eq0 (x := (bCmp (bj s9 154 0) (bL r7))) (bRgI _) (fun c15 => ?_) (fun c15 => ?_)
      · refine bGo hA 23 9 (787, .goto (2627), 3, 378, 2097, [], []) rfl rfl rfl ?_
        refine bGo hA 131 1 (3414, .iinc 4 (6), 3, 2098, 0, [4], [(6, 0)]) rfl rfl rfl ?_
        refine bEqC (fun v => A (2098, [.ref 200, .ref 11, .ref 12, .ref 154, .int v, .int (bn r3), .int (bn r7), v7], [], s9)) ((congrArg (fun w => bn l4 + w) bl_6).trans (bn_add l4 6)) ?_
        refine bGo hA 131 2 (3417, .goto (-3394), 3, 2099, 13, [], []) rfl rfl rfl ?_
        exact (((k10.1 c13).1 c14).1 c15).2
      · refine bGo hA 23 7 (785, .iconst (0), 1, 376, 0, [], [(0, 0)]) rfl rfl rfl ?_
        refine bEqI bl_0 ?_
        refine bGo hA 23 8 (786, .ireturn, 1, 377, 0, [2], []) rfl rfl rfl ?_
        exact ⟨b01 (Or.inl rfl), (((k10.1 c13).1 c14).2 c15)⟩
    · refine bGo hA 23 9 (787, .goto (2627), 3, 378, 2097, [], []) rfl rfl rfl ?_
      refine bGo hA 131 1 (3414, .iinc 4 (6), 3, 2098, 0, [4], [(6, 0)]) rfl rfl rfl ?_
      refine bEqC (fun v => A (2098, [.ref 200, .ref 11, .ref 12, .ref 154, .int v, .int (bn r3), .int (bn r7), v7], [], s9)) ((congrArg (fun w => bn l4 + w) bl_6).trans (bn_add l4 6)) ?_
      refine bGo hA 131 2 (3417, .goto (-3394), 3, 2099, 13, [], []) rfl rfl rfl ?_
      exact ((k10.1 c13).2 c14).2
  · refine bGo hA 22 12 (768, .iconst (0), 1, 365, 0, [], [(0, 0)]) rfl rfl rfl ?_
    refine bEqI bl_0 ?_
    refine bGo hA 22 13 (769, .ireturn, 1, 366, 0, [2], []) rfl rfl rfl ?_
    exact ⟨b01 (Or.inl rfl), (k10.2 c13)⟩

theorem sq357_378 {lvl : Nat} {C : bCall} {Q : bPost} {A : bPt → Prop} (hC : bMono C) (hA : bClosed lvl bm357 C Q A) {l4 : Int} {v5 : Value} {v6 : Value} {v7 : Value} {σ : bSt}  (h_l4 : bRg l4)
  (h : (bRg (l4 + 1) ∧ ((0 ≤ (l4 + 1) ∧ (l4 + 1) < (bLen σ 200 : Int)) ∧ (bRg (l4 + 2) ∧ ((0 ≤ (l4 + 2) ∧ (l4 + 2) < (bLen σ 200 : Int)) ∧ (C 321 [.ref 11, .int (bn (bi σ 200 (l4 + 1))), .int (bn (bi σ 200 (l4 + 2))), .ref 154] σ (bRn (fun r3 s1 => ((0 ≤ (l4 + 1) ∧ (l4 + 1) < (bLen s1 200 : Int)) ∧ ((0 ≤ (l4 + 2) ∧ (l4 + 2) < (bLen s1 200 : Int)) ∧ (C 219 [.ref 12, .int (bn (bi s1 200 (l4 + 1))), .int (bn (bi s1 200 (l4 + 2)))] s1 (bRn (fun r7 s5 => (C 196 [.ref 12] s5 (bRn (fun r11 s9 => ((r11 = r3 → ((r3 = 0 → (((bCmp (bj s9 154 0) (bL r7)) = 0 → (bRg (l4 + 6) ∧ A (13, [.ref 200, .ref 11, .ref 12, .ref 154, .int (bn (l4 + 6)), .int (bn r3), .int (bn r7), v7], [], s9))) ∧ (¬ (bCmp (bj s9 154 0) (bL r7)) = 0 → Q (.inl (some (.int (bn 0)))) s9))) ∧ (¬ r3 = 0 → (bRg (l4 + 6) ∧ A (13, [.ref 200, .ref 11, .ref 12, .ref 154, .int (bn (l4 + 6)), .int (bn r3), .int (bn r7), v7], [], s9))))) ∧ (¬ r11 = r3 → Q (.inl (some (.int (bn 0)))) s9)))))))))))))))))) : A (378, [.ref 200, .ref 11, .ref 12, .ref 154, .int (bn l4), v5, v6, v7], [], σ) := by
  refine bGo hA 23 10 (790, .aload_n 1, 1, 379, 0, [1], []) rfl rfl rfl ?_
  refine bGo hA 23 11 (791, .aload_n 0, 1, 380, 0, [0], []) rfl rfl rfl ?_
  refine bGo hA 23 12 (792, .iload 4, 2, 381, 0, [4], []) rfl rfl rfl ?_
  refine bGo hA 23 13 (794, .iconst (1), 1, 382, 0, [], [(1, 0)]) rfl rfl rfl ?_
  refine bEqI bl_1 ?_
  refine bGo hA 23 14 (795, .iadd, 1, 383, 0, [], []) rfl rfl rfl ?_
  refine bEqI (bn_add l4 1) ?_
  refine bGo hA 23 15 (796, .iaload, 1, 384, 0, [], []) rfl rfl rfl ?_
  refine ⟨rfl, (bIxP (x := (l4 + 1)) (n := bLen σ 200) h.1 h.2.1), ?_⟩
  refine bEqL (x := (l4 + 1)) h.1 ?_
  refine bGo hA 24 0 (797, .aload_n 0, 1, 385, 0, [0], []) rfl rfl rfl ?_
  refine bGo hA 24 1 (798, .iload 4, 2, 386, 0, [4], []) rfl rfl rfl ?_
  refine bGo hA 24 2 (800, .iconst (2), 1, 387, 0, [], [(2, 0)]) rfl rfl rfl ?_
  refine bEqI bl_2 ?_
  refine bGo hA 24 3 (801, .iadd, 1, 388, 0, [], []) rfl rfl rfl ?_
  refine bEqI (bn_add l4 2) ?_
  refine bGo hA 24 4 (802, .iaload, 1, 389, 0, [], []) rfl rfl rfl ?_
  refine ⟨rfl, (bIxP (x := (l4 + 2)) (n := bLen σ 200) h.2.2.1 h.2.2.2.1), ?_⟩
  refine bEqL (x := (l4 + 2)) h.2.2.1 ?_
  refine bGo hA 24 5 (803, .aload_n 3, 1, 390, 0, [3], []) rfl rfl rfl ?_
  refine bGo hA 24 6 (804, .invokestatic 194, 3, 391, 0, [2, 321, 4], []) rfl rfl rfl ?_
  refine hC _ _ _ _ _ (bRn_e (fun r3 s1 q4 k2 => ?_)) h.2.2.2.2
  show A (391, [.ref 200, .ref 11, .ref 12, .ref 154, .int (bn l4), v5, v6, v7], [.int (bn r3)], s1)
  refine bGo hA 24 7 (807, .istore 5, 2, 392, 0, [5], []) rfl rfl rfl ?_
  refine bGo hA 24 8 (809, .aload_n 2, 1, 393, 0, [2], []) rfl rfl rfl ?_
  refine bGo hA 24 9 (810, .aload_n 0, 1, 394, 0, [0], []) rfl rfl rfl ?_
  refine bGo hA 24 10 (811, .iload 4, 2, 395, 0, [4], []) rfl rfl rfl ?_
  refine bGo hA 24 11 (813, .iconst (1), 1, 396, 0, [], [(1, 0)]) rfl rfl rfl ?_
  refine bEqI bl_1 ?_
  refine bGo hA 24 12 (814, .iadd, 1, 397, 0, [], []) rfl rfl rfl ?_
  refine bEqI (bn_add l4 1) ?_
  refine bGo hA 24 13 (815, .iaload, 1, 398, 0, [], []) rfl rfl rfl ?_
  refine ⟨rfl, (bIxP (x := (l4 + 1)) (n := bLen s1 200) h.1 k2.1), ?_⟩
  refine bEqL (x := (l4 + 1)) h.1 ?_
  refine bGo hA 24 14 (816, .aload_n 0, 1, 399, 0, [0], []) rfl rfl rfl ?_
  refine bGo hA 24 15 (817, .iload 4, 2, 400, 0, [4], []) rfl rfl rfl ?_
  refine bGo hA 25 0 (819, .iconst (2), 1, 401, 0, [], [(2, 0)]) rfl rfl rfl ?_
  refine bEqI bl_2 ?_
  refine bGo hA 25 1 (820, .iadd, 1, 402, 0, [], []) rfl rfl rfl ?_
  refine bEqI (bn_add l4 2) ?_
  refine bGo hA 25 2 (821, .iaload, 1, 403, 0, [], []) rfl rfl rfl ?_
  refine ⟨rfl, (bIxP (x := (l4 + 2)) (n := bLen s1 200) h.2.2.1 k2.2.1), ?_⟩
  refine bEqL (x := (l4 + 2)) h.2.2.1 ?_
  refine bGo hA 25 3 (822, .invokevirtual 196, 3, 404, 0, [0, 12, 219, 2], []) rfl rfl rfl ?_
  refine ⟨rfl, ?_⟩
  refine hC _ _ _ _ _ (bRn_e (fun r7 s5 q8 k6 => ?_)) k2.2.2
  show A (404, [.ref 200, .ref 11, .ref 12, .ref 154, .int (bn l4), .int (bn r3), v6, v7], [.int (bn r7)], s5)
  refine bGo hA 25 4 (825, .istore 6, 2, 405, 0, [6], []) rfl rfl rfl ?_
  refine bGo hA 25 5 (827, .aload_n 2, 1, 406, 0, [2], []) rfl rfl rfl ?_
  refine bGo hA 25 6 (828, .invokevirtual 168, 3, 407, 0, [0, 12, 196, 0], []) rfl rfl rfl ?_
  refine ⟨rfl, ?_⟩
  refine hC _ _ _ _ _ (bRn_e (fun r11 s9 q12 k10 => ?_)) k6
  show A (407, [.ref 200, .ref 11, .ref 12, .ref 154, .int (bn l4), .int (bn r3), .int (bn r7), v7], [.int (bn r11)], s9)
  refine bGo hA 25 7 (831, .iload 5, 2, 408, 0, [5], []) rfl rfl rfl ?_
  refine bGo hA 25 8 (833, .if_icmp .eq (5), 3, 409, 411, [], []) rfl rfl rfl ?_
  refine bB_eq (x := r11) (y := r3) q12 q4 (fun c13 => ?_) (fun c13 => ?_)
  · refine bGo hA 25 11 (838, .iload 5, 2, 412, 0, [5], []) rfl rfl rfl ?_
    refine bGo hA 25 12 (840, .ifCond .ne (15), 3, 413, 422, [], []) rfl rfl rfl ?_
    refine bB_eq0 (x := r3) q4 (fun c14 => ?_) (fun c14 => ?_)
    · refine bGo hA 25 13 (843, .aload_n 3, 1, 414, 0, [3], []) rfl rfl rfl ?_
      refine bGo hA 25 14 (844, .iconst (0), 1, 415, 0, [], [(0, 0)]) rfl rfl rfl ?_
      refine bEqI bl_0 ?_
      refine bGo hA 25 15 (845, .laload, 1, 416, 0, [], []) rfl rfl rfl ?_
      refine ⟨rfl, (bIxP (x := 0) (n := 1) (by decide) (by decide)), ?_⟩
      refine bEqJ (x := 0) (by decide : bRg 0) ?_
      refine bGo hA 26 0 (846, .iload 6, 2, 417, 0, [6], []) rfl rfl rfl ?_
      refine bGo hA 26 1 (848, .i2l, 1, 418, 0, [], []) rfl rfl rfl ?_
      refine bGo hA 26 2 (849, .lcmp, 1, 419, 0, [], []) rfl rfl rfl ?_
      refine bEqI (bn_cmp (bj s9 154 0) (bL r7)) ?_
      refine bGo hA 26 3 (850, .ifCond .eq (5), 3, 420, 422, [], []) rfl rfl rfl ?_
      refine bB_eq0 (x := (bCmp (bj s9 154 0) (bL r7))) (bRgI _) (fun c15 => ?_) (fun c15 => ?_)
      · refine bGo hA 26 6 (855, .goto (2559), 3, 423, 2097, [], []) rfl rfl rfl ?_
        refine bGo hA 131 1 (3414, .iinc 4 (6), 3, 2098, 0, [4], [(6, 0)]) rfl rfl rfl ?_
        refine bEqC (fun v => A (2098, [.ref 200, .ref 11, .ref 12, .ref 154, .int v, .int (bn r3), .int (bn r7), v7], [], s9)) ((congrArg (fun w => bn l4 + w) bl_6).trans (bn_add l4 6)) ?_
        refine bGo hA 131 2 (3417, .goto (-3394), 3, 2099, 13, [], []) rfl rfl rfl ?_
        exact (((k10.1 c13).1 c14).1 c15).2
      · refine bGo hA 26 4 (853, .iconst (0), 1, 421, 0, [], [(0, 0)]) rfl rfl rfl ?_
        refine bEqI bl_0 ?_
        refine bGo hA 26 5 (854, .ireturn, 1, 422, 0, [2], []) rfl rfl rfl ?_
        exact ⟨b01 (Or.inl rfl), (((k10.1 c13).1 c14).2 c15)⟩
    · refine bGo hA 26 6 (855, .goto (2559), 3, 423, 2097, [], []) rfl rfl rfl ?_
      refine bGo hA 131 1 (3414, .iinc 4 (6), 3, 2098, 0, [4], [(6, 0)]) rfl rfl rfl ?_
      refine bEqC (fun v => A (2098, [.ref 200, .ref 11, .ref 12, .ref 154, .int v, .int (bn r3), .int (bn r7), v7], [], s9)) ((congrArg (fun w => bn l4 + w) bl_6).trans (bn_add l4 6)) ?_
      refine bGo hA 131 2 (3417, .goto (-3394), 3, 2099, 13, [], []) rfl rfl rfl ?_
      exact ((k10.1 c13).2 c14).2
  · refine bGo hA 25 9 (836, .iconst (0), 1, 410, 0, [], [(0, 0)]) rfl rfl rfl ?_
    refine bEqI bl_0 ?_
    refine bGo hA 25 10 (837, .ireturn, 1, 411, 0, [2], []) rfl rfl rfl ?_
    exact ⟨b01 (Or.inl rfl), (k10.2 c13)⟩

theorem sq357_423 {lvl : Nat} {C : bCall} {Q : bPost} {A : bPt → Prop} (hC : bMono C) (hA : bClosed lvl bm357 C Q A) {l4 : Int} {v5 : Value} {v6 : Value} {v7 : Value} {σ : bSt}  (h_l4 : bRg l4)
  (h : (bRg (l4 + 1) ∧ ((0 ≤ (l4 + 1) ∧ (l4 + 1) < (bLen σ 200 : Int)) ∧ (bRg (l4 + 2) ∧ ((0 ≤ (l4 + 2) ∧ (l4 + 2) < (bLen σ 200 : Int)) ∧ (bRg (l4 + 3) ∧ ((0 ≤ (l4 + 3) ∧ (l4 + 3) < (bLen σ 200 : Int)) ∧ (C 322 [.ref 11, .int (bn (bi σ 200 (l4 + 1))), .int (bn (bi σ 200 (l4 + 2))), .int (bn (bi σ 200 (l4 + 3))), .ref 154] σ (bRn (fun r3 s1 => ((0 ≤ (l4 + 1) ∧ (l4 + 1) < (bLen s1 200 : Int)) ∧ ((0 ≤ (l4 + 2) ∧ (l4 + 2) < (bLen s1 200 : Int)) ∧ ((0 ≤ (l4 + 3) ∧ (l4 + 3) < (bLen s1 200 : Int)) ∧ (C 220 [.ref 12, .int (bn (bi s1 200 (l4 + 1))), .int (bn (bi s1 200 (l4 + 2))), .int (bn (bi s1 200 (l4 + 3)))] s1 (bRn (fun r7 s5 => (C 196 [.ref 12] s5 (bRn (fun r11 s9 => ((r11 = r3 → ((r3 = 0 → (((bCmp (bj s9 154 0) (bL r7)) = 0 → (bRg (l4 + 6) ∧ A (13, [.ref 200, .ref 11, .ref 12, .ref 154, .int (bn (l4 + 6)), .int (bn r3), .int (bn r7), v7], [], s9))) ∧ (¬ (bCmp (bj s9 154 0) (bL r7)) = 0 → Q (.inl (some (.int (bn 0)))) s9))) ∧ (¬ r3 = 0 → (bRg (l4 + 6) ∧ A (13, [.ref 200, .ref 11, .ref 12, .ref 154, .int (bn (l4 + 6)), .int (bn r3), .int (bn r7), v7], [], s9))))) ∧ (¬ r11 = r3 → Q (.inl (some (.int (bn 0)))) s9))))))))))))))))))))) : A (423, [.ref 200, .ref 11, .ref 12, .ref 154, .int (bn l4), v5, v6, v7], [], σ) := by
  refine bGo hA 26 7 (858, .aload_n 1, 1, 424, 0, [1], []) rfl rfl rfl ?_
  refine bGo hA 26 8 (859, .aload_n 0, 1, 425, 0, [0], []) rfl rfl rfl ?_
  refine bGo hA 26 9 (860, .iload 4, 2, 426, 0, [4], []) rfl rfl rfl ?_
  refine bGo hA 26 10 (862, .iconst (1), 1, 427, 0, [], [(1, 0)]) rfl rfl rfl ?_
  refine bEqI bl_1 ?_
  refine bGo hA 26 11 (863, .iadd, 1, 428, 0, [], []) rfl rfl rfl ?_
  refine bEqI (bn_add l4 1) ?_
  refine bGo hA 26 12 (864, .iaload, 1, 429, 0, [], []) rfl rfl rfl ?_
  refine ⟨rfl, (bIxP (x := (l4 + 1)) (n := bLen σ 200) h.1 h.2.1), ?_⟩
  refine bEqL (x := (l4 + 1)) h.1 ?_
  refine bGo hA 26 13 (865, .aload_n 0, 1, 430, 0, [0], []) rfl rfl rfl ?_
  refine bGo hA 26 14 (866, .iload 4, 2, 431, 0, [4], []) rfl rfl rfl ?_
  refine bGo hA 26 15 (868, .iconst (2), 1, 432, 0, [], [(2, 0)]) rfl rfl rfl ?_
  refine bEqI bl_2 ?_
  refine bGo hA 27 0 (869, .iadd, 1, 433, 0, [], []) rfl rfl rfl ?_
  refine bEqI (bn_add l4 2) ?_
  refine bGo hA 27 1 (870, .iaload, 1, 434, 0, [], []) rfl rfl rfl ?_
  refine ⟨rfl, (bIxP (x := (l4 + 2)) (n := bLen σ 200) h.2.2.1 h.2.2.2.1), ?_⟩
  refine bEqL (x := (l4 + 2)) h.2.2.1 ?_
  refine bGo hA 27 2 (871, .aload_n 0, 1, 435, 0, [0], []) rfl rfl rfl ?_
  refine bGo hA 27 3 (872, .iload 4, 2, 436, 0, [4], []) rfl rfl rfl ?_
  refine bGo hA 27 4 (874, .iconst (3), 1, 437, 0, [], [(3, 0)]) rfl rfl rfl ?_
  refine bEqI bl_3 ?_
  refine bGo hA 27 5 (875, .iadd, 1, 438, 0, [], []) rfl rfl rfl ?_
  refine bEqI (bn_add l4 3) ?_
  refine bGo hA 27 6 (876, .iaload, 1, 439, 0, [], []) rfl rfl rfl ?_
  refine ⟨rfl, (bIxP (x := (l4 + 3)) (n := bLen σ 200) h.2.2.2.2.1 h.2.2.2.2.2.1), ?_⟩
  refine bEqL (x := (l4 + 3)) h.2.2.2.2.1 ?_
  refine bGo hA 27 7 (877, .aload_n 3, 1, 440, 0, [3], []) rfl rfl rfl ?_
  refine bGo hA 27 8 (878, .invokestatic 197, 3, 441, 0, [2, 322, 5], []) rfl rfl rfl ?_
  refine hC _ _ _ _ _ (bRn_e (fun r3 s1 q4 k2 => ?_)) h.2.2.2.2.2.2
  show A (441, [.ref 200, .ref 11, .ref 12, .ref 154, .int (bn l4), v5, v6, v7], [.int (bn r3)], s1)
  refine bGo hA 27 9 (881, .istore 5, 2, 442, 0, [5], []) rfl rfl rfl ?_
  refine bGo hA 27 10 (883, .aload_n 2, 1, 443, 0, [2], []) rfl rfl rfl ?_
  refine bGo hA 27 11 (884, .aload_n 0, 1, 444, 0, [0], []) rfl rfl rfl ?_
  refine bGo hA 27 12 (885, .iload 4, 2, 445, 0, [4], []) rfl rfl rfl ?_
  refine bGo hA 27 13 (887, .iconst (1), 1, 446, 0, [], [(1, 0)]) rfl rfl rfl ?_
  refine bEqI bl_1 ?_
  refine bGo hA 27 14 (888, .iadd, 1, 447, 0, [], []) rfl rfl rfl ?_
  refine bEqI (bn_add l4 1) ?_
  refine bGo hA 27 15 (889, .iaload, 1, 448, 0, [], []) rfl rfl rfl ?_
  refine ⟨rfl, (bIxP (x := (l4 + 1)) (n := bLen s1 200) h.1 k2.1), ?_⟩
  refine bEqL (x := (l4 + 1)) h.1 ?_
  refine bGo hA 28 0 (890, .aload_n 0, 1, 449, 0, [0], []) rfl rfl rfl ?_
  refine bGo hA 28 1 (891, .iload 4, 2, 450, 0, [4], []) rfl rfl rfl ?_
  refine bGo hA 28 2 (893, .iconst (2), 1, 451, 0, [], [(2, 0)]) rfl rfl rfl ?_
  refine bEqI bl_2 ?_
  refine bGo hA 28 3 (894, .iadd, 1, 452, 0, [], []) rfl rfl rfl ?_
  refine bEqI (bn_add l4 2) ?_
  refine bGo hA 28 4 (895, .iaload, 1, 453, 0, [], []) rfl rfl rfl ?_
  refine ⟨rfl, (bIxP (x := (l4 + 2)) (n := bLen s1 200) h.2.2.1 k2.2.1), ?_⟩
  refine bEqL (x := (l4 + 2)) h.2.2.1 ?_
  refine bGo hA 28 5 (896, .aload_n 0, 1, 454, 0, [0], []) rfl rfl rfl ?_
  refine bGo hA 28 6 (897, .iload 4, 2, 455, 0, [4], []) rfl rfl rfl ?_
  refine bGo hA 28 7 (899, .iconst (3), 1, 456, 0, [], [(3, 0)]) rfl rfl rfl ?_
  refine bEqI bl_3 ?_
  refine bGo hA 28 8 (900, .iadd, 1, 457, 0, [], []) rfl rfl rfl ?_
  refine bEqI (bn_add l4 3) ?_
  refine bGo hA 28 9 (901, .iaload, 1, 458, 0, [], []) rfl rfl rfl ?_
  refine ⟨rfl, (bIxP (x := (l4 + 3)) (n := bLen s1 200) h.2.2.2.2.1 k2.2.2.1), ?_⟩
  refine bEqL (x := (l4 + 3)) h.2.2.2.2.1 ?_
  refine bGo hA 28 10 (902, .invokevirtual 200, 3, 459, 0, [0, 12, 220, 3], []) rfl rfl rfl ?_
  refine ⟨rfl, ?_⟩
  refine hC _ _ _ _ _ (bRn_e (fun r7 s5 q8 k6 => ?_)) k2.2.2.2
  show A (459, [.ref 200, .ref 11, .ref 12, .ref 154, .int (bn l4), .int (bn r3), v6, v7], [.int (bn r7)], s5)
  refine bGo hA 28 11 (905, .istore 6, 2, 460, 0, [6], []) rfl rfl rfl ?_
  refine bGo hA 28 12 (907, .aload_n 2, 1, 461, 0, [2], []) rfl rfl rfl ?_
  refine bGo hA 28 13 (908, .invokevirtual 168, 3, 462, 0, [0, 12, 196, 0], []) rfl rfl rfl ?_
  refine ⟨rfl, ?_⟩
  refine hC _ _ _ _ _ (bRn_e (fun r11 s9 q12 k10 => ?_)) k6
  show A (462, [.ref 200, .ref 11, .ref 12, .ref 154, .int (bn l4), .int (bn r3), .int (bn r7), v7], [.int (bn r11)], s9)
  refine bGo hA 28 14 (911, .iload 5, 2, 463, 0, [5], []) rfl rfl rfl ?_
  refine bGo hA 28 15 (913, .if_icmp .eq (5), 3, 464, 466, [], []) rfl rfl rfl ?_
  refine bB_eq (x := r11) (y := r3) q12 q4 (fun c13 => ?_) (fun c13 => ?_)
  · refine bGo hA 29 2 (918, .iload 5, 2, 467, 0, [5], []) rfl rfl rfl ?_
    refine bGo hA 29 3 (920, .ifCond .ne (15), 3, 468, 477, [], []) rfl rfl rfl ?_
    refine bB_eq0 (x := r3) q4 (fun c14 => ?_) (fun c14 => ?_)
    · refine bGo hA 29 4 (923, .aload_n 3, 1, 469, 0, [3], []) rfl rfl rfl ?_
      refine bGo hA 29 5 (924, .iconst (0), 1, 470, 0, [], [(0, 0)]) rfl rfl rfl ?_
      refine bEqI bl_0 ?_
      refine bGo hA 29 6 (925, .laload, 1, 471, 0, [], []) rfl rfl rfl ?_
      refine ⟨rfl, (bIxP (x := 0) (n := 1) (by decide) (by decide)), ?_⟩
      refine bEqJ (x := 0) (by decide : bRg 0) ?_
      refine bGo hA 29 7 (926, .iload 6, 2, 472, 0, [6], []) rfl rfl rfl ?_
      refine bGo hA 29 8 (928, .i2l, 1, 473, 0, [], []) rfl rfl rfl ?_
      refine bGo hA 29 9 (929, .lcmp, 1, 474, 0, [], []) rfl rfl rfl ?_
      refine bEqI (bn_cmp (bj s9 154 0) (bL r7)) ?_
      refine bGo hA 29 10 (930, .ifCond .eq (5), 3, 475, 477, [], []) rfl rfl rfl ?_
      refine bB_eq0 (x := (bCmp (bj s9 154 0) (bL r7))) (bRgI _) (fun c15 => ?_) (fun c15 => ?_)
      · refine bGo hA 29 13 (935, .goto (2479), 3, 478, 2097, [], []) rfl rfl rfl ?_
        refine bGo hA 131 1 (3414, .iinc 4 (6), 3, 2098, 0, [4], [(6, 0)]) rfl rfl rfl ?_
        refine bEqC (fun v => A (2098, [.ref 200, .ref 11, .ref 12, .ref 154, .int v, .int (bn r3), .int (bn r7), v7], [], s9)) ((congrArg (fun w => bn l4 + w) bl_6).trans (bn_add l4 6)) ?_
        refine bGo hA 131 2 (3417, .goto (-3394), 3, 2099, 13, [], []) rfl rfl rfl ?_
        exact (((k10.1 c13).1 c14).1 c15).2
      · refine bGo hA 29 11 (933, .iconst (0), 1, 476, 0, [], [(0, 0)]) rfl rfl rfl ?_
        refine bEqI bl_0 ?_
        refine bGo hA 29 12 (934, .ireturn, 1, 477, 0, [2], []) rfl rfl rfl ?_
        exact ⟨b01 (Or.inl rfl), (((k10.1 c13).1 c14).2 c15)⟩
    · refine bGo hA 29 13 (935, .goto (2479), 3, 478, 2097, [], []) rfl rfl rfl ?_
      refine bGo hA 131 1 (3414, .iinc 4 (6), 3, 2098, 0, [4], [(6, 0)]) rfl rfl rfl ?_
      refine bEqC (fun v => A (2098, [.ref 200, .ref 11, .ref 12, .ref 154, .int v, .int (bn r3), .int (bn r7), v7], [], s9)) ((congrArg (fun w => bn l4 + w) bl_6).trans (bn_add l4 6)) ?_
      refine bGo hA 131 2 (3417, .goto (-3394), 3, 2099, 13, [], []) rfl rfl rfl ?_
      exact ((k10.1 c13).2 c14).2
  · refine bGo hA 29 0 (916, .iconst (0), 1, 465, 0, [], [(0, 0)]) rfl rfl rfl ?_
    refine bEqI bl_0 ?_
    refine bGo hA 29 1 (917, .ireturn, 1, 466, 0, [2], []) rfl rfl rfl ?_
    exact ⟨b01 (Or.inl rfl), (k10.2 c13)⟩

theorem sq357_478 {lvl : Nat} {C : bCall} {Q : bPost} {A : bPt → Prop} (hC : bMono C) (hA : bClosed lvl bm357 C Q A) {l4 : Int} {v5 : Value} {v6 : Value} {v7 : Value} {σ : bSt}  (h_l4 : bRg l4)
  (h : (bRg (l4 + 1) ∧ ((0 ≤ (l4 + 1) ∧ (l4 + 1) < (bLen σ 200 : Int)) ∧ (bRg (l4 + 2) ∧ ((0 ≤ (l4 + 2) ∧ (l4 + 2) < (bLen σ 200 : Int)) ∧ (C 323 [.ref 11, .int (bn (bi σ 200 (l4 + 1))), .int (bn (bi σ 200 (l4 + 2))), .ref 154] σ (bRn (fun r3 s1 => ((0 ≤ (l4 + 1) ∧ (l4 + 1) < (bLen s1 200 : Int)) ∧ ((0 ≤ (l4 + 2) ∧ (l4 + 2) < (bLen s1 200 : Int)) ∧ (C 221 [.ref 12, .int (bn (bi s1 200 (l4 + 1))), .int (bn (bi s1 200 (l4 + 2)))] s1 (bRn (fun r7 s5 => (C 196 [.ref 12] s5 (bRn (fun r11 s9 => ((r11 = r3 → ((r3 = 0 → (((bCmp (bj s9 154 0) (bL r7)) = 0 → (bRg (l4 + 6) ∧ A (13, [.ref 200, .ref 11, .ref 12, .ref 154, .int (bn (l4 + 6)), .int (bn r3), .int (bn r7), v7], [], s9))) ∧ (¬ (bCmp (bj s9 154 0) (bL r7)) = 0 → Q (.inl (some (.int (bn 0)))) s9))) ∧ (¬ r3 = 0 → (bRg (l4 + 6) ∧ A (13, [.ref 200, .ref 11, .ref 12, .ref 154, .int (bn (l4 + 6)), .int (bn r3), .int (bn r7), v7], [], s9))))) ∧ (¬ r11 = r3 → Q (.inl (some (.int (bn 0)))) s9)))))))))))))))))) : A (478, [.ref 200, .ref 11, .ref 12, .ref 154, .int (bn l4), v5, v6, v7], [], σ) := by
  refine bGo hA 29 14 (938, .aload_n 1, 1, 479, 0, [1], []) rfl rfl rfl ?_
  refine bGo hA 29 15 (939, .aload_n 0, 1, 480, 0, [0], []) rfl rfl rfl ?_
  refine bGo hA 30 0 (940, .iload 4, 2, 481, 0, [4], []) rfl rfl rfl ?_
  refine bGo hA 30 1 (942, .iconst (1), 1, 482, 0, [], [(1, 0)]) rfl rfl rfl ?_
  refine bEqI bl_1 ?_
  refine bGo hA 30 2 (943, .iadd, 1, 483, 0, [], []) rfl rfl rfl ?_
  refine bEqI (bn_add l4 1) ?_
  refine bGo hA 30 3 (944, .iaload, 1, 484, 0, [], []) rfl rfl rfl ?_
  refine ⟨rfl, (bIxP (x := (l4 + 1)) (n := bLen σ 200) h.1 h.2.1), ?_⟩
  refine bEqL (x := (l4 + 1)) h.1 ?_
  refine bGo hA 30 4 (945, .aload_n 0, 1, 485, 0, [0], []) rfl rfl rfl ?_
  refine bGo hA 30 5 (946, .iload 4, 2, 486, 0, [4], []) rfl rfl rfl ?_
  refine bGo hA 30 6 (948, .iconst (2), 1, 487, 0, [], [(2, 0)]) rfl rfl rfl ?_
  refine bEqI bl_2 ?_
  refine bGo hA 30 7 (949, .iadd, 1, 488, 0, [], []) rfl rfl rfl ?_
  refine bEqI (bn_add l4 2) ?_
  refine bGo hA 30 8 (950, .iaload, 1, 489, 0, [], []) rfl rfl rfl ?_
  refine ⟨rfl, (bIxP (x := (l4 + 2)) (n := bLen σ 200) h.2.2.1 h.2.2.2.1), ?_⟩
  refine bEqL (x := (l4 + 2)) h.2.2.1 ?_
  refine bGo hA 30 9 (951, .aload_n 3, 1, 490, 0, [3], []) rfl rfl rfl ?_
  refine bGo hA 30 10 (952, .invokestatic 201, 3, 491, 0, [2, 323, 4], []) rfl rfl rfl ?_
  refine hC _ _ _ _ _ (bRn_e (fun r3 s1 q4 k2 => ?_)) h.2.2.2.2
  show A (491, [.ref 200, .ref 11, .ref 12, .ref 154, .int (bn l4), v5, v6, v7], [.int (bn r3)], s1)
  refine bGo hA 30 11 (955, .istore 5, 2, 492, 0, [5], []) rfl rfl rfl ?_
  refine bGo hA 30 12 (957, .aload_n 2, 1, 493, 0, [2], []) rfl rfl rfl ?_
  refine bGo hA 30 13 (958, .aload_n 0, 1, 494, 0, [0], []) rfl rfl rfl ?_
  refine bGo hA 30 14 (959, .iload 4, 2, 495, 0, [4], []) rfl rfl rfl ?_
  refine bGo hA 30 15 (961, .iconst (1), 1, 496, 0, [], [(1, 0)]) rfl rfl rfl ?_
  refine bEqI bl_1 ?_
  refine bGo hA 31 0 (962, .iadd, 1, 497, 0, [], []) rfl rfl rfl ?_
  refine bEqI (bn_add l4 1) ?_
  refine bGo hA 31 1 (963, .iaload, 1, 498, 0, [], []) rfl rfl rfl ?_
  refine ⟨rfl, (bIxP (x := (l4 + 1)) (n := bLen s1 200) h.1 k2.1), ?_⟩
  refine bEqL (x := (l4 + 1)) h.1 ?_
  refine bGo hA 31 2 (964, .aload_n 0, 1, 499, 0, [0], []) rfl rfl rfl ?_
  refine bGo hA 31 3 (965, .iload 4, 2, 500, 0, [4], []) rfl rfl rfl ?_
  refine bGo hA 31 4 (967, .iconst (2), 1, 501, 0, [], [(2, 0)]) rfl rfl rfl ?_
  refine bEqI bl_2 ?_
  refine bGo hA 31 5 (968, .iadd, 1, 502, 0, [], []) rfl rfl rfl ?_
  refine bEqI (bn_add l4 2) ?_
  refine bGo hA 31 6 (969, .iaload, 1, 503, 0, [], []) rfl rfl rfl ?_
  refine ⟨rfl, (bIxP (x := (l4 + 2)) (n := bLen s1 200) h.2.2.1 k2.2.1), ?_⟩
  refine bEqL (x := (l4 + 2)) h.2.2.1 ?_
  refine bGo hA 31 7 (970, .invokevirtual 203, 3, 504, 0, [0, 12, 221, 2], []) rfl rfl rfl ?_
  refine ⟨rfl, ?_⟩
  refine hC _ _ _ _ _ (bRn_e (fun r7 s5 q8 k6 => ?_)) k2.2.2
  show A (504, [.ref 200, .ref 11, .ref 12, .ref 154, .int (bn l4), .int (bn r3), v6, v7], [.int (bn r7)], s5)
  refine bGo hA 31 8 (973, .istore 6, 2, 505, 0, [6], []) rfl rfl rfl ?_
  refine bGo hA 31 9 (975, .aload_n 2, 1, 506, 0, [2], []) rfl rfl rfl ?_
  refine bGo hA 31 10 (976, .invokevirtual 168, 3, 507, 0, [0, 12, 196, 0], []) rfl rfl rfl ?_
  refine ⟨rfl, ?_⟩
  refine hC _ _ _ _ _ (bRn_e (fun r11 s9 q12 k10 => ?_)) k6
  show A (507, [.ref 200, .ref 11, .ref 12, .ref 154, .int (bn l4), .int (bn r3), .int (bn r7), v7], [.int (bn r11)], s9)
  refine bGo hA 31 11 (979, .iload 5, 2, 508, 0, [5], []) rfl rfl rfl ?_
  refine bGo hA 31 12 (981, .if_icmp .eq (5), 3, 509, 511, [], []) rfl rfl rfl ?_
  refine bB_eq (x := r11) (y := r3) q12 q4 (fun c13 => ?_) (fun c13 => ?_)
  · refine bGo hA 31 15 (986, .iload 5, 2, 512, 0, [5], []) rfl rfl rfl ?_
    refine bGo hA 32 0 (988, .ifCond .ne (15), 3, 513, 522, [], []) rfl rfl rfl ?_
    refine bB_eq0 (x := r3) q4 (fun c14 => ?_) (fun c14 => ?_)
    · refine bGo hA 32 1 (991, .aload_n 3, 1, 514, 0, [3], []) rfl rfl rfl ?_
      refine bGo hA 32 2 (992, .iconst (0), 1, 515, 0, [], [(0, 0)]) rfl rfl rfl ?_
      refine bEqI bl_0 ?_
      refine bGo hA 32 3 (993, .laload, 1, 516, 0, [], []) rfl rfl rfl ?_
      refine ⟨rfl, (bIxP (x := 0) (n := 1) (by decide) (by decide)), ?_⟩
      refine bEqJ (x := 0) (by decide : bRg 0) ?_
      refine bGo hA 32 4 (994, .iload 6, 2, 517, 0, [6], []) rfl rfl rfl ?_
      refine bGo hA 32 5 (996, .i2l, 1, 518, 0, [], []) rfl rfl rfl ?_
      refine bGo hA 32 6 (997, .lcmp, 1, 519, 0, [], []) rfl rfl rfl ?_
      refine bEqI (bn_cmp (bj s9 154 0) (bL r7)) ?_
      refine bGo hA 32 7 (998, .ifCond .eq (5), 3, 520, 522, [], []) rfl rfl rfl ?_
      refine bB_eq0 (x := (bCmp (bj s9 154 0) (bL r7))) (bRgI _) (fun c15 => ?_) (fun c15 => ?_)
      · refine bGo hA 32 10 (1003, .goto (2411), 3, 523, 2097, [], []) rfl rfl rfl ?_
        refine bGo hA 131 1 (3414, .iinc 4 (6), 3, 2098, 0, [4], [(6, 0)]) rfl rfl rfl ?_
        refine bEqC (fun v => A (2098, [.ref 200, .ref 11, .ref 12, .ref 154, .int v, .int (bn r3), .int (bn r7), v7], [], s9)) ((congrArg (fun w => bn l4 + w) bl_6).trans (bn_add l4 6)) ?_
        refine bGo hA 131 2 (3417, .goto (-3394), 3, 2099, 13, [], []) rfl rfl rfl ?_
        exact (((k10.1 c13).1 c14).1 c15).2
      · refine bGo hA 32 8 (1001, .iconst (0), 1, 521, 0, [], [(0, 0)]) rfl rfl rfl ?_
        refine bEqI bl_0 ?_
        refine bGo hA 32 9 (1002, .ireturn, 1, 522, 0, [2], []) rfl rfl rfl ?_
        exact ⟨b01 (Or.inl rfl), (((k10.1 c13).1 c14).2 c15)⟩
    · refine bGo hA 32 10 (1003, .goto (2411), 3, 523, 2097, [], []) rfl rfl rfl ?_
      refine bGo hA 131 1 (3414, .iinc 4 (6), 3, 2098, 0, [4], [(6, 0)]) rfl rfl rfl ?_
      refine bEqC (fun v => A (2098, [.ref 200, .ref 11, .ref 12, .ref 154, .int v, .int (bn r3), .int (bn r7), v7], [], s9)) ((congrArg (fun w => bn l4 + w) bl_6).trans (bn_add l4 6)) ?_
      refine bGo hA 131 2 (3417, .goto (-3394), 3, 2099, 13, [], []) rfl rfl rfl ?_
      exact ((k10.1 c13).2 c14).2
  · refine bGo hA 31 13 (984, .iconst (0), 1, 510, 0, [], [(0, 0)]) rfl rfl rfl ?_
    refine bEqI bl_0 ?_
    refine bGo hA 31 14 (985, .ireturn, 1, 511, 0, [2], []) rfl rfl rfl ?_
    exact ⟨b01 (Or.inl rfl), (k10.2 c13)⟩

theorem sq357_523 {lvl : Nat} {C : bCall} {Q : bPost} {A : bPt → Prop} (hC : bMono C) (hA : bClosed lvl bm357 C Q A) {l4 : Int} {v5 : Value} {v6 : Value} {v7 : Value} {σ : bSt}  (h_l4 : bRg l4)
  (h : (bRg (l4 + 1) ∧ ((0 ≤ (l4 + 1) ∧ (l4 + 1) < (bLen σ 200 : Int)) ∧ (bRg (l4 + 2) ∧ ((0 ≤ (l4 + 2) ∧ (l4 + 2) < (bLen σ 200 : Int)) ∧ (C 324 [.ref 11, .int (bn (bi σ 200 (l4 + 1))), .int (bn (bi σ 200 (l4 + 2))), .ref 154] σ (bRn (fun r3 s1 => ((0 ≤ (l4 + 1) ∧ (l4 + 1) < (bLen s1 200 : Int)) ∧ ((0 ≤ (l4 + 2) ∧ (l4 + 2) < (bLen s1 200 : Int)) ∧ (C 222 [.ref 12, .int (bn (bi s1 200 (l4 + 1))), .int (bn (bi s1 200 (l4 + 2)))] s1 (bRn (fun r7 s5 => (C 196 [.ref 12] s5 (bRn (fun r11 s9 => ((r11 = r3 → ((r3 = 0 → (((bCmp (bj s9 154 0) (bL r7)) = 0 → (bRg (l4 + 6) ∧ A (13, [.ref 200, .ref 11, .ref 12, .ref 154, .int (bn (l4 + 6)), .int (bn r3), .int (bn r7), v7], [], s9))) ∧ (¬ (bCmp (bj s9 154 0) (bL r7)) = 0 → Q (.inl (some (.int (bn 0)))) s9))) ∧ (¬ r3 = 0 → (bRg (l4 + 6) ∧ A (13, [.ref 200, .ref 11, .ref 12, .ref 154, .int (bn (l4 + 6)), .int (bn r3), .int (bn r7), v7], [], s9))))) ∧ (¬ r11 = r3 → Q (.inl (some (.int (bn 0)))) s9)))))))))))))))))) : A (523, [.ref 200, .ref 11, .ref 12, .ref 154, .int (bn l4), v5, v6, v7], [], σ) := by
  refine bGo hA 32 11 (1006, .aload_n 1, 1, 524, 0, [1], []) rfl rfl rfl ?_
  refine bGo hA 32 12 (1007, .aload_n 0, 1, 525, 0, [0], []) rfl rfl rfl ?_
  refine bGo hA 32 13 (1008, .iload 4, 2, 526, 0, [4], []) rfl rfl rfl ?_
  refine bGo hA 32 14 (1010, .iconst (1), 1, 527, 0, [], [(1, 0)]) rfl rfl rfl ?_
  refine bEqI bl_1 ?_
  refine bGo hA 32 15 (1011, .iadd, 1, 528, 0, [], []) rfl rfl rfl ?_
  refine bEqI (bn_add l4 1) ?_
  refine bGo hA 33 0 (1012, .iaload, 1, 529, 0, [], []) rfl rfl rfl ?_
  refine ⟨rfl, (bIxP (x := (l4 + 1)) (n := bLen σ 200) h.1 h.2.1), ?_⟩
  refine bEqL (x := (l4 + 1)) h.1 ?_
  refine bGo hA 33 1 (1013, .aload_n 0, 1, 530, 0, [0], []) rfl rfl rfl ?_
  refine bGo hA 33 2 (1014, .iload 4, 2, 531, 0, [4], []) rfl rfl rfl ?_
  refine bGo hA 33 3 (1016, .iconst (2), 1, 532, 0, [], [(2, 0)]) rfl rfl rfl ?_
  refine bEqI bl_2 ?_
  refine bGo hA 33 4 (1017, .iadd, 1, 533, 0, [], []) rfl rfl rfl ?_
  refine bEqI (bn_add l4 2) ?_
  refine bGo hA 33 5 (1018, .iaload, 1, 534, 0, [], []) rfl rfl rfl ?_
  refine ⟨rfl, (bIxP (x := (l4 + 2)) (n := bLen σ 200) h.2.2.1 h.2.2.2.1), ?_⟩
  refine bEqL (x := (l4 + 2)) h.2.2.1 ?_
  refine bGo hA 33 6 (1019, .aload_n 3, 1, 535, 0, [3], []) rfl rfl rfl ?_
  refine bGo hA 33 7 (1020, .invokestatic 204, 3, 536, 0, [2, 324, 4], []) rfl rfl rfl ?_
  refine hC _ _ _ _ _ (bRn_e (fun r3 s1 q4 k2 => ?_)) h.2.2.2.2
  show A (536, [.ref 200, .ref 11, .ref 12, .ref 154, .int (bn l4), v5, v6, v7], [.int (bn r3)], s1)
  refine bGo hA 33 8 (1023, .istore 5, 2, 537, 0, [5], []) rfl rfl rfl ?_
  refine bGo hA 33 9 (1025, .aload_n 2, 1, 538, 0, [2], []) rfl rfl rfl ?_
  refine bGo hA 33 10 (1026, .aload_n 0, 1, 539, 0, [0], []) rfl rfl rfl ?_
  refine bGo hA 33 11 (1027, .iload 4, 2, 540, 0, [4], []) rfl rfl rfl ?_
  refine bGo hA 33 12 (1029, .iconst (1), 1, 541, 0, [], [(1, 0)]) rfl rfl rfl ?_
  refine bEqI bl_1 ?_
  refine bGo hA 33 13 (1030, .iadd, 1, 542, 0, [], []) rfl rfl rfl ?_
  refine bEqI (bn_add l4 1) ?_
  refine bGo hA 33 14 (1031, .iaload, 1, 543, 0, [], []) rfl rfl rfl ?_
  refine ⟨rfl, (bIxP (x := (l4 + 1)) (n := bLen s1 200) h.1 k2.1), ?_⟩
  refine bEqL (x := (l4 + 1)) h.1 ?_
  refine bGo hA 33 15 (1032, .aload_n 0, 1, 544, 0, [0], []) rfl rfl rfl ?_
  refine bGo hA 34 0 (1033, .iload 4, 2, 545, 0, [4], []) rfl rfl rfl ?_
  refine bGo hA 34 1 (1035, .iconst (2), 1, 546, 0, [], [(2, 0)]) rfl rfl rfl ?_
  refine bEqI bl_2 ?_
  refine bGo hA 34 2 (1036, .iadd, 1, 547, 0, [], []) rfl rfl rfl ?_
  refine bEqI (bn_add l4 2) ?_
  refine bGo hA 34 3 (1037, .iaload, 1, 548, 0, [], []) rfl rfl rfl ?_
  refine ⟨rfl, (bIxP (x := (l4 + 2)) (n := bLen s1 200) h.2.2.1 k2.2.1), ?_⟩
  refine bEqL (x := (l4 + 2)) h.2.2.1 ?_
  refine bGo hA 34 4 (1038, .invokevirtual 206, 3, 549, 0, [0, 12, 222, 2], []) rfl rfl rfl ?_
  refine ⟨rfl, ?_⟩
  refine hC _ _ _ _ _ (bRn_e (fun r7 s5 q8 k6 => ?_)) k2.2.2
  show A (549, [.ref 200, .ref 11, .ref 12, .ref 154, .int (bn l4), .int (bn r3), v6, v7], [.int (bn r7)], s5)
  refine bGo hA 34 5 (1041, .istore 6, 2, 550, 0, [6], []) rfl rfl rfl ?_
  refine bGo hA 34 6 (1043, .aload_n 2, 1, 551, 0, [2], []) rfl rfl rfl ?_
  refine bGo hA 34 7 (1044, .invokevirtual 168, 3, 552, 0, [0, 12, 196, 0], []) rfl rfl rfl ?_
  refine ⟨rfl, ?_⟩
  refine hC _ _ _ _ _ (bRn_e (fun r11 s9 q12 k10 => ?_)) k6
  show A (552, [.ref 200, .ref 11, .ref 12, .ref 154, .int (bn l4), .int (bn r3), .int (bn r7), v7], [.int (bn r11)], s9)
  refine bGo hA 34 8 (1047, .iload 5, 2, 553, 0, [5], []) rfl rfl rfl ?_
  refine bGo hA 34 9 (1049, .if_icmp .eq (5), 3, 554, 556, [], []) rfl rfl rfl ?_
  refine bB_eq (x := r11) (y := r3) q12 q4 (fun c13 => ?_) (fun c13 => ?_)
  · refine bGo hA 34 12 (1054, .iload 5, 2, 557, 0, [5], []) rfl rfl rfl ?_
    refine bGo hA 34 13 (1056, .ifCond .ne (15), 3, 558, 567, [], []) rfl rfl rfl ?_
    refine bB_eq0 (x := r3) q4 (fun c14 => ?_) (fun c14 => ?_)
    · refine bGo hA 34 14 (1059, .aload_n 3, 1, 559, 0, [3], []) rfl rfl rfl ?_
      refine bGo hA 34 15 (1060, .iconst (0), 1, 560, 0, [], [(0, 0)]) rfl rfl rfl ?_
      refine bEqI bl_0 ?_
      refine bGo hA 35 0 (1061, .laload, 1, 561, 0, [], []) rfl rfl rfl ?_
      refine ⟨rfl, (bIxP (x := 0) (n := 1) (by decide) (by decide)), ?_⟩
      refine bEqJ (x := 0) (by decide : bRg 0) ?_
      refine bGo hA 35 1 (1062, .iload 6, 2, 562, 0, [6], []) rfl rfl rfl ?_
      refine bGo hA 35 2 (1064, .i2l, 1, 563, 0, [], []) rfl rfl rfl ?_
      refine bGo hA 35 3 (1065, .lcmp, 1, 564, 0, [], []) rfl rfl rfl ?_
      refine bEqI (bn_cmp (bj s9 154 0) (bL r7)) ?_
      refine bGo hA 35 4 (1066, .ifCond .eq (5), 3, 565, 567, [], []) rfl rfl rfl ?_
      refine bB_eq0 (x := (bCmp (bj s9 154 0) (bL r7))) (bRgI _) (fun c15 => ?_) (fun c15 => ?_)
      · refine bGo hA 35 7 (1071, .goto (2343), 3, 568, 2097, [], []) rfl rfl rfl ?_
        refine bGo hA 131 1 (3414, .iinc 4 (6), 3, 2098, 0, [4], [(6, 0)]) rfl rfl rfl ?_
        refine bEqC (fun v => A (2098, [.ref 200, .ref 11, .ref 12, .ref 154, .int v, .int (bn r3), .int (bn r7), v7], [], s9)) ((congrArg (fun w => bn l4 + w) bl_6).trans (bn_add l4 6)) ?_
        refine bGo hA 131 2 (3417, .goto (-3394), 3, 2099, 13, [], []) rfl rfl rfl ?_
        exact (((k10.1 c13).1 c14).1 c15).2
      · refine bGo hA 35 5 (1069, .iconst (0), 1, 566, 0, [], [(0, 0)]) rfl rfl rfl ?_
        refine bEqI bl_0 ?_
        refine bGo hA 35 6 (1070, .ireturn, 1, 567, 0, [2], []) rfl rfl rfl ?_
        exact ⟨b01 (Or.inl rfl), (((k10.1 c13).1 c14).2 c15)⟩
    · refine bGo hA 35 7 (1071, .goto (2343), 3, 568, 2097, [], []) rfl rfl rfl ?_
      refine bGo hA 131 1 (3414, .iinc 4 (6), 3, 2098, 0, [4], [(6, 0)]) rfl rfl rfl ?_
      refine bEqC (fun v => A (2098, [.ref 200, .ref 11, .ref 12, .ref 154, .int v, .int (bn r3), .int (bn r7), v7], [], s9)) ((congrArg (fun w => bn l4 + w) bl_6).trans (bn_add l4 6)) ?_
      refine bGo hA 131 2 (3417, .goto (-3394), 3, 2099, 13, [], []) rfl rfl rfl ?_
      exact ((k10.1 c13).2 c14).2
  · refine bGo hA 34 10 (1052, .iconst (0), 1, 555, 0, [], [(0, 0)]) rfl rfl rfl ?_
    refine bEqI bl_0 ?_
    refine bGo hA 34 11 (1053, .ireturn, 1, 556, 0, [2], []) rfl rfl rfl ?_
    exact ⟨b01 (Or.inl rfl), (k10.2 c13)⟩

theorem sq357_568 {lvl : Nat} {C : bCall} {Q : bPost} {A : bPt → Prop} (hC : bMono C) (hA : bClosed lvl bm357 C Q A) {l4 : Int} {v5 : Value} {v6 : Value} {v7 : Value} {σ : bSt}  (h_l4 : bRg l4)
  (h : (bRg (l4 + 1) ∧ ((0 ≤ (l4 + 1) ∧ (l4 + 1) < (bLen σ 200 : Int)) ∧ (bRg (l4 + 2) ∧ ((0 ≤ (l4 + 2) ∧ (l4 + 2) < (bLen σ 200 : Int)) ∧ (bRg (l4 + 3) ∧ ((0 ≤ (l4 + 3) ∧ (l4 + 3) < (bLen σ 200 : Int)) ∧ (bRg (l4 + 4) ∧ ((0 ≤ (l4 + 4) ∧ (l4 + 4) < (bLen σ 200 : Int)) ∧ (C 325 [.ref 11, .int (bn (bi σ 200 (l4 + 1))), .int (bn (bi σ 200 (l4 + 2))), .int (bn (bi σ 200 (l4 + 3))), .int (bn (bi σ 200 (l4 + 4))), .ref 154] σ (bRn (fun r3 s1 => ((0 ≤ (l4 + 1) ∧ (l4 + 1) < (bLen s1 200 : Int)) ∧ ((0 ≤ (l4 + 2) ∧ (l4 + 2) < (bLen s1 200 : Int)) ∧ ((0 ≤ (l4 + 3) ∧ (l4 + 3) < (bLen s1 200 : Int)) ∧ ((0 ≤ (l4 + 4) ∧ (l4 + 4) < (bLen s1 200 : Int)) ∧ (C 223 [.ref 12, .int (bn (bi s1 200 (l4 + 1))), .int (bn (bi s1 200 (l4 + 2))), .int (bn (bi s1 200 (l4 + 3))), .int (bn (bi s1 200 (l4 + 4)))] s1 (bRn (fun r7 s5 => (C 196 [.ref 12] s5 (bRn (fun r11 s9 => ((r11 = r3 → ((r3 = 0 → (((bCmp (bj s9 154 0) (bL r7)) = 0 → (bRg (l4 + 6) ∧ A (13, [.ref 200, .ref 11, .ref 12, .ref 154, .int (bn (l4 + 6)), .int (bn r3), .int (bn r7), v7], [], s9))) ∧ (¬ (bCmp (bj s9 154 0) (bL r7)) = 0 → Q (.inl (some (.int (bn 0)))) s9))) ∧ (¬ r3 = 0 → (bRg (l4 + 6) ∧ A (13, [.ref 200, .ref 11, .ref 12, .ref 154, .int (bn (l4 + 6)), .int (bn r3), .int (bn r7), v7], [], s9))))) ∧ (¬ r11 = r3 → Q (.inl (some (.int (bn 0)))) s9)))))))))))))))))))))))) : A (568, [.ref 200, .ref 11, .ref 12, .ref 154, .int (bn l4), v5, v6, v7], [], σ) := by
  refine bGo hA 35 8 (1074, .aload_n 1, 1, 569, 0, [1], []) rfl rfl rfl ?_
  refine bGo hA 35 9 (1075, .aload_n 0, 1, 570, 0, [0], []) rfl rfl rfl ?_
  refine bGo hA 35 10 (1076, .iload 4, 2, 571, 0, [4], []) rfl rfl rfl ?_
  refine bGo hA 35 11 (1078, .iconst (1), 1, 572, 0, [], [(1, 0)]) rfl rfl rfl ?_
  refine bEqI bl_1 ?_
  refine bGo hA 35 12 (1079, .iadd, 1, 573, 0, [], []) rfl rfl rfl ?_
  refine bEqI (bn_add l4 1) ?_
  refine bGo hA 35 13 (1080, .iaload, 1, 574, 0, [], []) rfl rfl rfl ?_
  refine ⟨rfl, (bIxP (x := (l4 + 1)) (n := bLen σ 200) h.1 h.2.1), ?_⟩
  refine bEqL (x := (l4 + 1)) h.1 ?_
  refine bGo hA 35 14 (1081, .aload_n 0, 1, 575, 0, [0], []) rfl rfl rfl ?_
  refine bGo hA 35 15 (1082, .iload 4, 2, 576, 0, [4], []) rfl rfl rfl ?_
  refine bGo hA 36 0 (1084, .iconst (2), 1, 577, 0, [], [(2, 0)]) rfl rfl rfl ?_
  refine bEqI bl_2 ?_
  refine bGo hA 36 1 (1085, .iadd, 1, 578, 0, [], []) rfl rfl rfl ?_
  refine bEqI (bn_add l4 2) ?_
  refine bGo hA 36 2 (1086, .iaload, 1, 579, 0, [], []) rfl rfl rfl ?_
  refine ⟨rfl, (bIxP (x := (l4 + 2)) (n := bLen σ 200) h.2.2.1 h.2.2.2.1), ?_⟩
  refine bEqL (x := (l4 + 2)) h.2.2.1 ?_
  refine bGo hA 36 3 (1087, .aload_n 0, 1, 580, 0, [0], []) rfl rfl rfl ?_
  refine bGo hA 36 4 (1088, .iload 4, 2, 581, 0, [4], []) rfl rfl rfl ?_
  refine bGo hA 36 5 (1090, .iconst (3), 1, 582, 0, [], [(3, 0)]) rfl rfl rfl ?_
  refine bEqI bl_3 ?_
  refine bGo hA 36 6 (1091, .iadd, 1, 583, 0, [], []) rfl rfl rfl ?_
  refine bEqI (bn_add l4 3) ?_
  refine bGo hA 36 7 (1092, .iaload, 1, 584, 0, [], []) rfl rfl rfl ?_
  refine ⟨rfl, (bIxP (x := (l4 + 3)) (n := bLen σ 200) h.2.2.2.2.1 h.2.2.2.2.2.1), ?_⟩
  refine bEqL (x := (l4 + 3)) h.2.2.2.2.1 ?_
  refine bGo hA 36 8 (1093, .aload_n 0, 1, 585, 0, [0], []) rfl rfl rfl ?_
  refine bGo hA 36 9 (1094, .iload 4, 2, 586, 0, [4], []) rfl rfl rfl ?_
  refine bGo hA 36 10 (1096, .iconst (4), 1, 587, 0, [], [(4, 0)]) rfl rfl rfl ?_
  refine bEqI bl_4 ?_
  refine bGo hA 36 11 (1097, .iadd, 1, 588, 0, [], []) rfl rfl rfl ?_
  refine bEqI (bn_add l4 4) ?_
  refine bGo hA 36 12 (1098, .iaload, 1, 589, 0, [], []) rfl rfl rfl ?_
  refine ⟨rfl, (bIxP (x := (l4 + 4)) (n := bLen σ 200) h.2.2.2.2.2.2.1 h.2.2.2.2.2.2.2.1), ?_⟩
  refine bEqL (x := (l4 + 4)) h.2.2.2.2.2.2.1 ?_
  refine bGo hA 36 13 (1099, .aload_n 3, 1, 590, 0, [3], []) rfl rfl rfl ?_
  refine bGo hA 36 14 (1100, .invokestatic 207, 3, 591, 0, [2, 325, 6], []) rfl rfl rfl ?_
  refine hC _ _ _ _ _ (bRn_e (fun r3 s1 q4 k2 => ?_)) h.2.2.2.2.2.2.2.2
  show A (591, [.ref 200, .ref 11, .ref 12, .ref 154, .int (bn l4), v5, v6, v7], [.int (bn r3)], s1)
  refine bGo hA 36 15 (1103, .istore 5, 2, 592, 0, [5], []) rfl rfl rfl ?_
  refine bGo hA 37 0 (1105, .aload_n 2, 1, 593, 0, [2], []) rfl rfl rfl ?_
  refine bGo hA 37 1 (1106, .aload_n 0, 1, 594, 0, [0], []) rfl rfl rfl ?_
  refine bGo hA 37 2 (1107, .iload 4, 2, 595, 0, [4], []) rfl rfl rfl ?_
  refine bGo hA 37 3 (1109, .iconst (1), 1, 596, 0, [], [(1, 0)]) rfl rfl rfl ?_
  refine bEqI bl_1 ?_
  refine bGo hA 37 4 (1110, .iadd, 1, 597, 0, [], []) rfl rfl rfl ?_
  refine bEqI (bn_add l4 1) ?_
  refine bGo hA 37 5 (1111, .iaload, 1, 598, 0, [], []) rfl rfl rfl ?_
  refine ⟨rfl, (bIxP (x := (l4 + 1)) (n := bLen s1 200) h.1 k2.1), ?_⟩
  refine bEqL (x := (l4 + 1)) h.1 ?_
  refine bGo hA 37 6 (1112, .aload_n 0, 1, 599, 0, [0], []) rfl rfl rfl ?_
  refine bGo hA 37 7 (1113, .iload 4, 2, 600, 0, [4], []) rfl rfl rfl ?_
  refine bGo hA 37 8 (1115, .iconst (2), 1, 601, 0, [], [(2, 0)]) rfl rfl rfl ?_
  refine bEqI bl_2 ?_
  refine bGo hA 37 9 (1116, .iadd, 1, 602, 0, [], []) rfl rfl rfl ?_
  refine bEqI (bn_add l4 2) ?_
  refine bGo hA 37 10 (1117, .iaload, 1, 603, 0, [], []) rfl rfl rfl ?_
  refine ⟨rfl, (bIxP (x := (l4 + 2)) (n := bLen s1 200) h.2.2.1 k2.2.1), ?_⟩
  refine bEqL (x := (l4 + 2)) h.2.2.1 ?_
  refine bGo hA 37 11 (1118, .aload_n 0, 1, 604, 0, [0], []) rfl rfl rfl ?_
  refine bGo hA 37 12 (1119, .iload 4, 2, 605, 0, [4], []) rfl rfl rfl ?_
  refine bGo hA 37 13 (1121, .iconst (3), 1, 606, 0, [], [(3, 0)]) rfl rfl rfl ?_
  refine bEqI bl_3 ?_
  refine bGo hA 37 14 (1122, .iadd, 1, 607, 0, [], []) rfl rfl rfl ?_
  refine bEqI (bn_add l4 3) ?_
  refine bGo hA 37 15 (1123, .iaload, 1, 608, 0, [], []) rfl rfl rfl ?_
  refine ⟨rfl, (bIxP (x := (l4 + 3)) (n := bLen s1 200) h.2.2.2.2.1 k2.2.2.1), ?_⟩
  refine bEqL (x := (l4 + 3)) h.2.2.2.2.1 ?_
  refine bGo hA 38 0 (1124, .aload_n 0, 1, 609, 0, [0], []) rfl rfl rfl ?_
  refine bGo hA 38 1 (1125, .iload 4, 2, 610, 0, [4], []) rfl rfl rfl ?_
  refine bGo hA 38 2 (1127, .iconst (4), 1, 611, 0, [], [(4, 0)]) rfl rfl rfl ?_
  refine bEqI bl_4 ?_
  refine bGo hA 38 3 (1128, .iadd, 1, 612, 0, [], []) rfl rfl rfl ?_
  refine bEqI (bn_add l4 4) ?_
  refine bGo hA 38 4 (1129, .iaload, 1, 613, 0, [], []) rfl rfl rfl ?_
  refine ⟨rfl, (bIxP (x := (l4 + 4)) (n := bLen s1 200) h.2.2.2.2.2.2.1 k2.2.2.2.1), ?_⟩
  refine bEqL (x := (l4 + 4)) h.2.2.2.2.2.2.1 ?_
  refine bGo hA 38 5 (1130, .invokevirtual 210, 3, 614, 0, [0, 12, 223, 4], []) rfl rfl rfl ?_
  refine ⟨rfl, ?_⟩
  refine hC _ _ _ _ _ (bRn_e (fun r7 s5 q8 k6 => ?_)) k2.2.2.2.2
  show A (614, [.ref 200, .ref 11, .ref 12, .ref 154, .int (bn l4), .int (bn r3), v6, v7], [.int (bn r7)], s5)
  refine bGo hA 38 6 (1133, .istore 6, 2, 615, 0, [6], []) rfl rfl rfl ?_
  refine bGo hA 38 7 (1135, .aload_n 2, 1, 616, 0, [2], []) rfl rfl rfl ?_
  refine bGo hA 38 8 (1136, .invokevirtual 168, 3, 617, 0, [0, 12, 196, 0], []) rfl rfl rfl ?_
  refine ⟨rfl, ?_⟩
  refine hC _ _ _ _ _ (bRn_e (fun r11 s9 q12 k10 => ?_)) k6
  show A (617, [.ref 200, .ref 11, .ref 12, .ref 154, .int (bn l4), .int (bn r3), .int (bn r7), v7], [.int (bn r11)], s9)
  refine bGo hA 38 9 (1139, .iload 5, 2, 618, 0, [5], []) rfl rfl rfl ?_
  refine bGo hA 38 10 (1141, .if_icmp .eq (5), 3, 619, 621, [], []) rfl rfl rfl ?_
  refine bB_eq (x := r11) (y := r3) q12 q4 (fun c13 => ?_) (fun c13 => ?_)
  · refine bGo hA 38 13 (1146, .iload 5, 2, 622, 0, [5], []) rfl rfl rfl ?_
    refine bGo hA 38 14 (1148, .ifCond .ne (15), 3, 623, 632, [], []) rfl rfl rfl ?_
    refine bB_eq0 (x := r3) q4 (fun c14 => ?_) (fun c14 => ?_)
    · refine bGo hA 38 15 (1151, .aload_n 3, 1, 624, 0, [3], []) rfl rfl rfl ?_
      refine bGo hA 39 0 (1152, .iconst (0), 1, 625, 0, [], [(0, 0)]) rfl rfl rfl ?_
      refine bEqI bl_0 ?_
      refine bGo hA 39 1 (1153, .laload, 1, 626, 0, [], []) rfl rfl rfl ?_
      refine ⟨rfl, (bIxP (x := 0) (n := 1) (by decide) (by decide)), ?_⟩
      refine bEqJ (x := 0) (by decide : bRg 0) ?_
      refine bGo hA 39 2 (1154, .iload 6, 2, 627, 0, [6], []) rfl rfl rfl ?_
      refine bGo hA 39 3 (1156, .i2l, 1, 628, 0, [], []) rfl rfl rfl ?_
      refine bGo hA 39 4 (1157, .lcmp, 1, 629, 0, [], []) rfl rfl rfl ?_
      refine bEqI (bn_cmp (bj s9 154 0) (bL r7)) ?_
      refine bGo hA 39 5 (1158, .ifCond .eq (5), 3, 630, 632, [], []) rfl rfl rfl ?_
      refine bB_eq0 (x := (bCmp (bj s9 154 0) (bL r7))) (bRgI _) (fun c15 => ?_) (fun c15 => ?_)
      · refine bGo hA 39 8 (1163, .goto (2251), 3, 633, 2097, [], []) rfl rfl rfl ?_
        refine bGo hA 131 1 (3414, .iinc 4 (6), 3, 2098, 0, [4], [(6, 0)]) rfl rfl rfl ?_
        refine bEqC (fun v => A (2098, [.ref 200, .ref 11, .ref 12, .ref 154, .int v, .int (bn r3), .int (bn r7), v7], [], s9)) ((congrArg (fun w => bn l4 + w) bl_6).trans (bn_add l4 6)) ?_
        refine bGo hA 131 2 (3417, .goto (-3394), 3, 2099, 13, [], []) rfl rfl rfl ?_
        exact (((k10.1 c13).1 c14).1 c15).2
      · refine bGo hA 39 6 (1161, .iconst (0), 1, 631, 0, [], [(0, 0)]) rfl rfl rfl ?_
        refine bEqI bl_0 ?_
        refine bGo hA 39 7 (1162, .ireturn, 1, 632, 0, [2], []) rfl rfl rfl ?_
        exact ⟨b01 (Or.inl rfl), (((k10.1 c13).1 c14).2 c15)⟩
    · refine bGo hA 39 8 (1163, .goto (2251), 3, 633, 2097, [], []) rfl rfl rfl ?_
      refine bGo hA 131 1 (3414, .iinc 4 (6), 3, 2098, 0, [4], [(6, 0)]) rfl rfl rfl ?_
      refine bEqC (fun v => A (2098, [.ref 200, .ref 11, .ref 12, .ref 154, .int v, .int (bn r3), .int (bn r7), v7], [], s9)) ((congrArg (fun w => bn l4 + w) bl_6).trans (bn_add l4 6)) ?_
      refine bGo hA 131 2 (3417, .goto (-3394), 3, 2099, 13, [], []) rfl rfl rfl ?_
      exact ((k10.1 c13).2 c14).2
  · refine bGo hA 38 11 (1144, .iconst (0), 1, 620, 0, [], [(0, 0)]) rfl rfl rfl ?_
    refine bEqI bl_0 ?_
    refine bGo hA 38 12 (1145, .ireturn, 1, 621, 0, [2], []) rfl rfl rfl ?_
    exact ⟨b01 (Or.inl rfl), (k10.2 c13)⟩

theorem sq357_633 {lvl : Nat} {C : bCall} {Q : bPost} {A : bPt → Prop} (hC : bMono C) (hA : bClosed lvl bm357 C Q A) {l4 : Int} {v5 : Value} {v6 : Value} {v7 : Value} {σ : bSt}  (h_l4 : bRg l4)
  (h : (bRg (l4 + 1) ∧ ((0 ≤ (l4 + 1) ∧ (l4 + 1) < (bLen σ 200 : Int)) ∧ (C 326 [.ref 11, .int (bn (bi σ 200 (l4 + 1))), .ref 154] σ (bRn (fun r3 s1 => ((0 ≤ (l4 + 1) ∧ (l4 + 1) < (bLen s1 200 : Int)) ∧ (C 224 [.ref 12, .int (bn (bi s1 200 (l4 + 1)))] s1 (bRn (fun r7 s5 => (C 196 [.ref 12] s5 (bRn (fun r11 s9 => ((r11 = r3 → ((r3 = 0 → (((bCmp (bj s9 154 0) (bL r7)) = 0 → (bRg (l4 + 6) ∧ A (13, [.ref 200, .ref 11, .ref 12, .ref 154, .int (bn (l4 + 6)), .int (bn r3), .int (bn r7), v7], [], s9))) ∧ (¬ (bCmp (bj s9 154 0) (bL r7)) = 0 → Q (.inl (some (.int (bn 0)))) s9))) ∧ (¬ r3 = 0 → (bRg (l4 + 6) ∧ A (13, [.ref 200, .ref 11, .ref 12, .ref 154, .int (bn (l4 + 6)), .int (bn r3), .int (bn r7), v7], [], s9))))) ∧ (¬ r11 = r3 → Q (.inl (some (.int (bn 0)))) s9))))))))))))))) : A (633, [.ref 200, .ref 11, .ref 12, .ref 154, .int (bn l4), v5, v6, v7], [], σ) := by
  refine bGo hA 39 9 (1166, .aload_n 1, 1, 634, 0, [1], []) rfl rfl rfl ?_
  refine bGo hA 39 10 (1167, .aload_n 0, 1, 635, 0, [0], []) rfl rfl rfl ?_
  refine bGo hA 39 11 (1168, .iload 4, 2, 636, 0, [4], []) rfl rfl rfl ?_
  refine bGo hA 39 12 (1170, .iconst (1), 1, 637, 0, [], [(1, 0)]) rfl rfl rfl ?_
  refine bEqI bl_1 ?_
  refine bGo hA 39 13 (1171, .iadd, 1, 638, 0, [], []) rfl rfl rfl ?_
  refine bEqI (bn_add l4 1) ?_
  refine bGo hA 39 14 (1172, .iaload, 1, 639, 0, [], []) rfl rfl rfl ?_
  refine ⟨rfl, (bIxP (x := (l4 + 1)) (n := bLen σ 200) h.1 h.2.1), ?_⟩
  refine bEqL (x := (l4 + 1)) h.1 ?_
  refine bGo hA 39 15 (1173, .aload_n 3, 1, 640, 0, [3], []) rfl rfl rfl ?_
  refine bGo hA 40 0 (1174, .invokestatic 211, 3, 641, 0, [2, 326, 3], []) rfl rfl rfl ?_
  refine hC _ _ _ _ _ (bRn_e (fun r3 s1 q4 k2 => ?_)) h.2.2
  show A (641, [.ref 200, .ref 11, .ref 12, .ref 154, .int (bn l4), v5, v6, v7], [.int (bn r3)], s1)
  refine bGo hA 40 1 (1177, .istore 5, 2, 642, 0, [5], []) rfl rfl rfl ?_
  refine bGo hA 40 2 (1179, .aload_n 2, 1, 643, 0, [2], []) rfl rfl rfl ?_
  refine bGo hA 40 3 (1180, .aload_n 0, 1, 644, 0, [0], []) rfl rfl rfl ?_
  refine bGo hA 40 4 (1181, .iload 4, 2, 645, 0, [4], []) rfl rfl rfl ?_
  refine bGo hA 40 5 (1183, .iconst (1), 1, 646, 0, [], [(1, 0)]) rfl rfl rfl ?_
  refine bEqI bl_1 ?_
  refine bGo hA 40 6 (1184, .iadd, 1, 647, 0, [], []) rfl rfl rfl ?_
  refine bEqI (bn_add l4 1) ?_
  refine bGo hA 40 7 (1185, .iaload, 1, 648, 0, [], []) rfl rfl rfl ?_
  refine ⟨rfl, (bIxP (x := (l4 + 1)) (n := bLen s1 200) h.1 k2.1), ?_⟩
  refine bEqL (x := (l4 + 1)) h.1 ?_
  refine bGo hA 40 8 (1186, .invokevirtual 213, 3, 649, 0, [0, 12, 224, 1], []) rfl rfl rfl ?_
  refine ⟨rfl, ?_⟩
  refine hC _ _ _ _ _ (bRn_e (fun r7 s5 q8 k6 => ?_)) k2.2
  show A (649, [.ref 200, .ref 11, .ref 12, .ref 154, .int (bn l4), .int (bn r3), v6, v7], [.int (bn r7)], s5)
  refine bGo hA 40 9 (1189, .istore 6, 2, 650, 0, [6], []) rfl rfl rfl ?_
  refine bGo hA 40 10 (1191, .aload_n 2, 1, 651, 0, [2], []) rfl rfl rfl ?_
  refine bGo hA 40 11 (1192, .invokevirtual 168, 3, 652, 0, [0, 12, 196, 0], []) rfl rfl rfl ?_
  refine ⟨rfl, ?_⟩
  refine hC _ _ _ _ _ (bRn_e (fun r11 s9 q12 k10 => ?_)) k6
  show A (652, [.ref 200, .ref 11, .ref 12, .ref 154, .int (bn l4), .int (bn r3), .int (bn r7), v7], [.int (bn r11)], s9)
  refine bGo hA 40 12 (1195, .iload 5, 2, 653, 0, [5], []) rfl rfl rfl ?_
  refine bGo hA 40 13 (1197, .if_icmp .eq (5), 3, 654, 656, [], []) rfl rfl rfl ?_
  refine bB_eq (x := r11) (y := r3) q12 q4 (fun c13 => ?_) (fun c13 => ?_)
  · refine bGo hA 41 0 (1202, .iload 5, 2, 657, 0, [5], []) rfl rfl rfl ?_
    refine bGo hA 41 1 (1204, .ifCond .ne (15), 3, 658, 667, [], []) rfl rfl rfl ?_
    refine bB_eq0 (x := r3) q4 (fun c14 => ?_) (fun c14 => ?_)
    · refine bGo hA 41 2 (1207, .aload_n 3, 1, 659, 0, [3], []) rfl rfl rfl ?_
      refine bGo hA 41 3 (1208, .iconst (0), 1, 660, 0, [], [(0, 0)]) rfl rfl rfl ?_
      refine bEqI bl_0 ?_
      refine bGo hA 41 4 (1209, .laload, 1, 661, 0, [], []) rfl rfl rfl ?_
      refine ⟨rfl, (bIxP (x := 0) (n := 1) (by decide) (by decide)), ?_⟩
      refine bEqJ (x := 0) (by decide : bRg 0) ?_
      refine bGo hA 41 5 (1210, .iload 6, 2, 662, 0, [6], []) rfl rfl rfl ?_
      refine bGo hA 41 6 (1212, .i2l, 1, 663, 0, [], []) rfl rfl rfl ?_
      refine bGo hA 41 7 (1213, .lcmp, 1, 664, 0, [], []) rfl rfl rfl ?_
      refine bEqI (bn_cmp (bj s9 154 0) (bL r7)) ?_
      refine bGo hA 41 8 (1214, .ifCond .eq (5), 3, 665, 667, [], []) rfl rfl rfl ?_
      refine bB_eq0 (x := (bCmp (bj s9 154 0) (bL r7))) (bRgI _) (fun c15 => ?_) (fun c15 => ?_)
      · refine bGo hA 41 11 (1219, .goto (2195), 3, 668, 2097, [], []) rfl rfl rfl ?_
        refine bGo hA 131 1 (3414, .iinc 4 (6), 3, 2098, 0, [4], [(6, 0)]) rfl rfl rfl ?_
        refine bEqC (fun v => A (2098, [.ref 200, .ref 11, .ref 12, .ref 154, .int v, .int (bn r3), .int (bn r7), v7], [], s9)) ((congrArg (fun w => bn l4 + w) bl_6).trans (bn_add l4 6)) ?_
        refine bGo hA 131 2 (3417, .goto (-3394), 3, 2099, 13, [], []) rfl rfl rfl ?_
        exact (((k10.1 c13).1 c14).1 c15).2
      · refine bGo hA 41 9 (1217, .iconst (0), 1, 666, 0, [], [(0, 0)]) rfl rfl rfl ?_
        refine bEqI bl_0 ?_
        refine bGo hA 41 10 (1218, .ireturn, 1, 667, 0, [2], []) rfl rfl rfl ?_
        exact ⟨b01 (Or.inl rfl), (((k10.1 c13).1 c14).2 c15)⟩
    · refine bGo hA 41 11 (1219, .goto (2195), 3, 668, 2097, [], []) rfl rfl rfl ?_
      refine bGo hA 131 1 (3414, .iinc 4 (6), 3, 2098, 0, [4], [(6, 0)]) rfl rfl rfl ?_
      refine bEqC (fun v => A (2098, [.ref 200, .ref 11, .ref 12, .ref 154, .int v, .int (bn r3), .int (bn r7), v7], [], s9)) ((congrArg (fun w => bn l4 + w) bl_6).trans (bn_add l4 6)) ?_
      refine bGo hA 131 2 (3417, .goto (-3394), 3, 2099, 13, [], []) rfl rfl rfl ?_
      exact ((k10.1 c13).2 c14).2
  · refine bGo hA 40 14 (1200, .iconst (0), 1, 655, 0, [], [(0, 0)]) rfl rfl rfl ?_
    refine bEqI bl_0 ?_
    refine bGo hA 40 15 (1201, .ireturn, 1, 656, 0, [2], []) rfl rfl rfl ?_
    exact ⟨b01 (Or.inl rfl), (k10.2 c13)⟩

theorem sq357_668 {lvl : Nat} {C : bCall} {Q : bPost} {A : bPt → Prop} (hC : bMono C) (hA : bClosed lvl bm357 C Q A) {l4 : Int} {v5 : Value} {v6 : Value} {v7 : Value} {σ : bSt}  (h_l4 : bRg l4)
  (h : (bRg (l4 + 1) ∧ ((0 ≤ (l4 + 1) ∧ (l4 + 1) < (bLen σ 200 : Int)) ∧ (bRg (l4 + 2) ∧ ((0 ≤ (l4 + 2) ∧ (l4 + 2) < (bLen σ 200 : Int)) ∧ (bRg (l4 + 3) ∧ ((0 ≤ (l4 + 3) ∧ (l4 + 3) < (bLen σ 200 : Int)) ∧ (C 327 [.ref 11, .int (bn (bi σ 200 (l4 + 1))), .int (bn (bi σ 200 (l4 + 2))), .int (bn (bi σ 200 (l4 + 3))), .ref 154] σ (bRn (fun r3 s1 => ((0 ≤ (l4 + 1) ∧ (l4 + 1) < (bLen s1 200 : Int)) ∧ ((0 ≤ (l4 + 2) ∧ (l4 + 2) < (bLen s1 200 : Int)) ∧ ((0 ≤ (l4 + 3) ∧ (l4 + 3) < (bLen s1 200 : Int)) ∧ (C 226 [.ref 12, .int (bn (bi s1 200 (l4 + 1))), .int (bn (bi s1 200 (l4 + 2))), .int (bn (bi s1 200 (l4 + 3)))] s1 (bRn (fun r7 s5 => (C 196 [.ref 12] s5 (bRn (fun r11 s9 => ((r11 = r3 → ((r3 = 0 → (((bCmp (bj s9 154 0) (bL r7)) = 0 → (bRg (l4 + 6) ∧ A (13, [.ref 200, .ref 11, .ref 12, .ref 154, .int (bn (l4 + 6)), .int (bn r3), .int (bn r7), v7], [], s9))) ∧ (¬ (bCmp (bj s9 154 0) (bL r7)) = 0 → Q (.inl (some (.int (bn 0)))) s9))) ∧ (¬ r3 = 0 → (bRg (l4 + 6) ∧ A (13, [.ref 200, .ref 11, .ref 12, .ref 154, .int (bn (l4 + 6)), .int (bn r3), .int (bn r7), v7], [], s9))))) ∧ (¬ r11 = r3 → Q (.inl (some (.int (bn 0)))) s9))))))))))))))))))))) : A (668, [.ref 200, .ref 11, .ref 12, .ref 154, .int (bn l4), v5, v6, v7], [], σ) := by
  refine bGo hA 41 12 (1222, .aload_n 1, 1, 669, 0, [1], []) rfl rfl rfl ?_
  refine bGo hA 41 13 (1223, .aload_n 0, 1, 670, 0, [0], []) rfl rfl rfl ?_
  refine bGo hA 41 14 (1224, .iload 4, 2, 671, 0, [4], []) rfl rfl rfl ?_
  refine bGo hA 41 15 (1226, .iconst (1), 1, 672, 0, [], [(1, 0)]) rfl rfl rfl ?_
  refine bEqI bl_1 ?_
  refine bGo hA 42 0 (1227, .iadd, 1, 673, 0, [], []) rfl rfl rfl ?_
  refine bEqI (bn_add l4 1) ?_
  refine bGo hA 42 1 (1228, .iaload, 1, 674, 0, [], []) rfl rfl rfl ?_
  refine ⟨rfl, (bIxP (x := (l4 + 1)) (n := bLen σ 200) h.1 h.2.1), ?_⟩
  refine bEqL (x := (l4 + 1)) h.1 ?_
  refine bGo hA 42 2 (1229, .aload_n 0, 1, 675, 0, [0], []) rfl rfl rfl ?_
  refine bGo hA 42 3 (1230, .iload 4, 2, 676, 0, [4], []) rfl rfl rfl ?_
  refine bGo hA 42 4 (1232, .iconst (2), 1, 677, 0, [], [(2, 0)]) rfl rfl rfl ?_
  refine bEqI bl_2 ?_
  refine bGo hA 42 5 (1233, .iadd, 1, 678, 0, [], []) rfl rfl rfl ?_
  refine bEqI (bn_add l4 2) ?_
  refine bGo hA 42 6 (1234, .iaload, 1, 679, 0, [], []) rfl rfl rfl ?_
  refine ⟨rfl, (bIxP (x := (l4 + 2)) (n := bLen σ 200) h.2.2.1 h.2.2.2.1), ?_⟩
  refine bEqL (x := (l4 + 2)) h.2.2.1 ?_
  refine bGo hA 42 7 (1235, .aload_n 0, 1, 680, 0, [0], []) rfl rfl rfl ?_
  refine bGo hA 42 8 (1236, .iload 4, 2, 681, 0, [4], []) rfl rfl rfl ?_
  refine bGo hA 42 9 (1238, .iconst (3), 1, 682, 0, [], [(3, 0)]) rfl rfl rfl ?_
  refine bEqI bl_3 ?_
  refine bGo hA 42 10 (1239, .iadd, 1, 683, 0, [], []) rfl rfl rfl ?_
  refine bEqI (bn_add l4 3) ?_
  refine bGo hA 42 11 (1240, .iaload, 1, 684, 0, [], []) rfl rfl rfl ?_
  refine ⟨rfl, (bIxP (x := (l4 + 3)) (n := bLen σ 200) h.2.2.2.2.1 h.2.2.2.2.2.1), ?_⟩
  refine bEqL (x := (l4 + 3)) h.2.2.2.2.1 ?_
  refine bGo hA 42 12 (1241, .aload_n 3, 1, 685, 0, [3], []) rfl rfl rfl ?_
  refine bGo hA 42 13 (1242, .invokestatic 214, 3, 686, 0, [2, 327, 5], []) rfl rfl rfl ?_
  refine hC _ _ _ _ _ (bRn_e (fun r3 s1 q4 k2 => ?_)) h.2.2.2.2.2.2
  show A (686, [.ref 200, .ref 11, .ref 12, .ref 154, .int (bn l4), v5, v6, v7], [.int (bn r3)], s1)
  refine bGo hA 42 14 (1245, .istore 5, 2, 687, 0, [5], []) rfl rfl rfl ?_
  refine bGo hA 42 15 (1247, .aload_n 2, 1, 688, 0, [2], []) rfl rfl rfl ?_
  refine bGo hA 43 0 (1248, .aload_n 0, 1, 689, 0, [0], []) rfl rfl rfl ?_
  refine bGo hA 43 1 (1249, .iload 4, 2, 690, 0, [4], []) rfl rfl rfl ?_
  refine bGo hA 43 2 (1251, .iconst (1), 1, 691, 0, [], [(1, 0)]) rfl rfl rfl ?_
  refine bEqI bl_1 ?_
  refine bGo hA 43 3 (1252, .iadd, 1, 692, 0, [], []) rfl rfl rfl ?_
  refine bEqI (bn_add l4 1) ?_
  refine bGo hA 43 4 (1253, .iaload, 1, 693, 0, [], []) rfl rfl rfl ?_
  refine ⟨rfl, (bIxP (x := (l4 + 1)) (n := bLen s1 200) h.1 k2.1), ?_⟩
  refine bEqL (x := (l4 + 1)) h.1 ?_
  refine bGo hA 43 5 (1254, .aload_n 0, 1, 694, 0, [0], []) rfl rfl rfl ?_
  refine bGo hA 43 6 (1255, .iload 4, 2, 695, 0, [4], []) rfl rfl rfl ?_
  refine bGo hA 43 7 (1257, .iconst (2), 1, 696, 0, [], [(2, 0)]) rfl rfl rfl ?_
  refine bEqI bl_2 ?_
  refine bGo hA 43 8 (1258, .iadd, 1, 697, 0, [], []) rfl rfl rfl ?_
  refine bEqI (bn_add l4 2) ?_
  refine bGo hA 43 9 (1259, .iaload, 1, 698, 0, [], []) rfl rfl rfl ?_
  refine ⟨rfl, (bIxP (x := (l4 + 2)) (n := bLen s1 200) h.2.2.1 k2.2.1), ?_⟩
  refine bEqL (x := (l4 + 2)) h.2.2.1 ?_
  refine bGo hA 43 10 (1260, .aload_n 0, 1, 699, 0, [0], []) rfl rfl rfl ?_
  refine bGo hA 43 11 (1261, .iload 4, 2, 700, 0, [4], []) rfl rfl rfl ?_
  refine bGo hA 43 12 (1263, .iconst (3), 1, 701, 0, [], [(3, 0)]) rfl rfl rfl ?_
  refine bEqI bl_3 ?_
  refine bGo hA 43 13 (1264, .iadd, 1, 702, 0, [], []) rfl rfl rfl ?_
  refine bEqI (bn_add l4 3) ?_
  refine bGo hA 43 14 (1265, .iaload, 1, 703, 0, [], []) rfl rfl rfl ?_
  refine ⟨rfl, (bIxP (x := (l4 + 3)) (n := bLen s1 200) h.2.2.2.2.1 k2.2.2.1), ?_⟩
  refine bEqL (x := (l4 + 3)) h.2.2.2.2.1 ?_
  refine bGo hA 43 15 (1266, .invokevirtual 216, 3, 704, 0, [0, 12, 226, 3], []) rfl rfl rfl ?_
  refine ⟨rfl, ?_⟩
  refine hC _ _ _ _ _ (bRn_e (fun r7 s5 q8 k6 => ?_)) k2.2.2.2
  show A (704, [.ref 200, .ref 11, .ref 12, .ref 154, .int (bn l4), .int (bn r3), v6, v7], [.int (bn r7)], s5)
  refine bGo hA 44 0 (1269, .istore 6, 2, 705, 0, [6], []) rfl rfl rfl ?_
  refine bGo hA 44 1 (1271, .aload_n 2, 1, 706, 0, [2], []) rfl rfl rfl ?_
  refine bGo hA 44 2 (1272, .invokevirtual 168, 3, 707, 0, [0, 12, 196, 0], []) rfl rfl rfl ?_
  refine ⟨rfl, ?_⟩
  refine hC _ _ _ _ _ (bRn_e (fun r11 s9 q12 k10 => ?_)) k6
  show A (707, [.ref 200, .ref 11, .ref 12, .ref 154, .int (bn l4), .int (bn r3), .int (bn r7), v7], [.int (bn r11)], s9)
  refine bGo hA 44 3 (1275, .iload 5, 2, 708, 0, [5], []) rfl rfl rfl ?_
  refine bGo hA 44 4 (1277, .if_icmp .eq (5), 3, 709, 711, [], []) rfl rfl rfl ?_
  refine bB_eq (x := r11) (y := r3) q12 q4 (fun c13 => ?_) (fun c13 => ?_)
  · refine bGo hA 44 7 (1282, .iload 5, 2, 712, 0, [5], []) rfl rfl rfl ?_
    refine bGo hA 44 8 (1284, .ifCond .ne (15), 3, 713, 722, [], []) rfl rfl rfl ?_
    refine bB_eq0 (x := r3) q4 (fun c14 => ?_) (fun c14 => ?_)
    · refine bGo hA 44 9 (1287, .aload_n 3, 1, 714, 0, [3], []) rfl rfl rfl ?_
      refine bGo hA 44 10 (1288, .iconst (0), 1, 715, 0, [], [(0, 0)]) rfl rfl rfl ?_
      refine bEqI bl_0 ?_
      refine bGo hA 44 11 (1289, .laload, 1, 716, 0, [], []) rfl rfl rfl ?_
      refine ⟨rfl, (bIxP (x := 0) (n := 1) (by decide) (by decide)), ?_⟩
      refine bEqJ (x := 0) (by decide : bRg 0) ?_
      refine bGo hA 44 12 (1290, .iload 6, 2, 717, 0, [6], []) rfl rfl rfl ?_
      refine bGo hA 44 13 (1292, .i2l, 1, 718, 0, [], []) rfl rfl rfl ?_
      refine bGo hA 44 14 (1293, .lcmp, 1, 719, 0, [], []) rfl rfl rfl ?_
      refine bEqI (bn_cmp (bj s9 154 0) (bL r7)) ?_
      refine bGo hA 44 15 (1294, .ifCond .eq (5), 3, 720, 722, [], []) rfl rfl rfl ?_
      refine bB_eq0 (x := (bCmp (bj s9 154 0) (bL r7))) (bRgI _) (fun c15 => ?_) (fun c15 => ?_)
      · refine bGo hA 45 2 (1299, .goto (2115), 3, 723, 2097, [], []) rfl rfl rfl ?_
        refine bGo hA 131 1 (3414, .iinc 4 (6), 3, 2098, 0, [4], [(6, 0)]) rfl rfl rfl ?_
        refine bEqC (fun v => A (2098, [.ref 200, .ref 11, .ref 12, .ref 154, .int v, .int (bn r3), .int (bn r7), v7], [], s9)) ((congrArg (fun w => bn l4 + w) bl_6).trans (bn_add l4 6)) ?_
        refine bGo hA 131 2 (3417, .goto (-3394), 3, 2099, 13, [], []) rfl rfl rfl ?_
        exact (((k10.1 c13).1 c14).1 c15).2
      · refine bGo hA 45 0 (1297, .iconst (0), 1, 721, 0, [], [(0, 0)]) rfl rfl rfl ?_
        refine bEqI bl_0 ?_
        refine bGo hA 45 1 (1298, .ireturn, 1, 722, 0, [2], []) rfl rfl rfl ?_
        exact ⟨b01 (Or.inl rfl), (((k10.1 c13).1 c14).2 c15)⟩
    · refine bGo hA 45 2 (1299, .goto (2115), 3, 723, 2097, [], []) rfl rfl rfl ?_
      refine bGo hA 131 1 (3414, .iinc 4 (6), 3, 2098, 0, [4], [(6, 0)]) rfl rfl rfl ?_
      refine bEqC (fun v => A (2098, [.ref 200, .ref 11, .ref 12, .ref 154, .int v, .int (bn r3), .int (bn r7), v7], [], s9)) ((congrArg (fun w => bn l4 + w) bl_6).trans (bn_add l4 6)) ?_
      refine bGo hA 131 2 (3417, .goto (-3394), 3, 2099, 13, [], []) rfl rfl rfl ?_
      exact ((k10.1 c13).2 c14).2
  · refine bGo hA 44 5 (1280, .iconst (0), 1, 710, 0, [], [(0, 0)]) rfl rfl rfl ?_
    refine bEqI bl_0 ?_
    refine bGo hA 44 6 (1281, .ireturn, 1, 711, 0, [2], []) rfl rfl rfl ?_
    exact ⟨b01 (Or.inl rfl), (k10.2 c13)⟩

theorem sq357_723 {lvl : Nat} {C : bCall} {Q : bPost} {A : bPt → Prop} (hC : bMono C) (hA : bClosed lvl bm357 C Q A) {l4 : Int} {v5 : Value} {v6 : Value} {v7 : Value} {σ : bSt}  (h_l4 : bRg l4)
  (h : (bRg (l4 + 1) ∧ ((0 ≤ (l4 + 1) ∧ (l4 + 1) < (bLen σ 200 : Int)) ∧ (bRg (l4 + 2) ∧ ((0 ≤ (l4 + 2) ∧ (l4 + 2) < (bLen σ 200 : Int)) ∧ (bRg (l4 + 3) ∧ ((0 ≤ (l4 + 3) ∧ (l4 + 3) < (bLen σ 200 : Int)) ∧ (C 328 [.ref 11, .int (bn (bi σ 200 (l4 + 1))), .int (bn (bi σ 200 (l4 + 2))), .int (bn (bi σ 200 (l4 + 3)))] σ (bRn (fun r3 s1 => ((0 ≤ (l4 + 1) ∧ (l4 + 1) < (bLen s1 200 : Int)) ∧ ((0 ≤ (l4 + 2) ∧ (l4 + 2) < (bLen s1 200 : Int)) ∧ ((0 ≤ (l4 + 3) ∧ (l4 + 3) < (bLen s1 200 : Int)) ∧ (C 227 [.ref 12, .int (bn (bi s1 200 (l4 + 1))), .int (bn (bi s1 200 (l4 + 2))), .int (bn (bi s1 200 (l4 + 3)))] s1 (bRv (fun s5 => (C 196 [.ref 12] s5 (bRn (fun r9 s7 => ((r9 = r3 → (bRg (l4 + 6) ∧ A (13, [.ref 200, .ref 11, .ref 12, .ref 154, .int (bn (l4 + 6)), .int (bn r3), v6, v7], [], s7))) ∧ (¬ r9 = r3 → Q (.inl (some (.int (bn 0)))) s7))))))))))))))))))))) : A (723, [.ref 200, .ref 11, .ref 12, .ref 154, .int (bn l4), v5, v6, v7], [], σ) := by
  refine bGo hA 45 3 (1302, .aload_n 1, 1, 724, 0, [1], []) rfl rfl rfl ?_
  refine bGo hA 45 4 (1303, .aload_n 0, 1, 725, 0, [0], []) rfl rfl rfl ?_
  refine bGo hA 45 5 (1304, .iload 4, 2, 726, 0, [4], []) rfl rfl rfl ?_
  refine bGo hA 45 6 (1306, .iconst (1), 1, 727, 0, [], [(1, 0)]) rfl rfl rfl ?_
  refine bEqI bl_1 ?_
  refine bGo hA 45 7 (1307, .iadd, 1, 728, 0, [], []) rfl rfl rfl ?_
  refine bEqI (bn_add l4 1) ?_
  refine bGo hA 45 8 (1308, .iaload, 1, 729, 0, [], []) rfl rfl rfl ?_
  refine ⟨rfl, (bIxP (x := (l4 + 1)) (n := bLen σ 200) h.1 h.2.1), ?_⟩
  refine bEqL (x := (l4 + 1)) h.1 ?_
  refine bGo hA 45 9 (1309, .aload_n 0, 1, 730, 0, [0], []) rfl rfl rfl ?_
  refine bGo hA 45 10 (1310, .iload 4, 2, 731, 0, [4], []) rfl rfl rfl ?_
  refine bGo hA 45 11 (1312, .iconst (2), 1, 732, 0, [], [(2, 0)]) rfl rfl rfl ?_
  refine bEqI bl_2 ?_
  refine bGo hA 45 12 (1313, .iadd, 1, 733, 0, [], []) rfl rfl rfl ?_
  refine bEqI (bn_add l4 2) ?_
  refine bGo hA 45 13 (1314, .iaload, 1, 734, 0, [], []) rfl rfl rfl ?_
  refine ⟨rfl, (bIxP (x := (l4 + 2)) (n := bLen σ 200) h.2.2.1 h.2.2.2.1), ?_⟩
  refine bEqL (x := (l4 + 2)) h.2.2.1 ?_
  refine bGo hA 45 14 (1315, .aload_n 0, 1, 735, 0, [0], []) rfl rfl rfl ?_
  refine bGo hA 45 15 (1316, .iload 4, 2, 736, 0, [4], []) rfl rfl rfl ?_
  refine bGo hA 46 0 (1318, .iconst (3), 1, 737, 0, [], [(3, 0)]) rfl rfl rfl ?_
  refine bEqI bl_3 ?_
  refine bGo hA 46 1 (1319, .iadd, 1, 738, 0, [], []) rfl rfl rfl ?_
  refine bEqI (bn_add l4 3) ?_
  refine bGo hA 46 2 (1320, .iaload, 1, 739, 0, [], []) rfl rfl rfl ?_
  refine ⟨rfl, (bIxP (x := (l4 + 3)) (n := bLen σ 200) h.2.2.2.2.1 h.2.2.2.2.2.1), ?_⟩
  refine bEqL (x := (l4 + 3)) h.2.2.2.2.1 ?_
  refine bGo hA 46 3 (1321, .invokestatic 217, 3, 740, 0, [2, 328, 4], []) rfl rfl rfl ?_
  refine hC _ _ _ _ _ (bRn_e (fun r3 s1 q4 k2 => ?_)) h.2.2.2.2.2.2
  show A (740, [.ref 200, .ref 11, .ref 12, .ref 154, .int (bn l4), v5, v6, v7], [.int (bn r3)], s1)
  refine bGo hA 46 4 (1324, .istore 5, 2, 741, 0, [5], []) rfl rfl rfl ?_
  refine bGo hA 46 5 (1326, .aload_n 2, 1, 742, 0, [2], []) rfl rfl rfl ?_
  refine bGo hA 46 6 (1327, .aload_n 0, 1, 743, 0, [0], []) rfl rfl rfl ?_
  refine bGo hA 46 7 (1328, .iload 4, 2, 744, 0, [4], []) rfl rfl rfl ?_
  refine bGo hA 46 8 (1330, .iconst (1), 1, 745, 0, [], [(1, 0)]) rfl rfl rfl ?_
  refine bEqI bl_1 ?_
  refine bGo hA 46 9 (1331, .iadd, 1, 746, 0, [], []) rfl rfl rfl ?_
  refine bEqI (bn_add l4 1) ?_
  refine bGo hA 46 10 (1332, .iaload, 1, 747, 0, [], []) rfl rfl rfl ?_
  refine ⟨rfl, (bIxP (x := (l4 + 1)) (n := bLen s1 200) h.1 k2.1), ?_⟩
  refine bEqL (x := (l4 + 1)) h.1 ?_
  refine bGo hA 46 11 (1333, .aload_n 0, 1, 748, 0, [0], []) rfl rfl rfl ?_
  refine bGo hA 46 12 (1334, .iload 4, 2, 749, 0, [4], []) rfl rfl rfl ?_
  refine bGo hA 46 13 (1336, .iconst (2), 1, 750, 0, [], [(2, 0)]) rfl rfl rfl ?_
  refine bEqI bl_2 ?_
  refine bGo hA 46 14 (1337, .iadd, 1, 751, 0, [], []) rfl rfl rfl ?_
  refine bEqI (bn_add l4 2) ?_
  refine bGo hA 46 15 (1338, .iaload, 1, 752, 0, [], []) rfl rfl rfl ?_
  refine ⟨rfl, (bIxP (x := (l4 + 2)) (n := bLen s1 200) h.2.2.1 k2.2.1), ?_⟩
  refine bEqL (x := (l4 + 2)) h.2.2.1 ?_
  refine bGo hA 47 0 (1339, .aload_n 0, 1, 753, 0, [0], []) rfl rfl rfl ?_
  refine bGo hA 47 1 (1340, .iload 4, 2, 754, 0, [4], []) rfl rfl rfl ?_
  refine bGo hA 47 2 (1342, .iconst (3), 1, 755, 0, [], [(3, 0)]) rfl rfl rfl ?_
  refine bEqI bl_3 ?_
  refine bGo hA 47 3 (1343, .iadd, 1, 756, 0, [], []) rfl rfl rfl ?_
  refine bEqI (bn_add l4 3) ?_
  refine bGo hA 47 4 (1344, .iaload, 1, 757, 0, [], []) rfl rfl rfl ?_
  refine ⟨rfl, (bIxP (x := (l4 + 3)) (n := bLen s1 200) h.2.2.2.2.1 k2.2.2.1), ?_⟩
  refine bEqL (x := (l4 + 3)) h.2.2.2.2.1 ?_
  refine bGo hA 47 5 (1345, .invokevirtual 220, 3, 758, 0, [0, 12, 227, 3], []) rfl rfl rfl ?_
  refine ⟨rfl, ?_⟩
  refine hC _ _ _ _ _ (bRv_e (fun s5 k6 => ?_)) k2.2.2.2
  show A (758, [.ref 200, .ref 11, .ref 12, .ref 154, .int (bn l4), .int (bn r3), v6, v7], [], s5)
  refine bGo hA 47 6 (1348, .aload_n 2, 1, 759, 0, [2], []) rfl rfl rfl ?_
  refine bGo hA 47 7 (1349, .invokevirtual 168, 3, 760, 0, [0, 12, 196, 0], []) rfl rfl rfl ?_
  refine ⟨rfl, ?_⟩
  refine hC _ _ _ _ _ (bRn_e (fun r9 s7 q10 k8 => ?_)) k6
  show A (760, [.ref 200, .ref 11, .ref 12, .ref 154, .int (bn l4), .int (bn r3), v6, v7], [.int (bn r9)], s7)
  refine bGo hA 47 8 (1352, .iload 5, 2, 761, 0, [5], []) rfl rfl rfl ?_
  refine bGo hA 47 9 (1354, .if_icmp .eq (5), 3, 762, 764, [], []) rfl rfl rfl ?_
  refine bB_eq (x := r9) (y := r3) q10 q4 (fun c11 => ?_) (fun c11 => ?_)
  · refine bGo hA 47 12 (1359, .goto (2055), 3, 765, 2097, [], []) rfl rfl rfl ?_
    refine bGo hA 131 1 (3414, .iinc 4 (6), 3, 2098, 0, [4], [(6, 0)]) rfl rfl rfl ?_
    refine bEqC (fun v => A (2098, [.ref 200, .ref 11, .ref 12, .ref 154, .int v, .int (bn r3), v6, v7], [], s7)) ((congrArg (fun w => bn l4 + w) bl_6).trans (bn_add l4 6)) ?_
    refine bGo hA 131 2 (3417, .goto (-3394), 3, 2099, 13, [], []) rfl rfl rfl ?_
    exact (k8.1 c11).2
  · refine bGo hA 47 10 (1357, .iconst (0), 1, 763, 0, [], [(0, 0)]) rfl rfl rfl ?_
    refine bEqI bl_0 ?_
    refine bGo hA 47 11 (1358, .ireturn, 1, 764, 0, [2], []) rfl rfl rfl ?_
    exact ⟨b01 (Or.inl rfl), (k8.2 c11)⟩

theorem sq357_765 {lvl : Nat} {C : bCall} {Q : bPost} {A : bPt → Prop} (hC : bMono C) (hA : bClosed lvl bm357 C Q A) {l4 : Int} {v5 : Value} {v6 : Value} {v7 : Value} {σ : bSt}  (h_l4 : bRg l4)
  (h : (bRg (l4 + 1) ∧ ((0 ≤ (l4 + 1) ∧ (l4 + 1) < (bLen σ 200 : Int)) ∧ (bRg (l4 + 2) ∧ ((0 ≤ (l4 + 2) ∧ (l4 + 2) < (bLen σ 200 : Int)) ∧ (bRg (l4 + 3) ∧ ((0 ≤ (l4 + 3) ∧ (l4 + 3) < (bLen σ 200 : Int)) ∧ (bRg (l4 + 4) ∧ ((0 ≤ (l4 + 4) ∧ (l4 + 4) < (bLen σ 200 : Int)) ∧ (C 329 [.ref 11, .int (bn (bi σ 200 (l4 + 1))), .int (bn (bi σ 200 (l4 + 2))), .int (bn (bi σ 200 (l4 + 3))), .int (bn (bi σ 200 (l4 + 4))), .ref 154] σ (bRn (fun r3 s1 => ((0 ≤ (l4 + 1) ∧ (l4 + 1) < (bLen s1 200 : Int)) ∧ ((0 ≤ (l4 + 2) ∧ (l4 + 2) < (bLen s1 200 : Int)) ∧ ((0 ≤ (l4 + 3) ∧ (l4 + 3) < (bLen s1 200 : Int)) ∧ ((0 ≤ (l4 + 4) ∧ (l4 + 4) < (bLen s1 200 : Int)) ∧ (C 228 [.ref 12, .int (bn (bi s1 200 (l4 + 1))), .int (bn (bi s1 200 (l4 + 2))), .int (bn (bi s1 200 (l4 + 3))), .int (bn (bi s1 200 (l4 + 4)))] s1 (bRn (fun r7 s5 => (C 196 [.ref 12] s5 (bRn (fun r11 s9 => ((r11 = r3 → ((r3 = 0 → (((bCmp (bj s9 154 0) (bL r7)) = 0 → (bRg (l4 + 6) ∧ A (13, [.ref 200, .ref 11, .ref 12, .ref 154, .int (bn (l4 + 6)), .int (bn r3), .int (bn r7), v7], [], s9))) ∧ (¬ (bCmp (bj s9 154 0) (bL r7)) = 0 → Q (.inl (some (.int (bn 0)))) s9))) ∧ (¬ r3 = 0 → (bRg (l4 + 6) ∧ A (13, [.ref 200, .ref 11, .ref 12, .ref 154, .int (bn (l4 + 6)), .int (bn r3), .int (bn r7), v7], [], s9))))) ∧ (¬ r11 = r3 → Q (.inl (some (.int (bn 0)))) s9)))))))))))))))))))))))) : A (765, [.ref 200, .ref 11, .ref 12, .ref 154, .int (bn l4), v5, v6, v7], [], σ) := by
  refine bGo hA 47 13 (1362, .aload_n 1, 1, 766, 0, [1], []) rfl rfl rfl ?_
  refine bGo hA 47 14 (1363, .aload_n 0, 1, 767, 0, [0], []) rfl rfl rfl ?_
  refine bGo hA 47 15 (1364, .iload 4, 2, 768, 0, [4], []) rfl rfl rfl ?_
  refine bGo hA 48 0 (1366, .iconst (1), 1, 769, 0, [], [(1, 0)]) rfl rfl rfl ?_
  refine bEqI bl_1 ?_
  refine bGo hA 48 1 (1367, .iadd, 1, 770, 0, [], []) rfl rfl rfl ?_
  refine bEqI (bn_add l4 1) ?_
  refine bGo hA 48 2 (1368, .iaload, 1, 771, 0, [], []) rfl rfl rfl ?_
  refine ⟨rfl, (bIxP (x := (l4 + 1)) (n := bLen σ 200) h.1 h.2.1), ?_⟩
  refine bEqL (x := (l4 + 1)) h.1 ?_
  refine bGo hA 48 3 (1369, .aload_n 0, 1, 772, 0, [0], []) rfl rfl rfl ?_
  refine bGo hA 48 4 (1370, .iload 4, 2, 773, 0, [4], []) rfl rfl rfl ?_
  refine bGo hA 48 5 (1372, .iconst (2), 1, 774, 0, [], [(2, 0)]) rfl rfl rfl ?_
  refine bEqI bl_2 ?_
  refine bGo hA 48 6 (1373, .iadd, 1, 775, 0, [], []) rfl rfl rfl ?_
  refine bEqI (bn_add l4 2) ?_
  refine bGo hA 48 7 (1374, .iaload, 1, 776, 0, [], []) rfl rfl rfl ?_
  refine ⟨rfl, (bIxP (x := (l4 + 2)) (n := bLen σ 200) h.2.2.1 h.2.2.2.1), ?_⟩
  refine bEqL (x := (l4 + 2)) h.2.2.1 ?_
  refine bGo hA 48 8 (1375, .aload_n 0, 1, 777, 0, [0], []) rfl rfl rfl ?_
  refine bGo hA 48 9 (1376, .iload 4, 2, 778, 0, [4], []) rfl rfl rfl ?_
  refine bGo hA 48 10 (1378, .iconst (3), 1, 779, 0, [], [(3, 0)]) rfl rfl rfl ?_
  refine bEqI bl_3 ?_
  refine bGo hA 48 11 (1379, .iadd, 1, 780, 0, [], []) rfl rfl rfl ?_
  refine bEqI (bn_add l4 3) ?_
  refine bGo hA 48 12 (1380, .iaload, 1, 781, 0, [], []) rfl rfl rfl ?_
  refine ⟨rfl, (bIxP (x := (l4 + 3)) (n := bLen σ 200) h.2.2.2.2.1 h.2.2.2.2.2.1), ?_⟩
  refine bEqL (x := (l4 + 3)) h.2.2.2.2.1 ?_
  refine bGo hA 48 13 (1381, .aload_n 0, 1, 782, 0, [0], []) rfl rfl rfl ?_
  refine bGo hA 48 14 (1382, .iload 4, 2, 783, 0, [4], []) rfl rfl rfl ?_
  refine bGo hA 48 15 (1384, .iconst (4), 1, 784, 0, [], [(4, 0)]) rfl rfl rfl ?_
  refine bEqI bl_4 ?_
  refine bGo hA 49 0 (1385, .iadd, 1, 785, 0, [], []) rfl rfl rfl ?_
  refine bEqI (bn_add l4 4) ?_
  refine bGo hA 49 1 (1386, .iaload, 1, 786, 0, [], []) rfl rfl rfl ?_
  refine ⟨rfl, (bIxP (x := (l4 + 4)) (n := bLen σ 200) h.2.2.2.2.2.2.1 h.2.2.2.2.2.2.2.1), ?_⟩
  refine bEqL (x := (l4 + 4)) h.2.2.2.2.2.2.1 ?_
  refine bGo hA 49 2 (1387, .aload_n 3, 1, 787, 0, [3], []) rfl rfl rfl ?_
  refine bGo hA 49 3 (1388, .invokestatic 221, 3, 788, 0, [2, 329, 6], []) rfl rfl rfl ?_
  refine hC _ _ _ _ _ (bRn_e (fun r3 s1 q4 k2 => ?_)) h.2.2.2.2.2.2.2.2
  show A (788, [.ref 200, .ref 11, .ref 12, .ref 154, .int (bn l4), v5, v6, v7], [.int (bn r3)], s1)
  refine bGo hA 49 4 (1391, .istore 5, 2, 789, 0, [5], []) rfl rfl rfl ?_
  refine bGo hA 49 5 (1393, .aload_n 2, 1, 790, 0, [2], []) rfl rfl rfl ?_
  refine bGo hA 49 6 (1394, .aload_n 0, 1, 791, 0, [0], []) rfl rfl rfl ?_
  refine bGo hA 49 7 (1395, .iload 4, 2, 792, 0, [4], []) rfl rfl rfl ?_
  refine bGo hA 49 8 (1397, .iconst (1), 1, 793, 0, [], [(1, 0)]) rfl rfl rfl ?_
  refine bEqI bl_1 ?_
  refine bGo hA 49 9 (1398, .iadd, 1, 794, 0, [], []) rfl rfl rfl ?_
  refine bEqI (bn_add l4 1) ?_
  refine bGo hA 49 10 (1399, .iaload, 1, 795, 0, [], []) rfl rfl rfl ?_
  refine ⟨rfl, (bIxP (x := (l4 + 1)) (n := bLen s1 200) h.1 k2.1), ?_⟩
  refine bEqL (x := (l4 + 1)) h.1 ?_
  refine bGo hA 49 11 (1400, .aload_n 0, 1, 796, 0, [0], []) rfl rfl rfl ?_
  refine bGo hA 49 12 (1401, .iload 4, 2, 797, 0, [4], []) rfl rfl rfl ?_
  refine bGo hA 49 13 (1403, .iconst (2), 1, 798, 0, [], [(2, 0)]) rfl rfl rfl ?_
  refine bEqI bl_2 ?_
  refine bGo hA 49 14 (1404, .iadd, 1, 799, 0, [], []) rfl rfl rfl ?_
  refine bEqI (bn_add l4 2) ?_
  refine bGo hA 49 15 (1405, .iaload, 1, 800, 0, [], []) rfl rfl rfl ?_
  refine ⟨rfl, (bIxP (x := (l4 + 2)) (n := bLen s1 200) h.2.2.1 k2.2.1), ?_⟩
  refine bEqL (x := (l4 + 2)) h.2.2.1 ?_
  refine bGo hA 50 0 (1406, .aload_n 0, 1, 801, 0, [0], []) rfl rfl rfl ?_
  refine bGo hA 50 1 (1407, .iload 4, 2, 802, 0, [4], []) rfl rfl rfl ?_
  refine bGo hA 50 2 (1409, .iconst (3), 1, 803, 0, [], [(3, 0)]) rfl rfl rfl ?_
  refine bEqI bl_3 ?_
  refine bGo hA 50 3 (1410, .iadd, 1, 804, 0, [], []) rfl rfl rfl ?_
  refine bEqI (bn_add l4 3) ?_
  refine bGo hA 50 4 (1411, .iaload, 1, 805, 0, [], []) rfl rfl rfl ?_
  refine ⟨rfl, (bIxP (x := (l4 + 3)) (n := bLen s1 200) h.2.2.2.2.1 k2.2.2.1), ?_⟩
  refine bEqL (x := (l4 + 3)) h.2.2.2.2.1 ?_
  refine bGo hA 50 5 (1412, .aload_n 0, 1, 806, 0, [0], []) rfl rfl rfl ?_
  refine bGo hA 50 6 (1413, .iload 4, 2, 807, 0, [4], []) rfl rfl rfl ?_
  refine bGo hA 50 7 (1415, .iconst (4), 1, 808, 0, [], [(4, 0)]) rfl rfl rfl ?_
  refine bEqI bl_4 ?_
  refine bGo hA 50 8 (1416, .iadd, 1, 809, 0, [], []) rfl rfl rfl ?_
  refine bEqI (bn_add l4 4) ?_
  refine bGo hA 50 9 (1417, .iaload, 1, 810, 0, [], []) rfl rfl rfl ?_
  refine ⟨rfl, (bIxP (x := (l4 + 4)) (n := bLen s1 200) h.2.2.2.2.2.2.1 k2.2.2.2.1), ?_⟩
  refine bEqL (x := (l4 + 4)) h.2.2.2.2.2.2.1 ?_
  refine bGo hA 50 10 (1418, .invokevirtual 223, 3, 811, 0, [0, 12, 228, 4], []) rfl rfl rfl ?_
  refine ⟨rfl, ?_⟩
  refine hC _ _ _ _ _ (bRn_e (fun r7 s5 q8 k6 => ?_)) k2.2.2.2.2
  show A (811, [.ref 200, .ref 11, .ref 12, .ref 154, .int (bn l4), .int (bn r3), v6, v7], [.int (bn r7)], s5)
  refine bGo hA 50 11 (1421, .istore 6, 2, 812, 0, [6], []) rfl rfl rfl ?_
  refine bGo hA 50 12 (1423, .aload_n 2, 1, 813, 0, [2], []) rfl rfl rfl ?_
  refine bGo hA 50 13 (1424, .invokevirtual 168, 3, 814, 0, [0, 12, 196, 0], []) rfl rfl rfl ?_
  refine ⟨rfl, ?_⟩
  refine hC _ _ _ _ _ (bRn_e (fun r11 s9 q12 k10 => ?_)) k6
  show A (814, [.ref 200, .ref 11, .ref 12, .ref 154, .int (bn l4), .int (bn r3), .int (bn r7), v7], [.int (bn r11)], s9)
  refine bGo hA 50 14 (1427, .iload 5, 2, 815, 0, [5], []) rfl rfl rfl ?_
  refine bGo hA 50 15 (1429, .if_icmp .eq (5), 3, 816, 818, [], []) rfl rfl rfl ?_
  refine bB_eq (x := r11) (y := r3) q12 q4 (fun c13 => ?_) (fun c13 => ?_)
  · refine bGo hA 51 2 (1434, .iload 5, 2, 819, 0, [5], []) rfl rfl rfl ?_
    refine bGo hA 51 3 (1436, .ifCond .ne (15), 3, 820, 829, [], []) rfl rfl rfl ?_
    refine bB_eq0 (x := r3) q4 (fun c14 => ?_) (fun c14 => ?_)
    · refine bGo hA 51 4 (1439, .aload_n 3, 1, 821, 0, [3], []) rfl rfl rfl ?_
      refine bGo hA 51 5 (1440, .iconst (0), 1, 822, 0, [], [(0, 0)]) rfl rfl rfl ?_
      refine bEqI bl_0 ?_
      refine bGo hA 51 6 (1441, .laload, 1, 823, 0, [], []) rfl rfl rfl ?_
      refine ⟨rfl, (bIxP (x := 0) (n := 1) (by decide) (by decide)), ?_⟩
      refine bEqJ (x := 0) (by decide : bRg 0) ?_
      refine bGo hA 51 7 (1442, .iload 6, 2, 824, 0, [6], []) rfl rfl rfl ?_
      refine bGo hA 51 8 (1444, .i2l, 1, 825, 0, [], []) rfl rfl rfl ?_
      refine bGo hA 51 9 (1445, .lcmp, 1, 826, 0, [], []) rfl rfl rfl ?_
      refine bEqI (bn_cmp (bj s9 154 0) (bL r7)) ?_
      refine bGo hA 51 10 (1446, .ifCond .eq (5), 3, 827, 829, [], []) rfl rfl rfl ?_
      refine bB_eq0 (x := (bCmp (bj s9 154 0) (bL r7))) (bRgI _) (fun c15 => ?_) (fun c15 => ?_)
      · refine bGo hA 51 13 (1451, .goto (1963), 3, 830, 2097, [], []) rfl rfl rfl ?_
        refine bGo hA 131 1 (3414, .iinc 4 (6), 3, 2098, 0, [4], [(6, 0)]) rfl rfl rfl ?_
        refine bEqC (fun v => A (2098, [.ref 200, .ref 11, .ref 12, .ref 154, .int v, .int (bn r3), .int (bn r7), v7], [], s9)) ((congrArg (fun w => bn l4 + w) bl_6).trans (bn_add l4 6)) ?_
        refine bGo hA 131 2 (3417, .goto (-3394), 3, 2099, 13, [], []) rfl rfl rfl ?_
        exact (((k10.1 c13).1 c14).1 c15).2
      · refine bGo hA 51 11 (1449, .iconst (0), 1, 828, 0, [], [(0, 0)]) rfl rfl rfl ?_
        refine bEqI bl_0 ?_
        refine bGo hA 51 12 (1450, .ireturn, 1, 829, 0, [2], []) rfl rfl rfl ?_
        exact ⟨b01 (Or.inl rfl), (((k10.1 c13).1 c14).2 c15)⟩
    · refine bGo hA 51 13 (1451, .goto (1963), 3, 830, 2097, [], []) rfl rfl rfl ?_
      refine bGo hA 131 1 (3414, .iinc 4 (6), 3, 2098, 0, [4], [(6, 0)]) rfl rfl rfl ?_
      refine bEqC (fun v => A (2098, [.ref 200, .ref 11, .ref 12, .ref 154, .int v, .int (bn r3), .int (bn r7), v7], [], s9)) ((congrArg (fun w => bn l4 + w) bl_6).trans (bn_add l4 6)) ?_
      refine bGo hA 131 2 (3417, .goto (-3394), 3, 2099, 13, [], []) rfl rfl rfl ?_
      exact ((k10.1 c13).2 c14).2
  · refine bGo hA 51 0 (1432, .iconst (0), 1, 817, 0, [], [(0, 0)]) rfl rfl rfl ?_
    refine bEqI bl_0 ?_
    refine bGo hA 51 1 (1433, .ireturn, 1, 818, 0, [2], []) rfl rfl rfl ?_
    exact ⟨b01 (Or.inl rfl), (k10.2 c13)⟩

theorem sq357_830 {lvl : Nat} {C : bCall} {Q : bPost} {A : bPt → Prop} (hC : bMono C) (hA : bClosed lvl bm357 C Q A) {l4 : Int} {v5 : Value} {v6 : Value} {v7 : Value} {σ : bSt}  (h_l4 : bRg l4)
  (h : (bRg (l4 + 1) ∧ ((0 ≤ (l4 + 1) ∧ (l4 + 1) < (bLen σ 200 : Int)) ∧ (bRg (l4 + 2) ∧ ((0 ≤ (l4 + 2) ∧ (l4 + 2) < (bLen σ 200 : Int)) ∧ (C 330 [.ref 11, .int (bn (bi σ 200 (l4 + 1))), .int (bn (bi σ 200 (l4 + 2))), .ref 154] σ (bRn (fun r3 s1 => ((0 ≤ (l4 + 1) ∧ (l4 + 1) < (bLen s1 200 : Int)) ∧ ((0 ≤ (l4 + 2) ∧ (l4 + 2) < (bLen s1 200 : Int)) ∧ (C 230 [.ref 12, .int (bn (bi s1 200 (l4 + 1))), .int (bn (bi s1 200 (l4 + 2)))] s1 (bRn (fun r7 s5 => (C 196 [.ref 12] s5 (bRn (fun r11 s9 => ((r11 = r3 → ((r3 = 0 → (((bCmp (bj s9 154 0) (bL r7)) = 0 → (bRg (l4 + 6) ∧ A (13, [.ref 200, .ref 11, .ref 12, .ref 154, .int (bn (l4 + 6)), .int (bn r3), .int (bn r7), v7], [], s9))) ∧ (¬ (bCmp (bj s9 154 0) (bL r7)) = 0 → Q (.inl (some (.int (bn 0)))) s9))) ∧ (¬ r3 = 0 → (bRg (l4 + 6) ∧ A (13, [.ref 200, .ref 11, .ref 12, .ref 154, .int (bn (l4 + 6)), .int (bn r3), .int (bn r7), v7], [], s9))))) ∧ (¬ r11 = r3 → Q (.inl (some (.int (bn 0)))) s9)))))))))))))))))) : A (830, [.ref 200, .ref 11, .ref 12, .ref 154, .int (bn l4), v5, v6, v7], [], σ) := by
  refine bGo hA 51 14 (1454, .aload_n 1, 1, 831, 0, [1], []) rfl rfl rfl ?_
  refine bGo hA 51 15 (1455, .aload_n 0, 1, 832, 0, [0], []) rfl rfl rfl ?_
  refine bGo hA 52 0 (1456, .iload 4, 2, 833, 0, [4], []) rfl rfl rfl ?_
  refine bGo hA 52 1 (1458, .iconst (1), 1, 834, 0, [], [(1, 0)]) rfl rfl rfl ?_
  refine bEqI bl_1 ?_
  refine bGo hA 52 2 (1459, .iadd, 1, 835, 0, [], []) rfl rfl rfl ?_
  refine bEqI (bn_add l4 1) ?_
  refine bGo hA 52 3 (1460, .iaload, 1, 836, 0, [], []) rfl rfl rfl ?_
  refine ⟨rfl, (bIxP (x := (l4 + 1)) (n := bLen σ 200) h.1 h.2.1), ?_⟩
  refine bEqL (x := (l4 + 1)) h.1 ?_
  refine bGo hA 52 4 (1461, .aload_n 0, 1, 837, 0, [0], []) rfl rfl rfl ?_
  refine bGo hA 52 5 (1462, .iload 4, 2, 838, 0, [4], []) rfl rfl rfl ?_
  refine bGo hA 52 6 (1464, .iconst (2), 1, 839, 0, [], [(2, 0)]) rfl rfl rfl ?_
  refine bEqI bl_2 ?_
  refine bGo hA 52 7 (1465, .iadd, 1, 840, 0, [], []) rfl rfl rfl ?_
  refine bEqI (bn_add l4 2) ?_
  refine bGo hA 52 8 (1466, .iaload, 1, 841, 0, [], []) rfl rfl rfl ?_
  refine ⟨rfl, (bIxP (x := (l4 + 2)) (n := bLen σ 200) h.2.2.1 h.2.2.2.1), ?_⟩
  refine bEqL (x := (l4 + 2)) h.2.2.1 ?_
  refine bGo hA 52 9 (1467, .aload_n 3, 1, 842, 0, [3], []) rfl rfl rfl ?_
  refine bGo hA 52 10 (1468, .invokestatic 224, 3, 843, 0, [2, 330, 4], []) rfl rfl rfl ?_
  refine hC _ _ _ _ _ (bRn_e (fun r3 s1 q4 k2 => ?_)) h.2.2.2.2
  show A (843, [.ref 200, .ref 11, .ref 12, .ref 154, .int (bn l4), v5, v6, v7], [.int (bn r3)], s1)
  refine bGo hA 52 11 (1471, .istore 5, 2, 844, 0, [5], []) rfl rfl rfl ?_
  refine bGo hA 52 12 (1473, .aload_n 2, 1, 845, 0, [2], []) rfl rfl rfl ?_
  refine bGo hA 52 13 (1474, .aload_n 0, 1, 846, 0, [0], []) rfl rfl rfl ?_
  refine bGo hA 52 14 (1475, .iload 4, 2, 847, 0, [4], []) rfl rfl rfl ?_
  refine bGo hA 52 15 (1477, .iconst (1), 1, 848, 0, [], [(1, 0)]) rfl rfl rfl ?_
  refine bEqI bl_1 ?_
  refine bGo hA 53 0 (1478, .iadd, 1, 849, 0, [], []) rfl rfl rfl ?_
  refine bEqI (bn_add l4 1) ?_
  refine bGo hA 53 1 (1479, .iaload, 1, 850, 0, [], []) rfl rfl rfl ?_
  refine ⟨rfl, (bIxP (x := (l4 + 1)) (n := bLen s1 200) h.1 k2.1), ?_⟩
  refine bEqL (x := (l4 + 1)) h.1 ?_
  refine bGo hA 53 2 (1480, .aload_n 0, 1, 851, 0, [0], []) rfl rfl rfl ?_
  refine bGo hA 53 3 (1481, .iload 4, 2, 852, 0, [4], []) rfl rfl rfl ?_
  refine bGo hA 53 4 (1483, .iconst (2), 1, 853, 0, [], [(2, 0)]) rfl rfl rfl ?_
  refine bEqI bl_2 ?_
  refine bGo hA 53 5 (1484, .iadd, 1, 854, 0, [], []) rfl rfl rfl ?_
  refine bEqI (bn_add l4 2) ?_
  refine bGo hA 53 6 (1485, .iaload, 1, 855, 0, [], []) rfl rfl rfl ?_
  refine ⟨rfl, (bIxP (x := (l4 + 2)) (n := bLen s1 200) h.2.2.1 k2.2.1), ?_⟩
  refine bEqL (x := (l4 + 2)) h.2.2.1 ?_
  refine bGo hA 53 7 (1486, .invokevirtual 226, 3, 856, 0, [0, 12, 230, 2], []) rfl rfl rfl ?_
  refine ⟨rfl, ?_⟩
  refine hC _ _ _ _ _ (bRn_e (fun r7 s5 q8 k6 => ?_)) k2.2.2
  show A (856, [.ref 200, .ref 11, .ref 12, .ref 154, .int (bn l4), .int (bn r3), v6, v7], [.int (bn r7)], s5)
  refine bGo hA 53 8 (1489, .istore 6, 2, 857, 0, [6], []) rfl rfl rfl ?_
  refine bGo hA 53 9 (1491, .aload_n 2, 1, 858, 0, [2], []) rfl rfl rfl ?_
  refine bGo hA 53 10 (1492, .invokevirtual 168, 3, 859, 0, [0, 12, 196, 0], []) rfl rfl rfl ?_
  refine ⟨rfl, ?_⟩
  refine hC _ _ _ _ _ (bRn_e (fun r11 s9 q12 k10 => ?_)) k6
  show A (859, [.ref 200, .ref 11, .ref 12, .ref 154, .int (bn l4), .int (bn r3), .int (bn r7), v7], [.int (bn r11)], s9)
  refine bGo hA 53 11 (1495, .iload 5, 2, 860, 0, [5], []) rfl rfl rfl ?_
  refine bGo hA 53 12 (1497, .if_icmp .eq (5), 3, 861, 863, [], []) rfl rfl rfl ?_
  refine bB_eq (x := r11) (y := r3) q12 q4 (fun c13 => ?_) (fun c13 => ?_)
  · refine bGo hA 53 15 (1502, .iload 5, 2, 864, 0, [5], []) rfl rfl rfl ?_
    refine bGo hA 54 0 (1504, .ifCond .ne (15), 3, 865, 874, [], []) rfl rfl rfl ?_
    refine bB_eq0 (x := r3) q4 (fun c14 => ?_) (fun c14 => ?_)
    · refine bGo hA 54 1 (1507, .aload_n 3, 1, 866, 0, [3], []) rfl rfl rfl ?_
      refine bGo hA 54 2 (1508, .iconst (0), 1, 867, 0, [], [(0, 0)]) rfl rfl rfl ?_
      refine bEqI bl_0 ?_
      refine bGo hA 54 3 (1509, .laload, 1, 868, 0, [], []) rfl rfl rfl ?_
      refine ⟨rfl, (bIxP (x := 0) (n := 1) (by decide) (by decide)), ?_⟩
      refine bEqJ (x := 0) (by decide : bRg 0) ?_
      refine bGo hA 54 4 (1510, .iload 6, 2, 869, 0, [6], []) rfl rfl rfl ?_
      refine bGo hA 54 5 (1512, .i2l, 1, 870, 0, [], []) rfl rfl rfl ?_
      refine bGo hA 54 6 (1513, .lcmp, 1, 871, 0, [], []) rfl rfl rfl ?_
      refine bEqI (bn_cmp (bj s9 154 0) (bL r7)) ?_
      refine bGo hA 54 7 (1514, .ifCond .eq (5), 3, 872, 874, [], []) rfl rfl rfl ?_
      refine bB_eq0 (x := (bCmp (bj s9 154 0) (bL r7))) (bRgI _) (fun c15 => ?_) (fun c15 => ?_)
      · refine bGo hA 54 10 (1519, .goto (1895), 3, 875, 2097, [], []) rfl rfl rfl ?_
        refine bGo hA 131 1 (3414, .iinc 4 (6), 3, 2098, 0, [4], [(6, 0)]) rfl rfl rfl ?_
        refine bEqC (fun v => A (2098, [.ref 200, .ref 11, .ref 12, .ref 154, .int v, .int (bn r3), .int (bn r7), v7], [], s9)) ((congrArg (fun w => bn l4 + w) bl_6).trans (bn_add l4 6)) ?_
        refine bGo hA 131 2 (3417, .goto (-3394), 3, 2099, 13, [], []) rfl rfl rfl ?_
        exact (((k10.1 c13).1 c14).1 c15).2
      · refine bGo hA 54 8 (1517, .iconst (0), 1, 873, 0, [], [(0, 0)]) rfl rfl rfl ?_
        refine bEqI bl_0 ?_
        refine bGo hA 54 9 (1518, .ireturn, 1, 874, 0, [2], []) rfl rfl rfl ?_
        exact ⟨b01 (Or.inl rfl), (((k10.1 c13).1 c14).2 c15)⟩
    · refine bGo hA 54 10 (1519, .goto (1895), 3, 875, 2097, [], []) rfl rfl rfl ?_
      refine bGo hA 131 1 (3414, .iinc 4 (6), 3, 2098, 0, [4], [(6, 0)]) rfl rfl rfl ?_
      refine bEqC (fun v => A (2098, [.ref 200, .ref 11, .ref 12, .ref 154, .int v, .int (bn r3), .int (bn r7), v7], [], s9)) ((congrArg (fun w => bn l4 + w) bl_6).trans (bn_add l4 6)) ?_
      refine bGo hA 131 2 (3417, .goto (-3394), 3, 2099, 13, [], []) rfl rfl rfl ?_
      exact ((k10.1 c13).2 c14).2
  · refine bGo hA 53 13 (1500, .iconst (0), 1, 862, 0, [], [(0, 0)]) rfl rfl rfl ?_
    refine bEqI bl_0 ?_
    refine bGo hA 53 14 (1501, .ireturn, 1, 863, 0, [2], []) rfl rfl rfl ?_
    exact ⟨b01 (Or.inl rfl), (k10.2 c13)⟩

theorem sq357_875 {lvl : Nat} {C : bCall} {Q : bPost} {A : bPt → Prop} (hC : bMono C) (hA : bClosed lvl bm357 C Q A) {l4 : Int} {v5 : Value} {v6 : Value} {v7 : Value} {σ : bSt}  (h_l4 : bRg l4)
  (h : (bRg (l4 + 1) ∧ ((0 ≤ (l4 + 1) ∧ (l4 + 1) < (bLen σ 200 : Int)) ∧ (bRg (l4 + 2) ∧ ((0 ≤ (l4 + 2) ∧ (l4 + 2) < (bLen σ 200 : Int)) ∧ (bRg (l4 + 3) ∧ ((0 ≤ (l4 + 3) ∧ (l4 + 3) < (bLen σ 200 : Int)) ∧ (((bi σ 200 (l4 + 3)) = 0 → A (895, [.ref 200, .ref 11, .ref 12, .ref 154, .int (bn l4), v5, v6, v7], [.int (bn 0), .int (bn (bi σ 200 (l4 + 2))), .int (bn (bi σ 200 (l4 + 1))), .ref 11], σ)) ∧ (¬ (bi σ 200 (l4 + 3)) = 0 → A (895, [.ref 200, .ref 11, .ref 12, .ref 154, .int (bn l4), v5, v6, v7], [.int (bn 1), .int (bn (bi σ 200 (l4 + 2))), .int (bn (bi σ 200 (l4 + 1))), .ref 11], σ)))))))))) : A (875, [.ref 200, .ref 11, .ref 12, .ref 154, .int (bn l4), v5, v6, v7], [], σ) := by
  refine bGo hA 54 11 (1522, .aload_n 1, 1, 876, 0, [1], []) rfl rfl rfl ?_
  refine bGo hA 54 12 (1523, .aload_n 0, 1, 877, 0, [0], []) rfl rfl rfl ?_
  refine bGo hA 54 13 (1524, .iload 4, 2, 878, 0, [4], []) rfl rfl rfl ?_
  refine bGo hA 54 14 (1526, .iconst (1), 1, 879, 0, [], [(1, 0)]) rfl rfl rfl ?_
  refine bEqI bl_1 ?_
  refine bGo hA 54 15 (1527, .iadd, 1, 880, 0, [], []) rfl rfl rfl ?_
  refine bEqI (bn_add l4 1) ?_
  refine bGo hA 55 0 (1528, .iaload, 1, 881, 0, [], []) rfl rfl rfl ?_
  refine ⟨rfl, (bIxP (x := (l4 + 1)) (n := bLen σ 200) h.1 h.2.1), ?_⟩
  refine bEqL (x := (l4 + 1)) h.1 ?_
  refine bGo hA 55 1 (1529, .aload_n 0, 1, 882, 0, [0], []) rfl rfl rfl ?_
  refine bGo hA 55 2 (1530, .iload 4, 2, 883, 0, [4], []) rfl rfl rfl ?_
  refine bGo hA 55 3 (1532, .iconst (2), 1, 884, 0, [], [(2, 0)]) rfl rfl rfl ?_
  refine bEqI bl_2 ?_
  refine bGo hA 55 4 (1533, .iadd, 1, 885, 0, [], []) rfl rfl rfl ?_
  refine bEqI (bn_add l4 2) ?_
  refine bGo hA 55 5 (1534, .iaload, 1, 886, 0, [], []) rfl rfl rfl ?_
  refine ⟨rfl, (bIxP (x := (l4 + 2)) (n := bLen σ 200) h.2.2.1 h.2.2.2.1), ?_⟩
  refine bEqL (x := (l4 + 2)) h.2.2.1 ?_
  refine bGo hA 55 6 (1535, .aload_n 0, 1, 887, 0, [0], []) rfl rfl rfl ?_
  refine bGo hA 55 7 (1536, .iload 4, 2, 888, 0, [4], []) rfl rfl rfl ?_
  refine bGo hA 55 8 (1538, .iconst (3), 1, 889, 0, [], [(3, 0)]) rfl rfl rfl ?_
  refine bEqI bl_3 ?_
  refine bGo hA 55 9 (1539, .iadd, 1, 890, 0, [], []) rfl rfl rfl ?_
  refine bEqI (bn_add l4 3) ?_
  refine bGo hA 55 10 (1540, .iaload, 1, 891, 0, [], []) rfl rfl rfl ?_
  refine ⟨rfl, (bIxP (x := (l4 + 3)) (n := bLen σ 200) h.2.2.2.2.1 h.2.2.2.2.2.1), ?_⟩
  refine bEqL (x := (l4 + 3)) h.2.2.2.2.1 ?_
  refine bGo hA 55 11 (1541, .ifCond .eq (7), 3, 892, 894, [], []) rfl rfl rfl ?_
  refine bB_eq0 (x := (bi σ 200 (l4 + 3))) (bi_rg _ _ _) (fun c1 => ?_) (fun c1 => ?_)
  · refine bGo hA 55 14 (1548, .iconst (0), 1, 895, 0, [], [(0, 0)]) rfl rfl rfl ?_
    refine bEqI bl_0 ?_
    exact (h.2.2.2.2.2.2.1 c1)
  · refine bGo hA 55 12 (1544, .iconst (1), 1, 893, 0, [], [(1, 0)]) rfl rfl rfl ?_
    refine bEqI bl_1 ?_
    refine bGo hA 55 13 (1545, .goto (4), 3, 894, 895, [], []) rfl rfl rfl ?_
    exact (h.2.2.2.2.2.2.2 c1)

theorem sq357_938 {lvl : Nat} {C : bCall} {Q : bPost} {A : bPt → Prop} (hC : bMono C) (hA : bClosed lvl bm357 C Q A) {l4 : Int} {v5 : Value} {v6 : Value} {v7 : Value} {σ : bSt}  (h_l4 : bRg l4)
  (h : (bRg (l4 + 1) ∧ ((0 ≤ (l4 + 1) ∧ (l4 + 1) < (bLen σ 200 : Int)) ∧ (bRg (l4 + 2) ∧ ((0 ≤ (l4 + 2) ∧ (l4 + 2) < (bLen σ 200 : Int)) ∧ (C 332 [.ref 11, .int (bn (bi σ 200 (l4 + 1))), .int (bn (bi σ 200 (l4 + 2))), .ref 154] σ (bRn (fun r3 s1 => ((0 ≤ (l4 + 1) ∧ (l4 + 1) < (bLen s1 200 : Int)) ∧ ((0 ≤ (l4 + 2) ∧ (l4 + 2) < (bLen s1 200 : Int)) ∧ (C 232 [.ref 12, .int (bn (bi s1 200 (l4 + 1))), .int (bn (bi s1 200 (l4 + 2)))] s1 (bRn (fun r7 s5 => (C 196 [.ref 12] s5 (bRn (fun r11 s9 => ((r11 = r3 → ((r3 = 0 → (((bCmp (bj s9 154 0) (bL r7)) = 0 → (bRg (l4 + 6) ∧ A (13, [.ref 200, .ref 11, .ref 12, .ref 154, .int (bn (l4 + 6)), .int (bn r3), .int (bn r7), v7], [], s9))) ∧ (¬ (bCmp (bj s9 154 0) (bL r7)) = 0 → Q (.inl (some (.int (bn 0)))) s9))) ∧ (¬ r3 = 0 → (bRg (l4 + 6) ∧ A (13, [.ref 200, .ref 11, .ref 12, .ref 154, .int (bn (l4 + 6)), .int (bn r3), .int (bn r7), v7], [], s9))))) ∧ (¬ r11 = r3 → Q (.inl (some (.int (bn 0)))) s9)))))))))))))))))) : A (938, [.ref 200, .ref 11, .ref 12, .ref 154, .int (bn l4), v5, v6, v7], [], σ) := by
  refine bGo hA 58 10 (1618, .aload_n 1, 1, 939, 0, [1], []) rfl rfl rfl ?_
  refine bGo hA 58 11 (1619, .aload_n 0, 1, 940, 0, [0], []) rfl rfl rfl ?_
  refine bGo hA 58 12 (1620, .iload 4, 2, 941, 0, [4], []) rfl rfl rfl ?_
  refine bGo hA 58 13 (1622, .iconst (1), 1, 942, 0, [], [(1, 0)]) rfl rfl rfl ?_
  refine bEqI bl_1 ?_
  refine bGo hA 58 14 (1623, .iadd, 1, 943, 0, [], []) rfl rfl rfl ?_
  refine bEqI (bn_add l4 1) ?_
  refine bGo hA 58 15 (1624, .iaload, 1, 944, 0, [], []) rfl rfl rfl ?_
  refine ⟨rfl, (bIxP (x := (l4 + 1)) (n := bLen σ 200) h.1 h.2.1), ?_⟩
  refine bEqL (x := (l4 + 1)) h.1 ?_
  refine bGo hA 59 0 (1625, .aload_n 0, 1, 945, 0, [0], []) rfl rfl rfl ?_
  refine bGo hA 59 1 (1626, .iload 4, 2, 946, 0, [4], []) rfl rfl rfl ?_
  refine bGo hA 59 2 (1628, .iconst (2), 1, 947, 0, [], [(2, 0)]) rfl rfl rfl ?_
  refine bEqI bl_2 ?_
  refine bGo hA 59 3 (1629, .iadd, 1, 948, 0, [], []) rfl rfl rfl ?_
  refine bEqI (bn_add l4 2) ?_
  refine bGo hA 59 4 (1630, .iaload, 1, 949, 0, [], []) rfl rfl rfl ?_
  refine ⟨rfl, (bIxP (x := (l4 + 2)) (n := bLen σ 200) h.2.2.1 h.2.2.2.1), ?_⟩
  refine bEqL (x := (l4 + 2)) h.2.2.1 ?_
  refine bGo hA 59 5 (1631, .aload_n 3, 1, 950, 0, [3], []) rfl rfl rfl ?_
  refine bGo hA 59 6 (1632, .invokestatic 230, 3, 951, 0, [2, 332, 4], []) rfl rfl rfl ?_
  refine hC _ _ _ _ _ (bRn_e (fun r3 s1 q4 k2 => ?_)) h.2.2.2.2
  show A (951, [.ref 200, .ref 11, .ref 12, .ref 154, .int (bn l4), v5, v6, v7], [.int (bn r3)], s1)
  refine bGo hA 59 7 (1635, .istore 5, 2, 952, 0, [5], []) rfl rfl rfl ?_
  refine bGo hA 59 8 (1637, .aload_n 2, 1, 953, 0, [2], []) rfl rfl rfl ?_
  refine bGo hA 59 9 (1638, .aload_n 0, 1, 954, 0, [0], []) rfl rfl rfl ?_
  refine bGo hA 59 10 (1639, .iload 4, 2, 955, 0, [4], []) rfl rfl rfl ?_
  refine bGo hA 59 11 (1641, .iconst (1), 1, 956, 0, [], [(1, 0)]) rfl rfl rfl ?_
  refine bEqI bl_1 ?_
  refine bGo hA 59 12 (1642, .iadd, 1, 957, 0, [], []) rfl rfl rfl ?_
  refine bEqI (bn_add l4 1) ?_
  refine bGo hA 59 13 (1643, .iaload, 1, 958, 0, [], []) rfl rfl rfl ?_
  refine ⟨rfl, (bIxP (x := (l4 + 1)) (n := bLen s1 200) h.1 k2.1), ?_⟩
  refine bEqL (x := (l4 + 1)) h.1 ?_
  refine bGo hA 59 14 (1644, .aload_n 0, 1, 959, 0, [0], []) rfl rfl rfl ?_
  refine bGo hA 59 15 (1645, .iload 4, 2, 960, 0, [4], []) rfl rfl rfl ?_
  refine bGo hA 60 0 (1647, .iconst (2), 1, 961, 0, [], [(2, 0)]) rfl rfl rfl ?_
  refine bEqI bl_2 ?_
  refine bGo hA 60 1 (1648, .iadd, 1, 962, 0, [], []) rfl rfl rfl ?_
  refine bEqI (bn_add l4 2) ?_
  refine bGo hA 60 2 (1649, .iaload, 1, 963, 0, [], []) rfl rfl rfl ?_
  refine ⟨rfl, (bIxP (x := (l4 + 2)) (n := bLen s1 200) h.2.2.1 k2.2.1), ?_⟩
  refine bEqL (x := (l4 + 2)) h.2.2.1 ?_
  refine bGo hA 60 3 (1650, .invokevirtual 232, 3, 964, 0, [0, 12, 232, 2], []) rfl rfl rfl ?_
  refine ⟨rfl, ?_⟩
  refine hC _ _ _ _ _ (bRn_e (fun r7 s5 q8 k6 => ?_)) k2.2.2
  show A (964, [.ref 200, .ref 11, .ref 12, .ref 154, .int (bn l4), .int (bn r3), v6, v7], [.int (bn r7)], s5)
  refine bGo hA 60 4 (1653, .istore 6, 2, 965, 0, [6], []) rfl rfl rfl ?_
  refine bGo hA 60 5 (1655, .aload_n 2, 1, 966, 0, [2], []) rfl rfl rfl ?_
  refine bGo hA 60 6 (1656, .invokevirtual 168, 3, 967, 0, [0, 12, 196, 0], []) rfl rfl rfl ?_
  refine ⟨rfl, ?_⟩
  refine hC _ _ _ _ _ (bRn_e (fun r11 s9 q12 k10 => ?_)) k6
  show A (967, [.ref 200, .ref 11, .ref 12, .ref 154, .int (bn l4), .int (bn r3), .int (bn r7), v7], [.int (bn r11)], s9)
  refine bGo hA 60 7 (1659, .iload 5, 2, 968, 0, [5], []) rfl rfl rfl ?_
  refine bGo hA 60 8 (1661, .if_icmp .eq (5), 3, 969, 971, [], []) rfl rfl rfl ?_
  refine bB_eq (x := r11) (y := r3) q12 q4 (fun c13 => ?_) (fun c13 => ?_)
  · refine bGo hA 60 11 (1666, .iload 5, 2, 972, 0, [5], []) rfl rfl rfl ?_
    refine bGo hA 60 12 (1668, .ifCond .ne (15), 3, 973, 982, [], []) rfl rfl rfl ?_
    refine bB_eq0 (x := r3) q4 (fun c14 => ?_) (fun c14 => ?_)
    · refine bGo hA 60 13 (1671, .aload_n 3, 1, 974, 0, [3], []) rfl rfl rfl ?_
      refine bGo hA 60 14 (1672, .iconst (0), 1, 975, 0, [], [(0, 0)]) rfl rfl rfl ?_
      refine bEqI bl_0 ?_
      refine bGo hA 60 15 (1673, .laload, 1, 976, 0, [], []) rfl rfl rfl ?_
      refine ⟨rfl, (bIxP (x := 0) (n := 1) (by decide) (by decide)), ?_⟩
      refine bEqJ (x := 0) (by decide : bRg 0) ?_
      refine bGo hA 61 0 (1674, .iload 6, 2, 977, 0, [6], []) rfl rfl rfl ?_
      refine bGo hA 61 1 (1676, .i2l, 1, 978, 0, [], []) rfl rfl rfl ?_
      refine bGo hA 61 2 (1677, .lcmp, 1, 979, 0, [], []) rfl rfl rfl ?_
      refine bEqI (bn_cmp (bj s9 154 0) (bL r7)) ?_
      refine bGo hA 61 3 (1678, .ifCond .eq (5), 3, 980, 982, [], []) rfl rfl rfl ?_
      refine bB_eq0 (x := (bCmp (bj s9 154 0) (bL r7))) (bRgI _) (fun c15 => ?_) (fun c15 => ?_)
      · refine bGo hA 61 6 (1683, .goto (1731), 3, 983, 2097, [], []) rfl rfl rfl ?_
        refine bGo hA 131 1 (3414, .iinc 4 (6), 3, 2098, 0, [4], [(6, 0)]) rfl rfl rfl ?_
        refine bEqC (fun v => A (2098, [.ref 200, .ref 11, .ref 12, .ref 154, .int v, .int (bn r3), .int (bn r7), v7], [], s9)) ((congrArg (fun w => bn l4 + w) bl_6).trans (bn_add l4 6)) ?_
        refine bGo hA 131 2 (3417, .goto (-3394), 3, 2099, 13, [], []) rfl rfl rfl ?_
        exact (((k10.1 c13).1 c14).1 c15).2
      · refine bGo hA 61 4 (1681, .iconst (0), 1, 981, 0, [], [(0, 0)]) rfl rfl rfl ?_
        refine bEqI bl_0 ?_
        refine bGo hA 61 5 (1682, .ireturn, 1, 982, 0, [2], []) rfl rfl rfl ?_
        exact ⟨b01 (Or.inl rfl), (((k10.1 c13).1 c14).2 c15)⟩
    · refine bGo hA 61 6 (1683, .goto (1731), 3, 983, 2097, [], []) rfl rfl rfl ?_
      refine bGo hA 131 1 (3414, .iinc 4 (6), 3, 2098, 0, [4], [(6, 0)]) rfl rfl rfl ?_
      refine bEqC (fun v => A (2098, [.ref 200, .ref 11, .ref 12, .ref 154, .int v, .int (bn r3), .int (bn r7), v7], [], s9)) ((congrArg (fun w => bn l4 + w) bl_6).trans (bn_add l4 6)) ?_
      refine bGo hA 131 2 (3417, .goto (-3394), 3, 2099, 13, [], []) rfl rfl rfl ?_
      exact ((k10.1 c13).2 c14).2
  · refine bGo hA 60 9 (1664, .iconst (0), 1, 970, 0, [], [(0, 0)]) rfl rfl rfl ?_
    refine bEqI bl_0 ?_
    refine bGo hA 60 10 (1665, .ireturn, 1, 971, 0, [2], []) rfl rfl rfl ?_
    exact ⟨b01 (Or.inl rfl), (k10.2 c13)⟩

theorem sq357_983 {lvl : Nat} {C : bCall} {Q : bPost} {A : bPt → Prop} (hC : bMono C) (hA : bClosed lvl bm357 C Q A) {l4 : Int} {v5 : Value} {v6 : Value} {v7 : Value} {σ : bSt}  (h_l4 : bRg l4)
  (h : (bRg (l4 + 1) ∧ ((0 ≤ (l4 + 1) ∧ (l4 + 1) < (bLen σ 200 : Int)) ∧ (C 333 [.ref 11, .int (bn (bi σ 200 (l4 + 1))), .ref 154] σ (bRn (fun r3 s1 => ((0 ≤ (l4 + 1) ∧ (l4 + 1) < (bLen s1 200 : Int)) ∧ (C 233 [.ref 12, .int (bn (bi s1 200 (l4 + 1)))] s1 (bRn (fun r7 s5 => (C 196 [.ref 12] s5 (bRn (fun r11 s9 => ((r11 = r3 → ((r3 = 0 → (((bCmp (bj s9 154 0) (bL r7)) = 0 → (bRg (l4 + 6) ∧ A (13, [.ref 200, .ref 11, .ref 12, .ref 154, .int (bn (l4 + 6)), .int (bn r3), .int (bn r7), v7], [], s9))) ∧ (¬ (bCmp (bj s9 154 0) (bL r7)) = 0 → Q (.inl (some (.int (bn 0)))) s9))) ∧ (¬ r3 = 0 → (bRg (l4 + 6) ∧ A (13, [.ref 200, .ref 11, .ref 12, .ref 154, .int (bn (l4 + 6)), .int (bn r3), .int (bn r7), v7], [], s9))))) ∧ (¬ r11 = r3 → Q (.inl (some (.int (bn 0)))) s9))))))))))))))) : A (983, [.ref 200, .ref 11, .ref 12, .ref 154, .int (bn l4), v5, v6, v7], [], σ) := by
  refine bGo hA 61 7 (1686, .aload_n 1, 1, 984, 0, [1], []) rfl rfl rfl ?_
  refine bGo hA 61 8 (1687, .aload_n 0, 1, 985, 0, [0], []) rfl rfl rfl ?_
  refine bGo hA 61 9 (1688, .iload 4, 2, 986, 0, [4], []) rfl rfl rfl ?_
  refine bGo hA 61 10 (1690, .iconst (1), 1, 987, 0, [], [(1, 0)]) rfl rfl rfl ?_
  refine bEqI bl_1 ?_
  refine bGo hA 61 11 (1691, .iadd, 1, 988, 0, [], []) rfl rfl rfl ?_
  refine bEqI (bn_add l4 1) ?_
  refine bGo hA 61 12 (1692, .iaload, 1, 989, 0, [], []) rfl rfl rfl ?_
  refine ⟨rfl, (bIxP (x := (l4 + 1)) (n := bLen σ 200) h.1 h.2.1), ?_⟩
  refine bEqL (x := (l4 + 1)) h.1 ?_
  refine bGo hA 61 13 (1693, .aload_n 3, 1, 990, 0, [3], []) rfl rfl rfl ?_
  refine bGo hA 61 14 (1694, .invokestatic 233, 3, 991, 0, [2, 333, 3], []) rfl rfl rfl ?_
  refine hC _ _ _ _ _ (bRn_e (fun r3 s1 q4 k2 => ?_)) h.2.2
  show A (991, [.ref 200, .ref 11, .ref 12, .ref 154, .int (bn l4), v5, v6, v7], [.int (bn r3)], s1)
  refine bGo hA 61 15 (1697, .istore 5, 2, 992, 0, [5], []) rfl rfl rfl ?_
  refine bGo hA 62 0 (1699, .aload_n 2, 1, 993, 0, [2], []) rfl rfl rfl ?_
  refine bGo hA 62 1 (1700, .aload_n 0, 1, 994, 0, [0], []) rfl rfl rfl ?_
  refine bGo hA 62 2 (1701, .iload 4, 2, 995, 0, [4], []) rfl rfl rfl ?_
  refine bGo hA 62 3 (1703, .iconst (1), 1, 996, 0, [], [(1, 0)]) rfl rfl rfl ?_
  refine bEqI bl_1 ?_
  refine bGo hA 62 4 (1704, .iadd, 1, 997, 0, [], []) rfl rfl rfl ?_
  refine bEqI (bn_add l4 1) ?_
  refine bGo hA 62 5 (1705, .iaload, 1, 998, 0, [], []) rfl rfl rfl ?_
  refine ⟨rfl, (bIxP (x := (l4 + 1)) (n := bLen s1 200) h.1 k2.1), ?_⟩
  refine bEqL (x := (l4 + 1)) h.1 ?_
  refine bGo hA 62 6 (1706, .invokevirtual 235, 3, 999, 0, [0, 12, 233, 1], []) rfl rfl rfl ?_
  refine ⟨rfl, ?_⟩
  refine hC _ _ _ _ _ (bRn_e (fun r7 s5 q8 k6 => ?_)) k2.2
  show A (999, [.ref 200, .ref 11, .ref 12, .ref 154, .int (bn l4), .int (bn r3), v6, v7], [.int (bn r7)], s5)
  refine bGo hA 62 7 (1709, .istore 6, 2, 1000, 0, [6], []) rfl rfl rfl ?_
  refine bGo hA 62 8 (1711, .aload_n 2, 1, 1001, 0, [2], []) rfl rfl rfl ?_
  refine bGo hA 62 9 (1712, .invokevirtual 168, 3, 1002, 0, [0, 12, 196, 0], []) rfl rfl rfl ?_
  refine ⟨rfl, ?_⟩
  refine hC _ _ _ _ _ (bRn_e (fun r11 s9 q12 k10 => ?_)) k6
  show A (1002, [.ref 200, .ref 11, .ref 12, .ref 154, .int (bn l4), .int (bn r3), .int (bn r7), v7], [.int (bn r11)], s9)
  refine bGo hA 62 10 (1715, .iload 5, 2, 1003, 0, [5], []) rfl rfl rfl ?_
  refine bGo hA 62 11 (1717, .if_icmp .eq (5), 3, 1004, 1006, [], []) rfl rfl rfl ?_
  refine bB_eq (x := r11) (y := r3) q12 q4 (fun c13 => ?_) (fun c13 => ?_)
  · refine bGo hA 62 14 (1722, .iload 5, 2, 1007, 0, [5], []) rfl rfl rfl ?_
    refine bGo hA 62 15 (1724, .ifCond .ne (15), 3, 1008, 1017, [], []) rfl rfl rfl ?_
    refine bB_eq0 (x := r3) q4 (fun c14 => ?_) (fun c14 => ?_)
    · refine bGo hA 63 0 (1727, .aload_n 3, 1, 1009, 0, [3], []) rfl rfl rfl ?_
      refine bGo hA 63 1 (1728, .iconst (0), 1, 1010, 0, [], [(0, 0)]) rfl rfl rfl ?_
      refine bEqI bl_0 ?_
      refine bGo hA 63 2 (1729, .laload, 1, 1011, 0, [], []) rfl rfl rfl ?_
      refine ⟨rfl, (bIxP (x := 0) (n := 1) (by decide) (by decide)), ?_⟩
      refine bEqJ (x := 0) (by decide : bRg 0) ?_
      refine bGo hA 63 3 (1730, .iload 6, 2, 1012, 0, [6], []) rfl rfl rfl ?_
      refine bGo hA 63 4 (1732, .i2l, 1, 1013, 0, [], []) rfl rfl rfl ?_
      refine bGo hA 63 5 (1733, .lcmp, 1, 1014, 0, [], []) rfl rfl rfl ?_
      refine bEqI (bn_cmp (bj s9 154 0) (bL r7)) ?_
      refine bGo hA 63 6 (1734, .ifCond .eq (5), 3, 1015, 1017, [], []) rfl rfl rfl ?_
      refine bB_eq0 (x := (bCmp (bj s9 154 0) (bL r7))) (bRgI _) (fun c15 => ?_) (fun c15 => ?_)
      · refine bGo hA 63 9 (1739, .goto (1675), 3, 1018, 2097, [], []) rfl rfl rfl ?_
        refine bGo hA 131 1 (3414, .iinc 4 (6), 3, 2098, 0, [4], [(6, 0)]) rfl rfl rfl ?_
        refine bEqC (fun v => A (2098, [.ref 200, .ref 11, .ref 12, .ref 154, .int v, .int (bn r3), .int (bn r7), v7], [], s9)) ((congrArg (fun w => bn l4 + w) bl_6).trans (bn_add l4 6)) ?_
        refine bGo hA 131 2 (3417, .goto (-3394), 3, 2099, 13, [], []) rfl rfl rfl ?_
        exact (((k10.1 c13).1 c14).1 c15).2
      · refine bGo hA 63 7 (1737, .iconst (0), 1, 1016, 0, [], [(0, 0)]) rfl rfl rfl ?_
        refine bEqI bl_0 ?_
        refine bGo hA 63 8 (1738, .ireturn, 1, 1017, 0, [2], []) rfl rfl rfl ?_
        exact ⟨b01 (Or.inl rfl), (((k10.1 c13).1 c14).2 c15)⟩
    · refine bGo hA 63 9 (1739, .goto (1675), 3, 1018, 2097, [], []) rfl rfl rfl ?_
      refine bGo hA 131 1 (3414, .iinc 4 (6), 3, 2098, 0, [4], [(6, 0)]) rfl rfl rfl ?_
      refine bEqC (fun v => A (2098, [.ref 200, .ref 11, .ref 12, .ref 154, .int v, .int (bn r3), .int (bn r7), v7], [], s9)) ((congrArg (fun w => bn l4 + w) bl_6).trans (bn_add l4 6)) ?_
      refine bGo hA 131 2 (3417, .goto (-3394), 3, 2099, 13, [], []) rfl rfl rfl ?_
      exact ((k10.1 c13).2 c14).2
  · refine bGo hA 62 12 (1720, .iconst (0), 1, 1005, 0, [], [(0, 0)]) rfl rfl rfl ?_
    refine bEqI bl_0 ?_
    refine bGo hA 62 13 (1721, .ireturn, 1, 1006, 0, [2], []) rfl rfl rfl ?_
    exact ⟨b01 (Or.inl rfl), (k10.2 c13)⟩

theorem sq357_1018 {lvl : Nat} {C : bCall} {Q : bPost} {A : bPt → Prop} (hC : bMono C) (hA : bClosed lvl bm357 C Q A) {l4 : Int} {v5 : Value} {v6 : Value} {v7 : Value} {σ : bSt}  (h_l4 : bRg l4)
  (h : (bRg (l4 + 1) ∧ ((0 ≤ (l4 + 1) ∧ (l4 + 1) < (bLen σ 200 : Int)) ∧ (bRg (l4 + 2) ∧ ((0 ≤ (l4 + 2) ∧ (l4 + 2) < (bLen σ 200 : Int)) ∧ (C 334 [.ref 11, .int (bn (bi σ 200 (l4 + 1))), .int (bn (bi σ 200 (l4 + 2))), .ref 154] σ (bRn (fun r3 s1 => ((0 ≤ (l4 + 1) ∧ (l4 + 1) < (bLen s1 200 : Int)) ∧ ((0 ≤ (l4 + 2) ∧ (l4 + 2) < (bLen s1 200 : Int)) ∧ (C 234 [.ref 12, .int (bn (bi s1 200 (l4 + 1))), .int (bn (bi s1 200 (l4 + 2)))] s1 (bRn (fun r7 s5 => (C 196 [.ref 12] s5 (bRn (fun r11 s9 => ((r11 = r3 → ((r3 = 0 → (((bCmp (bj s9 154 0) (bL r7)) = 0 → (bRg (l4 + 6) ∧ A (13, [.ref 200, .ref 11, .ref 12, .ref 154, .int (bn (l4 + 6)), .int (bn r3), .int (bn r7), v7], [], s9))) ∧ (¬ (bCmp (bj s9 154 0) (bL r7)) = 0 → Q (.inl (some (.int (bn 0)))) s9))) ∧ (¬ r3 = 0 → (bRg (l4 + 6) ∧ A (13, [.ref 200, .ref 11, .ref 12, .ref 154, .int (bn (l4 + 6)), .int (bn r3), .int (bn r7), v7], [], s9))))) ∧ (¬ r11 = r3 → Q (.inl (some (.int (bn 0)))) s9)))))))))))))))))) : A (1018, [.ref 200, .ref 11, .ref 12, .ref 154, .int (bn l4), v5, v6, v7], [], σ) := by
  refine bGo hA 63 10 (1742, .aload_n 1, 1, 1019, 0, [1], []) rfl rfl rfl ?_
  refine bGo hA 63 11 (1743, .aload_n 0, 1, 1020, 0, [0], []) rfl rfl rfl ?_
  refine bGo hA 63 12 (1744, .iload 4, 2, 1021, 0, [4], []) rfl rfl rfl ?_
  refine bGo hA 63 13 (1746, .iconst (1), 1, 1022, 0, [], [(1, 0)]) rfl rfl rfl ?_
  refine bEqI bl_1 ?_
  refine bGo hA 63 14 (1747, .iadd, 1, 1023, 0, [], []) rfl rfl rfl ?_
  refine bEqI (bn_add l4 1) ?_
  refine bGo hA 63 15 (1748, .iaload, 1, 1024, 0, [], []) rfl rfl rfl ?_
  refine ⟨rfl, (bIxP (x := (l4 + 1)) (n := bLen σ 200) h.1 h.2.1), ?_⟩
  refine bEqL (x := (l4 + 1)) h.1 ?_
  refine bGo hA 64 0 (1749, .aload_n 0, 1, 1025, 0, [0], []) rfl rfl rfl ?_
  refine bGo hA 64 1 (1750, .iload 4, 2, 1026, 0, [4], []) rfl rfl rfl ?_
  refine bGo hA 64 2 (1752, .iconst (2), 1, 1027, 0, [], [(2, 0)]) rfl rfl rfl ?_
  refine bEqI bl_2 ?_
  refine bGo hA 64 3 (1753, .iadd, 1, 1028, 0, [], []) rfl rfl rfl ?_
  refine bEqI (bn_add l4 2) ?_
  refine bGo hA 64 4 (1754, .iaload, 1, 1029, 0, [], []) rfl rfl rfl ?_
  refine ⟨rfl, (bIxP (x := (l4 + 2)) (n := bLen σ 200) h.2.2.1 h.2.2.2.1), ?_⟩
  refine bEqL (x := (l4 + 2)) h.2.2.1 ?_
  refine bGo hA 64 5 (1755, .aload_n 3, 1, 1030, 0, [3], []) rfl rfl rfl ?_
  refine bGo hA 64 6 (1756, .invokestatic 236, 3, 1031, 0, [2, 334, 4], []) rfl rfl rfl ?_
  refine hC _ _ _ _ _ (bRn_e (fun r3 s1 q4 k2 => ?_)) h.2.2.2.2
  show A (1031, [.ref 200, .ref 11, .ref 12, .ref 154, .int (bn l4), v5, v6, v7], [.int (bn r3)], s1)
  refine bGo hA 64 7 (1759, .istore 5, 2, 1032, 0, [5], []) rfl rfl rfl ?_
  refine bGo hA 64 8 (1761, .aload_n 2, 1, 1033, 0, [2], []) rfl rfl rfl ?_
  refine bGo hA 64 9 (1762, .aload_n 0, 1, 1034, 0, [0], []) rfl rfl rfl ?_
  refine bGo hA 64 10 (1763, .iload 4, 2, 1035, 0, [4], []) rfl rfl rfl ?_
  refine bGo hA 64 11 (1765, .iconst (1), 1, 1036, 0, [], [(1, 0)]) rfl rfl rfl ?_
  refine bEqI bl_1 ?_
  refine bGo hA 64 12 (1766, .iadd, 1, 1037, 0, [], []) rfl rfl rfl ?_
  refine bEqI (bn_add l4 1) ?_
  refine bGo hA 64 13 (1767, .iaload, 1, 1038, 0, [], []) rfl rfl rfl ?_
  refine ⟨rfl, (bIxP (x := (l4 + 1)) (n := bLen s1 200) h.1 k2.1), ?_⟩
  refine bEqL (x := (l4 + 1)) h.1 ?_
  refine bGo hA 64 14 (1768, .aload_n 0, 1, 1039, 0, [0], []) rfl rfl rfl ?_
  refine bGo hA 64 15 (1769, .iload 4, 2, 1040, 0, [4], []) rfl rfl rfl ?_
  refine bGo hA 65 0 (1771, .iconst (2), 1, 1041, 0, [], [(2, 0)]) rfl rfl rfl ?_
  refine bEqI bl_2 ?_
  refine bGo hA 65 1 (1772, .iadd, 1, 1042, 0, [], []) rfl rfl rfl ?_
  refine bEqI (bn_add l4 2) ?_
  refine bGo hA 65 2 (1773, .iaload, 1, 1043, 0, [], []) rfl rfl rfl ?_
  refine ⟨rfl, (bIxP (x := (l4 + 2)) (n := bLen s1 200) h.2.2.1 k2.2.1), ?_⟩
  refine bEqL (x := (l4 + 2)) h.2.2.1 ?_
  refine bGo hA 65 3 (1774, .invokevirtual 238, 3, 1044, 0, [0, 12, 234, 2], []) rfl rfl rfl ?_
  refine ⟨rfl, ?_⟩
  refine hC _ _ _ _ _ (bRn_e (fun r7 s5 q8 k6 => ?_)) k2.2.2
  show A (1044, [.ref 200, .ref 11, .ref 12, .ref 154, .int (bn l4), .int (bn r3), v6, v7], [.int (bn r7)], s5)
  refine bGo hA 65 4 (1777, .istore 6, 2, 1045, 0, [6], []) rfl rfl rfl ?_
  refine bGo hA 65 5 (1779, .aload_n 2, 1, 1046, 0, [2], []) rfl rfl rfl ?_
  refine bGo hA 65 6 (1780, .invokevirtual 168, 3, 1047, 0, [0, 12, 196, 0], []) rfl rfl rfl ?_
  refine ⟨rfl, ?_⟩
  refine hC _ _ _ _ _ (bRn_e (fun r11 s9 q12 k10 => ?_)) k6
  show A (1047, [.ref 200, .ref 11, .ref 12, .ref 154, .int (bn l4), .int (bn r3), .int (bn r7), v7], [.int (bn r11)], s9)
  refine bGo hA 65 7 (1783, .iload 5, 2, 1048, 0, [5], []) rfl rfl rfl ?_
  refine bGo hA 65 8 (1785, .if_icmp .eq (5), 3, 1049, 1051, [], []) rfl rfl rfl ?_
  refine bB_eq (x := r11) (y := r3) q12 q4 (fun c13 => ?_) (fun c13 => ?_)
  · refine bGo hA 65 11 (1790, .iload 5, 2, 1052, 0, [5], []) rfl rfl rfl ?_
    refine bGo hA 65 12 (1792, .ifCond .ne (15), 3, 1053, 1062, [], []) rfl rfl rfl ?_
    refine bB_eq0 (x := r3) q4 (fun c14 => ?_) (fun c14 => ?_)
    · refine bGo hA 65 13 (1795, .aload_n 3, 1, 1054, 0, [3], []) rfl rfl rfl ?_
      refine bGo hA 65 14 (1796, .iconst (0), 1, 1055, 0, [], [(0, 0)]) rfl rfl rfl ?_
      refine bEqI bl_0 ?_
      refine bGo hA 65 15 (1797, .laload, 1, 1056, 0, [], []) rfl rfl rfl ?_
      refine ⟨rfl, (bIxP (x := 0) (n := 1) (by decide) (by decide)), ?_⟩
      refine bEqJ (x := 0) (by decide : bRg 0) ?_
      refine bGo hA 66 0 (1798, .iload 6, 2, 1057, 0, [6], []) rfl rfl rfl ?_
      refine bGo hA 66 1 (1800, .i2l, 1, 1058, 0, [], []) rfl rfl rfl ?_
      refine bGo hA 66 2 (1801, .lcmp, 1, 1059, 0, [], []) rfl rfl rfl ?_
      refine bEqI (bn_cmp (bj s9 154 0) (bL r7)) ?_
      refine bGo hA 66 3 (1802, .ifCond .eq (5), 3, 1060, 1062, [], []) rfl rfl rfl ?_
      refine bB_eq0 (x := (bCmp (bj s9 154 0) (bL r7))) (bRgI _) (fun c15 => ?_) (fun c15 => ?_)
      · refine bGo hA 66 6 (1807, .goto (1607), 3, 1063, 2097, [], []) rfl rfl rfl ?_
        refine bGo hA 131 1 (3414, .iinc 4 (6), 3, 2098, 0, [4], [(6, 0)]) rfl rfl rfl ?_
        refine bEqC (fun v => A (2098, [.ref 200, .ref 11, .ref 12, .ref 154, .int v, .int (bn r3), .int (bn r7), v7], [], s9)) ((congrArg (fun w => bn l4 + w) bl_6).trans (bn_add l4 6)) ?_
        refine bGo hA 131 2 (3417, .goto (-3394), 3, 2099, 13, [], []) rfl rfl rfl ?_
        exact (((k10.1 c13).1 c14).1 c15).2
      · refine bGo hA 66 4 (1805, .iconst (0), 1, 1061, 0, [], [(0, 0)]) rfl rfl rfl ?_
        refine bEqI bl_0 ?_
        refine bGo hA 66 5 (1806, .ireturn, 1, 1062, 0, [2], []) rfl rfl rfl ?_
        exact ⟨b01 (Or.inl rfl), (((k10.1 c13).1 c14).2 c15)⟩
    · refine bGo hA 66 6 (1807, .goto (1607), 3, 1063, 2097, [], []) rfl rfl rfl ?_
      refine bGo hA 131 1 (3414, .iinc 4 (6), 3, 2098, 0, [4], [(6, 0)]) rfl rfl rfl ?_
      refine bEqC (fun v => A (2098, [.ref 200, .ref 11, .ref 12, .ref 154, .int v, .int (bn r3), .int (bn r7), v7], [], s9)) ((congrArg (fun w => bn l4 + w) bl_6).trans (bn_add l4 6)) ?_
      refine bGo hA 131 2 (3417, .goto (-3394), 3, 2099, 13, [], []) rfl rfl rfl ?_
      exact ((k10.1 c13).2 c14).2
  · refine bGo hA 65 9 (1788, .iconst (0), 1, 1050, 0, [], [(0, 0)]) rfl rfl rfl ?_
    refine bEqI bl_0 ?_
    refine bGo hA 65 10 (1789, .ireturn, 1, 1051, 0, [2], []) rfl rfl rfl ?_
    exact ⟨b01 (Or.inl rfl), (k10.2 c13)⟩

theorem sq357_1063 {lvl : Nat} {C : bCall} {Q : bPost} {A : bPt → Prop} (hC : bMono C) (hA : bClosed lvl bm357 C Q A) {l4 : Int} {v5 : Value} {v6 : Value} {v7 : Value} {σ : bSt}  (h_l4 : bRg l4)
  (h : (bRg (l4 + 1) ∧ ((0 ≤ (l4 + 1) ∧ (l4 + 1) < (bLen σ 200 : Int)) ∧ (bRg (l4 + 2) ∧ ((0 ≤ (l4 + 2) ∧ (l4 + 2) < (bLen σ 200 : Int)) ∧ (bRg (l4 + 3) ∧ ((0 ≤ (l4 + 3) ∧ (l4 + 3) < (bLen σ 200 : Int)) ∧ (C 335 [.ref 11, .int (bn (bi σ 200 (l4 + 1))), .int (bn (bi σ 200 (l4 + 2))), .int (bn (bi σ 200 (l4 + 3)))] σ (bRn (fun r3 s1 => ((0 ≤ (l4 + 1) ∧ (l4 + 1) < (bLen s1 200 : Int)) ∧ ((0 ≤ (l4 + 2) ∧ (l4 + 2) < (bLen s1 200 : Int)) ∧ ((0 ≤ (l4 + 3) ∧ (l4 + 3) < (bLen s1 200 : Int)) ∧ (C 235 [.ref 12, .int (bn (bi s1 200 (l4 + 1))), .int (bn (bi s1 200 (l4 + 2))), .int (bn (bi s1 200 (l4 + 3)))] s1 (bRv (fun s5 => (C 196 [.ref 12] s5 (bRn (fun r9 s7 => ((r9 = r3 → (bRg (l4 + 6) ∧ A (13, [.ref 200, .ref 11, .ref 12, .ref 154, .int (bn (l4 + 6)), .int (bn r3), v6, v7], [], s7))) ∧ (¬ r9 = r3 → Q (.inl (some (.int (bn 0)))) s7))))))))))))))))))))) : A (1063, [.ref 200, .ref 11, .ref 12, .ref 154, .int (bn l4), v5, v6, v7], [], σ) := by
  refine bGo hA 66 7 (1810, .aload_n 1, 1, 1064, 0, [1], []) rfl rfl rfl ?_
  refine bGo hA 66 8 (1811, .aload_n 0, 1, 1065, 0, [0], []) rfl rfl rfl ?_
  refine bGo hA 66 9 (1812, .iload 4, 2, 1066, 0, [4], []) rfl rfl rfl ?_
  refine bGo hA 66 10 (1814, .iconst (1), 1, 1067, 0, [], [(1, 0)]) rfl rfl rfl ?_
  refine bEqI bl_1 ?_
  refine bGo hA 66 11 (1815, .iadd, 1, 1068, 0, [], []) rfl rfl rfl ?_
  refine bEqI (bn_add l4 1) ?_
  refine bGo hA 66 12 (1816, .iaload, 1, 1069, 0, [], []) rfl rfl rfl ?_
  refine ⟨rfl, (bIxP (x := (l4 + 1)) (n := bLen σ 200) h.1 h.2.1), ?_⟩
  refine bEqL (x := (l4 + 1)) h.1 ?_
  refine bGo hA 66 13 (1817, .aload_n 0, 1, 1070, 0, [0], []) rfl rfl rfl ?_
  refine bGo hA 66 14 (1818, .iload 4, 2, 1071, 0, [4], []) rfl rfl rfl ?_
  refine bGo hA 66 15 (1820, .iconst (2), 1, 1072, 0, [], [(2, 0)]) rfl rfl rfl ?_
  refine bEqI bl_2 ?_
  refine bGo hA 67 0 (1821, .iadd, 1, 1073, 0, [], []) rfl rfl rfl ?_
  refine bEqI (bn_add l4 2) ?_
  refine bGo hA 67 1 (1822, .iaload, 1, 1074, 0, [], []) rfl rfl rfl ?_
  refine ⟨rfl, (bIxP (x := (l4 + 2)) (n := bLen σ 200) h.2.2.1 h.2.2.2.1), ?_⟩
  refine bEqL (x := (l4 + 2)) h.2.2.1 ?_
  refine bGo hA 67 2 (1823, .aload_n 0, 1, 1075, 0, [0], []) rfl rfl rfl ?_
  refine bGo hA 67 3 (1824, .iload 4, 2, 1076, 0, [4], []) rfl rfl rfl ?_
  refine bGo hA 67 4 (1826, .iconst (3), 1, 1077, 0, [], [(3, 0)]) rfl rfl rfl ?_
  refine bEqI bl_3 ?_
  refine bGo hA 67 5 (1827, .iadd, 1, 1078, 0, [], []) rfl rfl rfl ?_
  refine bEqI (bn_add l4 3) ?_
  refine bGo hA 67 6 (1828, .iaload, 1, 1079, 0, [], []) rfl rfl rfl ?_
  refine ⟨rfl, (bIxP (x := (l4 + 3)) (n := bLen σ 200) h.2.2.2.2.1 h.2.2.2.2.2.1), ?_⟩
  refine bEqL (x := (l4 + 3)) h.2.2.2.2.1 ?_
  refine bGo hA 67 7 (1829, .invokestatic 239, 3, 1080, 0, [2, 335, 4], []) rfl rfl rfl ?_
  refine hC _ _ _ _ _ (bRn_e (fun r3 s1 q4 k2 => ?_)) h.2.2.2.2.2.2
  show A (1080, [.ref 200, .ref 11, .ref 12, .ref 154, .int (bn l4), v5, v6, v7], [.int (bn r3)], s1)
  refine bGo hA 67 8 (1832, .istore 5, 2, 1081, 0, [5], []) rfl rfl rfl ?_
  refine bGo hA 67 9 (1834, .aload_n 2, 1, 1082, 0, [2], []) rfl rfl rfl ?_
  refine bGo hA 67 10 (1835, .aload_n 0, 1, 1083, 0, [0], []) rfl rfl rfl ?_
  refine bGo hA 67 11 (1836, .iload 4, 2, 1084, 0, [4], []) rfl rfl rfl ?_
  refine bGo hA 67 12 (1838, .iconst (1), 1, 1085, 0, [], [(1, 0)]) rfl rfl rfl ?_
  refine bEqI bl_1 ?_
  refine bGo hA 67 13 (1839, .iadd, 1, 1086, 0, [], []) rfl rfl rfl ?_
  refine bEqI (bn_add l4 1) ?_
  refine bGo hA 67 14 (1840, .iaload, 1, 1087, 0, [], []) rfl rfl rfl ?_
  refine ⟨rfl, (bIxP (x := (l4 + 1)) (n := bLen s1 200) h.1 k2.1), ?_⟩
  refine bEqL (x := (l4 + 1)) h.1 ?_
  refine bGo hA 67 15 (1841, .aload_n 0, 1, 1088, 0, [0], []) rfl rfl rfl ?_
  refine bGo hA 68 0 (1842, .iload 4, 2, 1089, 0, [4], []) rfl rfl rfl ?_
  refine bGo hA 68 1 (1844, .iconst (2), 1, 1090, 0, [], [(2, 0)]) rfl rfl rfl ?_
  refine bEqI bl_2 ?_
  refine bGo hA 68 2 (1845, .iadd, 1, 1091, 0, [], []) rfl rfl rfl ?_
  refine bEqI (bn_add l4 2) ?_
  refine bGo hA 68 3 (1846, .iaload, 1, 1092, 0, [], []) rfl rfl rfl ?_
  refine ⟨rfl, (bIxP (x := (l4 + 2)) (n := bLen s1 200) h.2.2.1 k2.2.1), ?_⟩
  refine bEqL (x := (l4 + 2)) h.2.2.1 ?_
  refine bGo hA 68 4 (1847, .aload_n 0, 1, 1093, 0, [0], []) rfl rfl rfl ?_
  refine bGo hA 68 5 (1848, .iload 4, 2, 1094, 0, [4], []) rfl rfl rfl ?_
  refine bGo hA 68 6 (1850, .iconst (3), 1, 1095, 0, [], [(3, 0)]) rfl rfl rfl ?_
  refine bEqI bl_3 ?_
  refine bGo hA 68 7 (1851, .iadd, 1, 1096, 0, [], []) rfl rfl rfl ?_
  refine bEqI (bn_add l4 3) ?_
  refine bGo hA 68 8 (1852, .iaload, 1, 1097, 0, [], []) rfl rfl rfl ?_
  refine ⟨rfl, (bIxP (x := (l4 + 3)) (n := bLen s1 200) h.2.2.2.2.1 k2.2.2.1), ?_⟩
  refine bEqL (x := (l4 + 3)) h.2.2.2.2.1 ?_
  refine bGo hA 68 9 (1853, .invokevirtual 241, 3, 1098, 0, [0, 12, 235, 3], []) rfl rfl rfl ?_
  refine ⟨rfl, ?_⟩
  refine hC _ _ _ _ _ (bRv_e (fun s5 k6 => ?_)) k2.2.2.2
  show A (1098, [.ref 200, .ref 11, .ref 12, .ref 154, .int (bn l4), .int (bn r3), v6, v7], [], s5)
  refine bGo hA 68 10 (1856, .aload_n 2, 1, 1099, 0, [2], []) rfl rfl rfl ?_
  refine bGo hA 68 11 (1857, .invokevirtual 168, 3, 1100, 0, [0, 12, 196, 0], []) rfl rfl rfl ?_
  refine ⟨rfl, ?_⟩
  refine hC _ _ _ _ _ (bRn_e (fun r9 s7 q10 k8 => ?_)) k6
  show A (1100, [.ref 200, .ref 11, .ref 12, .ref 154, .int (bn l4), .int (bn r3), v6, v7], [.int (bn r9)], s7)
  refine bGo hA 68 12 (1860, .iload 5, 2, 1101, 0, [5], []) rfl rfl rfl ?_
  refine bGo hA 68 13 (1862, .if_icmp .eq (5), 3, 1102, 1104, [], []) rfl rfl rfl ?_
  refine bB_eq (x := r9) (y := r3) q10 q4 (fun c11 => ?_) (fun c11 => ?_)
  · refine bGo hA 69 0 (1867, .goto (1547), 3, 1105, 2097, [], []) rfl rfl rfl ?_
    refine bGo hA 131 1 (3414, .iinc 4 (6), 3, 2098, 0, [4], [(6, 0)]) rfl rfl rfl ?_
    refine bEqC (fun v => A (2098, [.ref 200, .ref 11, .ref 12, .ref 154, .int v, .int (bn r3), v6, v7], [], s7)) ((congrArg (fun w => bn l4 + w) bl_6).trans (bn_add l4 6)) ?_
    refine bGo hA 131 2 (3417, .goto (-3394), 3, 2099, 13, [], []) rfl rfl rfl ?_
    exact (k8.1 c11).2
  · refine bGo hA 68 14 (1865, .iconst (0), 1, 1103, 0, [], [(0, 0)]) rfl rfl rfl ?_
    refine bEqI bl_0 ?_
    refine bGo hA 68 15 (1866, .ireturn, 1, 1104, 0, [2], []) rfl rfl rfl ?_
    exact ⟨b01 (Or.inl rfl), (k8.2 c11)⟩

theorem sq357_1105 {lvl : Nat} {C : bCall} {Q : bPost} {A : bPt → Prop} (hC : bMono C) (hA : bClosed lvl bm357 C Q A) {l4 : Int} {v5 : Value} {v6 : Value} {v7 : Value} {σ : bSt}  (h_l4 : bRg l4)
  (h : (bRg (l4 + 1) ∧ ((0 ≤ (l4 + 1) ∧ (l4 + 1) < (bLen σ 200 : Int)) ∧ (bRg (l4 + 2) ∧ ((0 ≤ (l4 + 2) ∧ (l4 + 2) < (bLen σ 200 : Int)) ∧ (bRg (l4 + 3) ∧ ((0 ≤ (l4 + 3) ∧ (l4 + 3) < (bLen σ 200 : Int)) ∧ (bRg (l4 + 4) ∧ ((0 ≤ (l4 + 4) ∧ (l4 + 4) < (bLen σ 200 : Int)) ∧ (((bi σ 200 (l4 + 4)) = 0 → A (1130, [.ref 200, .ref 11, .ref 12, .ref 154, .int (bn l4), v5, v6, v7], [.int (bn 0), .int (bn (bi σ 200 (l4 + 3))), .int (bn (bi σ 200 (l4 + 2))), .int (bn (bi σ 200 (l4 + 1))), .ref 11], σ)) ∧ (¬ (bi σ 200 (l4 + 4)) = 0 → A (1130, [.ref 200, .ref 11, .ref 12, .ref 154, .int (bn l4), v5, v6, v7], [.int (bn 1), .int (bn (bi σ 200 (l4 + 3))), .int (bn (bi σ 200 (l4 + 2))), .int (bn (bi σ 200 (l4 + 1))), .ref 11], σ)))))))))))) : A (1105, [.ref 200, .ref 11, .ref 12, .ref 154, .int (bn l4), v5, v6, v7], [], σ) := by
  refine bGo hA 69 1 (1870, .aload_n 1, 1, 1106, 0, [1], []) rfl rfl rfl ?_
  refine bGo hA 69 2 (1871, .aload_n 0, 1, 1107, 0, [0], []) rfl rfl rfl ?_
  refine bGo hA 69 3 (1872, .iload 4, 2, 1108, 0, [4], []) rfl rfl rfl ?_
  refine bGo hA 69 4 (1874, .iconst (1), 1, 1109, 0, [], [(1, 0)]) rfl rfl rfl ?_
  refine bEqI bl_1 ?_
  refine bGo hA 69 5 (1875, .iadd, 1, 1110, 0, [], []) rfl rfl rfl ?_
  refine bEqI (bn_add l4 1) ?_
  refine bGo hA 69 6 (1876, .iaload, 1, 1111, 0, [], []) rfl rfl rfl ?_
  refine ⟨rfl, (bIxP (x := (l4 + 1)) (n := bLen σ 200) h.1 h.2.1), ?_⟩
  refine bEqL (x := (l4 + 1)) h.1 ?_
  refine bGo hA 69 7 (1877, .aload_n 0, 1, 1112, 0, [0], []) rfl rfl rfl ?_
  refine bGo hA 69 8 (1878, .iload 4, 2, 1113, 0, [4], []) rfl rfl rfl ?_
  refine bGo hA 69 9 (1880, .iconst (2), 1, 1114, 0, [], [(2, 0)]) rfl rfl rfl ?_
  refine bEqI bl_2 ?_
  refine bGo hA 69 10 (1881, .iadd, 1, 1115, 0, [], []) rfl rfl rfl ?_
  refine bEqI (bn_add l4 2) ?_
  refine bGo hA 69 11 (1882, .iaload, 1, 1116, 0, [], []) rfl rfl rfl ?_
  refine ⟨rfl, (bIxP (x := (l4 + 2)) (n := bLen σ 200) h.2.2.1 h.2.2.2.1), ?_⟩
  refine bEqL (x := (l4 + 2)) h.2.2.1 ?_
  refine bGo hA 69 12 (1883, .aload_n 0, 1, 1117, 0, [0], []) rfl rfl rfl ?_
  refine bGo hA 69 13 (1884, .iload 4, 2, 1118, 0, [4], []) rfl rfl rfl ?_
  refine bGo hA 69 14 (1886, .iconst (3), 1, 1119, 0, [], [(3, 0)]) rfl rfl rfl ?_
  refine bEqI bl_3 ?_
  refine bGo hA 69 15 (1887, .iadd, 1, 1120, 0, [], []) rfl rfl rfl ?_
  refine bEqI (bn_add l4 3) ?_
  refine bGo hA 70 0 (1888, .iaload, 1, 1121, 0, [], []) rfl rfl rfl ?_
  refine ⟨rfl, (bIxP (x := (l4 + 3)) (n := bLen σ 200) h.2.2.2.2.1 h.2.2.2.2.2.1), ?_⟩
  refine bEqL (x := (l4 + 3)) h.2.2.2.2.1 ?_
  refine bGo hA 70 1 (1889, .aload_n 0, 1, 1122, 0, [0], []) rfl rfl rfl ?_
  refine bGo hA 70 2 (1890, .iload 4, 2, 1123, 0, [4], []) rfl rfl rfl ?_
  refine bGo hA 70 3 (1892, .iconst (4), 1, 1124, 0, [], [(4, 0)]) rfl rfl rfl ?_
  refine bEqI bl_4 ?_
  refine bGo hA 70 4 (1893, .iadd, 1, 1125, 0, [], []) rfl rfl rfl ?_
  refine bEqI (bn_add l4 4) ?_
  refine bGo hA 70 5 (1894, .iaload, 1, 1126, 0, [], []) rfl rfl rfl ?_
  refine ⟨rfl, (bIxP (x := (l4 + 4)) (n := bLen σ 200) h.2.2.2.2.2.2.1 h.2.2.2.2.2.2.2.1), ?_⟩
  refine bEqL (x := (l4 + 4)) h.2.2.2.2.2.2.1 ?_
  refine bGo hA 70 6 (1895, .ifCond .eq (7), 3, 1127, 1129, [], []) rfl rfl rfl ?_
  refine bB_eq0 (x := (bi σ 200 (l4 + 4))) (bi_rg _ _ _) (fun c1 => ?_) (fun c1 => ?_)
  · refine bGo hA 70 9 (1902, .iconst (0), 1, 1130, 0, [], [(0, 0)]) rfl rfl rfl ?_
    refine bEqI bl_0 ?_
    exact (h.2.2.2.2.2.2.2.2.1 c1)
  · refine bGo hA 70 7 (1898, .iconst (1), 1, 1128, 0, [], [(1, 0)]) rfl rfl rfl ?_
    refine bEqI bl_1 ?_
    refine bGo hA 70 8 (1899, .goto (4), 3, 1129, 1130, [], []) rfl rfl rfl ?_
    exact (h.2.2.2.2.2.2.2.2.2 c1)

theorem sq357_1165 {lvl : Nat} {C : bCall} {Q : bPost} {A : bPt → Prop} (hC : bMono C) (hA : bClosed lvl bm357 C Q A) {l4 : Int} {v5 : Value} {v6 : Value} {v7 : Value} {σ : bSt}  (h_l4 : bRg l4)
  (h : (bRg (l4 + 1) ∧ ((0 ≤ (l4 + 1) ∧ (l4 + 1) < (bLen σ 200 : Int)) ∧ (bRg (l4 + 2) ∧ ((0 ≤ (l4 + 2) ∧ (l4 + 2) < (bLen σ 200 : Int)) ∧ (bRg (l4 + 3) ∧ ((0 ≤ (l4 + 3) ∧ (l4 + 3) < (bLen σ 200 : Int)) ∧ (C 337 [.ref 11, .int (bn (bi σ 200 (l4 + 1))), .int (bn (bi σ 200 (l4 + 2))), .int (bn (bi σ 200 (l4 + 3)))] σ (bRn (fun r3 s1 => ((0 ≤ (l4 + 1) ∧ (l4 + 1) < (bLen s1 200 : Int)) ∧ ((0 ≤ (l4 + 2) ∧ (l4 + 2) < (bLen s1 200 : Int)) ∧ ((0 ≤ (l4 + 3) ∧ (l4 + 3) < (bLen s1 200 : Int)) ∧ (C 237 [.ref 12, .int (bn (bi s1 200 (l4 + 1))), .int (bn (bi s1 200 (l4 + 2))), .int (bn (bi s1 200 (l4 + 3)))] s1 (bRv (fun s5 => (C 196 [.ref 12] s5 (bRn (fun r9 s7 => ((r9 = r3 → (bRg (l4 + 6) ∧ A (13, [.ref 200, .ref 11, .ref 12, .ref 154, .int (bn (l4 + 6)), .int (bn r3), v6, v7], [], s7))) ∧ (¬ r9 = r3 → Q (.inl (some (.int (bn 0)))) s7))))))))))))))))))))) : A (1165, [.ref 200, .ref 11, .ref 12, .ref 154, .int (bn l4), v5, v6, v7], [], σ) := by
  refine bGo hA 72 13 (1958, .aload_n 1, 1, 1166, 0, [1], []) rfl rfl rfl ?_
  refine bGo hA 72 14 (1959, .aload_n 0, 1, 1167, 0, [0], []) rfl rfl rfl ?_
  refine bGo hA 72 15 (1960, .iload 4, 2, 1168, 0, [4], []) rfl rfl rfl ?_
  refine bGo hA 73 0 (1962, .iconst (1), 1, 1169, 0, [], [(1, 0)]) rfl rfl rfl ?_
  refine bEqI bl_1 ?_
  refine bGo hA 73 1 (1963, .iadd, 1, 1170, 0, [], []) rfl rfl rfl ?_
  refine bEqI (bn_add l4 1) ?_
  refine bGo hA 73 2 (1964, .iaload, 1, 1171, 0, [], []) rfl rfl rfl ?_
  refine ⟨rfl, (bIxP (x := (l4 + 1)) (n := bLen σ 200) h.1 h.2.1), ?_⟩
  refine bEqL (x := (l4 + 1)) h.1 ?_
  refine bGo hA 73 3 (1965, .aload_n 0, 1, 1172, 0, [0], []) rfl rfl rfl ?_
  refine bGo hA 73 4 (1966, .iload 4, 2, 1173, 0, [4], []) rfl rfl rfl ?_
  refine bGo hA 73 5 (1968, .iconst (2), 1, 1174, 0, [], [(2, 0)]) rfl rfl rfl ?_
  refine bEqI bl_2 ?_
  refine bGo hA 73 6 (1969, .iadd, 1, 1175, 0, [], []) rfl rfl rfl ?_
  refine bEqI (bn_add l4 2) ?_
  refine bGo hA 73 7 (1970, .iaload, 1, 1176, 0, [], []) rfl rfl rfl ?_
  refine ⟨rfl, (bIxP (x := (l4 + 2)) (n := bLen σ 200) h.2.2.1 h.2.2.2.1), ?_⟩
  refine bEqL (x := (l4 + 2)) h.2.2.1 ?_
  refine bGo hA 73 8 (1971, .aload_n 0, 1, 1177, 0, [0], []) rfl rfl rfl ?_
  refine bGo hA 73 9 (1972, .iload 4, 2, 1178, 0, [4], []) rfl rfl rfl ?_
  refine bGo hA 73 10 (1974, .iconst (3), 1, 1179, 0, [], [(3, 0)]) rfl rfl rfl ?_
  refine bEqI bl_3 ?_
  refine bGo hA 73 11 (1975, .iadd, 1, 1180, 0, [], []) rfl rfl rfl ?_
  refine bEqI (bn_add l4 3) ?_
  refine bGo hA 73 12 (1976, .iaload, 1, 1181, 0, [], []) rfl rfl rfl ?_
  refine ⟨rfl, (bIxP (x := (l4 + 3)) (n := bLen σ 200) h.2.2.2.2.1 h.2.2.2.2.2.1), ?_⟩
  refine bEqL (x := (l4 + 3)) h.2.2.2.2.1 ?_
  refine bGo hA 73 13 (1977, .invokestatic 246, 3, 1182, 0, [2, 337, 4], []) rfl rfl rfl ?_
  refine hC _ _ _ _ _ (bRn_e (fun r3 s1 q4 k2 => ?_)) h.2.2.2.2.2.2
  show A (1182, [.ref 200, .ref 11, .ref 12, .ref 154, .int (bn l4), v5, v6, v7], [.int (bn r3)], s1)
  refine bGo hA 73 14 (1980, .istore 5, 2, 1183, 0, [5], []) rfl rfl rfl ?_
  refine bGo hA 73 15 (1982, .aload_n 2, 1, 1184, 0, [2], []) rfl rfl rfl ?_
  refine bGo hA 74 0 (1983, .aload_n 0, 1, 1185, 0, [0], []) rfl rfl rfl ?_
  refine bGo hA 74 1 (1984, .iload 4, 2, 1186, 0, [4], []) rfl rfl rfl ?_
  refine bGo hA 74 2 (1986, .iconst (1), 1, 1187, 0, [], [(1, 0)]) rfl rfl rfl ?_
  refine bEqI bl_1 ?_
  refine bGo hA 74 3 (1987, .iadd, 1, 1188, 0, [], []) rfl rfl rfl ?_
  refine bEqI (bn_add l4 1) ?_
  refine bGo hA 74 4 (1988, .iaload, 1, 1189, 0, [], []) rfl rfl rfl ?_
  refine ⟨rfl, (bIxP (x := (l4 + 1)) (n := bLen s1 200) h.1 k2.1), ?_⟩
  refine bEqL (x := (l4 + 1)) h.1 ?_
  refine bGo hA 74 5 (1989, .aload_n 0, 1, 1190, 0, [0], []) rfl rfl rfl ?_
  refine bGo hA 74 6 (1990, .iload 4, 2, 1191, 0, [4], []) rfl rfl rfl ?_
  refine bGo hA 74 7 (1992, .iconst (2), 1, 1192, 0, [], [(2, 0)]) rfl rfl rfl ?_
  refine bEqI bl_2 ?_
  refine bGo hA 74 8 (1993, .iadd, 1, 1193, 0, [], []) rfl rfl rfl ?_
  refine bEqI (bn_add l4 2) ?_
  refine bGo hA 74 9 (1994, .iaload, 1, 1194, 0, [], []) rfl rfl rfl ?_
  refine ⟨rfl, (bIxP (x := (l4 + 2)) (n := bLen s1 200) h.2.2.1 k2.2.1), ?_⟩
  refine bEqL (x := (l4 + 2)) h.2.2.1 ?_
  refine bGo hA 74 10 (1995, .aload_n 0, 1, 1195, 0, [0], []) rfl rfl rfl ?_
  refine bGo hA 74 11 (1996, .iload 4, 2, 1196, 0, [4], []) rfl rfl rfl ?_
  refine bGo hA 74 12 (1998, .iconst (3), 1, 1197, 0, [], [(3, 0)]) rfl rfl rfl ?_
  refine bEqI bl_3 ?_
  refine bGo hA 74 13 (1999, .iadd, 1, 1198, 0, [], []) rfl rfl rfl ?_
  refine bEqI (bn_add l4 3) ?_
  refine bGo hA 74 14 (2000, .iaload, 1, 1199, 0, [], []) rfl rfl rfl ?_
  refine ⟨rfl, (bIxP (x := (l4 + 3)) (n := bLen s1 200) h.2.2.2.2.1 k2.2.2.1), ?_⟩
  refine bEqL (x := (l4 + 3)) h.2.2.2.2.1 ?_
  refine bGo hA 74 15 (2001, .invokevirtual 248, 3, 1200, 0, [0, 12, 237, 3], []) rfl rfl rfl ?_
  refine ⟨rfl, ?_⟩
  refine hC _ _ _ _ _ (bRv_e (fun s5 k6 => ?_)) k2.2.2.2
  show A (1200, [.ref 200, .ref 11, .ref 12, .ref 154, .int (bn l4), .int (bn r3), v6, v7], [], s5)
  refine bGo hA 75 0 (2004, .aload_n 2, 1, 1201, 0, [2], []) rfl rfl rfl ?_
  refine bGo hA 75 1 (2005, .invokevirtual 168, 3, 1202, 0, [0, 12, 196, 0], []) rfl rfl rfl ?_
  refine ⟨rfl, ?_⟩
  refine hC _ _ _ _ _ (bRn_e (fun r9 s7 q10 k8 => ?_)) k6
  show A (1202, [.ref 200, .ref 11, .ref 12, .ref 154, .int (bn l4), .int (bn r3), v6, v7], [.int (bn r9)], s7)
  refine bGo hA 75 2 (2008, .iload 5, 2, 1203, 0, [5], []) rfl rfl rfl ?_
  refine bGo hA 75 3 (2010, .if_icmp .eq (5), 3, 1204, 1206, [], []) rfl rfl rfl ?_
  refine bB_eq (x := r9) (y := r3) q10 q4 (fun c11 => ?_) (fun c11 => ?_)
  · refine bGo hA 75 6 (2015, .goto (1399), 3, 1207, 2097, [], []) rfl rfl rfl ?_
    refine bGo hA 131 1 (3414, .iinc 4 (6), 3, 2098, 0, [4], [(6, 0)]) rfl rfl rfl ?_
    refine bEqC (fun v => A (2098, [.ref 200, .ref 11, .ref 12, .ref 154, .int v, .int (bn r3), v6, v7], [], s7)) ((congrArg (fun w => bn l4 + w) bl_6).trans (bn_add l4 6)) ?_
    refine bGo hA 131 2 (3417, .goto (-3394), 3, 2099, 13, [], []) rfl rfl rfl ?_
    exact (k8.1 c11).2
  · refine bGo hA 75 4 (2013, .iconst (0), 1, 1205, 0, [], [(0, 0)]) rfl rfl rfl ?_
    refine bEqI bl_0 ?_
    refine bGo hA 75 5 (2014, .ireturn, 1, 1206, 0, [2], []) rfl rfl rfl ?_
    exact ⟨b01 (Or.inl rfl), (k8.2 c11)⟩

theorem sq357_1207 {lvl : Nat} {C : bCall} {Q : bPost} {A : bPt → Prop} (hC : bMono C) (hA : bClosed lvl bm357 C Q A) {l4 : Int} {v5 : Value} {v6 : Value} {v7 : Value} {σ : bSt}  (h_l4 : bRg l4)
  (h : (bRg (l4 + 1) ∧ ((0 ≤ (l4 + 1) ∧ (l4 + 1) < (bLen σ 200 : Int)) ∧ (bRg (l4 + 2) ∧ ((0 ≤ (l4 + 2) ∧ (l4 + 2) < (bLen σ 200 : Int)) ∧ (C 338 [.ref 11, .int (bn (bi σ 200 (l4 + 1))), .int (bn (bi σ 200 (l4 + 2))), .ref 154] σ (bRn (fun r3 s1 => ((0 ≤ (l4 + 1) ∧ (l4 + 1) < (bLen s1 200 : Int)) ∧ ((0 ≤ (l4 + 2) ∧ (l4 + 2) < (bLen s1 200 : Int)) ∧ (C 244 [.ref 12, .int (bn (bi s1 200 (l4 + 1))), .int (bn (bi s1 200 (l4 + 2)))] s1 (bRn (fun r7 s5 => (C 196 [.ref 12] s5 (bRn (fun r11 s9 => ((r11 = r3 → ((r3 = 0 → (((bCmp (bj s9 154 0) (bL r7)) = 0 → (bRg (l4 + 6) ∧ A (13, [.ref 200, .ref 11, .ref 12, .ref 154, .int (bn (l4 + 6)), .int (bn r3), .int (bn r7), v7], [], s9))) ∧ (¬ (bCmp (bj s9 154 0) (bL r7)) = 0 → Q (.inl (some (.int (bn 0)))) s9))) ∧ (¬ r3 = 0 → (bRg (l4 + 6) ∧ A (13, [.ref 200, .ref 11, .ref 12, .ref 154, .int (bn (l4 + 6)), .int (bn r3), .int (bn r7), v7], [], s9))))) ∧ (¬ r11 = r3 → Q (.inl (some (.int (bn 0)))) s9)))))))))))))))))) : A (1207, [.ref 200, .ref 11, .ref 12, .ref 154, .int (bn l4), v5, v6, v7], [], σ) := by
  refine bGo hA 75 7 (2018, .aload_n 1, 1, 1208, 0, [1], []) rfl rfl rfl ?_
  refine bGo hA 75 8 (2019, .aload_n 0, 1, 1209, 0, [0], []) rfl rfl rfl ?_
  refine bGo hA 75 9 (2020, .iload 4, 2, 1210, 0, [4], []) rfl rfl rfl ?_
  refine bGo hA 75 10 (2022, .iconst (1), 1, 1211, 0, [], [(1, 0)]) rfl rfl rfl ?_
  refine bEqI bl_1 ?_
  refine bGo hA 75 11 (2023, .iadd, 1, 1212, 0, [], []) rfl rfl rfl ?_
  refine bEqI (bn_add l4 1) ?_
  refine bGo hA 75 12 (2024, .iaload, 1, 1213, 0, [], []) rfl rfl rfl ?_
  refine ⟨rfl, (bIxP (x := (l4 + 1)) (n := bLen σ 200) h.1 h.2.1), ?_⟩
  refine bEqL (x := (l4 + 1)) h.1 ?_
  refine bGo hA 75 13 (2025, .aload_n 0, 1, 1214, 0, [0], []) rfl rfl rfl ?_
  refine bGo hA 75 14 (2026, .iload 4, 2, 1215, 0, [4], []) rfl rfl rfl ?_
  refine bGo hA 75 15 (2028, .iconst (2), 1, 1216, 0, [], [(2, 0)]) rfl rfl rfl ?_
  refine bEqI bl_2 ?_
  refine bGo hA 76 0 (2029, .iadd, 1, 1217, 0, [], []) rfl rfl rfl ?_
  refine bEqI (bn_add l4 2) ?_
  refine bGo hA 76 1 (2030, .iaload, 1, 1218, 0, [], []) rfl rfl rfl ?_
  refine ⟨rfl, (bIxP (x := (l4 + 2)) (n := bLen σ 200) h.2.2.1 h.2.2.2.1), ?_⟩
  refine bEqL (x := (l4 + 2)) h.2.2.1 ?_
  refine bGo hA 76 2 (2031, .aload_n 3, 1, 1219, 0, [3], []) rfl rfl rfl ?_
  refine bGo hA 76 3 (2032, .invokestatic 249, 3, 1220, 0, [2, 338, 4], []) rfl rfl rfl ?_
  refine hC _ _ _ _ _ (bRn_e (fun r3 s1 q4 k2 => ?_)) h.2.2.2.2
  show A (1220, [.ref 200, .ref 11, .ref 12, .ref 154, .int (bn l4), v5, v6, v7], [.int (bn r3)], s1)
  refine bGo hA 76 4 (2035, .istore 5, 2, 1221, 0, [5], []) rfl rfl rfl ?_
  refine bGo hA 76 5 (2037, .aload_n 2, 1, 1222, 0, [2], []) rfl rfl rfl ?_
  refine bGo hA 76 6 (2038, .aload_n 0, 1, 1223, 0, [0], []) rfl rfl rfl ?_
  refine bGo hA 76 7 (2039, .iload 4, 2, 1224, 0, [4], []) rfl rfl rfl ?_
  refine bGo hA 76 8 (2041, .iconst (1), 1, 1225, 0, [], [(1, 0)]) rfl rfl rfl ?_
  refine bEqI bl_1 ?_
  refine bGo hA 76 9 (2042, .iadd, 1, 1226, 0, [], []) rfl rfl rfl ?_
  refine bEqI (bn_add l4 1) ?_
  refine bGo hA 76 10 (2043, .iaload, 1, 1227, 0, [], []) rfl rfl rfl ?_
  refine ⟨rfl, (bIxP (x := (l4 + 1)) (n := bLen s1 200) h.1 k2.1), ?_⟩
  refine bEqL (x := (l4 + 1)) h.1 ?_
  refine bGo hA 76 11 (2044, .aload_n 0, 1, 1228, 0, [0], []) rfl rfl rfl ?_
  refine bGo hA 76 12 (2045, .iload 4, 2, 1229, 0, [4], []) rfl rfl rfl ?_
  refine bGo hA 76 13 (2047, .iconst (2), 1, 1230, 0, [], [(2, 0)]) rfl rfl rfl ?_
  refine bEqI bl_2 ?_
  refine bGo hA 76 14 (2048, .iadd, 1, 1231, 0, [], []) rfl rfl rfl ?_
  refine bEqI (bn_add l4 2) ?_
  refine bGo hA 76 15 (2049, .iaload, 1, 1232, 0, [], []) rfl rfl rfl ?_
  refine ⟨rfl, (bIxP (x := (l4 + 2)) (n := bLen s1 200) h.2.2.1 k2.2.1), ?_⟩
  refine bEqL (x := (l4 + 2)) h.2.2.1 ?_
  refine bGo hA 77 0 (2050, .invokevirtual 251, 3, 1233, 0, [0, 12, 244, 2], []) rfl rfl rfl ?_
  refine ⟨rfl, ?_⟩
  refine hC _ _ _ _ _ (bRn_e (fun r7 s5 q8 k6 => ?_)) k2.2.2
  show A (1233, [.ref 200, .ref 11, .ref 12, .ref 154, .int (bn l4), .int (bn r3), v6, v7], [.int (bn r7)], s5)
  refine bGo hA 77 1 (2053, .istore 6, 2, 1234, 0, [6], []) rfl rfl rfl ?_
  refine bGo hA 77 2 (2055, .aload_n 2, 1, 1235, 0, [2], []) rfl rfl rfl ?_
  refine bGo hA 77 3 (2056, .invokevirtual 168, 3, 1236, 0, [0, 12, 196, 0], []) rfl rfl rfl ?_
  refine ⟨rfl, ?_⟩
  refine hC _ _ _ _ _ (bRn_e (fun r11 s9 q12 k10 => ?_)) k6
  show A (1236, [.ref 200, .ref 11, .ref 12, .ref 154, .int (bn l4), .int (bn r3), .int (bn r7), v7], [.int (bn r11)], s9)
  refine bGo hA 77 4 (2059, .iload 5, 2, 1237, 0, [5], []) rfl rfl rfl ?_
  refine bGo hA 77 5 (2061, .if_icmp .eq (5), 3, 1238, 1240, [], []) rfl rfl rfl ?_
  refine bB_eq (x := r11) (y := r3) q12 q4 (fun c13 => ?_) (fun c13 => ?_)
  · refine bGo hA 77 8 (2066, .iload 5, 2, 1241, 0, [5], []) rfl rfl rfl ?_
    refine bGo hA 77 9 (2068, .ifCond .ne (15), 3, 1242, 1251, [], []) rfl rfl rfl ?_
    refine bB_eq0 (x := r3) q4 (fun c14 => ?_) (fun c14 => ?_)
    · refine bGo hA 77 10 (2071, .aload_n 3, 1, 1243, 0, [3], []) rfl rfl rfl ?_
      refine bGo hA 77 11 (2072, .iconst (0), 1, 1244, 0, [], [(0, 0)]) rfl rfl rfl ?_
      refine bEqI bl_0 ?_
      refine bGo hA 77 12 (2073, .laload, 1, 1245, 0, [], []) rfl rfl rfl ?_
      refine ⟨rfl, (bIxP (x := 0) (n := 1) (by decide) (by decide)), ?_⟩
      refine bEqJ (x := 0) (by decide : bRg 0) ?_
      refine bGo hA 77 13 (2074, .iload 6, 2, 1246, 0, [6], []) rfl rfl rfl ?_
      refine bGo hA 77 14 (2076, .i2l, 1, 1247, 0, [], []) rfl rfl rfl ?_
      refine bGo hA 77 15 (2077, .lcmp, 1, 1248, 0, [], []) rfl rfl rfl ?_
      refine bEqI (bn_cmp (bj s9 154 0) (bL r7)) ?_
      refine bGo hA 78 0 (2078, .ifCond .eq (5), 3, 1249, 1251, [], []) rfl rfl rfl ?_
      refine bB_eq0 (x := (bCmp (bj s9 154 0) (bL r7))) (bRgI _) (fun c15 => ?_) (fun c15 => ?_)
      · refine bGo hA 78 3 (2083, .goto (1331), 3, 1252, 2097, [], []) rfl rfl rfl ?_
        refine bGo hA 131 1 (3414, .iinc 4 (6), 3, 2098, 0, [4], [(6, 0)]) rfl rfl rfl ?_
        refine bEqC (fun v => A (2098, [.ref 200, .ref 11, .ref 12, .ref 154, .int v, .int (bn r3), .int (bn r7), v7], [], s9)) ((congrArg (fun w => bn l4 + w) bl_6).trans (bn_add l4 6)) ?_
        refine bGo hA 131 2 (3417, .goto (-3394), 3, 2099, 13, [], []) rfl rfl rfl ?_
        exact (((k10.1 c13).1 c14).1 c15).2
      · refine bGo hA 78 1 (2081, .iconst (0), 1, 1250, 0, [], [(0, 0)]) rfl rfl rfl ?_
        refine bEqI bl_0 ?_
        refine bGo hA 78 2 (2082, .ireturn, 1, 1251, 0, [2], []) rfl rfl rfl ?_
        exact ⟨b01 (Or.inl rfl), (((k10.1 c13).1 c14).2 c15)⟩
    · refine bGo hA 78 3 (2083, .goto (1331), 3, 1252, 2097, [], []) rfl rfl rfl ?_
      refine bGo hA 131 1 (3414, .iinc 4 (6), 3, 2098, 0, [4], [(6, 0)]) rfl rfl rfl ?_
      refine bEqC (fun v => A (2098, [.ref 200, .ref 11, .ref 12, .ref 154, .int v, .int (bn r3), .int (bn r7), v7], [], s9)) ((congrArg (fun w => bn l4 + w) bl_6).trans (bn_add l4 6)) ?_
      refine bGo hA 131 2 (3417, .goto (-3394), 3, 2099, 13, [], []) rfl rfl rfl ?_
      exact ((k10.1 c13).2 c14).2
  · refine bGo hA 77 6 (2064, .iconst (0), 1, 1239, 0, [], [(0, 0)]) rfl rfl rfl ?_
    refine bEqI bl_0 ?_
    refine bGo hA 77 7 (2065, .ireturn, 1, 1240, 0, [2], []) rfl rfl rfl ?_
    exact ⟨b01 (Or.inl rfl), (k10.2 c13)⟩

theorem sq357_1252 {lvl : Nat} {C : bCall} {Q : bPost} {A : bPt → Prop} (hC : bMono C) (hA : bClosed lvl bm357 C Q A) {l4 : Int} {v5 : Value} {v6 : Value} {v7 : Value} {σ : bSt}  (h_l4 : bRg l4)
  (h : (bRg (l4 + 1) ∧ ((0 ≤ (l4 + 1) ∧ (l4 + 1) < (bLen σ 200 : Int)) ∧ (bRg (l4 + 2) ∧ ((0 ≤ (l4 + 2) ∧ (l4 + 2) < (bLen σ 200 : Int)) ∧ (C 339 [.ref 11, .int (bn (bi σ 200 (l4 + 1))), .int (bn (bi σ 200 (l4 + 2))), .ref 154] σ (bRn (fun r3 s1 => ((0 ≤ (l4 + 1) ∧ (l4 + 1) < (bLen s1 200 : Int)) ∧ ((0 ≤ (l4 + 2) ∧ (l4 + 2) < (bLen s1 200 : Int)) ∧ (C 278 [.ref 12, .int (bn (bi s1 200 (l4 + 1))), .int (bn (bi s1 200 (l4 + 2)))] s1 (bRn (fun r7 s5 => (C 196 [.ref 12] s5 (bRn (fun r11 s9 => ((r11 = r3 → ((r3 = 0 → (((bCmp (bj s9 154 0) (bL r7)) = 0 → (bRg (l4 + 6) ∧ A (13, [.ref 200, .ref 11, .ref 12, .ref 154, .int (bn (l4 + 6)), .int (bn r3), .int (bn r7), v7], [], s9))) ∧ (¬ (bCmp (bj s9 154 0) (bL r7)) = 0 → Q (.inl (some (.int (bn 0)))) s9))) ∧ (¬ r3 = 0 → (bRg (l4 + 6) ∧ A (13, [.ref 200, .ref 11, .ref 12, .ref 154, .int (bn (l4 + 6)), .int (bn r3), .int (bn r7), v7], [], s9))))) ∧ (¬ r11 = r3 → Q (.inl (some (.int (bn 0)))) s9)))))))))))))))))) : A (1252, [.ref 200, .ref 11, .ref 12, .ref 154, .int (bn l4), v5, v6, v7], [], σ) := by
  refine bGo hA 78 4 (2086, .aload_n 1, 1, 1253, 0, [1], []) rfl rfl rfl ?_
  refine bGo hA 78 5 (2087, .aload_n 0, 1, 1254, 0, [0], []) rfl rfl rfl ?_
  refine bGo hA 78 6 (2088, .iload 4, 2, 1255, 0, [4], []) rfl rfl rfl ?_
  refine bGo hA 78 7 (2090, .iconst (1), 1, 1256, 0, [], [(1, 0)]) rfl rfl rfl ?_
  refine bEqI bl_1 ?_
  refine bGo hA 78 8 (2091, .iadd, 1, 1257, 0, [], []) rfl rfl rfl ?_
  refine bEqI (bn_add l4 1) ?_
  refine bGo hA 78 9 (2092, .iaload, 1, 1258, 0, [], []) rfl rfl rfl ?_
  refine ⟨rfl, (bIxP (x := (l4 + 1)) (n := bLen σ 200) h.1 h.2.1), ?_⟩
  refine bEqL (x := (l4 + 1)) h.1 ?_
  refine bGo hA 78 10 (2093, .aload_n 0, 1, 1259, 0, [0], []) rfl rfl rfl ?_
  refine bGo hA 78 11 (2094, .iload 4, 2, 1260, 0, [4], []) rfl rfl rfl ?_
  refine bGo hA 78 12 (2096, .iconst (2), 1, 1261, 0, [], [(2, 0)]) rfl rfl rfl ?_
  refine bEqI bl_2 ?_
  refine bGo hA 78 13 (2097, .iadd, 1, 1262, 0, [], []) rfl rfl rfl ?_
  refine bEqI (bn_add l4 2) ?_
  refine bGo hA 78 14 (2098, .iaload, 1, 1263, 0, [], []) rfl rfl rfl ?_
  refine ⟨rfl, (bIxP (x := (l4 + 2)) (n := bLen σ 200) h.2.2.1 h.2.2.2.1), ?_⟩
  refine bEqL (x := (l4 + 2)) h.2.2.1 ?_
  refine bGo hA 78 15 (2099, .aload_n 3, 1, 1264, 0, [3], []) rfl rfl rfl ?_
  refine bGo hA 79 0 (2100, .invokestatic 252, 3, 1265, 0, [2, 339, 4], []) rfl rfl rfl ?_
  refine hC _ _ _ _ _ (bRn_e (fun r3 s1 q4 k2 => ?_)) h.2.2.2.2
  show A (1265, [.ref 200, .ref 11, .ref 12, .ref 154, .int (bn l4), v5, v6, v7], [.int (bn r3)], s1)
  refine bGo hA 79 1 (2103, .istore 5, 2, 1266, 0, [5], []) rfl rfl rfl ?_
  refine bGo hA 79 2 (2105, .aload_n 2, 1, 1267, 0, [2], []) rfl rfl rfl ?_
  refine bGo hA 79 3 (2106, .aload_n 0, 1, 1268, 0, [0], []) rfl rfl rfl ?_
  refine bGo hA 79 4 (2107, .iload 4, 2, 1269, 0, [4], []) rfl rfl rfl ?_
  refine bGo hA 79 5 (2109, .iconst (1), 1, 1270, 0, [], [(1, 0)]) rfl rfl rfl ?_
  refine bEqI bl_1 ?_
  refine bGo hA 79 6 (2110, .iadd, 1, 1271, 0, [], []) rfl rfl rfl ?_
  refine bEqI (bn_add l4 1) ?_
  refine bGo hA 79 7 (2111, .iaload, 1, 1272, 0, [], []) rfl rfl rfl ?_
  refine ⟨rfl, (bIxP (x := (l4 + 1)) (n := bLen s1 200) h.1 k2.1), ?_⟩
  refine bEqL (x := (l4 + 1)) h.1 ?_
  refine bGo hA 79 8 (2112, .aload_n 0, 1, 1273, 0, [0], []) rfl rfl rfl ?_
  refine bGo hA 79 9 (2113, .iload 4, 2, 1274, 0, [4], []) rfl rfl rfl ?_
  refine bGo hA 79 10 (2115, .iconst (2), 1, 1275, 0, [], [(2, 0)]) rfl rfl rfl ?_
  refine bEqI bl_2 ?_
  refine bGo hA 79 11 (2116, .iadd, 1, 1276, 0, [], []) rfl rfl rfl ?_
  refine bEqI (bn_add l4 2) ?_
  refine bGo hA 79 12 (2117, .iaload, 1, 1277, 0, [], []) rfl rfl rfl ?_
  refine ⟨rfl, (bIxP (x := (l4 + 2)) (n := bLen s1 200) h.2.2.1 k2.2.1), ?_⟩
  refine bEqL (x := (l4 + 2)) h.2.2.1 ?_
  refine bGo hA 79 13 (2118, .invokevirtual 254, 3, 1278, 0, [0, 12, 278, 2], []) rfl rfl rfl ?_
  refine ⟨rfl, ?_⟩
  refine hC _ _ _ _ _ (bRn_e (fun r7 s5 q8 k6 => ?_)) k2.2.2
  show A (1278, [.ref 200, .ref 11, .ref 12, .ref 154, .int (bn l4), .int (bn r3), v6, v7], [.int (bn r7)], s5)
  refine bGo hA 79 14 (2121, .istore 6, 2, 1279, 0, [6], []) rfl rfl rfl ?_
  refine bGo hA 79 15 (2123, .aload_n 2, 1, 1280, 0, [2], []) rfl rfl rfl ?_
  refine bGo hA 80 0 (2124, .invokevirtual 168, 3, 1281, 0, [0, 12, 196, 0], []) rfl rfl rfl ?_
  refine ⟨rfl, ?_⟩
  refine hC _ _ _ _ _ (bRn_e (fun r11 s9 q12 k10 => ?_)) k6
  show A (1281, [.ref 200, .ref 11, .ref 12, .ref 154, .int (bn l4), .int (bn r3), .int (bn r7), v7], [.int (bn r11)], s9)
  refine bGo hA 80 1 (2127, .iload 5, 2, 1282, 0, [5], []) rfl rfl rfl ?_
  refine bGo hA 80 2 (2129, .if_icmp .eq (5), 3, 1283, 1285, [], []) rfl rfl rfl ?_
  refine bB_eq (x := r11) (y := r3) q12 q4 (fun c13 => ?_) (fun c13 => ?_)
  · refine bGo hA 80 5 (2134, .iload 5, 2, 1286, 0, [5], []) rfl rfl rfl ?_
    refine bGo hA 80 6 (2136, .ifCond .ne (15), 3, 1287, 1296, [], []) rfl rfl rfl ?_
    refine bB_eq0 (x := r3) q4 (fun c14 => ?_) (fun c14 => ?_)
    · refine bGo hA 80 7 (2139, .aload_n 3, 1, 1288, 0, [3], []) rfl rfl rfl ?_
      refine bGo hA 80 8 (2140, .iconst (0), 1, 1289, 0, [], [(0, 0)]) rfl rfl rfl ?_
      refine bEqI bl_0 ?_
      refine bGo hA 80 9 (2141, .laload, 1, 1290, 0, [], []) rfl rfl rfl ?_
      refine ⟨rfl, (bIxP (x := 0) (n := 1) (by decide) (by decide)), ?_⟩
      refine bEqJ (x := 0) (by decide : bRg 0) ?_
      refine bGo hA 80 10 (2142, .iload 6, 2, 1291, 0, [6], []) rfl rfl rfl ?_
      refine bGo hA 80 11 (2144, .i2l, 1, 1292, 0, [], []) rfl rfl rfl ?_
      refine bGo hA 80 12 (2145, .lcmp, 1, 1293, 0, [], []) rfl rfl rfl ?_
      refine bEqI (bn_cmp (bj s9 154 0) (bL r7)) ?_
      refine bGo hA 80 13 (2146, .ifCond .eq (5), 3, 1294, 1296, [], []) rfl rfl rfl ?_
      refine bB_eq0 (x := (bCmp (bj s9 154 0) (bL r7))) (bRgI _) (fun c15 => ?_) (fun c15 => ?_)
      · refine bGo hA 81 0 (2151, .goto (1263), 3, 1297, 2097, [], []) rfl rfl rfl ?_
        refine bGo hA 131 1 (3414, .iinc 4 (6), 3, 2098, 0, [4], [(6, 0)]) rfl rfl rfl ?_
        refine bEqC (fun v => A (2098, [.ref 200, .ref 11, .ref 12, .ref 154, .int v, .int (bn r3), .int (bn r7), v7], [], s9)) ((congrArg (fun w => bn l4 + w) bl_6).trans (bn_add l4 6)) ?_
        refine bGo hA 131 2 (3417, .goto (-3394), 3, 2099, 13, [], []) rfl rfl rfl ?_
        exact (((k10.1 c13).1 c14).1 c15).2
      · refine bGo hA 80 14 (2149, .iconst (0), 1, 1295, 0, [], [(0, 0)]) rfl rfl rfl ?_
        refine bEqI bl_0 ?_
        refine bGo hA 80 15 (2150, .ireturn, 1, 1296, 0, [2], []) rfl rfl rfl ?_
        exact ⟨b01 (Or.inl rfl), (((k10.1 c13).1 c14).2 c15)⟩
    · refine bGo hA 81 0 (2151, .goto (1263), 3, 1297, 2097, [], []) rfl rfl rfl ?_
      refine bGo hA 131 1 (3414, .iinc 4 (6), 3, 2098, 0, [4], [(6, 0)]) rfl rfl rfl ?_
      refine bEqC (fun v => A (2098, [.ref 200, .ref 11, .ref 12, .ref 154, .int v, .int (bn r3), .int (bn r7), v7], [], s9)) ((congrArg (fun w => bn l4 + w) bl_6).trans (bn_add l4 6)) ?_
      refine bGo hA 131 2 (3417, .goto (-3394), 3, 2099, 13, [], []) rfl rfl rfl ?_
      exact ((k10.1 c13).2 c14).2
  · refine bGo hA 80 3 (2132, .iconst (0), 1, 1284, 0, [], [(0, 0)]) rfl rfl rfl ?_
    refine bEqI bl_0 ?_
    refine bGo hA 80 4 (2133, .ireturn, 1, 1285, 0, [2], []) rfl rfl rfl ?_
    exact ⟨b01 (Or.inl rfl), (k10.2 c13)⟩

theorem sq357_1297 {lvl : Nat} {C : bCall} {Q : bPost} {A : bPt → Prop} (hC : bMono C) (hA : bClosed lvl bm357 C Q A) {l4 : Int} {v5 : Value} {v6 : Value} {v7 : Value} {σ : bSt}  (h_l4 : bRg l4)
  (h : (bRg (l4 + 1) ∧ ((0 ≤ (l4 + 1) ∧ (l4 + 1) < (bLen σ 200 : Int)) ∧ (((bi σ 200 (l4 + 1)) = 0 → (C 169 [.ref 11, .int (bn 0)] σ (bRn (fun r4 s2 => ((0 ≤ (l4 + 1) ∧ (l4 + 1) < (bLen s2 200 : Int)) ∧ (((bi s2 200 (l4 + 1)) = 0 → (C 273 [.ref 12, .int (bn 0)] s2 (bRn (fun r9 s7 => ((r4 = r9 → (bRg (l4 + 6) ∧ A (13, [.ref 200, .ref 11, .ref 12, .ref 154, .int (bn (l4 + 6)), v5, v6, v7], [], s7))) ∧ (¬ r4 = r9 → Q (.inl (some (.int (bn 0)))) s7)))))) ∧ (¬ (bi s2 200 (l4 + 1)) = 0 → (C 273 [.ref 12, .int (bn 1)] s2 (bRn (fun r14 s12 => ((r4 = r14 → (bRg (l4 + 6) ∧ A (13, [.ref 200, .ref 11, .ref 12, .ref 154, .int (bn (l4 + 6)), v5, v6, v7], [], s12))) ∧ (¬ r4 = r14 → Q (.inl (some (.int (bn 0)))) s12)))))))))))) ∧ (¬ (bi σ 200 (l4 + 1)) = 0 → (C 169 [.ref 11, .int (bn 1)] σ (bRn (fun r19 s17 => ((0 ≤ (l4 + 1) ∧ (l4 + 1) < (bLen s17 200 : Int)) ∧ (((bi s17 200 (l4 + 1)) = 0 → (C 273 [.ref 12, .int (bn 0)] s17 (bRn (fun r24 s22 => ((r19 = r24 → (bRg (l4 + 6) ∧ A (13, [.ref 200, .ref 11, .ref 12, .ref 154, .int (bn (l4 + 6)), v5, v6, v7], [], s22))) ∧ (¬ r19 = r24 → Q (.inl (some (.int (bn 0)))) s22)))))) ∧ (¬ (bi s17 200 (l4 + 1)) = 0 → (C 273 [.ref 12, .int (bn 1)] s17 (bRn (fun r29 s27 => ((r19 = r29 → (bRg (l4 + 6) ∧ A (13, [.ref 200, .ref 11, .ref 12, .ref 154, .int (bn (l4 + 6)), v5, v6, v7], [], s27))) ∧ (¬ r19 = r29 → Q (.inl (some (.int (bn 0)))) s27)))))))))))))))) : A (1297, [.ref 200, .ref 11, .ref 12, .ref 154, .int (bn l4), v5, v6, v7], [], σ) := by
  refine bGo hA 81 1 (2154, .aload_n 1, 1, 1298, 0, [1], []) rfl rfl rfl ?_
  refine bGo hA 81 2 (2155, .aload_n 0, 1, 1299, 0, [0], []) rfl rfl rfl ?_
  refine bGo hA 81 3 (2156, .iload 4, 2, 1300, 0, [4], []) rfl rfl rfl ?_
  refine bGo hA 81 4 (2158, .iconst (1), 1, 1301, 0, [], [(1, 0)]) rfl rfl rfl ?_
  refine bEqI bl_1 ?_
  refine bGo hA 81 5 (2159, .iadd, 1, 1302, 0, [], []) rfl rfl rfl ?_
  refine bEqI (bn_add l4 1) ?_
  refine bGo hA 81 6 (2160, .iaload, 1, 1303, 0, [], []) rfl rfl rfl ?_
  refine ⟨rfl, (bIxP (x := (l4 + 1)) (n := bLen σ 200) h.1 h.2.1), ?_⟩
  refine bEqL (x := (l4 + 1)) h.1 ?_
  refine bGo hA 81 7 (2161, .ifCond .eq (7), 3, 1304, 1306, [], []) rfl rfl rfl ?_
  refine bB_eq0 (x := (bi σ 200 (l4 + 1))) (bi_rg _ _ _) (fun c1 => ?_) (fun c1 => ?_)
  · refine bGo hA 81 10 (2168, .iconst (0), 1, 1307, 0, [], [(0, 0)]) rfl rfl rfl ?_
    refine bEqI bl_0 ?_
    refine bGo hA 81 11 (2169, .invokevirtual 255, 3, 1308, 0, [0, 11, 169, 1], []) rfl rfl rfl ?_
    refine ⟨rfl, ?_⟩
    refine hC _ _ _ _ _ (bRn_e (fun r4 s2 q5 k3 => ?_)) (h.2.2.1 c1)
    show A (1308, [.ref 200, .ref 11, .ref 12, .ref 154, .int (bn l4), v5, v6, v7], [.int (bn r4)], s2)
    refine bGo hA 81 12 (2172, .aload_n 2, 1, 1309, 0, [2], []) rfl rfl rfl ?_
    refine bGo hA 81 13 (2173, .aload_n 0, 1, 1310, 0, [0], []) rfl rfl rfl ?_
    refine bGo hA 81 14 (2174, .iload 4, 2, 1311, 0, [4], []) rfl rfl rfl ?_
    refine bGo hA 81 15 (2176, .iconst (1), 1, 1312, 0, [], [(1, 0)]) rfl rfl rfl ?_
    refine bEqI bl_1 ?_
    refine bGo hA 82 0 (2177, .iadd, 1, 1313, 0, [], []) rfl rfl rfl ?_
    refine bEqI (bn_add l4 1) ?_
    refine bGo hA 82 1 (2178, .iaload, 1, 1314, 0, [], []) rfl rfl rfl ?_
    refine ⟨rfl, (bIxP (x := (l4 + 1)) (n := bLen s2 200) h.1 k3.1), ?_⟩
    refine bEqL (x := (l4 + 1)) h.1 ?_
    refine bGo hA 82 2 (2179, .ifCond .eq (7), 3, 1315, 1317, [], []) rfl rfl rfl ?_
    refine bB_eq0 (x := (bi s2 200 (l4 + 1))) (bi_rg _ _ _) (fun c6 => ?_) (fun c6 => ?_)
    · refine bGo hA 82 5 (2186, .iconst (0), 1, 1318, 0, [], [(0, 0)]) rfl rfl rfl ?_
      refine bEqI bl_0 ?_
      refine bGo hA 82 6 (2187, .invokevirtual 259, 3, 1319, 0, [0, 12, 273, 1], []) rfl rfl rfl ?_
      refine ⟨rfl, ?_⟩
      refine hC _ _ _ _ _ (bRn_e (fun r9 s7 q10 k8 => ?_)) (k3.2.1 c6)
      show A (1319, [.ref 200, .ref 11, .ref 12, .ref 154, .int (bn l4), v5, v6, v7], [.int (bn r9), .int (bn r4)], s7)
      refine bGo hA 82 7 (2190, .if_icmp .eq (1224), 3, 1320, 2097, [], []) rfl rfl rfl ?_
      refine bB_eq (x := r4) (y := r9) q5 q10 (fun c11 => ?_) (fun c11 => ?_)
      · refine bGo hA 131 1 (3414, .iinc 4 (6), 3, 2098, 0, [4], [(6, 0)]) rfl rfl rfl ?_
        refine bEqC (fun v => A (2098, [.ref 200, .ref 11, .ref 12, .ref 154, .int v, v5, v6, v7], [], s7)) ((congrArg (fun w => bn l4 + w) bl_6).trans (bn_add l4 6)) ?_
        refine bGo hA 131 2 (3417, .goto (-3394), 3, 2099, 13, [], []) rfl rfl rfl ?_
        exact (k8.1 c11).2
      · refine bGo hA 82 8 (2193, .iconst (0), 1, 1321, 0, [], [(0, 0)]) rfl rfl rfl ?_
        refine bEqI bl_0 ?_
        refine bGo hA 82 9 (2194, .ireturn, 1, 1322, 0, [2], []) rfl rfl rfl ?_
        exact ⟨b01 (Or.inl rfl), (k8.2 c11)⟩
    · refine bGo hA 82 3 (2182, .iconst (1), 1, 1316, 0, [], [(1, 0)]) rfl rfl rfl ?_
      refine bEqI bl_1 ?_
      refine bGo hA 82 4 (2183, .goto (4), 3, 1317, 1318, [], []) rfl rfl rfl ?_
      refine bGo hA 82 6 (2187, .invokevirtual 259, 3, 1319, 0, [0, 12, 273, 1], []) rfl rfl rfl ?_
      refine ⟨rfl, ?_⟩
      refine hC _ _ _ _ _ (bRn_e (fun r14 s12 q15 k13 => ?_)) (k3.2.2 c6)
      show A (1319, [.ref 200, .ref 11, .ref 12, .ref 154, .int (bn l4), v5, v6, v7], [.int (bn r14), .int (bn r4)], s12)
      refine bGo hA 82 7 (2190, .if_icmp .eq (1224), 3, 1320, 2097, [], []) rfl rfl rfl ?_
      refine bB_eq (x := r4) (y := r14) q5 q15 (fun c16 => ?_) (fun c16 => ?_)
      · refine bGo hA 131 1 (3414, .iinc 4 (6), 3, 2098, 0, [4], [(6, 0)]) rfl rfl rfl ?_
        refine bEqC (fun v => A (2098, [.ref 200, .ref 11, .ref 12, .ref 154, .int v, v5, v6, v7], [], s12)) ((congrArg (fun w => bn l4 + w) bl_6).trans (bn_add l4 6)) ?_
        refine bGo hA 131 2 (3417, .goto (-3394), 3, 2099, 13, [], []) rfl rfl rfl ?_
        exact (k13.1 c16).2
      · refine bGo hA 82 8 (2193, .iconst (0), 1, 1321, 0, [], [(0, 0)]) rfl rfl rfl ?_
        refine bEqI bl_0 ?_
        refine bGo hA 82 9 (2194, .ireturn, 1, 1322, 0, [2], []) rfl rfl rfl ?_
        exact ⟨b01 (Or.inl rfl), (k13.2 c16)⟩
  · refine bGo hA 81 8 (2164, .iconst (1), 1, 1305, 0, [], [(1, 0)]) rfl rfl rfl ?_
    refine bEqI bl_1 ?_
    refine bGo hA 81 9 (2165, .goto (4), 3, 1306, 1307, [], []) rfl rfl rfl ?_
    refine bGo hA 81 11 (2169, .invokevirtual 255, 3, 1308, 0, [0, 11, 169, 1], []) rfl rfl rfl ?_
    refine ⟨rfl, ?_⟩
    refine hC _ _ _ _ _ (bRn_e (fun r19 s17 q20 k18 => ?_)) (h.2.2.2 c1)
    show A (1308, [.ref 200, .ref 11, .ref 12, .ref 154, .int (bn l4), v5, v6, v7], [.int (bn r19)], s17)
    refine bGo hA 81 12 (2172, .aload_n 2, 1, 1309, 0, [2], []) rfl rfl rfl ?_
    refine bGo hA 81 13 (2173, .aload_n 0, 1, 1310, 0, [0], []) rfl rfl rfl ?_
    refine bGo hA 81 14 (2174, .iload 4, 2, 1311, 0, [4], []) rfl rfl rfl ?_
    refine bGo hA 81 15 (2176, .iconst (1), 1, 1312, 0, [], [(1, 0)]) rfl rfl rfl ?_
    refine bEqI bl_1 ?_
    refine bGo hA 82 0 (2177, .iadd, 1, 1313, 0, [], []) rfl rfl rfl ?_
    refine bEqI (bn_add l4 1) ?_
    refine bGo hA 82 1 (2178, .iaload, 1, 1314, 0, [], []) rfl rfl rfl ?_
    refine ⟨rfl, (bIxP (x := (l4 + 1)) (n := bLen s17 200) h.1 k18.1), ?_⟩
    refine bEqL (x := (l4 + 1)) h.1 ?_
    refine bGo hA 82 2 (2179, .ifCond .eq (7), 3, 1315, 1317, [], []) rfl rfl rfl ?_
    refine bB_eq0 (x := (bi s17 200 (l4 + 1))) (bi_rg _ _ _) (fun c21 => ?_) (fun c21 => ?_)
    · refine bGo hA 82 5 (2186, .iconst (0), 1, 1318, 0, [], [(0, 0)]) rfl rfl rfl ?_
      refine bEqI bl_0 ?_
      refine bGo hA 82 6 (2187, .invokevirtual 259, 3, 1319, 0, [0, 12, 273, 1], []) rfl rfl rfl ?_
      refine ⟨rfl, ?_⟩
      refine hC _ _ _ _ _ (bRn_e (fun r24 s22 q25 k23 => ?_)) (k18.2.1 c21)
      show A (1319, [.ref 200, .ref 11, .ref 12, .ref 154, .int (bn l4), v5, v6, v7], [.int (bn r24), .int (bn r19)], s22)
      refine bGo hA 82 7 (2190, .if_icmp .eq (1224), 3, 1320, 2097, [], []) rfl rfl rfl ?_
      refine bB_eq (x := r19) (y := r24) q20 q25 (fun c26 => ?_) (fun c26 => ?_)
      · refine bGo hA 131 1 (3414, .iinc 4 (6), 3, 2098, 0, [4], [(6, 0)]) rfl rfl rfl ?_
        refine bEqC (fun v => A (2098, [.ref 200, .ref 11, .ref 12, .ref 154, .int v, v5, v6, v7], [], s22)) ((congrArg (fun w => bn l4 + w) bl_6).trans (bn_add l4 6)) ?_
        refine bGo hA 131 2 (3417, .goto (-3394), 3, 2099, 13, [], []) rfl rfl rfl ?_
        exact (k23.1 c26).2
      · refine bGo hA 82 8 (2193, .iconst (0), 1, 1321, 0, [], [(0, 0)]) rfl rfl rfl ?_
        refine bEqI bl_0 ?_
        refine bGo hA 82 9 (2194, .ireturn, 1, 1322, 0, [2], []) rfl rfl rfl ?_
        exact ⟨b01 (Or.inl rfl), (k23.2 c26)⟩
    · refine bGo hA 82 3 (2182, .iconst (1), 1, 1316, 0, [], [(1, 0)]) rfl rfl rfl ?_
      refine bEqI bl_1 ?_
      refine bGo hA 82 4 (2183, .goto (4), 3, 1317, 1318, [], []) rfl rfl rfl ?_
      refine bGo hA 82 6 (2187, .invokevirtual 259, 3, 1319, 0, [0, 12, 273, 1], []) rfl rfl rfl ?_
      refine ⟨rfl, ?_⟩
      refine hC _ _ _ _ _ (bRn_e (fun r29 s27 q30 k28 => ?_)) (k18.2.2 c21)
      show A (1319, [.ref 200, .ref 11, .ref 12, .ref 154, .int (bn l4), v5, v6, v7], [.int (bn r29), .int (bn r19)], s27)
      refine bGo hA 82 7 (2190, .if_icmp .eq (1224), 3, 1320, 2097, [], []) rfl rfl rfl ?_
      refine bB_eq (x := r19) (y := r29) q20 q30 (fun c31 => ?_) (fun c31 => ?_)
      · refine bGo hA 131 1 (3414, .iinc 4 (6), 3, 2098, 0, [4], [(6, 0)]) rfl rfl rfl ?_
        refine bEqC (fun v => A (2098, [.ref 200, .ref 11, .ref 12, .ref 154, .int v, v5, v6, v7], [], s27)) ((congrArg (fun w => bn l4 + w) bl_6).trans (bn_add l4 6)) ?_
        refine bGo hA 131 2 (3417, .goto (-3394), 3, 2099, 13, [], []) rfl rfl rfl ?_
        exact (k28.1 c31).2
      · refine bGo hA 82 8 (2193, .iconst (0), 1, 1321, 0, [], [(0, 0)]) rfl rfl rfl ?_
        refine bEqI bl_0 ?_
        refine bGo hA 82 9 (2194, .ireturn, 1, 1322, 0, [2], []) rfl rfl rfl ?_
        exact ⟨b01 (Or.inl rfl), (k28.2 c31)⟩

theorem sq357_1322 {lvl : Nat} {C : bCall} {Q : bPost} {A : bPt → Prop} (hC : bMono C) (hA : bClosed lvl bm357 C Q A) {l4 : Int} {v5 : Value} {v6 : Value} {v7 : Value} {σ : bSt}  (h_l4 : bRg l4)
  (h : (bRg (l4 + 1) ∧ ((0 ≤ (l4 + 1) ∧ (l4 + 1) < (bLen σ 200 : Int)) ∧ (((bi σ 200 (l4 + 1)) = 0 → A (1332, [.ref 200, .ref 11, .ref 12, .ref 154, .int (bn l4), v5, v6, v7], [.int (bn 0), .ref 11], σ)) ∧ (¬ (bi σ 200 (l4 + 1)) = 0 → A (1332, [.ref 200, .ref 11, .ref 12, .ref 154, .int (bn l4), v5, v6, v7], [.int (bn 1), .ref 11], σ)))))) : A (1322, [.ref 200, .ref 11, .ref 12, .ref 154, .int (bn l4), v5, v6, v7], [], σ) := by
  refine bGo hA 82 10 (2195, .aload_n 1, 1, 1323, 0, [1], []) rfl rfl rfl ?_
  refine bGo hA 82 11 (2196, .aload_n 0, 1, 1324, 0, [0], []) rfl rfl rfl ?_
  refine bGo hA 82 12 (2197, .iload 4, 2, 1325, 0, [4], []) rfl rfl rfl ?_
  refine bGo hA 82 13 (2199, .iconst (1), 1, 1326, 0, [], [(1, 0)]) rfl rfl rfl ?_
  refine bEqI bl_1 ?_
  refine bGo hA 82 14 (2200, .iadd, 1, 1327, 0, [], []) rfl rfl rfl ?_
  refine bEqI (bn_add l4 1) ?_
  refine bGo hA 82 15 (2201, .iaload, 1, 1328, 0, [], []) rfl rfl rfl ?_
  refine ⟨rfl, (bIxP (x := (l4 + 1)) (n := bLen σ 200) h.1 h.2.1), ?_⟩
  refine bEqL (x := (l4 + 1)) h.1 ?_
  refine bGo hA 83 0 (2202, .ifCond .eq (7), 3, 1329, 1331, [], []) rfl rfl rfl ?_
  refine bB_eq0 (x := (bi σ 200 (l4 + 1))) (bi_rg _ _ _) (fun c1 => ?_) (fun c1 => ?_)
  · refine bGo hA 83 3 (2209, .iconst (0), 1, 1332, 0, [], [(0, 0)]) rfl rfl rfl ?_
    refine bEqI bl_0 ?_
    exact (h.2.2.1 c1)
  · refine bGo hA 83 1 (2205, .iconst (1), 1, 1330, 0, [], [(1, 0)]) rfl rfl rfl ?_
    refine bEqI bl_1 ?_
    refine bGo hA 83 2 (2206, .goto (4), 3, 1331, 1332, [], []) rfl rfl rfl ?_
    exact (h.2.2.2 c1)

theorem sq357_1378 {lvl : Nat} {C : bCall} {Q : bPost} {A : bPt → Prop} (hC : bMono C) (hA : bClosed lvl bm357 C Q A) {l4 : Int} {v5 : Value} {v6 : Value} {v7 : Value} {σ : bSt}  (h_l4 : bRg l4)
  (h : (bRg (l4 + 1) ∧ ((0 ≤ (l4 + 1) ∧ (l4 + 1) < (bLen σ 200 : Int)) ∧ (C 341 [.ref 11, .int (bn (bi σ 200 (l4 + 1))), .ref 154] σ (bRn (fun r3 s1 => ((0 ≤ (l4 + 1) ∧ (l4 + 1) < (bLen s1 200 : Int)) ∧ (C 275 [.ref 12, .int (bn (bi s1 200 (l4 + 1)))] s1 (bRn (fun r7 s5 => (C 196 [.ref 12] s5 (bRn (fun r11 s9 => ((r11 = r3 → ((r3 = 0 → ((r7 = 0 → (((bCmp (bj s9 154 0) (Int64.ofNat 0)) = 0 → (bRg (l4 + 6) ∧ A (13, [.ref 200, .ref 11, .ref 12, .ref 154, .int (bn (l4 + 6)), .int (bn r3), .int (bn r7), v7], [], s9))) ∧ (¬ (bCmp (bj s9 154 0) (Int64.ofNat 0)) = 0 → Q (.inl (some (.int (bn 0)))) s9))) ∧ (¬ r7 = 0 → (((bCmp (bj s9 154 0) (Int64.ofNat 1)) = 0 → (bRg (l4 + 6) ∧ A (13, [.ref 200, .ref 11, .ref 12, .ref 154, .int (bn (l4 + 6)), .int (bn r3), .int (bn r7), v7], [], s9))) ∧ (¬ (bCmp (bj s9 154 0) (Int64.ofNat 1)) = 0 → Q (.inl (some (.int (bn 0)))) s9))))) ∧ (¬ r3 = 0 → (bRg (l4 + 6) ∧ A (13, [.ref 200, .ref 11, .ref 12, .ref 154, .int (bn (l4 + 6)), .int (bn r3), .int (bn r7), v7], [], s9))))) ∧ (¬ r11 = r3 → Q (.inl (some (.int (bn 0)))) s9))))))))))))))) : A (1378, [.ref 200, .ref 11, .ref 12, .ref 154, .int (bn l4), v5, v6, v7], [], σ) := by
  refine bGo hA 86 2 (2286, .aload_n 1, 1, 1379, 0, [1], []) rfl rfl rfl ?_
  refine bGo hA 86 3 (2287, .aload_n 0, 1, 1380, 0, [0], []) rfl rfl rfl ?_
  refine bGo hA 86 4 (2288, .iload 4, 2, 1381, 0, [4], []) rfl rfl rfl ?_
  refine bGo hA 86 5 (2290, .iconst (1), 1, 1382, 0, [], [(1, 0)]) rfl rfl rfl ?_
  refine bEqI bl_1 ?_
  refine bGo hA 86 6 (2291, .iadd, 1, 1383, 0, [], []) rfl rfl rfl ?_
  refine bEqI (bn_add l4 1) ?_
  refine bGo hA 86 7 (2292, .iaload, 1, 1384, 0, [], []) rfl rfl rfl ?_
  refine ⟨rfl, (bIxP (x := (l4 + 1)) (n := bLen σ 200) h.1 h.2.1), ?_⟩
  refine bEqL (x := (l4 + 1)) h.1 ?_
  refine bGo hA 86 8 (2293, .aload_n 3, 1, 1385, 0, [3], []) rfl rfl rfl ?_
  refine bGo hA 86 9 (2294, .invokestatic 264, 3, 1386, 0, [2, 341, 3], []) rfl rfl rfl ?_
  refine hC _ _ _ _ _ (bRn_e (fun r3 s1 q4 k2 => ?_)) h.2.2
  show A (1386, [.ref 200, .ref 11, .ref 12, .ref 154, .int (bn l4), v5, v6, v7], [.int (bn r3)], s1)
  refine bGo hA 86 10 (2297, .istore 5, 2, 1387, 0, [5], []) rfl rfl rfl ?_
  refine bGo hA 86 11 (2299, .aload_n 2, 1, 1388, 0, [2], []) rfl rfl rfl ?_
  refine bGo hA 86 12 (2300, .aload_n 0, 1, 1389, 0, [0], []) rfl rfl rfl ?_
  refine bGo hA 86 13 (2301, .iload 4, 2, 1390, 0, [4], []) rfl rfl rfl ?_
  refine bGo hA 86 14 (2303, .iconst (1), 1, 1391, 0, [], [(1, 0)]) rfl rfl rfl ?_
  refine bEqI bl_1 ?_
  refine bGo hA 86 15 (2304, .iadd, 1, 1392, 0, [], []) rfl rfl rfl ?_
  refine bEqI (bn_add l4 1) ?_
  refine bGo hA 87 0 (2305, .iaload, 1, 1393, 0, [], []) rfl rfl rfl ?_
  refine ⟨rfl, (bIxP (x := (l4 + 1)) (n := bLen s1 200) h.1 k2.1), ?_⟩
  refine bEqL (x := (l4 + 1)) h.1 ?_
  refine bGo hA 87 1 (2306, .invokevirtual 266, 3, 1394, 0, [0, 12, 275, 1], []) rfl rfl rfl ?_
  refine ⟨rfl, ?_⟩
  refine hC _ _ _ _ _ (bRn_e (fun r7 s5 q8 k6 => ?_)) k2.2
  show A (1394, [.ref 200, .ref 11, .ref 12, .ref 154, .int (bn l4), .int (bn r3), v6, v7], [.int (bn r7)], s5)
  refine bGo hA 87 2 (2309, .istore 6, 2, 1395, 0, [6], []) rfl rfl rfl ?_
  refine bGo hA 87 3 (2311, .aload_n 2, 1, 1396, 0, [2], []) rfl rfl rfl ?_
  refine bGo hA 87 4 (2312, .invokevirtual 168, 3, 1397, 0, [0, 12, 196, 0], []) rfl rfl rfl ?_
  refine ⟨rfl, ?_⟩
  refine hC _ _ _ _ _ (bRn_e (fun r11 s9 q12 k10 => ?_)) k6
  show A (1397, [.ref 200, .ref 11, .ref 12, .ref 154, .int (bn l4), .int (bn r3), .int (bn r7), v7], [.int (bn r11)], s9)
  refine bGo hA 87 5 (2315, .iload 5, 2, 1398, 0, [5], []) rfl rfl rfl ?_
  refine bGo hA 87 6 (2317, .if_icmp .eq (5), 3, 1399, 1401, [], []) rfl rfl rfl ?_
  refine bB_eq (x := r11) (y := r3) q12 q4 (fun c13 => ?_) (fun c13 => ?_)
  · refine bGo hA 87 9 (2322, .iload 5, 2, 1402, 0, [5], []) rfl rfl rfl ?_
    refine bGo hA 87 10 (2324, .ifCond .ne (22), 3, 1403, 1415, [], []) rfl rfl rfl ?_
    refine bB_eq0 (x := r3) q4 (fun c14 => ?_) (fun c14 => ?_)
    · refine bGo hA 87 11 (2327, .aload_n 3, 1, 1404, 0, [3], []) rfl rfl rfl ?_
      refine bGo hA 87 12 (2328, .iconst (0), 1, 1405, 0, [], [(0, 0)]) rfl rfl rfl ?_
      refine bEqI bl_0 ?_
      refine bGo hA 87 13 (2329, .laload, 1, 1406, 0, [], []) rfl rfl rfl ?_
      refine ⟨rfl, (bIxP (x := 0) (n := 1) (by decide) (by decide)), ?_⟩
      refine bEqJ (x := 0) (by decide : bRg 0) ?_
      refine bGo hA 87 14 (2330, .iload 6, 2, 1407, 0, [6], []) rfl rfl rfl ?_
      refine bGo hA 87 15 (2332, .ifCond .eq (7), 3, 1408, 1410, [], []) rfl rfl rfl ?_
      refine bB_eq0 (x := r7) q8 (fun c15 => ?_) (fun c15 => ?_)
      · refine bGo hA 88 2 (2339, .lconst 0, 1, 1411, 0, [0], []) rfl rfl rfl ?_
        refine bGo hA 88 3 (2340, .lcmp, 1, 1412, 0, [], []) rfl rfl rfl ?_
        refine bEqI (bn_cmp (bj s9 154 0) (Int64.ofNat 0)) ?_
        refine bGo hA 88 4 (2341, .ifCond .eq (5), 3, 1413, 1415, [], []) rfl rfl rfl ?_
        refine bB_eq0 (x := (bCmp (bj s9 154 0) (Int64.ofNat 0))) (bRgI _) (fun c16 => ?_) (fun c16 => ?_)
        · refine bGo hA 88 7 (2346, .goto (1068), 3, 1416, 2097, [], []) rfl rfl rfl ?_
          refine bGo hA 131 1 (3414, .iinc 4 (6), 3, 2098, 0, [4], [(6, 0)]) rfl rfl rfl ?_
          refine bEqC (fun v => A (2098, [.ref 200, .ref 11, .ref 12, .ref 154, .int v, .int (bn r3), .int (bn r7), v7], [], s9)) ((congrArg (fun w => bn l4 + w) bl_6).trans (bn_add l4 6)) ?_
          refine bGo hA 131 2 (3417, .goto (-3394), 3, 2099, 13, [], []) rfl rfl rfl ?_
          exact ((((k10.1 c13).1 c14).1 c15).1 c16).2
        · refine bGo hA 88 5 (2344, .iconst (0), 1, 1414, 0, [], [(0, 0)]) rfl rfl rfl ?_
          refine bEqI bl_0 ?_
          refine bGo hA 88 6 (2345, .ireturn, 1, 1415, 0, [2], []) rfl rfl rfl ?_
          exact ⟨b01 (Or.inl rfl), ((((k10.1 c13).1 c14).1 c15).2 c16)⟩
      · refine bGo hA 88 0 (2335, .lconst 1, 1, 1409, 0, [1], []) rfl rfl rfl ?_
        refine bGo hA 88 1 (2336, .goto (4), 3, 1410, 1411, [], []) rfl rfl rfl ?_
        refine bGo hA 88 3 (2340, .lcmp, 1, 1412, 0, [], []) rfl rfl rfl ?_
        refine bEqI (bn_cmp (bj s9 154 0) (Int64.ofNat 1)) ?_
        refine bGo hA 88 4 (2341, .ifCond .eq (5), 3, 1413, 1415, [], []) rfl rfl rfl ?_
        refine bB_eq0 (x := (bCmp (bj s9 154 0) (Int64.ofNat 1))) (bRgI _) (fun c17 => ?_) (fun c17 => ?_)
        · refine bGo hA 88 7 (2346, .goto (1068), 3, 1416, 2097, [], []) rfl rfl rfl ?_
          refine bGo hA 131 1 (3414, .iinc 4 (6), 3, 2098, 0, [4], [(6, 0)]) rfl rfl rfl ?_
          refine bEqC (fun v => A (2098, [.ref 200, .ref 11, .ref 12, .ref 154, .int v, .int (bn r3), .int (bn r7), v7], [], s9)) ((congrArg (fun w => bn l4 + w) bl_6).trans (bn_add l4 6)) ?_
          refine bGo hA 131 2 (3417, .goto (-3394), 3, 2099, 13, [], []) rfl rfl rfl ?_
          exact ((((k10.1 c13).1 c14).2 c15).1 c17).2
        · refine bGo hA 88 5 (2344, .iconst (0), 1, 1414, 0, [], [(0, 0)]) rfl rfl rfl ?_
          refine bEqI bl_0 ?_
          refine bGo hA 88 6 (2345, .ireturn, 1, 1415, 0, [2], []) rfl rfl rfl ?_
          exact ⟨b01 (Or.inl rfl), ((((k10.1 c13).1 c14).2 c15).2 c17)⟩
    · refine bGo hA 88 7 (2346, .goto (1068), 3, 1416, 2097, [], []) rfl rfl rfl ?_
      refine bGo hA 131 1 (3414, .iinc 4 (6), 3, 2098, 0, [4], [(6, 0)]) rfl rfl rfl ?_
      refine bEqC (fun v => A (2098, [.ref 200, .ref 11, .ref 12, .ref 154, .int v, .int (bn r3), .int (bn r7), v7], [], s9)) ((congrArg (fun w => bn l4 + w) bl_6).trans (bn_add l4 6)) ?_
      refine bGo hA 131 2 (3417, .goto (-3394), 3, 2099, 13, [], []) rfl rfl rfl ?_
      exact ((k10.1 c13).2 c14).2
  · refine bGo hA 87 7 (2320, .iconst (0), 1, 1400, 0, [], [(0, 0)]) rfl rfl rfl ?_
    refine bEqI bl_0 ?_
    refine bGo hA 87 8 (2321, .ireturn, 1, 1401, 0, [2], []) rfl rfl rfl ?_
    exact ⟨b01 (Or.inl rfl), (k10.2 c13)⟩

theorem sq357_1416 {lvl : Nat} {C : bCall} {Q : bPost} {A : bPt → Prop} (hC : bMono C) (hA : bClosed lvl bm357 C Q A) {l4 : Int} {v5 : Value} {v6 : Value} {v7 : Value} {σ : bSt}  (h_l4 : bRg l4)
  (h : (bRg (l4 + 1) ∧ ((0 ≤ (l4 + 1) ∧ (l4 + 1) < (bLen σ 200 : Int)) ∧ (((bi σ 200 (l4 + 1)) = 0 → (C 172 [.ref 11, .int (bn 0)] σ (bRn (fun r4 s2 => ((0 ≤ (l4 + 1) ∧ (l4 + 1) < (bLen s2 200 : Int)) ∧ (((bi s2 200 (l4 + 1)) = 0 → (C 276 [.ref 12, .int (bn 0)] s2 (bRn (fun r9 s7 => ((r4 = r9 → (bRg (l4 + 6) ∧ A (13, [.ref 200, .ref 11, .ref 12, .ref 154, .int (bn (l4 + 6)), v5, v6, v7], [], s7))) ∧ (¬ r4 = r9 → Q (.inl (some (.int (bn 0)))) s7)))))) ∧ (¬ (bi s2 200 (l4 + 1)) = 0 → (C 276 [.ref 12, .int (bn 1)] s2 (bRn (fun r14 s12 => ((r4 = r14 → (bRg (l4 + 6) ∧ A (13, [.ref 200, .ref 11, .ref 12, .ref 154, .int (bn (l4 + 6)), v5, v6, v7], [], s12))) ∧ (¬ r4 = r14 → Q (.inl (some (.int (bn 0)))) s12)))))))))))) ∧ (¬ (bi σ 200 (l4 + 1)) = 0 → (C 172 [.ref 11, .int (bn 1)] σ (bRn (fun r19 s17 => ((0 ≤ (l4 + 1) ∧ (l4 + 1) < (bLen s17 200 : Int)) ∧ (((bi s17 200 (l4 + 1)) = 0 → (C 276 [.ref 12, .int (bn 0)] s17 (bRn (fun r24 s22 => ((r19 = r24 → (bRg (l4 + 6) ∧ A (13, [.ref 200, .ref 11, .ref 12, .ref 154, .int (bn (l4 + 6)), v5, v6, v7], [], s22))) ∧ (¬ r19 = r24 → Q (.inl (some (.int (bn 0)))) s22)))))) ∧ (¬ (bi s17 200 (l4 + 1)) = 0 → (C 276 [.ref 12, .int (bn 1)] s17 (bRn (fun r29 s27 => ((r19 = r29 → (bRg (l4 + 6) ∧ A (13, [.ref 200, .ref 11, .ref 12, .ref 154, .int (bn (l4 + 6)), v5, v6, v7], [], s27))) ∧ (¬ r19 = r29 → Q (.inl (some (.int (bn 0)))) s27)))))))))))))))) : A (1416, [.ref 200, .ref 11, .ref 12, .ref 154, .int (bn l4), v5, v6, v7], [], σ) := by
  refine bGo hA 88 8 (2349, .aload_n 1, 1, 1417, 0, [1], []) rfl rfl rfl ?_
  refine bGo hA 88 9 (2350, .aload_n 0, 1, 1418, 0, [0], []) rfl rfl rfl ?_
  refine bGo hA 88 10 (2351, .iload 4, 2, 1419, 0, [4], []) rfl rfl rfl ?_
  refine bGo hA 88 11 (2353, .iconst (1), 1, 1420, 0, [], [(1, 0)]) rfl rfl rfl ?_
  refine bEqI bl_1 ?_
  refine bGo hA 88 12 (2354, .iadd, 1, 1421, 0, [], []) rfl rfl rfl ?_
  refine bEqI (bn_add l4 1) ?_
  refine bGo hA 88 13 (2355, .iaload, 1, 1422, 0, [], []) rfl rfl rfl ?_
  refine ⟨rfl, (bIxP (x := (l4 + 1)) (n := bLen σ 200) h.1 h.2.1), ?_⟩
  refine bEqL (x := (l4 + 1)) h.1 ?_
  refine bGo hA 88 14 (2356, .ifCond .eq (7), 3, 1423, 1425, [], []) rfl rfl rfl ?_
  refine bB_eq0 (x := (bi σ 200 (l4 + 1))) (bi_rg _ _ _) (fun c1 => ?_) (fun c1 => ?_)
  · refine bGo hA 89 1 (2363, .iconst (0), 1, 1426, 0, [], [(0, 0)]) rfl rfl rfl ?_
    refine bEqI bl_0 ?_
    refine bGo hA 89 2 (2364, .invokevirtual 267, 3, 1427, 0, [0, 11, 172, 1], []) rfl rfl rfl ?_
    refine ⟨rfl, ?_⟩
    refine hC _ _ _ _ _ (bRn_e (fun r4 s2 q5 k3 => ?_)) (h.2.2.1 c1)
    show A (1427, [.ref 200, .ref 11, .ref 12, .ref 154, .int (bn l4), v5, v6, v7], [.int (bn r4)], s2)
    refine bGo hA 89 3 (2367, .aload_n 2, 1, 1428, 0, [2], []) rfl rfl rfl ?_
    refine bGo hA 89 4 (2368, .aload_n 0, 1, 1429, 0, [0], []) rfl rfl rfl ?_
    refine bGo hA 89 5 (2369, .iload 4, 2, 1430, 0, [4], []) rfl rfl rfl ?_
    refine bGo hA 89 6 (2371, .iconst (1), 1, 1431, 0, [], [(1, 0)]) rfl rfl rfl ?_
    refine bEqI bl_1 ?_
    refine bGo hA 89 7 (2372, .iadd, 1, 1432, 0, [], []) rfl rfl rfl ?_
    refine bEqI (bn_add l4 1) ?_
    refine bGo hA 89 8 (2373, .iaload, 1, 1433, 0, [], []) rfl rfl rfl ?_
    refine ⟨rfl, (bIxP (x := (l4 + 1)) (n := bLen s2 200) h.1 k3.1), ?_⟩
    refine bEqL (x := (l4 + 1)) h.1 ?_
    refine bGo hA 89 9 (2374, .ifCond .eq (7), 3, 1434, 1436, [], []) rfl rfl rfl ?_
    refine bB_eq0 (x := (bi s2 200 (l4 + 1))) (bi_rg _ _ _) (fun c6 => ?_) (fun c6 => ?_)
    · refine bGo hA 89 12 (2381, .iconst (0), 1, 1437, 0, [], [(0, 0)]) rfl rfl rfl ?_
      refine bEqI bl_0 ?_
      refine bGo hA 89 13 (2382, .invokevirtual 271, 3, 1438, 0, [0, 12, 276, 1], []) rfl rfl rfl ?_
      refine ⟨rfl, ?_⟩
      refine hC _ _ _ _ _ (bRn_e (fun r9 s7 q10 k8 => ?_)) (k3.2.1 c6)
      show A (1438, [.ref 200, .ref 11, .ref 12, .ref 154, .int (bn l4), v5, v6, v7], [.int (bn r9), .int (bn r4)], s7)
      refine bGo hA 89 14 (2385, .if_icmp .eq (1029), 3, 1439, 2097, [], []) rfl rfl rfl ?_
      refine bB_eq (x := r4) (y := r9) q5 q10 (fun c11 => ?_) (fun c11 => ?_)
      · refine bGo hA 131 1 (3414, .iinc 4 (6), 3, 2098, 0, [4], [(6, 0)]) rfl rfl rfl ?_
        refine bEqC (fun v => A (2098, [.ref 200, .ref 11, .ref 12, .ref 154, .int v, v5, v6, v7], [], s7)) ((congrArg (fun w => bn l4 + w) bl_6).trans (bn_add l4 6)) ?_
        refine bGo hA 131 2 (3417, .goto (-3394), 3, 2099, 13, [], []) rfl rfl rfl ?_
        exact (k8.1 c11).2
      · refine bGo hA 89 15 (2388, .iconst (0), 1, 1440, 0, [], [(0, 0)]) rfl rfl rfl ?_
        refine bEqI bl_0 ?_
        refine bGo hA 90 0 (2389, .ireturn, 1, 1441, 0, [2], []) rfl rfl rfl ?_
        exact ⟨b01 (Or.inl rfl), (k8.2 c11)⟩
    · refine bGo hA 89 10 (2377, .iconst (1), 1, 1435, 0, [], [(1, 0)]) rfl rfl rfl ?_
      refine bEqI bl_1 ?_
      refine bGo hA 89 11 (2378, .goto (4), 3, 1436, 1437, [], []) rfl rfl rfl ?_
      refine bGo hA 89 13 (2382, .invokevirtual 271, 3, 1438, 0, [0, 12, 276, 1], []) rfl rfl rfl ?_
      refine ⟨rfl, ?_⟩
      refine hC _ _ _ _ _ (bRn_e (fun r14 s12 q15 k13 => ?_)) (k3.2.2 c6)
      show A (1438, [.ref 200, .ref 11, .ref 12, .ref 154, .int (bn l4), v5, v6, v7], [.int (bn r14), .int (bn r4)], s12)
      refine bGo hA 89 14 (2385, .if_icmp .eq (1029), 3, 1439, 2097, [], []) rfl rfl rfl ?_
      refine bB_eq (x := r4) (y := r14) q5 q15 (fun c16 => ?_) (fun c16 => ?_)
      · refine bGo hA 131 1 (3414, .iinc 4 (6), 3, 2098, 0, [4], [(6, 0)]) rfl rfl rfl ?_
        refine bEqC (fun v => A (2098, [.ref 200, .ref 11, .ref 12, .ref 154, .int v, v5, v6, v7], [], s12)) ((congrArg (fun w => bn l4 + w) bl_6).trans (bn_add l4 6)) ?_
        refine bGo hA 131 2 (3417, .goto (-3394), 3, 2099, 13, [], []) rfl rfl rfl ?_
        exact (k13.1 c16).2
      · refine bGo hA 89 15 (2388, .iconst (0), 1, 1440, 0, [], [(0, 0)]) rfl rfl rfl ?_
        refine bEqI bl_0 ?_
        refine bGo hA 90 0 (2389, .ireturn, 1, 1441, 0, [2], []) rfl rfl rfl ?_
        exact ⟨b01 (Or.inl rfl), (k13.2 c16)⟩
  · refine bGo hA 88 15 (2359, .iconst (1), 1, 1424, 0, [], [(1, 0)]) rfl rfl rfl ?_
    refine bEqI bl_1 ?_
    refine bGo hA 89 0 (2360, .goto (4), 3, 1425, 1426, [], []) rfl rfl rfl ?_
    refine bGo hA 89 2 (2364, .invokevirtual 267, 3, 1427, 0, [0, 11, 172, 1], []) rfl rfl rfl ?_
    refine ⟨rfl, ?_⟩
    refine hC _ _ _ _ _ (bRn_e (fun r19 s17 q20 k18 => ?_)) (h.2.2.2 c1)
    show A (1427, [.ref 200, .ref 11, .ref 12, .ref 154, .int (bn l4), v5, v6, v7], [.int (bn r19)], s17)
    refine bGo hA 89 3 (2367, .aload_n 2, 1, 1428, 0, [2], []) rfl rfl rfl ?_
    refine bGo hA 89 4 (2368, .aload_n 0, 1, 1429, 0, [0], []) rfl rfl rfl ?_
    refine bGo hA 89 5 (2369, .iload 4, 2, 1430, 0, [4], []) rfl rfl rfl ?_
    refine bGo hA 89 6 (2371, .iconst (1), 1, 1431, 0, [], [(1, 0)]) rfl rfl rfl ?_
    refine bEqI bl_1 ?_
    refine bGo hA 89 7 (2372, .iadd, 1, 1432, 0, [], []) rfl rfl rfl ?_
    refine bEqI (bn_add l4 1) ?_
    refine bGo hA 89 8 (2373, .iaload, 1, 1433, 0, [], []) rfl rfl rfl ?_
    refine ⟨rfl, (bIxP (x := (l4 + 1)) (n := bLen s17 200) h.1 k18.1), ?_⟩
    refine bEqL (x := (l4 + 1)) h.1 ?_
    refine bGo hA 89 9 (2374, .ifCond .eq (7), 3, 1434, 1436, [], []) rfl rfl rfl ?_
    refine bB_eq0 (x := (bi s17 200 (l4 + 1))) (bi_rg _ _ _) (fun c21 => ?_) (fun c21 => ?_)
    · refine bGo hA 89 12 (2381, .iconst (0), 1, 1437, 0, [], [(0, 0)]) rfl rfl rfl ?_
      refine bEqI bl_0 ?_
      refine bGo hA 89 13 (2382, .invokevirtual 271, 3, 1438, 0, [0, 12, 276, 1], []) rfl rfl rfl ?_
      refine ⟨rfl, ?_⟩
      refine hC _ _ _ _ _ (bRn_e (fun r24 s22 q25 k23 => ?_)) (k18.2.1 c21)
      show A (1438, [.ref 200, .ref 11, .ref 12, .ref 154, .int (bn l4), v5, v6, v7], [.int (bn r24), .int (bn r19)], s22)
      refine bGo hA 89 14 (2385, .if_icmp .eq (1029), 3, 1439, 2097, [], []) rfl rfl rfl ?_
      refine bB_eq (x := r19) (y := r24) q20 q25 (fun c26 => ?_) (fun c26 => ?_)
      · refine bGo hA 131 1 (3414, .iinc 4 (6), 3, 2098, 0, [4], [(6, 0)]) rfl rfl rfl ?_
        refine bEqC (fun v => A (2098, [.ref 200, .ref 11, .ref 12, .ref 154, .int v, v5, v6, v7], [], s22)) ((congrArg (fun w => bn l4 + w) bl_6).trans (bn_add l4 6)) ?_
        refine bGo hA 131 2 (3417, .goto (-3394), 3, 2099, 13, [], []) rfl rfl rfl ?_
        exact (k23.1 c26).2
      · refine bGo hA 89 15 (2388, .iconst (0), 1, 1440, 0, [], [(0, 0)]) rfl rfl rfl ?_
        refine bEqI bl_0 ?_
        refine bGo hA 90 0 (2389, .ireturn, 1, 1441, 0, [2], []) rfl rfl rfl ?_
        exact ⟨b01 (Or.inl rfl), (k23.2 c26)⟩
    · refine bGo hA 89 10 (2377, .iconst (1), 1, 1435, 0, [], [(1, 0)]) rfl rfl rfl ?_
      refine bEqI bl_1 ?_
      refine bGo hA 89 11 (2378, .goto (4), 3, 1436, 1437, [], []) rfl rfl rfl ?_
      refine bGo hA 89 13 (2382, .invokevirtual 271, 3, 1438, 0, [0, 12, 276, 1], []) rfl rfl rfl ?_
      refine ⟨rfl, ?_⟩
      refine hC _ _ _ _ _ (bRn_e (fun r29 s27 q30 k28 => ?_)) (k18.2.2 c21)
      show A (1438, [.ref 200, .ref 11, .ref 12, .ref 154, .int (bn l4), v5, v6, v7], [.int (bn r29), .int (bn r19)], s27)
      refine bGo hA 89 14 (2385, .if_icmp .eq (1029), 3, 1439, 2097, [], []) rfl rfl rfl ?_
      refine bB_eq (x := r19) (y := r29) q20 q30 (fun c31 => ?_) (fun c31 => ?_)
      · refine bGo hA 131 1 (3414, .iinc 4 (6), 3, 2098, 0, [4], [(6, 0)]) rfl rfl rfl ?_
        refine bEqC (fun v => A (2098, [.ref 200, .ref 11, .ref 12, .ref 154, .int v, v5, v6, v7], [], s27)) ((congrArg (fun w => bn l4 + w) bl_6).trans (bn_add l4 6)) ?_
        refine bGo hA 131 2 (3417, .goto (-3394), 3, 2099, 13, [], []) rfl rfl rfl ?_
        exact (k28.1 c31).2
      · refine bGo hA 89 15 (2388, .iconst (0), 1, 1440, 0, [], [(0, 0)]) rfl rfl rfl ?_
        refine bEqI bl_0 ?_
        refine bGo hA 90 0 (2389, .ireturn, 1, 1441, 0, [2], []) rfl rfl rfl ?_
        exact ⟨b01 (Or.inl rfl), (k28.2 c31)⟩

theorem sq357_1441 {lvl : Nat} {C : bCall} {Q : bPost} {A : bPt → Prop} (hC : bMono C) (hA : bClosed lvl bm357 C Q A) {l4 : Int} {v5 : Value} {v6 : Value} {v7 : Value} {σ : bSt}  (h_l4 : bRg l4)
  (h : (bRg (l4 + 1) ∧ ((0 ≤ (l4 + 1) ∧ (l4 + 1) < (bLen σ 200 : Int)) ∧ (((bi σ 200 (l4 + 1)) = 0 → (C 173 [.ref 11, .int (bn 0)] σ (bRn (fun r4 s2 => ((0 ≤ (l4 + 1) ∧ (l4 + 1) < (bLen s2 200 : Int)) ∧ (((bi s2 200 (l4 + 1)) = 0 → (C 277 [.ref 12, .int (bn 0)] s2 (bRn (fun r9 s7 => ((r4 = r9 → (bRg (l4 + 6) ∧ A (13, [.ref 200, .ref 11, .ref 12, .ref 154, .int (bn (l4 + 6)), v5, v6, v7], [], s7))) ∧ (¬ r4 = r9 → Q (.inl (some (.int (bn 0)))) s7)))))) ∧ (¬ (bi s2 200 (l4 + 1)) = 0 → (C 277 [.ref 12, .int (bn 1)] s2 (bRn (fun r14 s12 => ((r4 = r14 → (bRg (l4 + 6) ∧ A (13, [.ref 200, .ref 11, .ref 12, .ref 154, .int (bn (l4 + 6)), v5, v6, v7], [], s12))) ∧ (¬ r4 = r14 → Q (.inl (some (.int (bn 0)))) s12)))))))))))) ∧ (¬ (bi σ 200 (l4 + 1)) = 0 → (C 173 [.ref 11, .int (bn 1)] σ (bRn (fun r19 s17 => ((0 ≤ (l4 + 1) ∧ (l4 + 1) < (bLen s17 200 : Int)) ∧ (((bi s17 200 (l4 + 1)) = 0 → (C 277 [.ref 12, .int (bn 0)] s17 (bRn (fun r24 s22 => ((r19 = r24 → (bRg (l4 + 6) ∧ A (13, [.ref 200, .ref 11, .ref 12, .ref 154, .int (bn (l4 + 6)), v5, v6, v7], [], s22))) ∧ (¬ r19 = r24 → Q (.inl (some (.int (bn 0)))) s22)))))) ∧ (¬ (bi s17 200 (l4 + 1)) = 0 → (C 277 [.ref 12, .int (bn 1)] s17 (bRn (fun r29 s27 => ((r19 = r29 → (bRg (l4 + 6) ∧ A (13, [.ref 200, .ref 11, .ref 12, .ref 154, .int (bn (l4 + 6)), v5, v6, v7], [], s27))) ∧ (¬ r19 = r29 → Q (.inl (some (.int (bn 0)))) s27)))))))))))))))) : A (1441, [.ref 200, .ref 11, .ref 12, .ref 154, .int (bn l4), v5, v6, v7], [], σ) := by
  refine bGo hA 90 1 (2390, .aload_n 1, 1, 1442, 0, [1], []) rfl rfl rfl ?_
  refine bGo hA 90 2 (2391, .aload_n 0, 1, 1443, 0, [0], []) rfl rfl rfl ?_
  refine bGo hA 90 3 (2392, .iload 4, 2, 1444, 0, [4], []) rfl rfl rfl ?_
  refine bGo hA 90 4 (2394, .iconst (1), 1, 1445, 0, [], [(1, 0)]) rfl rfl rfl ?_
  refine bEqI bl_1 ?_
  refine bGo hA 90 5 (2395, .iadd, 1, 1446, 0, [], []) rfl rfl rfl ?_
  refine bEqI (bn_add l4 1) ?_
  refine bGo hA 90 6 (2396, .iaload, 1, 1447, 0, [], []) rfl rfl rfl ?_
  refine ⟨rfl, (bIxP (x := (l4 + 1)) (n := bLen σ 200) h.1 h.2.1), ?_⟩
  refine bEqL (x := (l4 + 1)) h.1 ?_
  refine bGo hA 90 7 (2397, .ifCond .eq (7), 3, 1448, 1450, [], []) rfl rfl rfl ?_
  refine bB_eq0 (x := (bi σ 200 (l4 + 1))) (bi_rg _ _ _) (fun c1 => ?_) (fun c1 => ?_)
  · refine bGo hA 90 10 (2404, .iconst (0), 1, 1451, 0, [], [(0, 0)]) rfl rfl rfl ?_
    refine bEqI bl_0 ?_
    refine bGo hA 90 11 (2405, .invokevirtual 272, 3, 1452, 0, [0, 11, 173, 1], []) rfl rfl rfl ?_
    refine ⟨rfl, ?_⟩
    refine hC _ _ _ _ _ (bRn_e (fun r4 s2 q5 k3 => ?_)) (h.2.2.1 c1)
    show A (1452, [.ref 200, .ref 11, .ref 12, .ref 154, .int (bn l4), v5, v6, v7], [.int (bn r4)], s2)
    refine bGo hA 90 12 (2408, .aload_n 2, 1, 1453, 0, [2], []) rfl rfl rfl ?_
    refine bGo hA 90 13 (2409, .aload_n 0, 1, 1454, 0, [0], []) rfl rfl rfl ?_
    refine bGo hA 90 14 (2410, .iload 4, 2, 1455, 0, [4], []) rfl rfl rfl ?_
    refine bGo hA 90 15 (2412, .iconst (1), 1, 1456, 0, [], [(1, 0)]) rfl rfl rfl ?_
    refine bEqI bl_1 ?_
    refine bGo hA 91 0 (2413, .iadd, 1, 1457, 0, [], []) rfl rfl rfl ?_
    refine bEqI (bn_add l4 1) ?_
    refine bGo hA 91 1 (2414, .iaload, 1, 1458, 0, [], []) rfl rfl rfl ?_
    refine ⟨rfl, (bIxP (x := (l4 + 1)) (n := bLen s2 200) h.1 k3.1), ?_⟩
    refine bEqL (x := (l4 + 1)) h.1 ?_
    refine bGo hA 91 2 (2415, .ifCond .eq (7), 3, 1459, 1461, [], []) rfl rfl rfl ?_
    refine bB_eq0 (x := (bi s2 200 (l4 + 1))) (bi_rg _ _ _) (fun c6 => ?_) (fun c6 => ?_)
    · refine bGo hA 91 5 (2422, .iconst (0), 1, 1462, 0, [], [(0, 0)]) rfl rfl rfl ?_
      refine bEqI bl_0 ?_
      refine bGo hA 91 6 (2423, .invokevirtual 275, 3, 1463, 0, [0, 12, 277, 1], []) rfl rfl rfl ?_
      refine ⟨rfl, ?_⟩
      refine hC _ _ _ _ _ (bRn_e (fun r9 s7 q10 k8 => ?_)) (k3.2.1 c6)
      show A (1463, [.ref 200, .ref 11, .ref 12, .ref 154, .int (bn l4), v5, v6, v7], [.int (bn r9), .int (bn r4)], s7)
      refine bGo hA 91 7 (2426, .if_icmp .eq (988), 3, 1464, 2097, [], []) rfl rfl rfl ?_
      refine bB_eq (x := r4) (y := r9) q5 q10 (fun c11 => ?_) (fun c11 => ?_)
      · refine bGo hA 131 1 (3414, .iinc 4 (6), 3, 2098, 0, [4], [(6, 0)]) rfl rfl rfl ?_
        refine bEqC (fun v => A (2098, [.ref 200, .ref 11, .ref 12, .ref 154, .int v, v5, v6, v7], [], s7)) ((congrArg (fun w => bn l4 + w) bl_6).trans (bn_add l4 6)) ?_
        refine bGo hA 131 2 (3417, .goto (-3394), 3, 2099, 13, [], []) rfl rfl rfl ?_
        exact (k8.1 c11).2
      · refine bGo hA 91 8 (2429, .iconst (0), 1, 1465, 0, [], [(0, 0)]) rfl rfl rfl ?_
        refine bEqI bl_0 ?_
        refine bGo hA 91 9 (2430, .ireturn, 1, 1466, 0, [2], []) rfl rfl rfl ?_
        exact ⟨b01 (Or.inl rfl), (k8.2 c11)⟩
    · refine bGo hA 91 3 (2418, .iconst (1), 1, 1460, 0, [], [(1, 0)]) rfl rfl rfl ?_
      refine bEqI bl_1 ?_
      refine bGo hA 91 4 (2419, .goto (4), 3, 1461, 1462, [], []) rfl rfl rfl ?_
      refine bGo hA 91 6 (2423, .invokevirtual 275, 3, 1463, 0, [0, 12, 277, 1], []) rfl rfl rfl ?_
      refine ⟨rfl, ?_⟩
      refine hC _ _ _ _ _ (bRn_e (fun r14 s12 q15 k13 => ?_)) (k3.2.2 c6)
      show A (1463, [.ref 200, .ref 11, .ref 12, .ref 154, .int (bn l4), v5, v6, v7], [.int (bn r14), .int (bn r4)], s12)
      refine bGo hA 91 7 (2426, .if_icmp .eq (988), 3, 1464, 2097, [], []) rfl rfl rfl ?_
      refine bB_eq (x := r4) (y := r14) q5 q15 (fun c16 => ?_) (fun c16 => ?_)
      · refine bGo hA 131 1 (3414, .iinc 4 (6), 3, 2098, 0, [4], [(6, 0)]) rfl rfl rfl ?_
        refine bEqC (fun v => A (2098, [.ref 200, .ref 11, .ref 12, .ref 154, .int v, v5, v6, v7], [], s12)) ((congrArg (fun w => bn l4 + w) bl_6).trans (bn_add l4 6)) ?_
        refine bGo hA 131 2 (3417, .goto (-3394), 3, 2099, 13, [], []) rfl rfl rfl ?_
        exact (k13.1 c16).2
      · refine bGo hA 91 8 (2429, .iconst (0), 1, 1465, 0, [], [(0, 0)]) rfl rfl rfl ?_
        refine bEqI bl_0 ?_
        refine bGo hA 91 9 (2430, .ireturn, 1, 1466, 0, [2], []) rfl rfl rfl ?_
        exact ⟨b01 (Or.inl rfl), (k13.2 c16)⟩
  · refine bGo hA 90 8 (2400, .iconst (1), 1, 1449, 0, [], [(1, 0)]) rfl rfl rfl ?_
    refine bEqI bl_1 ?_
    refine bGo hA 90 9 (2401, .goto (4), 3, 1450, 1451, [], []) rfl rfl rfl ?_
    refine bGo hA 90 11 (2405, .invokevirtual 272, 3, 1452, 0, [0, 11, 173, 1], []) rfl rfl rfl ?_
    refine ⟨rfl, ?_⟩
    refine hC _ _ _ _ _ (bRn_e (fun r19 s17 q20 k18 => ?_)) (h.2.2.2 c1)
    show A (1452, [.ref 200, .ref 11, .ref 12, .ref 154, .int (bn l4), v5, v6, v7], [.int (bn r19)], s17)
    refine bGo hA 90 12 (2408, .aload_n 2, 1, 1453, 0, [2], []) rfl rfl rfl ?_
    refine bGo hA 90 13 (2409, .aload_n 0, 1, 1454, 0, [0], []) rfl rfl rfl ?_
    refine bGo hA 90 14 (2410, .iload 4, 2, 1455, 0, [4], []) rfl rfl rfl ?_
    refine bGo hA 90 15 (2412, .iconst (1), 1, 1456, 0, [], [(1, 0)]) rfl rfl rfl ?_
    refine bEqI bl_1 ?_
    refine bGo hA 91 0 (2413, .iadd, 1, 1457, 0, [], []) rfl rfl rfl ?_
    refine bEqI (bn_add l4 1) ?_
    refine bGo hA 91 1 (2414, .iaload, 1, 1458, 0, [], []) rfl rfl rfl ?_
    refine ⟨rfl, (bIxP (x := (l4 + 1)) (n := bLen s17 200) h.1 k18.1), ?_⟩
    refine bEqL (x := (l4 + 1)) h.1 ?_
    refine bGo hA 91 2 (2415, .ifCond .eq (7), 3, 1459, 1461, [], []) rfl rfl rfl ?_
    refine bB_eq0 (x := (bi s17 200 (l4 + 1))) (bi_rg _ _ _) (fun c21 => ?_) (fun c21 => ?_)
    · refine bGo hA 91 5 (2422, .iconst (0), 1, 1462, 0, [], [(0, 0)]) rfl rfl rfl ?_
      refine bEqI bl_0 ?_
      refine bGo hA 91 6 (2423, .invokevirtual 275, 3, 1463, 0, [0, 12, 277, 1], []) rfl rfl rfl ?_
      refine ⟨rfl, ?_⟩
      refine hC _ _ _ _ _ (bRn_e (fun r24 s22 q25 k23 => ?_)) (k18.2.1 c21)
      show A (1463, [.ref 200, .ref 11, .ref 12, .ref 154, .int (bn l4), v5, v6, v7], [.int (bn r24), .int (bn r19)], s22)
      refine bGo hA 91 7 (2426, .if_icmp .eq (988), 3, 1464, 2097, [], []) rfl rfl rfl ?_
      refine bB_eq (x := r19) (y := r24) q20 q25 (fun c26 => ?_) (fun c26 => ?_)
      · refine bGo hA 131 1 (3414, .iinc 4 (6), 3, 2098, 0, [4], [(6, 0)]) rfl rfl rfl ?_
        refine bEqC (fun v => A (2098, [.ref 200, .ref 11, .ref 12, .ref 154, .int v, v5, v6, v7], [], s22)) ((congrArg (fun w => bn l4 + w) bl_6).trans (bn_add l4 6)) ?_
        refine bGo hA 131 2 (3417, .goto (-3394), 3, 2099, 13, [], []) rfl rfl rfl ?_
        exact (k23.1 c26).2
      · refine bGo hA 91 8 (2429, .iconst (0), 1, 1465, 0, [], [(0, 0)]) rfl rfl rfl ?_
        refine bEqI bl_0 ?_
        refine bGo hA 91 9 (2430, .ireturn, 1, 1466, 0, [2], []) rfl rfl rfl ?_
        exact ⟨b01 (Or.inl rfl), (k23.2 c26)⟩
    · refine bGo hA 91 3 (2418, .iconst (1), 1, 1460, 0, [], [(1, 0)]) rfl rfl rfl ?_
      refine bEqI bl_1 ?_
      refine bGo hA 91 4 (2419, .goto (4), 3, 1461, 1462, [], []) rfl rfl rfl ?_
      refine bGo hA 91 6 (2423, .invokevirtual 275, 3, 1463, 0, [0, 12, 277, 1], []) rfl rfl rfl ?_
      refine ⟨rfl, ?_⟩
      refine hC _ _ _ _ _ (bRn_e (fun r29 s27 q30 k28 => ?_)) (k18.2.2 c21)
      show A (1463, [.ref 200, .ref 11, .ref 12, .ref 154, .int (bn l4), v5, v6, v7], [.int (bn r29), .int (bn r19)], s27)
      refine bGo hA 91 7 (2426, .if_icmp .eq (988), 3, 1464, 2097, [], []) rfl rfl rfl ?_
      refine bB_eq (x := r19) (y := r29) q20 q30 (fun c31 => ?_) (fun c31 => ?_)
      · refine bGo hA 131 1 (3414, .iinc 4 (6), 3, 2098, 0, [4], [(6, 0)]) rfl rfl rfl ?_
        refine bEqC (fun v => A (2098, [.ref 200, .ref 11, .ref 12, .ref 154, .int v, v5, v6, v7], [], s27)) ((congrArg (fun w => bn l4 + w) bl_6).trans (bn_add l4 6)) ?_
        refine bGo hA 131 2 (3417, .goto (-3394), 3, 2099, 13, [], []) rfl rfl rfl ?_
        exact (k28.1 c31).2
      · refine bGo hA 91 8 (2429, .iconst (0), 1, 1465, 0, [], [(0, 0)]) rfl rfl rfl ?_
        refine bEqI bl_0 ?_
        refine bGo hA 91 9 (2430, .ireturn, 1, 1466, 0, [2], []) rfl rfl rfl ?_
        exact ⟨b01 (Or.inl rfl), (k28.2 c31)⟩

theorem sq357_1466 {lvl : Nat} {C : bCall} {Q : bPost} {A : bPt → Prop} (hC : bMono C) (hA : bClosed lvl bm357 C Q A) {l4 : Int} {v5 : Value} {v6 : Value} {v7 : Value} {σ : bSt}  (h_l4 : bRg l4)
  (h : (bRg (l4 + 1) ∧ ((0 ≤ (l4 + 1) ∧ (l4 + 1) < (bLen σ 200 : Int)) ∧ (bRg (l4 + 2) ∧ ((0 ≤ (l4 + 2) ∧ (l4 + 2) < (bLen σ 200 : Int)) ∧ (((bi σ 200 (l4 + 2)) = 0 → A (1481, [.ref 200, .ref 11, .ref 12, .ref 154, .int (bn l4), v5, v6, v7], [.int (bn 0), .int (bn (bi σ 200 (l4 + 1))), .ref 11], σ)) ∧ (¬ (bi σ 200 (l4 + 2)) = 0 → A (1481, [.ref 200, .ref 11, .ref 12, .ref 154, .int (bn l4), v5, v6, v7], [.int (bn 1), .int (bn (bi σ 200 (l4 + 1))), .ref 11], σ)))))))) : A (1466, [.ref 200, .ref 11, .ref 12, .ref 154, .int (bn l4), v5, v6, v7], [], σ) := by
  refine bGo hA 91 10 (2431, .aload_n 1, 1, 1467, 0, [1], []) rfl rfl rfl ?_
  refine bGo hA 91 11 (2432, .aload_n 0, 1, 1468, 0, [0], []) rfl rfl rfl ?_
  refine bGo hA 91 12 (2433, .iload 4, 2, 1469, 0, [4], []) rfl rfl rfl ?_
  refine bGo hA 91 13 (2435, .iconst (1), 1, 1470, 0, [], [(1, 0)]) rfl rfl rfl ?_
  refine bEqI bl_1 ?_
  refine bGo hA 91 14 (2436, .iadd, 1, 1471, 0, [], []) rfl rfl rfl ?_
  refine bEqI (bn_add l4 1) ?_
  refine bGo hA 91 15 (2437, .iaload, 1, 1472, 0, [], []) rfl rfl rfl ?_
  refine ⟨rfl, (bIxP (x := (l4 + 1)) (n := bLen σ 200) h.1 h.2.1), ?_⟩
  refine bEqL (x := (l4 + 1)) h.1 ?_
  refine bGo hA 92 0 (2438, .aload_n 0, 1, 1473, 0, [0], []) rfl rfl rfl ?_
  refine bGo hA 92 1 (2439, .iload 4, 2, 1474, 0, [4], []) rfl rfl rfl ?_
  refine bGo hA 92 2 (2441, .iconst (2), 1, 1475, 0, [], [(2, 0)]) rfl rfl rfl ?_
  refine bEqI bl_2 ?_
  refine bGo hA 92 3 (2442, .iadd, 1, 1476, 0, [], []) rfl rfl rfl ?_
  refine bEqI (bn_add l4 2) ?_
  refine bGo hA 92 4 (2443, .iaload, 1, 1477, 0, [], []) rfl rfl rfl ?_
  refine ⟨rfl, (bIxP (x := (l4 + 2)) (n := bLen σ 200) h.2.2.1 h.2.2.2.1), ?_⟩
  refine bEqL (x := (l4 + 2)) h.2.2.1 ?_
  refine bGo hA 92 5 (2444, .ifCond .eq (7), 3, 1478, 1480, [], []) rfl rfl rfl ?_
  refine bB_eq0 (x := (bi σ 200 (l4 + 2))) (bi_rg _ _ _) (fun c1 => ?_) (fun c1 => ?_)
  · refine bGo hA 92 8 (2451, .iconst (0), 1, 1481, 0, [], [(0, 0)]) rfl rfl rfl ?_
    refine bEqI bl_0 ?_
    exact (h.2.2.2.2.1 c1)
  · refine bGo hA 92 6 (2447, .iconst (1), 1, 1479, 0, [], [(1, 0)]) rfl rfl rfl ?_
    refine bEqI bl_1 ?_
    refine bGo hA 92 7 (2448, .goto (4), 3, 1480, 1481, [], []) rfl rfl rfl ?_
    exact (h.2.2.2.2.2 c1)

theorem sq357_1529 {lvl : Nat} {C : bCall} {Q : bPost} {A : bPt → Prop} (hC : bMono C) (hA : bClosed lvl bm357 C Q A) {l4 : Int} {v5 : Value} {v6 : Value} {v7 : Value} {σ : bSt}  (h_l4 : bRg l4)
  (h : (bRg (l4 + 1) ∧ ((0 ≤ (l4 + 1) ∧ (l4 + 1) < (bLen σ 200 : Int)) ∧ (C 343 [.ref 11, .int (bn (bi σ 200 (l4 + 1))), .ref 154] σ (bRn (fun r3 s1 => ((0 ≤ (l4 + 1) ∧ (l4 + 1) < (bLen s1 200 : Int)) ∧ (C 299 [.ref 12, .int (bn (bi s1 200 (l4 + 1)))] s1 (bRn (fun r7 s5 => (C 196 [.ref 12] s5 (bRn (fun r11 s9 => ((r11 = r3 → ((r3 = 0 → (((bCmp (bj s9 154 0) (bL r7)) = 0 → (bRg (l4 + 6) ∧ A (13, [.ref 200, .ref 11, .ref 12, .ref 154, .int (bn (l4 + 6)), .int (bn r3), .int (bn r7), v7], [], s9))) ∧ (¬ (bCmp (bj s9 154 0) (bL r7)) = 0 → Q (.inl (some (.int (bn 0)))) s9))) ∧ (¬ r3 = 0 → (bRg (l4 + 6) ∧ A (13, [.ref 200, .ref 11, .ref 12, .ref 154, .int (bn (l4 + 6)), .int (bn r3), .int (bn r7), v7], [], s9))))) ∧ (¬ r11 = r3 → Q (.inl (some (.int (bn 0)))) s9))))))))))))))) : A (1529, [.ref 200, .ref 11, .ref 12, .ref 154, .int (bn l4), v5, v6, v7], [], σ) := by
  refine bGo hA 95 9 (2527, .aload_n 1, 1, 1530, 0, [1], []) rfl rfl rfl ?_
  refine bGo hA 95 10 (2528, .aload_n 0, 1, 1531, 0, [0], []) rfl rfl rfl ?_
  refine bGo hA 95 11 (2529, .iload 4, 2, 1532, 0, [4], []) rfl rfl rfl ?_
  refine bGo hA 95 12 (2531, .iconst (1), 1, 1533, 0, [], [(1, 0)]) rfl rfl rfl ?_
  refine bEqI bl_1 ?_
  refine bGo hA 95 13 (2532, .iadd, 1, 1534, 0, [], []) rfl rfl rfl ?_
  refine bEqI (bn_add l4 1) ?_
  refine bGo hA 95 14 (2533, .iaload, 1, 1535, 0, [], []) rfl rfl rfl ?_
  refine ⟨rfl, (bIxP (x := (l4 + 1)) (n := bLen σ 200) h.1 h.2.1), ?_⟩
  refine bEqL (x := (l4 + 1)) h.1 ?_
  refine bGo hA 95 15 (2534, .aload_n 3, 1, 1536, 0, [3], []) rfl rfl rfl ?_
  refine bGo hA 96 0 (2535, .invokestatic 280, 3, 1537, 0, [2, 343, 3], []) rfl rfl rfl ?_
  refine hC _ _ _ _ _ (bRn_e (fun r3 s1 q4 k2 => ?_)) h.2.2
  show A (1537, [.ref 200, .ref 11, .ref 12, .ref 154, .int (bn l4), v5, v6, v7], [.int (bn r3)], s1)
  refine bGo hA 96 1 (2538, .istore 5, 2, 1538, 0, [5], []) rfl rfl rfl ?_
  refine bGo hA 96 2 (2540, .aload_n 2, 1, 1539, 0, [2], []) rfl rfl rfl ?_
  refine bGo hA 96 3 (2541, .aload_n 0, 1, 1540, 0, [0], []) rfl rfl rfl ?_
  refine bGo hA 96 4 (2542, .iload 4, 2, 1541, 0, [4], []) rfl rfl rfl ?_
  refine bGo hA 96 5 (2544, .iconst (1), 1, 1542, 0, [], [(1, 0)]) rfl rfl rfl ?_
  refine bEqI bl_1 ?_
  refine bGo hA 96 6 (2545, .iadd, 1, 1543, 0, [], []) rfl rfl rfl ?_
  refine bEqI (bn_add l4 1) ?_
  refine bGo hA 96 7 (2546, .iaload, 1, 1544, 0, [], []) rfl rfl rfl ?_
  refine ⟨rfl, (bIxP (x := (l4 + 1)) (n := bLen s1 200) h.1 k2.1), ?_⟩
  refine bEqL (x := (l4 + 1)) h.1 ?_
  refine bGo hA 96 8 (2547, .invokevirtual 282, 3, 1545, 0, [0, 12, 299, 1], []) rfl rfl rfl ?_
  refine ⟨rfl, ?_⟩
  refine hC _ _ _ _ _ (bRn_e (fun r7 s5 q8 k6 => ?_)) k2.2
  show A (1545, [.ref 200, .ref 11, .ref 12, .ref 154, .int (bn l4), .int (bn r3), v6, v7], [.int (bn r7)], s5)
  refine bGo hA 96 9 (2550, .istore 6, 2, 1546, 0, [6], []) rfl rfl rfl ?_
  refine bGo hA 96 10 (2552, .aload_n 2, 1, 1547, 0, [2], []) rfl rfl rfl ?_
  refine bGo hA 96 11 (2553, .invokevirtual 168, 3, 1548, 0, [0, 12, 196, 0], []) rfl rfl rfl ?_
  refine ⟨rfl, ?_⟩
  refine hC _ _ _ _ _ (bRn_e (fun r11 s9 q12 k10 => ?_)) k6
  show A (1548, [.ref 200, .ref 11, .ref 12, .ref 154, .int (bn l4), .int (bn r3), .int (bn r7), v7], [.int (bn r11)], s9)
  refine bGo hA 96 12 (2556, .iload 5, 2, 1549, 0, [5], []) rfl rfl rfl ?_
  refine bGo hA 96 13 (2558, .if_icmp .eq (5), 3, 1550, 1552, [], []) rfl rfl rfl ?_
  refine bB_eq (x := r11) (y := r3) q12 q4 (fun c13 => ?_) (fun c13 => ?_)
  · refine bGo hA 97 0 (2563, .iload 5, 2, 1553, 0, [5], []) rfl rfl rfl ?_
    refine bGo hA 97 1 (2565, .ifCond .ne (15), 3, 1554, 1563, [], []) rfl rfl rfl ?_
    refine bB_eq0 (x := r3) q4 (fun c14 => ?_) (fun c14 => ?_)
    · refine bGo hA 97 2 (2568, .aload_n 3, 1, 1555, 0, [3], []) rfl rfl rfl ?_
      refine bGo hA 97 3 (2569, .iconst (0), 1, 1556, 0, [], [(0, 0)]) rfl rfl rfl ?_
      refine bEqI bl_0 ?_
      refine bGo hA 97 4 (2570, .laload, 1, 1557, 0, [], []) rfl rfl rfl ?_
      refine ⟨rfl, (bIxP (x := 0) (n := 1) (by decide) (by decide)), ?_⟩
      refine bEqJ (x := 0) (by decide : bRg 0) ?_
      refine bGo hA 97 5 (2571, .iload 6, 2, 1558, 0, [6], []) rfl rfl rfl ?_
      refine bGo hA 97 6 (2573, .i2l, 1, 1559, 0, [], []) rfl rfl rfl ?_
      refine bGo hA 97 7 (2574, .lcmp, 1, 1560, 0, [], []) rfl rfl rfl ?_
      refine bEqI (bn_cmp (bj s9 154 0) (bL r7)) ?_
      refine bGo hA 97 8 (2575, .ifCond .eq (5), 3, 1561, 1563, [], []) rfl rfl rfl ?_
      refine bB_eq0 (x := (bCmp (bj s9 154 0) (bL r7))) (bRgI _) (fun c15 => ?_) (fun c15 => ?_)
      · refine bGo hA 97 11 (2580, .goto (834), 3, 1564, 2097, [], []) rfl rfl rfl ?_
        refine bGo hA 131 1 (3414, .iinc 4 (6), 3, 2098, 0, [4], [(6, 0)]) rfl rfl rfl ?_
        refine bEqC (fun v => A (2098, [.ref 200, .ref 11, .ref 12, .ref 154, .int v, .int (bn r3), .int (bn r7), v7], [], s9)) ((congrArg (fun w => bn l4 + w) bl_6).trans (bn_add l4 6)) ?_
        refine bGo hA 131 2 (3417, .goto (-3394), 3, 2099, 13, [], []) rfl rfl rfl ?_
        exact (((k10.1 c13).1 c14).1 c15).2
      · refine bGo hA 97 9 (2578, .iconst (0), 1, 1562, 0, [], [(0, 0)]) rfl rfl rfl ?_
        refine bEqI bl_0 ?_
        refine bGo hA 97 10 (2579, .ireturn, 1, 1563, 0, [2], []) rfl rfl rfl ?_
        exact ⟨b01 (Or.inl rfl), (((k10.1 c13).1 c14).2 c15)⟩
    · refine bGo hA 97 11 (2580, .goto (834), 3, 1564, 2097, [], []) rfl rfl rfl ?_
      refine bGo hA 131 1 (3414, .iinc 4 (6), 3, 2098, 0, [4], [(6, 0)]) rfl rfl rfl ?_
      refine bEqC (fun v => A (2098, [.ref 200, .ref 11, .ref 12, .ref 154, .int v, .int (bn r3), .int (bn r7), v7], [], s9)) ((congrArg (fun w => bn l4 + w) bl_6).trans (bn_add l4 6)) ?_
      refine bGo hA 131 2 (3417, .goto (-3394), 3, 2099, 13, [], []) rfl rfl rfl ?_
      exact ((k10.1 c13).2 c14).2
  · refine bGo hA 96 14 (2561, .iconst (0), 1, 1551, 0, [], [(0, 0)]) rfl rfl rfl ?_
    refine bEqI bl_0 ?_
    refine bGo hA 96 15 (2562, .ireturn, 1, 1552, 0, [2], []) rfl rfl rfl ?_
    exact ⟨b01 (Or.inl rfl), (k10.2 c13)⟩

theorem sq357_1564 {lvl : Nat} {C : bCall} {Q : bPost} {A : bPt → Prop} (hC : bMono C) (hA : bClosed lvl bm357 C Q A) {l4 : Int} {v5 : Value} {v6 : Value} {v7 : Value} {σ : bSt}  (h_l4 : bRg l4)
  (h : (C 176 [.ref 11] σ (bRn (fun r3 s1 => (C 300 [.ref 12] s1 (bRn (fun r7 s5 => ((r3 = r7 → (bRg (l4 + 6) ∧ A (13, [.ref 200, .ref 11, .ref 12, .ref 154, .int (bn (l4 + 6)), v5, v6, v7], [], s5))) ∧ (¬ r3 = r7 → Q (.inl (some (.int (bn 0)))) s5))))))))) : A (1564, [.ref 200, .ref 11, .ref 12, .ref 154, .int (bn l4), v5, v6, v7], [], σ) := by
  refine bGo hA 97 12 (2583, .aload_n 1, 1, 1565, 0, [1], []) rfl rfl rfl ?_
  refine bGo hA 97 13 (2584, .invokevirtual 283, 3, 1566, 0, [0, 11, 176, 0], []) rfl rfl rfl ?_
  refine ⟨rfl, ?_⟩
  refine hC _ _ _ _ _ (bRn_e (fun r3 s1 q4 k2 => ?_)) h
  show A (1566, [.ref 200, .ref 11, .ref 12, .ref 154, .int (bn l4), v5, v6, v7], [.int (bn r3)], s1)
  refine bGo hA 97 14 (2587, .aload_n 2, 1, 1567, 0, [2], []) rfl rfl rfl ?_
  refine bGo hA 97 15 (2588, .invokevirtual 286, 3, 1568, 0, [0, 12, 300, 0], []) rfl rfl rfl ?_
  refine ⟨rfl, ?_⟩
  refine hC _ _ _ _ _ (bRn_e (fun r7 s5 q8 k6 => ?_)) k2
  show A (1568, [.ref 200, .ref 11, .ref 12, .ref 154, .int (bn l4), v5, v6, v7], [.int (bn r7), .int (bn r3)], s5)
  refine bGo hA 98 0 (2591, .if_icmp .eq (823), 3, 1569, 2097, [], []) rfl rfl rfl ?_
  refine bB_eq (x := r3) (y := r7) q4 q8 (fun c9 => ?_) (fun c9 => ?_)
  · refine bGo hA 131 1 (3414, .iinc 4 (6), 3, 2098, 0, [4], [(6, 0)]) rfl rfl rfl ?_
    refine bEqC (fun v => A (2098, [.ref 200, .ref 11, .ref 12, .ref 154, .int v, v5, v6, v7], [], s5)) ((congrArg (fun w => bn l4 + w) bl_6).trans (bn_add l4 6)) ?_
    refine bGo hA 131 2 (3417, .goto (-3394), 3, 2099, 13, [], []) rfl rfl rfl ?_
    exact (k6.1 c9).2
  · refine bGo hA 98 1 (2594, .iconst (0), 1, 1570, 0, [], [(0, 0)]) rfl rfl rfl ?_
    refine bEqI bl_0 ?_
    refine bGo hA 98 2 (2595, .ireturn, 1, 1571, 0, [2], []) rfl rfl rfl ?_
    exact ⟨b01 (Or.inl rfl), (k6.2 c9)⟩

theorem sq357_1571 {lvl : Nat} {C : bCall} {Q : bPost} {A : bPt → Prop} (hC : bMono C) (hA : bClosed lvl bm357 C Q A) {l4 : Int} {v5 : Value} {v6 : Value} {v7 : Value} {σ : bSt}  (h_l4 : bRg l4)
  (h : (bRg (l4 + 1) ∧ ((0 ≤ (l4 + 1) ∧ (l4 + 1) < (bLen σ 200 : Int)) ∧ (C 344 [.ref 11, .int (bn (bi σ 200 (l4 + 1))), .ref 154] σ (bRn (fun r3 s1 => ((0 ≤ (l4 + 1) ∧ (l4 + 1) < (bLen s1 200 : Int)) ∧ (C 302 [.ref 12, .int (bn (bi s1 200 (l4 + 1)))] s1 (bRn (fun r7 s5 => (C 196 [.ref 12] s5 (bRn (fun r11 s9 => ((r11 = r3 → ((r3 = 0 → (((bCmp (bj s9 154 0) (bL r7)) = 0 → (bRg (l4 + 6) ∧ A (13, [.ref 200, .ref 11, .ref 12, .ref 154, .int (bn (l4 + 6)), .int (bn r3), .int (bn r7), v7], [], s9))) ∧ (¬ (bCmp (bj s9 154 0) (bL r7)) = 0 → Q (.inl (some (.int (bn 0)))) s9))) ∧ (¬ r3 = 0 → (bRg (l4 + 6) ∧ A (13, [.ref 200, .ref 11, .ref 12, .ref 154, .int (bn (l4 + 6)), .int (bn r3), .int (bn r7), v7], [], s9))))) ∧ (¬ r11 = r3 → Q (.inl (some (.int (bn 0)))) s9))))))))))))))) : A (1571, [.ref 200, .ref 11, .ref 12, .ref 154, .int (bn l4), v5, v6, v7], [], σ) := by
  refine bGo hA 98 3 (2596, .aload_n 1, 1, 1572, 0, [1], []) rfl rfl rfl ?_
  refine bGo hA 98 4 (2597, .aload_n 0, 1, 1573, 0, [0], []) rfl rfl rfl ?_
  refine bGo hA 98 5 (2598, .iload 4, 2, 1574, 0, [4], []) rfl rfl rfl ?_
  refine bGo hA 98 6 (2600, .iconst (1), 1, 1575, 0, [], [(1, 0)]) rfl rfl rfl ?_
  refine bEqI bl_1 ?_
  refine bGo hA 98 7 (2601, .iadd, 1, 1576, 0, [], []) rfl rfl rfl ?_
  refine bEqI (bn_add l4 1) ?_
  refine bGo hA 98 8 (2602, .iaload, 1, 1577, 0, [], []) rfl rfl rfl ?_
  refine ⟨rfl, (bIxP (x := (l4 + 1)) (n := bLen σ 200) h.1 h.2.1), ?_⟩
  refine bEqL (x := (l4 + 1)) h.1 ?_
  refine bGo hA 98 9 (2603, .aload_n 3, 1, 1578, 0, [3], []) rfl rfl rfl ?_
  refine bGo hA 98 10 (2604, .invokestatic 287, 3, 1579, 0, [2, 344, 3], []) rfl rfl rfl ?_
  refine hC _ _ _ _ _ (bRn_e (fun r3 s1 q4 k2 => ?_)) h.2.2
  show A (1579, [.ref 200, .ref 11, .ref 12, .ref 154, .int (bn l4), v5, v6, v7], [.int (bn r3)], s1)
  refine bGo hA 98 11 (2607, .istore 5, 2, 1580, 0, [5], []) rfl rfl rfl ?_
  refine bGo hA 98 12 (2609, .aload_n 2, 1, 1581, 0, [2], []) rfl rfl rfl ?_
  refine bGo hA 98 13 (2610, .aload_n 0, 1, 1582, 0, [0], []) rfl rfl rfl ?_
  refine bGo hA 98 14 (2611, .iload 4, 2, 1583, 0, [4], []) rfl rfl rfl ?_
  refine bGo hA 98 15 (2613, .iconst (1), 1, 1584, 0, [], [(1, 0)]) rfl rfl rfl ?_
  refine bEqI bl_1 ?_
  refine bGo hA 99 0 (2614, .iadd, 1, 1585, 0, [], []) rfl rfl rfl ?_
  refine bEqI (bn_add l4 1) ?_
  refine bGo hA 99 1 (2615, .iaload, 1, 1586, 0, [], []) rfl rfl rfl ?_
  refine ⟨rfl, (bIxP (x := (l4 + 1)) (n := bLen s1 200) h.1 k2.1), ?_⟩
  refine bEqL (x := (l4 + 1)) h.1 ?_
  refine bGo hA 99 2 (2616, .invokevirtual 289, 3, 1587, 0, [0, 12, 302, 1], []) rfl rfl rfl ?_
  refine ⟨rfl, ?_⟩
  refine hC _ _ _ _ _ (bRn_e (fun r7 s5 q8 k6 => ?_)) k2.2
  show A (1587, [.ref 200, .ref 11, .ref 12, .ref 154, .int (bn l4), .int (bn r3), v6, v7], [.int (bn r7)], s5)
  refine bGo hA 99 3 (2619, .istore 6, 2, 1588, 0, [6], []) rfl rfl rfl ?_
  refine bGo hA 99 4 (2621, .aload_n 2, 1, 1589, 0, [2], []) rfl rfl rfl ?_
  refine bGo hA 99 5 (2622, .invokevirtual 168, 3, 1590, 0, [0, 12, 196, 0], []) rfl rfl rfl ?_
  refine ⟨rfl, ?_⟩
  refine hC _ _ _ _ _ (bRn_e (fun r11 s9 q12 k10 => ?_)) k6
  show A (1590, [.ref 200, .ref 11, .ref 12, .ref 154, .int (bn l4), .int (bn r3), .int (bn r7), v7], [.int (bn r11)], s9)
  refine bGo hA 99 6 (2625, .iload 5, 2, 1591, 0, [5], []) rfl rfl rfl ?_
  refine bGo hA 99 7 (2627, .if_icmp .eq (5), 3, 1592, 1594, [], []) rfl rfl rfl ?_
  refine bB_eq (x := r11) (y := r3) q12 q4 (fun c13 => ?_) (fun c13 => ?_)
  · refine bGo hA 99 10 (2632, .iload 5, 2, 1595, 0, [5], []) rfl rfl rfl ?_
    refine bGo hA 99 11 (2634, .ifCond .ne (15), 3, 1596, 1605, [], []) rfl rfl rfl ?_
    refine bB_eq0 (x := r3) q4 (fun c14 => ?_) (fun c14 => ?_)
    · refine bGo hA 99 12 (2637, .aload_n 3, 1, 1597, 0, [3], []) rfl rfl rfl ?_
      refine bGo hA 99 13 (2638, .iconst (0), 1, 1598, 0, [], [(0, 0)]) rfl rfl rfl ?_
      refine bEqI bl_0 ?_
      refine bGo hA 99 14 (2639, .laload, 1, 1599, 0, [], []) rfl rfl rfl ?_
      refine ⟨rfl, (bIxP (x := 0) (n := 1) (by decide) (by decide)), ?_⟩
      refine bEqJ (x := 0) (by decide : bRg 0) ?_
      refine bGo hA 99 15 (2640, .iload 6, 2, 1600, 0, [6], []) rfl rfl rfl ?_
      refine bGo hA 100 0 (2642, .i2l, 1, 1601, 0, [], []) rfl rfl rfl ?_
      refine bGo hA 100 1 (2643, .lcmp, 1, 1602, 0, [], []) rfl rfl rfl ?_
      refine bEqI (bn_cmp (bj s9 154 0) (bL r7)) ?_
      refine bGo hA 100 2 (2644, .ifCond .eq (5), 3, 1603, 1605, [], []) rfl rfl rfl ?_
      refine bB_eq0 (x := (bCmp (bj s9 154 0) (bL r7))) (bRgI _) (fun c15 => ?_) (fun c15 => ?_)
      · refine bGo hA 100 5 (2649, .goto (765), 3, 1606, 2097, [], []) rfl rfl rfl ?_
        refine bGo hA 131 1 (3414, .iinc 4 (6), 3, 2098, 0, [4], [(6, 0)]) rfl rfl rfl ?_
        refine bEqC (fun v => A (2098, [.ref 200, .ref 11, .ref 12, .ref 154, .int v, .int (bn r3), .int (bn r7), v7], [], s9)) ((congrArg (fun w => bn l4 + w) bl_6).trans (bn_add l4 6)) ?_
        refine bGo hA 131 2 (3417, .goto (-3394), 3, 2099, 13, [], []) rfl rfl rfl ?_
        exact (((k10.1 c13).1 c14).1 c15).2
      · refine bGo hA 100 3 (2647, .iconst (0), 1, 1604, 0, [], [(0, 0)]) rfl rfl rfl ?_
        refine bEqI bl_0 ?_
        refine bGo hA 100 4 (2648, .ireturn, 1, 1605, 0, [2], []) rfl rfl rfl ?_
        exact ⟨b01 (Or.inl rfl), (((k10.1 c13).1 c14).2 c15)⟩
    · refine bGo hA 100 5 (2649, .goto (765), 3, 1606, 2097, [], []) rfl rfl rfl ?_
      refine bGo hA 131 1 (3414, .iinc 4 (6), 3, 2098, 0, [4], [(6, 0)]) rfl rfl rfl ?_
      refine bEqC (fun v => A (2098, [.ref 200, .ref 11, .ref 12, .ref 154, .int v, .int (bn r3), .int (bn r7), v7], [], s9)) ((congrArg (fun w => bn l4 + w) bl_6).trans (bn_add l4 6)) ?_
      refine bGo hA 131 2 (3417, .goto (-3394), 3, 2099, 13, [], []) rfl rfl rfl ?_
      exact ((k10.1 c13).2 c14).2
  · refine bGo hA 99 8 (2630, .iconst (0), 1, 1593, 0, [], [(0, 0)]) rfl rfl rfl ?_
    refine bEqI bl_0 ?_
    refine bGo hA 99 9 (2631, .ireturn, 1, 1594, 0, [2], []) rfl rfl rfl ?_
    exact ⟨b01 (Or.inl rfl), (k10.2 c13)⟩

theorem sq357_1606 {lvl : Nat} {C : bCall} {Q : bPost} {A : bPt → Prop} (hC : bMono C) (hA : bClosed lvl bm357 C Q A) {l4 : Int} {v5 : Value} {v6 : Value} {v7 : Value} {σ : bSt}  (h_l4 : bRg l4)
  (h : (C 178 [.ref 11] σ (bRn (fun r3 s1 => (C 252 [.ref 12] s1 (bRn (fun r7 s5 => ((r3 = r7 → (bRg (l4 + 6) ∧ A (13, [.ref 200, .ref 11, .ref 12, .ref 154, .int (bn (l4 + 6)), v5, v6, v7], [], s5))) ∧ (¬ r3 = r7 → Q (.inl (some (.int (bn 0)))) s5))))))))) : A (1606, [.ref 200, .ref 11, .ref 12, .ref 154, .int (bn l4), v5, v6, v7], [], σ) := by
  refine bGo hA 100 6 (2652, .aload_n 1, 1, 1607, 0, [1], []) rfl rfl rfl ?_
  refine bGo hA 100 7 (2653, .invokevirtual 290, 3, 1608, 0, [0, 11, 178, 0], []) rfl rfl rfl ?_
  refine ⟨rfl, ?_⟩
  refine hC _ _ _ _ _ (bRn_e (fun r3 s1 q4 k2 => ?_)) h
  show A (1608, [.ref 200, .ref 11, .ref 12, .ref 154, .int (bn l4), v5, v6, v7], [.int (bn r3)], s1)
  refine bGo hA 100 8 (2656, .aload_n 2, 1, 1609, 0, [2], []) rfl rfl rfl ?_
  refine bGo hA 100 9 (2657, .invokevirtual 293, 3, 1610, 0, [0, 12, 252, 0], []) rfl rfl rfl ?_
  refine ⟨rfl, ?_⟩
  refine hC _ _ _ _ _ (bRn_e (fun r7 s5 q8 k6 => ?_)) k2
  show A (1610, [.ref 200, .ref 11, .ref 12, .ref 154, .int (bn l4), v5, v6, v7], [.int (bn r7), .int (bn r3)], s5)
  refine bGo hA 100 10 (2660, .if_icmp .eq (754), 3, 1611, 2097, [], []) rfl rfl rfl ?_
  refine bB_eq (x := r3) (y := r7) q4 q8 (fun c9 => ?_) (fun c9 => ?_)
  · refine bGo hA 131 1 (3414, .iinc 4 (6), 3, 2098, 0, [4], [(6, 0)]) rfl rfl rfl ?_
    refine bEqC (fun v => A (2098, [.ref 200, .ref 11, .ref 12, .ref 154, .int v, v5, v6, v7], [], s5)) ((congrArg (fun w => bn l4 + w) bl_6).trans (bn_add l4 6)) ?_
    refine bGo hA 131 2 (3417, .goto (-3394), 3, 2099, 13, [], []) rfl rfl rfl ?_
    exact (k6.1 c9).2
  · refine bGo hA 100 11 (2663, .iconst (0), 1, 1612, 0, [], [(0, 0)]) rfl rfl rfl ?_
    refine bEqI bl_0 ?_
    refine bGo hA 100 12 (2664, .ireturn, 1, 1613, 0, [2], []) rfl rfl rfl ?_
    exact ⟨b01 (Or.inl rfl), (k6.2 c9)⟩

theorem sq357_1613 {lvl : Nat} {C : bCall} {Q : bPost} {A : bPt → Prop} (hC : bMono C) (hA : bClosed lvl bm357 C Q A) {l4 : Int} {v5 : Value} {v6 : Value} {v7 : Value} {σ : bSt}  (h_l4 : bRg l4)
  (h : (bRg (l4 + 1) ∧ ((0 ≤ (l4 + 1) ∧ (l4 + 1) < (bLen σ 200 : Int)) ∧ (C 345 [.ref 11, .int (bn (bi σ 200 (l4 + 1))), .ref 154] σ (bRn (fun r3 s1 => ((0 ≤ (l4 + 1) ∧ (l4 + 1) < (bLen s1 200 : Int)) ∧ (C 248 [.ref 12, .int (bn (bi s1 200 (l4 + 1)))] s1 (bRn (fun r7 s5 => (C 196 [.ref 12] s5 (bRn (fun r11 s9 => ((r11 = r3 → ((r3 = 0 → (((bCmp (bj s9 154 0) (bL r7)) = 0 → (bRg (l4 + 6) ∧ A (13, [.ref 200, .ref 11, .ref 12, .ref 154, .int (bn (l4 + 6)), .int (bn r3), .int (bn r7), v7], [], s9))) ∧ (¬ (bCmp (bj s9 154 0) (bL r7)) = 0 → Q (.inl (some (.int (bn 0)))) s9))) ∧ (¬ r3 = 0 → (bRg (l4 + 6) ∧ A (13, [.ref 200, .ref 11, .ref 12, .ref 154, .int (bn (l4 + 6)), .int (bn r3), .int (bn r7), v7], [], s9))))) ∧ (¬ r11 = r3 → Q (.inl (some (.int (bn 0)))) s9))))))))))))))) : A (1613, [.ref 200, .ref 11, .ref 12, .ref 154, .int (bn l4), v5, v6, v7], [], σ) := by
  refine bGo hA 100 13 (2665, .aload_n 1, 1, 1614, 0, [1], []) rfl rfl rfl ?_
  refine bGo hA 100 14 (2666, .aload_n 0, 1, 1615, 0, [0], []) rfl rfl rfl ?_
  refine bGo hA 100 15 (2667, .iload 4, 2, 1616, 0, [4], []) rfl rfl rfl ?_
  refine bGo hA 101 0 (2669, .iconst (1), 1, 1617, 0, [], [(1, 0)]) rfl rfl rfl ?_
  refine bEqI bl_1 ?_
  refine bGo hA 101 1 (2670, .iadd, 1, 1618, 0, [], []) rfl rfl rfl ?_
  refine bEqI (bn_add l4 1) ?_
  refine bGo hA 101 2 (2671, .iaload, 1, 1619, 0, [], []) rfl rfl rfl ?_
  refine ⟨rfl, (bIxP (x := (l4 + 1)) (n := bLen σ 200) h.1 h.2.1), ?_⟩
  refine bEqL (x := (l4 + 1)) h.1 ?_
  refine bGo hA 101 3 (2672, .aload_n 3, 1, 1620, 0, [3], []) rfl rfl rfl ?_
  refine bGo hA 101 4 (2673, .invokestatic 294, 3, 1621, 0, [2, 345, 3], []) rfl rfl rfl ?_
  refine hC _ _ _ _ _ (bRn_e (fun r3 s1 q4 k2 => ?_)) h.2.2
  show A (1621, [.ref 200, .ref 11, .ref 12, .ref 154, .int (bn l4), v5, v6, v7], [.int (bn r3)], s1)
  refine bGo hA 101 5 (2676, .istore 5, 2, 1622, 0, [5], []) rfl rfl rfl ?_
  refine bGo hA 101 6 (2678, .aload_n 2, 1, 1623, 0, [2], []) rfl rfl rfl ?_
  refine bGo hA 101 7 (2679, .aload_n 0, 1, 1624, 0, [0], []) rfl rfl rfl ?_
  refine bGo hA 101 8 (2680, .iload 4, 2, 1625, 0, [4], []) rfl rfl rfl ?_
  refine bGo hA 101 9 (2682, .iconst (1), 1, 1626, 0, [], [(1, 0)]) rfl rfl rfl ?_
  refine bEqI bl_1 ?_
  refine bGo hA 101 10 (2683, .iadd, 1, 1627, 0, [], []) rfl rfl rfl ?_
  refine bEqI (bn_add l4 1) ?_
  refine bGo hA 101 11 (2684, .iaload, 1, 1628, 0, [], []) rfl rfl rfl ?_
  refine ⟨rfl, (bIxP (x := (l4 + 1)) (n := bLen s1 200) h.1 k2.1), ?_⟩
  refine bEqL (x := (l4 + 1)) h.1 ?_
  refine bGo hA 101 12 (2685, .invokevirtual 296, 3, 1629, 0, [0, 12, 248, 1], []) rfl rfl rfl ?_
  refine ⟨rfl, ?_⟩
  refine hC _ _ _ _ _ (bRn_e (fun r7 s5 q8 k6 => ?_)) k2.2
  show A (1629, [.ref 200, .ref 11, .ref 12, .ref 154, .int (bn l4), .int (bn r3), v6, v7], [.int (bn r7)], s5)
  refine bGo hA 101 13 (2688, .istore 6, 2, 1630, 0, [6], []) rfl rfl rfl ?_
  refine bGo hA 101 14 (2690, .aload_n 2, 1, 1631, 0, [2], []) rfl rfl rfl ?_
  refine bGo hA 101 15 (2691, .invokevirtual 168, 3, 1632, 0, [0, 12, 196, 0], []) rfl rfl rfl ?_
  refine ⟨rfl, ?_⟩
  refine hC _ _ _ _ _ (bRn_e (fun r11 s9 q12 k10 => ?_)) k6
  show A (1632, [.ref 200, .ref 11, .ref 12, .ref 154, .int (bn l4), .int (bn r3), .int (bn r7), v7], [.int (bn r11)], s9)
  refine bGo hA 102 0 (2694, .iload 5, 2, 1633, 0, [5], []) rfl rfl rfl ?_
  refine bGo hA 102 1 (2696, .if_icmp .eq (5), 3, 1634, 1636, [], []) rfl rfl rfl ?_
  refine bB_eq (x := r11) (y := r3) q12 q4 (fun c13 => ?_) (fun c13 => ?_)
  · refine bGo hA 102 4 (2701, .iload 5, 2, 1637, 0, [5], []) rfl rfl rfl ?_
    refine bGo hA 102 5 (2703, .ifCond .ne (15), 3, 1638, 1647, [], []) rfl rfl rfl ?_
    refine bB_eq0 (x := r3) q4 (fun c14 => ?_) (fun c14 => ?_)
    · refine bGo hA 102 6 (2706, .aload_n 3, 1, 1639, 0, [3], []) rfl rfl rfl ?_
      refine bGo hA 102 7 (2707, .iconst (0), 1, 1640, 0, [], [(0, 0)]) rfl rfl rfl ?_
      refine bEqI bl_0 ?_
      refine bGo hA 102 8 (2708, .laload, 1, 1641, 0, [], []) rfl rfl rfl ?_
      refine ⟨rfl, (bIxP (x := 0) (n := 1) (by decide) (by decide)), ?_⟩
      refine bEqJ (x := 0) (by decide : bRg 0) ?_
      refine bGo hA 102 9 (2709, .iload 6, 2, 1642, 0, [6], []) rfl rfl rfl ?_
      refine bGo hA 102 10 (2711, .i2l, 1, 1643, 0, [], []) rfl rfl rfl ?_
      refine bGo hA 102 11 (2712, .lcmp, 1, 1644, 0, [], []) rfl rfl rfl ?_
      refine bEqI (bn_cmp (bj s9 154 0) (bL r7)) ?_
      refine bGo hA 102 12 (2713, .ifCond .eq (5), 3, 1645, 1647, [], []) rfl rfl rfl ?_
      refine bB_eq0 (x := (bCmp (bj s9 154 0) (bL r7))) (bRgI _) (fun c15 => ?_) (fun c15 => ?_)
      · refine bGo hA 102 15 (2718, .goto (696), 3, 1648, 2097, [], []) rfl rfl rfl ?_
        refine bGo hA 131 1 (3414, .iinc 4 (6), 3, 2098, 0, [4], [(6, 0)]) rfl rfl rfl ?_
        refine bEqC (fun v => A (2098, [.ref 200, .ref 11, .ref 12, .ref 154, .int v, .int (bn r3), .int (bn r7), v7], [], s9)) ((congrArg (fun w => bn l4 + w) bl_6).trans (bn_add l4 6)) ?_
        refine bGo hA 131 2 (3417, .goto (-3394), 3, 2099, 13, [], []) rfl rfl rfl ?_
        exact (((k10.1 c13).1 c14).1 c15).2
      · refine bGo hA 102 13 (2716, .iconst (0), 1, 1646, 0, [], [(0, 0)]) rfl rfl rfl ?_
        refine bEqI bl_0 ?_
        refine bGo hA 102 14 (2717, .ireturn, 1, 1647, 0, [2], []) rfl rfl rfl ?_
        exact ⟨b01 (Or.inl rfl), (((k10.1 c13).1 c14).2 c15)⟩
    · refine bGo hA 102 15 (2718, .goto (696), 3, 1648, 2097, [], []) rfl rfl rfl ?_
      refine bGo hA 131 1 (3414, .iinc 4 (6), 3, 2098, 0, [4], [(6, 0)]) rfl rfl rfl ?_
      refine bEqC (fun v => A (2098, [.ref 200, .ref 11, .ref 12, .ref 154, .int v, .int (bn r3), .int (bn r7), v7], [], s9)) ((congrArg (fun w => bn l4 + w) bl_6).trans (bn_add l4 6)) ?_
      refine bGo hA 131 2 (3417, .goto (-3394), 3, 2099, 13, [], []) rfl rfl rfl ?_
      exact ((k10.1 c13).2 c14).2
  · refine bGo hA 102 2 (2699, .iconst (0), 1, 1635, 0, [], [(0, 0)]) rfl rfl rfl ?_
    refine bEqI bl_0 ?_
    refine bGo hA 102 3 (2700, .ireturn, 1, 1636, 0, [2], []) rfl rfl rfl ?_
    exact ⟨b01 (Or.inl rfl), (k10.2 c13)⟩

theorem sq357_1648 {lvl : Nat} {C : bCall} {Q : bPost} {A : bPt → Prop} (hC : bMono C) (hA : bClosed lvl bm357 C Q A) {l4 : Int} {v5 : Value} {v6 : Value} {v7 : Value} {σ : bSt}  (h_l4 : bRg l4)
  (h : (bRg (l4 + 1) ∧ ((0 ≤ (l4 + 1) ∧ (l4 + 1) < (bLen σ 200 : Int)) ∧ (bRg (l4 + 2) ∧ ((0 ≤ (l4 + 2) ∧ (l4 + 2) < (bLen σ 200 : Int)) ∧ (C 346 [.ref 11, .int (bn (bi σ 200 (l4 + 1))), .int (bn (bi σ 200 (l4 + 2))), .ref 154] σ (bRn (fun r3 s1 => ((0 ≤ (l4 + 1) ∧ (l4 + 1) < (bLen s1 200 : Int)) ∧ ((0 ≤ (l4 + 2) ∧ (l4 + 2) < (bLen s1 200 : Int)) ∧ (C 254 [.ref 12, .int (bn (bi s1 200 (l4 + 1))), .int (bn (bi s1 200 (l4 + 2)))] s1 (bRn (fun r7 s5 => (C 196 [.ref 12] s5 (bRn (fun r11 s9 => ((r11 = r3 → ((r3 = 0 → (((bCmp (bj s9 154 0) (bL r7)) = 0 → (bRg (l4 + 6) ∧ A (13, [.ref 200, .ref 11, .ref 12, .ref 154, .int (bn (l4 + 6)), .int (bn r3), .int (bn r7), v7], [], s9))) ∧ (¬ (bCmp (bj s9 154 0) (bL r7)) = 0 → Q (.inl (some (.int (bn 0)))) s9))) ∧ (¬ r3 = 0 → (bRg (l4 + 6) ∧ A (13, [.ref 200, .ref 11, .ref 12, .ref 154, .int (bn (l4 + 6)), .int (bn r3), .int (bn r7), v7], [], s9))))) ∧ (¬ r11 = r3 → Q (.inl (some (.int (bn 0)))) s9)))))))))))))))))) : A (1648, [.ref 200, .ref 11, .ref 12, .ref 154, .int (bn l4), v5, v6, v7], [], σ) := by
  refine bGo hA 103 0 (2721, .aload_n 1, 1, 1649, 0, [1], []) rfl rfl rfl ?_
  refine bGo hA 103 1 (2722, .aload_n 0, 1, 1650, 0, [0], []) rfl rfl rfl ?_
  refine bGo hA 103 2 (2723, .iload 4, 2, 1651, 0, [4], []) rfl rfl rfl ?_
  refine bGo hA 103 3 (2725, .iconst (1), 1, 1652, 0, [], [(1, 0)]) rfl rfl rfl ?_
  refine bEqI bl_1 ?_
  refine bGo hA 103 4 (2726, .iadd, 1, 1653, 0, [], []) rfl rfl rfl ?_
  refine bEqI (bn_add l4 1) ?_
  refine bGo hA 103 5 (2727, .iaload, 1, 1654, 0, [], []) rfl rfl rfl ?_
  refine ⟨rfl, (bIxP (x := (l4 + 1)) (n := bLen σ 200) h.1 h.2.1), ?_⟩
  refine bEqL (x := (l4 + 1)) h.1 ?_
  refine bGo hA 103 6 (2728, .aload_n 0, 1, 1655, 0, [0], []) rfl rfl rfl ?_
  refine bGo hA 103 7 (2729, .iload 4, 2, 1656, 0, [4], []) rfl rfl rfl ?_
  refine bGo hA 103 8 (2731, .iconst (2), 1, 1657, 0, [], [(2, 0)]) rfl rfl rfl ?_
  refine bEqI bl_2 ?_
  refine bGo hA 103 9 (2732, .iadd, 1, 1658, 0, [], []) rfl rfl rfl ?_
  refine bEqI (bn_add l4 2) ?_
  refine bGo hA 103 10 (2733, .iaload, 1, 1659, 0, [], []) rfl rfl rfl ?_
  refine ⟨rfl, (bIxP (x := (l4 + 2)) (n := bLen σ 200) h.2.2.1 h.2.2.2.1), ?_⟩
  refine bEqL (x := (l4 + 2)) h.2.2.1 ?_
  refine bGo hA 103 11 (2734, .aload_n 3, 1, 1660, 0, [3], []) rfl rfl rfl ?_
  refine bGo hA 103 12 (2735, .invokestatic 297, 3, 1661, 0, [2, 346, 4], []) rfl rfl rfl ?_
  refine hC _ _ _ _ _ (bRn_e (fun r3 s1 q4 k2 => ?_)) h.2.2.2.2
  show A (1661, [.ref 200, .ref 11, .ref 12, .ref 154, .int (bn l4), v5, v6, v7], [.int (bn r3)], s1)
  refine bGo hA 103 13 (2738, .istore 5, 2, 1662, 0, [5], []) rfl rfl rfl ?_
  refine bGo hA 103 14 (2740, .aload_n 2, 1, 1663, 0, [2], []) rfl rfl rfl ?_
  refine bGo hA 103 15 (2741, .aload_n 0, 1, 1664, 0, [0], []) rfl rfl rfl ?_
  refine bGo hA 104 0 (2742, .iload 4, 2, 1665, 0, [4], []) rfl rfl rfl ?_
  refine bGo hA 104 1 (2744, .iconst (1), 1, 1666, 0, [], [(1, 0)]) rfl rfl rfl ?_
  refine bEqI bl_1 ?_
  refine bGo hA 104 2 (2745, .iadd, 1, 1667, 0, [], []) rfl rfl rfl ?_
  refine bEqI (bn_add l4 1) ?_
  refine bGo hA 104 3 (2746, .iaload, 1, 1668, 0, [], []) rfl rfl rfl ?_
  refine ⟨rfl, (bIxP (x := (l4 + 1)) (n := bLen s1 200) h.1 k2.1), ?_⟩
  refine bEqL (x := (l4 + 1)) h.1 ?_
  refine bGo hA 104 4 (2747, .aload_n 0, 1, 1669, 0, [0], []) rfl rfl rfl ?_
  refine bGo hA 104 5 (2748, .iload 4, 2, 1670, 0, [4], []) rfl rfl rfl ?_
  refine bGo hA 104 6 (2750, .iconst (2), 1, 1671, 0, [], [(2, 0)]) rfl rfl rfl ?_
  refine bEqI bl_2 ?_
  refine bGo hA 104 7 (2751, .iadd, 1, 1672, 0, [], []) rfl rfl rfl ?_
  refine bEqI (bn_add l4 2) ?_
  refine bGo hA 104 8 (2752, .iaload, 1, 1673, 0, [], []) rfl rfl rfl ?_
  refine ⟨rfl, (bIxP (x := (l4 + 2)) (n := bLen s1 200) h.2.2.1 k2.2.1), ?_⟩
  refine bEqL (x := (l4 + 2)) h.2.2.1 ?_
  refine bGo hA 104 9 (2753, .invokevirtual 299, 3, 1674, 0, [0, 12, 254, 2], []) rfl rfl rfl ?_
  refine ⟨rfl, ?_⟩
  refine hC _ _ _ _ _ (bRn_e (fun r7 s5 q8 k6 => ?_)) k2.2.2
  show A (1674, [.ref 200, .ref 11, .ref 12, .ref 154, .int (bn l4), .int (bn r3), v6, v7], [.int (bn r7)], s5)
  refine bGo hA 104 10 (2756, .istore 6, 2, 1675, 0, [6], []) rfl rfl rfl ?_
  refine bGo hA 104 11 (2758, .aload_n 2, 1, 1676, 0, [2], []) rfl rfl rfl ?_
  refine bGo hA 104 12 (2759, .invokevirtual 168, 3, 1677, 0, [0, 12, 196, 0], []) rfl rfl rfl ?_
  refine ⟨rfl, ?_⟩
  refine hC _ _ _ _ _ (bRn_e (fun r11 s9 q12 k10 => ?_)) k6
  show A (1677, [.ref 200, .ref 11, .ref 12, .ref 154, .int (bn l4), .int (bn r3), .int (bn r7), v7], [.int (bn r11)], s9)
  refine bGo hA 104 13 (2762, .iload 5, 2, 1678, 0, [5], []) rfl rfl rfl ?_
  refine bGo hA 104 14 (2764, .if_icmp .eq (5), 3, 1679, 1681, [], []) rfl rfl rfl ?_
  refine bB_eq (x := r11) (y := r3) q12 q4 (fun c13 => ?_) (fun c13 => ?_)
  · refine bGo hA 105 1 (2769, .iload 5, 2, 1682, 0, [5], []) rfl rfl rfl ?_
    refine bGo hA 105 2 (2771, .ifCond .ne (15), 3, 1683, 1692, [], []) rfl rfl rfl ?_
    refine bB_eq0 (x := r3) q4 (fun c14 => ?_) (fun c14 => ?_)
    · refine bGo hA 105 3 (2774, .aload_n 3, 1, 1684, 0, [3], []) rfl rfl rfl ?_
      refine bGo hA 105 4 (2775, .iconst (0), 1, 1685, 0, [], [(0, 0)]) rfl rfl rfl ?_
      refine bEqI bl_0 ?_
      refine bGo hA 105 5 (2776, .laload, 1, 1686, 0, [], []) rfl rfl rfl ?_
      refine ⟨rfl, (bIxP (x := 0) (n := 1) (by decide) (by decide)), ?_⟩
      refine bEqJ (x := 0) (by decide : bRg 0) ?_
      refine bGo hA 105 6 (2777, .iload 6, 2, 1687, 0, [6], []) rfl rfl rfl ?_
      refine bGo hA 105 7 (2779, .i2l, 1, 1688, 0, [], []) rfl rfl rfl ?_
      refine bGo hA 105 8 (2780, .lcmp, 1, 1689, 0, [], []) rfl rfl rfl ?_
      refine bEqI (bn_cmp (bj s9 154 0) (bL r7)) ?_
      refine bGo hA 105 9 (2781, .ifCond .eq (5), 3, 1690, 1692, [], []) rfl rfl rfl ?_
      refine bB_eq0 (x := (bCmp (bj s9 154 0) (bL r7))) (bRgI _) (fun c15 => ?_) (fun c15 => ?_)
      · refine bGo hA 105 12 (2786, .goto (628), 3, 1693, 2097, [], []) rfl rfl rfl ?_
        refine bGo hA 131 1 (3414, .iinc 4 (6), 3, 2098, 0, [4], [(6, 0)]) rfl rfl rfl ?_
        refine bEqC (fun v => A (2098, [.ref 200, .ref 11, .ref 12, .ref 154, .int v, .int (bn r3), .int (bn r7), v7], [], s9)) ((congrArg (fun w => bn l4 + w) bl_6).trans (bn_add l4 6)) ?_
        refine bGo hA 131 2 (3417, .goto (-3394), 3, 2099, 13, [], []) rfl rfl rfl ?_
        exact (((k10.1 c13).1 c14).1 c15).2
      · refine bGo hA 105 10 (2784, .iconst (0), 1, 1691, 0, [], [(0, 0)]) rfl rfl rfl ?_
        refine bEqI bl_0 ?_
        refine bGo hA 105 11 (2785, .ireturn, 1, 1692, 0, [2], []) rfl rfl rfl ?_
        exact ⟨b01 (Or.inl rfl), (((k10.1 c13).1 c14).2 c15)⟩
    · refine bGo hA 105 12 (2786, .goto (628), 3, 1693, 2097, [], []) rfl rfl rfl ?_
      refine bGo hA 131 1 (3414, .iinc 4 (6), 3, 2098, 0, [4], [(6, 0)]) rfl rfl rfl ?_
      refine bEqC (fun v => A (2098, [.ref 200, .ref 11, .ref 12, .ref 154, .int v, .int (bn r3), .int (bn r7), v7], [], s9)) ((congrArg (fun w => bn l4 + w) bl_6).trans (bn_add l4 6)) ?_
      refine bGo hA 131 2 (3417, .goto (-3394), 3, 2099, 13, [], []) rfl rfl rfl ?_
      exact ((k10.1 c13).2 c14).2
  · refine bGo hA 104 15 (2767, .iconst (0), 1, 1680, 0, [], [(0, 0)]) rfl rfl rfl ?_
    refine bEqI bl_0 ?_
    refine bGo hA 105 0 (2768, .ireturn, 1, 1681, 0, [2], []) rfl rfl rfl ?_
    exact ⟨b01 (Or.inl rfl), (k10.2 c13)⟩

theorem sq357_1693 {lvl : Nat} {C : bCall} {Q : bPost} {A : bPt → Prop} (hC : bMono C) (hA : bClosed lvl bm357 C Q A) {l4 : Int} {v5 : Value} {v6 : Value} {v7 : Value} {σ : bSt}  (h_l4 : bRg l4)
  (h : (bRg (l4 + 1) ∧ ((0 ≤ (l4 + 1) ∧ (l4 + 1) < (bLen σ 200 : Int)) ∧ (bRg (l4 + 2) ∧ ((0 ≤ (l4 + 2) ∧ (l4 + 2) < (bLen σ 200 : Int)) ∧ (C 347 [.ref 11, .int (bn (bi σ 200 (l4 + 1))), .int (bn (bi σ 200 (l4 + 2))), .ref 154] σ (bRn (fun r3 s1 => ((0 ≤ (l4 + 1) ∧ (l4 + 1) < (bLen s1 200 : Int)) ∧ ((0 ≤ (l4 + 2) ∧ (l4 + 2) < (bLen s1 200 : Int)) ∧ (C 303 [.ref 12, .int (bn (bi s1 200 (l4 + 1))), .int (bn (bi s1 200 (l4 + 2)))] s1 (bRn (fun r7 s5 => (C 196 [.ref 12] s5 (bRn (fun r11 s9 => ((r11 = r3 → ((r3 = 0 → (((bCmp (bj s9 154 0) (bL r7)) = 0 → (bRg (l4 + 6) ∧ A (13, [.ref 200, .ref 11, .ref 12, .ref 154, .int (bn (l4 + 6)), .int (bn r3), .int (bn r7), v7], [], s9))) ∧ (¬ (bCmp (bj s9 154 0) (bL r7)) = 0 → Q (.inl (some (.int (bn 0)))) s9))) ∧ (¬ r3 = 0 → (bRg (l4 + 6) ∧ A (13, [.ref 200, .ref 11, .ref 12, .ref 154, .int (bn (l4 + 6)), .int (bn r3), .int (bn r7), v7], [], s9))))) ∧ (¬ r11 = r3 → Q (.inl (some (.int (bn 0)))) s9)))))))))))))))))) : A (1693, [.ref 200, .ref 11, .ref 12, .ref 154, .int (bn l4), v5, v6, v7], [], σ) := by
  refine bGo hA 105 13 (2789, .aload_n 1, 1, 1694, 0, [1], []) rfl rfl rfl ?_
  refine bGo hA 105 14 (2790, .aload_n 0, 1, 1695, 0, [0], []) rfl rfl rfl ?_
  refine bGo hA 105 15 (2791, .iload 4, 2, 1696, 0, [4], []) rfl rfl rfl ?_
  refine bGo hA 106 0 (2793, .iconst (1), 1, 1697, 0, [], [(1, 0)]) rfl rfl rfl ?_
  refine bEqI bl_1 ?_
  refine bGo hA 106 1 (2794, .iadd, 1, 1698, 0, [], []) rfl rfl rfl ?_
  refine bEqI (bn_add l4 1) ?_
  refine bGo hA 106 2 (2795, .iaload, 1, 1699, 0, [], []) rfl rfl rfl ?_
  refine ⟨rfl, (bIxP (x := (l4 + 1)) (n := bLen σ 200) h.1 h.2.1), ?_⟩
  refine bEqL (x := (l4 + 1)) h.1 ?_
  refine bGo hA 106 3 (2796, .aload_n 0, 1, 1700, 0, [0], []) rfl rfl rfl ?_
  refine bGo hA 106 4 (2797, .iload 4, 2, 1701, 0, [4], []) rfl rfl rfl ?_
  refine bGo hA 106 5 (2799, .iconst (2), 1, 1702, 0, [], [(2, 0)]) rfl rfl rfl ?_
  refine bEqI bl_2 ?_
  refine bGo hA 106 6 (2800, .iadd, 1, 1703, 0, [], []) rfl rfl rfl ?_
  refine bEqI (bn_add l4 2) ?_
  refine bGo hA 106 7 (2801, .iaload, 1, 1704, 0, [], []) rfl rfl rfl ?_
  refine ⟨rfl, (bIxP (x := (l4 + 2)) (n := bLen σ 200) h.2.2.1 h.2.2.2.1), ?_⟩
  refine bEqL (x := (l4 + 2)) h.2.2.1 ?_
  refine bGo hA 106 8 (2802, .aload_n 3, 1, 1705, 0, [3], []) rfl rfl rfl ?_
  refine bGo hA 106 9 (2803, .invokestatic 300, 3, 1706, 0, [2, 347, 4], []) rfl rfl rfl ?_
  refine hC _ _ _ _ _ (bRn_e (fun r3 s1 q4 k2 => ?_)) h.2.2.2.2
  show A (1706, [.ref 200, .ref 11, .ref 12, .ref 154, .int (bn l4), v5, v6, v7], [.int (bn r3)], s1)
  refine bGo hA 106 10 (2806, .istore 5, 2, 1707, 0, [5], []) rfl rfl rfl ?_
  refine bGo hA 106 11 (2808, .aload_n 2, 1, 1708, 0, [2], []) rfl rfl rfl ?_
  refine bGo hA 106 12 (2809, .aload_n 0, 1, 1709, 0, [0], []) rfl rfl rfl ?_
  refine bGo hA 106 13 (2810, .iload 4, 2, 1710, 0, [4], []) rfl rfl rfl ?_
  refine bGo hA 106 14 (2812, .iconst (1), 1, 1711, 0, [], [(1, 0)]) rfl rfl rfl ?_
  refine bEqI bl_1 ?_
  refine bGo hA 106 15 (2813, .iadd, 1, 1712, 0, [], []) rfl rfl rfl ?_
  refine bEqI (bn_add l4 1) ?_
  refine bGo hA 107 0 (2814, .iaload, 1, 1713, 0, [], []) rfl rfl rfl ?_
  refine ⟨rfl, (bIxP (x := (l4 + 1)) (n := bLen s1 200) h.1 k2.1), ?_⟩
  refine bEqL (x := (l4 + 1)) h.1 ?_
  refine bGo hA 107 1 (2815, .aload_n 0, 1, 1714, 0, [0], []) rfl rfl rfl ?_
  refine bGo hA 107 2 (2816, .iload 4, 2, 1715, 0, [4], []) rfl rfl rfl ?_
  refine bGo hA 107 3 (2818, .iconst (2), 1, 1716, 0, [], [(2, 0)]) rfl rfl rfl ?_
  refine bEqI bl_2 ?_
  refine bGo hA 107 4 (2819, .iadd, 1, 1717, 0, [], []) rfl rfl rfl ?_
  refine bEqI (bn_add l4 2) ?_
  refine bGo hA 107 5 (2820, .iaload, 1, 1718, 0, [], []) rfl rfl rfl ?_
  refine ⟨rfl, (bIxP (x := (l4 + 2)) (n := bLen s1 200) h.2.2.1 k2.2.1), ?_⟩
  refine bEqL (x := (l4 + 2)) h.2.2.1 ?_
  refine bGo hA 107 6 (2821, .invokevirtual 302, 3, 1719, 0, [0, 12, 303, 2], []) rfl rfl rfl ?_
  refine ⟨rfl, ?_⟩
  refine hC _ _ _ _ _ (bRn_e (fun r7 s5 q8 k6 => ?_)) k2.2.2
  show A (1719, [.ref 200, .ref 11, .ref 12, .ref 154, .int (bn l4), .int (bn r3), v6, v7], [.int (bn r7)], s5)
  refine bGo hA 107 7 (2824, .istore 6, 2, 1720, 0, [6], []) rfl rfl rfl ?_
  refine bGo hA 107 8 (2826, .aload_n 2, 1, 1721, 0, [2], []) rfl rfl rfl ?_
  refine bGo hA 107 9 (2827, .invokevirtual 168, 3, 1722, 0, [0, 12, 196, 0], []) rfl rfl rfl ?_
  refine ⟨rfl, ?_⟩
  refine hC _ _ _ _ _ (bRn_e (fun r11 s9 q12 k10 => ?_)) k6
  show A (1722, [.ref 200, .ref 11, .ref 12, .ref 154, .int (bn l4), .int (bn r3), .int (bn r7), v7], [.int (bn r11)], s9)
  refine bGo hA 107 10 (2830, .iload 5, 2, 1723, 0, [5], []) rfl rfl rfl ?_
  refine bGo hA 107 11 (2832, .if_icmp .eq (5), 3, 1724, 1726, [], []) rfl rfl rfl ?_
  refine bB_eq (x := r11) (y := r3) q12 q4 (fun c13 => ?_) (fun c13 => ?_)
  · refine bGo hA 107 14 (2837, .iload 5, 2, 1727, 0, [5], []) rfl rfl rfl ?_
    refine bGo hA 107 15 (2839, .ifCond .ne (15), 3, 1728, 1737, [], []) rfl rfl rfl ?_
    refine bB_eq0 (x := r3) q4 (fun c14 => ?_) (fun c14 => ?_)
    · refine bGo hA 108 0 (2842, .aload_n 3, 1, 1729, 0, [3], []) rfl rfl rfl ?_
      refine bGo hA 108 1 (2843, .iconst (0), 1, 1730, 0, [], [(0, 0)]) rfl rfl rfl ?_
      refine bEqI bl_0 ?_
      refine bGo hA 108 2 (2844, .laload, 1, 1731, 0, [], []) rfl rfl rfl ?_
      refine ⟨rfl, (bIxP (x := 0) (n := 1) (by decide) (by decide)), ?_⟩
      refine bEqJ (x := 0) (by decide : bRg 0) ?_
      refine bGo hA 108 3 (2845, .iload 6, 2, 1732, 0, [6], []) rfl rfl rfl ?_
      refine bGo hA 108 4 (2847, .i2l, 1, 1733, 0, [], []) rfl rfl rfl ?_
      refine bGo hA 108 5 (2848, .lcmp, 1, 1734, 0, [], []) rfl rfl rfl ?_
      refine bEqI (bn_cmp (bj s9 154 0) (bL r7)) ?_
      refine bGo hA 108 6 (2849, .ifCond .eq (5), 3, 1735, 1737, [], []) rfl rfl rfl ?_
      refine bB_eq0 (x := (bCmp (bj s9 154 0) (bL r7))) (bRgI _) (fun c15 => ?_) (fun c15 => ?_)
      · refine bGo hA 108 9 (2854, .goto (560), 3, 1738, 2097, [], []) rfl rfl rfl ?_
        refine bGo hA 131 1 (3414, .iinc 4 (6), 3, 2098, 0, [4], [(6, 0)]) rfl rfl rfl ?_
        refine bEqC (fun v => A (2098, [.ref 200, .ref 11, .ref 12, .ref 154, .int v, .int (bn r3), .int (bn r7), v7], [], s9)) ((congrArg (fun w => bn l4 + w) bl_6).trans (bn_add l4 6)) ?_
        refine bGo hA 131 2 (3417, .goto (-3394), 3, 2099, 13, [], []) rfl rfl rfl ?_
        exact (((k10.1 c13).1 c14).1 c15).2
      · refine bGo hA 108 7 (2852, .iconst (0), 1, 1736, 0, [], [(0, 0)]) rfl rfl rfl ?_
        refine bEqI bl_0 ?_
        refine bGo hA 108 8 (2853, .ireturn, 1, 1737, 0, [2], []) rfl rfl rfl ?_
        exact ⟨b01 (Or.inl rfl), (((k10.1 c13).1 c14).2 c15)⟩
    · refine bGo hA 108 9 (2854, .goto (560), 3, 1738, 2097, [], []) rfl rfl rfl ?_
      refine bGo hA 131 1 (3414, .iinc 4 (6), 3, 2098, 0, [4], [(6, 0)]) rfl rfl rfl ?_
      refine bEqC (fun v => A (2098, [.ref 200, .ref 11, .ref 12, .ref 154, .int v, .int (bn r3), .int (bn r7), v7], [], s9)) ((congrArg (fun w => bn l4 + w) bl_6).trans (bn_add l4 6)) ?_
      refine bGo hA 131 2 (3417, .goto (-3394), 3, 2099, 13, [], []) rfl rfl rfl ?_
      exact ((k10.1 c13).2 c14).2
  · refine bGo hA 107 12 (2835, .iconst (0), 1, 1725, 0, [], [(0, 0)]) rfl rfl rfl ?_
    refine bEqI bl_0 ?_
    refine bGo hA 107 13 (2836, .ireturn, 1, 1726, 0, [2], []) rfl rfl rfl ?_
    exact ⟨b01 (Or.inl rfl), (k10.2 c13)⟩

theorem sq357_1738 {lvl : Nat} {C : bCall} {Q : bPost} {A : bPt → Prop} (hC : bMono C) (hA : bClosed lvl bm357 C Q A) {l4 : Int} {v5 : Value} {v6 : Value} {v7 : Value} {σ : bSt}  (h_l4 : bRg l4)
  (h : (bRg (l4 + 1) ∧ ((0 ≤ (l4 + 1) ∧ (l4 + 1) < (bLen σ 200 : Int)) ∧ (bRg (l4 + 2) ∧ ((0 ≤ (l4 + 2) ∧ (l4 + 2) < (bLen σ 200 : Int)) ∧ (C 348 [.ref 11, .int (bn (bi σ 200 (l4 + 1))), .int (bn (bi σ 200 (l4 + 2))), .ref 154] σ (bRn (fun r3 s1 => ((0 ≤ (l4 + 1) ∧ (l4 + 1) < (bLen s1 200 : Int)) ∧ ((0 ≤ (l4 + 2) ∧ (l4 + 2) < (bLen s1 200 : Int)) ∧ (C 255 [.ref 12, .int (bn (bi s1 200 (l4 + 1))), .int (bn (bi s1 200 (l4 + 2)))] s1 (bRn (fun r7 s5 => (C 196 [.ref 12] s5 (bRn (fun r11 s9 => ((r11 = r3 → ((r3 = 0 → (((bCmp (bj s9 154 0) (bL r7)) = 0 → (bRg (l4 + 6) ∧ A (13, [.ref 200, .ref 11, .ref 12, .ref 154, .int (bn (l4 + 6)), .int (bn r3), .int (bn r7), v7], [], s9))) ∧ (¬ (bCmp (bj s9 154 0) (bL r7)) = 0 → Q (.inl (some (.int (bn 0)))) s9))) ∧ (¬ r3 = 0 → (bRg (l4 + 6) ∧ A (13, [.ref 200, .ref 11, .ref 12, .ref 154, .int (bn (l4 + 6)), .int (bn r3), .int (bn r7), v7], [], s9))))) ∧ (¬ r11 = r3 → Q (.inl (some (.int (bn 0)))) s9)))))))))))))))))) : A (1738, [.ref 200, .ref 11, .ref 12, .ref 154, .int (bn l4), v5, v6, v7], [], σ) := by
  refine bGo hA 108 10 (2857, .aload_n 1, 1, 1739, 0, [1], []) rfl rfl rfl ?_
  refine bGo hA 108 11 (2858, .aload_n 0, 1, 1740, 0, [0], []) rfl rfl rfl ?_
  refine bGo hA 108 12 (2859, .iload 4, 2, 1741, 0, [4], []) rfl rfl rfl ?_
  refine bGo hA 108 13 (2861, .iconst (1), 1, 1742, 0, [], [(1, 0)]) rfl rfl rfl ?_
  refine bEqI bl_1 ?_
  refine bGo hA 108 14 (2862, .iadd, 1, 1743, 0, [], []) rfl rfl rfl ?_
  refine bEqI (bn_add l4 1) ?_
  refine bGo hA 108 15 (2863, .iaload, 1, 1744, 0, [], []) rfl rfl rfl ?_
  refine ⟨rfl, (bIxP (x := (l4 + 1)) (n := bLen σ 200) h.1 h.2.1), ?_⟩
  refine bEqL (x := (l4 + 1)) h.1 ?_
  refine bGo hA 109 0 (2864, .aload_n 0, 1, 1745, 0, [0], []) rfl rfl rfl ?_
  refine bGo hA 109 1 (2865, .iload 4, 2, 1746, 0, [4], []) rfl rfl rfl ?_
  refine bGo hA 109 2 (2867, .iconst (2), 1, 1747, 0, [], [(2, 0)]) rfl rfl rfl ?_
  refine bEqI bl_2 ?_
  refine bGo hA 109 3 (2868, .iadd, 1, 1748, 0, [], []) rfl rfl rfl ?_
  refine bEqI (bn_add l4 2) ?_
  refine bGo hA 109 4 (2869, .iaload, 1, 1749, 0, [], []) rfl rfl rfl ?_
  refine ⟨rfl, (bIxP (x := (l4 + 2)) (n := bLen σ 200) h.2.2.1 h.2.2.2.1), ?_⟩
  refine bEqL (x := (l4 + 2)) h.2.2.1 ?_
  refine bGo hA 109 5 (2870, .aload_n 3, 1, 1750, 0, [3], []) rfl rfl rfl ?_
  refine bGo hA 109 6 (2871, .invokestatic 303, 3, 1751, 0, [2, 348, 4], []) rfl rfl rfl ?_
  refine hC _ _ _ _ _ (bRn_e (fun r3 s1 q4 k2 => ?_)) h.2.2.2.2
  show A (1751, [.ref 200, .ref 11, .ref 12, .ref 154, .int (bn l4), v5, v6, v7], [.int (bn r3)], s1)
  refine bGo hA 109 7 (2874, .istore 5, 2, 1752, 0, [5], []) rfl rfl rfl ?_
  refine bGo hA 109 8 (2876, .aload_n 2, 1, 1753, 0, [2], []) rfl rfl rfl ?_
  refine bGo hA 109 9 (2877, .aload_n 0, 1, 1754, 0, [0], []) rfl rfl rfl ?_
  refine bGo hA 109 10 (2878, .iload 4, 2, 1755, 0, [4], []) rfl rfl rfl ?_
  refine bGo hA 109 11 (2880, .iconst (1), 1, 1756, 0, [], [(1, 0)]) rfl rfl rfl ?_
  refine bEqI bl_1 ?_
  refine bGo hA 109 12 (2881, .iadd, 1, 1757, 0, [], []) rfl rfl rfl ?_
  refine bEqI (bn_add l4 1) ?_
  refine bGo hA 109 13 (2882, .iaload, 1, 1758, 0, [], []) rfl rfl rfl ?_
  refine ⟨rfl, (bIxP (x := (l4 + 1)) (n := bLen s1 200) h.1 k2.1), ?_⟩
  refine bEqL (x := (l4 + 1)) h.1 ?_
  refine bGo hA 109 14 (2883, .aload_n 0, 1, 1759, 0, [0], []) rfl rfl rfl ?_
  refine bGo hA 109 15 (2884, .iload 4, 2, 1760, 0, [4], []) rfl rfl rfl ?_
  refine bGo hA 110 0 (2886, .iconst (2), 1, 1761, 0, [], [(2, 0)]) rfl rfl rfl ?_
  refine bEqI bl_2 ?_
  refine bGo hA 110 1 (2887, .iadd, 1, 1762, 0, [], []) rfl rfl rfl ?_
  refine bEqI (bn_add l4 2) ?_
  refine bGo hA 110 2 (2888, .iaload, 1, 1763, 0, [], []) rfl rfl rfl ?_
  refine ⟨rfl, (bIxP (x := (l4 + 2)) (n := bLen s1 200) h.2.2.1 k2.2.1), ?_⟩
  refine bEqL (x := (l4 + 2)) h.2.2.1 ?_
  refine bGo hA 110 3 (2889, .invokevirtual 305, 3, 1764, 0, [0, 12, 255, 2], []) rfl rfl rfl ?_
  refine ⟨rfl, ?_⟩
  refine hC _ _ _ _ _ (bRn_e (fun r7 s5 q8 k6 => ?_)) k2.2.2
  show A (1764, [.ref 200, .ref 11, .ref 12, .ref 154, .int (bn l4), .int (bn r3), v6, v7], [.int (bn r7)], s5)
  refine bGo hA 110 4 (2892, .istore 6, 2, 1765, 0, [6], []) rfl rfl rfl ?_
  refine bGo hA 110 5 (2894, .aload_n 2, 1, 1766, 0, [2], []) rfl rfl rfl ?_
  refine bGo hA 110 6 (2895, .invokevirtual 168, 3, 1767, 0, [0, 12, 196, 0], []) rfl rfl rfl ?_
  refine ⟨rfl, ?_⟩
  refine hC _ _ _ _ _ (bRn_e (fun r11 s9 q12 k10 => ?_)) k6
  show A (1767, [.ref 200, .ref 11, .ref 12, .ref 154, .int (bn l4), .int (bn r3), .int (bn r7), v7], [.int (bn r11)], s9)
  refine bGo hA 110 7 (2898, .iload 5, 2, 1768, 0, [5], []) rfl rfl rfl ?_
  refine bGo hA 110 8 (2900, .if_icmp .eq (5), 3, 1769, 1771, [], []) rfl rfl rfl ?_
  refine bB_eq (x := r11) (y := r3) q12 q4 (fun c13 => ?_) (fun c13 => ?_)
  · refine bGo hA 110 11 (2905, .iload 5, 2, 1772, 0, [5], []) rfl rfl rfl ?_
    refine bGo hA 110 12 (2907, .ifCond .ne (15), 3, 1773, 1782, [], []) rfl rfl rfl ?_
    refine bB_eq0 (x := r3) q4 (fun c14 => ?_) (fun c14 => ?_)
    · refine bGo hA 110 13 (2910, .aload_n 3, 1, 1774, 0, [3], []) rfl rfl rfl ?_
      refine bGo hA 110 14 (2911, .iconst (0), 1, 1775, 0, [], [(0, 0)]) rfl rfl rfl ?_
      refine bEqI bl_0 ?_
      refine bGo hA 110 15 (2912, .laload, 1, 1776, 0, [], []) rfl rfl rfl ?_
      refine ⟨rfl, (bIxP (x := 0) (n := 1) (by decide) (by decide)), ?_⟩
      refine bEqJ (x := 0) (by decide : bRg 0) ?_
      refine bGo hA 111 0 (2913, .iload 6, 2, 1777, 0, [6], []) rfl rfl rfl ?_
      refine bGo hA 111 1 (2915, .i2l, 1, 1778, 0, [], []) rfl rfl rfl ?_
      refine bGo hA 111 2 (2916, .lcmp, 1, 1779, 0, [], []) rfl rfl rfl ?_
      refine bEqI (bn_cmp (bj s9 154 0) (bL r7)) ?_
      refine bGo hA 111 3 (2917, .ifCond .eq (5), 3, 1780, 1782, [], []) rfl rfl rfl ?_
      refine bB_eq0 (x := (bCmp (bj s9 154 0) (bL r7))) (bRgI _) (fun c15 => ?_) (fun c15 => ?_)
      · refine bGo hA 111 6 (2922, .goto (492), 3, 1783, 2097, [], []) rfl rfl rfl ?_
        refine bGo hA 131 1 (3414, .iinc 4 (6), 3, 2098, 0, [4], [(6, 0)]) rfl rfl rfl ?_
        refine bEqC (fun v => A (2098, [.ref 200, .ref 11, .ref 12, .ref 154, .int v, .int (bn r3), .int (bn r7), v7], [], s9)) ((congrArg (fun w => bn l4 + w) bl_6).trans (bn_add l4 6)) ?_
        refine bGo hA 131 2 (3417, .goto (-3394), 3, 2099, 13, [], []) rfl rfl rfl ?_
        exact (((k10.1 c13).1 c14).1 c15).2
      · refine bGo hA 111 4 (2920, .iconst (0), 1, 1781, 0, [], [(0, 0)]) rfl rfl rfl ?_
        refine bEqI bl_0 ?_
        refine bGo hA 111 5 (2921, .ireturn, 1, 1782, 0, [2], []) rfl rfl rfl ?_
        exact ⟨b01 (Or.inl rfl), (((k10.1 c13).1 c14).2 c15)⟩
    · refine bGo hA 111 6 (2922, .goto (492), 3, 1783, 2097, [], []) rfl rfl rfl ?_
      refine bGo hA 131 1 (3414, .iinc 4 (6), 3, 2098, 0, [4], [(6, 0)]) rfl rfl rfl ?_
      refine bEqC (fun v => A (2098, [.ref 200, .ref 11, .ref 12, .ref 154, .int v, .int (bn r3), .int (bn r7), v7], [], s9)) ((congrArg (fun w => bn l4 + w) bl_6).trans (bn_add l4 6)) ?_
      refine bGo hA 131 2 (3417, .goto (-3394), 3, 2099, 13, [], []) rfl rfl rfl ?_
      exact ((k10.1 c13).2 c14).2
  · refine bGo hA 110 9 (2903, .iconst (0), 1, 1770, 0, [], [(0, 0)]) rfl rfl rfl ?_
    refine bEqI bl_0 ?_
    refine bGo hA 110 10 (2904, .ireturn, 1, 1771, 0, [2], []) rfl rfl rfl ?_
    exact ⟨b01 (Or.inl rfl), (k10.2 c13)⟩

theorem sq357_1783 {lvl : Nat} {C : bCall} {Q : bPost} {A : bPt → Prop} (hC : bMono C) (hA : bClosed lvl bm357 C Q A) {l4 : Int} {v5 : Value} {v6 : Value} {v7 : Value} {σ : bSt}  (h_l4 : bRg l4)
  (h : (bRg (l4 + 1) ∧ ((0 ≤ (l4 + 1) ∧ (l4 + 1) < (bLen σ 200 : Int)) ∧ (C 349 [.ref 11, .int (bn (bi σ 200 (l4 + 1))), .ref 154] σ (bRn (fun r3 s1 => ((0 ≤ (l4 + 1) ∧ (l4 + 1) < (bLen s1 200 : Int)) ∧ (C 256 [.ref 12, .int (bn (bi s1 200 (l4 + 1)))] s1 (bRn (fun r7 s5 => (C 196 [.ref 12] s5 (bRn (fun r11 s9 => ((r11 = r3 → ((r3 = 0 → (((bCmp (bj s9 154 0) (bL r7)) = 0 → (bRg (l4 + 6) ∧ A (13, [.ref 200, .ref 11, .ref 12, .ref 154, .int (bn (l4 + 6)), .int (bn r3), .int (bn r7), v7], [], s9))) ∧ (¬ (bCmp (bj s9 154 0) (bL r7)) = 0 → Q (.inl (some (.int (bn 0)))) s9))) ∧ (¬ r3 = 0 → (bRg (l4 + 6) ∧ A (13, [.ref 200, .ref 11, .ref 12, .ref 154, .int (bn (l4 + 6)), .int (bn r3), .int (bn r7), v7], [], s9))))) ∧ (¬ r11 = r3 → Q (.inl (some (.int (bn 0)))) s9))))))))))))))) : A (1783, [.ref 200, .ref 11, .ref 12, .ref 154, .int (bn l4), v5, v6, v7], [], σ) := by
  refine bGo hA 111 7 (2925, .aload_n 1, 1, 1784, 0, [1], []) rfl rfl rfl ?_
  refine bGo hA 111 8 (2926, .aload_n 0, 1, 1785, 0, [0], []) rfl rfl rfl ?_
  refine bGo hA 111 9 (2927, .iload 4, 2, 1786, 0, [4], []) rfl rfl rfl ?_
  refine bGo hA 111 10 (2929, .iconst (1), 1, 1787, 0, [], [(1, 0)]) rfl rfl rfl ?_
  refine bEqI bl_1 ?_
  refine bGo hA 111 11 (2930, .iadd, 1, 1788, 0, [], []) rfl rfl rfl ?_
  refine bEqI (bn_add l4 1) ?_
  refine bGo hA 111 12 (2931, .iaload, 1, 1789, 0, [], []) rfl rfl rfl ?_
  refine ⟨rfl, (bIxP (x := (l4 + 1)) (n := bLen σ 200) h.1 h.2.1), ?_⟩
  refine bEqL (x := (l4 + 1)) h.1 ?_
  refine bGo hA 111 13 (2932, .aload_n 3, 1, 1790, 0, [3], []) rfl rfl rfl ?_
  refine bGo hA 111 14 (2933, .invokestatic 306, 3, 1791, 0, [2, 349, 3], []) rfl rfl rfl ?_
  refine hC _ _ _ _ _ (bRn_e (fun r3 s1 q4 k2 => ?_)) h.2.2
  show A (1791, [.ref 200, .ref 11, .ref 12, .ref 154, .int (bn l4), v5, v6, v7], [.int (bn r3)], s1)
  refine bGo hA 111 15 (2936, .istore 5, 2, 1792, 0, [5], []) rfl rfl rfl ?_
  refine bGo hA 112 0 (2938, .aload_n 2, 1, 1793, 0, [2], []) rfl rfl rfl ?_
  refine bGo hA 112 1 (2939, .aload_n 0, 1, 1794, 0, [0], []) rfl rfl rfl ?_
  refine bGo hA 112 2 (2940, .iload 4, 2, 1795, 0, [4], []) rfl rfl rfl ?_
  refine bGo hA 112 3 (2942, .iconst (1), 1, 1796, 0, [], [(1, 0)]) rfl rfl rfl ?_
  refine bEqI bl_1 ?_
  refine bGo hA 112 4 (2943, .iadd, 1, 1797, 0, [], []) rfl rfl rfl ?_
  refine bEqI (bn_add l4 1) ?_
  refine bGo hA 112 5 (2944, .iaload, 1, 1798, 0, [], []) rfl rfl rfl ?_
  refine ⟨rfl, (bIxP (x := (l4 + 1)) (n := bLen s1 200) h.1 k2.1), ?_⟩
  refine bEqL (x := (l4 + 1)) h.1 ?_
  refine bGo hA 112 6 (2945, .invokevirtual 308, 3, 1799, 0, [0, 12, 256, 1], []) rfl rfl rfl ?_
  refine ⟨rfl, ?_⟩
  refine hC _ _ _ _ _ (bRn_e (fun r7 s5 q8 k6 => ?_)) k2.2
  show A (1799, [.ref 200, .ref 11, .ref 12, .ref 154, .int (bn l4), .int (bn r3), v6, v7], [.int (bn r7)], s5)
  refine bGo hA 112 7 (2948, .istore 6, 2, 1800, 0, [6], []) rfl rfl rfl ?_
  refine bGo hA 112 8 (2950, .aload_n 2, 1, 1801, 0, [2], []) rfl rfl rfl ?_
  refine bGo hA 112 9 (2951, .invokevirtual 168, 3, 1802, 0, [0, 12, 196, 0], []) rfl rfl rfl ?_
  refine ⟨rfl, ?_⟩
  refine hC _ _ _ _ _ (bRn_e (fun r11 s9 q12 k10 => ?_)) k6
  show A (1802, [.ref 200, .ref 11, .ref 12, .ref 154, .int (bn l4), .int (bn r3), .int (bn r7), v7], [.int (bn r11)], s9)
  refine bGo hA 112 10 (2954, .iload 5, 2, 1803, 0, [5], []) rfl rfl rfl ?_
  refine bGo hA 112 11 (2956, .if_icmp .eq (5), 3, 1804, 1806, [], []) rfl rfl rfl ?_
  refine bB_eq (x := r11) (y := r3) q12 q4 (fun c13 => ?_) (fun c13 => ?_)
  · refine bGo hA 112 14 (2961, .iload 5, 2, 1807, 0, [5], []) rfl rfl rfl ?_
    refine bGo hA 112 15 (2963, .ifCond .ne (15), 3, 1808, 1817, [], []) rfl rfl rfl ?_
    refine bB_eq0 (x := r3) q4 (fun c14 => ?_) (fun c14 => ?_)
    · refine bGo hA 113 0 (2966, .aload_n 3, 1, 1809, 0, [3], []) rfl rfl rfl ?_
      refine bGo hA 113 1 (2967, .iconst (0), 1, 1810, 0, [], [(0, 0)]) rfl rfl rfl ?_
      refine bEqI bl_0 ?_
      refine bGo hA 113 2 (2968, .laload, 1, 1811, 0, [], []) rfl rfl rfl ?_
      refine ⟨rfl, (bIxP (x := 0) (n := 1) (by decide) (by decide)), ?_⟩
      refine bEqJ (x := 0) (by decide : bRg 0) ?_
      refine bGo hA 113 3 (2969, .iload 6, 2, 1812, 0, [6], []) rfl rfl rfl ?_
      refine bGo hA 113 4 (2971, .i2l, 1, 1813, 0, [], []) rfl rfl rfl ?_
      refine bGo hA 113 5 (2972, .lcmp, 1, 1814, 0, [], []) rfl rfl rfl ?_
      refine bEqI (bn_cmp (bj s9 154 0) (bL r7)) ?_
      refine bGo hA 113 6 (2973, .ifCond .eq (5), 3, 1815, 1817, [], []) rfl rfl rfl ?_
      refine bB_eq0 (x := (bCmp (bj s9 154 0) (bL r7))) (bRgI _) (fun c15 => ?_) (fun c15 => ?_)
      · refine bGo hA 113 9 (2978, .goto (436), 3, 1818, 2097, [], []) rfl rfl rfl ?_
        refine bGo hA 131 1 (3414, .iinc 4 (6), 3, 2098, 0, [4], [(6, 0)]) rfl rfl rfl ?_
        refine bEqC (fun v => A (2098, [.ref 200, .ref 11, .ref 12, .ref 154, .int v, .int (bn r3), .int (bn r7), v7], [], s9)) ((congrArg (fun w => bn l4 + w) bl_6).trans (bn_add l4 6)) ?_
        refine bGo hA 131 2 (3417, .goto (-3394), 3, 2099, 13, [], []) rfl rfl rfl ?_
        exact (((k10.1 c13).1 c14).1 c15).2
      · refine bGo hA 113 7 (2976, .iconst (0), 1, 1816, 0, [], [(0, 0)]) rfl rfl rfl ?_
        refine bEqI bl_0 ?_
        refine bGo hA 113 8 (2977, .ireturn, 1, 1817, 0, [2], []) rfl rfl rfl ?_
        exact ⟨b01 (Or.inl rfl), (((k10.1 c13).1 c14).2 c15)⟩
    · refine bGo hA 113 9 (2978, .goto (436), 3, 1818, 2097, [], []) rfl rfl rfl ?_
      refine bGo hA 131 1 (3414, .iinc 4 (6), 3, 2098, 0, [4], [(6, 0)]) rfl rfl rfl ?_
      refine bEqC (fun v => A (2098, [.ref 200, .ref 11, .ref 12, .ref 154, .int v, .int (bn r3), .int (bn r7), v7], [], s9)) ((congrArg (fun w => bn l4 + w) bl_6).trans (bn_add l4 6)) ?_
      refine bGo hA 131 2 (3417, .goto (-3394), 3, 2099, 13, [], []) rfl rfl rfl ?_
      exact ((k10.1 c13).2 c14).2
  · refine bGo hA 112 12 (2959, .iconst (0), 1, 1805, 0, [], [(0, 0)]) rfl rfl rfl ?_
    refine bEqI bl_0 ?_
    refine bGo hA 112 13 (2960, .ireturn, 1, 1806, 0, [2], []) rfl rfl rfl ?_
    exact ⟨b01 (Or.inl rfl), (k10.2 c13)⟩

theorem sq357_1818 {lvl : Nat} {C : bCall} {Q : bPost} {A : bPt → Prop} (hC : bMono C) (hA : bClosed lvl bm357 C Q A) {l4 : Int} {v5 : Value} {v6 : Value} {v7 : Value} {σ : bSt}  (h_l4 : bRg l4)
  (h : (bRg (l4 + 1) ∧ ((0 ≤ (l4 + 1) ∧ (l4 + 1) < (bLen σ 200 : Int)) ∧ (C 350 [.ref 11, .int (bn (bi σ 200 (l4 + 1))), .ref 154] σ (bRn (fun r3 s1 => ((0 ≤ (l4 + 1) ∧ (l4 + 1) < (bLen s1 200 : Int)) ∧ (C 263 [.ref 12, .int (bn (bi s1 200 (l4 + 1)))] s1 (bRn (fun r7 s5 => (C 196 [.ref 12] s5 (bRn (fun r11 s9 => ((r11 = r3 → ((r3 = 0 → (((bCmp (bj s9 154 0) (bL r7)) = 0 → (bRg (l4 + 6) ∧ A (13, [.ref 200, .ref 11, .ref 12, .ref 154, .int (bn (l4 + 6)), .int (bn r3), .int (bn r7), v7], [], s9))) ∧ (¬ (bCmp (bj s9 154 0) (bL r7)) = 0 → Q (.inl (some (.int (bn 0)))) s9))) ∧ (¬ r3 = 0 → (bRg (l4 + 6) ∧ A (13, [.ref 200, .ref 11, .ref 12, .ref 154, .int (bn (l4 + 6)), .int (bn r3), .int (bn r7), v7], [], s9))))) ∧ (¬ r11 = r3 → Q (.inl (some (.int (bn 0)))) s9))))))))))))))) : A (1818, [.ref 200, .ref 11, .ref 12, .ref 154, .int (bn l4), v5, v6, v7], [], σ) := by
  refine bGo hA 113 10 (2981, .aload_n 1, 1, 1819, 0, [1], []) rfl rfl rfl ?_
  refine bGo hA 113 11 (2982, .aload_n 0, 1, 1820, 0, [0], []) rfl rfl rfl ?_
  refine bGo hA 113 12 (2983, .iload 4, 2, 1821, 0, [4], []) rfl rfl rfl ?_
  refine bGo hA 113 13 (2985, .iconst (1), 1, 1822, 0, [], [(1, 0)]) rfl rfl rfl ?_
  refine bEqI bl_1 ?_
  refine bGo hA 113 14 (2986, .iadd, 1, 1823, 0, [], []) rfl rfl rfl ?_
  refine bEqI (bn_add l4 1) ?_
  refine bGo hA 113 15 (2987, .iaload, 1, 1824, 0, [], []) rfl rfl rfl ?_
  refine ⟨rfl, (bIxP (x := (l4 + 1)) (n := bLen σ 200) h.1 h.2.1), ?_⟩
  refine bEqL (x := (l4 + 1)) h.1 ?_
  refine bGo hA 114 0 (2988, .aload_n 3, 1, 1825, 0, [3], []) rfl rfl rfl ?_
  refine bGo hA 114 1 (2989, .invokestatic 309, 3, 1826, 0, [2, 350, 3], []) rfl rfl rfl ?_
  refine hC _ _ _ _ _ (bRn_e (fun r3 s1 q4 k2 => ?_)) h.2.2
  show A (1826, [.ref 200, .ref 11, .ref 12, .ref 154, .int (bn l4), v5, v6, v7], [.int (bn r3)], s1)
  refine bGo hA 114 2 (2992, .istore 5, 2, 1827, 0, [5], []) rfl rfl rfl ?_
  refine bGo hA 114 3 (2994, .aload_n 2, 1, 1828, 0, [2], []) rfl rfl rfl ?_
  refine bGo hA 114 4 (2995, .aload_n 0, 1, 1829, 0, [0], []) rfl rfl rfl ?_
  refine bGo hA 114 5 (2996, .iload 4, 2, 1830, 0, [4], []) rfl rfl rfl ?_
  refine bGo hA 114 6 (2998, .iconst (1), 1, 1831, 0, [], [(1, 0)]) rfl rfl rfl ?_
  refine bEqI bl_1 ?_
  refine bGo hA 114 7 (2999, .iadd, 1, 1832, 0, [], []) rfl rfl rfl ?_
  refine bEqI (bn_add l4 1) ?_
  refine bGo hA 114 8 (3000, .iaload, 1, 1833, 0, [], []) rfl rfl rfl ?_
  refine ⟨rfl, (bIxP (x := (l4 + 1)) (n := bLen s1 200) h.1 k2.1), ?_⟩
  refine bEqL (x := (l4 + 1)) h.1 ?_
  refine bGo hA 114 9 (3001, .invokevirtual 311, 3, 1834, 0, [0, 12, 263, 1], []) rfl rfl rfl ?_
  refine ⟨rfl, ?_⟩
  refine hC _ _ _ _ _ (bRn_e (fun r7 s5 q8 k6 => ?_)) k2.2
  show A (1834, [.ref 200, .ref 11, .ref 12, .ref 154, .int (bn l4), .int (bn r3), v6, v7], [.int (bn r7)], s5)
  refine bGo hA 114 10 (3004, .istore 6, 2, 1835, 0, [6], []) rfl rfl rfl ?_
  refine bGo hA 114 11 (3006, .aload_n 2, 1, 1836, 0, [2], []) rfl rfl rfl ?_
  refine bGo hA 114 12 (3007, .invokevirtual 168, 3, 1837, 0, [0, 12, 196, 0], []) rfl rfl rfl ?_
  refine ⟨rfl, ?_⟩
  refine hC _ _ _ _ _ (bRn_e (fun r11 s9 q12 k10 => ?_)) k6
  show A (1837, [.ref 200, .ref 11, .ref 12, .ref 154, .int (bn l4), .int (bn r3), .int (bn r7), v7], [.int (bn r11)], s9)
  refine bGo hA 114 13 (3010, .iload 5, 2, 1838, 0, [5], []) rfl rfl rfl ?_
  refine bGo hA 114 14 (3012, .if_icmp .eq (5), 3, 1839, 1841, [], []) rfl rfl rfl ?_
  refine bB_eq (x := r11) (y := r3) q12 q4 (fun c13 => ?_) (fun c13 => ?_)
  · refine bGo hA 115 1 (3017, .iload 5, 2, 1842, 0, [5], []) rfl rfl rfl ?_
    refine bGo hA 115 2 (3019, .ifCond .ne (15), 3, 1843, 1852, [], []) rfl rfl rfl ?_
    refine bB_eq0 (x := r3) q4 (fun c14 => ?_) (fun c14 => ?_)
    · refine bGo hA 115 3 (3022, .aload_n 3, 1, 1844, 0, [3], []) rfl rfl rfl ?_
      refine bGo hA 115 4 (3023, .iconst (0), 1, 1845, 0, [], [(0, 0)]) rfl rfl rfl ?_
      refine bEqI bl_0 ?_
      refine bGo hA 115 5 (3024, .laload, 1, 1846, 0, [], []) rfl rfl rfl ?_
      refine ⟨rfl, (bIxP (x := 0) (n := 1) (by decide) (by decide)), ?_⟩
      refine bEqJ (x := 0) (by decide : bRg 0) ?_
      refine bGo hA 115 6 (3025, .iload 6, 2, 1847, 0, [6], []) rfl rfl rfl ?_
      refine bGo hA 115 7 (3027, .i2l, 1, 1848, 0, [], []) rfl rfl rfl ?_
      refine bGo hA 115 8 (3028, .lcmp, 1, 1849, 0, [], []) rfl rfl rfl ?_
      refine bEqI (bn_cmp (bj s9 154 0) (bL r7)) ?_
      refine bGo hA 115 9 (3029, .ifCond .eq (5), 3, 1850, 1852, [], []) rfl rfl rfl ?_
      refine bB_eq0 (x := (bCmp (bj s9 154 0) (bL r7))) (bRgI _) (fun c15 => ?_) (fun c15 => ?_)
      · refine bGo hA 115 12 (3034, .goto (380), 3, 1853, 2097, [], []) rfl rfl rfl ?_
        refine bGo hA 131 1 (3414, .iinc 4 (6), 3, 2098, 0, [4], [(6, 0)]) rfl rfl rfl ?_
        refine bEqC (fun v => A (2098, [.ref 200, .ref 11, .ref 12, .ref 154, .int v, .int (bn r3), .int (bn r7), v7], [], s9)) ((congrArg (fun w => bn l4 + w) bl_6).trans (bn_add l4 6)) ?_
        refine bGo hA 131 2 (3417, .goto (-3394), 3, 2099, 13, [], []) rfl rfl rfl ?_
        exact (((k10.1 c13).1 c14).1 c15).2
      · refine bGo hA 115 10 (3032, .iconst (0), 1, 1851, 0, [], [(0, 0)]) rfl rfl rfl ?_
        refine bEqI bl_0 ?_
        refine bGo hA 115 11 (3033, .ireturn, 1, 1852, 0, [2], []) rfl rfl rfl ?_
        exact ⟨b01 (Or.inl rfl), (((k10.1 c13).1 c14).2 c15)⟩
    · refine bGo hA 115 12 (3034, .goto (380), 3, 1853, 2097, [], []) rfl rfl rfl ?_
      refine bGo hA 131 1 (3414, .iinc 4 (6), 3, 2098, 0, [4], [(6, 0)]) rfl rfl rfl ?_
      refine bEqC (fun v => A (2098, [.ref 200, .ref 11, .ref 12, .ref 154, .int v, .int (bn r3), .int (bn r7), v7], [], s9)) ((congrArg (fun w => bn l4 + w) bl_6).trans (bn_add l4 6)) ?_
      refine bGo hA 131 2 (3417, .goto (-3394), 3, 2099, 13, [], []) rfl rfl rfl ?_
      exact ((k10.1 c13).2 c14).2
  · refine bGo hA 114 15 (3015, .iconst (0), 1, 1840, 0, [], [(0, 0)]) rfl rfl rfl ?_
    refine bEqI bl_0 ?_
    refine bGo hA 115 0 (3016, .ireturn, 1, 1841, 0, [2], []) rfl rfl rfl ?_
    exact ⟨b01 (Or.inl rfl), (k10.2 c13)⟩

theorem sq357_1853 {lvl : Nat} {C : bCall} {Q : bPost} {A : bPt → Prop} (hC : bMono C) (hA : bClosed lvl bm357 C Q A) {l4 : Int} {v5 : Value} {v6 : Value} {v7 : Value} {σ : bSt}  (h_l4 : bRg l4)
  (h : (bRg (l4 + 1) ∧ ((0 ≤ (l4 + 1) ∧ (l4 + 1) < (bLen σ 200 : Int)) ∧ (C 351 [.ref 11, .int (bn (bi σ 200 (l4 + 1))), .ref 154] σ (bRn (fun r3 s1 => ((0 ≤ (l4 + 1) ∧ (l4 + 1) < (bLen s1 200 : Int)) ∧ (C 304 [.ref 12, .int (bn (bi s1 200 (l4 + 1)))] s1 (bRn (fun r7 s5 => (C 196 [.ref 12] s5 (bRn (fun r11 s9 => ((r11 = r3 → ((r3 = 0 → (((bCmp (bj s9 154 0) (bL r7)) = 0 → (bRg (l4 + 6) ∧ A (13, [.ref 200, .ref 11, .ref 12, .ref 154, .int (bn (l4 + 6)), .int (bn r3), .int (bn r7), v7], [], s9))) ∧ (¬ (bCmp (bj s9 154 0) (bL r7)) = 0 → Q (.inl (some (.int (bn 0)))) s9))) ∧ (¬ r3 = 0 → (bRg (l4 + 6) ∧ A (13, [.ref 200, .ref 11, .ref 12, .ref 154, .int (bn (l4 + 6)), .int (bn r3), .int (bn r7), v7], [], s9))))) ∧ (¬ r11 = r3 → Q (.inl (some (.int (bn 0)))) s9))))))))))))))) : A (1853, [.ref 200, .ref 11, .ref 12, .ref 154, .int (bn l4), v5, v6, v7], [], σ) := by
  refine bGo hA 115 13 (3037, .aload_n 1, 1, 1854, 0, [1], []) rfl rfl rfl ?_
  refine bGo hA 115 14 (3038, .aload_n 0, 1, 1855, 0, [0], []) rfl rfl rfl ?_
  refine bGo hA 115 15 (3039, .iload 4, 2, 1856, 0, [4], []) rfl rfl rfl ?_
  refine bGo hA 116 0 (3041, .iconst (1), 1, 1857, 0, [], [(1, 0)]) rfl rfl rfl ?_
  refine bEqI bl_1 ?_
  refine bGo hA 116 1 (3042, .iadd, 1, 1858, 0, [], []) rfl rfl rfl ?_
  refine bEqI (bn_add l4 1) ?_
  refine bGo hA 116 2 (3043, .iaload, 1, 1859, 0, [], []) rfl rfl rfl ?_
  refine ⟨rfl, (bIxP (x := (l4 + 1)) (n := bLen σ 200) h.1 h.2.1), ?_⟩
  refine bEqL (x := (l4 + 1)) h.1 ?_
  refine bGo hA 116 3 (3044, .aload_n 3, 1, 1860, 0, [3], []) rfl rfl rfl ?_
  refine bGo hA 116 4 (3045, .invokestatic 312, 3, 1861, 0, [2, 351, 3], []) rfl rfl rfl ?_
  refine hC _ _ _ _ _ (bRn_e (fun r3 s1 q4 k2 => ?_)) h.2.2
  show A (1861, [.ref 200, .ref 11, .ref 12, .ref 154, .int (bn l4), v5, v6, v7], [.int (bn r3)], s1)
  refine bGo hA 116 5 (3048, .istore 5, 2, 1862, 0, [5], []) rfl rfl rfl ?_
  refine bGo hA 116 6 (3050, .aload_n 2, 1, 1863, 0, [2], []) rfl rfl rfl ?_
  refine bGo hA 116 7 (3051, .aload_n 0, 1, 1864, 0, [0], []) rfl rfl rfl ?_
  refine bGo hA 116 8 (3052, .iload 4, 2, 1865, 0, [4], []) rfl rfl rfl ?_
  refine bGo hA 116 9 (3054, .iconst (1), 1, 1866, 0, [], [(1, 0)]) rfl rfl rfl ?_
  refine bEqI bl_1 ?_
  refine bGo hA 116 10 (3055, .iadd, 1, 1867, 0, [], []) rfl rfl rfl ?_
  refine bEqI (bn_add l4 1) ?_
  refine bGo hA 116 11 (3056, .iaload, 1, 1868, 0, [], []) rfl rfl rfl ?_
  refine ⟨rfl, (bIxP (x := (l4 + 1)) (n := bLen s1 200) h.1 k2.1), ?_⟩
  refine bEqL (x := (l4 + 1)) h.1 ?_
  refine bGo hA 116 12 (3057, .invokevirtual 314, 3, 1869, 0, [0, 12, 304, 1], []) rfl rfl rfl ?_
  refine ⟨rfl, ?_⟩
  refine hC _ _ _ _ _ (bRn_e (fun r7 s5 q8 k6 => ?_)) k2.2
  show A (1869, [.ref 200, .ref 11, .ref 12, .ref 154, .int (bn l4), .int (bn r3), v6, v7], [.int (bn r7)], s5)
  refine bGo hA 116 13 (3060, .istore 6, 2, 1870, 0, [6], []) rfl rfl rfl ?_
  refine bGo hA 116 14 (3062, .aload_n 2, 1, 1871, 0, [2], []) rfl rfl rfl ?_
  refine bGo hA 116 15 (3063, .invokevirtual 168, 3, 1872, 0, [0, 12, 196, 0], []) rfl rfl rfl ?_
  refine ⟨rfl, ?_⟩
  refine hC _ _ _ _ _ (bRn_e (fun r11 s9 q12 k10 => ?_)) k6
  show A (1872, [.ref 200, .ref 11, .ref 12, .ref 154, .int (bn l4), .int (bn r3), .int (bn r7), v7], [.int (bn r11)], s9)
  refine bGo hA 117 0 (3066, .iload 5, 2, 1873, 0, [5], []) rfl rfl rfl ?_
  refine bGo hA 117 1 (3068, .if_icmp .eq (5), 3, 1874, 1876, [], []) rfl rfl rfl ?_
  refine bB_eq (x := r11) (y := r3) q12 q4 (fun c13 => ?_) (fun c13 => ?_)
  · refine bGo hA 117 4 (3073, .iload 5, 2, 1877, 0, [5], []) rfl rfl rfl ?_
    refine bGo hA 117 5 (3075, .ifCond .ne (15), 3, 1878, 1887, [], []) rfl rfl rfl ?_
    refine bB_eq0 (x := r3) q4 (fun c14 => ?_) (fun c14 => ?_)
    · refine bGo hA 117 6 (3078, .aload_n 3, 1, 1879, 0, [3], []) rfl rfl rfl ?_
      refine bGo hA 117 7 (3079, .iconst (0), 1, 1880, 0, [], [(0, 0)]) rfl rfl rfl ?_
      refine bEqI bl_0 ?_
      refine bGo hA 117 8 (3080, .laload, 1, 1881, 0, [], []) rfl rfl rfl ?_
      refine ⟨rfl, (bIxP (x := 0) (n := 1) (by decide) (by decide)), ?_⟩
      refine bEqJ (x := 0) (by decide : bRg 0) ?_
      refine bGo hA 117 9 (3081, .iload 6, 2, 1882, 0, [6], []) rfl rfl rfl ?_
      refine bGo hA 117 10 (3083, .i2l, 1, 1883, 0, [], []) rfl rfl rfl ?_
      refine bGo hA 117 11 (3084, .lcmp, 1, 1884, 0, [], []) rfl rfl rfl ?_
      refine bEqI (bn_cmp (bj s9 154 0) (bL r7)) ?_
      refine bGo hA 117 12 (3085, .ifCond .eq (5), 3, 1885, 1887, [], []) rfl rfl rfl ?_
      refine bB_eq0 (x := (bCmp (bj s9 154 0) (bL r7))) (bRgI _) (fun c15 => ?_) (fun c15 => ?_)
      · refine bGo hA 117 15 (3090, .goto (324), 3, 1888, 2097, [], []) rfl rfl rfl ?_
        refine bGo hA 131 1 (3414, .iinc 4 (6), 3, 2098, 0, [4], [(6, 0)]) rfl rfl rfl ?_
        refine bEqC (fun v => A (2098, [.ref 200, .ref 11, .ref 12, .ref 154, .int v, .int (bn r3), .int (bn r7), v7], [], s9)) ((congrArg (fun w => bn l4 + w) bl_6).trans (bn_add l4 6)) ?_
        refine bGo hA 131 2 (3417, .goto (-3394), 3, 2099, 13, [], []) rfl rfl rfl ?_
        exact (((k10.1 c13).1 c14).1 c15).2
      · refine bGo hA 117 13 (3088, .iconst (0), 1, 1886, 0, [], [(0, 0)]) rfl rfl rfl ?_
        refine bEqI bl_0 ?_
        refine bGo hA 117 14 (3089, .ireturn, 1, 1887, 0, [2], []) rfl rfl rfl ?_
        exact ⟨b01 (Or.inl rfl), (((k10.1 c13).1 c14).2 c15)⟩
    · refine bGo hA 117 15 (3090, .goto (324), 3, 1888, 2097, [], []) rfl rfl rfl ?_
      refine bGo hA 131 1 (3414, .iinc 4 (6), 3, 2098, 0, [4], [(6, 0)]) rfl rfl rfl ?_
      refine bEqC (fun v => A (2098, [.ref 200, .ref 11, .ref 12, .ref 154, .int v, .int (bn r3), .int (bn r7), v7], [], s9)) ((congrArg (fun w => bn l4 + w) bl_6).trans (bn_add l4 6)) ?_
      refine bGo hA 131 2 (3417, .goto (-3394), 3, 2099, 13, [], []) rfl rfl rfl ?_
      exact ((k10.1 c13).2 c14).2
  · refine bGo hA 117 2 (3071, .iconst (0), 1, 1875, 0, [], [(0, 0)]) rfl rfl rfl ?_
    refine bEqI bl_0 ?_
    refine bGo hA 117 3 (3072, .ireturn, 1, 1876, 0, [2], []) rfl rfl rfl ?_
    exact ⟨b01 (Or.inl rfl), (k10.2 c13)⟩

theorem sq357_1888 {lvl : Nat} {C : bCall} {Q : bPost} {A : bPt → Prop} (hC : bMono C) (hA : bClosed lvl bm357 C Q A) {l4 : Int} {v5 : Value} {v6 : Value} {v7 : Value} {σ : bSt}  (h_l4 : bRg l4)
  (h : (bRg (l4 + 1) ∧ ((0 ≤ (l4 + 1) ∧ (l4 + 1) < (bLen σ 200 : Int)) ∧ (bRg (l4 + 2) ∧ ((0 ≤ (l4 + 2) ∧ (l4 + 2) < (bLen σ 200 : Int)) ∧ (C 352 [.ref 11, .int (bn (bi σ 200 (l4 + 1))), .int (bn (bi σ 200 (l4 + 2))), .ref 154] σ (bRn (fun r3 s1 => ((0 ≤ (l4 + 1) ∧ (l4 + 1) < (bLen s1 200 : Int)) ∧ ((0 ≤ (l4 + 2) ∧ (l4 + 2) < (bLen s1 200 : Int)) ∧ (C 306 [.ref 12, .int (bn (bi s1 200 (l4 + 1))), .int (bn (bi s1 200 (l4 + 2)))] s1 (bRn (fun r7 s5 => (C 196 [.ref 12] s5 (bRn (fun r11 s9 => ((r11 = r3 → ((r3 = 0 → (((bCmp (bj s9 154 0) (bL r7)) = 0 → (bRg (l4 + 6) ∧ A (13, [.ref 200, .ref 11, .ref 12, .ref 154, .int (bn (l4 + 6)), .int (bn r3), .int (bn r7), v7], [], s9))) ∧ (¬ (bCmp (bj s9 154 0) (bL r7)) = 0 → Q (.inl (some (.int (bn 0)))) s9))) ∧ (¬ r3 = 0 → (bRg (l4 + 6) ∧ A (13, [.ref 200, .ref 11, .ref 12, .ref 154, .int (bn (l4 + 6)), .int (bn r3), .int (bn r7), v7], [], s9))))) ∧ (¬ r11 = r3 → Q (.inl (some (.int (bn 0)))) s9)))))))))))))))))) : A (1888, [.ref 200, .ref 11, .ref 12, .ref 154, .int (bn l4), v5, v6, v7], [], σ) := by
  refine bGo hA 118 0 (3093, .aload_n 1, 1, 1889, 0, [1], []) rfl rfl rfl ?_
  refine bGo hA 118 1 (3094, .aload_n 0, 1, 1890, 0, [0], []) rfl rfl rfl ?_
  refine bGo hA 118 2 (3095, .iload 4, 2, 1891, 0, [4], []) rfl rfl rfl ?_
  refine bGo hA 118 3 (3097, .iconst (1), 1, 1892, 0, [], [(1, 0)]) rfl rfl rfl ?_
  refine bEqI bl_1 ?_
  refine bGo hA 118 4 (3098, .iadd, 1, 1893, 0, [], []) rfl rfl rfl ?_
  refine bEqI (bn_add l4 1) ?_
  refine bGo hA 118 5 (3099, .iaload, 1, 1894, 0, [], []) rfl rfl rfl ?_
  refine ⟨rfl, (bIxP (x := (l4 + 1)) (n := bLen σ 200) h.1 h.2.1), ?_⟩
  refine bEqL (x := (l4 + 1)) h.1 ?_
  refine bGo hA 118 6 (3100, .aload_n 0, 1, 1895, 0, [0], []) rfl rfl rfl ?_
  refine bGo hA 118 7 (3101, .iload 4, 2, 1896, 0, [4], []) rfl rfl rfl ?_
  refine bGo hA 118 8 (3103, .iconst (2), 1, 1897, 0, [], [(2, 0)]) rfl rfl rfl ?_
  refine bEqI bl_2 ?_
  refine bGo hA 118 9 (3104, .iadd, 1, 1898, 0, [], []) rfl rfl rfl ?_
  refine bEqI (bn_add l4 2) ?_
  refine bGo hA 118 10 (3105, .iaload, 1, 1899, 0, [], []) rfl rfl rfl ?_
  refine ⟨rfl, (bIxP (x := (l4 + 2)) (n := bLen σ 200) h.2.2.1 h.2.2.2.1), ?_⟩
  refine bEqL (x := (l4 + 2)) h.2.2.1 ?_
  refine bGo hA 118 11 (3106, .aload_n 3, 1, 1900, 0, [3], []) rfl rfl rfl ?_
  refine bGo hA 118 12 (3107, .invokestatic 315, 3, 1901, 0, [2, 352, 4], []) rfl rfl rfl ?_
  refine hC _ _ _ _ _ (bRn_e (fun r3 s1 q4 k2 => ?_)) h.2.2.2.2
  show A (1901, [.ref 200, .ref 11, .ref 12, .ref 154, .int (bn l4), v5, v6, v7], [.int (bn r3)], s1)
  refine bGo hA 118 13 (3110, .istore 5, 2, 1902, 0, [5], []) rfl rfl rfl ?_
  refine bGo hA 118 14 (3112, .aload_n 2, 1, 1903, 0, [2], []) rfl rfl rfl ?_
  refine bGo hA 118 15 (3113, .aload_n 0, 1, 1904, 0, [0], []) rfl rfl rfl ?_
  refine bGo hA 119 0 (3114, .iload 4, 2, 1905, 0, [4], []) rfl rfl rfl ?_
  refine bGo hA 119 1 (3116, .iconst (1), 1, 1906, 0, [], [(1, 0)]) rfl rfl rfl ?_
  refine bEqI bl_1 ?_
  refine bGo hA 119 2 (3117, .iadd, 1, 1907, 0, [], []) rfl rfl rfl ?_
  refine bEqI (bn_add l4 1) ?_
  refine bGo hA 119 3 (3118, .iaload, 1, 1908, 0, [], []) rfl rfl rfl ?_
  refine ⟨rfl, (bIxP (x := (l4 + 1)) (n := bLen s1 200) h.1 k2.1), ?_⟩
  refine bEqL (x := (l4 + 1)) h.1 ?_
  refine bGo hA 119 4 (3119, .aload_n 0, 1, 1909, 0, [0], []) rfl rfl rfl ?_
  refine bGo hA 119 5 (3120, .iload 4, 2, 1910, 0, [4], []) rfl rfl rfl ?_
  refine bGo hA 119 6 (3122, .iconst (2), 1, 1911, 0, [], [(2, 0)]) rfl rfl rfl ?_
  refine bEqI bl_2 ?_
  refine bGo hA 119 7 (3123, .iadd, 1, 1912, 0, [], []) rfl rfl rfl ?_
  refine bEqI (bn_add l4 2) ?_
  refine bGo hA 119 8 (3124, .iaload, 1, 1913, 0, [], []) rfl rfl rfl ?_
  refine ⟨rfl, (bIxP (x := (l4 + 2)) (n := bLen s1 200) h.2.2.1 k2.2.1), ?_⟩
  refine bEqL (x := (l4 + 2)) h.2.2.1 ?_
  refine bGo hA 119 9 (3125, .invokevirtual 317, 3, 1914, 0, [0, 12, 306, 2], []) rfl rfl rfl ?_
  refine ⟨rfl, ?_⟩
  refine hC _ _ _ _ _ (bRn_e (fun r7 s5 q8 k6 => ?_)) k2.2.2
  show A (1914, [.ref 200, .ref 11, .ref 12, .ref 154, .int (bn l4), .int (bn r3), v6, v7], [.int (bn r7)], s5)
  refine bGo hA 119 10 (3128, .istore 6, 2, 1915, 0, [6], []) rfl rfl rfl ?_
  refine bGo hA 119 11 (3130, .aload_n 2, 1, 1916, 0, [2], []) rfl rfl rfl ?_
  refine bGo hA 119 12 (3131, .invokevirtual 168, 3, 1917, 0, [0, 12, 196, 0], []) rfl rfl rfl ?_
  refine ⟨rfl, ?_⟩
  refine hC _ _ _ _ _ (bRn_e (fun r11 s9 q12 k10 => ?_)) k6
  show A (1917, [.ref 200, .ref 11, .ref 12, .ref 154, .int (bn l4), .int (bn r3), .int (bn r7), v7], [.int (bn r11)], s9)
  refine bGo hA 119 13 (3134, .iload 5, 2, 1918, 0, [5], []) rfl rfl rfl ?_
  refine bGo hA 119 14 (3136, .if_icmp .eq (5), 3, 1919, 1921, [], []) rfl rfl rfl ?_
  refine bB_eq (x := r11) (y := r3) q12 q4 (fun c13 => ?_) (fun c13 => ?_)
  · refine bGo hA 120 1 (3141, .iload 5, 2, 1922, 0, [5], []) rfl rfl rfl ?_
    refine bGo hA 120 2 (3143, .ifCond .ne (15), 3, 1923, 1932, [], []) rfl rfl rfl ?_
    refine bB_eq0 (x := r3) q4 (fun c14 => ?_) (fun c14 => ?_)
    · refine bGo hA 120 3 (3146, .aload_n 3, 1, 1924, 0, [3], []) rfl rfl rfl ?_
      refine bGo hA 120 4 (3147, .iconst (0), 1, 1925, 0, [], [(0, 0)]) rfl rfl rfl ?_
      refine bEqI bl_0 ?_
      refine bGo hA 120 5 (3148, .laload, 1, 1926, 0, [], []) rfl rfl rfl ?_
      refine ⟨rfl, (bIxP (x := 0) (n := 1) (by decide) (by decide)), ?_⟩
      refine bEqJ (x := 0) (by decide : bRg 0) ?_
      refine bGo hA 120 6 (3149, .iload 6, 2, 1927, 0, [6], []) rfl rfl rfl ?_
      refine bGo hA 120 7 (3151, .i2l, 1, 1928, 0, [], []) rfl rfl rfl ?_
      refine bGo hA 120 8 (3152, .lcmp, 1, 1929, 0, [], []) rfl rfl rfl ?_
      refine bEqI (bn_cmp (bj s9 154 0) (bL r7)) ?_
      refine bGo hA 120 9 (3153, .ifCond .eq (5), 3, 1930, 1932, [], []) rfl rfl rfl ?_
      refine bB_eq0 (x := (bCmp (bj s9 154 0) (bL r7))) (bRgI _) (fun c15 => ?_) (fun c15 => ?_)
      · refine bGo hA 120 12 (3158, .goto (256), 3, 1933, 2097, [], []) rfl rfl rfl ?_
        refine bGo hA 131 1 (3414, .iinc 4 (6), 3, 2098, 0, [4], [(6, 0)]) rfl rfl rfl ?_
        refine bEqC (fun v => A (2098, [.ref 200, .ref 11, .ref 12, .ref 154, .int v, .int (bn r3), .int (bn r7), v7], [], s9)) ((congrArg (fun w => bn l4 + w) bl_6).trans (bn_add l4 6)) ?_
        refine bGo hA 131 2 (3417, .goto (-3394), 3, 2099, 13, [], []) rfl rfl rfl ?_
        exact (((k10.1 c13).1 c14).1 c15).2
      · refine bGo hA 120 10 (3156, .iconst (0), 1, 1931, 0, [], [(0, 0)]) rfl rfl rfl ?_
        refine bEqI bl_0 ?_
        refine bGo hA 120 11 (3157, .ireturn, 1, 1932, 0, [2], []) rfl rfl rfl ?_
        exact ⟨b01 (Or.inl rfl), (((k10.1 c13).1 c14).2 c15)⟩
    · refine bGo hA 120 12 (3158, .goto (256), 3, 1933, 2097, [], []) rfl rfl rfl ?_
      refine bGo hA 131 1 (3414, .iinc 4 (6), 3, 2098, 0, [4], [(6, 0)]) rfl rfl rfl ?_
      refine bEqC (fun v => A (2098, [.ref 200, .ref 11, .ref 12, .ref 154, .int v, .int (bn r3), .int (bn r7), v7], [], s9)) ((congrArg (fun w => bn l4 + w) bl_6).trans (bn_add l4 6)) ?_
      refine bGo hA 131 2 (3417, .goto (-3394), 3, 2099, 13, [], []) rfl rfl rfl ?_
      exact ((k10.1 c13).2 c14).2
  · refine bGo hA 119 15 (3139, .iconst (0), 1, 1920, 0, [], [(0, 0)]) rfl rfl rfl ?_
    refine bEqI bl_0 ?_
    refine bGo hA 120 0 (3140, .ireturn, 1, 1921, 0, [2], []) rfl rfl rfl ?_
    exact ⟨b01 (Or.inl rfl), (k10.2 c13)⟩

theorem sq357_1933 {lvl : Nat} {C : bCall} {Q : bPost} {A : bPt → Prop} (hC : bMono C) (hA : bClosed lvl bm357 C Q A) {l4 : Int} {v5 : Value} {v6 : Value} {v7 : Value} {σ : bSt}  (h_l4 : bRg l4)
  (h : (C 190 [.ref 11] σ (bRn (fun r3 s1 => (C 307 [.ref 12] s1 (bRn (fun r7 s5 => ((r3 = r7 → (bRg (l4 + 6) ∧ A (13, [.ref 200, .ref 11, .ref 12, .ref 154, .int (bn (l4 + 6)), v5, v6, v7], [], s5))) ∧ (¬ r3 = r7 → Q (.inl (some (.int (bn 0)))) s5))))))))) : A (1933, [.ref 200, .ref 11, .ref 12, .ref 154, .int (bn l4), v5, v6, v7], [], σ) := by
  refine bGo hA 120 13 (3161, .aload_n 1, 1, 1934, 0, [1], []) rfl rfl rfl ?_
  refine bGo hA 120 14 (3162, .invokevirtual 318, 3, 1935, 0, [0, 11, 190, 0], []) rfl rfl rfl ?_
  refine ⟨rfl, ?_⟩
  refine hC _ _ _ _ _ (bRn_e (fun r3 s1 q4 k2 => ?_)) h
  show A (1935, [.ref 200, .ref 11, .ref 12, .ref 154, .int (bn l4), v5, v6, v7], [.int (bn r3)], s1)
  refine bGo hA 120 15 (3165, .aload_n 2, 1, 1936, 0, [2], []) rfl rfl rfl ?_
  refine bGo hA 121 0 (3166, .invokevirtual 321, 3, 1937, 0, [0, 12, 307, 0], []) rfl rfl rfl ?_
  refine ⟨rfl, ?_⟩
  refine hC _ _ _ _ _ (bRn_e (fun r7 s5 q8 k6 => ?_)) k2
  show A (1937, [.ref 200, .ref 11, .ref 12, .ref 154, .int (bn l4), v5, v6, v7], [.int (bn r7), .int (bn r3)], s5)
  refine bGo hA 121 1 (3169, .if_icmp .eq (245), 3, 1938, 2097, [], []) rfl rfl rfl ?_
  refine bB_eq (x := r3) (y := r7) q4 q8 (fun c9 => ?_) (fun c9 => ?_)
  · refine bGo hA 131 1 (3414, .iinc 4 (6), 3, 2098, 0, [4], [(6, 0)]) rfl rfl rfl ?_
    refine bEqC (fun v => A (2098, [.ref 200, .ref 11, .ref 12, .ref 154, .int v, v5, v6, v7], [], s5)) ((congrArg (fun w => bn l4 + w) bl_6).trans (bn_add l4 6)) ?_
    refine bGo hA 131 2 (3417, .goto (-3394), 3, 2099, 13, [], []) rfl rfl rfl ?_
    exact (k6.1 c9).2
  · refine bGo hA 121 2 (3172, .iconst (0), 1, 1939, 0, [], [(0, 0)]) rfl rfl rfl ?_
    refine bEqI bl_0 ?_
    refine bGo hA 121 3 (3173, .ireturn, 1, 1940, 0, [2], []) rfl rfl rfl ?_
    exact ⟨b01 (Or.inl rfl), (k6.2 c9)⟩

theorem sq357_1940 {lvl : Nat} {C : bCall} {Q : bPost} {A : bPt → Prop} (hC : bMono C) (hA : bClosed lvl bm357 C Q A) {l4 : Int} {v5 : Value} {v6 : Value} {v7 : Value} {σ : bSt}  (h_l4 : bRg l4)
  (h : (bRg (l4 + 1) ∧ ((0 ≤ (l4 + 1) ∧ (l4 + 1) < (bLen σ 200 : Int)) ∧ (C 353 [.ref 11, .int (bn (bi σ 200 (l4 + 1)))] σ (bRn (fun r3 s1 => ((0 ≤ (l4 + 1) ∧ (l4 + 1) < (bLen s1 200 : Int)) ∧ (C 308 [.ref 12, .int (bn (bi s1 200 (l4 + 1)))] s1 (bRv (fun s5 => (C 196 [.ref 12] s5 (bRn (fun r9 s7 => ((r9 = r3 → (bRg (l4 + 6) ∧ A (13, [.ref 200, .ref 11, .ref 12, .ref 154, .int (bn (l4 + 6)), .int (bn r3), v6, v7], [], s7))) ∧ (¬ r9 = r3 → Q (.inl (some (.int (bn 0)))) s7))))))))))))))) : A (1940, [.ref 200, .ref 11, .ref 12, .ref 154, .int (bn l4), v5, v6, v7], [], σ) := by
  refine bGo hA 121 4 (3174, .aload_n 1, 1, 1941, 0, [1], []) rfl rfl rfl ?_
  refine bGo hA 121 5 (3175, .aload_n 0, 1, 1942, 0, [0], []) rfl rfl rfl ?_
  refine bGo hA 121 6 (3176, .iload 4, 2, 1943, 0, [4], []) rfl rfl rfl ?_
  refine bGo hA 121 7 (3178, .iconst (1), 1, 1944, 0, [], [(1, 0)]) rfl rfl rfl ?_
  refine bEqI bl_1 ?_
  refine bGo hA 121 8 (3179, .iadd, 1, 1945, 0, [], []) rfl rfl rfl ?_
  refine bEqI (bn_add l4 1) ?_
  refine bGo hA 121 9 (3180, .iaload, 1, 1946, 0, [], []) rfl rfl rfl ?_
  refine ⟨rfl, (bIxP (x := (l4 + 1)) (n := bLen σ 200) h.1 h.2.1), ?_⟩
  refine bEqL (x := (l4 + 1)) h.1 ?_
  refine bGo hA 121 10 (3181, .invokestatic 322, 3, 1947, 0, [2, 353, 2], []) rfl rfl rfl ?_
  refine hC _ _ _ _ _ (bRn_e (fun r3 s1 q4 k2 => ?_)) h.2.2
  show A (1947, [.ref 200, .ref 11, .ref 12, .ref 154, .int (bn l4), v5, v6, v7], [.int (bn r3)], s1)
  refine bGo hA 121 11 (3184, .istore 5, 2, 1948, 0, [5], []) rfl rfl rfl ?_
  refine bGo hA 121 12 (3186, .aload_n 2, 1, 1949, 0, [2], []) rfl rfl rfl ?_
  refine bGo hA 121 13 (3187, .aload_n 0, 1, 1950, 0, [0], []) rfl rfl rfl ?_
  refine bGo hA 121 14 (3188, .iload 4, 2, 1951, 0, [4], []) rfl rfl rfl ?_
  refine bGo hA 121 15 (3190, .iconst (1), 1, 1952, 0, [], [(1, 0)]) rfl rfl rfl ?_
  refine bEqI bl_1 ?_
  refine bGo hA 122 0 (3191, .iadd, 1, 1953, 0, [], []) rfl rfl rfl ?_
  refine bEqI (bn_add l4 1) ?_
  refine bGo hA 122 1 (3192, .iaload, 1, 1954, 0, [], []) rfl rfl rfl ?_
  refine ⟨rfl, (bIxP (x := (l4 + 1)) (n := bLen s1 200) h.1 k2.1), ?_⟩
  refine bEqL (x := (l4 + 1)) h.1 ?_
  refine bGo hA 122 2 (3193, .invokevirtual 325, 3, 1955, 0, [0, 12, 308, 1], []) rfl rfl rfl ?_
  refine ⟨rfl, ?_⟩
  refine hC _ _ _ _ _ (bRv_e (fun s5 k6 => ?_)) k2.2
  show A (1955, [.ref 200, .ref 11, .ref 12, .ref 154, .int (bn l4), .int (bn r3), v6, v7], [], s5)
  refine bGo hA 122 3 (3196, .aload_n 2, 1, 1956, 0, [2], []) rfl rfl rfl ?_
  refine bGo hA 122 4 (3197, .invokevirtual 168, 3, 1957, 0, [0, 12, 196, 0], []) rfl rfl rfl ?_
  refine ⟨rfl, ?_⟩
  refine hC _ _ _ _ _ (bRn_e (fun r9 s7 q10 k8 => ?_)) k6
  show A (1957, [.ref 200, .ref 11, .ref 12, .ref 154, .int (bn l4), .int (bn r3), v6, v7], [.int (bn r9)], s7)
  refine bGo hA 122 5 (3200, .iload 5, 2, 1958, 0, [5], []) rfl rfl rfl ?_
  refine bGo hA 122 6 (3202, .if_icmp .eq (5), 3, 1959, 1961, [], []) rfl rfl rfl ?_
  refine bB_eq (x := r9) (y := r3) q10 q4 (fun c11 => ?_) (fun c11 => ?_)
  · refine bGo hA 122 9 (3207, .goto (207), 3, 1962, 2097, [], []) rfl rfl rfl ?_
    refine bGo hA 131 1 (3414, .iinc 4 (6), 3, 2098, 0, [4], [(6, 0)]) rfl rfl rfl ?_
    refine bEqC (fun v => A (2098, [.ref 200, .ref 11, .ref 12, .ref 154, .int v, .int (bn r3), v6, v7], [], s7)) ((congrArg (fun w => bn l4 + w) bl_6).trans (bn_add l4 6)) ?_
    refine bGo hA 131 2 (3417, .goto (-3394), 3, 2099, 13, [], []) rfl rfl rfl ?_
    exact (k8.1 c11).2
  · refine bGo hA 122 7 (3205, .iconst (0), 1, 1960, 0, [], [(0, 0)]) rfl rfl rfl ?_
    refine bEqI bl_0 ?_
    refine bGo hA 122 8 (3206, .ireturn, 1, 1961, 0, [2], []) rfl rfl rfl ?_
    exact ⟨b01 (Or.inl rfl), (k8.2 c11)⟩

theorem sq357_1962 {lvl : Nat} {C : bCall} {Q : bPost} {A : bPt → Prop} (hC : bMono C) (hA : bClosed lvl bm357 C Q A) {l4 : Int} {v5 : Value} {v6 : Value} {v7 : Value} {σ : bSt}  (h_l4 : bRg l4)
  (h : (bRg (l4 + 1) ∧ ((0 ≤ (l4 + 1) ∧ (l4 + 1) < (bLen σ 200 : Int)) ∧ (bRg (l4 + 2) ∧ ((0 ≤ (l4 + 2) ∧ (l4 + 2) < (bLen σ 200 : Int)) ∧ (bRg (l4 + 3) ∧ ((0 ≤ (l4 + 3) ∧ (l4 + 3) < (bLen σ 200 : Int)) ∧ (C 354 [.ref 11, .int (bn (bi σ 200 (l4 + 1))), .int (bn (bi σ 200 (l4 + 2))), .int (bn (bi σ 200 (l4 + 3))), .ref 154] σ (bRn (fun r3 s1 => ((0 ≤ (l4 + 1) ∧ (l4 + 1) < (bLen s1 200 : Int)) ∧ ((0 ≤ (l4 + 2) ∧ (l4 + 2) < (bLen s1 200 : Int)) ∧ ((0 ≤ (l4 + 3) ∧ (l4 + 3) < (bLen s1 200 : Int)) ∧ (C 310 [.ref 12, .int (bn (bi s1 200 (l4 + 1))), .int (bn (bi s1 200 (l4 + 2))), .int (bn (bi s1 200 (l4 + 3)))] s1 (bRn (fun r7 s5 => (C 196 [.ref 12] s5 (bRn (fun r11 s9 => ((r11 = r3 → ((r3 = 0 → (((bCmp (bj s9 154 0) (bL r7)) = 0 → (bRg (l4 + 6) ∧ A (13, [.ref 200, .ref 11, .ref 12, .ref 154, .int (bn (l4 + 6)), .int (bn r3), .int (bn r7), v7], [], s9))) ∧ (¬ (bCmp (bj s9 154 0) (bL r7)) = 0 → Q (.inl (some (.int (bn 0)))) s9))) ∧ (¬ r3 = 0 → (bRg (l4 + 6) ∧ A (13, [.ref 200, .ref 11, .ref 12, .ref 154, .int (bn (l4 + 6)), .int (bn r3), .int (bn r7), v7], [], s9))))) ∧ (¬ r11 = r3 → Q (.inl (some (.int (bn 0)))) s9))))))))))))))))))))) : A (1962, [.ref 200, .ref 11, .ref 12, .ref 154, .int (bn l4), v5, v6, v7], [], σ) := by
  refine bGo hA 122 10 (3210, .aload_n 1, 1, 1963, 0, [1], []) rfl rfl rfl ?_
  refine bGo hA 122 11 (3211, .aload_n 0, 1, 1964, 0, [0], []) rfl rfl rfl ?_
  refine bGo hA 122 12 (3212, .iload 4, 2, 1965, 0, [4], []) rfl rfl rfl ?_
  refine bGo hA 122 13 (3214, .iconst (1), 1, 1966, 0, [], [(1, 0)]) rfl rfl rfl ?_
  refine bEqI bl_1 ?_
  refine bGo hA 122 14 (3215, .iadd, 1, 1967, 0, [], []) rfl rfl rfl ?_
  refine bEqI (bn_add l4 1) ?_
  refine bGo hA 122 15 (3216, .iaload, 1, 1968, 0, [], []) rfl rfl rfl ?_
  refine ⟨rfl, (bIxP (x := (l4 + 1)) (n := bLen σ 200) h.1 h.2.1), ?_⟩
  refine bEqL (x := (l4 + 1)) h.1 ?_
  refine bGo hA 123 0 (3217, .aload_n 0, 1, 1969, 0, [0], []) rfl rfl rfl ?_
  refine bGo hA 123 1 (3218, .iload 4, 2, 1970, 0, [4], []) rfl rfl rfl ?_
  refine bGo hA 123 2 (3220, .iconst (2), 1, 1971, 0, [], [(2, 0)]) rfl rfl rfl ?_
  refine bEqI bl_2 ?_
  refine bGo hA 123 3 (3221, .iadd, 1, 1972, 0, [], []) rfl rfl rfl ?_
  refine bEqI (bn_add l4 2) ?_
  refine bGo hA 123 4 (3222, .iaload, 1, 1973, 0, [], []) rfl rfl rfl ?_
  refine ⟨rfl, (bIxP (x := (l4 + 2)) (n := bLen σ 200) h.2.2.1 h.2.2.2.1), ?_⟩
  refine bEqL (x := (l4 + 2)) h.2.2.1 ?_
  refine bGo hA 123 5 (3223, .aload_n 0, 1, 1974, 0, [0], []) rfl rfl rfl ?_
  refine bGo hA 123 6 (3224, .iload 4, 2, 1975, 0, [4], []) rfl rfl rfl ?_
  refine bGo hA 123 7 (3226, .iconst (3), 1, 1976, 0, [], [(3, 0)]) rfl rfl rfl ?_
  refine bEqI bl_3 ?_
  refine bGo hA 123 8 (3227, .iadd, 1, 1977, 0, [], []) rfl rfl rfl ?_
  refine bEqI (bn_add l4 3) ?_
  refine bGo hA 123 9 (3228, .iaload, 1, 1978, 0, [], []) rfl rfl rfl ?_
  refine ⟨rfl, (bIxP (x := (l4 + 3)) (n := bLen σ 200) h.2.2.2.2.1 h.2.2.2.2.2.1), ?_⟩
  refine bEqL (x := (l4 + 3)) h.2.2.2.2.1 ?_
  refine bGo hA 123 10 (3229, .aload_n 3, 1, 1979, 0, [3], []) rfl rfl rfl ?_
  refine bGo hA 123 11 (3230, .invokestatic 326, 3, 1980, 0, [2, 354, 5], []) rfl rfl rfl ?_
  refine hC _ _ _ _ _ (bRn_e (fun r3 s1 q4 k2 => ?_)) h.2.2.2.2.2.2
  show A (1980, [.ref 200, .ref 11, .ref 12, .ref 154, .int (bn l4), v5, v6, v7], [.int (bn r3)], s1)
  refine bGo hA 123 12 (3233, .istore 5, 2, 1981, 0, [5], []) rfl rfl rfl ?_
  refine bGo hA 123 13 (3235, .aload_n 2, 1, 1982, 0, [2], []) rfl rfl rfl ?_
  refine bGo hA 123 14 (3236, .aload_n 0, 1, 1983, 0, [0], []) rfl rfl rfl ?_
  refine bGo hA 123 15 (3237, .iload 4, 2, 1984, 0, [4], []) rfl rfl rfl ?_
  refine bGo hA 124 0 (3239, .iconst (1), 1, 1985, 0, [], [(1, 0)]) rfl rfl rfl ?_
  refine bEqI bl_1 ?_
  refine bGo hA 124 1 (3240, .iadd, 1, 1986, 0, [], []) rfl rfl rfl ?_
  refine bEqI (bn_add l4 1) ?_
  refine bGo hA 124 2 (3241, .iaload, 1, 1987, 0, [], []) rfl rfl rfl ?_
  refine ⟨rfl, (bIxP (x := (l4 + 1)) (n := bLen s1 200) h.1 k2.1), ?_⟩
  refine bEqL (x := (l4 + 1)) h.1 ?_
  refine bGo hA 124 3 (3242, .aload_n 0, 1, 1988, 0, [0], []) rfl rfl rfl ?_
  refine bGo hA 124 4 (3243, .iload 4, 2, 1989, 0, [4], []) rfl rfl rfl ?_
  refine bGo hA 124 5 (3245, .iconst (2), 1, 1990, 0, [], [(2, 0)]) rfl rfl rfl ?_
  refine bEqI bl_2 ?_
  refine bGo hA 124 6 (3246, .iadd, 1, 1991, 0, [], []) rfl rfl rfl ?_
  refine bEqI (bn_add l4 2) ?_
  refine bGo hA 124 7 (3247, .iaload, 1, 1992, 0, [], []) rfl rfl rfl ?_
  refine ⟨rfl, (bIxP (x := (l4 + 2)) (n := bLen s1 200) h.2.2.1 k2.2.1), ?_⟩
  refine bEqL (x := (l4 + 2)) h.2.2.1 ?_
  refine bGo hA 124 8 (3248, .aload_n 0, 1, 1993, 0, [0], []) rfl rfl rfl ?_
  refine bGo hA 124 9 (3249, .iload 4, 2, 1994, 0, [4], []) rfl rfl rfl ?_
  refine bGo hA 124 10 (3251, .iconst (3), 1, 1995, 0, [], [(3, 0)]) rfl rfl rfl ?_
  refine bEqI bl_3 ?_
  refine bGo hA 124 11 (3252, .iadd, 1, 1996, 0, [], []) rfl rfl rfl ?_
  refine bEqI (bn_add l4 3) ?_
  refine bGo hA 124 12 (3253, .iaload, 1, 1997, 0, [], []) rfl rfl rfl ?_
  refine ⟨rfl, (bIxP (x := (l4 + 3)) (n := bLen s1 200) h.2.2.2.2.1 k2.2.2.1), ?_⟩
  refine bEqL (x := (l4 + 3)) h.2.2.2.2.1 ?_
  refine bGo hA 124 13 (3254, .invokevirtual 328, 3, 1998, 0, [0, 12, 310, 3], []) rfl rfl rfl ?_
  refine ⟨rfl, ?_⟩
  refine hC _ _ _ _ _ (bRn_e (fun r7 s5 q8 k6 => ?_)) k2.2.2.2
  show A (1998, [.ref 200, .ref 11, .ref 12, .ref 154, .int (bn l4), .int (bn r3), v6, v7], [.int (bn r7)], s5)
  refine bGo hA 124 14 (3257, .istore 6, 2, 1999, 0, [6], []) rfl rfl rfl ?_
  refine bGo hA 124 15 (3259, .aload_n 2, 1, 2000, 0, [2], []) rfl rfl rfl ?_
  refine bGo hA 125 0 (3260, .invokevirtual 168, 3, 2001, 0, [0, 12, 196, 0], []) rfl rfl rfl ?_
  refine ⟨rfl, ?_⟩
  refine hC _ _ _ _ _ (bRn_e (fun r11 s9 q12 k10 => ?_)) k6
  show A (2001, [.ref 200, .ref 11, .ref 12, .ref 154, .int (bn l4), .int (bn r3), .int (bn r7), v7], [.int (bn r11)], s9)
  refine bGo hA 125 1 (3263, .iload 5, 2, 2002, 0, [5], []) rfl rfl rfl ?_
  refine bGo hA 125 2 (3265, .if_icmp .eq (5), 3, 2003, 2005, [], []) rfl rfl rfl ?_
  refine bB_eq (x := r11) (y := r3) q12 q4 (fun c13 => ?_) (fun c13 => ?_)
  · refine bGo hA 125 5 (3270, .iload 5, 2, 2006, 0, [5], []) rfl rfl rfl ?_
    refine bGo hA 125 6 (3272, .ifCond .ne (15), 3, 2007, 2016, [], []) rfl rfl rfl ?_
    refine bB_eq0 (x := r3) q4 (fun c14 => ?_) (fun c14 => ?_)
    · refine bGo hA 125 7 (3275, .aload_n 3, 1, 2008, 0, [3], []) rfl rfl rfl ?_
      refine bGo hA 125 8 (3276, .iconst (0), 1, 2009, 0, [], [(0, 0)]) rfl rfl rfl ?_
      refine bEqI bl_0 ?_
      refine bGo hA 125 9 (3277, .laload, 1, 2010, 0, [], []) rfl rfl rfl ?_
      refine ⟨rfl, (bIxP (x := 0) (n := 1) (by decide) (by decide)), ?_⟩
      refine bEqJ (x := 0) (by decide : bRg 0) ?_
      refine bGo hA 125 10 (3278, .iload 6, 2, 2011, 0, [6], []) rfl rfl rfl ?_
      refine bGo hA 125 11 (3280, .i2l, 1, 2012, 0, [], []) rfl rfl rfl ?_
      refine bGo hA 125 12 (3281, .lcmp, 1, 2013, 0, [], []) rfl rfl rfl ?_
      refine bEqI (bn_cmp (bj s9 154 0) (bL r7)) ?_
      refine bGo hA 125 13 (3282, .ifCond .eq (5), 3, 2014, 2016, [], []) rfl rfl rfl ?_
      refine bB_eq0 (x := (bCmp (bj s9 154 0) (bL r7))) (bRgI _) (fun c15 => ?_) (fun c15 => ?_)
      · refine bGo hA 126 0 (3287, .goto (127), 3, 2017, 2097, [], []) rfl rfl rfl ?_
        refine bGo hA 131 1 (3414, .iinc 4 (6), 3, 2098, 0, [4], [(6, 0)]) rfl rfl rfl ?_
        refine bEqC (fun v => A (2098, [.ref 200, .ref 11, .ref 12, .ref 154, .int v, .int (bn r3), .int (bn r7), v7], [], s9)) ((congrArg (fun w => bn l4 + w) bl_6).trans (bn_add l4 6)) ?_
        refine bGo hA 131 2 (3417, .goto (-3394), 3, 2099, 13, [], []) rfl rfl rfl ?_
        exact (((k10.1 c13).1 c14).1 c15).2
      · refine bGo hA 125 14 (3285, .iconst (0), 1, 2015, 0, [], [(0, 0)]) rfl rfl rfl ?_
        refine bEqI bl_0 ?_
        refine bGo hA 125 15 (3286, .ireturn, 1, 2016, 0, [2], []) rfl rfl rfl ?_
        exact ⟨b01 (Or.inl rfl), (((k10.1 c13).1 c14).2 c15)⟩
    · refine bGo hA 126 0 (3287, .goto (127), 3, 2017, 2097, [], []) rfl rfl rfl ?_
      refine bGo hA 131 1 (3414, .iinc 4 (6), 3, 2098, 0, [4], [(6, 0)]) rfl rfl rfl ?_
      refine bEqC (fun v => A (2098, [.ref 200, .ref 11, .ref 12, .ref 154, .int v, .int (bn r3), .int (bn r7), v7], [], s9)) ((congrArg (fun w => bn l4 + w) bl_6).trans (bn_add l4 6)) ?_
      refine bGo hA 131 2 (3417, .goto (-3394), 3, 2099, 13, [], []) rfl rfl rfl ?_
      exact ((k10.1 c13).2 c14).2
  · refine bGo hA 125 3 (3268, .iconst (0), 1, 2004, 0, [], [(0, 0)]) rfl rfl rfl ?_
    refine bEqI bl_0 ?_
    refine bGo hA 125 4 (3269, .ireturn, 1, 2005, 0, [2], []) rfl rfl rfl ?_
    exact ⟨b01 (Or.inl rfl), (k10.2 c13)⟩

theorem sq357_2017 {lvl : Nat} {C : bCall} {Q : bPost} {A : bPt → Prop} (hC : bMono C) (hA : bClosed lvl bm357 C Q A) {l4 : Int} {v5 : Value} {v6 : Value} {v7 : Value} {σ : bSt}  (h_l4 : bRg l4)
  (h : (bRg (l4 + 1) ∧ ((0 ≤ (l4 + 1) ∧ (l4 + 1) < (bLen σ 200 : Int)) ∧ (bRg (l4 + 2) ∧ ((0 ≤ (l4 + 2) ∧ (l4 + 2) < (bLen σ 200 : Int)) ∧ (C 355 [.ref 11, .int (bn (bi σ 200 (l4 + 1))), .int (bn (bi σ 200 (l4 + 2))), .ref 154] σ (bRn (fun r3 s1 => ((0 ≤ (l4 + 1) ∧ (l4 + 1) < (bLen s1 200 : Int)) ∧ ((0 ≤ (l4 + 2) ∧ (l4 + 2) < (bLen s1 200 : Int)) ∧ (C 312 [.ref 12, .int (bn (bi s1 200 (l4 + 1))), .int (bn (bi s1 200 (l4 + 2)))] s1 (bRn (fun r7 s5 => (C 196 [.ref 12] s5 (bRn (fun r11 s9 => ((r11 = r3 → ((r3 = 0 → (((bCmp (bj s9 154 0) (bL r7)) = 0 → (bRg (l4 + 6) ∧ A (13, [.ref 200, .ref 11, .ref 12, .ref 154, .int (bn (l4 + 6)), .int (bn r3), .int (bn r7), v7], [], s9))) ∧ (¬ (bCmp (bj s9 154 0) (bL r7)) = 0 → Q (.inl (some (.int (bn 0)))) s9))) ∧ (¬ r3 = 0 → (bRg (l4 + 6) ∧ A (13, [.ref 200, .ref 11, .ref 12, .ref 154, .int (bn (l4 + 6)), .int (bn r3), .int (bn r7), v7], [], s9))))) ∧ (¬ r11 = r3 → Q (.inl (some (.int (bn 0)))) s9)))))))))))))))))) : A (2017, [.ref 200, .ref 11, .ref 12, .ref 154, .int (bn l4), v5, v6, v7], [], σ) := by
  refine bGo hA 126 1 (3290, .aload_n 1, 1, 2018, 0, [1], []) rfl rfl rfl ?_
  refine bGo hA 126 2 (3291, .aload_n 0, 1, 2019, 0, [0], []) rfl rfl rfl ?_
  refine bGo hA 126 3 (3292, .iload 4, 2, 2020, 0, [4], []) rfl rfl rfl ?_
  refine bGo hA 126 4 (3294, .iconst (1), 1, 2021, 0, [], [(1, 0)]) rfl rfl rfl ?_
  refine bEqI bl_1 ?_
  refine bGo hA 126 5 (3295, .iadd, 1, 2022, 0, [], []) rfl rfl rfl ?_
  refine bEqI (bn_add l4 1) ?_
  refine bGo hA 126 6 (3296, .iaload, 1, 2023, 0, [], []) rfl rfl rfl ?_
  refine ⟨rfl, (bIxP (x := (l4 + 1)) (n := bLen σ 200) h.1 h.2.1), ?_⟩
  refine bEqL (x := (l4 + 1)) h.1 ?_
  refine bGo hA 126 7 (3297, .aload_n 0, 1, 2024, 0, [0], []) rfl rfl rfl ?_
  refine bGo hA 126 8 (3298, .iload 4, 2, 2025, 0, [4], []) rfl rfl rfl ?_
  refine bGo hA 126 9 (3300, .iconst (2), 1, 2026, 0, [], [(2, 0)]) rfl rfl rfl ?_
  refine bEqI bl_2 ?_
  refine bGo hA 126 10 (3301, .iadd, 1, 2027, 0, [], []) rfl rfl rfl ?_
  refine bEqI (bn_add l4 2) ?_
  refine bGo hA 126 11 (3302, .iaload, 1, 2028, 0, [], []) rfl rfl rfl ?_
  refine ⟨rfl, (bIxP (x := (l4 + 2)) (n := bLen σ 200) h.2.2.1 h.2.2.2.1), ?_⟩
  refine bEqL (x := (l4 + 2)) h.2.2.1 ?_
  refine bGo hA 126 12 (3303, .aload_n 3, 1, 2029, 0, [3], []) rfl rfl rfl ?_
  refine bGo hA 126 13 (3304, .invokestatic 329, 3, 2030, 0, [2, 355, 4], []) rfl rfl rfl ?_
  refine hC _ _ _ _ _ (bRn_e (fun r3 s1 q4 k2 => ?_)) h.2.2.2.2
  show A (2030, [.ref 200, .ref 11, .ref 12, .ref 154, .int (bn l4), v5, v6, v7], [.int (bn r3)], s1)
  refine bGo hA 126 14 (3307, .istore 5, 2, 2031, 0, [5], []) rfl rfl rfl ?_
  refine bGo hA 126 15 (3309, .aload_n 2, 1, 2032, 0, [2], []) rfl rfl rfl ?_
  refine bGo hA 127 0 (3310, .aload_n 0, 1, 2033, 0, [0], []) rfl rfl rfl ?_
  refine bGo hA 127 1 (3311, .iload 4, 2, 2034, 0, [4], []) rfl rfl rfl ?_
  refine bGo hA 127 2 (3313, .iconst (1), 1, 2035, 0, [], [(1, 0)]) rfl rfl rfl ?_
  refine bEqI bl_1 ?_
  refine bGo hA 127 3 (3314, .iadd, 1, 2036, 0, [], []) rfl rfl rfl ?_
  refine bEqI (bn_add l4 1) ?_
  refine bGo hA 127 4 (3315, .iaload, 1, 2037, 0, [], []) rfl rfl rfl ?_
  refine ⟨rfl, (bIxP (x := (l4 + 1)) (n := bLen s1 200) h.1 k2.1), ?_⟩
  refine bEqL (x := (l4 + 1)) h.1 ?_
  refine bGo hA 127 5 (3316, .aload_n 0, 1, 2038, 0, [0], []) rfl rfl rfl ?_
  refine bGo hA 127 6 (3317, .iload 4, 2, 2039, 0, [4], []) rfl rfl rfl ?_
  refine bGo hA 127 7 (3319, .iconst (2), 1, 2040, 0, [], [(2, 0)]) rfl rfl rfl ?_
  refine bEqI bl_2 ?_
  refine bGo hA 127 8 (3320, .iadd, 1, 2041, 0, [], []) rfl rfl rfl ?_
  refine bEqI (bn_add l4 2) ?_
  refine bGo hA 127 9 (3321, .iaload, 1, 2042, 0, [], []) rfl rfl rfl ?_
  refine ⟨rfl, (bIxP (x := (l4 + 2)) (n := bLen s1 200) h.2.2.1 k2.2.1), ?_⟩
  refine bEqL (x := (l4 + 2)) h.2.2.1 ?_
  refine bGo hA 127 10 (3322, .invokevirtual 331, 3, 2043, 0, [0, 12, 312, 2], []) rfl rfl rfl ?_
  refine ⟨rfl, ?_⟩
  refine hC _ _ _ _ _ (bRn_e (fun r7 s5 q8 k6 => ?_)) k2.2.2
  show A (2043, [.ref 200, .ref 11, .ref 12, .ref 154, .int (bn l4), .int (bn r3), v6, v7], [.int (bn r7)], s5)
  refine bGo hA 127 11 (3325, .istore 6, 2, 2044, 0, [6], []) rfl rfl rfl ?_
  refine bGo hA 127 12 (3327, .aload_n 2, 1, 2045, 0, [2], []) rfl rfl rfl ?_
  refine bGo hA 127 13 (3328, .invokevirtual 168, 3, 2046, 0, [0, 12, 196, 0], []) rfl rfl rfl ?_
  refine ⟨rfl, ?_⟩
  refine hC _ _ _ _ _ (bRn_e (fun r11 s9 q12 k10 => ?_)) k6
  show A (2046, [.ref 200, .ref 11, .ref 12, .ref 154, .int (bn l4), .int (bn r3), .int (bn r7), v7], [.int (bn r11)], s9)
  refine bGo hA 127 14 (3331, .iload 5, 2, 2047, 0, [5], []) rfl rfl rfl ?_
  refine bGo hA 127 15 (3333, .if_icmp .eq (5), 3, 2048, 2050, [], []) rfl rfl rfl ?_
  refine bB_eq (x := r11) (y := r3) q12 q4 (fun c13 => ?_) (fun c13 => ?_)
  · refine bGo hA 128 2 (3338, .iload 5, 2, 2051, 0, [5], []) rfl rfl rfl ?_
    refine bGo hA 128 3 (3340, .ifCond .ne (15), 3, 2052, 2061, [], []) rfl rfl rfl ?_
    refine bB_eq0 (x := r3) q4 (fun c14 => ?_) (fun c14 => ?_)
    · refine bGo hA 128 4 (3343, .aload_n 3, 1, 2053, 0, [3], []) rfl rfl rfl ?_
      refine bGo hA 128 5 (3344, .iconst (0), 1, 2054, 0, [], [(0, 0)]) rfl rfl rfl ?_
      refine bEqI bl_0 ?_
      refine bGo hA 128 6 (3345, .laload, 1, 2055, 0, [], []) rfl rfl rfl ?_
      refine ⟨rfl, (bIxP (x := 0) (n := 1) (by decide) (by decide)), ?_⟩
      refine bEqJ (x := 0) (by decide : bRg 0) ?_
      refine bGo hA 128 7 (3346, .iload 6, 2, 2056, 0, [6], []) rfl rfl rfl ?_
      refine bGo hA 128 8 (3348, .i2l, 1, 2057, 0, [], []) rfl rfl rfl ?_
      refine bGo hA 128 9 (3349, .lcmp, 1, 2058, 0, [], []) rfl rfl rfl ?_
      refine bEqI (bn_cmp (bj s9 154 0) (bL r7)) ?_
      refine bGo hA 128 10 (3350, .ifCond .eq (5), 3, 2059, 2061, [], []) rfl rfl rfl ?_
      refine bB_eq0 (x := (bCmp (bj s9 154 0) (bL r7))) (bRgI _) (fun c15 => ?_) (fun c15 => ?_)
      · refine bGo hA 128 13 (3355, .goto (59), 3, 2062, 2097, [], []) rfl rfl rfl ?_
        refine bGo hA 131 1 (3414, .iinc 4 (6), 3, 2098, 0, [4], [(6, 0)]) rfl rfl rfl ?_
        refine bEqC (fun v => A (2098, [.ref 200, .ref 11, .ref 12, .ref 154, .int v, .int (bn r3), .int (bn r7), v7], [], s9)) ((congrArg (fun w => bn l4 + w) bl_6).trans (bn_add l4 6)) ?_
        refine bGo hA 131 2 (3417, .goto (-3394), 3, 2099, 13, [], []) rfl rfl rfl ?_
        exact (((k10.1 c13).1 c14).1 c15).2
      · refine bGo hA 128 11 (3353, .iconst (0), 1, 2060, 0, [], [(0, 0)]) rfl rfl rfl ?_
        refine bEqI bl_0 ?_
        refine bGo hA 128 12 (3354, .ireturn, 1, 2061, 0, [2], []) rfl rfl rfl ?_
        exact ⟨b01 (Or.inl rfl), (((k10.1 c13).1 c14).2 c15)⟩
    · refine bGo hA 128 13 (3355, .goto (59), 3, 2062, 2097, [], []) rfl rfl rfl ?_
      refine bGo hA 131 1 (3414, .iinc 4 (6), 3, 2098, 0, [4], [(6, 0)]) rfl rfl rfl ?_
      refine bEqC (fun v => A (2098, [.ref 200, .ref 11, .ref 12, .ref 154, .int v, .int (bn r3), .int (bn r7), v7], [], s9)) ((congrArg (fun w => bn l4 + w) bl_6).trans (bn_add l4 6)) ?_
      refine bGo hA 131 2 (3417, .goto (-3394), 3, 2099, 13, [], []) rfl rfl rfl ?_
      exact ((k10.1 c13).2 c14).2
  · refine bGo hA 128 0 (3336, .iconst (0), 1, 2049, 0, [], [(0, 0)]) rfl rfl rfl ?_
    refine bEqI bl_0 ?_
    refine bGo hA 128 1 (3337, .ireturn, 1, 2050, 0, [2], []) rfl rfl rfl ?_
    exact ⟨b01 (Or.inl rfl), (k10.2 c13)⟩

theorem sq357_2062 {lvl : Nat} {C : bCall} {Q : bPost} {A : bPt → Prop} (hC : bMono C) (hA : bClosed lvl bm357 C Q A) {l4 : Int} {v5 : Value} {v6 : Value} {v7 : Value} {σ : bSt}  (h_l4 : bRg l4)
  (h : (bRg (l4 + 1) ∧ ((0 ≤ (l4 + 1) ∧ (l4 + 1) < (bLen σ 200 : Int)) ∧ (C 356 [.ref 11, .int (bn (bi σ 200 (l4 + 1))), .ref 154] σ (bRn (fun r3 s1 => ((0 ≤ (l4 + 1) ∧ (l4 + 1) < (bLen s1 200 : Int)) ∧ (C 313 [.ref 12, .int (bn (bi s1 200 (l4 + 1)))] s1 (bRn (fun r7 s5 => (C 196 [.ref 12] s5 (bRn (fun r11 s9 => ((r11 = r3 → ((r3 = 0 → (((bCmp (bj s9 154 0) (bL r7)) = 0 → (bRg (l4 + 6) ∧ A (13, [.ref 200, .ref 11, .ref 12, .ref 154, .int (bn (l4 + 6)), .int (bn r3), .int (bn r7), v7], [], s9))) ∧ (¬ (bCmp (bj s9 154 0) (bL r7)) = 0 → Q (.inl (some (.int (bn 0)))) s9))) ∧ (¬ r3 = 0 → (bRg (l4 + 6) ∧ A (13, [.ref 200, .ref 11, .ref 12, .ref 154, .int (bn (l4 + 6)), .int (bn r3), .int (bn r7), v7], [], s9))))) ∧ (¬ r11 = r3 → Q (.inl (some (.int (bn 0)))) s9))))))))))))))) : A (2062, [.ref 200, .ref 11, .ref 12, .ref 154, .int (bn l4), v5, v6, v7], [], σ) := by
  refine bGo hA 128 14 (3358, .aload_n 1, 1, 2063, 0, [1], []) rfl rfl rfl ?_
  refine bGo hA 128 15 (3359, .aload_n 0, 1, 2064, 0, [0], []) rfl rfl rfl ?_
  refine bGo hA 129 0 (3360, .iload 4, 2, 2065, 0, [4], []) rfl rfl rfl ?_
  refine bGo hA 129 1 (3362, .iconst (1), 1, 2066, 0, [], [(1, 0)]) rfl rfl rfl ?_
  refine bEqI bl_1 ?_
  refine bGo hA 129 2 (3363, .iadd, 1, 2067, 0, [], []) rfl rfl rfl ?_
  refine bEqI (bn_add l4 1) ?_
  refine bGo hA 129 3 (3364, .iaload, 1, 2068, 0, [], []) rfl rfl rfl ?_
  refine ⟨rfl, (bIxP (x := (l4 + 1)) (n := bLen σ 200) h.1 h.2.1), ?_⟩
  refine bEqL (x := (l4 + 1)) h.1 ?_
  refine bGo hA 129 4 (3365, .aload_n 3, 1, 2069, 0, [3], []) rfl rfl rfl ?_
  refine bGo hA 129 5 (3366, .invokestatic 332, 3, 2070, 0, [2, 356, 3], []) rfl rfl rfl ?_
  refine hC _ _ _ _ _ (bRn_e (fun r3 s1 q4 k2 => ?_)) h.2.2
  show A (2070, [.ref 200, .ref 11, .ref 12, .ref 154, .int (bn l4), v5, v6, v7], [.int (bn r3)], s1)
  refine bGo hA 129 6 (3369, .istore 5, 2, 2071, 0, [5], []) rfl rfl rfl ?_
  refine bGo hA 129 7 (3371, .aload_n 2, 1, 2072, 0, [2], []) rfl rfl rfl ?_
  refine bGo hA 129 8 (3372, .aload_n 0, 1, 2073, 0, [0], []) rfl rfl rfl ?_
  refine bGo hA 129 9 (3373, .iload 4, 2, 2074, 0, [4], []) rfl rfl rfl ?_
  refine bGo hA 129 10 (3375, .iconst (1), 1, 2075, 0, [], [(1, 0)]) rfl rfl rfl ?_
  refine bEqI bl_1 ?_
  refine bGo hA 129 11 (3376, .iadd, 1, 2076, 0, [], []) rfl rfl rfl ?_
  refine bEqI (bn_add l4 1) ?_
  refine bGo hA 129 12 (3377, .iaload, 1, 2077, 0, [], []) rfl rfl rfl ?_
  refine ⟨rfl, (bIxP (x := (l4 + 1)) (n := bLen s1 200) h.1 k2.1), ?_⟩
  refine bEqL (x := (l4 + 1)) h.1 ?_
  refine bGo hA 129 13 (3378, .invokevirtual 334, 3, 2078, 0, [0, 12, 313, 1], []) rfl rfl rfl ?_
  refine ⟨rfl, ?_⟩
  refine hC _ _ _ _ _ (bRn_e (fun r7 s5 q8 k6 => ?_)) k2.2
  show A (2078, [.ref 200, .ref 11, .ref 12, .ref 154, .int (bn l4), .int (bn r3), v6, v7], [.int (bn r7)], s5)
  refine bGo hA 129 14 (3381, .istore 6, 2, 2079, 0, [6], []) rfl rfl rfl ?_
  refine bGo hA 129 15 (3383, .aload_n 2, 1, 2080, 0, [2], []) rfl rfl rfl ?_
  refine bGo hA 130 0 (3384, .invokevirtual 168, 3, 2081, 0, [0, 12, 196, 0], []) rfl rfl rfl ?_
  refine ⟨rfl, ?_⟩
  refine hC _ _ _ _ _ (bRn_e (fun r11 s9 q12 k10 => ?_)) k6
  show A (2081, [.ref 200, .ref 11, .ref 12, .ref 154, .int (bn l4), .int (bn r3), .int (bn r7), v7], [.int (bn r11)], s9)
  refine bGo hA 130 1 (3387, .iload 5, 2, 2082, 0, [5], []) rfl rfl rfl ?_
  refine bGo hA 130 2 (3389, .if_icmp .eq (5), 3, 2083, 2085, [], []) rfl rfl rfl ?_
  refine bB_eq (x := r11) (y := r3) q12 q4 (fun c13 => ?_) (fun c13 => ?_)
  · refine bGo hA 130 5 (3394, .iload 5, 2, 2086, 0, [5], []) rfl rfl rfl ?_
    refine bGo hA 130 6 (3396, .ifCond .ne (15), 3, 2087, 2096, [], []) rfl rfl rfl ?_
    refine bB_eq0 (x := r3) q4 (fun c14 => ?_) (fun c14 => ?_)
    · refine bGo hA 130 7 (3399, .aload_n 3, 1, 2088, 0, [3], []) rfl rfl rfl ?_
      refine bGo hA 130 8 (3400, .iconst (0), 1, 2089, 0, [], [(0, 0)]) rfl rfl rfl ?_
      refine bEqI bl_0 ?_
      refine bGo hA 130 9 (3401, .laload, 1, 2090, 0, [], []) rfl rfl rfl ?_
      refine ⟨rfl, (bIxP (x := 0) (n := 1) (by decide) (by decide)), ?_⟩
      refine bEqJ (x := 0) (by decide : bRg 0) ?_
      refine bGo hA 130 10 (3402, .iload 6, 2, 2091, 0, [6], []) rfl rfl rfl ?_
      refine bGo hA 130 11 (3404, .i2l, 1, 2092, 0, [], []) rfl rfl rfl ?_
      refine bGo hA 130 12 (3405, .lcmp, 1, 2093, 0, [], []) rfl rfl rfl ?_
      refine bEqI (bn_cmp (bj s9 154 0) (bL r7)) ?_
      refine bGo hA 130 13 (3406, .ifCond .eq (5), 3, 2094, 2096, [], []) rfl rfl rfl ?_
      refine bB_eq0 (x := (bCmp (bj s9 154 0) (bL r7))) (bRgI _) (fun c15 => ?_) (fun c15 => ?_)
      · refine bGo hA 131 0 (3411, .goto (3), 3, 2097, 2097, [], []) rfl rfl rfl ?_
        refine bGo hA 131 1 (3414, .iinc 4 (6), 3, 2098, 0, [4], [(6, 0)]) rfl rfl rfl ?_
        refine bEqC (fun v => A (2098, [.ref 200, .ref 11, .ref 12, .ref 154, .int v, .int (bn r3), .int (bn r7), v7], [], s9)) ((congrArg (fun w => bn l4 + w) bl_6).trans (bn_add l4 6)) ?_
        refine bGo hA 131 2 (3417, .goto (-3394), 3, 2099, 13, [], []) rfl rfl rfl ?_
        exact (((k10.1 c13).1 c14).1 c15).2
      · refine bGo hA 130 14 (3409, .iconst (0), 1, 2095, 0, [], [(0, 0)]) rfl rfl rfl ?_
        refine bEqI bl_0 ?_
        refine bGo hA 130 15 (3410, .ireturn, 1, 2096, 0, [2], []) rfl rfl rfl ?_
        exact ⟨b01 (Or.inl rfl), (((k10.1 c13).1 c14).2 c15)⟩
    · refine bGo hA 131 0 (3411, .goto (3), 3, 2097, 2097, [], []) rfl rfl rfl ?_
      refine bGo hA 131 1 (3414, .iinc 4 (6), 3, 2098, 0, [4], [(6, 0)]) rfl rfl rfl ?_
      refine bEqC (fun v => A (2098, [.ref 200, .ref 11, .ref 12, .ref 154, .int v, .int (bn r3), .int (bn r7), v7], [], s9)) ((congrArg (fun w => bn l4 + w) bl_6).trans (bn_add l4 6)) ?_
      refine bGo hA 131 2 (3417, .goto (-3394), 3, 2099, 13, [], []) rfl rfl rfl ?_
      exact ((k10.1 c13).2 c14).2
  · refine bGo hA 130 3 (3392, .iconst (0), 1, 2084, 0, [], [(0, 0)]) rfl rfl rfl ?_
    refine bEqI bl_0 ?_
    refine bGo hA 130 4 (3393, .ireturn, 1, 2085, 0, [2], []) rfl rfl rfl ?_
    exact ⟨b01 (Or.inl rfl), (k10.2 c13)⟩

theorem sq357_120 {lvl : Nat} {C : bCall} {Q : bPost} {A : bPt → Prop} (hC : bMono C) (hA : bClosed lvl bm357 C Q A) {l4 : Int} {v5 : Value} {v6 : Value} {v7 : Value} {t0 : Int} {t1 : Int} {σ : bSt}  (h_l4 : bRg l4) (h_t0 : bRg t0) (h_t1 : bRg t1)
  (h : (C 316 [.ref 11, .int (bn t1), .int (bn t0), .ref 154] σ (bRn (fun r3 s1 => (bRg (l4 + 1) ∧ ((0 ≤ (l4 + 1) ∧ (l4 + 1) < (bLen s1 200 : Int)) ∧ (bRg (l4 + 2) ∧ ((0 ≤ (l4 + 2) ∧ (l4 + 2) < (bLen s1 200 : Int)) ∧ (((bi s1 200 (l4 + 2)) = 0 → (C 204 [.ref 12, .int (bn (bi s1 200 (l4 + 1))), .int (bn 0)] s1 (bRn (fun r8 s6 => (C 196 [.ref 12] s6 (bRn (fun r12 s10 => ((r12 = r3 → ((r3 = 0 → ((r8 = 0 → (((bCmp (bj s10 154 0) (Int64.ofNat 0)) = 0 → (bRg (l4 + 6) ∧ A (13, [.ref 200, .ref 11, .ref 12, .ref 154, .int (bn (l4 + 6)), .int (bn r3), .int (bn r8), v7], [], s10))) ∧ (¬ (bCmp (bj s10 154 0) (Int64.ofNat 0)) = 0 → Q (.inl (some (.int (bn 0)))) s10))) ∧ (¬ r8 = 0 → (((bCmp (bj s10 154 0) (Int64.ofNat 1)) = 0 → (bRg (l4 + 6) ∧ A (13, [.ref 200, .ref 11, .ref 12, .ref 154, .int (bn (l4 + 6)), .int (bn r3), .int (bn r8), v7], [], s10))) ∧ (¬ (bCmp (bj s10 154 0) (Int64.ofNat 1)) = 0 → Q (.inl (some (.int (bn 0)))) s10))))) ∧ (¬ r3 = 0 → (bRg (l4 + 6) ∧ A (13, [.ref 200, .ref 11, .ref 12, .ref 154, .int (bn (l4 + 6)), .int (bn r3), .int (bn r8), v7], [], s10))))) ∧ (¬ r12 = r3 → Q (.inl (some (.int (bn 0)))) s10))))))))) ∧ (¬ (bi s1 200 (l4 + 2)) = 0 → (C 204 [.ref 12, .int (bn (bi s1 200 (l4 + 1))), .int (bn 1)] s1 (bRn (fun r21 s19 => (C 196 [.ref 12] s19 (bRn (fun r25 s23 => ((r25 = r3 → ((r3 = 0 → ((r21 = 0 → (((bCmp (bj s23 154 0) (Int64.ofNat 0)) = 0 → (bRg (l4 + 6) ∧ A (13, [.ref 200, .ref 11, .ref 12, .ref 154, .int (bn (l4 + 6)), .int (bn r3), .int (bn r21), v7], [], s23))) ∧ (¬ (bCmp (bj s23 154 0) (Int64.ofNat 0)) = 0 → Q (.inl (some (.int (bn 0)))) s23))) ∧ (¬ r21 = 0 → (((bCmp (bj s23 154 0) (Int64.ofNat 1)) = 0 → (bRg (l4 + 6) ∧ A (13, [.ref 200, .ref 11, .ref 12, .ref 154, .int (bn (l4 + 6)), .int (bn r3), .int (bn r21), v7], [], s23))) ∧ (¬ (bCmp (bj s23 154 0) (Int64.ofNat 1)) = 0 → Q (.inl (some (.int (bn 0)))) s23))))) ∧ (¬ r3 = 0 → (bRg (l4 + 6) ∧ A (13, [.ref 200, .ref 11, .ref 12, .ref 154, .int (bn (l4 + 6)), .int (bn r3), .int (bn r21), v7], [], s23))))) ∧ (¬ r25 = r3 → Q (.inl (some (.int (bn 0)))) s23)))))))))))))))))) : A (120, [.ref 200, .ref 11, .ref 12, .ref 154, .int (bn l4), v5, v6, v7], [.int (bn t0), .int (bn t1), .ref 11], σ) := by
  refine bGo hA 7 8 (397, .aload_n 3, 1, 121, 0, [3], []) rfl rfl rfl ?_
  refine bGo hA 7 9 (398, .invokestatic 176, 3, 122, 0, [2, 316, 4], []) rfl rfl rfl ?_
  refine hC _ _ _ _ _ (bRn_e (fun r3 s1 q4 k2 => ?_)) h
  show A (122, [.ref 200, .ref 11, .ref 12, .ref 154, .int (bn l4), v5, v6, v7], [.int (bn r3)], s1)
  refine bGo hA 7 10 (401, .istore 5, 2, 123, 0, [5], []) rfl rfl rfl ?_
  refine bGo hA 7 11 (403, .aload_n 2, 1, 124, 0, [2], []) rfl rfl rfl ?_
  refine bGo hA 7 12 (404, .aload_n 0, 1, 125, 0, [0], []) rfl rfl rfl ?_
  refine bGo hA 7 13 (405, .iload 4, 2, 126, 0, [4], []) rfl rfl rfl ?_
  refine bGo hA 7 14 (407, .iconst (1), 1, 127, 0, [], [(1, 0)]) rfl rfl rfl ?_
  refine bEqI bl_1 ?_
  refine bGo hA 7 15 (408, .iadd, 1, 128, 0, [], []) rfl rfl rfl ?_
  refine bEqI (bn_add l4 1) ?_
  refine bGo hA 8 0 (409, .iaload, 1, 129, 0, [], []) rfl rfl rfl ?_
  refine ⟨rfl, (bIxP (x := (l4 + 1)) (n := bLen s1 200) k2.1 k2.2.1), ?_⟩
  refine bEqL (x := (l4 + 1)) k2.1 ?_
  refine bGo hA 8 1 (410, .aload_n 0, 1, 130, 0, [0], []) rfl rfl rfl ?_
  refine bGo hA 8 2 (411, .iload 4, 2, 131, 0, [4], []) rfl rfl rfl ?_
  refine bGo hA 8 3 (413, .iconst (2), 1, 132, 0, [], [(2, 0)]) rfl rfl rfl ?_
  refine bEqI bl_2 ?_
  refine bGo hA 8 4 (414, .iadd, 1, 133, 0, [], []) rfl rfl rfl ?_
  refine bEqI (bn_add l4 2) ?_
  refine bGo hA 8 5 (415, .iaload, 1, 134, 0, [], []) rfl rfl rfl ?_
  refine ⟨rfl, (bIxP (x := (l4 + 2)) (n := bLen s1 200) k2.2.2.1 k2.2.2.2.1), ?_⟩
  refine bEqL (x := (l4 + 2)) k2.2.2.1 ?_
  refine bGo hA 8 6 (416, .ifCond .eq (7), 3, 135, 137, [], []) rfl rfl rfl ?_
  refine bB_eq0 (x := (bi s1 200 (l4 + 2))) (bi_rg _ _ _) (fun c5 => ?_) (fun c5 => ?_)
  · refine bGo hA 8 9 (423, .iconst (0), 1, 138, 0, [], [(0, 0)]) rfl rfl rfl ?_
    refine bEqI bl_0 ?_
    refine bGo hA 8 10 (424, .invokevirtual 179, 3, 139, 0, [0, 12, 204, 2], []) rfl rfl rfl ?_
    refine ⟨rfl, ?_⟩
    refine hC _ _ _ _ _ (bRn_e (fun r8 s6 q9 k7 => ?_)) (k2.2.2.2.2.1 c5)
    show A (139, [.ref 200, .ref 11, .ref 12, .ref 154, .int (bn l4), .int (bn r3), v6, v7], [.int (bn r8)], s6)
    refine bGo hA 8 11 (427, .istore 6, 2, 140, 0, [6], []) rfl rfl rfl ?_
    refine bGo hA 8 12 (429, .aload_n 2, 1, 141, 0, [2], []) rfl rfl rfl ?_
    refine bGo hA 8 13 (430, .invokevirtual 168, 3, 142, 0, [0, 12, 196, 0], []) rfl rfl rfl ?_
    refine ⟨rfl, ?_⟩
    refine hC _ _ _ _ _ (bRn_e (fun r12 s10 q13 k11 => ?_)) k7
    show A (142, [.ref 200, .ref 11, .ref 12, .ref 154, .int (bn l4), .int (bn r3), .int (bn r8), v7], [.int (bn r12)], s10)
    refine bGo hA 8 14 (433, .iload 5, 2, 143, 0, [5], []) rfl rfl rfl ?_
    refine bGo hA 8 15 (435, .if_icmp .eq (5), 3, 144, 146, [], []) rfl rfl rfl ?_
    refine bB_eq (x := r12) (y := r3) q13 q4 (fun c14 => ?_) (fun c14 => ?_)
    · refine bGo hA 9 2 (440, .iload 5, 2, 147, 0, [5], []) rfl rfl rfl ?_
      refine bGo hA 9 3 (442, .ifCond .ne (22), 3, 148, 160, [], []) rfl rfl rfl ?_
      refine bB_eq0 (x := r3) q4 (fun c15 => ?_) (fun c15 => ?_)
      · refine bGo hA 9 4 (445, .aload_n 3, 1, 149, 0, [3], []) rfl rfl rfl ?_
        refine bGo hA 9 5 (446, .iconst (0), 1, 150, 0, [], [(0, 0)]) rfl rfl rfl ?_
        refine bEqI bl_0 ?_
        refine bGo hA 9 6 (447, .laload, 1, 151, 0, [], []) rfl rfl rfl ?_
        refine ⟨rfl, (bIxP (x := 0) (n := 1) (by decide) (by decide)), ?_⟩
        refine bEqJ (x := 0) (by decide : bRg 0) ?_
        refine bGo hA 9 7 (448, .iload 6, 2, 152, 0, [6], []) rfl rfl rfl ?_
        refine bGo hA 9 8 (450, .ifCond .eq (7), 3, 153, 155, [], []) rfl rfl rfl ?_
        refine bB_eq0 (x := r8) q9 (fun c16 => ?_) (fun c16 => ?_)
        · refine bGo hA 9 11 (457, .lconst 0, 1, 156, 0, [0], []) rfl rfl rfl ?_
          refine bGo hA 9 12 (458, .lcmp, 1, 157, 0, [], []) rfl rfl rfl ?_
          refine bEqI (bn_cmp (bj s10 154 0) (Int64.ofNat 0)) ?_
          refine bGo hA 9 13 (459, .ifCond .eq (5), 3, 158, 160, [], []) rfl rfl rfl ?_
          refine bB_eq0 (x := (bCmp (bj s10 154 0) (Int64.ofNat 0))) (bRgI _) (fun c17 => ?_) (fun c17 => ?_)
          · refine bGo hA 10 0 (464, .goto (2950), 3, 161, 2097, [], []) rfl rfl rfl ?_
            refine bGo hA 131 1 (3414, .iinc 4 (6), 3, 2098, 0, [4], [(6, 0)]) rfl rfl rfl ?_
            refine bEqC (fun v => A (2098, [.ref 200, .ref 11, .ref 12, .ref 154, .int v, .int (bn r3), .int (bn r8), v7], [], s10)) ((congrArg (fun w => bn l4 + w) bl_6).trans (bn_add l4 6)) ?_
            refine bGo hA 131 2 (3417, .goto (-3394), 3, 2099, 13, [], []) rfl rfl rfl ?_
            exact ((((k11.1 c14).1 c15).1 c16).1 c17).2
          · refine bGo hA 9 14 (462, .iconst (0), 1, 159, 0, [], [(0, 0)]) rfl rfl rfl ?_
            refine bEqI bl_0 ?_
            refine bGo hA 9 15 (463, .ireturn, 1, 160, 0, [2], []) rfl rfl rfl ?_
            exact ⟨b01 (Or.inl rfl), ((((k11.1 c14).1 c15).1 c16).2 c17)⟩
        · refine bGo hA 9 9 (453, .lconst 1, 1, 154, 0, [1], []) rfl rfl rfl ?_
          refine bGo hA 9 10 (454, .goto (4), 3, 155, 156, [], []) rfl rfl rfl ?_
          refine bGo hA 9 12 (458, .lcmp, 1, 157, 0, [], []) rfl rfl rfl ?_
          refine bEqI (bn_cmp (bj s10 154 0) (Int64.ofNat 1)) ?_
          refine bGo hA 9 13 (459, .ifCond .eq (5), 3, 158, 160, [], []) rfl rfl rfl ?_
          refine bB_eq0 (x := (bCmp (bj s10 154 0) (Int64.ofNat 1))) (bRgI _) (fun c18 => ?_) (fun c18 => ?_)
          · refine bGo hA 10 0 (464, .goto (2950), 3, 161, 2097, [], []) rfl rfl rfl ?_
            refine bGo hA 131 1 (3414, .iinc 4 (6), 3, 2098, 0, [4], [(6, 0)]) rfl rfl rfl ?_
            refine bEqC (fun v => A (2098, [.ref 200, .ref 11, .ref 12, .ref 154, .int v, .int (bn r3), .int (bn r8), v7], [], s10)) ((congrArg (fun w => bn l4 + w) bl_6).trans (bn_add l4 6)) ?_
            refine bGo hA 131 2 (3417, .goto (-3394), 3, 2099, 13, [], []) rfl rfl rfl ?_
            exact ((((k11.1 c14).1 c15).2 c16).1 c18).2
          · refine bGo hA 9 14 (462, .iconst (0), 1, 159, 0, [], [(0, 0)]) rfl rfl rfl ?_
            refine bEqI bl_0 ?_
            refine bGo hA 9 15 (463, .ireturn, 1, 160, 0, [2], []) rfl rfl rfl ?_
            exact ⟨b01 (Or.inl rfl), ((((k11.1 c14).1 c15).2 c16).2 c18)⟩
      · refine bGo hA 10 0 (464, .goto (2950), 3, 161, 2097, [], []) rfl rfl rfl ?_
        refine bGo hA 131 1 (3414, .iinc 4 (6), 3, 2098, 0, [4], [(6, 0)]) rfl rfl rfl ?_
        refine bEqC (fun v => A (2098, [.ref 200, .ref 11, .ref 12, .ref 154, .int v, .int (bn r3), .int (bn r8), v7], [], s10)) ((congrArg (fun w => bn l4 + w) bl_6).trans (bn_add l4 6)) ?_
        refine bGo hA 131 2 (3417, .goto (-3394), 3, 2099, 13, [], []) rfl rfl rfl ?_
        exact ((k11.1 c14).2 c15).2
    · refine bGo hA 9 0 (438, .iconst (0), 1, 145, 0, [], [(0, 0)]) rfl rfl rfl ?_
      refine bEqI bl_0 ?_
      refine bGo hA 9 1 (439, .ireturn, 1, 146, 0, [2], []) rfl rfl rfl ?_
      exact ⟨b01 (Or.inl rfl), (k11.2 c14)⟩
  · refine bGo hA 8 7 (419, .iconst (1), 1, 136, 0, [], [(1, 0)]) rfl rfl rfl ?_
    refine bEqI bl_1 ?_
    refine bGo hA 8 8 (420, .goto (4), 3, 137, 138, [], []) rfl rfl rfl ?_
    refine bGo hA 8 10 (424, .invokevirtual 179, 3, 139, 0, [0, 12, 204, 2], []) rfl rfl rfl ?_
    refine ⟨rfl, ?_⟩
    refine hC _ _ _ _ _ (bRn_e (fun r21 s19 q22 k20 => ?_)) (k2.2.2.2.2.2 c5)
    show A (139, [.ref 200, .ref 11, .ref 12, .ref 154, .int (bn l4), .int (bn r3), v6, v7], [.int (bn r21)], s19)
    refine bGo hA 8 11 (427, .istore 6, 2, 140, 0, [6], []) rfl rfl rfl ?_
    refine bGo hA 8 12 (429, .aload_n 2, 1, 141, 0, [2], []) rfl rfl rfl ?_
    refine bGo hA 8 13 (430, .invokevirtual 168, 3, 142, 0, [0, 12, 196, 0], []) rfl rfl rfl ?_
    refine ⟨rfl, ?_⟩
    refine hC _ _ _ _ _ (bRn_e (fun r25 s23 q26 k24 => ?_)) k20
    show A (142, [.ref 200, .ref 11, .ref 12, .ref 154, .int (bn l4), .int (bn r3), .int (bn r21), v7], [.int (bn r25)], s23)
    refine bGo hA 8 14 (433, .iload 5, 2, 143, 0, [5], []) rfl rfl rfl ?_
    refine bGo hA 8 15 (435, .if_icmp .eq (5), 3, 144, 146, [], []) rfl rfl rfl ?_
    refine bB_eq (x := r25) (y := r3) q26 q4 (fun c27 => ?_) (fun c27 => ?_)
    · refine bGo hA 9 2 (440, .iload 5, 2, 147, 0, [5], []) rfl rfl rfl ?_
      refine bGo hA 9 3 (442, .ifCond .ne (22), 3, 148, 160, [], []) rfl rfl rfl ?_
      refine bB_eq0 (x := r3) q4 (fun c28 => ?_) (fun c28 => ?_)
      · refine bGo hA 9 4 (445, .aload_n 3, 1, 149, 0, [3], []) rfl rfl rfl ?_
        refine bGo hA 9 5 (446, .iconst (0), 1, 150, 0, [], [(0, 0)]) rfl rfl rfl ?_
        refine bEqI bl_0 ?_
        refine bGo hA 9 6 (447, .laload, 1, 151, 0, [], []) rfl rfl rfl ?_
        refine ⟨rfl, (bIxP (x := 0) (n := 1) (by decide) (by decide)), ?_⟩
        refine bEqJ (x := 0) (by decide : bRg 0) ?_
        refine bGo hA 9 7 (448, .iload 6, 2, 152, 0, [6], []) rfl rfl rfl ?_
        refine bGo hA 9 8 (450, .ifCond .eq (7), 3, 153, 155, [], []) rfl rfl rfl ?_
        refine bB_eq0 (x := r21) q22 (fun c29 => ?_) (fun c29 => ?_)
        · refine bGo hA 9 11 (457, .lconst 0, 1, 156, 0, [0], []) rfl rfl rfl ?_
          refine bGo hA 9 12 (458, .lcmp, 1, 157, 0, [], []) rfl rfl rfl ?_
          refine bEqI (bn_cmp (bj s23 154 0) (Int64.ofNat 0)) ?_
          refine bGo hA 9 13 (459, .ifCond .eq (5), 3, 158, 160, [], []) rfl rfl rfl ?_
          refine bB_eq0 (x := (bCmp (bj s23 154 0) (Int64.ofNat 0))) (bRgI _) (fun c30 => ?_) (fun c30 => ?_)
          · refine bGo hA 10 0 (464, .goto (2950), 3, 161, 2097, [], []) rfl rfl rfl ?_
            refine bGo hA 131 1 (3414, .iinc 4 (6), 3, 2098, 0, [4], [(6, 0)]) rfl rfl rfl ?_
            refine bEqC (fun v => A (2098, [.ref 200, .ref 11, .ref 12, .ref 154, .int v, .int (bn r3), .int (bn r21), v7], [], s23)) ((congrArg (fun w => bn l4 + w) bl_6).trans (bn_add l4 6)) ?_
            refine bGo hA 131 2 (3417, .goto (-3394), 3, 2099, 13, [], []) rfl rfl rfl ?_
            exact ((((k24.1 c27).1 c28).1 c29).1 c30).2
          · refine bGo hA 9 14 (462, .iconst (0), 1, 159, 0, [], [(0, 0)]) rfl rfl rfl ?_
            refine bEqI bl_0 ?_
            refine bGo hA 9 15 (463, .ireturn, 1, 160, 0, [2], []) rfl rfl rfl ?_
            exact ⟨b01 (Or.inl rfl), ((((k24.1 c27).1 c28).1 c29).2 c30)⟩
        · refine bGo hA 9 9 (453, .lconst 1, 1, 154, 0, [1], []) rfl rfl rfl ?_
          refine bGo hA 9 10 (454, .goto (4), 3, 155, 156, [], []) rfl rfl rfl ?_
          refine bGo hA 9 12 (458, .lcmp, 1, 157, 0, [], []) rfl rfl rfl ?_
          refine bEqI (bn_cmp (bj s23 154 0) (Int64.ofNat 1)) ?_
          refine bGo hA 9 13 (459, .ifCond .eq (5), 3, 158, 160, [], []) rfl rfl rfl ?_
          refine bB_eq0 (x := (bCmp (bj s23 154 0) (Int64.ofNat 1))) (bRgI _) (fun c31 => ?_) (fun c31 => ?_)
          · refine bGo hA 10 0 (464, .goto (2950), 3, 161, 2097, [], []) rfl rfl rfl ?_
            refine bGo hA 131 1 (3414, .iinc 4 (6), 3, 2098, 0, [4], [(6, 0)]) rfl rfl rfl ?_
            refine bEqC (fun v => A (2098, [.ref 200, .ref 11, .ref 12, .ref 154, .int v, .int (bn r3), .int (bn r21), v7], [], s23)) ((congrArg (fun w => bn l4 + w) bl_6).trans (bn_add l4 6)) ?_
            refine bGo hA 131 2 (3417, .goto (-3394), 3, 2099, 13, [], []) rfl rfl rfl ?_
            exact ((((k24.1 c27).1 c28).2 c29).1 c31).2
          · refine bGo hA 9 14 (462, .iconst (0), 1, 159, 0, [], [(0, 0)]) rfl rfl rfl ?_
            refine bEqI bl_0 ?_
            refine bGo hA 9 15 (463, .ireturn, 1, 160, 0, [2], []) rfl rfl rfl ?_
            exact ⟨b01 (Or.inl rfl), ((((k24.1 c27).1 c28).2 c29).2 c31)⟩
      · refine bGo hA 10 0 (464, .goto (2950), 3, 161, 2097, [], []) rfl rfl rfl ?_
        refine bGo hA 131 1 (3414, .iinc 4 (6), 3, 2098, 0, [4], [(6, 0)]) rfl rfl rfl ?_
        refine bEqC (fun v => A (2098, [.ref 200, .ref 11, .ref 12, .ref 154, .int v, .int (bn r3), .int (bn r21), v7], [], s23)) ((congrArg (fun w => bn l4 + w) bl_6).trans (bn_add l4 6)) ?_
        refine bGo hA 131 2 (3417, .goto (-3394), 3, 2099, 13, [], []) rfl rfl rfl ?_
        exact ((k24.1 c27).2 c28).2
    · refine bGo hA 9 0 (438, .iconst (0), 1, 145, 0, [], [(0, 0)]) rfl rfl rfl ?_
      refine bEqI bl_0 ?_
      refine bGo hA 9 1 (439, .ireturn, 1, 146, 0, [2], []) rfl rfl rfl ?_
      exact ⟨b01 (Or.inl rfl), (k24.2 c27)⟩

theorem sq357_216 {lvl : Nat} {C : bCall} {Q : bPost} {A : bPt → Prop} (hC : bMono C) (hA : bClosed lvl bm357 C Q A) {l4 : Int} {v5 : Value} {v6 : Value} {v7 : Value} {t0 : Int} {t1 : Int} {t2 : Int} {σ : bSt}  (h_l4 : bRg l4) (h_t0 : bRg t0) (h_t1 : bRg t1) (h_t2 : bRg t2)
  (h : (C 318 [.ref 11, .int (bn t2), .int (bn t1), .int (bn t0), .ref 154] σ (bRn (fun r3 s1 => (bRg (l4 + 1) ∧ ((0 ≤ (l4 + 1) ∧ (l4 + 1) < (bLen s1 200 : Int)) ∧ (bRg (l4 + 2) ∧ ((0 ≤ (l4 + 2) ∧ (l4 + 2) < (bLen s1 200 : Int)) ∧ (bRg (l4 + 3) ∧ ((0 ≤ (l4 + 3) ∧ (l4 + 3) < (bLen s1 200 : Int)) ∧ (((bi s1 200 (l4 + 3)) = 0 → (C 209 [.ref 12, .int (bn (bi s1 200 (l4 + 1))), .int (bn (bi s1 200 (l4 + 2))), .int (bn 0)] s1 (bRj (fun r8 s6 => (C 196 [.ref 12] s6 (bRn (fun r11 s9 => ((r11 = r3 → ((r3 = 0 → (((bCmp (bj s9 154 0) r8) = 0 → (bRg (l4 + 6) ∧ A (13, [.ref 200, .ref 11, .ref 12, .ref 154, .int (bn (l4 + 6)), .int (bn r3), .long r8, .float 0], [], s9))) ∧ (¬ (bCmp (bj s9 154 0) r8) = 0 → Q (.inl (some (.int (bn 0)))) s9))) ∧ (¬ r3 = 0 → (bRg (l4 + 6) ∧ A (13, [.ref 200, .ref 11, .ref 12, .ref 154, .int (bn (l4 + 6)), .int (bn r3), .long r8, .float 0], [], s9))))) ∧ (¬ r11 = r3 → Q (.inl (some (.int (bn 0)))) s9))))))))) ∧ (¬ (bi s1 200 (l4 + 3)) = 0 → (C 209 [.ref 12, .int (bn (bi s1 200 (l4 + 1))), .int (bn (bi s1 200 (l4 + 2))), .int (bn 1)] s1 (bRj (fun r18 s16 => (C 196 [.ref 12] s16 (bRn (fun r21 s19 => ((r21 = r3 → ((r3 = 0 → (((bCmp (bj s19 154 0) r18) = 0 → (bRg (l4 + 6) ∧ A (13, [.ref 200, .ref 11, .ref 12, .ref 154, .int (bn (l4 + 6)), .int (bn r3), .long r18, .float 0], [], s19))) ∧ (¬ (bCmp (bj s19 154 0) r18) = 0 → Q (.inl (some (.int (bn 0)))) s19))) ∧ (¬ r3 = 0 → (bRg (l4 + 6) ∧ A (13, [.ref 200, .ref 11, .ref 12, .ref 154, .int (bn (l4 + 6)), .int (bn r3), .long r18, .float 0], [], s19))))) ∧ (¬ r21 = r3 → Q (.inl (some (.int (bn 0)))) s19)))))))))))))))))))) : A (216, [.ref 200, .ref 11, .ref 12, .ref 154, .int (bn l4), v5, v6, v7], [.int (bn t0), .int (bn t1), .int (bn t2), .ref 11], σ) := by
  refine bGo hA 13 8 (550, .aload_n 3, 1, 217, 0, [3], []) rfl rfl rfl ?_
  refine bGo hA 13 9 (551, .invokestatic 183, 3, 218, 0, [2, 318, 5], []) rfl rfl rfl ?_
  refine hC _ _ _ _ _ (bRn_e (fun r3 s1 q4 k2 => ?_)) h
  show A (218, [.ref 200, .ref 11, .ref 12, .ref 154, .int (bn l4), v5, v6, v7], [.int (bn r3)], s1)
  refine bGo hA 13 10 (554, .istore 5, 2, 219, 0, [5], []) rfl rfl rfl ?_
  refine bGo hA 13 11 (556, .aload_n 2, 1, 220, 0, [2], []) rfl rfl rfl ?_
  refine bGo hA 13 12 (557, .aload_n 0, 1, 221, 0, [0], []) rfl rfl rfl ?_
  refine bGo hA 13 13 (558, .iload 4, 2, 222, 0, [4], []) rfl rfl rfl ?_
  refine bGo hA 13 14 (560, .iconst (1), 1, 223, 0, [], [(1, 0)]) rfl rfl rfl ?_
  refine bEqI bl_1 ?_
  refine bGo hA 13 15 (561, .iadd, 1, 224, 0, [], []) rfl rfl rfl ?_
  refine bEqI (bn_add l4 1) ?_
  refine bGo hA 14 0 (562, .iaload, 1, 225, 0, [], []) rfl rfl rfl ?_
  refine ⟨rfl, (bIxP (x := (l4 + 1)) (n := bLen s1 200) k2.1 k2.2.1), ?_⟩
  refine bEqL (x := (l4 + 1)) k2.1 ?_
  refine bGo hA 14 1 (563, .aload_n 0, 1, 226, 0, [0], []) rfl rfl rfl ?_
  refine bGo hA 14 2 (564, .iload 4, 2, 227, 0, [4], []) rfl rfl rfl ?_
  refine bGo hA 14 3 (566, .iconst (2), 1, 228, 0, [], [(2, 0)]) rfl rfl rfl ?_
  refine bEqI bl_2 ?_
  refine bGo hA 14 4 (567, .iadd, 1, 229, 0, [], []) rfl rfl rfl ?_
  refine bEqI (bn_add l4 2) ?_
  refine bGo hA 14 5 (568, .iaload, 1, 230, 0, [], []) rfl rfl rfl ?_
  refine ⟨rfl, (bIxP (x := (l4 + 2)) (n := bLen s1 200) k2.2.2.1 k2.2.2.2.1), ?_⟩
  refine bEqL (x := (l4 + 2)) k2.2.2.1 ?_
  refine bGo hA 14 6 (569, .aload_n 0, 1, 231, 0, [0], []) rfl rfl rfl ?_
  refine bGo hA 14 7 (570, .iload 4, 2, 232, 0, [4], []) rfl rfl rfl ?_
  refine bGo hA 14 8 (572, .iconst (3), 1, 233, 0, [], [(3, 0)]) rfl rfl rfl ?_
  refine bEqI bl_3 ?_
  refine bGo hA 14 9 (573, .iadd, 1, 234, 0, [], []) rfl rfl rfl ?_
  refine bEqI (bn_add l4 3) ?_
  refine bGo hA 14 10 (574, .iaload, 1, 235, 0, [], []) rfl rfl rfl ?_
  refine ⟨rfl, (bIxP (x := (l4 + 3)) (n := bLen s1 200) k2.2.2.2.2.1 k2.2.2.2.2.2.1), ?_⟩
  refine bEqL (x := (l4 + 3)) k2.2.2.2.2.1 ?_
  refine bGo hA 14 11 (575, .ifCond .eq (7), 3, 236, 238, [], []) rfl rfl rfl ?_
  refine bB_eq0 (x := (bi s1 200 (l4 + 3))) (bi_rg _ _ _) (fun c5 => ?_) (fun c5 => ?_)
  · refine bGo hA 14 14 (582, .iconst (0), 1, 239, 0, [], [(0, 0)]) rfl rfl rfl ?_
    refine bEqI bl_0 ?_
    refine bGo hA 14 15 (583, .invokevirtual 186, 3, 240, 0, [0, 12, 209, 3], []) rfl rfl rfl ?_
    refine ⟨rfl, ?_⟩
    refine hC _ _ _ _ _ (bRj_e (fun r8 s6 k7 => ?_)) (k2.2.2.2.2.2.2.1 c5)
    show A (240, [.ref 200, .ref 11, .ref 12, .ref 154, .int (bn l4), .int (bn r3), v6, v7], [.long r8], s6)
    refine bGo hA 15 0 (586, .lstore 6, 2, 241, 0, [6], []) rfl rfl rfl ?_
    refine bGo hA 15 1 (588, .aload_n 2, 1, 242, 0, [2], []) rfl rfl rfl ?_
    refine bGo hA 15 2 (589, .invokevirtual 168, 3, 243, 0, [0, 12, 196, 0], []) rfl rfl rfl ?_
    refine ⟨rfl, ?_⟩
    refine hC _ _ _ _ _ (bRn_e (fun r11 s9 q12 k10 => ?_)) k7
    show A (243, [.ref 200, .ref 11, .ref 12, .ref 154, .int (bn l4), .int (bn r3), .long r8, .float 0], [.int (bn r11)], s9)
    refine bGo hA 15 3 (592, .iload 5, 2, 244, 0, [5], []) rfl rfl rfl ?_
    refine bGo hA 15 4 (594, .if_icmp .eq (5), 3, 245, 247, [], []) rfl rfl rfl ?_
    refine bB_eq (x := r11) (y := r3) q12 q4 (fun c13 => ?_) (fun c13 => ?_)
    · refine bGo hA 15 7 (599, .iload 5, 2, 248, 0, [5], []) rfl rfl rfl ?_
      refine bGo hA 15 8 (601, .ifCond .ne (14), 3, 249, 257, [], []) rfl rfl rfl ?_
      refine bB_eq0 (x := r3) q4 (fun c14 => ?_) (fun c14 => ?_)
      · refine bGo hA 15 9 (604, .aload_n 3, 1, 250, 0, [3], []) rfl rfl rfl ?_
        refine bGo hA 15 10 (605, .iconst (0), 1, 251, 0, [], [(0, 0)]) rfl rfl rfl ?_
        refine bEqI bl_0 ?_
        refine bGo hA 15 11 (606, .laload, 1, 252, 0, [], []) rfl rfl rfl ?_
        refine ⟨rfl, (bIxP (x := 0) (n := 1) (by decide) (by decide)), ?_⟩
        refine bEqJ (x := 0) (by decide : bRg 0) ?_
        refine bGo hA 15 12 (607, .lload 6, 2, 253, 0, [6], []) rfl rfl rfl ?_
        refine bGo hA 15 13 (609, .lcmp, 1, 254, 0, [], []) rfl rfl rfl ?_
        refine bEqI (bn_cmp (bj s9 154 0) r8) ?_
        refine bGo hA 15 14 (610, .ifCond .eq (5), 3, 255, 257, [], []) rfl rfl rfl ?_
        refine bB_eq0 (x := (bCmp (bj s9 154 0) r8)) (bRgI _) (fun c15 => ?_) (fun c15 => ?_)
        · refine bGo hA 16 1 (615, .goto (2799), 3, 258, 2097, [], []) rfl rfl rfl ?_
          refine bGo hA 131 1 (3414, .iinc 4 (6), 3, 2098, 0, [4], [(6, 0)]) rfl rfl rfl ?_
          refine bEqC (fun v => A (2098, [.ref 200, .ref 11, .ref 12, .ref 154, .int v, .int (bn r3), .long r8, .float 0], [], s9)) ((congrArg (fun w => bn l4 + w) bl_6).trans (bn_add l4 6)) ?_
          refine bGo hA 131 2 (3417, .goto (-3394), 3, 2099, 13, [], []) rfl rfl rfl ?_
          exact (((k10.1 c13).1 c14).1 c15).2
        · refine bGo hA 15 15 (613, .iconst (0), 1, 256, 0, [], [(0, 0)]) rfl rfl rfl ?_
          refine bEqI bl_0 ?_
          refine bGo hA 16 0 (614, .ireturn, 1, 257, 0, [2], []) rfl rfl rfl ?_
          exact ⟨b01 (Or.inl rfl), (((k10.1 c13).1 c14).2 c15)⟩
      · refine bGo hA 16 1 (615, .goto (2799), 3, 258, 2097, [], []) rfl rfl rfl ?_
        refine bGo hA 131 1 (3414, .iinc 4 (6), 3, 2098, 0, [4], [(6, 0)]) rfl rfl rfl ?_
        refine bEqC (fun v => A (2098, [.ref 200, .ref 11, .ref 12, .ref 154, .int v, .int (bn r3), .long r8, .float 0], [], s9)) ((congrArg (fun w => bn l4 + w) bl_6).trans (bn_add l4 6)) ?_
        refine bGo hA 131 2 (3417, .goto (-3394), 3, 2099, 13, [], []) rfl rfl rfl ?_
        exact ((k10.1 c13).2 c14).2
    · refine bGo hA 15 5 (597, .iconst (0), 1, 246, 0, [], [(0, 0)]) rfl rfl rfl ?_
      refine bEqI bl_0 ?_
      refine bGo hA 15 6 (598, .ireturn, 1, 247, 0, [2], []) rfl rfl rfl ?_
      exact ⟨b01 (Or.inl rfl), (k10.2 c13)⟩
  · refine bGo hA 14 12 (578, .iconst (1), 1, 237, 0, [], [(1, 0)]) rfl rfl rfl ?_
    refine bEqI bl_1 ?_
    refine bGo hA 14 13 (579, .goto (4), 3, 238, 239, [], []) rfl rfl rfl ?_
    refine bGo hA 14 15 (583, .invokevirtual 186, 3, 240, 0, [0, 12, 209, 3], []) rfl rfl rfl ?_
    refine ⟨rfl, ?_⟩
    refine hC _ _ _ _ _ (bRj_e (fun r18 s16 k17 => ?_)) (k2.2.2.2.2.2.2.2 c5)
    show A (240, [.ref 200, .ref 11, .ref 12, .ref 154, .int (bn l4), .int (bn r3), v6, v7], [.long r18], s16)
    refine bGo hA 15 0 (586, .lstore 6, 2, 241, 0, [6], []) rfl rfl rfl ?_
    refine bGo hA 15 1 (588, .aload_n 2, 1, 242, 0, [2], []) rfl rfl rfl ?_
    refine bGo hA 15 2 (589, .invokevirtual 168, 3, 243, 0, [0, 12, 196, 0], []) rfl rfl rfl ?_
    refine ⟨rfl, ?_⟩
    refine hC _ _ _ _ _ (bRn_e (fun r21 s19 q22 k20 => ?_)) k17
    show A (243, [.ref 200, .ref 11, .ref 12, .ref 154, .int (bn l4), .int (bn r3), .long r18, .float 0], [.int (bn r21)], s19)
    refine bGo hA 15 3 (592, .iload 5, 2, 244, 0, [5], []) rfl rfl rfl ?_
    refine bGo hA 15 4 (594, .if_icmp .eq (5), 3, 245, 247, [], []) rfl rfl rfl ?_
    refine bB_eq (x := r21) (y := r3) q22 q4 (fun c23 => ?_) (fun c23 => ?_)
    · refine bGo hA 15 7 (599, .iload 5, 2, 248, 0, [5], []) rfl rfl rfl ?_
      refine bGo hA 15 8 (601, .ifCond .ne (14), 3, 249, 257, [], []) rfl rfl rfl ?_
      refine bB_eq0 (x := r3) q4 (fun c24 => ?_) (fun c24 => ?_)
      · refine bGo hA 15 9 (604, .aload_n 3, 1, 250, 0, [3], []) rfl rfl rfl ?_
        refine bGo hA 15 10 (605, .iconst (0), 1, 251, 0, [], [(0, 0)]) rfl rfl rfl ?_
        refine bEqI bl_0 ?_
        refine bGo hA 15 11 (606, .laload, 1, 252, 0, [], []) rfl rfl rfl ?_
        refine ⟨rfl, (bIxP (x := 0) (n := 1) (by decide) (by decide)), ?_⟩
        refine bEqJ (x := 0) (by decide : bRg 0) ?_
        refine bGo hA 15 12 (607, .lload 6, 2, 253, 0, [6], []) rfl rfl rfl ?_
        refine bGo hA 15 13 (609, .lcmp, 1, 254, 0, [], []) rfl rfl rfl ?_
        refine bEqI (bn_cmp (bj s19 154 0) r18) ?_
        refine bGo hA 15 14 (610, .ifCond .eq (5), 3, 255, 257, [], []) rfl rfl rfl ?_
        refine bB_eq0 (x := (bCmp (bj s19 154 0) r18)) (bRgI _) (fun c25 => ?_) (fun c25 => ?_)
        · refine bGo hA 16 1 (615, .goto (2799), 3, 258, 2097, [], []) rfl rfl rfl ?_
          refine bGo hA 131 1 (3414, .iinc 4 (6), 3, 2098, 0, [4], [(6, 0)]) rfl rfl rfl ?_
          refine bEqC (fun v => A (2098, [.ref 200, .ref 11, .ref 12, .ref 154, .int v, .int (bn r3), .long r18, .float 0], [], s19)) ((congrArg (fun w => bn l4 + w) bl_6).trans (bn_add l4 6)) ?_
          refine bGo hA 131 2 (3417, .goto (-3394), 3, 2099, 13, [], []) rfl rfl rfl ?_
          exact (((k20.1 c23).1 c24).1 c25).2
        · refine bGo hA 15 15 (613, .iconst (0), 1, 256, 0, [], [(0, 0)]) rfl rfl rfl ?_
          refine bEqI bl_0 ?_
          refine bGo hA 16 0 (614, .ireturn, 1, 257, 0, [2], []) rfl rfl rfl ?_
          exact ⟨b01 (Or.inl rfl), (((k20.1 c23).1 c24).2 c25)⟩
      · refine bGo hA 16 1 (615, .goto (2799), 3, 258, 2097, [], []) rfl rfl rfl ?_
        refine bGo hA 131 1 (3414, .iinc 4 (6), 3, 2098, 0, [4], [(6, 0)]) rfl rfl rfl ?_
        refine bEqC (fun v => A (2098, [.ref 200, .ref 11, .ref 12, .ref 154, .int v, .int (bn r3), .long r18, .float 0], [], s19)) ((congrArg (fun w => bn l4 + w) bl_6).trans (bn_add l4 6)) ?_
        refine bGo hA 131 2 (3417, .goto (-3394), 3, 2099, 13, [], []) rfl rfl rfl ?_
        exact ((k20.1 c23).2 c24).2
    · refine bGo hA 15 5 (597, .iconst (0), 1, 246, 0, [], [(0, 0)]) rfl rfl rfl ?_
      refine bEqI bl_0 ?_
      refine bGo hA 15 6 (598, .ireturn, 1, 247, 0, [2], []) rfl rfl rfl ?_
      exact ⟨b01 (Or.inl rfl), (k20.2 c23)⟩

theorem sq357_895 {lvl : Nat} {C : bCall} {Q : bPost} {A : bPt → Prop} (hC : bMono C) (hA : bClosed lvl bm357 C Q A) {l4 : Int} {v5 : Value} {v6 : Value} {v7 : Value} {t0 : Int} {t1 : Int} {t2 : Int} {σ : bSt}  (h_l4 : bRg l4) (h_t0 : bRg t0) (h_t1 : bRg t1) (h_t2 : bRg t2)
  (h : (C 331 [.ref 11, .int (bn t2), .int (bn t1), .int (bn t0), .ref 154] σ (bRn (fun r3 s1 => (bRg (l4 + 1) ∧ ((0 ≤ (l4 + 1) ∧ (l4 + 1) < (bLen s1 200 : Int)) ∧ (bRg (l4 + 2) ∧ ((0 ≤ (l4 + 2) ∧ (l4 + 2) < (bLen s1 200 : Int)) ∧ (bRg (l4 + 3) ∧ ((0 ≤ (l4 + 3) ∧ (l4 + 3) < (bLen s1 200 : Int)) ∧ (((bi s1 200 (l4 + 3)) = 0 → (C 231 [.ref 12, .int (bn (bi s1 200 (l4 + 1))), .int (bn (bi s1 200 (l4 + 2))), .int (bn 0)] s1 (bRn (fun r8 s6 => (C 196 [.ref 12] s6 (bRn (fun r12 s10 => ((r12 = r3 → ((r3 = 0 → (((bCmp (bj s10 154 0) (bL r8)) = 0 → (bRg (l4 + 6) ∧ A (13, [.ref 200, .ref 11, .ref 12, .ref 154, .int (bn (l4 + 6)), .int (bn r3), .int (bn r8), v7], [], s10))) ∧ (¬ (bCmp (bj s10 154 0) (bL r8)) = 0 → Q (.inl (some (.int (bn 0)))) s10))) ∧ (¬ r3 = 0 → (bRg (l4 + 6) ∧ A (13, [.ref 200, .ref 11, .ref 12, .ref 154, .int (bn (l4 + 6)), .int (bn r3), .int (bn r8), v7], [], s10))))) ∧ (¬ r12 = r3 → Q (.inl (some (.int (bn 0)))) s10))))))))) ∧ (¬ (bi s1 200 (l4 + 3)) = 0 → (C 231 [.ref 12, .int (bn (bi s1 200 (l4 + 1))), .int (bn (bi s1 200 (l4 + 2))), .int (bn 1)] s1 (bRn (fun r19 s17 => (C 196 [.ref 12] s17 (bRn (fun r23 s21 => ((r23 = r3 → ((r3 = 0 → (((bCmp (bj s21 154 0) (bL r19)) = 0 → (bRg (l4 + 6) ∧ A (13, [.ref 200, .ref 11, .ref 12, .ref 154, .int (bn (l4 + 6)), .int (bn r3), .int (bn r19), v7], [], s21))) ∧ (¬ (bCmp (bj s21 154 0) (bL r19)) = 0 → Q (.inl (some (.int (bn 0)))) s21))) ∧ (¬ r3 = 0 → (bRg (l4 + 6) ∧ A (13, [.ref 200, .ref 11, .ref 12, .ref 154, .int (bn (l4 + 6)), .int (bn r3), .int (bn r19), v7], [], s21))))) ∧ (¬ r23 = r3 → Q (.inl (some (.int (bn 0)))) s21)))))))))))))))))))) : A (895, [.ref 200, .ref 11, .ref 12, .ref 154, .int (bn l4), v5, v6, v7], [.int (bn t0), .int (bn t1), .int (bn t2), .ref 11], σ) := by
  refine bGo hA 55 15 (1549, .aload_n 3, 1, 896, 0, [3], []) rfl rfl rfl ?_
  refine bGo hA 56 0 (1550, .invokestatic 227, 3, 897, 0, [2, 331, 5], []) rfl rfl rfl ?_
  refine hC _ _ _ _ _ (bRn_e (fun r3 s1 q4 k2 => ?_)) h
  show A (897, [.ref 200, .ref 11, .ref 12, .ref 154, .int (bn l4), v5, v6, v7], [.int (bn r3)], s1)
  refine bGo hA 56 1 (1553, .istore 5, 2, 898, 0, [5], []) rfl rfl rfl ?_
  refine bGo hA 56 2 (1555, .aload_n 2, 1, 899, 0, [2], []) rfl rfl rfl ?_
  refine bGo hA 56 3 (1556, .aload_n 0, 1, 900, 0, [0], []) rfl rfl rfl ?_
  refine bGo hA 56 4 (1557, .iload 4, 2, 901, 0, [4], []) rfl rfl rfl ?_
  refine bGo hA 56 5 (1559, .iconst (1), 1, 902, 0, [], [(1, 0)]) rfl rfl rfl ?_
  refine bEqI bl_1 ?_
  refine bGo hA 56 6 (1560, .iadd, 1, 903, 0, [], []) rfl rfl rfl ?_
  refine bEqI (bn_add l4 1) ?_
  refine bGo hA 56 7 (1561, .iaload, 1, 904, 0, [], []) rfl rfl rfl ?_
  refine ⟨rfl, (bIxP (x := (l4 + 1)) (n := bLen s1 200) k2.1 k2.2.1), ?_⟩
  refine bEqL (x := (l4 + 1)) k2.1 ?_
  refine bGo hA 56 8 (1562, .aload_n 0, 1, 905, 0, [0], []) rfl rfl rfl ?_
  refine bGo hA 56 9 (1563, .iload 4, 2, 906, 0, [4], []) rfl rfl rfl ?_
  refine bGo hA 56 10 (1565, .iconst (2), 1, 907, 0, [], [(2, 0)]) rfl rfl rfl ?_
  refine bEqI bl_2 ?_
  refine bGo hA 56 11 (1566, .iadd, 1, 908, 0, [], []) rfl rfl rfl ?_
  refine bEqI (bn_add l4 2) ?_
  refine bGo hA 56 12 (1567, .iaload, 1, 909, 0, [], []) rfl rfl rfl ?_
  refine ⟨rfl, (bIxP (x := (l4 + 2)) (n := bLen s1 200) k2.2.2.1 k2.2.2.2.1), ?_⟩
  refine bEqL (x := (l4 + 2)) k2.2.2.1 ?_
  refine bGo hA 56 13 (1568, .aload_n 0, 1, 910, 0, [0], []) rfl rfl rfl ?_
  refine bGo hA 56 14 (1569, .iload 4, 2, 911, 0, [4], []) rfl rfl rfl ?_
  refine bGo hA 56 15 (1571, .iconst (3), 1, 912, 0, [], [(3, 0)]) rfl rfl rfl ?_
  refine bEqI bl_3 ?_
  refine bGo hA 57 0 (1572, .iadd, 1, 913, 0, [], []) rfl rfl rfl ?_
  refine bEqI (bn_add l4 3) ?_
  refine bGo hA 57 1 (1573, .iaload, 1, 914, 0, [], []) rfl rfl rfl ?_
  refine ⟨rfl, (bIxP (x := (l4 + 3)) (n := bLen s1 200) k2.2.2.2.2.1 k2.2.2.2.2.2.1), ?_⟩
  refine bEqL (x := (l4 + 3)) k2.2.2.2.2.1 ?_
  refine bGo hA 57 2 (1574, .ifCond .eq (7), 3, 915, 917, [], []) rfl rfl rfl ?_
  refine bB_eq0 (x := (bi s1 200 (l4 + 3))) (bi_rg _ _ _) (fun c5 => ?_) (fun c5 => ?_)
  · refine bGo hA 57 5 (1581, .iconst (0), 1, 918, 0, [], [(0, 0)]) rfl rfl rfl ?_
    refine bEqI bl_0 ?_
    refine bGo hA 57 6 (1582, .invokevirtual 229, 3, 919, 0, [0, 12, 231, 3], []) rfl rfl rfl ?_
    refine ⟨rfl, ?_⟩
    refine hC _ _ _ _ _ (bRn_e (fun r8 s6 q9 k7 => ?_)) (k2.2.2.2.2.2.2.1 c5)
    show A (919, [.ref 200, .ref 11, .ref 12, .ref 154, .int (bn l4), .int (bn r3), v6, v7], [.int (bn r8)], s6)
    refine bGo hA 57 7 (1585, .istore 6, 2, 920, 0, [6], []) rfl rfl rfl ?_
    refine bGo hA 57 8 (1587, .aload_n 2, 1, 921, 0, [2], []) rfl rfl rfl ?_
    refine bGo hA 57 9 (1588, .invokevirtual 168, 3, 922, 0, [0, 12, 196, 0], []) rfl rfl rfl ?_
    refine ⟨rfl, ?_⟩
    refine hC _ _ _ _ _ (bRn_e (fun r12 s10 q13 k11 => ?_)) k7
    show A (922, [.ref 200, .ref 11, .ref 12, .ref 154, .int (bn l4), .int (bn r3), .int (bn r8), v7], [.int (bn r12)], s10)
    refine bGo hA 57 10 (1591, .iload 5, 2, 923, 0, [5], []) rfl rfl rfl ?_
    refine bGo hA 57 11 (1593, .if_icmp .eq (5), 3, 924, 926, [], []) rfl rfl rfl ?_
    refine bB_eq (x := r12) (y := r3) q13 q4 (fun c14 => ?_) (fun c14 => ?_)
    · refine bGo hA 57 14 (1598, .iload 5, 2, 927, 0, [5], []) rfl rfl rfl ?_
      refine bGo hA 57 15 (1600, .ifCond .ne (15), 3, 928, 937, [], []) rfl rfl rfl ?_
      refine bB_eq0 (x := r3) q4 (fun c15 => ?_) (fun c15 => ?_)
      · refine bGo hA 58 0 (1603, .aload_n 3, 1, 929, 0, [3], []) rfl rfl rfl ?_
        refine bGo hA 58 1 (1604, .iconst (0), 1, 930, 0, [], [(0, 0)]) rfl rfl rfl ?_
        refine bEqI bl_0 ?_
        refine bGo hA 58 2 (1605, .laload, 1, 931, 0, [], []) rfl rfl rfl ?_
        refine ⟨rfl, (bIxP (x := 0) (n := 1) (by decide) (by decide)), ?_⟩
        refine bEqJ (x := 0) (by decide : bRg 0) ?_
        refine bGo hA 58 3 (1606, .iload 6, 2, 932, 0, [6], []) rfl rfl rfl ?_
        refine bGo hA 58 4 (1608, .i2l, 1, 933, 0, [], []) rfl rfl rfl ?_
        refine bGo hA 58 5 (1609, .lcmp, 1, 934, 0, [], []) rfl rfl rfl ?_
        refine bEqI (bn_cmp (bj s10 154 0) (bL r8)) ?_
        refine bGo hA 58 6 (1610, .ifCond .eq (5), 3, 935, 937, [], []) rfl rfl rfl ?_
        refine bB_eq0 (x := (bCmp (bj s10 154 0) (bL r8))) (bRgI _) (fun c16 => ?_) (fun c16 => ?_)
        · refine bGo hA 58 9 (1615, .goto (1799), 3, 938, 2097, [], []) rfl rfl rfl ?_
          refine bGo hA 131 1 (3414, .iinc 4 (6), 3, 2098, 0, [4], [(6, 0)]) rfl rfl rfl ?_
          refine bEqC (fun v => A (2098, [.ref 200, .ref 11, .ref 12, .ref 154, .int v, .int (bn r3), .int (bn r8), v7], [], s10)) ((congrArg (fun w => bn l4 + w) bl_6).trans (bn_add l4 6)) ?_
          refine bGo hA 131 2 (3417, .goto (-3394), 3, 2099, 13, [], []) rfl rfl rfl ?_
          exact (((k11.1 c14).1 c15).1 c16).2
        · refine bGo hA 58 7 (1613, .iconst (0), 1, 936, 0, [], [(0, 0)]) rfl rfl rfl ?_
          refine bEqI bl_0 ?_
          refine bGo hA 58 8 (1614, .ireturn, 1, 937, 0, [2], []) rfl rfl rfl ?_
          exact ⟨b01 (Or.inl rfl), (((k11.1 c14).1 c15).2 c16)⟩
      · refine bGo hA 58 9 (1615, .goto (1799), 3, 938, 2097, [], []) rfl rfl rfl ?_
        refine bGo hA 131 1 (3414, .iinc 4 (6), 3, 2098, 0, [4], [(6, 0)]) rfl rfl rfl ?_
        refine bEqC (fun v => A (2098, [.ref 200, .ref 11, .ref 12, .ref 154, .int v, .int (bn r3), .int (bn r8), v7], [], s10)) ((congrArg (fun w => bn l4 + w) bl_6).trans (bn_add l4 6)) ?_
        refine bGo hA 131 2 (3417, .goto (-3394), 3, 2099, 13, [], []) rfl rfl rfl ?_
        exact ((k11.1 c14).2 c15).2
    · refine bGo hA 57 12 (1596, .iconst (0), 1, 925, 0, [], [(0, 0)]) rfl rfl rfl ?_
      refine bEqI bl_0 ?_
      refine bGo hA 57 13 (1597, .ireturn, 1, 926, 0, [2], []) rfl rfl rfl ?_
      exact ⟨b01 (Or.inl rfl), (k11.2 c14)⟩
  · refine bGo hA 57 3 (1577, .iconst (1), 1, 916, 0, [], [(1, 0)]) rfl rfl rfl ?_
    refine bEqI bl_1 ?_
    refine bGo hA 57 4 (1578, .goto (4), 3, 917, 918, [], []) rfl rfl rfl ?_
    refine bGo hA 57 6 (1582, .invokevirtual 229, 3, 919, 0, [0, 12, 231, 3], []) rfl rfl rfl ?_
    refine ⟨rfl, ?_⟩
    refine hC _ _ _ _ _ (bRn_e (fun r19 s17 q20 k18 => ?_)) (k2.2.2.2.2.2.2.2 c5)
    show A (919, [.ref 200, .ref 11, .ref 12, .ref 154, .int (bn l4), .int (bn r3), v6, v7], [.int (bn r19)], s17)
    refine bGo hA 57 7 (1585, .istore 6, 2, 920, 0, [6], []) rfl rfl rfl ?_
    refine bGo hA 57 8 (1587, .aload_n 2, 1, 921, 0, [2], []) rfl rfl rfl ?_
    refine bGo hA 57 9 (1588, .invokevirtual 168, 3, 922, 0, [0, 12, 196, 0], []) rfl rfl rfl ?_
    refine ⟨rfl, ?_⟩
    refine hC _ _ _ _ _ (bRn_e (fun r23 s21 q24 k22 => ?_)) k18
    show A (922, [.ref 200, .ref 11, .ref 12, .ref 154, .int (bn l4), .int (bn r3), .int (bn r19), v7], [.int (bn r23)], s21)
    refine bGo hA 57 10 (1591, .iload 5, 2, 923, 0, [5], []) rfl rfl rfl ?_
    refine bGo hA 57 11 (1593, .if_icmp .eq (5), 3, 924, 926, [], []) rfl rfl rfl ?_
    refine bB_eq (x := r23) (y := r3) q24 q4 (fun c25 => ?_) (fun c25 => ?_)
    · refine bGo hA 57 14 (1598, .iload 5, 2, 927, 0, [5], []) rfl rfl rfl ?_
      refine bGo hA 57 15 (1600, .ifCond .ne (15), 3, 928, 937, [], []) rfl rfl rfl ?_
      refine bB_eq0 (x := r3) q4 (fun c26 => ?_) (fun c26 => ?_)
      · refine bGo hA 58 0 (1603, .aload_n 3, 1, 929, 0, [3], []) rfl rfl rfl ?_
        refine bGo hA 58 1 (1604, .iconst (0), 1, 930, 0, [], [(0, 0)]) rfl rfl rfl ?_
        refine bEqI bl_0 ?_
        refine bGo hA 58 2 (1605, .laload, 1, 931, 0, [], []) rfl rfl rfl ?_
        refine ⟨rfl, (bIxP (x := 0) (n := 1) (by decide) (by decide)), ?_⟩
        refine bEqJ (x := 0) (by decide : bRg 0) ?_
        refine bGo hA 58 3 (1606, .iload 6, 2, 932, 0, [6], []) rfl rfl rfl ?_
        refine bGo hA 58 4 (1608, .i2l, 1, 933, 0, [], []) rfl rfl rfl ?_
        refine bGo hA 58 5 (1609, .lcmp, 1, 934, 0, [], []) rfl rfl rfl ?_
        refine bEqI (bn_cmp (bj s21 154 0) (bL r19)) ?_
        refine bGo hA 58 6 (1610, .ifCond .eq (5), 3, 935, 937, [], []) rfl rfl rfl ?_
        refine bB_eq0 (x := (bCmp (bj s21 154 0) (bL r19))) (bRgI _) (fun c27 => ?_) (fun c27 => ?_)
        · refine bGo hA 58 9 (1615, .goto (1799), 3, 938, 2097, [], []) rfl rfl rfl ?_
          refine bGo hA 131 1 (3414, .iinc 4 (6), 3, 2098, 0, [4], [(6, 0)]) rfl rfl rfl ?_
          refine bEqC (fun v => A (2098, [.ref 200, .ref 11, .ref 12, .ref 154, .int v, .int (bn r3), .int (bn r19), v7], [], s21)) ((congrArg (fun w => bn l4 + w) bl_6).trans (bn_add l4 6)) ?_
          refine bGo hA 131 2 (3417, .goto (-3394), 3, 2099, 13, [], []) rfl rfl rfl ?_
          exact (((k22.1 c25).1 c26).1 c27).2
        · refine bGo hA 58 7 (1613, .iconst (0), 1, 936, 0, [], [(0, 0)]) rfl rfl rfl ?_
          refine bEqI bl_0 ?_
          refine bGo hA 58 8 (1614, .ireturn, 1, 937, 0, [2], []) rfl rfl rfl ?_
          exact ⟨b01 (Or.inl rfl), (((k22.1 c25).1 c26).2 c27)⟩
      · refine bGo hA 58 9 (1615, .goto (1799), 3, 938, 2097, [], []) rfl rfl rfl ?_
        refine bGo hA 131 1 (3414, .iinc 4 (6), 3, 2098, 0, [4], [(6, 0)]) rfl rfl rfl ?_
        refine bEqC (fun v => A (2098, [.ref 200, .ref 11, .ref 12, .ref 154, .int v, .int (bn r3), .int (bn r19), v7], [], s21)) ((congrArg (fun w => bn l4 + w) bl_6).trans (bn_add l4 6)) ?_
        refine bGo hA 131 2 (3417, .goto (-3394), 3, 2099, 13, [], []) rfl rfl rfl ?_
        exact ((k22.1 c25).2 c26).2
    · refine bGo hA 57 12 (1596, .iconst (0), 1, 925, 0, [], [(0, 0)]) rfl rfl rfl ?_
      refine bEqI bl_0 ?_
      refine bGo hA 57 13 (1597, .ireturn, 1, 926, 0, [2], []) rfl rfl rfl ?_
      exact ⟨b01 (Or.inl rfl), (k22.2 c25)⟩

theorem sq357_1130 {lvl : Nat} {C : bCall} {Q : bPost} {A : bPt → Prop} (hC : bMono C) (hA : bClosed lvl bm357 C Q A) {l4 : Int} {v5 : Value} {v6 : Value} {v7 : Value} {t0 : Int} {t1 : Int} {t2 : Int} {t3 : Int} {σ : bSt}  (h_l4 : bRg l4) (h_t0 : bRg t0) (h_t1 : bRg t1) (h_t2 : bRg t2) (h_t3 : bRg t3)
  (h : (C 336 [.ref 11, .int (bn t3), .int (bn t2), .int (bn t1), .int (bn t0)] σ (bRn (fun r3 s1 => (bRg (l4 + 1) ∧ ((0 ≤ (l4 + 1) ∧ (l4 + 1) < (bLen s1 200 : Int)) ∧ (bRg (l4 + 2) ∧ ((0 ≤ (l4 + 2) ∧ (l4 + 2) < (bLen s1 200 : Int)) ∧ (bRg (l4 + 3) ∧ ((0 ≤ (l4 + 3) ∧ (l4 + 3) < (bLen s1 200 : Int)) ∧ (bRg (l4 + 4) ∧ ((0 ≤ (l4 + 4) ∧ (l4 + 4) < (bLen s1 200 : Int)) ∧ (((bi s1 200 (l4 + 4)) = 0 → (C 236 [.ref 12, .int (bn (bi s1 200 (l4 + 1))), .int (bn (bi s1 200 (l4 + 2))), .int (bn (bi s1 200 (l4 + 3))), .int (bn 0)] s1 (bRv (fun s6 => (C 196 [.ref 12] s6 (bRn (fun r10 s8 => ((r10 = r3 → (bRg (l4 + 6) ∧ A (13, [.ref 200, .ref 11, .ref 12, .ref 154, .int (bn (l4 + 6)), .int (bn r3), v6, v7], [], s8))) ∧ (¬ r10 = r3 → Q (.inl (some (.int (bn 0)))) s8))))))))) ∧ (¬ (bi s1 200 (l4 + 4)) = 0 → (C 236 [.ref 12, .int (bn (bi s1 200 (l4 + 1))), .int (bn (bi s1 200 (l4 + 2))), .int (bn (bi s1 200 (l4 + 3))), .int (bn 1)] s1 (bRv (fun s13 => (C 196 [.ref 12] s13 (bRn (fun r17 s15 => ((r17 = r3 → (bRg (l4 + 6) ∧ A (13, [.ref 200, .ref 11, .ref 12, .ref 154, .int (bn (l4 + 6)), .int (bn r3), v6, v7], [], s15))) ∧ (¬ r17 = r3 → Q (.inl (some (.int (bn 0)))) s15)))))))))))))))))))))) : A (1130, [.ref 200, .ref 11, .ref 12, .ref 154, .int (bn l4), v5, v6, v7], [.int (bn t0), .int (bn t1), .int (bn t2), .int (bn t3), .ref 11], σ) := by
  refine bGo hA 70 10 (1903, .invokestatic 242, 3, 1131, 0, [2, 336, 5], []) rfl rfl rfl ?_
  refine hC _ _ _ _ _ (bRn_e (fun r3 s1 q4 k2 => ?_)) h
  show A (1131, [.ref 200, .ref 11, .ref 12, .ref 154, .int (bn l4), v5, v6, v7], [.int (bn r3)], s1)
  refine bGo hA 70 11 (1906, .istore 5, 2, 1132, 0, [5], []) rfl rfl rfl ?_
  refine bGo hA 70 12 (1908, .aload_n 2, 1, 1133, 0, [2], []) rfl rfl rfl ?_
  refine bGo hA 70 13 (1909, .aload_n 0, 1, 1134, 0, [0], []) rfl rfl rfl ?_
  refine bGo hA 70 14 (1910, .iload 4, 2, 1135, 0, [4], []) rfl rfl rfl ?_
  refine bGo hA 70 15 (1912, .iconst (1), 1, 1136, 0, [], [(1, 0)]) rfl rfl rfl ?_
  refine bEqI bl_1 ?_
  refine bGo hA 71 0 (1913, .iadd, 1, 1137, 0, [], []) rfl rfl rfl ?_
  refine bEqI (bn_add l4 1) ?_
  refine bGo hA 71 1 (1914, .iaload, 1, 1138, 0, [], []) rfl rfl rfl ?_
  refine ⟨rfl, (bIxP (x := (l4 + 1)) (n := bLen s1 200) k2.1 k2.2.1), ?_⟩
  refine bEqL (x := (l4 + 1)) k2.1 ?_
  refine bGo hA 71 2 (1915, .aload_n 0, 1, 1139, 0, [0], []) rfl rfl rfl ?_
  refine bGo hA 71 3 (1916, .iload 4, 2, 1140, 0, [4], []) rfl rfl rfl ?_
  refine bGo hA 71 4 (1918, .iconst (2), 1, 1141, 0, [], [(2, 0)]) rfl rfl rfl ?_
  refine bEqI bl_2 ?_
  refine bGo hA 71 5 (1919, .iadd, 1, 1142, 0, [], []) rfl rfl rfl ?_
  refine bEqI (bn_add l4 2) ?_
  refine bGo hA 71 6 (1920, .iaload, 1, 1143, 0, [], []) rfl rfl rfl ?_
  refine ⟨rfl, (bIxP (x := (l4 + 2)) (n := bLen s1 200) k2.2.2.1 k2.2.2.2.1), ?_⟩
  refine bEqL (x := (l4 + 2)) k2.2.2.1 ?_
  refine bGo hA 71 7 (1921, .aload_n 0, 1, 1144, 0, [0], []) rfl rfl rfl ?_
  refine bGo hA 71 8 (1922, .iload 4, 2, 1145, 0, [4], []) rfl rfl rfl ?_
  refine bGo hA 71 9 (1924, .iconst (3), 1, 1146, 0, [], [(3, 0)]) rfl rfl rfl ?_
  refine bEqI bl_3 ?_
  refine bGo hA 71 10 (1925, .iadd, 1, 1147, 0, [], []) rfl rfl rfl ?_
  refine bEqI (bn_add l4 3) ?_
  refine bGo hA 71 11 (1926, .iaload, 1, 1148, 0, [], []) rfl rfl rfl ?_
  refine ⟨rfl, (bIxP (x := (l4 + 3)) (n := bLen s1 200) k2.2.2.2.2.1 k2.2.2.2.2.2.1), ?_⟩
  refine bEqL (x := (l4 + 3)) k2.2.2.2.2.1 ?_
  refine bGo hA 71 12 (1927, .aload_n 0, 1, 1149, 0, [0], []) rfl rfl rfl ?_
  refine bGo hA 71 13 (1928, .iload 4, 2, 1150, 0, [4], []) rfl rfl rfl ?_
  refine bGo hA 71 14 (1930, .iconst (4), 1, 1151, 0, [], [(4, 0)]) rfl rfl rfl ?_
  refine bEqI bl_4 ?_
  refine bGo hA 71 15 (1931, .iadd, 1, 1152, 0, [], []) rfl rfl rfl ?_
  refine bEqI (bn_add l4 4) ?_
  refine bGo hA 72 0 (1932, .iaload, 1, 1153, 0, [], []) rfl rfl rfl ?_
  refine ⟨rfl, (bIxP (x := (l4 + 4)) (n := bLen s1 200) k2.2.2.2.2.2.2.1 k2.2.2.2.2.2.2.2.1), ?_⟩
  refine bEqL (x := (l4 + 4)) k2.2.2.2.2.2.2.1 ?_
  refine bGo hA 72 1 (1933, .ifCond .eq (7), 3, 1154, 1156, [], []) rfl rfl rfl ?_
  refine bB_eq0 (x := (bi s1 200 (l4 + 4))) (bi_rg _ _ _) (fun c5 => ?_) (fun c5 => ?_)
  · refine bGo hA 72 4 (1940, .iconst (0), 1, 1157, 0, [], [(0, 0)]) rfl rfl rfl ?_
    refine bEqI bl_0 ?_
    refine bGo hA 72 5 (1941, .invokevirtual 245, 3, 1158, 0, [0, 12, 236, 4], []) rfl rfl rfl ?_
    refine ⟨rfl, ?_⟩
    refine hC _ _ _ _ _ (bRv_e (fun s6 k7 => ?_)) (k2.2.2.2.2.2.2.2.2.1 c5)
    show A (1158, [.ref 200, .ref 11, .ref 12, .ref 154, .int (bn l4), .int (bn r3), v6, v7], [], s6)
    refine bGo hA 72 6 (1944, .aload_n 2, 1, 1159, 0, [2], []) rfl rfl rfl ?_
    refine bGo hA 72 7 (1945, .invokevirtual 168, 3, 1160, 0, [0, 12, 196, 0], []) rfl rfl rfl ?_
    refine ⟨rfl, ?_⟩
    refine hC _ _ _ _ _ (bRn_e (fun r10 s8 q11 k9 => ?_)) k7
    show A (1160, [.ref 200, .ref 11, .ref 12, .ref 154, .int (bn l4), .int (bn r3), v6, v7], [.int (bn r10)], s8)
    refine bGo hA 72 8 (1948, .iload 5, 2, 1161, 0, [5], []) rfl rfl rfl ?_
    refine bGo hA 72 9 (1950, .if_icmp .eq (5), 3, 1162, 1164, [], []) rfl rfl rfl ?_
    refine bB_eq (x := r10) (y := r3) q11 q4 (fun c12 => ?_) (fun c12 => ?_)
    · refine bGo hA 72 12 (1955, .goto (1459), 3, 1165, 2097, [], []) rfl rfl rfl ?_
      refine bGo hA 131 1 (3414, .iinc 4 (6), 3, 2098, 0, [4], [(6, 0)]) rfl rfl rfl ?_
      refine bEqC (fun v => A (2098, [.ref 200, .ref 11, .ref 12, .ref 154, .int v, .int (bn r3), v6, v7], [], s8)) ((congrArg (fun w => bn l4 + w) bl_6).trans (bn_add l4 6)) ?_
      refine bGo hA 131 2 (3417, .goto (-3394), 3, 2099, 13, [], []) rfl rfl rfl ?_
      exact (k9.1 c12).2
    · refine bGo hA 72 10 (1953, .iconst (0), 1, 1163, 0, [], [(0, 0)]) rfl rfl rfl ?_
      refine bEqI bl_0 ?_
      refine bGo hA 72 11 (1954, .ireturn, 1, 1164, 0, [2], []) rfl rfl rfl ?_
      exact ⟨b01 (Or.inl rfl), (k9.2 c12)⟩
  · refine bGo hA 72 2 (1936, .iconst (1), 1, 1155, 0, [], [(1, 0)]) rfl rfl rfl ?_
    refine bEqI bl_1 ?_
    refine bGo hA 72 3 (1937, .goto (4), 3, 1156, 1157, [], []) rfl rfl rfl ?_
    refine bGo hA 72 5 (1941, .invokevirtual 245, 3, 1158, 0, [0, 12, 236, 4], []) rfl rfl rfl ?_
    refine ⟨rfl, ?_⟩
    refine hC _ _ _ _ _ (bRv_e (fun s13 k14 => ?_)) (k2.2.2.2.2.2.2.2.2.2 c5)
    show A (1158, [.ref 200, .ref 11, .ref 12, .ref 154, .int (bn l4), .int (bn r3), v6, v7], [], s13)
    refine bGo hA 72 6 (1944, .aload_n 2, 1, 1159, 0, [2], []) rfl rfl rfl ?_
    refine bGo hA 72 7 (1945, .invokevirtual 168, 3, 1160, 0, [0, 12, 196, 0], []) rfl rfl rfl ?_
    refine ⟨rfl, ?_⟩
    refine hC _ _ _ _ _ (bRn_e (fun r17 s15 q18 k16 => ?_)) k14
    show A (1160, [.ref 200, .ref 11, .ref 12, .ref 154, .int (bn l4), .int (bn r3), v6, v7], [.int (bn r17)], s15)
    refine bGo hA 72 8 (1948, .iload 5, 2, 1161, 0, [5], []) rfl rfl rfl ?_
    refine bGo hA 72 9 (1950, .if_icmp .eq (5), 3, 1162, 1164, [], []) rfl rfl rfl ?_
    refine bB_eq (x := r17) (y := r3) q18 q4 (fun c19 => ?_) (fun c19 => ?_)
    · refine bGo hA 72 12 (1955, .goto (1459), 3, 1165, 2097, [], []) rfl rfl rfl ?_
      refine bGo hA 131 1 (3414, .iinc 4 (6), 3, 2098, 0, [4], [(6, 0)]) rfl rfl rfl ?_
      refine bEqC (fun v => A (2098, [.ref 200, .ref 11, .ref 12, .ref 154, .int v, .int (bn r3), v6, v7], [], s15)) ((congrArg (fun w => bn l4 + w) bl_6).trans (bn_add l4 6)) ?_
      refine bGo hA 131 2 (3417, .goto (-3394), 3, 2099, 13, [], []) rfl rfl rfl ?_
      exact (k16.1 c19).2
    · refine bGo hA 72 10 (1953, .iconst (0), 1, 1163, 0, [], [(0, 0)]) rfl rfl rfl ?_
      refine bEqI bl_0 ?_
      refine bGo hA 72 11 (1954, .ireturn, 1, 1164, 0, [2], []) rfl rfl rfl ?_
      exact ⟨b01 (Or.inl rfl), (k16.2 c19)⟩

theorem sq357_1332 {lvl : Nat} {C : bCall} {Q : bPost} {A : bPt → Prop} (hC : bMono C) (hA : bClosed lvl bm357 C Q A) {l4 : Int} {v5 : Value} {v6 : Value} {v7 : Value} {t0 : Int} {σ : bSt}  (h_l4 : bRg l4) (h_t0 : bRg t0)
  (h : (bRg (l4 + 2) ∧ ((0 ≤ (l4 + 2) ∧ (l4 + 2) < (bLen σ 200 : Int)) ∧ (C 340 [.ref 11, .int (bn t0), .int (bn (bi σ 200 (l4 + 2))), .ref 154] σ (bRn (fun r3 s1 => (bRg (l4 + 1) ∧ ((0 ≤ (l4 + 1) ∧ (l4 + 1) < (bLen s1 200 : Int)) ∧ (((bi s1 200 (l4 + 1)) = 0 → ((0 ≤ (l4 + 2) ∧ (l4 + 2) < (bLen s1 200 : Int)) ∧ (C 274 [.ref 12, .int (bn 0), .int (bn (bi s1 200 (l4 + 2)))] s1 (bRn (fun r8 s6 => (C 196 [.ref 12] s6 (bRn (fun r12 s10 => ((r12 = r3 → ((r3 = 0 → ((r8 = 0 → (((bCmp (bj s10 154 0) (Int64.ofNat 0)) = 0 → (bRg (l4 + 6) ∧ A (13, [.ref 200, .ref 11, .ref 12, .ref 154, .int (bn (l4 + 6)), .int (bn r3), .int (bn r8), v7], [], s10))) ∧ (¬ (bCmp (bj s10 154 0) (Int64.ofNat 0)) = 0 → Q (.inl (some (.int (bn 0)))) s10))) ∧ (¬ r8 = 0 → (((bCmp (bj s10 154 0) (Int64.ofNat 1)) = 0 → (bRg (l4 + 6) ∧ A (13, [.ref 200, .ref 11, .ref 12, .ref 154, .int (bn (l4 + 6)), .int (bn r3), .int (bn r8), v7], [], s10))) ∧ (¬ (bCmp (bj s10 154 0) (Int64.ofNat 1)) = 0 → Q (.inl (some (.int (bn 0)))) s10))))) ∧ (¬ r3 = 0 → (bRg (l4 + 6) ∧ A (13, [.ref 200, .ref 11, .ref 12, .ref 154, .int (bn (l4 + 6)), .int (bn r3), .int (bn r8), v7], [], s10))))) ∧ (¬ r12 = r3 → Q (.inl (some (.int (bn 0)))) s10)))))))))) ∧ (¬ (bi s1 200 (l4 + 1)) = 0 → ((0 ≤ (l4 + 2) ∧ (l4 + 2) < (bLen s1 200 : Int)) ∧ (C 274 [.ref 12, .int (bn 1), .int (bn (bi s1 200 (l4 + 2)))] s1 (bRn (fun r21 s19 => (C 196 [.ref 12] s19 (bRn (fun r25 s23 => ((r25 = r3 → ((r3 = 0 → ((r21 = 0 → (((bCmp (bj s23 154 0) (Int64.ofNat 0)) = 0 → (bRg (l4 + 6) ∧ A (13, [.ref 200, .ref 11, .ref 12, .ref 154, .int (bn (l4 + 6)), .int (bn r3), .int (bn r21), v7], [], s23))) ∧ (¬ (bCmp (bj s23 154 0) (Int64.ofNat 0)) = 0 → Q (.inl (some (.int (bn 0)))) s23))) ∧ (¬ r21 = 0 → (((bCmp (bj s23 154 0) (Int64.ofNat 1)) = 0 → (bRg (l4 + 6) ∧ A (13, [.ref 200, .ref 11, .ref 12, .ref 154, .int (bn (l4 + 6)), .int (bn r3), .int (bn r21), v7], [], s23))) ∧ (¬ (bCmp (bj s23 154 0) (Int64.ofNat 1)) = 0 → Q (.inl (some (.int (bn 0)))) s23))))) ∧ (¬ r3 = 0 → (bRg (l4 + 6) ∧ A (13, [.ref 200, .ref 11, .ref 12, .ref 154, .int (bn (l4 + 6)), .int (bn r3), .int (bn r21), v7], [], s23))))) ∧ (¬ r25 = r3 → Q (.inl (some (.int (bn 0)))) s23))))))))))))))))))) : A (1332, [.ref 200, .ref 11, .ref 12, .ref 154, .int (bn l4), v5, v6, v7], [.int (bn t0), .ref 11], σ) := by
  refine bGo hA 83 4 (2210, .aload_n 0, 1, 1333, 0, [0], []) rfl rfl rfl ?_
  refine bGo hA 83 5 (2211, .iload 4, 2, 1334, 0, [4], []) rfl rfl rfl ?_
  refine bGo hA 83 6 (2213, .iconst (2), 1, 1335, 0, [], [(2, 0)]) rfl rfl rfl ?_
  refine bEqI bl_2 ?_
  refine bGo hA 83 7 (2214, .iadd, 1, 1336, 0, [], []) rfl rfl rfl ?_
  refine bEqI (bn_add l4 2) ?_
  refine bGo hA 83 8 (2215, .iaload, 1, 1337, 0, [], []) rfl rfl rfl ?_
  refine ⟨rfl, (bIxP (x := (l4 + 2)) (n := bLen σ 200) h.1 h.2.1), ?_⟩
  refine bEqL (x := (l4 + 2)) h.1 ?_
  refine bGo hA 83 9 (2216, .aload_n 3, 1, 1338, 0, [3], []) rfl rfl rfl ?_
  refine bGo hA 83 10 (2217, .invokestatic 260, 3, 1339, 0, [2, 340, 4], []) rfl rfl rfl ?_
  refine hC _ _ _ _ _ (bRn_e (fun r3 s1 q4 k2 => ?_)) h.2.2
  show A (1339, [.ref 200, .ref 11, .ref 12, .ref 154, .int (bn l4), v5, v6, v7], [.int (bn r3)], s1)
  refine bGo hA 83 11 (2220, .istore 5, 2, 1340, 0, [5], []) rfl rfl rfl ?_
  refine bGo hA 83 12 (2222, .aload_n 2, 1, 1341, 0, [2], []) rfl rfl rfl ?_
  refine bGo hA 83 13 (2223, .aload_n 0, 1, 1342, 0, [0], []) rfl rfl rfl ?_
  refine bGo hA 83 14 (2224, .iload 4, 2, 1343, 0, [4], []) rfl rfl rfl ?_
  refine bGo hA 83 15 (2226, .iconst (1), 1, 1344, 0, [], [(1, 0)]) rfl rfl rfl ?_
  refine bEqI bl_1 ?_
  refine bGo hA 84 0 (2227, .iadd, 1, 1345, 0, [], []) rfl rfl rfl ?_
  refine bEqI (bn_add l4 1) ?_
  refine bGo hA 84 1 (2228, .iaload, 1, 1346, 0, [], []) rfl rfl rfl ?_
  refine ⟨rfl, (bIxP (x := (l4 + 1)) (n := bLen s1 200) k2.1 k2.2.1), ?_⟩
  refine bEqL (x := (l4 + 1)) k2.1 ?_
  refine bGo hA 84 2 (2229, .ifCond .eq (7), 3, 1347, 1349, [], []) rfl rfl rfl ?_
  refine bB_eq0 (x := (bi s1 200 (l4 + 1))) (bi_rg _ _ _) (fun c5 => ?_) (fun c5 => ?_)
  · refine bGo hA 84 5 (2236, .iconst (0), 1, 1350, 0, [], [(0, 0)]) rfl rfl rfl ?_
    refine bEqI bl_0 ?_
    refine bGo hA 84 6 (2237, .aload_n 0, 1, 1351, 0, [0], []) rfl rfl rfl ?_
    refine bGo hA 84 7 (2238, .iload 4, 2, 1352, 0, [4], []) rfl rfl rfl ?_
    refine bGo hA 84 8 (2240, .iconst (2), 1, 1353, 0, [], [(2, 0)]) rfl rfl rfl ?_
    refine bEqI bl_2 ?_
    refine bGo hA 84 9 (2241, .iadd, 1, 1354, 0, [], []) rfl rfl rfl ?_
    refine bEqI (bn_add l4 2) ?_
    refine bGo hA 84 10 (2242, .iaload, 1, 1355, 0, [], []) rfl rfl rfl ?_
    refine ⟨rfl, (bIxP (x := (l4 + 2)) (n := bLen s1 200) h.1 (k2.2.2.1 c5).1), ?_⟩
    refine bEqL (x := (l4 + 2)) h.1 ?_
    refine bGo hA 84 11 (2243, .invokevirtual 263, 3, 1356, 0, [0, 12, 274, 2], []) rfl rfl rfl ?_
    refine ⟨rfl, ?_⟩
    refine hC _ _ _ _ _ (bRn_e (fun r8 s6 q9 k7 => ?_)) (k2.2.2.1 c5).2
    show A (1356, [.ref 200, .ref 11, .ref 12, .ref 154, .int (bn l4), .int (bn r3), v6, v7], [.int (bn r8)], s6)
    refine bGo hA 84 12 (2246, .istore 6, 2, 1357, 0, [6], []) rfl rfl rfl ?_
    refine bGo hA 84 13 (2248, .aload_n 2, 1, 1358, 0, [2], []) rfl rfl rfl ?_
    refine bGo hA 84 14 (2249, .invokevirtual 168, 3, 1359, 0, [0, 12, 196, 0], []) rfl rfl rfl ?_
    refine ⟨rfl, ?_⟩
    refine hC _ _ _ _ _ (bRn_e (fun r12 s10 q13 k11 => ?_)) k7
    show A (1359, [.ref 200, .ref 11, .ref 12, .ref 154, .int (bn l4), .int (bn r3), .int (bn r8), v7], [.int (bn r12)], s10)
    refine bGo hA 84 15 (2252, .iload 5, 2, 1360, 0, [5], []) rfl rfl rfl ?_
    refine bGo hA 85 0 (2254, .if_icmp .eq (5), 3, 1361, 1363, [], []) rfl rfl rfl ?_
    refine bB_eq (x := r12) (y := r3) q13 q4 (fun c14 => ?_) (fun c14 => ?_)
    · refine bGo hA 85 3 (2259, .iload 5, 2, 1364, 0, [5], []) rfl rfl rfl ?_
      refine bGo hA 85 4 (2261, .ifCond .ne (22), 3, 1365, 1377, [], []) rfl rfl rfl ?_
      refine bB_eq0 (x := r3) q4 (fun c15 => ?_) (fun c15 => ?_)
      · refine bGo hA 85 5 (2264, .aload_n 3, 1, 1366, 0, [3], []) rfl rfl rfl ?_
        refine bGo hA 85 6 (2265, .iconst (0), 1, 1367, 0, [], [(0, 0)]) rfl rfl rfl ?_
        refine bEqI bl_0 ?_
        refine bGo hA 85 7 (2266, .laload, 1, 1368, 0, [], []) rfl rfl rfl ?_
        refine ⟨rfl, (bIxP (x := 0) (n := 1) (by decide) (by decide)), ?_⟩
        refine bEqJ (x := 0) (by decide : bRg 0) ?_
        refine bGo hA 85 8 (2267, .iload 6, 2, 1369, 0, [6], []) rfl rfl rfl ?_
        refine bGo hA 85 9 (2269, .ifCond .eq (7), 3, 1370, 1372, [], []) rfl rfl rfl ?_
        refine bB_eq0 (x := r8) q9 (fun c16 => ?_) (fun c16 => ?_)
        · refine bGo hA 85 12 (2276, .lconst 0, 1, 1373, 0, [0], []) rfl rfl rfl ?_
          refine bGo hA 85 13 (2277, .lcmp, 1, 1374, 0, [], []) rfl rfl rfl ?_
          refine bEqI (bn_cmp (bj s10 154 0) (Int64.ofNat 0)) ?_
          refine bGo hA 85 14 (2278, .ifCond .eq (5), 3, 1375, 1377, [], []) rfl rfl rfl ?_
          refine bB_eq0 (x := (bCmp (bj s10 154 0) (Int64.ofNat 0))) (bRgI _) (fun c17 => ?_) (fun c17 => ?_)
          · refine bGo hA 86 1 (2283, .goto (1131), 3, 1378, 2097, [], []) rfl rfl rfl ?_
            refine bGo hA 131 1 (3414, .iinc 4 (6), 3, 2098, 0, [4], [(6, 0)]) rfl rfl rfl ?_
            refine bEqC (fun v => A (2098, [.ref 200, .ref 11, .ref 12, .ref 154, .int v, .int (bn r3), .int (bn r8), v7], [], s10)) ((congrArg (fun w => bn l4 + w) bl_6).trans (bn_add l4 6)) ?_
            refine bGo hA 131 2 (3417, .goto (-3394), 3, 2099, 13, [], []) rfl rfl rfl ?_
            exact ((((k11.1 c14).1 c15).1 c16).1 c17).2
          · refine bGo hA 85 15 (2281, .iconst (0), 1, 1376, 0, [], [(0, 0)]) rfl rfl rfl ?_
            refine bEqI bl_0 ?_
            refine bGo hA 86 0 (2282, .ireturn, 1, 1377, 0, [2], []) rfl rfl rfl ?_
            exact ⟨b01 (Or.inl rfl), ((((k11.1 c14).1 c15).1 c16).2 c17)⟩
        · refine bGo hA 85 10 (2272, .lconst 1, 1, 1371, 0, [1], []) rfl rfl rfl ?_
          refine bGo hA 85 11 (2273, .goto (4), 3, 1372, 1373, [], []) rfl rfl rfl ?_
          refine bGo hA 85 13 (2277, .lcmp, 1, 1374, 0, [], []) rfl rfl rfl ?_
          refine bEqI (bn_cmp (bj s10 154 0) (Int64.ofNat 1)) ?_
          refine bGo hA 85 14 (2278, .ifCond .eq (5), 3, 1375, 1377, [], []) rfl rfl rfl ?_
          refine bB_eq0 (x := (bCmp (bj s10 154 0) (Int64.ofNat 1))) (bRgI _) (fun c18 => ?_) (fun c18 => ?_)
          · refine bGo hA 86 1 (2283, .goto (1131), 3, 1378, 2097, [], []) rfl rfl rfl ?_
            refine bGo hA 131 1 (3414, .iinc 4 (6), 3, 2098, 0, [4], [(6, 0)]) rfl rfl rfl ?_
            refine bEqC (fun v => A (2098, [.ref 200, .ref 11, .ref 12, .ref 154, .int v, .int (bn r3), .int (bn r8), v7], [], s10)) ((congrArg (fun w => bn l4 + w) bl_6).trans (bn_add l4 6)) ?_
            refine bGo hA 131 2 (3417, .goto (-3394), 3, 2099, 13, [], []) rfl rfl rfl ?_
            exact ((((k11.1 c14).1 c15).2 c16).1 c18).2
          · refine bGo hA 85 15 (2281, .iconst (0), 1, 1376, 0, [], [(0, 0)]) rfl rfl rfl ?_
            refine bEqI bl_0 ?_
            refine bGo hA 86 0 (2282, .ireturn, 1, 1377, 0, [2], []) rfl rfl rfl ?_
            exact ⟨b01 (Or.inl rfl), ((((k11.1 c14).1 c15).2 c16).2 c18)⟩
      · refine bGo hA 86 1 (2283, .goto (1131), 3, 1378, 2097, [], []) rfl rfl rfl ?_
        refine bGo hA 131 1 (3414, .iinc 4 (6), 3, 2098, 0, [4], [(6, 0)]) rfl rfl rfl ?_
        refine bEqC (fun v => A (2098, [.ref 200, .ref 11, .ref 12, .ref 154, .int v, .int (bn r3), .int (bn r8), v7], [], s10)) ((congrArg (fun w => bn l4 + w) bl_6).trans (bn_add l4 6)) ?_
        refine bGo hA 131 2 (3417, .goto (-3394), 3, 2099, 13, [], []) rfl rfl rfl ?_
        exact ((k11.1 c14).2 c15).2
    · refine bGo hA 85 1 (2257, .iconst (0), 1, 1362, 0, [], [(0, 0)]) rfl rfl rfl ?_
      refine bEqI bl_0 ?_
      refine bGo hA 85 2 (2258, .ireturn, 1, 1363, 0, [2], []) rfl rfl rfl ?_
      exact ⟨b01 (Or.inl rfl), (k11.2 c14)⟩
  · refine bGo hA 84 3 (2232, .iconst (1), 1, 1348, 0, [], [(1, 0)]) rfl rfl rfl ?_
    refine bEqI bl_1 ?_
    refine bGo hA 84 4 (2233, .goto (4), 3, 1349, 1350, [], []) rfl rfl rfl ?_
    refine bGo hA 84 6 (2237, .aload_n 0, 1, 1351, 0, [0], []) rfl rfl rfl ?_
    refine bGo hA 84 7 (2238, .iload 4, 2, 1352, 0, [4], []) rfl rfl rfl ?_
    refine bGo hA 84 8 (2240, .iconst (2), 1, 1353, 0, [], [(2, 0)]) rfl rfl rfl ?_
    refine bEqI bl_2 ?_
    refine bGo hA 84 9 (2241, .iadd, 1, 1354, 0, [], []) rfl rfl rfl ?_
    refine bEqI (bn_add l4 2) ?_
    refine bGo hA 84 10 (2242, .iaload, 1, 1355, 0, [], []) rfl rfl rfl ?_
    refine ⟨rfl, (bIxP (x := (l4 + 2)) (n := bLen s1 200) h.1 (k2.2.2.2 c5).1), ?_⟩
    refine bEqL (x := (l4 + 2)) h.1 ?_
    refine bGo hA 84 11 (2243, .invokevirtual 263, 3, 1356, 0, [0, 12, 274, 2], []) rfl rfl rfl ?_
    refine ⟨rfl, ?_⟩
    refine hC _ _ _ _ _ (bRn_e (fun r21 s19 q22 k20 => ?_)) (k2.2.2.2 c5).2
    show A (1356, [.ref 200, .ref 11, .ref 12, .ref 154, .int (bn l4), .int (bn r3), v6, v7], [.int (bn r21)], s19)
    refine bGo hA 84 12 (2246, .istore 6, 2, 1357, 0, [6], []) rfl rfl rfl ?_
    refine bGo hA 84 13 (2248, .aload_n 2, 1, 1358, 0, [2], []) rfl rfl rfl ?_
    refine bGo hA 84 14 (2249, .invokevirtual 168, 3, 1359, 0, [0, 12, 196, 0], []) rfl rfl rfl ?_
    refine ⟨rfl, ?_⟩
    refine hC _ _ _ _ _ (bRn_e (fun r25 s23 q26 k24 => ?_)) k20
    show A (1359, [.ref 200, .ref 11, .ref 12, .ref 154, .int (bn l4), .int (bn r3), .int (bn r21), v7], [.int (bn r25)], s23)
    refine bGo hA 84 15 (2252, .iload 5, 2, 1360, 0, [5], []) rfl rfl rfl ?_
    refine bGo hA 85 0 (2254, .if_icmp .eq (5), 3, 1361, 1363, [], []) rfl rfl rfl ?_
    refine bB_eq (x := r25) (y := r3) q26 q4 (fun c27 => ?_) (fun c27 => ?_)
    · refine bGo hA 85 3 (2259, .iload 5, 2, 1364, 0, [5], []) rfl rfl rfl ?_
      refine bGo hA 85 4 (2261, .ifCond .ne (22), 3, 1365, 1377, [], []) rfl rfl rfl ?_
      refine bB_eq0 (x := r3) q4 (fun c28 => ?_) (fun c28 => ?_)
      · refine bGo hA 85 5 (2264, .aload_n 3, 1, 1366, 0, [3], []) rfl rfl rfl ?_
        refine bGo hA 85 6 (2265, .iconst (0), 1, 1367, 0, [], [(0, 0)]) rfl rfl rfl ?_
        refine bEqI bl_0 ?_
        refine bGo hA 85 7 (2266, .laload, 1, 1368, 0, [], []) rfl rfl rfl ?_
        refine ⟨rfl, (bIxP (x := 0) (n := 1) (by decide) (by decide)), ?_⟩
        refine bEqJ (x := 0) (by decide : bRg 0) ?_
        refine bGo hA 85 8 (2267, .iload 6, 2, 1369, 0, [6], []) rfl rfl rfl ?_
        refine bGo hA 85 9 (2269, .ifCond .eq (7), 3, 1370, 1372, [], []) rfl rfl rfl ?_
        refine bB_eq0 (x := r21) q22 (fun c29 => ?_) (fun c29 => ?_)
        · refine bGo hA 85 12 (2276, .lconst 0, 1, 1373, 0, [0], []) rfl rfl rfl ?_
          refine bGo hA 85 13 (2277, .lcmp, 1, 1374, 0, [], []) rfl rfl rfl ?_
          refine bEqI (bn_cmp (bj s23 154 0) (Int64.ofNat 0)) ?_
          refine bGo hA 85 14 (2278, .ifCond .eq (5), 3, 1375, 1377, [], []) rfl rfl rfl ?_
          refine bB_eq0 (x := (bCmp (bj s23 154 0) (Int64.ofNat 0))) (bRgI _) (fun c30 => ?_) (fun c30 => ?_)
          · refine bGo hA 86 1 (2283, .goto (1131), 3, 1378, 2097, [], []) rfl rfl rfl ?_
            refine bGo hA 131 1 (3414, .iinc 4 (6), 3, 2098, 0, [4], [(6, 0)]) rfl rfl rfl ?_
            refine bEqC (fun v => A (2098, [.ref 200, .ref 11, .ref 12, .ref 154, .int v, .int (bn r3), .int (bn r21), v7], [], s23)) ((congrArg (fun w => bn l4 + w) bl_6).trans (bn_add l4 6)) ?_
            refine bGo hA 131 2 (3417, .goto (-3394), 3, 2099, 13, [], []) rfl rfl rfl ?_
            exact ((((k24.1 c27).1 c28).1 c29).1 c30).2
          · refine bGo hA 85 15 (2281, .iconst (0), 1, 1376, 0, [], [(0, 0)]) rfl rfl rfl ?_
            refine bEqI bl_0 ?_
            refine bGo hA 86 0 (2282, .ireturn, 1, 1377, 0, [2], []) rfl rfl rfl ?_
            exact ⟨b01 (Or.inl rfl), ((((k24.1 c27).1 c28).1 c29).2 c30)⟩
        · refine bGo hA 85 10 (2272, .lconst 1, 1, 1371, 0, [1], []) rfl rfl rfl ?_
          refine bGo hA 85 11 (2273, .goto (4), 3, 1372, 1373, [], []) rfl rfl rfl ?_
          refine bGo hA 85 13 (2277, .lcmp, 1, 1374, 0, [], []) rfl rfl rfl ?_
          refine bEqI (bn_cmp (bj s23 154 0) (Int64.ofNat 1)) ?_
          refine bGo hA 85 14 (2278, .ifCond .eq (5), 3, 1375, 1377, [], []) rfl rfl rfl ?_
          refine bB_eq0 (x := (bCmp (bj s23 154 0) (Int64.ofNat 1))) (bRgI _) (fun c31 => ?_) (fun c31 => ?_)
          · refine bGo hA 86 1 (2283, .goto (1131), 3, 1378, 2097, [], []) rfl rfl rfl ?_
            refine bGo hA 131 1 (3414, .iinc 4 (6), 3, 2098, 0, [4], [(6, 0)]) rfl rfl rfl ?_
            refine bEqC (fun v => A (2098, [.ref 200, .ref 11, .ref 12, .ref 154, .int v, .int (bn r3), .int (bn r21), v7], [], s23)) ((congrArg (fun w => bn l4 + w) bl_6).trans (bn_add l4 6)) ?_
            refine bGo hA 131 2 (3417, .goto (-3394), 3, 2099, 13, [], []) rfl rfl rfl ?_
            exact ((((k24.1 c27).1 c28).2 c29).1 c31).2
          · refine bGo hA 85 15 (2281, .iconst (0), 1, 1376, 0, [], [(0, 0)]) rfl rfl rfl ?_
            refine bEqI bl_0 ?_
            refine bGo hA 86 0 (2282, .ireturn, 1, 1377, 0, [2], []) rfl rfl rfl ?_
            exact ⟨b01 (Or.inl rfl), ((((k24.1 c27).1 c28).2 c29).2 c31)⟩
      · refine bGo hA 86 1 (2283, .goto (1131), 3, 1378, 2097, [], []) rfl rfl rfl ?_
        refine bGo hA 131 1 (3414, .iinc 4 (6), 3, 2098, 0, [4], [(6, 0)]) rfl rfl rfl ?_
        refine bEqC (fun v => A (2098, [.ref 200, .ref 11, .ref 12, .ref 154, .int v, .int (bn r3), .int (bn r21), v7], [], s23)) ((congrArg (fun w => bn l4 + w) bl_6).trans (bn_add l4 6)) ?_
        refine bGo hA 131 2 (3417, .goto (-3394), 3, 2099, 13, [], []) rfl rfl rfl ?_
        exact ((k24.1 c27).2 c28).2
    · refine bGo hA 85 1 (2257, .iconst (0), 1, 1362, 0, [], [(0, 0)]) rfl rfl rfl ?_
      refine bEqI bl_0 ?_
      refine bGo hA 85 2 (2258, .ireturn, 1, 1363, 0, [2], []) rfl rfl rfl ?_
      exact ⟨b01 (Or.inl rfl), (k24.2 c27)⟩

theorem sq357_1481 {lvl : Nat} {C : bCall} {Q : bPost} {A : bPt → Prop} (hC : bMono C) (hA : bClosed lvl bm357 C Q A) {l4 : Int} {v5 : Value} {v6 : Value} {v7 : Value} {t0 : Int} {t1 : Int} {σ : bSt}  (h_l4 : bRg l4) (h_t0 : bRg t0) (h_t1 : bRg t1)
  (h : (bRg (l4 + 3) ∧ ((0 ≤ (l4 + 3) ∧ (l4 + 3) < (bLen σ 200 : Int)) ∧ (C 342 [.ref 11, .int (bn t1), .int (bn t0), .int (bn (bi σ 200 (l4 + 3))), .ref 154] σ (bRn (fun r3 s1 => (bRg (l4 + 1) ∧ ((0 ≤ (l4 + 1) ∧ (l4 + 1) < (bLen s1 200 : Int)) ∧ (bRg (l4 + 2) ∧ ((0 ≤ (l4 + 2) ∧ (l4 + 2) < (bLen s1 200 : Int)) ∧ (((bi s1 200 (l4 + 2)) = 0 → ((0 ≤ (l4 + 3) ∧ (l4 + 3) < (bLen s1 200 : Int)) ∧ (C 285 [.ref 12, .int (bn (bi s1 200 (l4 + 1))), .int (bn 0), .int (bn (bi s1 200 (l4 + 3)))] s1 (bRn (fun r8 s6 => (C 196 [.ref 12] s6 (bRn (fun r12 s10 => ((r12 = r3 → ((r3 = 0 → (((bCmp (bj s10 154 0) (bL r8)) = 0 → (bRg (l4 + 6) ∧ A (13, [.ref 200, .ref 11, .ref 12, .ref 154, .int (bn (l4 + 6)), .int (bn r3), .int (bn r8), v7], [], s10))) ∧ (¬ (bCmp (bj s10 154 0) (bL r8)) = 0 → Q (.inl (some (.int (bn 0)))) s10))) ∧ (¬ r3 = 0 → (bRg (l4 + 6) ∧ A (13, [.ref 200, .ref 11, .ref 12, .ref 154, .int (bn (l4 + 6)), .int (bn r3), .int (bn r8), v7], [], s10))))) ∧ (¬ r12 = r3 → Q (.inl (some (.int (bn 0)))) s10)))))))))) ∧ (¬ (bi s1 200 (l4 + 2)) = 0 → ((0 ≤ (l4 + 3) ∧ (l4 + 3) < (bLen s1 200 : Int)) ∧ (C 285 [.ref 12, .int (bn (bi s1 200 (l4 + 1))), .int (bn 1), .int (bn (bi s1 200 (l4 + 3)))] s1 (bRn (fun r19 s17 => (C 196 [.ref 12] s17 (bRn (fun r23 s21 => ((r23 = r3 → ((r3 = 0 → (((bCmp (bj s21 154 0) (bL r19)) = 0 → (bRg (l4 + 6) ∧ A (13, [.ref 200, .ref 11, .ref 12, .ref 154, .int (bn (l4 + 6)), .int (bn r3), .int (bn r19), v7], [], s21))) ∧ (¬ (bCmp (bj s21 154 0) (bL r19)) = 0 → Q (.inl (some (.int (bn 0)))) s21))) ∧ (¬ r3 = 0 → (bRg (l4 + 6) ∧ A (13, [.ref 200, .ref 11, .ref 12, .ref 154, .int (bn (l4 + 6)), .int (bn r3), .int (bn r19), v7], [], s21))))) ∧ (¬ r23 = r3 → Q (.inl (some (.int (bn 0)))) s21))))))))))))))))))))) : A (1481, [.ref 200, .ref 11, .ref 12, .ref 154, .int (bn l4), v5, v6, v7], [.int (bn t0), .int (bn t1), .ref 11], σ) := by
  refine bGo hA 92 9 (2452, .aload_n 0, 1, 1482, 0, [0], []) rfl rfl rfl ?_
  refine bGo hA 92 10 (2453, .iload 4, 2, 1483, 0, [4], []) rfl rfl rfl ?_
  refine bGo hA 92 11 (2455, .iconst (3), 1, 1484, 0, [], [(3, 0)]) rfl rfl rfl ?_
  refine bEqI bl_3 ?_
  refine bGo hA 92 12 (2456, .iadd, 1, 1485, 0, [], []) rfl rfl rfl ?_
  refine bEqI (bn_add l4 3) ?_
  refine bGo hA 92 13 (2457, .iaload, 1, 1486, 0, [], []) rfl rfl rfl ?_
  refine ⟨rfl, (bIxP (x := (l4 + 3)) (n := bLen σ 200) h.1 h.2.1), ?_⟩
  refine bEqL (x := (l4 + 3)) h.1 ?_
  refine bGo hA 92 14 (2458, .aload_n 3, 1, 1487, 0, [3], []) rfl rfl rfl ?_
  refine bGo hA 92 15 (2459, .invokestatic 276, 3, 1488, 0, [2, 342, 5], []) rfl rfl rfl ?_
  refine hC _ _ _ _ _ (bRn_e (fun r3 s1 q4 k2 => ?_)) h.2.2
  show A (1488, [.ref 200, .ref 11, .ref 12, .ref 154, .int (bn l4), v5, v6, v7], [.int (bn r3)], s1)
  refine bGo hA 93 0 (2462, .istore 5, 2, 1489, 0, [5], []) rfl rfl rfl ?_
  refine bGo hA 93 1 (2464, .aload_n 2, 1, 1490, 0, [2], []) rfl rfl rfl ?_
  refine bGo hA 93 2 (2465, .aload_n 0, 1, 1491, 0, [0], []) rfl rfl rfl ?_
  refine bGo hA 93 3 (2466, .iload 4, 2, 1492, 0, [4], []) rfl rfl rfl ?_
  refine bGo hA 93 4 (2468, .iconst (1), 1, 1493, 0, [], [(1, 0)]) rfl rfl rfl ?_
  refine bEqI bl_1 ?_
  refine bGo hA 93 5 (2469, .iadd, 1, 1494, 0, [], []) rfl rfl rfl ?_
  refine bEqI (bn_add l4 1) ?_
  refine bGo hA 93 6 (2470, .iaload, 1, 1495, 0, [], []) rfl rfl rfl ?_
  refine ⟨rfl, (bIxP (x := (l4 + 1)) (n := bLen s1 200) k2.1 k2.2.1), ?_⟩
  refine bEqL (x := (l4 + 1)) k2.1 ?_
  refine bGo hA 93 7 (2471, .aload_n 0, 1, 1496, 0, [0], []) rfl rfl rfl ?_
  refine bGo hA 93 8 (2472, .iload 4, 2, 1497, 0, [4], []) rfl rfl rfl ?_
  refine bGo hA 93 9 (2474, .iconst (2), 1, 1498, 0, [], [(2, 0)]) rfl rfl rfl ?_
  refine bEqI bl_2 ?_
  refine bGo hA 93 10 (2475, .iadd, 1, 1499, 0, [], []) rfl rfl rfl ?_
  refine bEqI (bn_add l4 2) ?_
  refine bGo hA 93 11 (2476, .iaload, 1, 1500, 0, [], []) rfl rfl rfl ?_
  refine ⟨rfl, (bIxP (x := (l4 + 2)) (n := bLen s1 200) k2.2.2.1 k2.2.2.2.1), ?_⟩
  refine bEqL (x := (l4 + 2)) k2.2.2.1 ?_
  refine bGo hA 93 12 (2477, .ifCond .eq (7), 3, 1501, 1503, [], []) rfl rfl rfl ?_
  refine bB_eq0 (x := (bi s1 200 (l4 + 2))) (bi_rg _ _ _) (fun c5 => ?_) (fun c5 => ?_)
  · refine bGo hA 93 15 (2484, .iconst (0), 1, 1504, 0, [], [(0, 0)]) rfl rfl rfl ?_
    refine bEqI bl_0 ?_
    refine bGo hA 94 0 (2485, .aload_n 0, 1, 1505, 0, [0], []) rfl rfl rfl ?_
    refine bGo hA 94 1 (2486, .iload 4, 2, 1506, 0, [4], []) rfl rfl rfl ?_
    refine bGo hA 94 2 (2488, .iconst (3), 1, 1507, 0, [], [(3, 0)]) rfl rfl rfl ?_
    refine bEqI bl_3 ?_
    refine bGo hA 94 3 (2489, .iadd, 1, 1508, 0, [], []) rfl rfl rfl ?_
    refine bEqI (bn_add l4 3) ?_
    refine bGo hA 94 4 (2490, .iaload, 1, 1509, 0, [], []) rfl rfl rfl ?_
    refine ⟨rfl, (bIxP (x := (l4 + 3)) (n := bLen s1 200) h.1 (k2.2.2.2.2.1 c5).1), ?_⟩
    refine bEqL (x := (l4 + 3)) h.1 ?_
    refine bGo hA 94 5 (2491, .invokevirtual 279, 3, 1510, 0, [0, 12, 285, 3], []) rfl rfl rfl ?_
    refine ⟨rfl, ?_⟩
    refine hC _ _ _ _ _ (bRn_e (fun r8 s6 q9 k7 => ?_)) (k2.2.2.2.2.1 c5).2
    show A (1510, [.ref 200, .ref 11, .ref 12, .ref 154, .int (bn l4), .int (bn r3), v6, v7], [.int (bn r8)], s6)
    refine bGo hA 94 6 (2494, .istore 6, 2, 1511, 0, [6], []) rfl rfl rfl ?_
    refine bGo hA 94 7 (2496, .aload_n 2, 1, 1512, 0, [2], []) rfl rfl rfl ?_
    refine bGo hA 94 8 (2497, .invokevirtual 168, 3, 1513, 0, [0, 12, 196, 0], []) rfl rfl rfl ?_
    refine ⟨rfl, ?_⟩
    refine hC _ _ _ _ _ (bRn_e (fun r12 s10 q13 k11 => ?_)) k7
    show A (1513, [.ref 200, .ref 11, .ref 12, .ref 154, .int (bn l4), .int (bn r3), .int (bn r8), v7], [.int (bn r12)], s10)
    refine bGo hA 94 9 (2500, .iload 5, 2, 1514, 0, [5], []) rfl rfl rfl ?_
    refine bGo hA 94 10 (2502, .if_icmp .eq (5), 3, 1515, 1517, [], []) rfl rfl rfl ?_
    refine bB_eq (x := r12) (y := r3) q13 q4 (fun c14 => ?_) (fun c14 => ?_)
    · refine bGo hA 94 13 (2507, .iload 5, 2, 1518, 0, [5], []) rfl rfl rfl ?_
      refine bGo hA 94 14 (2509, .ifCond .ne (15), 3, 1519, 1528, [], []) rfl rfl rfl ?_
      refine bB_eq0 (x := r3) q4 (fun c15 => ?_) (fun c15 => ?_)
      · refine bGo hA 94 15 (2512, .aload_n 3, 1, 1520, 0, [3], []) rfl rfl rfl ?_
        refine bGo hA 95 0 (2513, .iconst (0), 1, 1521, 0, [], [(0, 0)]) rfl rfl rfl ?_
        refine bEqI bl_0 ?_
        refine bGo hA 95 1 (2514, .laload, 1, 1522, 0, [], []) rfl rfl rfl ?_
        refine ⟨rfl, (bIxP (x := 0) (n := 1) (by decide) (by decide)), ?_⟩
        refine bEqJ (x := 0) (by decide : bRg 0) ?_
        refine bGo hA 95 2 (2515, .iload 6, 2, 1523, 0, [6], []) rfl rfl rfl ?_
        refine bGo hA 95 3 (2517, .i2l, 1, 1524, 0, [], []) rfl rfl rfl ?_
        refine bGo hA 95 4 (2518, .lcmp, 1, 1525, 0, [], []) rfl rfl rfl ?_
        refine bEqI (bn_cmp (bj s10 154 0) (bL r8)) ?_
        refine bGo hA 95 5 (2519, .ifCond .eq (5), 3, 1526, 1528, [], []) rfl rfl rfl ?_
        refine bB_eq0 (x := (bCmp (bj s10 154 0) (bL r8))) (bRgI _) (fun c16 => ?_) (fun c16 => ?_)
        · refine bGo hA 95 8 (2524, .goto (890), 3, 1529, 2097, [], []) rfl rfl rfl ?_
          refine bGo hA 131 1 (3414, .iinc 4 (6), 3, 2098, 0, [4], [(6, 0)]) rfl rfl rfl ?_
          refine bEqC (fun v => A (2098, [.ref 200, .ref 11, .ref 12, .ref 154, .int v, .int (bn r3), .int (bn r8), v7], [], s10)) ((congrArg (fun w => bn l4 + w) bl_6).trans (bn_add l4 6)) ?_
          refine bGo hA 131 2 (3417, .goto (-3394), 3, 2099, 13, [], []) rfl rfl rfl ?_
          exact (((k11.1 c14).1 c15).1 c16).2
        · refine bGo hA 95 6 (2522, .iconst (0), 1, 1527, 0, [], [(0, 0)]) rfl rfl rfl ?_
          refine bEqI bl_0 ?_
          refine bGo hA 95 7 (2523, .ireturn, 1, 1528, 0, [2], []) rfl rfl rfl ?_
          exact ⟨b01 (Or.inl rfl), (((k11.1 c14).1 c15).2 c16)⟩
      · refine bGo hA 95 8 (2524, .goto (890), 3, 1529, 2097, [], []) rfl rfl rfl ?_
        refine bGo hA 131 1 (3414, .iinc 4 (6), 3, 2098, 0, [4], [(6, 0)]) rfl rfl rfl ?_
        refine bEqC (fun v => A (2098, [.ref 200, .ref 11, .ref 12, .ref 154, .int v, .int (bn r3), .int (bn r8), v7], [], s10)) ((congrArg (fun w => bn l4 + w) bl_6).trans (bn_add l4 6)) ?_
        refine bGo hA 131 2 (3417, .goto (-3394), 3, 2099, 13, [], []) rfl rfl rfl ?_
        exact ((k11.1 c14).2 c15).2
    · refine bGo hA 94 11 (2505, .iconst (0), 1, 1516, 0, [], [(0, 0)]) rfl rfl rfl ?_
      refine bEqI bl_0 ?_
      refine bGo hA 94 12 (2506, .ireturn, 1, 1517, 0, [2], []) rfl rfl rfl ?_
      exact ⟨b01 (Or.inl rfl), (k11.2 c14)⟩
  · refine bGo hA 93 13 (2480, .iconst (1), 1, 1502, 0, [], [(1, 0)]) rfl rfl rfl ?_
    refine bEqI bl_1 ?_
    refine bGo hA 93 14 (2481, .goto (4), 3, 1503, 1504, [], []) rfl rfl rfl ?_
    refine bGo hA 94 0 (2485, .aload_n 0, 1, 1505, 0, [0], []) rfl rfl rfl ?_
    refine bGo hA 94 1 (2486, .iload 4, 2, 1506, 0, [4], []) rfl rfl rfl ?_
    refine bGo hA 94 2 (2488, .iconst (3), 1, 1507, 0, [], [(3, 0)]) rfl rfl rfl ?_
    refine bEqI bl_3 ?_
    refine bGo hA 94 3 (2489, .iadd, 1, 1508, 0, [], []) rfl rfl rfl ?_
    refine bEqI (bn_add l4 3) ?_
    refine bGo hA 94 4 (2490, .iaload, 1, 1509, 0, [], []) rfl rfl rfl ?_
    refine ⟨rfl, (bIxP (x := (l4 + 3)) (n := bLen s1 200) h.1 (k2.2.2.2.2.2 c5).1), ?_⟩
    refine bEqL (x := (l4 + 3)) h.1 ?_
    refine bGo hA 94 5 (2491, .invokevirtual 279, 3, 1510, 0, [0, 12, 285, 3], []) rfl rfl rfl ?_
    refine ⟨rfl, ?_⟩
    refine hC _ _ _ _ _ (bRn_e (fun r19 s17 q20 k18 => ?_)) (k2.2.2.2.2.2 c5).2
    show A (1510, [.ref 200, .ref 11, .ref 12, .ref 154, .int (bn l4), .int (bn r3), v6, v7], [.int (bn r19)], s17)
    refine bGo hA 94 6 (2494, .istore 6, 2, 1511, 0, [6], []) rfl rfl rfl ?_
    refine bGo hA 94 7 (2496, .aload_n 2, 1, 1512, 0, [2], []) rfl rfl rfl ?_
    refine bGo hA 94 8 (2497, .invokevirtual 168, 3, 1513, 0, [0, 12, 196, 0], []) rfl rfl rfl ?_
    refine ⟨rfl, ?_⟩
    refine hC _ _ _ _ _ (bRn_e (fun r23 s21 q24 k22 => ?_)) k18
    show A (1513, [.ref 200, .ref 11, .ref 12, .ref 154, .int (bn l4), .int (bn r3), .int (bn r19), v7], [.int (bn r23)], s21)
    refine bGo hA 94 9 (2500, .iload 5, 2, 1514, 0, [5], []) rfl rfl rfl ?_
    refine bGo hA 94 10 (2502, .if_icmp .eq (5), 3, 1515, 1517, [], []) rfl rfl rfl ?_
    refine bB_eq (x := r23) (y := r3) q24 q4 (fun c25 => ?_) (fun c25 => ?_)
    · refine bGo hA 94 13 (2507, .iload 5, 2, 1518, 0, [5], []) rfl rfl rfl ?_
      refine bGo hA 94 14 (2509, .ifCond .ne (15), 3, 1519, 1528, [], []) rfl rfl rfl ?_
      refine bB_eq0 (x := r3) q4 (fun c26 => ?_) (fun c26 => ?_)
      · refine bGo hA 94 15 (2512, .aload_n 3, 1, 1520, 0, [3], []) rfl rfl rfl ?_
        refine bGo hA 95 0 (2513, .iconst (0), 1, 1521, 0, [], [(0, 0)]) rfl rfl rfl ?_
        refine bEqI bl_0 ?_
        refine bGo hA 95 1 (2514, .laload, 1, 1522, 0, [], []) rfl rfl rfl ?_
        refine ⟨rfl, (bIxP (x := 0) (n := 1) (by decide) (by decide)), ?_⟩
        refine bEqJ (x := 0) (by decide : bRg 0) ?_
        refine bGo hA 95 2 (2515, .iload 6, 2, 1523, 0, [6], []) rfl rfl rfl ?_
        refine bGo hA 95 3 (2517, .i2l, 1, 1524, 0, [], []) rfl rfl rfl ?_
        refine bGo hA 95 4 (2518, .lcmp, 1, 1525, 0, [], []) rfl rfl rfl ?_
        refine bEqI (bn_cmp (bj s21 154 0) (bL r19)) ?_
        refine bGo hA 95 5 (2519, .ifCond .eq (5), 3, 1526, 1528, [], []) rfl rfl rfl ?_
        refine bB_eq0 (x := (bCmp (bj s21 154 0) (bL r19))) (bRgI _) (fun c27 => ?_) (fun c27 => ?_)
        · refine bGo hA 95 8 (2524, .goto (890), 3, 1529, 2097, [], []) rfl rfl rfl ?_
          refine bGo hA 131 1 (3414, .iinc 4 (6), 3, 2098, 0, [4], [(6, 0)]) rfl rfl rfl ?_
          refine bEqC (fun v => A (2098, [.ref 200, .ref 11, .ref 12, .ref 154, .int v, .int (bn r3), .int (bn r19), v7], [], s21)) ((congrArg (fun w => bn l4 + w) bl_6).trans (bn_add l4 6)) ?_
          refine bGo hA 131 2 (3417, .goto (-3394), 3, 2099, 13, [], []) rfl rfl rfl ?_
          exact (((k22.1 c25).1 c26).1 c27).2
        · refine bGo hA 95 6 (2522, .iconst (0), 1, 1527, 0, [], [(0, 0)]) rfl rfl rfl ?_
          refine bEqI bl_0 ?_
          refine bGo hA 95 7 (2523, .ireturn, 1, 1528, 0, [2], []) rfl rfl rfl ?_
          exact ⟨b01 (Or.inl rfl), (((k22.1 c25).1 c26).2 c27)⟩
      · refine bGo hA 95 8 (2524, .goto (890), 3, 1529, 2097, [], []) rfl rfl rfl ?_
        refine bGo hA 131 1 (3414, .iinc 4 (6), 3, 2098, 0, [4], [(6, 0)]) rfl rfl rfl ?_
        refine bEqC (fun v => A (2098, [.ref 200, .ref 11, .ref 12, .ref 154, .int v, .int (bn r3), .int (bn r19), v7], [], s21)) ((congrArg (fun w => bn l4 + w) bl_6).trans (bn_add l4 6)) ?_
        refine bGo hA 131 2 (3417, .goto (-3394), 3, 2099, 13, [], []) rfl rfl rfl ?_
        exact ((k22.1 c25).2 c26).2
    · refine bGo hA 94 11 (2505, .iconst (0), 1, 1516, 0, [], [(0, 0)]) rfl rfl rfl ?_
      refine bEqI bl_0 ?_
      refine bGo hA 94 12 (2506, .ireturn, 1, 1517, 0, [2], []) rfl rfl rfl ?_
      exact ⟨b01 (Or.inl rfl), (k22.2 c25)⟩


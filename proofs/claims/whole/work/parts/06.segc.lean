theorem sg314_0 {lvl : Nat} {C : bCall} {Q : bPost} {A : bPt → Prop} (hC : bMono C) (hA : bClosed lvl bm314 C Q A) {x1 : Int32} {x2 : Int32} {σ : bSt} 
  (h : (C 143 [.ref 11, .int x1, .int x2] σ (bRix (fun r3 s1 => Q (.inl (some (.int 0))) (bJ s1 154 (0 : Int32).toNatClampNeg (Int32.toInt64 r3))) (fun E s1 => (bRet [(0, 8, 9, 0), (0, 8, 12, 1)] 5 (fun _ _ => False) (fun h σ2 => A (h, [.ref 11, .int x1, .int x2, .ref 154, .float 0], [.float 0], σ2)) Q (.inr E) s1))))) : A (0, [.ref 11, .int x1, .int x2, .ref 154, .float 0], [], σ) := by
  refine bGo hA 0 0 (0, .aload_n 3, 1, 1, 0, [3], []) rfl rfl rfl ?_
  refine bGo hA 0 1 (1, .iconst (0), 1, 2, 0, [], [(0, 0)]) rfl rfl rfl ?_
  refine bGo hA 0 2 (2, .aload_n 0, 1, 3, 0, [0], []) rfl rfl rfl ?_
  refine bGo hA 0 3 (3, .iload_n 1, 1, 4, 0, [1], []) rfl rfl rfl ?_
  refine bGo hA 0 4 (4, .iload_n 2, 1, 5, 0, [2], []) rfl rfl rfl ?_
  refine bGo hA 0 5 (5, .invokevirtual 7, 3, 6, 0, [0, 11, 143, 2], []) rfl rfl rfl ?_
  refine ⟨rfl, ?_⟩
  refine hC _ _ _ _ _ (bRix_e (fun r3 s1 k2 => ?_) (fun E s1 k2 => ?_)) h
  · show A (6, [.ref 11, .int x1, .int x2, .ref 154, .float 0], [.int r3, .int 0, .ref 154], s1)
    refine bGo hA 0 6 (8, .i2l, 1, 7, 0, [], []) rfl rfl rfl ?_
    refine bGo hA 0 7 (9, .lastore, 1, 8, 0, [], []) rfl rfl rfl ?_
    refine ⟨rfl, (by unfold vp_in; decide : vp_in (0 : Int32) 1), by decide, ?_⟩
    refine bGo hA 0 8 (10, .goto (11), 3, 9, 15, [], []) rfl rfl rfl ?_
    refine bGo hA 0 15 (21, .iconst (0), 1, 16, 0, [], [(0, 0)]) rfl rfl rfl ?_
    refine bGo hA 1 0 (22, .ireturn, 1, 0, 0, [1], []) rfl rfl rfl ?_
    exact k2
  · exact k2

theorem sg315_0 {lvl : Nat} {C : bCall} {Q : bPost} {A : bPt → Prop} (hC : bMono C) (hA : bClosed lvl bm315 C Q A) {x1 : Int32} {σ : bSt} 
  (h : (C 144 [.ref 11, .int x1] σ (bRix (fun r3 s1 => Q (.inl (some (.int 0))) (bJ s1 154 (0 : Int32).toNatClampNeg (Int32.toInt64 r3))) (fun E s1 => (bRet [(0, 7, 8, 0)] 4 (fun _ _ => False) (fun h σ2 => A (h, [.ref 11, .int x1, .ref 154, .float 0], [.float 0], σ2)) Q (.inr E) s1))))) : A (0, [.ref 11, .int x1, .ref 154, .float 0], [], σ) := by
  refine bGo hA 0 0 (0, .aload_n 2, 1, 1, 0, [2], []) rfl rfl rfl ?_
  refine bGo hA 0 1 (1, .iconst (0), 1, 2, 0, [], [(0, 0)]) rfl rfl rfl ?_
  refine bGo hA 0 2 (2, .aload_n 0, 1, 3, 0, [0], []) rfl rfl rfl ?_
  refine bGo hA 0 3 (3, .iload_n 1, 1, 4, 0, [1], []) rfl rfl rfl ?_
  refine bGo hA 0 4 (4, .invokevirtual 17, 3, 5, 0, [0, 11, 144, 1], []) rfl rfl rfl ?_
  refine ⟨rfl, ?_⟩
  refine hC _ _ _ _ _ (bRix_e (fun r3 s1 k2 => ?_) (fun E s1 k2 => ?_)) h
  · show A (5, [.ref 11, .int x1, .ref 154, .float 0], [.int r3, .int 0, .ref 154], s1)
    refine bGo hA 0 5 (7, .i2l, 1, 6, 0, [], []) rfl rfl rfl ?_
    refine bGo hA 0 6 (8, .lastore, 1, 7, 0, [], []) rfl rfl rfl ?_
    refine ⟨rfl, (by unfold vp_in; decide : vp_in (0 : Int32) 1), by decide, ?_⟩
    refine bGo hA 0 7 (9, .goto (6), 3, 8, 11, [], []) rfl rfl rfl ?_
    refine bGo hA 0 11 (15, .iconst (0), 1, 12, 0, [], [(0, 0)]) rfl rfl rfl ?_
    refine bGo hA 0 12 (16, .ireturn, 1, 0, 0, [1], []) rfl rfl rfl ?_
    exact k2
  · exact k2

theorem sg316_0 {lvl : Nat} {C : bCall} {Q : bPost} {A : bPt → Prop} (hC : bMono C) (hA : bClosed lvl bm316 C Q A) {x1 : Int32} {x2 : Int32} {σ : bSt} 
  (h : (C 145 [.ref 11, .int x1, .int x2] σ (bRix (fun r3 s1 => ((r3 = 0 → Q (.inl (some (.int 0))) (bJ s1 154 (0 : Int32).toNatClampNeg (Int64.ofNat 0))) ∧ (¬ r3 = 0 → Q (.inl (some (.int 0))) (bJ s1 154 (0 : Int32).toNatClampNeg (Int64.ofNat 1))))) (fun E s1 => (bRet [(0, 11, 12, 0), (0, 11, 15, 2)] 5 (fun _ _ => False) (fun h σ2 => A (h, [.ref 11, .int x1, .int x2, .ref 154, .float 0], [.float 0], σ2)) Q (.inr E) s1))))) : A (0, [.ref 11, .int x1, .int x2, .ref 154, .float 0], [], σ) := by
  refine bGo hA 0 0 (0, .aload_n 3, 1, 1, 0, [3], []) rfl rfl rfl ?_
  refine bGo hA 0 1 (1, .iconst (0), 1, 2, 0, [], [(0, 0)]) rfl rfl rfl ?_
  refine bGo hA 0 2 (2, .aload_n 0, 1, 3, 0, [0], []) rfl rfl rfl ?_
  refine bGo hA 0 3 (3, .iload_n 1, 1, 4, 0, [1], []) rfl rfl rfl ?_
  refine bGo hA 0 4 (4, .iload_n 2, 1, 5, 0, [2], []) rfl rfl rfl ?_
  refine bGo hA 0 5 (5, .invokevirtual 21, 3, 6, 0, [0, 11, 145, 2], []) rfl rfl rfl ?_
  refine ⟨rfl, ?_⟩
  refine hC _ _ _ _ _ (bRix_e (fun r3 s1 k2 => ?_) (fun E s1 k2 => ?_)) h
  · show A (6, [.ref 11, .int x1, .int x2, .ref 154, .float 0], [.int r3, .int 0, .ref 154], s1)
    refine bGo hA 0 6 (8, .ifCond .eq (7), 3, 7, 9, [], []) rfl rfl rfl ?_
    refine ⟨fun c4 => ?_, fun c4 => ?_⟩
    · refine bGo hA 0 9 (15, .lconst 0, 1, 10, 0, [0], []) rfl rfl rfl ?_
      refine bGo hA 0 10 (16, .lastore, 1, 11, 0, [], []) rfl rfl rfl ?_
      refine ⟨rfl, (by unfold vp_in; decide : vp_in (0 : Int32) 1), by decide, ?_⟩
      refine bGo hA 0 11 (17, .goto (11), 3, 12, 18, [], []) rfl rfl rfl ?_
      refine bGo hA 1 2 (28, .iconst (0), 1, 19, 0, [], [(0, 0)]) rfl rfl rfl ?_
      refine bGo hA 1 3 (29, .ireturn, 1, 0, 0, [1], []) rfl rfl rfl ?_
      exact (k2.1 c4)
    · refine bGo hA 0 7 (11, .lconst 1, 1, 8, 0, [1], []) rfl rfl rfl ?_
      refine bGo hA 0 8 (12, .goto (4), 3, 9, 10, [], []) rfl rfl rfl ?_
      refine bGo hA 0 10 (16, .lastore, 1, 11, 0, [], []) rfl rfl rfl ?_
      refine ⟨rfl, (by unfold vp_in; decide : vp_in (0 : Int32) 1), by decide, ?_⟩
      refine bGo hA 0 11 (17, .goto (11), 3, 12, 18, [], []) rfl rfl rfl ?_
      refine bGo hA 1 2 (28, .iconst (0), 1, 19, 0, [], [(0, 0)]) rfl rfl rfl ?_
      refine bGo hA 1 3 (29, .ireturn, 1, 0, 0, [1], []) rfl rfl rfl ?_
      exact (k2.2 c4)
  · exact k2

theorem sg317_0 {lvl : Nat} {C : bCall} {Q : bPost} {A : bPt → Prop} (hC : bMono C) (hA : bClosed lvl bm317 C Q A) {x1 : Int32} {σ : bSt} 
  (h : (C 146 [.ref 11, .int x1] σ (bRix (fun r3 s1 => Q (.inl (some (.int 0))) (bJ s1 154 (0 : Int32).toNatClampNeg (Int32.toInt64 r3))) (fun E s1 => (bRet [(0, 7, 8, 0)] 4 (fun _ _ => False) (fun h σ2 => A (h, [.ref 11, .int x1, .ref 154, .float 0], [.float 0], σ2)) Q (.inr E) s1))))) : A (0, [.ref 11, .int x1, .ref 154, .float 0], [], σ) := by
  refine bGo hA 0 0 (0, .aload_n 2, 1, 1, 0, [2], []) rfl rfl rfl ?_
  refine bGo hA 0 1 (1, .iconst (0), 1, 2, 0, [], [(0, 0)]) rfl rfl rfl ?_
  refine bGo hA 0 2 (2, .aload_n 0, 1, 3, 0, [0], []) rfl rfl rfl ?_
  refine bGo hA 0 3 (3, .iload_n 1, 1, 4, 0, [1], []) rfl rfl rfl ?_
  refine bGo hA 0 4 (4, .invokevirtual 27, 3, 5, 0, [0, 11, 146, 1], []) rfl rfl rfl ?_
  refine ⟨rfl, ?_⟩
  refine hC _ _ _ _ _ (bRix_e (fun r3 s1 k2 => ?_) (fun E s1 k2 => ?_)) h
  · show A (5, [.ref 11, .int x1, .ref 154, .float 0], [.int r3, .int 0, .ref 154], s1)
    refine bGo hA 0 5 (7, .i2l, 1, 6, 0, [], []) rfl rfl rfl ?_
    refine bGo hA 0 6 (8, .lastore, 1, 7, 0, [], []) rfl rfl rfl ?_
    refine ⟨rfl, (by unfold vp_in; decide : vp_in (0 : Int32) 1), by decide, ?_⟩
    refine bGo hA 0 7 (9, .goto (6), 3, 8, 11, [], []) rfl rfl rfl ?_
    refine bGo hA 0 11 (15, .iconst (0), 1, 12, 0, [], [(0, 0)]) rfl rfl rfl ?_
    refine bGo hA 0 12 (16, .ireturn, 1, 0, 0, [1], []) rfl rfl rfl ?_
    exact k2
  · exact k2

theorem sg318_0 {lvl : Nat} {C : bCall} {Q : bPost} {A : bPt → Prop} (hC : bMono C) (hA : bClosed lvl bm318 C Q A) {x1 : Int32} {x2 : Int32} {x3 : Int32} {σ : bSt} 
  (h : (C 147 [.ref 11, .int x1, .int x2, .int x3] σ (bRjx (fun r3 s1 => Q (.inl (some (.int 0))) (bJ s1 154 (0 : Int32).toNatClampNeg r3)) (fun E s1 => (bRet [(0, 8, 9, 0), (0, 8, 12, 1), (0, 8, 15, 2)] 6 (fun _ _ => False) (fun h σ2 => A (h, [.ref 11, .int x1, .int x2, .int x3, .ref 154, .float 0], [.float 0], σ2)) Q (.inr E) s1))))) : A (0, [.ref 11, .int x1, .int x2, .int x3, .ref 154, .float 0], [], σ) := by
  refine bGo hA 0 0 (0, .aload 4, 2, 1, 0, [4], []) rfl rfl rfl ?_
  refine bGo hA 0 1 (2, .iconst (0), 1, 2, 0, [], [(0, 0)]) rfl rfl rfl ?_
  refine bGo hA 0 2 (3, .aload_n 0, 1, 3, 0, [0], []) rfl rfl rfl ?_
  refine bGo hA 0 3 (4, .iload_n 1, 1, 4, 0, [1], []) rfl rfl rfl ?_
  refine bGo hA 0 4 (5, .iload_n 2, 1, 5, 0, [2], []) rfl rfl rfl ?_
  refine bGo hA 0 5 (6, .iload_n 3, 1, 6, 0, [3], []) rfl rfl rfl ?_
  refine bGo hA 0 6 (7, .invokevirtual 30, 3, 7, 0, [0, 11, 147, 3], []) rfl rfl rfl ?_
  refine ⟨rfl, ?_⟩
  refine hC _ _ _ _ _ (bRjx_e (fun r3 s1 k2 => ?_) (fun E s1 k2 => ?_)) h
  · show A (7, [.ref 11, .int x1, .int x2, .int x3, .ref 154, .float 0], [.long r3, .int 0, .ref 154], s1)
    refine bGo hA 0 7 (10, .lastore, 1, 8, 0, [], []) rfl rfl rfl ?_
    refine ⟨rfl, (by unfold vp_in; decide : vp_in (0 : Int32) 1), by decide, ?_⟩
    refine bGo hA 0 8 (11, .goto (15), 3, 9, 18, [], []) rfl rfl rfl ?_
    refine bGo hA 1 2 (26, .iconst (0), 1, 19, 0, [], [(0, 0)]) rfl rfl rfl ?_
    refine bGo hA 1 3 (27, .ireturn, 1, 0, 0, [1], []) rfl rfl rfl ?_
    exact k2
  · exact k2

theorem sg319_0 {lvl : Nat} {C : bCall} {Q : bPost} {A : bPt → Prop} (hC : bMono C) (hA : bClosed lvl bm319 C Q A) {x1 : Int32} {x2 : Int32} {x3 : Int32} {x4 : Int32} {x5 : Int32} {σ : bSt} 
  (h : (C 148 [.ref 11, .int x1, .int x2, .int x3, .int x4, .int x5] σ (bRix (fun r3 s1 => Q (.inl (some (.int 0))) (bJ s1 154 (0 : Int32).toNatClampNeg (Int32.toInt64 r3))) (fun E s1 => (bRet [(0, 11, 12, 0), (0, 11, 15, 1), (0, 11, 18, 2)] 8 (fun _ _ => False) (fun h σ2 => A (h, [.ref 11, .int x1, .int x2, .int x3, .int x4, .int x5, .ref 154, .float 0], [.float 0], σ2)) Q (.inr E) s1))))) : A (0, [.ref 11, .int x1, .int x2, .int x3, .int x4, .int x5, .ref 154, .float 0], [], σ) := by
  refine bGo hA 0 0 (0, .aload 6, 2, 1, 0, [6], []) rfl rfl rfl ?_
  refine bGo hA 0 1 (2, .iconst (0), 1, 2, 0, [], [(0, 0)]) rfl rfl rfl ?_
  refine bGo hA 0 2 (3, .aload_n 0, 1, 3, 0, [0], []) rfl rfl rfl ?_
  refine bGo hA 0 3 (4, .iload_n 1, 1, 4, 0, [1], []) rfl rfl rfl ?_
  refine bGo hA 0 4 (5, .iload_n 2, 1, 5, 0, [2], []) rfl rfl rfl ?_
  refine bGo hA 0 5 (6, .iload_n 3, 1, 6, 0, [3], []) rfl rfl rfl ?_
  refine bGo hA 0 6 (7, .iload 4, 2, 7, 0, [4], []) rfl rfl rfl ?_
  refine bGo hA 0 7 (9, .iload 5, 2, 8, 0, [5], []) rfl rfl rfl ?_
  refine bGo hA 0 8 (11, .invokevirtual 34, 3, 9, 0, [0, 11, 148, 5], []) rfl rfl rfl ?_
  refine ⟨rfl, ?_⟩
  refine hC _ _ _ _ _ (bRix_e (fun r3 s1 k2 => ?_) (fun E s1 k2 => ?_)) h
  · show A (9, [.ref 11, .int x1, .int x2, .int x3, .int x4, .int x5, .ref 154, .float 0], [.int r3, .int 0, .ref 154], s1)
    refine bGo hA 0 9 (14, .i2l, 1, 10, 0, [], []) rfl rfl rfl ?_
    refine bGo hA 0 10 (15, .lastore, 1, 11, 0, [], []) rfl rfl rfl ?_
    refine ⟨rfl, (by unfold vp_in; decide : vp_in (0 : Int32) 1), by decide, ?_⟩
    refine bGo hA 0 11 (16, .goto (15), 3, 12, 21, [], []) rfl rfl rfl ?_
    refine bGo hA 1 5 (31, .iconst (0), 1, 22, 0, [], [(0, 0)]) rfl rfl rfl ?_
    refine bGo hA 1 6 (32, .ireturn, 1, 0, 0, [1], []) rfl rfl rfl ?_
    exact k2
  · exact k2

theorem sg320_0 {lvl : Nat} {C : bCall} {Q : bPost} {A : bPt → Prop} (hC : bMono C) (hA : bClosed lvl bm320 C Q A) {x1 : Int32} {x2 : Int32} {σ : bSt} 
  (h : (C 149 [.ref 11, .int x1, .int x2] σ (bRix (fun r3 s1 => Q (.inl (some (.int 0))) (bJ s1 154 (0 : Int32).toNatClampNeg (Int32.toInt64 r3))) (fun E s1 => (bRet [(0, 8, 9, 0)] 5 (fun _ _ => False) (fun h σ2 => A (h, [.ref 11, .int x1, .int x2, .ref 154, .float 0], [.float 0], σ2)) Q (.inr E) s1))))) : A (0, [.ref 11, .int x1, .int x2, .ref 154, .float 0], [], σ) := by
  refine bGo hA 0 0 (0, .aload_n 3, 1, 1, 0, [3], []) rfl rfl rfl ?_
  refine bGo hA 0 1 (1, .iconst (0), 1, 2, 0, [], [(0, 0)]) rfl rfl rfl ?_
  refine bGo hA 0 2 (2, .aload_n 0, 1, 3, 0, [0], []) rfl rfl rfl ?_
  refine bGo hA 0 3 (3, .iload_n 1, 1, 4, 0, [1], []) rfl rfl rfl ?_
  refine bGo hA 0 4 (4, .iload_n 2, 1, 5, 0, [2], []) rfl rfl rfl ?_
  refine bGo hA 0 5 (5, .invokevirtual 38, 3, 6, 0, [0, 11, 149, 2], []) rfl rfl rfl ?_
  refine ⟨rfl, ?_⟩
  refine hC _ _ _ _ _ (bRix_e (fun r3 s1 k2 => ?_) (fun E s1 k2 => ?_)) h
  · show A (6, [.ref 11, .int x1, .int x2, .ref 154, .float 0], [.int r3, .int 0, .ref 154], s1)
    refine bGo hA 0 6 (8, .i2l, 1, 7, 0, [], []) rfl rfl rfl ?_
    refine bGo hA 0 7 (9, .lastore, 1, 8, 0, [], []) rfl rfl rfl ?_
    refine ⟨rfl, (by unfold vp_in; decide : vp_in (0 : Int32) 1), by decide, ?_⟩
    refine bGo hA 0 8 (10, .goto (7), 3, 9, 12, [], []) rfl rfl rfl ?_
    refine bGo hA 0 12 (17, .iconst (0), 1, 13, 0, [], [(0, 0)]) rfl rfl rfl ?_
    refine bGo hA 0 13 (18, .ireturn, 1, 0, 0, [1], []) rfl rfl rfl ?_
    exact k2
  · exact k2

theorem sg321_0 {lvl : Nat} {C : bCall} {Q : bPost} {A : bPt → Prop} (hC : bMono C) (hA : bClosed lvl bm321 C Q A) {x1 : Int32} {x2 : Int32} {σ : bSt} 
  (h : (C 150 [.ref 11, .int x1, .int x2] σ (bRix (fun r3 s1 => Q (.inl (some (.int 0))) (bJ s1 154 (0 : Int32).toNatClampNeg (Int32.toInt64 r3))) (fun E s1 => (bRet [(0, 8, 9, 0)] 5 (fun _ _ => False) (fun h σ2 => A (h, [.ref 11, .int x1, .int x2, .ref 154, .float 0], [.float 0], σ2)) Q (.inr E) s1))))) : A (0, [.ref 11, .int x1, .int x2, .ref 154, .float 0], [], σ) := by
  refine bGo hA 0 0 (0, .aload_n 3, 1, 1, 0, [3], []) rfl rfl rfl ?_
  refine bGo hA 0 1 (1, .iconst (0), 1, 2, 0, [], [(0, 0)]) rfl rfl rfl ?_
  refine bGo hA 0 2 (2, .aload_n 0, 1, 3, 0, [0], []) rfl rfl rfl ?_
  refine bGo hA 0 3 (3, .iload_n 1, 1, 4, 0, [1], []) rfl rfl rfl ?_
  refine bGo hA 0 4 (4, .iload_n 2, 1, 5, 0, [2], []) rfl rfl rfl ?_
  refine bGo hA 0 5 (5, .invokevirtual 41, 3, 6, 0, [0, 11, 150, 2], []) rfl rfl rfl ?_
  refine ⟨rfl, ?_⟩
  refine hC _ _ _ _ _ (bRix_e (fun r3 s1 k2 => ?_) (fun E s1 k2 => ?_)) h
  · show A (6, [.ref 11, .int x1, .int x2, .ref 154, .float 0], [.int r3, .int 0, .ref 154], s1)
    refine bGo hA 0 6 (8, .i2l, 1, 7, 0, [], []) rfl rfl rfl ?_
    refine bGo hA 0 7 (9, .lastore, 1, 8, 0, [], []) rfl rfl rfl ?_
    refine ⟨rfl, (by unfold vp_in; decide : vp_in (0 : Int32) 1), by decide, ?_⟩
    refine bGo hA 0 8 (10, .goto (7), 3, 9, 12, [], []) rfl rfl rfl ?_
    refine bGo hA 0 12 (17, .iconst (0), 1, 13, 0, [], [(0, 0)]) rfl rfl rfl ?_
    refine bGo hA 0 13 (18, .ireturn, 1, 0, 0, [1], []) rfl rfl rfl ?_
    exact k2
  · exact k2

theorem sg322_0 {lvl : Nat} {C : bCall} {Q : bPost} {A : bPt → Prop} (hC : bMono C) (hA : bClosed lvl bm322 C Q A) {x1 : Int32} {x2 : Int32} {x3 : Int32} {σ : bSt} 
  (h : (C 151 [.ref 11, .int x1, .int x2, .int x3] σ (bRix (fun r3 s1 => Q (.inl (some (.int 0))) (bJ s1 154 (0 : Int32).toNatClampNeg (Int32.toInt64 r3))) (fun E s1 => (bRet [(0, 9, 10, 0)] 6 (fun _ _ => False) (fun h σ2 => A (h, [.ref 11, .int x1, .int x2, .int x3, .ref 154, .float 0], [.float 0], σ2)) Q (.inr E) s1))))) : A (0, [.ref 11, .int x1, .int x2, .int x3, .ref 154, .float 0], [], σ) := by
  refine bGo hA 0 0 (0, .aload 4, 2, 1, 0, [4], []) rfl rfl rfl ?_
  refine bGo hA 0 1 (2, .iconst (0), 1, 2, 0, [], [(0, 0)]) rfl rfl rfl ?_
  refine bGo hA 0 2 (3, .aload_n 0, 1, 3, 0, [0], []) rfl rfl rfl ?_
  refine bGo hA 0 3 (4, .iload_n 1, 1, 4, 0, [1], []) rfl rfl rfl ?_
  refine bGo hA 0 4 (5, .iload_n 2, 1, 5, 0, [2], []) rfl rfl rfl ?_
  refine bGo hA 0 5 (6, .iload_n 3, 1, 6, 0, [3], []) rfl rfl rfl ?_
  refine bGo hA 0 6 (7, .invokevirtual 44, 3, 7, 0, [0, 11, 151, 3], []) rfl rfl rfl ?_
  refine ⟨rfl, ?_⟩
  refine hC _ _ _ _ _ (bRix_e (fun r3 s1 k2 => ?_) (fun E s1 k2 => ?_)) h
  · show A (7, [.ref 11, .int x1, .int x2, .int x3, .ref 154, .float 0], [.int r3, .int 0, .ref 154], s1)
    refine bGo hA 0 7 (10, .i2l, 1, 8, 0, [], []) rfl rfl rfl ?_
    refine bGo hA 0 8 (11, .lastore, 1, 9, 0, [], []) rfl rfl rfl ?_
    refine ⟨rfl, (by unfold vp_in; decide : vp_in (0 : Int32) 1), by decide, ?_⟩
    refine bGo hA 0 9 (12, .goto (7), 3, 10, 13, [], []) rfl rfl rfl ?_
    refine bGo hA 0 13 (19, .iconst (0), 1, 14, 0, [], [(0, 0)]) rfl rfl rfl ?_
    refine bGo hA 0 14 (20, .ireturn, 1, 0, 0, [1], []) rfl rfl rfl ?_
    exact k2
  · exact k2

theorem sg323_0 {lvl : Nat} {C : bCall} {Q : bPost} {A : bPt → Prop} (hC : bMono C) (hA : bClosed lvl bm323 C Q A) {x1 : Int32} {x2 : Int32} {σ : bSt} 
  (h : (C 152 [.ref 11, .int x1, .int x2] σ (bRix (fun r3 s1 => Q (.inl (some (.int 0))) (bJ s1 154 (0 : Int32).toNatClampNeg (Int32.toInt64 r3))) (fun E s1 => (bRet [(0, 8, 9, 0)] 5 (fun _ _ => False) (fun h σ2 => A (h, [.ref 11, .int x1, .int x2, .ref 154, .float 0], [.float 0], σ2)) Q (.inr E) s1))))) : A (0, [.ref 11, .int x1, .int x2, .ref 154, .float 0], [], σ) := by
  refine bGo hA 0 0 (0, .aload_n 3, 1, 1, 0, [3], []) rfl rfl rfl ?_
  refine bGo hA 0 1 (1, .iconst (0), 1, 2, 0, [], [(0, 0)]) rfl rfl rfl ?_
  refine bGo hA 0 2 (2, .aload_n 0, 1, 3, 0, [0], []) rfl rfl rfl ?_
  refine bGo hA 0 3 (3, .iload_n 1, 1, 4, 0, [1], []) rfl rfl rfl ?_
  refine bGo hA 0 4 (4, .iload_n 2, 1, 5, 0, [2], []) rfl rfl rfl ?_
  refine bGo hA 0 5 (5, .invokevirtual 48, 3, 6, 0, [0, 11, 152, 2], []) rfl rfl rfl ?_
  refine ⟨rfl, ?_⟩
  refine hC _ _ _ _ _ (bRix_e (fun r3 s1 k2 => ?_) (fun E s1 k2 => ?_)) h
  · show A (6, [.ref 11, .int x1, .int x2, .ref 154, .float 0], [.int r3, .int 0, .ref 154], s1)
    refine bGo hA 0 6 (8, .i2l, 1, 7, 0, [], []) rfl rfl rfl ?_
    refine bGo hA 0 7 (9, .lastore, 1, 8, 0, [], []) rfl rfl rfl ?_
    refine ⟨rfl, (by unfold vp_in; decide : vp_in (0 : Int32) 1), by decide, ?_⟩
    refine bGo hA 0 8 (10, .goto (7), 3, 9, 12, [], []) rfl rfl rfl ?_
    refine bGo hA 0 12 (17, .iconst (0), 1, 13, 0, [], [(0, 0)]) rfl rfl rfl ?_
    refine bGo hA 0 13 (18, .ireturn, 1, 0, 0, [1], []) rfl rfl rfl ?_
    exact k2
  · exact k2

theorem sg324_0 {lvl : Nat} {C : bCall} {Q : bPost} {A : bPt → Prop} (hC : bMono C) (hA : bClosed lvl bm324 C Q A) {x1 : Int32} {x2 : Int32} {σ : bSt} 
  (h : (C 153 [.ref 11, .int x1, .int x2] σ (bRix (fun r3 s1 => Q (.inl (some (.int 0))) (bJ s1 154 (0 : Int32).toNatClampNeg (Int32.toInt64 r3))) (fun E s1 => (bRet [(0, 8, 9, 0), (0, 8, 12, 1)] 5 (fun _ _ => False) (fun h σ2 => A (h, [.ref 11, .int x1, .int x2, .ref 154, .float 0], [.float 0], σ2)) Q (.inr E) s1))))) : A (0, [.ref 11, .int x1, .int x2, .ref 154, .float 0], [], σ) := by
  refine bGo hA 0 0 (0, .aload_n 3, 1, 1, 0, [3], []) rfl rfl rfl ?_
  refine bGo hA 0 1 (1, .iconst (0), 1, 2, 0, [], [(0, 0)]) rfl rfl rfl ?_
  refine bGo hA 0 2 (2, .aload_n 0, 1, 3, 0, [0], []) rfl rfl rfl ?_
  refine bGo hA 0 3 (3, .iload_n 1, 1, 4, 0, [1], []) rfl rfl rfl ?_
  refine bGo hA 0 4 (4, .iload_n 2, 1, 5, 0, [2], []) rfl rfl rfl ?_
  refine bGo hA 0 5 (5, .invokevirtual 51, 3, 6, 0, [0, 11, 153, 2], []) rfl rfl rfl ?_
  refine ⟨rfl, ?_⟩
  refine hC _ _ _ _ _ (bRix_e (fun r3 s1 k2 => ?_) (fun E s1 k2 => ?_)) h
  · show A (6, [.ref 11, .int x1, .int x2, .ref 154, .float 0], [.int r3, .int 0, .ref 154], s1)
    refine bGo hA 0 6 (8, .i2l, 1, 7, 0, [], []) rfl rfl rfl ?_
    refine bGo hA 0 7 (9, .lastore, 1, 8, 0, [], []) rfl rfl rfl ?_
    refine ⟨rfl, (by unfold vp_in; decide : vp_in (0 : Int32) 1), by decide, ?_⟩
    refine bGo hA 0 8 (10, .goto (11), 3, 9, 15, [], []) rfl rfl rfl ?_
    refine bGo hA 0 15 (21, .iconst (0), 1, 16, 0, [], [(0, 0)]) rfl rfl rfl ?_
    refine bGo hA 1 0 (22, .ireturn, 1, 0, 0, [1], []) rfl rfl rfl ?_
    exact k2
  · exact k2

theorem sg325_0 {lvl : Nat} {C : bCall} {Q : bPost} {A : bPt → Prop} (hC : bMono C) (hA : bClosed lvl bm325 C Q A) {x1 : Int32} {x2 : Int32} {x3 : Int32} {x4 : Int32} {σ : bSt} 
  (h : (C 154 [.ref 11, .int x1, .int x2, .int x3, .int x4] σ (bRix (fun r3 s1 => Q (.inl (some (.int 0))) (bJ s1 154 (0 : Int32).toNatClampNeg (Int32.toInt64 r3))) (fun E s1 => (bRet [(0, 10, 11, 0), (0, 10, 14, 1), (0, 10, 17, 2)] 7 (fun _ _ => False) (fun h σ2 => A (h, [.ref 11, .int x1, .int x2, .int x3, .int x4, .ref 154, .float 0], [.float 0], σ2)) Q (.inr E) s1))))) : A (0, [.ref 11, .int x1, .int x2, .int x3, .int x4, .ref 154, .float 0], [], σ) := by
  refine bGo hA 0 0 (0, .aload 5, 2, 1, 0, [5], []) rfl rfl rfl ?_
  refine bGo hA 0 1 (2, .iconst (0), 1, 2, 0, [], [(0, 0)]) rfl rfl rfl ?_
  refine bGo hA 0 2 (3, .aload_n 0, 1, 3, 0, [0], []) rfl rfl rfl ?_
  refine bGo hA 0 3 (4, .iload_n 1, 1, 4, 0, [1], []) rfl rfl rfl ?_
  refine bGo hA 0 4 (5, .iload_n 2, 1, 5, 0, [2], []) rfl rfl rfl ?_
  refine bGo hA 0 5 (6, .iload_n 3, 1, 6, 0, [3], []) rfl rfl rfl ?_
  refine bGo hA 0 6 (7, .iload 4, 2, 7, 0, [4], []) rfl rfl rfl ?_
  refine bGo hA 0 7 (9, .invokevirtual 54, 3, 8, 0, [0, 11, 154, 4], []) rfl rfl rfl ?_
  refine ⟨rfl, ?_⟩
  refine hC _ _ _ _ _ (bRix_e (fun r3 s1 k2 => ?_) (fun E s1 k2 => ?_)) h
  · show A (8, [.ref 11, .int x1, .int x2, .int x3, .int x4, .ref 154, .float 0], [.int r3, .int 0, .ref 154], s1)
    refine bGo hA 0 8 (12, .i2l, 1, 9, 0, [], []) rfl rfl rfl ?_
    refine bGo hA 0 9 (13, .lastore, 1, 10, 0, [], []) rfl rfl rfl ?_
    refine ⟨rfl, (by unfold vp_in; decide : vp_in (0 : Int32) 1), by decide, ?_⟩
    refine bGo hA 0 10 (14, .goto (15), 3, 11, 20, [], []) rfl rfl rfl ?_
    refine bGo hA 1 4 (29, .iconst (0), 1, 21, 0, [], [(0, 0)]) rfl rfl rfl ?_
    refine bGo hA 1 5 (30, .ireturn, 1, 0, 0, [1], []) rfl rfl rfl ?_
    exact k2
  · exact k2

theorem sg326_0 {lvl : Nat} {C : bCall} {Q : bPost} {A : bPt → Prop} (hC : bMono C) (hA : bClosed lvl bm326 C Q A) {x1 : Int32} {σ : bSt} 
  (h : (C 155 [.ref 11, .int x1] σ (bRix (fun r3 s1 => Q (.inl (some (.int 0))) (bJ s1 154 (0 : Int32).toNatClampNeg (Int32.toInt64 r3))) (fun E s1 => (bRet [(0, 7, 8, 0)] 4 (fun _ _ => False) (fun h σ2 => A (h, [.ref 11, .int x1, .ref 154, .float 0], [.float 0], σ2)) Q (.inr E) s1))))) : A (0, [.ref 11, .int x1, .ref 154, .float 0], [], σ) := by
  refine bGo hA 0 0 (0, .aload_n 2, 1, 1, 0, [2], []) rfl rfl rfl ?_
  refine bGo hA 0 1 (1, .iconst (0), 1, 2, 0, [], [(0, 0)]) rfl rfl rfl ?_
  refine bGo hA 0 2 (2, .aload_n 0, 1, 3, 0, [0], []) rfl rfl rfl ?_
  refine bGo hA 0 3 (3, .iload_n 1, 1, 4, 0, [1], []) rfl rfl rfl ?_
  refine bGo hA 0 4 (4, .invokevirtual 58, 3, 5, 0, [0, 11, 155, 1], []) rfl rfl rfl ?_
  refine ⟨rfl, ?_⟩
  refine hC _ _ _ _ _ (bRix_e (fun r3 s1 k2 => ?_) (fun E s1 k2 => ?_)) h
  · show A (5, [.ref 11, .int x1, .ref 154, .float 0], [.int r3, .int 0, .ref 154], s1)
    refine bGo hA 0 5 (7, .i2l, 1, 6, 0, [], []) rfl rfl rfl ?_
    refine bGo hA 0 6 (8, .lastore, 1, 7, 0, [], []) rfl rfl rfl ?_
    refine ⟨rfl, (by unfold vp_in; decide : vp_in (0 : Int32) 1), by decide, ?_⟩
    refine bGo hA 0 7 (9, .goto (6), 3, 8, 11, [], []) rfl rfl rfl ?_
    refine bGo hA 0 11 (15, .iconst (0), 1, 12, 0, [], [(0, 0)]) rfl rfl rfl ?_
    refine bGo hA 0 12 (16, .ireturn, 1, 0, 0, [1], []) rfl rfl rfl ?_
    exact k2
  · exact k2

theorem sg327_0 {lvl : Nat} {C : bCall} {Q : bPost} {A : bPt → Prop} (hC : bMono C) (hA : bClosed lvl bm327 C Q A) {x1 : Int32} {x2 : Int32} {x3 : Int32} {σ : bSt} 
  (h : (C 156 [.ref 11, .int x1, .int x2, .int x3] σ (bRix (fun r3 s1 => Q (.inl (some (.int 0))) (bJ s1 154 (0 : Int32).toNatClampNeg (Int32.toInt64 r3))) (fun E s1 => (bRet [(0, 9, 10, 0), (0, 9, 13, 1), (0, 9, 16, 2)] 6 (fun _ _ => False) (fun h σ2 => A (h, [.ref 11, .int x1, .int x2, .int x3, .ref 154, .float 0], [.float 0], σ2)) Q (.inr E) s1))))) : A (0, [.ref 11, .int x1, .int x2, .int x3, .ref 154, .float 0], [], σ) := by
  refine bGo hA 0 0 (0, .aload 4, 2, 1, 0, [4], []) rfl rfl rfl ?_
  refine bGo hA 0 1 (2, .iconst (0), 1, 2, 0, [], [(0, 0)]) rfl rfl rfl ?_
  refine bGo hA 0 2 (3, .aload_n 0, 1, 3, 0, [0], []) rfl rfl rfl ?_
  refine bGo hA 0 3 (4, .iload_n 1, 1, 4, 0, [1], []) rfl rfl rfl ?_
  refine bGo hA 0 4 (5, .iload_n 2, 1, 5, 0, [2], []) rfl rfl rfl ?_
  refine bGo hA 0 5 (6, .iload_n 3, 1, 6, 0, [3], []) rfl rfl rfl ?_
  refine bGo hA 0 6 (7, .invokevirtual 61, 3, 7, 0, [0, 11, 156, 3], []) rfl rfl rfl ?_
  refine ⟨rfl, ?_⟩
  refine hC _ _ _ _ _ (bRix_e (fun r3 s1 k2 => ?_) (fun E s1 k2 => ?_)) h
  · show A (7, [.ref 11, .int x1, .int x2, .int x3, .ref 154, .float 0], [.int r3, .int 0, .ref 154], s1)
    refine bGo hA 0 7 (10, .i2l, 1, 8, 0, [], []) rfl rfl rfl ?_
    refine bGo hA 0 8 (11, .lastore, 1, 9, 0, [], []) rfl rfl rfl ?_
    refine ⟨rfl, (by unfold vp_in; decide : vp_in (0 : Int32) 1), by decide, ?_⟩
    refine bGo hA 0 9 (12, .goto (15), 3, 10, 19, [], []) rfl rfl rfl ?_
    refine bGo hA 1 3 (27, .iconst (0), 1, 20, 0, [], [(0, 0)]) rfl rfl rfl ?_
    refine bGo hA 1 4 (28, .ireturn, 1, 0, 0, [1], []) rfl rfl rfl ?_
    exact k2
  · exact k2

theorem sg328_0 {lvl : Nat} {C : bCall} {Q : bPost} {A : bPt → Prop} (hC : bMono C) (hA : bClosed lvl bm328 C Q A) {x1 : Int32} {x2 : Int32} {x3 : Int32} {σ : bSt} 
  (h : (C 157 [.ref 11, .int x1, .int x2, .int x3] σ (bRvx (fun s1 => Q (.inl (some (.int 0))) s1) (fun E s1 => (bRet [(0, 5, 6, 0)] 4 (fun _ _ => False) (fun h σ2 => A (h, [.ref 11, .int x1, .int x2, .int x3, .float 0], [.float 0], σ2)) Q (.inr E) s1))))) : A (0, [.ref 11, .int x1, .int x2, .int x3, .float 0], [], σ) := by
  refine bGo hA 0 0 (0, .aload_n 0, 1, 1, 0, [0], []) rfl rfl rfl ?_
  refine bGo hA 0 1 (1, .iload_n 1, 1, 2, 0, [1], []) rfl rfl rfl ?_
  refine bGo hA 0 2 (2, .iload_n 2, 1, 3, 0, [2], []) rfl rfl rfl ?_
  refine bGo hA 0 3 (3, .iload_n 3, 1, 4, 0, [3], []) rfl rfl rfl ?_
  refine bGo hA 0 4 (4, .invokevirtual 64, 3, 5, 0, [0, 11, 157, 3], []) rfl rfl rfl ?_
  refine ⟨rfl, ?_⟩
  refine hC _ _ _ _ _ (bRvx_e (fun s1 k2 => ?_) (fun E s1 k2 => ?_)) h
  · show A (5, [.ref 11, .int x1, .int x2, .int x3, .float 0], [], s1)
    refine bGo hA 0 5 (7, .goto (7), 3, 6, 9, [], []) rfl rfl rfl ?_
    refine bGo hA 0 9 (14, .iconst (0), 1, 10, 0, [], [(0, 0)]) rfl rfl rfl ?_
    refine bGo hA 0 10 (15, .ireturn, 1, 0, 0, [1], []) rfl rfl rfl ?_
    exact k2
  · exact k2

theorem sg329_0 {lvl : Nat} {C : bCall} {Q : bPost} {A : bPt → Prop} (hC : bMono C) (hA : bClosed lvl bm329 C Q A) {x1 : Int32} {x2 : Int32} {x3 : Int32} {x4 : Int32} {σ : bSt} 
  (h : (C 158 [.ref 11, .int x1, .int x2, .int x3, .int x4] σ (bRix (fun r3 s1 => Q (.inl (some (.int 0))) (bJ s1 154 (0 : Int32).toNatClampNeg (Int32.toInt64 r3))) (fun E s1 => (bRet [(0, 10, 11, 0), (0, 10, 14, 1), (0, 10, 17, 2)] 7 (fun _ _ => False) (fun h σ2 => A (h, [.ref 11, .int x1, .int x2, .int x3, .int x4, .ref 154, .float 0], [.float 0], σ2)) Q (.inr E) s1))))) : A (0, [.ref 11, .int x1, .int x2, .int x3, .int x4, .ref 154, .float 0], [], σ) := by
  refine bGo hA 0 0 (0, .aload 5, 2, 1, 0, [5], []) rfl rfl rfl ?_
  refine bGo hA 0 1 (2, .iconst (0), 1, 2, 0, [], [(0, 0)]) rfl rfl rfl ?_
  refine bGo hA 0 2 (3, .aload_n 0, 1, 3, 0, [0], []) rfl rfl rfl ?_
  refine bGo hA 0 3 (4, .iload_n 1, 1, 4, 0, [1], []) rfl rfl rfl ?_
  refine bGo hA 0 4 (5, .iload_n 2, 1, 5, 0, [2], []) rfl rfl rfl ?_
  refine bGo hA 0 5 (6, .iload_n 3, 1, 6, 0, [3], []) rfl rfl rfl ?_
  refine bGo hA 0 6 (7, .iload 4, 2, 7, 0, [4], []) rfl rfl rfl ?_
  refine bGo hA 0 7 (9, .invokevirtual 68, 3, 8, 0, [0, 11, 158, 4], []) rfl rfl rfl ?_
  refine ⟨rfl, ?_⟩
  refine hC _ _ _ _ _ (bRix_e (fun r3 s1 k2 => ?_) (fun E s1 k2 => ?_)) h
  · show A (8, [.ref 11, .int x1, .int x2, .int x3, .int x4, .ref 154, .float 0], [.int r3, .int 0, .ref 154], s1)
    refine bGo hA 0 8 (12, .i2l, 1, 9, 0, [], []) rfl rfl rfl ?_
    refine bGo hA 0 9 (13, .lastore, 1, 10, 0, [], []) rfl rfl rfl ?_
    refine ⟨rfl, (by unfold vp_in; decide : vp_in (0 : Int32) 1), by decide, ?_⟩
    refine bGo hA 0 10 (14, .goto (15), 3, 11, 20, [], []) rfl rfl rfl ?_
    refine bGo hA 1 4 (29, .iconst (0), 1, 21, 0, [], [(0, 0)]) rfl rfl rfl ?_
    refine bGo hA 1 5 (30, .ireturn, 1, 0, 0, [1], []) rfl rfl rfl ?_
    exact k2
  · exact k2

theorem sg330_0 {lvl : Nat} {C : bCall} {Q : bPost} {A : bPt → Prop} (hC : bMono C) (hA : bClosed lvl bm330 C Q A) {x1 : Int32} {x2 : Int32} {σ : bSt} 
  (h : (C 159 [.ref 11, .int x1, .int x2] σ (bRix (fun r3 s1 => Q (.inl (some (.int 0))) (bJ s1 154 (0 : Int32).toNatClampNeg (Int32.toInt64 r3))) (fun E s1 => (bRet [(0, 8, 9, 0), (0, 8, 12, 2)] 5 (fun _ _ => False) (fun h σ2 => A (h, [.ref 11, .int x1, .int x2, .ref 154, .float 0], [.float 0], σ2)) Q (.inr E) s1))))) : A (0, [.ref 11, .int x1, .int x2, .ref 154, .float 0], [], σ) := by
  refine bGo hA 0 0 (0, .aload_n 3, 1, 1, 0, [3], []) rfl rfl rfl ?_
  refine bGo hA 0 1 (1, .iconst (0), 1, 2, 0, [], [(0, 0)]) rfl rfl rfl ?_
  refine bGo hA 0 2 (2, .aload_n 0, 1, 3, 0, [0], []) rfl rfl rfl ?_
  refine bGo hA 0 3 (3, .iload_n 1, 1, 4, 0, [1], []) rfl rfl rfl ?_
  refine bGo hA 0 4 (4, .iload_n 2, 1, 5, 0, [2], []) rfl rfl rfl ?_
  refine bGo hA 0 5 (5, .invokevirtual 71, 3, 6, 0, [0, 11, 159, 2], []) rfl rfl rfl ?_
  refine ⟨rfl, ?_⟩
  refine hC _ _ _ _ _ (bRix_e (fun r3 s1 k2 => ?_) (fun E s1 k2 => ?_)) h
  · show A (6, [.ref 11, .int x1, .int x2, .ref 154, .float 0], [.int r3, .int 0, .ref 154], s1)
    refine bGo hA 0 6 (8, .i2l, 1, 7, 0, [], []) rfl rfl rfl ?_
    refine bGo hA 0 7 (9, .lastore, 1, 8, 0, [], []) rfl rfl rfl ?_
    refine ⟨rfl, (by unfold vp_in; decide : vp_in (0 : Int32) 1), by decide, ?_⟩
    refine bGo hA 0 8 (10, .goto (11), 3, 9, 15, [], []) rfl rfl rfl ?_
    refine bGo hA 0 15 (21, .iconst (0), 1, 16, 0, [], [(0, 0)]) rfl rfl rfl ?_
    refine bGo hA 1 0 (22, .ireturn, 1, 0, 0, [1], []) rfl rfl rfl ?_
    exact k2
  · exact k2

theorem sg331_0 {lvl : Nat} {C : bCall} {Q : bPost} {A : bPt → Prop} (hC : bMono C) (hA : bClosed lvl bm331 C Q A) {x1 : Int32} {x2 : Int32} {x3 : Int32} {σ : bSt} 
  (h : (C 160 [.ref 11, .int x1, .int x2, .int x3] σ (bRix (fun r3 s1 => Q (.inl (some (.int 0))) (bJ s1 154 (0 : Int32).toNatClampNeg (Int32.toInt64 r3))) (fun E s1 => (bRet [(0, 9, 10, 0), (0, 9, 13, 1), (0, 9, 16, 2)] 6 (fun _ _ => False) (fun h σ2 => A (h, [.ref 11, .int x1, .int x2, .int x3, .ref 154, .float 0], [.float 0], σ2)) Q (.inr E) s1))))) : A (0, [.ref 11, .int x1, .int x2, .int x3, .ref 154, .float 0], [], σ) := by
  refine bGo hA 0 0 (0, .aload 4, 2, 1, 0, [4], []) rfl rfl rfl ?_
  refine bGo hA 0 1 (2, .iconst (0), 1, 2, 0, [], [(0, 0)]) rfl rfl rfl ?_
  refine bGo hA 0 2 (3, .aload_n 0, 1, 3, 0, [0], []) rfl rfl rfl ?_
  refine bGo hA 0 3 (4, .iload_n 1, 1, 4, 0, [1], []) rfl rfl rfl ?_
  refine bGo hA 0 4 (5, .iload_n 2, 1, 5, 0, [2], []) rfl rfl rfl ?_
  refine bGo hA 0 5 (6, .iload_n 3, 1, 6, 0, [3], []) rfl rfl rfl ?_
  refine bGo hA 0 6 (7, .invokevirtual 74, 3, 7, 0, [0, 11, 160, 3], []) rfl rfl rfl ?_
  refine ⟨rfl, ?_⟩
  refine hC _ _ _ _ _ (bRix_e (fun r3 s1 k2 => ?_) (fun E s1 k2 => ?_)) h
  · show A (7, [.ref 11, .int x1, .int x2, .int x3, .ref 154, .float 0], [.int r3, .int 0, .ref 154], s1)
    refine bGo hA 0 7 (10, .i2l, 1, 8, 0, [], []) rfl rfl rfl ?_
    refine bGo hA 0 8 (11, .lastore, 1, 9, 0, [], []) rfl rfl rfl ?_
    refine ⟨rfl, (by unfold vp_in; decide : vp_in (0 : Int32) 1), by decide, ?_⟩
    refine bGo hA 0 9 (12, .goto (15), 3, 10, 19, [], []) rfl rfl rfl ?_
    refine bGo hA 1 3 (27, .iconst (0), 1, 20, 0, [], [(0, 0)]) rfl rfl rfl ?_
    refine bGo hA 1 4 (28, .ireturn, 1, 0, 0, [1], []) rfl rfl rfl ?_
    exact k2
  · exact k2

theorem sg332_0 {lvl : Nat} {C : bCall} {Q : bPost} {A : bPt → Prop} (hC : bMono C) (hA : bClosed lvl bm332 C Q A) {x1 : Int32} {x2 : Int32} {σ : bSt} 
  (h : (C 161 [.ref 11, .int x1, .int x2] σ (bRix (fun r3 s1 => Q (.inl (some (.int 0))) (bJ s1 154 (0 : Int32).toNatClampNeg (Int32.toInt64 r3))) (fun E s1 => (bRet [(0, 8, 9, 0), (0, 8, 12, 1), (0, 8, 15, 2)] 5 (fun _ _ => False) (fun h σ2 => A (h, [.ref 11, .int x1, .int x2, .ref 154, .float 0], [.float 0], σ2)) Q (.inr E) s1))))) : A (0, [.ref 11, .int x1, .int x2, .ref 154, .float 0], [], σ) := by
  refine bGo hA 0 0 (0, .aload_n 3, 1, 1, 0, [3], []) rfl rfl rfl ?_
  refine bGo hA 0 1 (1, .iconst (0), 1, 2, 0, [], [(0, 0)]) rfl rfl rfl ?_
  refine bGo hA 0 2 (2, .aload_n 0, 1, 3, 0, [0], []) rfl rfl rfl ?_
  refine bGo hA 0 3 (3, .iload_n 1, 1, 4, 0, [1], []) rfl rfl rfl ?_
  refine bGo hA 0 4 (4, .iload_n 2, 1, 5, 0, [2], []) rfl rfl rfl ?_
  refine bGo hA 0 5 (5, .invokevirtual 78, 3, 6, 0, [0, 11, 161, 2], []) rfl rfl rfl ?_
  refine ⟨rfl, ?_⟩
  refine hC _ _ _ _ _ (bRix_e (fun r3 s1 k2 => ?_) (fun E s1 k2 => ?_)) h
  · show A (6, [.ref 11, .int x1, .int x2, .ref 154, .float 0], [.int r3, .int 0, .ref 154], s1)
    refine bGo hA 0 6 (8, .i2l, 1, 7, 0, [], []) rfl rfl rfl ?_
    refine bGo hA 0 7 (9, .lastore, 1, 8, 0, [], []) rfl rfl rfl ?_
    refine ⟨rfl, (by unfold vp_in; decide : vp_in (0 : Int32) 1), by decide, ?_⟩
    refine bGo hA 0 8 (10, .goto (15), 3, 9, 18, [], []) rfl rfl rfl ?_
    refine bGo hA 1 2 (25, .iconst (0), 1, 19, 0, [], [(0, 0)]) rfl rfl rfl ?_
    refine bGo hA 1 3 (26, .ireturn, 1, 0, 0, [1], []) rfl rfl rfl ?_
    exact k2
  · exact k2

theorem sg333_0 {lvl : Nat} {C : bCall} {Q : bPost} {A : bPt → Prop} (hC : bMono C) (hA : bClosed lvl bm333 C Q A) {x1 : Int32} {σ : bSt} 
  (h : (C 162 [.ref 11, .int x1] σ (bRix (fun r3 s1 => Q (.inl (some (.int 0))) (bJ s1 154 (0 : Int32).toNatClampNeg (Int32.toInt64 r3))) (fun E s1 => (bRet [(0, 7, 8, 0), (0, 7, 11, 2)] 4 (fun _ _ => False) (fun h σ2 => A (h, [.ref 11, .int x1, .ref 154, .float 0], [.float 0], σ2)) Q (.inr E) s1))))) : A (0, [.ref 11, .int x1, .ref 154, .float 0], [], σ) := by
  refine bGo hA 0 0 (0, .aload_n 2, 1, 1, 0, [2], []) rfl rfl rfl ?_
  refine bGo hA 0 1 (1, .iconst (0), 1, 2, 0, [], [(0, 0)]) rfl rfl rfl ?_
  refine bGo hA 0 2 (2, .aload_n 0, 1, 3, 0, [0], []) rfl rfl rfl ?_
  refine bGo hA 0 3 (3, .iload_n 1, 1, 4, 0, [1], []) rfl rfl rfl ?_
  refine bGo hA 0 4 (4, .invokevirtual 81, 3, 5, 0, [0, 11, 162, 1], []) rfl rfl rfl ?_
  refine ⟨rfl, ?_⟩
  refine hC _ _ _ _ _ (bRix_e (fun r3 s1 k2 => ?_) (fun E s1 k2 => ?_)) h
  · show A (5, [.ref 11, .int x1, .ref 154, .float 0], [.int r3, .int 0, .ref 154], s1)
    refine bGo hA 0 5 (7, .i2l, 1, 6, 0, [], []) rfl rfl rfl ?_
    refine bGo hA 0 6 (8, .lastore, 1, 7, 0, [], []) rfl rfl rfl ?_
    refine ⟨rfl, (by unfold vp_in; decide : vp_in (0 : Int32) 1), by decide, ?_⟩
    refine bGo hA 0 7 (9, .goto (9), 3, 8, 14, [], []) rfl rfl rfl ?_
    refine bGo hA 0 14 (18, .iconst (0), 1, 15, 0, [], [(0, 0)]) rfl rfl rfl ?_
    refine bGo hA 0 15 (19, .ireturn, 1, 0, 0, [1], []) rfl rfl rfl ?_
    exact k2
  · exact k2

theorem sg334_0 {lvl : Nat} {C : bCall} {Q : bPost} {A : bPt → Prop} (hC : bMono C) (hA : bClosed lvl bm334 C Q A) {x1 : Int32} {x2 : Int32} {σ : bSt} 
  (h : (C 163 [.ref 11, .int x1, .int x2] σ (bRix (fun r3 s1 => Q (.inl (some (.int 0))) (bJ s1 154 (0 : Int32).toNatClampNeg (Int32.toInt64 r3))) (fun E s1 => (bRet [(0, 8, 9, 0), (0, 8, 12, 1)] 5 (fun _ _ => False) (fun h σ2 => A (h, [.ref 11, .int x1, .int x2, .ref 154, .float 0], [.float 0], σ2)) Q (.inr E) s1))))) : A (0, [.ref 11, .int x1, .int x2, .ref 154, .float 0], [], σ) := by
  refine bGo hA 0 0 (0, .aload_n 3, 1, 1, 0, [3], []) rfl rfl rfl ?_
  refine bGo hA 0 1 (1, .iconst (0), 1, 2, 0, [], [(0, 0)]) rfl rfl rfl ?_
  refine bGo hA 0 2 (2, .aload_n 0, 1, 3, 0, [0], []) rfl rfl rfl ?_
  refine bGo hA 0 3 (3, .iload_n 1, 1, 4, 0, [1], []) rfl rfl rfl ?_
  refine bGo hA 0 4 (4, .iload_n 2, 1, 5, 0, [2], []) rfl rfl rfl ?_
  refine bGo hA 0 5 (5, .invokevirtual 84, 3, 6, 0, [0, 11, 163, 2], []) rfl rfl rfl ?_
  refine ⟨rfl, ?_⟩
  refine hC _ _ _ _ _ (bRix_e (fun r3 s1 k2 => ?_) (fun E s1 k2 => ?_)) h
  · show A (6, [.ref 11, .int x1, .int x2, .ref 154, .float 0], [.int r3, .int 0, .ref 154], s1)
    refine bGo hA 0 6 (8, .i2l, 1, 7, 0, [], []) rfl rfl rfl ?_
    refine bGo hA 0 7 (9, .lastore, 1, 8, 0, [], []) rfl rfl rfl ?_
    refine ⟨rfl, (by unfold vp_in; decide : vp_in (0 : Int32) 1), by decide, ?_⟩
    refine bGo hA 0 8 (10, .goto (11), 3, 9, 15, [], []) rfl rfl rfl ?_
    refine bGo hA 0 15 (21, .iconst (0), 1, 16, 0, [], [(0, 0)]) rfl rfl rfl ?_
    refine bGo hA 1 0 (22, .ireturn, 1, 0, 0, [1], []) rfl rfl rfl ?_
    exact k2
  · exact k2

theorem sg335_0 {lvl : Nat} {C : bCall} {Q : bPost} {A : bPt → Prop} (hC : bMono C) (hA : bClosed lvl bm335 C Q A) {x1 : Int32} {x2 : Int32} {x3 : Int32} {σ : bSt} 
  (h : (C 164 [.ref 11, .int x1, .int x2, .int x3] σ (bRvx (fun s1 => Q (.inl (some (.int 0))) s1) (fun E s1 => (bRet [(0, 5, 6, 0), (0, 5, 9, 1)] 4 (fun _ _ => False) (fun h σ2 => A (h, [.ref 11, .int x1, .int x2, .int x3, .float 0], [.float 0], σ2)) Q (.inr E) s1))))) : A (0, [.ref 11, .int x1, .int x2, .int x3, .float 0], [], σ) := by
  refine bGo hA 0 0 (0, .aload_n 0, 1, 1, 0, [0], []) rfl rfl rfl ?_
  refine bGo hA 0 1 (1, .iload_n 1, 1, 2, 0, [1], []) rfl rfl rfl ?_
  refine bGo hA 0 2 (2, .iload_n 2, 1, 3, 0, [2], []) rfl rfl rfl ?_
  refine bGo hA 0 3 (3, .iload_n 3, 1, 4, 0, [3], []) rfl rfl rfl ?_
  refine bGo hA 0 4 (4, .invokevirtual 87, 3, 5, 0, [0, 11, 164, 3], []) rfl rfl rfl ?_
  refine ⟨rfl, ?_⟩
  refine hC _ _ _ _ _ (bRvx_e (fun s1 k2 => ?_) (fun E s1 k2 => ?_)) h
  · show A (5, [.ref 11, .int x1, .int x2, .int x3, .float 0], [], s1)
    refine bGo hA 0 5 (7, .goto (11), 3, 6, 12, [], []) rfl rfl rfl ?_
    refine bGo hA 0 12 (18, .iconst (0), 1, 13, 0, [], [(0, 0)]) rfl rfl rfl ?_
    refine bGo hA 0 13 (19, .ireturn, 1, 0, 0, [1], []) rfl rfl rfl ?_
    exact k2
  · exact k2

theorem sg336_0 {lvl : Nat} {C : bCall} {Q : bPost} {A : bPt → Prop} (hC : bMono C) (hA : bClosed lvl bm336 C Q A) {x1 : Int32} {x2 : Int32} {x3 : Int32} {x4 : Int32} {σ : bSt} 
  (h : (C 165 [.ref 11, .int x1, .int x2, .int x3, .int x4] σ (bRvx (fun s1 => Q (.inl (some (.int 0))) s1) (fun E s1 => (bRet [(0, 6, 7, 0), (0, 6, 10, 1)] 5 (fun _ _ => False) (fun h σ2 => A (h, [.ref 11, .int x1, .int x2, .int x3, .int x4, .float 0], [.float 0], σ2)) Q (.inr E) s1))))) : A (0, [.ref 11, .int x1, .int x2, .int x3, .int x4, .float 0], [], σ) := by
  refine bGo hA 0 0 (0, .aload_n 0, 1, 1, 0, [0], []) rfl rfl rfl ?_
  refine bGo hA 0 1 (1, .iload_n 1, 1, 2, 0, [1], []) rfl rfl rfl ?_
  refine bGo hA 0 2 (2, .iload_n 2, 1, 3, 0, [2], []) rfl rfl rfl ?_
  refine bGo hA 0 3 (3, .iload_n 3, 1, 4, 0, [3], []) rfl rfl rfl ?_
  refine bGo hA 0 4 (4, .iload 4, 2, 5, 0, [4], []) rfl rfl rfl ?_
  refine bGo hA 0 5 (6, .invokevirtual 90, 3, 6, 0, [0, 11, 165, 4], []) rfl rfl rfl ?_
  refine ⟨rfl, ?_⟩
  refine hC _ _ _ _ _ (bRvx_e (fun s1 k2 => ?_) (fun E s1 k2 => ?_)) h
  · show A (6, [.ref 11, .int x1, .int x2, .int x3, .int x4, .float 0], [], s1)
    refine bGo hA 0 6 (9, .goto (11), 3, 7, 13, [], []) rfl rfl rfl ?_
    refine bGo hA 0 13 (20, .iconst (0), 1, 14, 0, [], [(0, 0)]) rfl rfl rfl ?_
    refine bGo hA 0 14 (21, .ireturn, 1, 0, 0, [1], []) rfl rfl rfl ?_
    exact k2
  · exact k2

theorem sg337_0 {lvl : Nat} {C : bCall} {Q : bPost} {A : bPt → Prop} (hC : bMono C) (hA : bClosed lvl bm337 C Q A) {x1 : Int32} {x2 : Int32} {x3 : Int32} {σ : bSt} 
  (h : (C 166 [.ref 11, .int x1, .int x2, .int x3] σ (bRvx (fun s1 => Q (.inl (some (.int 0))) s1) (fun E s1 => (bRet [(0, 5, 6, 0), (0, 5, 9, 1)] 4 (fun _ _ => False) (fun h σ2 => A (h, [.ref 11, .int x1, .int x2, .int x3, .float 0], [.float 0], σ2)) Q (.inr E) s1))))) : A (0, [.ref 11, .int x1, .int x2, .int x3, .float 0], [], σ) := by
  refine bGo hA 0 0 (0, .aload_n 0, 1, 1, 0, [0], []) rfl rfl rfl ?_
  refine bGo hA 0 1 (1, .iload_n 1, 1, 2, 0, [1], []) rfl rfl rfl ?_
  refine bGo hA 0 2 (2, .iload_n 2, 1, 3, 0, [2], []) rfl rfl rfl ?_
  refine bGo hA 0 3 (3, .iload_n 3, 1, 4, 0, [3], []) rfl rfl rfl ?_
  refine bGo hA 0 4 (4, .invokevirtual 94, 3, 5, 0, [0, 11, 166, 3], []) rfl rfl rfl ?_
  refine ⟨rfl, ?_⟩
  refine hC _ _ _ _ _ (bRvx_e (fun s1 k2 => ?_) (fun E s1 k2 => ?_)) h
  · show A (5, [.ref 11, .int x1, .int x2, .int x3, .float 0], [], s1)
    refine bGo hA 0 5 (7, .goto (11), 3, 6, 12, [], []) rfl rfl rfl ?_
    refine bGo hA 0 12 (18, .iconst (0), 1, 13, 0, [], [(0, 0)]) rfl rfl rfl ?_
    refine bGo hA 0 13 (19, .ireturn, 1, 0, 0, [1], []) rfl rfl rfl ?_
    exact k2
  · exact k2

theorem sg338_0 {lvl : Nat} {C : bCall} {Q : bPost} {A : bPt → Prop} (hC : bMono C) (hA : bClosed lvl bm338 C Q A) {x1 : Int32} {x2 : Int32} {σ : bSt} 
  (h : (C 167 [.ref 11, .int x1, .int x2] σ (bRix (fun r3 s1 => Q (.inl (some (.int 0))) (bJ s1 154 (0 : Int32).toNatClampNeg (Int32.toInt64 r3))) (fun E s1 => (bRet [(0, 8, 9, 0)] 5 (fun _ _ => False) (fun h σ2 => A (h, [.ref 11, .int x1, .int x2, .ref 154, .float 0], [.float 0], σ2)) Q (.inr E) s1))))) : A (0, [.ref 11, .int x1, .int x2, .ref 154, .float 0], [], σ) := by
  refine bGo hA 0 0 (0, .aload_n 3, 1, 1, 0, [3], []) rfl rfl rfl ?_
  refine bGo hA 0 1 (1, .iconst (0), 1, 2, 0, [], [(0, 0)]) rfl rfl rfl ?_
  refine bGo hA 0 2 (2, .aload_n 0, 1, 3, 0, [0], []) rfl rfl rfl ?_
  refine bGo hA 0 3 (3, .iload_n 1, 1, 4, 0, [1], []) rfl rfl rfl ?_
  refine bGo hA 0 4 (4, .iload_n 2, 1, 5, 0, [2], []) rfl rfl rfl ?_
  refine bGo hA 0 5 (5, .invokevirtual 97, 3, 6, 0, [0, 11, 167, 2], []) rfl rfl rfl ?_
  refine ⟨rfl, ?_⟩
  refine hC _ _ _ _ _ (bRix_e (fun r3 s1 k2 => ?_) (fun E s1 k2 => ?_)) h
  · show A (6, [.ref 11, .int x1, .int x2, .ref 154, .float 0], [.int r3, .int 0, .ref 154], s1)
    refine bGo hA 0 6 (8, .i2l, 1, 7, 0, [], []) rfl rfl rfl ?_
    refine bGo hA 0 7 (9, .lastore, 1, 8, 0, [], []) rfl rfl rfl ?_
    refine ⟨rfl, (by unfold vp_in; decide : vp_in (0 : Int32) 1), by decide, ?_⟩
    refine bGo hA 0 8 (10, .goto (7), 3, 9, 12, [], []) rfl rfl rfl ?_
    refine bGo hA 0 12 (17, .iconst (0), 1, 13, 0, [], [(0, 0)]) rfl rfl rfl ?_
    refine bGo hA 0 13 (18, .ireturn, 1, 0, 0, [1], []) rfl rfl rfl ?_
    exact k2
  · exact k2

theorem sg339_0 {lvl : Nat} {C : bCall} {Q : bPost} {A : bPt → Prop} (hC : bMono C) (hA : bClosed lvl bm339 C Q A) {x1 : Int32} {x2 : Int32} {σ : bSt} 
  (h : (C 168 [.ref 11, .int x1, .int x2] σ (bRix (fun r3 s1 => Q (.inl (some (.int 0))) (bJ s1 154 (0 : Int32).toNatClampNeg (Int32.toInt64 r3))) (fun E s1 => (bRet [(0, 8, 9, 0), (0, 8, 12, 1)] 5 (fun _ _ => False) (fun h σ2 => A (h, [.ref 11, .int x1, .int x2, .ref 154, .float 0], [.float 0], σ2)) Q (.inr E) s1))))) : A (0, [.ref 11, .int x1, .int x2, .ref 154, .float 0], [], σ) := by
  refine bGo hA 0 0 (0, .aload_n 3, 1, 1, 0, [3], []) rfl rfl rfl ?_
  refine bGo hA 0 1 (1, .iconst (0), 1, 2, 0, [], [(0, 0)]) rfl rfl rfl ?_
  refine bGo hA 0 2 (2, .aload_n 0, 1, 3, 0, [0], []) rfl rfl rfl ?_
  refine bGo hA 0 3 (3, .iload_n 1, 1, 4, 0, [1], []) rfl rfl rfl ?_
  refine bGo hA 0 4 (4, .iload_n 2, 1, 5, 0, [2], []) rfl rfl rfl ?_
  refine bGo hA 0 5 (5, .invokevirtual 100, 3, 6, 0, [0, 11, 168, 2], []) rfl rfl rfl ?_
  refine ⟨rfl, ?_⟩
  refine hC _ _ _ _ _ (bRix_e (fun r3 s1 k2 => ?_) (fun E s1 k2 => ?_)) h
  · show A (6, [.ref 11, .int x1, .int x2, .ref 154, .float 0], [.int r3, .int 0, .ref 154], s1)
    refine bGo hA 0 6 (8, .i2l, 1, 7, 0, [], []) rfl rfl rfl ?_
    refine bGo hA 0 7 (9, .lastore, 1, 8, 0, [], []) rfl rfl rfl ?_
    refine ⟨rfl, (by unfold vp_in; decide : vp_in (0 : Int32) 1), by decide, ?_⟩
    refine bGo hA 0 8 (10, .goto (11), 3, 9, 15, [], []) rfl rfl rfl ?_
    refine bGo hA 0 15 (21, .iconst (0), 1, 16, 0, [], [(0, 0)]) rfl rfl rfl ?_
    refine bGo hA 1 0 (22, .ireturn, 1, 0, 0, [1], []) rfl rfl rfl ?_
    exact k2
  · exact k2

theorem sg340_0 {lvl : Nat} {C : bCall} {Q : bPost} {A : bPt → Prop} (hC : bMono C) (hA : bClosed lvl bm340 C Q A) {x1 : Int32} {x2 : Int32} {σ : bSt} 
  (h : (C 170 [.ref 11, .int x1, .int x2] σ (bRix (fun r3 s1 => ((r3 = 0 → Q (.inl (some (.int 0))) (bJ s1 154 (0 : Int32).toNatClampNeg (Int64.ofNat 0))) ∧ (¬ r3 = 0 → Q (.inl (some (.int 0))) (bJ s1 154 (0 : Int32).toNatClampNeg (Int64.ofNat 1))))) (fun E s1 => (bRet [(0, 11, 12, 1)] 5 (fun _ _ => False) (fun h σ2 => A (h, [.ref 11, .int x1, .int x2, .ref 154, .float 0], [.float 0], σ2)) Q (.inr E) s1))))) : A (0, [.ref 11, .int x1, .int x2, .ref 154, .float 0], [], σ) := by
  refine bGo hA 0 0 (0, .aload_n 3, 1, 1, 0, [3], []) rfl rfl rfl ?_
  refine bGo hA 0 1 (1, .iconst (0), 1, 2, 0, [], [(0, 0)]) rfl rfl rfl ?_
  refine bGo hA 0 2 (2, .aload_n 0, 1, 3, 0, [0], []) rfl rfl rfl ?_
  refine bGo hA 0 3 (3, .iload_n 1, 1, 4, 0, [1], []) rfl rfl rfl ?_
  refine bGo hA 0 4 (4, .iload_n 2, 1, 5, 0, [2], []) rfl rfl rfl ?_
  refine bGo hA 0 5 (5, .invokevirtual 103, 3, 6, 0, [0, 11, 170, 2], []) rfl rfl rfl ?_
  refine ⟨rfl, ?_⟩
  refine hC _ _ _ _ _ (bRix_e (fun r3 s1 k2 => ?_) (fun E s1 k2 => ?_)) h
  · show A (6, [.ref 11, .int x1, .int x2, .ref 154, .float 0], [.int r3, .int 0, .ref 154], s1)
    refine bGo hA 0 6 (8, .ifCond .eq (7), 3, 7, 9, [], []) rfl rfl rfl ?_
    refine ⟨fun c4 => ?_, fun c4 => ?_⟩
    · refine bGo hA 0 9 (15, .lconst 0, 1, 10, 0, [0], []) rfl rfl rfl ?_
      refine bGo hA 0 10 (16, .lastore, 1, 11, 0, [], []) rfl rfl rfl ?_
      refine ⟨rfl, (by unfold vp_in; decide : vp_in (0 : Int32) 1), by decide, ?_⟩
      refine bGo hA 0 11 (17, .goto (7), 3, 12, 15, [], []) rfl rfl rfl ?_
      refine bGo hA 0 15 (24, .iconst (0), 1, 16, 0, [], [(0, 0)]) rfl rfl rfl ?_
      refine bGo hA 1 0 (25, .ireturn, 1, 0, 0, [1], []) rfl rfl rfl ?_
      exact (k2.1 c4)
    · refine bGo hA 0 7 (11, .lconst 1, 1, 8, 0, [1], []) rfl rfl rfl ?_
      refine bGo hA 0 8 (12, .goto (4), 3, 9, 10, [], []) rfl rfl rfl ?_
      refine bGo hA 0 10 (16, .lastore, 1, 11, 0, [], []) rfl rfl rfl ?_
      refine ⟨rfl, (by unfold vp_in; decide : vp_in (0 : Int32) 1), by decide, ?_⟩
      refine bGo hA 0 11 (17, .goto (7), 3, 12, 15, [], []) rfl rfl rfl ?_
      refine bGo hA 0 15 (24, .iconst (0), 1, 16, 0, [], [(0, 0)]) rfl rfl rfl ?_
      refine bGo hA 1 0 (25, .ireturn, 1, 0, 0, [1], []) rfl rfl rfl ?_
      exact (k2.2 c4)
  · exact k2

theorem sg341_0 {lvl : Nat} {C : bCall} {Q : bPost} {A : bPt → Prop} (hC : bMono C) (hA : bClosed lvl bm341 C Q A) {x1 : Int32} {σ : bSt} 
  (h : (C 171 [.ref 11, .int x1] σ (bRix (fun r3 s1 => ((r3 = 0 → Q (.inl (some (.int 0))) (bJ s1 154 (0 : Int32).toNatClampNeg (Int64.ofNat 0))) ∧ (¬ r3 = 0 → Q (.inl (some (.int 0))) (bJ s1 154 (0 : Int32).toNatClampNeg (Int64.ofNat 1))))) (fun E s1 => (bRet [(0, 10, 11, 1)] 4 (fun _ _ => False) (fun h σ2 => A (h, [.ref 11, .int x1, .ref 154, .float 0], [.float 0], σ2)) Q (.inr E) s1))))) : A (0, [.ref 11, .int x1, .ref 154, .float 0], [], σ) := by
  refine bGo hA 0 0 (0, .aload_n 2, 1, 1, 0, [2], []) rfl rfl rfl ?_
  refine bGo hA 0 1 (1, .iconst (0), 1, 2, 0, [], [(0, 0)]) rfl rfl rfl ?_
  refine bGo hA 0 2 (2, .aload_n 0, 1, 3, 0, [0], []) rfl rfl rfl ?_
  refine bGo hA 0 3 (3, .iload_n 1, 1, 4, 0, [1], []) rfl rfl rfl ?_
  refine bGo hA 0 4 (4, .invokevirtual 107, 3, 5, 0, [0, 11, 171, 1], []) rfl rfl rfl ?_
  refine ⟨rfl, ?_⟩
  refine hC _ _ _ _ _ (bRix_e (fun r3 s1 k2 => ?_) (fun E s1 k2 => ?_)) h
  · show A (5, [.ref 11, .int x1, .ref 154, .float 0], [.int r3, .int 0, .ref 154], s1)
    refine bGo hA 0 5 (7, .ifCond .eq (7), 3, 6, 8, [], []) rfl rfl rfl ?_
    refine ⟨fun c4 => ?_, fun c4 => ?_⟩
    · refine bGo hA 0 8 (14, .lconst 0, 1, 9, 0, [0], []) rfl rfl rfl ?_
      refine bGo hA 0 9 (15, .lastore, 1, 10, 0, [], []) rfl rfl rfl ?_
      refine ⟨rfl, (by unfold vp_in; decide : vp_in (0 : Int32) 1), by decide, ?_⟩
      refine bGo hA 0 10 (16, .goto (6), 3, 11, 14, [], []) rfl rfl rfl ?_
      refine bGo hA 0 14 (22, .iconst (0), 1, 15, 0, [], [(0, 0)]) rfl rfl rfl ?_
      refine bGo hA 0 15 (23, .ireturn, 1, 0, 0, [1], []) rfl rfl rfl ?_
      exact (k2.1 c4)
    · refine bGo hA 0 6 (10, .lconst 1, 1, 7, 0, [1], []) rfl rfl rfl ?_
      refine bGo hA 0 7 (11, .goto (4), 3, 8, 9, [], []) rfl rfl rfl ?_
      refine bGo hA 0 9 (15, .lastore, 1, 10, 0, [], []) rfl rfl rfl ?_
      refine ⟨rfl, (by unfold vp_in; decide : vp_in (0 : Int32) 1), by decide, ?_⟩
      refine bGo hA 0 10 (16, .goto (6), 3, 11, 14, [], []) rfl rfl rfl ?_
      refine bGo hA 0 14 (22, .iconst (0), 1, 15, 0, [], [(0, 0)]) rfl rfl rfl ?_
      refine bGo hA 0 15 (23, .ireturn, 1, 0, 0, [1], []) rfl rfl rfl ?_
      exact (k2.2 c4)
  · exact k2

theorem sg342_0 {lvl : Nat} {C : bCall} {Q : bPost} {A : bPt → Prop} (hC : bMono C) (hA : bClosed lvl bm342 C Q A) {x1 : Int32} {x2 : Int32} {x3 : Int32} {σ : bSt} 
  (h : (C 174 [.ref 11, .int x1, .int x2, .int x3] σ (bRix (fun r3 s1 => Q (.inl (some (.int 0))) (bJ s1 154 (0 : Int32).toNatClampNeg (Int32.toInt64 r3))) (fun E s1 => (bRet [(0, 9, 10, 0), (0, 9, 13, 1), (0, 9, 16, 2)] 6 (fun _ _ => False) (fun h σ2 => A (h, [.ref 11, .int x1, .int x2, .int x3, .ref 154, .float 0], [.float 0], σ2)) Q (.inr E) s1))))) : A (0, [.ref 11, .int x1, .int x2, .int x3, .ref 154, .float 0], [], σ) := by
  refine bGo hA 0 0 (0, .aload 4, 2, 1, 0, [4], []) rfl rfl rfl ?_
  refine bGo hA 0 1 (2, .iconst (0), 1, 2, 0, [], [(0, 0)]) rfl rfl rfl ?_
  refine bGo hA 0 2 (3, .aload_n 0, 1, 3, 0, [0], []) rfl rfl rfl ?_
  refine bGo hA 0 3 (4, .iload_n 1, 1, 4, 0, [1], []) rfl rfl rfl ?_
  refine bGo hA 0 4 (5, .iload_n 2, 1, 5, 0, [2], []) rfl rfl rfl ?_
  refine bGo hA 0 5 (6, .iload_n 3, 1, 6, 0, [3], []) rfl rfl rfl ?_
  refine bGo hA 0 6 (7, .invokevirtual 111, 3, 7, 0, [0, 11, 174, 3], []) rfl rfl rfl ?_
  refine ⟨rfl, ?_⟩
  refine hC _ _ _ _ _ (bRix_e (fun r3 s1 k2 => ?_) (fun E s1 k2 => ?_)) h
  · show A (7, [.ref 11, .int x1, .int x2, .int x3, .ref 154, .float 0], [.int r3, .int 0, .ref 154], s1)
    refine bGo hA 0 7 (10, .i2l, 1, 8, 0, [], []) rfl rfl rfl ?_
    refine bGo hA 0 8 (11, .lastore, 1, 9, 0, [], []) rfl rfl rfl ?_
    refine ⟨rfl, (by unfold vp_in; decide : vp_in (0 : Int32) 1), by decide, ?_⟩
    refine bGo hA 0 9 (12, .goto (15), 3, 10, 19, [], []) rfl rfl rfl ?_
    refine bGo hA 1 3 (27, .iconst (0), 1, 20, 0, [], [(0, 0)]) rfl rfl rfl ?_
    refine bGo hA 1 4 (28, .ireturn, 1, 0, 0, [1], []) rfl rfl rfl ?_
    exact k2
  · exact k2

theorem sg343_0 {lvl : Nat} {C : bCall} {Q : bPost} {A : bPt → Prop} (hC : bMono C) (hA : bClosed lvl bm343 C Q A) {x1 : Int32} {σ : bSt} 
  (h : (C 175 [.ref 11, .int x1] σ (bRix (fun r3 s1 => Q (.inl (some (.int 0))) (bJ s1 154 (0 : Int32).toNatClampNeg (Int32.toInt64 r3))) (fun E s1 => (bRet [(0, 7, 8, 1)] 4 (fun _ _ => False) (fun h σ2 => A (h, [.ref 11, .int x1, .ref 154, .float 0], [.float 0], σ2)) Q (.inr E) s1))))) : A (0, [.ref 11, .int x1, .ref 154, .float 0], [], σ) := by
  refine bGo hA 0 0 (0, .aload_n 2, 1, 1, 0, [2], []) rfl rfl rfl ?_
  refine bGo hA 0 1 (1, .iconst (0), 1, 2, 0, [], [(0, 0)]) rfl rfl rfl ?_
  refine bGo hA 0 2 (2, .aload_n 0, 1, 3, 0, [0], []) rfl rfl rfl ?_
  refine bGo hA 0 3 (3, .iload_n 1, 1, 4, 0, [1], []) rfl rfl rfl ?_
  refine bGo hA 0 4 (4, .invokevirtual 115, 3, 5, 0, [0, 11, 175, 1], []) rfl rfl rfl ?_
  refine ⟨rfl, ?_⟩
  refine hC _ _ _ _ _ (bRix_e (fun r3 s1 k2 => ?_) (fun E s1 k2 => ?_)) h
  · show A (5, [.ref 11, .int x1, .ref 154, .float 0], [.int r3, .int 0, .ref 154], s1)
    refine bGo hA 0 5 (7, .i2l, 1, 6, 0, [], []) rfl rfl rfl ?_
    refine bGo hA 0 6 (8, .lastore, 1, 7, 0, [], []) rfl rfl rfl ?_
    refine ⟨rfl, (by unfold vp_in; decide : vp_in (0 : Int32) 1), by decide, ?_⟩
    refine bGo hA 0 7 (9, .goto (6), 3, 8, 11, [], []) rfl rfl rfl ?_
    refine bGo hA 0 11 (15, .iconst (0), 1, 12, 0, [], [(0, 0)]) rfl rfl rfl ?_
    refine bGo hA 0 12 (16, .ireturn, 1, 0, 0, [1], []) rfl rfl rfl ?_
    exact k2
  · exact k2

theorem sg344_0 {lvl : Nat} {C : bCall} {Q : bPost} {A : bPt → Prop} (hC : bMono C) (hA : bClosed lvl bm344 C Q A) {x1 : Int32} {σ : bSt} 
  (h : (C 177 [.ref 11, .int x1] σ (bRix (fun r3 s1 => Q (.inl (some (.int 0))) (bJ s1 154 (0 : Int32).toNatClampNeg (Int32.toInt64 r3))) (fun E s1 => (bRet [(0, 7, 8, 0)] 4 (fun _ _ => False) (fun h σ2 => A (h, [.ref 11, .int x1, .ref 154, .float 0], [.float 0], σ2)) Q (.inr E) s1))))) : A (0, [.ref 11, .int x1, .ref 154, .float 0], [], σ) := by
  refine bGo hA 0 0 (0, .aload_n 2, 1, 1, 0, [2], []) rfl rfl rfl ?_
  refine bGo hA 0 1 (1, .iconst (0), 1, 2, 0, [], [(0, 0)]) rfl rfl rfl ?_
  refine bGo hA 0 2 (2, .aload_n 0, 1, 3, 0, [0], []) rfl rfl rfl ?_
  refine bGo hA 0 3 (3, .iload_n 1, 1, 4, 0, [1], []) rfl rfl rfl ?_
  refine bGo hA 0 4 (4, .invokevirtual 118, 3, 5, 0, [0, 11, 177, 1], []) rfl rfl rfl ?_
  refine ⟨rfl, ?_⟩
  refine hC _ _ _ _ _ (bRix_e (fun r3 s1 k2 => ?_) (fun E s1 k2 => ?_)) h
  · show A (5, [.ref 11, .int x1, .ref 154, .float 0], [.int r3, .int 0, .ref 154], s1)
    refine bGo hA 0 5 (7, .i2l, 1, 6, 0, [], []) rfl rfl rfl ?_
    refine bGo hA 0 6 (8, .lastore, 1, 7, 0, [], []) rfl rfl rfl ?_
    refine ⟨rfl, (by unfold vp_in; decide : vp_in (0 : Int32) 1), by decide, ?_⟩
    refine bGo hA 0 7 (9, .goto (6), 3, 8, 11, [], []) rfl rfl rfl ?_
    refine bGo hA 0 11 (15, .iconst (0), 1, 12, 0, [], [(0, 0)]) rfl rfl rfl ?_
    refine bGo hA 0 12 (16, .ireturn, 1, 0, 0, [1], []) rfl rfl rfl ?_
    exact k2
  · exact k2

theorem sg345_0 {lvl : Nat} {C : bCall} {Q : bPost} {A : bPt → Prop} (hC : bMono C) (hA : bClosed lvl bm345 C Q A) {x1 : Int32} {σ : bSt} 
  (h : (C 179 [.ref 11, .int x1] σ (bRix (fun r3 s1 => Q (.inl (some (.int 0))) (bJ s1 154 (0 : Int32).toNatClampNeg (Int32.toInt64 r3))) (fun E s1 => (bRet [(0, 7, 8, 0)] 4 (fun _ _ => False) (fun h σ2 => A (h, [.ref 11, .int x1, .ref 154, .float 0], [.float 0], σ2)) Q (.inr E) s1))))) : A (0, [.ref 11, .int x1, .ref 154, .float 0], [], σ) := by
  refine bGo hA 0 0 (0, .aload_n 2, 1, 1, 0, [2], []) rfl rfl rfl ?_
  refine bGo hA 0 1 (1, .iconst (0), 1, 2, 0, [], [(0, 0)]) rfl rfl rfl ?_
  refine bGo hA 0 2 (2, .aload_n 0, 1, 3, 0, [0], []) rfl rfl rfl ?_
  refine bGo hA 0 3 (3, .iload_n 1, 1, 4, 0, [1], []) rfl rfl rfl ?_
  refine bGo hA 0 4 (4, .invokevirtual 121, 3, 5, 0, [0, 11, 179, 1], []) rfl rfl rfl ?_
  refine ⟨rfl, ?_⟩
  refine hC _ _ _ _ _ (bRix_e (fun r3 s1 k2 => ?_) (fun E s1 k2 => ?_)) h
  · show A (5, [.ref 11, .int x1, .ref 154, .float 0], [.int r3, .int 0, .ref 154], s1)
    refine bGo hA 0 5 (7, .i2l, 1, 6, 0, [], []) rfl rfl rfl ?_
    refine bGo hA 0 6 (8, .lastore, 1, 7, 0, [], []) rfl rfl rfl ?_
    refine ⟨rfl, (by unfold vp_in; decide : vp_in (0 : Int32) 1), by decide, ?_⟩
    refine bGo hA 0 7 (9, .goto (6), 3, 8, 11, [], []) rfl rfl rfl ?_
    refine bGo hA 0 11 (15, .iconst (0), 1, 12, 0, [], [(0, 0)]) rfl rfl rfl ?_
    refine bGo hA 0 12 (16, .ireturn, 1, 0, 0, [1], []) rfl rfl rfl ?_
    exact k2
  · exact k2

theorem sg346_0 {lvl : Nat} {C : bCall} {Q : bPost} {A : bPt → Prop} (hC : bMono C) (hA : bClosed lvl bm346 C Q A) {x1 : Int32} {x2 : Int32} {σ : bSt} 
  (h : (C 180 [.ref 11, .int x1, .int x2] σ (bRix (fun r3 s1 => Q (.inl (some (.int 0))) (bJ s1 154 (0 : Int32).toNatClampNeg (Int32.toInt64 r3))) (fun E s1 => (bRet [(0, 8, 9, 0)] 5 (fun _ _ => False) (fun h σ2 => A (h, [.ref 11, .int x1, .int x2, .ref 154, .float 0], [.float 0], σ2)) Q (.inr E) s1))))) : A (0, [.ref 11, .int x1, .int x2, .ref 154, .float 0], [], σ) := by
  refine bGo hA 0 0 (0, .aload_n 3, 1, 1, 0, [3], []) rfl rfl rfl ?_
  refine bGo hA 0 1 (1, .iconst (0), 1, 2, 0, [], [(0, 0)]) rfl rfl rfl ?_
  refine bGo hA 0 2 (2, .aload_n 0, 1, 3, 0, [0], []) rfl rfl rfl ?_
  refine bGo hA 0 3 (3, .iload_n 1, 1, 4, 0, [1], []) rfl rfl rfl ?_
  refine bGo hA 0 4 (4, .iload_n 2, 1, 5, 0, [2], []) rfl rfl rfl ?_
  refine bGo hA 0 5 (5, .invokevirtual 124, 3, 6, 0, [0, 11, 180, 2], []) rfl rfl rfl ?_
  refine ⟨rfl, ?_⟩
  refine hC _ _ _ _ _ (bRix_e (fun r3 s1 k2 => ?_) (fun E s1 k2 => ?_)) h
  · show A (6, [.ref 11, .int x1, .int x2, .ref 154, .float 0], [.int r3, .int 0, .ref 154], s1)
    refine bGo hA 0 6 (8, .i2l, 1, 7, 0, [], []) rfl rfl rfl ?_
    refine bGo hA 0 7 (9, .lastore, 1, 8, 0, [], []) rfl rfl rfl ?_
    refine ⟨rfl, (by unfold vp_in; decide : vp_in (0 : Int32) 1), by decide, ?_⟩
    refine bGo hA 0 8 (10, .goto (7), 3, 9, 12, [], []) rfl rfl rfl ?_
    refine bGo hA 0 12 (17, .iconst (0), 1, 13, 0, [], [(0, 0)]) rfl rfl rfl ?_
    refine bGo hA 0 13 (18, .ireturn, 1, 0, 0, [1], []) rfl rfl rfl ?_
    exact k2
  · exact k2

theorem sg347_0 {lvl : Nat} {C : bCall} {Q : bPost} {A : bPt → Prop} (hC : bMono C) (hA : bClosed lvl bm347 C Q A) {x1 : Int32} {x2 : Int32} {σ : bSt} 
  (h : (C 181 [.ref 11, .int x1, .int x2] σ (bRix (fun r3 s1 => Q (.inl (some (.int 0))) (bJ s1 154 (0 : Int32).toNatClampNeg (Int32.toInt64 r3))) (fun E s1 => (bRet [(0, 8, 9, 0), (0, 8, 12, 1)] 5 (fun _ _ => False) (fun h σ2 => A (h, [.ref 11, .int x1, .int x2, .ref 154, .float 0], [.float 0], σ2)) Q (.inr E) s1))))) : A (0, [.ref 11, .int x1, .int x2, .ref 154, .float 0], [], σ) := by
  refine bGo hA 0 0 (0, .aload_n 3, 1, 1, 0, [3], []) rfl rfl rfl ?_
  refine bGo hA 0 1 (1, .iconst (0), 1, 2, 0, [], [(0, 0)]) rfl rfl rfl ?_
  refine bGo hA 0 2 (2, .aload_n 0, 1, 3, 0, [0], []) rfl rfl rfl ?_
  refine bGo hA 0 3 (3, .iload_n 1, 1, 4, 0, [1], []) rfl rfl rfl ?_
  refine bGo hA 0 4 (4, .iload_n 2, 1, 5, 0, [2], []) rfl rfl rfl ?_
  refine bGo hA 0 5 (5, .invokevirtual 127, 3, 6, 0, [0, 11, 181, 2], []) rfl rfl rfl ?_
  refine ⟨rfl, ?_⟩
  refine hC _ _ _ _ _ (bRix_e (fun r3 s1 k2 => ?_) (fun E s1 k2 => ?_)) h
  · show A (6, [.ref 11, .int x1, .int x2, .ref 154, .float 0], [.int r3, .int 0, .ref 154], s1)
    refine bGo hA 0 6 (8, .i2l, 1, 7, 0, [], []) rfl rfl rfl ?_
    refine bGo hA 0 7 (9, .lastore, 1, 8, 0, [], []) rfl rfl rfl ?_
    refine ⟨rfl, (by unfold vp_in; decide : vp_in (0 : Int32) 1), by decide, ?_⟩
    refine bGo hA 0 8 (10, .goto (11), 3, 9, 15, [], []) rfl rfl rfl ?_
    refine bGo hA 0 15 (21, .iconst (0), 1, 16, 0, [], [(0, 0)]) rfl rfl rfl ?_
    refine bGo hA 1 0 (22, .ireturn, 1, 0, 0, [1], []) rfl rfl rfl ?_
    exact k2
  · exact k2

theorem sg348_0 {lvl : Nat} {C : bCall} {Q : bPost} {A : bPt → Prop} (hC : bMono C) (hA : bClosed lvl bm348 C Q A) {x1 : Int32} {x2 : Int32} {σ : bSt} 
  (h : (C 182 [.ref 11, .int x1, .int x2] σ (bRix (fun r3 s1 => Q (.inl (some (.int 0))) (bJ s1 154 (0 : Int32).toNatClampNeg (Int32.toInt64 r3))) (fun E s1 => (bRet [(0, 8, 9, 0)] 5 (fun _ _ => False) (fun h σ2 => A (h, [.ref 11, .int x1, .int x2, .ref 154, .float 0], [.float 0], σ2)) Q (.inr E) s1))))) : A (0, [.ref 11, .int x1, .int x2, .ref 154, .float 0], [], σ) := by
  refine bGo hA 0 0 (0, .aload_n 3, 1, 1, 0, [3], []) rfl rfl rfl ?_
  refine bGo hA 0 1 (1, .iconst (0), 1, 2, 0, [], [(0, 0)]) rfl rfl rfl ?_
  refine bGo hA 0 2 (2, .aload_n 0, 1, 3, 0, [0], []) rfl rfl rfl ?_
  refine bGo hA 0 3 (3, .iload_n 1, 1, 4, 0, [1], []) rfl rfl rfl ?_
  refine bGo hA 0 4 (4, .iload_n 2, 1, 5, 0, [2], []) rfl rfl rfl ?_
  refine bGo hA 0 5 (5, .invokevirtual 130, 3, 6, 0, [0, 11, 182, 2], []) rfl rfl rfl ?_
  refine ⟨rfl, ?_⟩
  refine hC _ _ _ _ _ (bRix_e (fun r3 s1 k2 => ?_) (fun E s1 k2 => ?_)) h
  · show A (6, [.ref 11, .int x1, .int x2, .ref 154, .float 0], [.int r3, .int 0, .ref 154], s1)
    refine bGo hA 0 6 (8, .i2l, 1, 7, 0, [], []) rfl rfl rfl ?_
    refine bGo hA 0 7 (9, .lastore, 1, 8, 0, [], []) rfl rfl rfl ?_
    refine ⟨rfl, (by unfold vp_in; decide : vp_in (0 : Int32) 1), by decide, ?_⟩
    refine bGo hA 0 8 (10, .goto (7), 3, 9, 12, [], []) rfl rfl rfl ?_
    refine bGo hA 0 12 (17, .iconst (0), 1, 13, 0, [], [(0, 0)]) rfl rfl rfl ?_
    refine bGo hA 0 13 (18, .ireturn, 1, 0, 0, [1], []) rfl rfl rfl ?_
    exact k2
  · exact k2

theorem sg349_0 {lvl : Nat} {C : bCall} {Q : bPost} {A : bPt → Prop} (hC : bMono C) (hA : bClosed lvl bm349 C Q A) {x1 : Int32} {σ : bSt} 
  (h : (C 183 [.ref 11, .int x1] σ (bRix (fun r3 s1 => Q (.inl (some (.int 0))) (bJ s1 154 (0 : Int32).toNatClampNeg (Int32.toInt64 r3))) (fun E s1 => (bRet [(0, 7, 8, 0)] 4 (fun _ _ => False) (fun h σ2 => A (h, [.ref 11, .int x1, .ref 154, .float 0], [.float 0], σ2)) Q (.inr E) s1))))) : A (0, [.ref 11, .int x1, .ref 154, .float 0], [], σ) := by
  refine bGo hA 0 0 (0, .aload_n 2, 1, 1, 0, [2], []) rfl rfl rfl ?_
  refine bGo hA 0 1 (1, .iconst (0), 1, 2, 0, [], [(0, 0)]) rfl rfl rfl ?_
  refine bGo hA 0 2 (2, .aload_n 0, 1, 3, 0, [0], []) rfl rfl rfl ?_
  refine bGo hA 0 3 (3, .iload_n 1, 1, 4, 0, [1], []) rfl rfl rfl ?_
  refine bGo hA 0 4 (4, .invokevirtual 133, 3, 5, 0, [0, 11, 183, 1], []) rfl rfl rfl ?_
  refine ⟨rfl, ?_⟩
  refine hC _ _ _ _ _ (bRix_e (fun r3 s1 k2 => ?_) (fun E s1 k2 => ?_)) h
  · show A (5, [.ref 11, .int x1, .ref 154, .float 0], [.int r3, .int 0, .ref 154], s1)
    refine bGo hA 0 5 (7, .i2l, 1, 6, 0, [], []) rfl rfl rfl ?_
    refine bGo hA 0 6 (8, .lastore, 1, 7, 0, [], []) rfl rfl rfl ?_
    refine ⟨rfl, (by unfold vp_in; decide : vp_in (0 : Int32) 1), by decide, ?_⟩
    refine bGo hA 0 7 (9, .goto (6), 3, 8, 11, [], []) rfl rfl rfl ?_
    refine bGo hA 0 11 (15, .iconst (0), 1, 12, 0, [], [(0, 0)]) rfl rfl rfl ?_
    refine bGo hA 0 12 (16, .ireturn, 1, 0, 0, [1], []) rfl rfl rfl ?_
    exact k2
  · exact k2

theorem sg350_0 {lvl : Nat} {C : bCall} {Q : bPost} {A : bPt → Prop} (hC : bMono C) (hA : bClosed lvl bm350 C Q A) {x1 : Int32} {σ : bSt} 
  (h : (C 184 [.ref 11, .int x1] σ (bRix (fun r3 s1 => Q (.inl (some (.int 0))) (bJ s1 154 (0 : Int32).toNatClampNeg (Int32.toInt64 r3))) (fun E s1 => (bRet [(0, 7, 8, 0)] 4 (fun _ _ => False) (fun h σ2 => A (h, [.ref 11, .int x1, .ref 154, .float 0], [.float 0], σ2)) Q (.inr E) s1))))) : A (0, [.ref 11, .int x1, .ref 154, .float 0], [], σ) := by
  refine bGo hA 0 0 (0, .aload_n 2, 1, 1, 0, [2], []) rfl rfl rfl ?_
  refine bGo hA 0 1 (1, .iconst (0), 1, 2, 0, [], [(0, 0)]) rfl rfl rfl ?_
  refine bGo hA 0 2 (2, .aload_n 0, 1, 3, 0, [0], []) rfl rfl rfl ?_
  refine bGo hA 0 3 (3, .iload_n 1, 1, 4, 0, [1], []) rfl rfl rfl ?_
  refine bGo hA 0 4 (4, .invokevirtual 136, 3, 5, 0, [0, 11, 184, 1], []) rfl rfl rfl ?_
  refine ⟨rfl, ?_⟩
  refine hC _ _ _ _ _ (bRix_e (fun r3 s1 k2 => ?_) (fun E s1 k2 => ?_)) h
  · show A (5, [.ref 11, .int x1, .ref 154, .float 0], [.int r3, .int 0, .ref 154], s1)
    refine bGo hA 0 5 (7, .i2l, 1, 6, 0, [], []) rfl rfl rfl ?_
    refine bGo hA 0 6 (8, .lastore, 1, 7, 0, [], []) rfl rfl rfl ?_
    refine ⟨rfl, (by unfold vp_in; decide : vp_in (0 : Int32) 1), by decide, ?_⟩
    refine bGo hA 0 7 (9, .goto (6), 3, 8, 11, [], []) rfl rfl rfl ?_
    refine bGo hA 0 11 (15, .iconst (0), 1, 12, 0, [], [(0, 0)]) rfl rfl rfl ?_
    refine bGo hA 0 12 (16, .ireturn, 1, 0, 0, [1], []) rfl rfl rfl ?_
    exact k2
  · exact k2

theorem sg351_0 {lvl : Nat} {C : bCall} {Q : bPost} {A : bPt → Prop} (hC : bMono C) (hA : bClosed lvl bm351 C Q A) {x1 : Int32} {σ : bSt} 
  (h : (C 185 [.ref 11, .int x1] σ (bRix (fun r3 s1 => Q (.inl (some (.int 0))) (bJ s1 154 (0 : Int32).toNatClampNeg (Int32.toInt64 r3))) (fun E s1 => (bRet [(0, 7, 8, 0), (0, 7, 11, 2)] 4 (fun _ _ => False) (fun h σ2 => A (h, [.ref 11, .int x1, .ref 154, .float 0], [.float 0], σ2)) Q (.inr E) s1))))) : A (0, [.ref 11, .int x1, .ref 154, .float 0], [], σ) := by
  refine bGo hA 0 0 (0, .aload_n 2, 1, 1, 0, [2], []) rfl rfl rfl ?_
  refine bGo hA 0 1 (1, .iconst (0), 1, 2, 0, [], [(0, 0)]) rfl rfl rfl ?_
  refine bGo hA 0 2 (2, .aload_n 0, 1, 3, 0, [0], []) rfl rfl rfl ?_
  refine bGo hA 0 3 (3, .iload_n 1, 1, 4, 0, [1], []) rfl rfl rfl ?_
  refine bGo hA 0 4 (4, .invokevirtual 139, 3, 5, 0, [0, 11, 185, 1], []) rfl rfl rfl ?_
  refine ⟨rfl, ?_⟩
  refine hC _ _ _ _ _ (bRix_e (fun r3 s1 k2 => ?_) (fun E s1 k2 => ?_)) h
  · show A (5, [.ref 11, .int x1, .ref 154, .float 0], [.int r3, .int 0, .ref 154], s1)
    refine bGo hA 0 5 (7, .i2l, 1, 6, 0, [], []) rfl rfl rfl ?_
    refine bGo hA 0 6 (8, .lastore, 1, 7, 0, [], []) rfl rfl rfl ?_
    refine ⟨rfl, (by unfold vp_in; decide : vp_in (0 : Int32) 1), by decide, ?_⟩
    refine bGo hA 0 7 (9, .goto (9), 3, 8, 14, [], []) rfl rfl rfl ?_
    refine bGo hA 0 14 (18, .iconst (0), 1, 15, 0, [], [(0, 0)]) rfl rfl rfl ?_
    refine bGo hA 0 15 (19, .ireturn, 1, 0, 0, [1], []) rfl rfl rfl ?_
    exact k2
  · exact k2

theorem sg352_0 {lvl : Nat} {C : bCall} {Q : bPost} {A : bPt → Prop} (hC : bMono C) (hA : bClosed lvl bm352 C Q A) {x1 : Int32} {x2 : Int32} {σ : bSt} 
  (h : (C 189 [.ref 11, .int x1, .int x2] σ (bRix (fun r3 s1 => Q (.inl (some (.int 0))) (bJ s1 154 (0 : Int32).toNatClampNeg (Int32.toInt64 r3))) (fun E s1 => (bRet [(0, 8, 9, 0)] 5 (fun _ _ => False) (fun h σ2 => A (h, [.ref 11, .int x1, .int x2, .ref 154, .float 0], [.float 0], σ2)) Q (.inr E) s1))))) : A (0, [.ref 11, .int x1, .int x2, .ref 154, .float 0], [], σ) := by
  refine bGo hA 0 0 (0, .aload_n 3, 1, 1, 0, [3], []) rfl rfl rfl ?_
  refine bGo hA 0 1 (1, .iconst (0), 1, 2, 0, [], [(0, 0)]) rfl rfl rfl ?_
  refine bGo hA 0 2 (2, .aload_n 0, 1, 3, 0, [0], []) rfl rfl rfl ?_
  refine bGo hA 0 3 (3, .iload_n 1, 1, 4, 0, [1], []) rfl rfl rfl ?_
  refine bGo hA 0 4 (4, .iload_n 2, 1, 5, 0, [2], []) rfl rfl rfl ?_
  refine bGo hA 0 5 (5, .invokevirtual 142, 3, 6, 0, [0, 11, 189, 2], []) rfl rfl rfl ?_
  refine ⟨rfl, ?_⟩
  refine hC _ _ _ _ _ (bRix_e (fun r3 s1 k2 => ?_) (fun E s1 k2 => ?_)) h
  · show A (6, [.ref 11, .int x1, .int x2, .ref 154, .float 0], [.int r3, .int 0, .ref 154], s1)
    refine bGo hA 0 6 (8, .i2l, 1, 7, 0, [], []) rfl rfl rfl ?_
    refine bGo hA 0 7 (9, .lastore, 1, 8, 0, [], []) rfl rfl rfl ?_
    refine ⟨rfl, (by unfold vp_in; decide : vp_in (0 : Int32) 1), by decide, ?_⟩
    refine bGo hA 0 8 (10, .goto (7), 3, 9, 12, [], []) rfl rfl rfl ?_
    refine bGo hA 0 12 (17, .iconst (0), 1, 13, 0, [], [(0, 0)]) rfl rfl rfl ?_
    refine bGo hA 0 13 (18, .ireturn, 1, 0, 0, [1], []) rfl rfl rfl ?_
    exact k2
  · exact k2

theorem sg353_0 {lvl : Nat} {C : bCall} {Q : bPost} {A : bPt → Prop} (hC : bMono C) (hA : bClosed lvl bm353 C Q A) {x1 : Int32} {σ : bSt} 
  (h : (C 191 [.ref 11, .int x1] σ (bRvx (fun s1 => Q (.inl (some (.int 0))) s1) (fun E s1 => (bRet [(0, 3, 4, 1)] 2 (fun _ _ => False) (fun h σ2 => A (h, [.ref 11, .int x1, .float 0], [.float 0], σ2)) Q (.inr E) s1))))) : A (0, [.ref 11, .int x1, .float 0], [], σ) := by
  refine bGo hA 0 0 (0, .aload_n 0, 1, 1, 0, [0], []) rfl rfl rfl ?_
  refine bGo hA 0 1 (1, .iload_n 1, 1, 2, 0, [1], []) rfl rfl rfl ?_
  refine bGo hA 0 2 (2, .invokevirtual 145, 3, 3, 0, [0, 11, 191, 1], []) rfl rfl rfl ?_
  refine ⟨rfl, ?_⟩
  refine hC _ _ _ _ _ (bRvx_e (fun s1 k2 => ?_) (fun E s1 k2 => ?_)) h
  · show A (3, [.ref 11, .int x1, .float 0], [], s1)
    refine bGo hA 0 3 (5, .goto (6), 3, 4, 7, [], []) rfl rfl rfl ?_
    refine bGo hA 0 7 (11, .iconst (0), 1, 8, 0, [], [(0, 0)]) rfl rfl rfl ?_
    refine bGo hA 0 8 (12, .ireturn, 1, 0, 0, [1], []) rfl rfl rfl ?_
    exact k2
  · exact k2

theorem sg354_0 {lvl : Nat} {C : bCall} {Q : bPost} {A : bPt → Prop} (hC : bMono C) (hA : bClosed lvl bm354 C Q A) {x1 : Int32} {x2 : Int32} {x3 : Int32} {σ : bSt} 
  (h : (C 192 [.ref 11, .int x1, .int x2, .int x3] σ (bRix (fun r3 s1 => Q (.inl (some (.int 0))) (bJ s1 154 (0 : Int32).toNatClampNeg (Int32.toInt64 r3))) (fun E s1 => (bRet [(0, 9, 10, 0)] 6 (fun _ _ => False) (fun h σ2 => A (h, [.ref 11, .int x1, .int x2, .int x3, .ref 154, .float 0], [.float 0], σ2)) Q (.inr E) s1))))) : A (0, [.ref 11, .int x1, .int x2, .int x3, .ref 154, .float 0], [], σ) := by
  refine bGo hA 0 0 (0, .aload 4, 2, 1, 0, [4], []) rfl rfl rfl ?_
  refine bGo hA 0 1 (2, .iconst (0), 1, 2, 0, [], [(0, 0)]) rfl rfl rfl ?_
  refine bGo hA 0 2 (3, .aload_n 0, 1, 3, 0, [0], []) rfl rfl rfl ?_
  refine bGo hA 0 3 (4, .iload_n 1, 1, 4, 0, [1], []) rfl rfl rfl ?_
  refine bGo hA 0 4 (5, .iload_n 2, 1, 5, 0, [2], []) rfl rfl rfl ?_
  refine bGo hA 0 5 (6, .iload_n 3, 1, 6, 0, [3], []) rfl rfl rfl ?_
  refine bGo hA 0 6 (7, .invokevirtual 149, 3, 7, 0, [0, 11, 192, 3], []) rfl rfl rfl ?_
  refine ⟨rfl, ?_⟩
  refine hC _ _ _ _ _ (bRix_e (fun r3 s1 k2 => ?_) (fun E s1 k2 => ?_)) h
  · show A (7, [.ref 11, .int x1, .int x2, .int x3, .ref 154, .float 0], [.int r3, .int 0, .ref 154], s1)
    refine bGo hA 0 7 (10, .i2l, 1, 8, 0, [], []) rfl rfl rfl ?_
    refine bGo hA 0 8 (11, .lastore, 1, 9, 0, [], []) rfl rfl rfl ?_
    refine ⟨rfl, (by unfold vp_in; decide : vp_in (0 : Int32) 1), by decide, ?_⟩
    refine bGo hA 0 9 (12, .goto (7), 3, 10, 13, [], []) rfl rfl rfl ?_
    refine bGo hA 0 13 (19, .iconst (0), 1, 14, 0, [], [(0, 0)]) rfl rfl rfl ?_
    refine bGo hA 0 14 (20, .ireturn, 1, 0, 0, [1], []) rfl rfl rfl ?_
    exact k2
  · exact k2

theorem sg355_0 {lvl : Nat} {C : bCall} {Q : bPost} {A : bPt → Prop} (hC : bMono C) (hA : bClosed lvl bm355 C Q A) {x1 : Int32} {x2 : Int32} {σ : bSt} 
  (h : (C 193 [.ref 11, .int x1, .int x2] σ (bRix (fun r3 s1 => Q (.inl (some (.int 0))) (bJ s1 154 (0 : Int32).toNatClampNeg (Int32.toInt64 r3))) (fun E s1 => (bRet [(0, 8, 9, 0)] 5 (fun _ _ => False) (fun h σ2 => A (h, [.ref 11, .int x1, .int x2, .ref 154, .float 0], [.float 0], σ2)) Q (.inr E) s1))))) : A (0, [.ref 11, .int x1, .int x2, .ref 154, .float 0], [], σ) := by
  refine bGo hA 0 0 (0, .aload_n 3, 1, 1, 0, [3], []) rfl rfl rfl ?_
  refine bGo hA 0 1 (1, .iconst (0), 1, 2, 0, [], [(0, 0)]) rfl rfl rfl ?_
  refine bGo hA 0 2 (2, .aload_n 0, 1, 3, 0, [0], []) rfl rfl rfl ?_
  refine bGo hA 0 3 (3, .iload_n 1, 1, 4, 0, [1], []) rfl rfl rfl ?_
  refine bGo hA 0 4 (4, .iload_n 2, 1, 5, 0, [2], []) rfl rfl rfl ?_
  refine bGo hA 0 5 (5, .invokevirtual 152, 3, 6, 0, [0, 11, 193, 2], []) rfl rfl rfl ?_
  refine ⟨rfl, ?_⟩
  refine hC _ _ _ _ _ (bRix_e (fun r3 s1 k2 => ?_) (fun E s1 k2 => ?_)) h
  · show A (6, [.ref 11, .int x1, .int x2, .ref 154, .float 0], [.int r3, .int 0, .ref 154], s1)
    refine bGo hA 0 6 (8, .i2l, 1, 7, 0, [], []) rfl rfl rfl ?_
    refine bGo hA 0 7 (9, .lastore, 1, 8, 0, [], []) rfl rfl rfl ?_
    refine ⟨rfl, (by unfold vp_in; decide : vp_in (0 : Int32) 1), by decide, ?_⟩
    refine bGo hA 0 8 (10, .goto (7), 3, 9, 12, [], []) rfl rfl rfl ?_
    refine bGo hA 0 12 (17, .iconst (0), 1, 13, 0, [], [(0, 0)]) rfl rfl rfl ?_
    refine bGo hA 0 13 (18, .ireturn, 1, 0, 0, [1], []) rfl rfl rfl ?_
    exact k2
  · exact k2

theorem sg356_0 {lvl : Nat} {C : bCall} {Q : bPost} {A : bPt → Prop} (hC : bMono C) (hA : bClosed lvl bm356 C Q A) {x1 : Int32} {σ : bSt} 
  (h : (C 194 [.ref 11, .int x1] σ (bRix (fun r3 s1 => Q (.inl (some (.int 0))) (bJ s1 154 (0 : Int32).toNatClampNeg (Int32.toInt64 r3))) (fun E s1 => (bRet [(0, 7, 8, 0)] 4 (fun _ _ => False) (fun h σ2 => A (h, [.ref 11, .int x1, .ref 154, .float 0], [.float 0], σ2)) Q (.inr E) s1))))) : A (0, [.ref 11, .int x1, .ref 154, .float 0], [], σ) := by
  refine bGo hA 0 0 (0, .aload_n 2, 1, 1, 0, [2], []) rfl rfl rfl ?_
  refine bGo hA 0 1 (1, .iconst (0), 1, 2, 0, [], [(0, 0)]) rfl rfl rfl ?_
  refine bGo hA 0 2 (2, .aload_n 0, 1, 3, 0, [0], []) rfl rfl rfl ?_
  refine bGo hA 0 3 (3, .iload_n 1, 1, 4, 0, [1], []) rfl rfl rfl ?_
  refine bGo hA 0 4 (4, .invokevirtual 155, 3, 5, 0, [0, 11, 194, 1], []) rfl rfl rfl ?_
  refine ⟨rfl, ?_⟩
  refine hC _ _ _ _ _ (bRix_e (fun r3 s1 k2 => ?_) (fun E s1 k2 => ?_)) h
  · show A (5, [.ref 11, .int x1, .ref 154, .float 0], [.int r3, .int 0, .ref 154], s1)
    refine bGo hA 0 5 (7, .i2l, 1, 6, 0, [], []) rfl rfl rfl ?_
    refine bGo hA 0 6 (8, .lastore, 1, 7, 0, [], []) rfl rfl rfl ?_
    refine ⟨rfl, (by unfold vp_in; decide : vp_in (0 : Int32) 1), by decide, ?_⟩
    refine bGo hA 0 7 (9, .goto (6), 3, 8, 11, [], []) rfl rfl rfl ?_
    refine bGo hA 0 11 (15, .iconst (0), 1, 12, 0, [], [(0, 0)]) rfl rfl rfl ?_
    refine bGo hA 0 12 (16, .ireturn, 1, 0, 0, [1], []) rfl rfl rfl ?_
    exact k2
  · exact k2
theorem sg358_0 {lvl : Nat} {C : bCall} {Q : bPost} {A : bPt → Prop} (hC : bMono C) (hA : bClosed lvl bm358 C Q A) {x0 : Int64} {σ : bSt} 
  (h : A (8, [.long (x0 - ((Int64.toUInt64 x0 >>> (Int64.toUInt64 (Int32.toInt64 1) &&& Int64.toUInt64 63)).toInt64 &&& (Int64.ofNat 6148914691236517205))), .float 0], [], σ)) : A (0, [.long x0, .float 0], [], σ) := by
  refine bGo hA 0 0 (0, .lload_n 0, 1, 1, 0, [0], []) rfl rfl rfl ?_
  refine bGo hA 0 1 (1, .lload_n 0, 1, 2, 0, [0], []) rfl rfl rfl ?_
  refine bGo hA 0 2 (2, .iconst (1), 1, 3, 0, [], [(1, 0)]) rfl rfl rfl ?_
  refine bGo hA 0 3 (3, .lushr, 1, 4, 0, [], []) rfl rfl rfl ?_
  refine bGo hA 0 4 (4, .ldc2_w 314, 3, 5, 0, [6148914691236517205], []) rfl rfl rfl ?_
  refine bGo hA 0 5 (7, .land, 1, 6, 0, [], []) rfl rfl rfl ?_
  refine bGo hA 0 6 (8, .lsub, 1, 7, 0, [], []) rfl rfl rfl ?_
  refine bGo hA 0 7 (9, .lstore_n 0, 1, 8, 0, [0], []) rfl rfl rfl ?_
  exact h

theorem sg358_8 {lvl : Nat} {C : bCall} {Q : bPost} {A : bPt → Prop} (hC : bMono C) (hA : bClosed lvl bm358 C Q A) {l0 : Int64} {σ : bSt} 
  (h : A (18, [.long ((l0 &&& (Int64.ofNat 3689348814741910323)) + ((Int64.toUInt64 l0 >>> (Int64.toUInt64 (Int32.toInt64 2) &&& Int64.toUInt64 63)).toInt64 &&& (Int64.ofNat 3689348814741910323))), .float 0], [], σ)) : A (8, [.long l0, .float 0], [], σ) := by
  refine bGo hA 0 8 (10, .lload_n 0, 1, 9, 0, [0], []) rfl rfl rfl ?_
  refine bGo hA 0 9 (11, .ldc2_w 316, 3, 10, 0, [3689348814741910323], []) rfl rfl rfl ?_
  refine bGo hA 0 10 (14, .land, 1, 11, 0, [], []) rfl rfl rfl ?_
  refine bGo hA 0 11 (15, .lload_n 0, 1, 12, 0, [0], []) rfl rfl rfl ?_
  refine bGo hA 0 12 (16, .iconst (2), 1, 13, 0, [], [(2, 0)]) rfl rfl rfl ?_
  refine bGo hA 0 13 (17, .lushr, 1, 14, 0, [], []) rfl rfl rfl ?_
  refine bGo hA 0 14 (18, .ldc2_w 316, 3, 15, 0, [3689348814741910323], []) rfl rfl rfl ?_
  refine bGo hA 0 15 (21, .land, 1, 16, 0, [], []) rfl rfl rfl ?_
  refine bGo hA 1 0 (22, .ladd, 1, 17, 0, [], []) rfl rfl rfl ?_
  refine bGo hA 1 1 (23, .lstore_n 0, 1, 18, 0, [0], []) rfl rfl rfl ?_
  exact h

theorem sg358_18 {lvl : Nat} {C : bCall} {Q : bPost} {A : bPt → Prop} (hC : bMono C) (hA : bClosed lvl bm358 C Q A) {l0 : Int64} {σ : bSt} 
  (h : A (26, [.long ((l0 + (Int64.toUInt64 l0 >>> (Int64.toUInt64 (Int32.toInt64 4) &&& Int64.toUInt64 63)).toInt64) &&& (Int64.ofNat 1085102592571150095)), .float 0], [], σ)) : A (18, [.long l0, .float 0], [], σ) := by
  refine bGo hA 1 2 (24, .lload_n 0, 1, 19, 0, [0], []) rfl rfl rfl ?_
  refine bGo hA 1 3 (25, .lload_n 0, 1, 20, 0, [0], []) rfl rfl rfl ?_
  refine bGo hA 1 4 (26, .iconst (4), 1, 21, 0, [], [(4, 0)]) rfl rfl rfl ?_
  refine bGo hA 1 5 (27, .lushr, 1, 22, 0, [], []) rfl rfl rfl ?_
  refine bGo hA 1 6 (28, .ladd, 1, 23, 0, [], []) rfl rfl rfl ?_
  refine bGo hA 1 7 (29, .ldc2_w 318, 3, 24, 0, [1085102592571150095], []) rfl rfl rfl ?_
  refine bGo hA 1 8 (32, .land, 1, 25, 0, [], []) rfl rfl rfl ?_
  refine bGo hA 1 9 (33, .lstore_n 0, 1, 26, 0, [0], []) rfl rfl rfl ?_
  exact h

theorem sg358_26 {lvl : Nat} {C : bCall} {Q : bPost} {A : bPt → Prop} (hC : bMono C) (hA : bClosed lvl bm358 C Q A) {l0 : Int64} {σ : bSt} 
  (h : A (32, [.long (l0 + (Int64.toUInt64 l0 >>> (Int64.toUInt64 (Int32.toInt64 8) &&& Int64.toUInt64 63)).toInt64), .float 0], [], σ)) : A (26, [.long l0, .float 0], [], σ) := by
  refine bGo hA 1 10 (34, .lload_n 0, 1, 27, 0, [0], []) rfl rfl rfl ?_
  refine bGo hA 1 11 (35, .lload_n 0, 1, 28, 0, [0], []) rfl rfl rfl ?_
  refine bGo hA 1 12 (36, .bipush (8), 2, 29, 0, [], [(8, 0)]) rfl rfl rfl ?_
  refine bGo hA 1 13 (38, .lushr, 1, 30, 0, [], []) rfl rfl rfl ?_
  refine bGo hA 1 14 (39, .ladd, 1, 31, 0, [], []) rfl rfl rfl ?_
  refine bGo hA 1 15 (40, .lstore_n 0, 1, 32, 0, [0], []) rfl rfl rfl ?_
  exact h

theorem sg358_32 {lvl : Nat} {C : bCall} {Q : bPost} {A : bPt → Prop} (hC : bMono C) (hA : bClosed lvl bm358 C Q A) {l0 : Int64} {σ : bSt} 
  (h : A (38, [.long (l0 + (Int64.toUInt64 l0 >>> (Int64.toUInt64 (Int32.toInt64 16) &&& Int64.toUInt64 63)).toInt64), .float 0], [], σ)) : A (32, [.long l0, .float 0], [], σ) := by
  refine bGo hA 2 0 (41, .lload_n 0, 1, 33, 0, [0], []) rfl rfl rfl ?_
  refine bGo hA 2 1 (42, .lload_n 0, 1, 34, 0, [0], []) rfl rfl rfl ?_
  refine bGo hA 2 2 (43, .bipush (16), 2, 35, 0, [], [(16, 0)]) rfl rfl rfl ?_
  refine bGo hA 2 3 (45, .lushr, 1, 36, 0, [], []) rfl rfl rfl ?_
  refine bGo hA 2 4 (46, .ladd, 1, 37, 0, [], []) rfl rfl rfl ?_
  refine bGo hA 2 5 (47, .lstore_n 0, 1, 38, 0, [0], []) rfl rfl rfl ?_
  exact h

theorem sg358_38 {lvl : Nat} {C : bCall} {Q : bPost} {A : bPt → Prop} (hC : bMono C) (hA : bClosed lvl bm358 C Q A) {l0 : Int64} {σ : bSt} 
  (h : A (44, [.long (l0 + (Int64.toUInt64 l0 >>> (Int64.toUInt64 (Int32.toInt64 32) &&& Int64.toUInt64 63)).toInt64), .float 0], [], σ)) : A (38, [.long l0, .float 0], [], σ) := by
  refine bGo hA 2 6 (48, .lload_n 0, 1, 39, 0, [0], []) rfl rfl rfl ?_
  refine bGo hA 2 7 (49, .lload_n 0, 1, 40, 0, [0], []) rfl rfl rfl ?_
  refine bGo hA 2 8 (50, .bipush (32), 2, 41, 0, [], [(32, 0)]) rfl rfl rfl ?_
  refine bGo hA 2 9 (52, .lushr, 1, 42, 0, [], []) rfl rfl rfl ?_
  refine bGo hA 2 10 (53, .ladd, 1, 43, 0, [], []) rfl rfl rfl ?_
  refine bGo hA 2 11 (54, .lstore_n 0, 1, 44, 0, [0], []) rfl rfl rfl ?_
  exact h

theorem sg358_44 {lvl : Nat} {C : bCall} {Q : bPost} {A : bPt → Prop} (hC : bMono C) (hA : bClosed lvl bm358 C Q A) {l0 : Int64} {σ : bSt} 
  (h : Q (.inl (some (.int ((Int64.toInt32 l0) &&& 127)))) σ) : A (44, [.long l0, .float 0], [], σ) := by
  refine bGo hA 2 12 (55, .lload_n 0, 1, 45, 0, [0], []) rfl rfl rfl ?_
  refine bGo hA 2 13 (56, .l2i, 1, 46, 0, [], []) rfl rfl rfl ?_
  refine bGo hA 2 14 (57, .bipush (127), 2, 47, 0, [], [(127, 0)]) rfl rfl rfl ?_
  refine bGo hA 2 15 (59, .iand, 1, 48, 0, [], []) rfl rfl rfl ?_
  refine bGo hA 3 0 (60, .ireturn, 1, 0, 0, [1], []) rfl rfl rfl ?_
  exact h

theorem sg359_0 {lvl : Nat} {C : bCall} {Q : bPost} {A : bPt → Prop} (hC : bMono C) (hA : bClosed lvl bm359 C Q A) {x0 : Int32} {x1 : Int32} {σ : bSt} 
  (h : ((x0 < x1 → Q (.inl (some (.int x1))) σ) ∧ (¬ x0 < x1 → Q (.inl (some (.int x0))) σ))) : A (0, [.int x0, .int x1], [], σ) := by
  refine bGo hA 0 0 (0, .iload_n 0, 1, 1, 0, [0], []) rfl rfl rfl ?_
  refine bGo hA 0 1 (1, .iload_n 1, 1, 2, 0, [1], []) rfl rfl rfl ?_
  refine bGo hA 0 2 (2, .if_icmp .lt (7), 3, 3, 5, [], []) rfl rfl rfl ?_
  refine ⟨fun c1 => ?_, fun c1 => ?_⟩
  · refine bGo hA 0 5 (9, .iload_n 1, 1, 6, 0, [1], []) rfl rfl rfl ?_
    refine bGo hA 0 6 (10, .ireturn, 1, 0, 0, [1], []) rfl rfl rfl ?_
    exact (h.1 c1)
  · refine bGo hA 0 3 (5, .iload_n 0, 1, 4, 0, [0], []) rfl rfl rfl ?_
    refine bGo hA 0 4 (6, .goto (4), 3, 5, 6, [], []) rfl rfl rfl ?_
    refine bGo hA 0 6 (10, .ireturn, 1, 0, 0, [1], []) rfl rfl rfl ?_
    exact (h.2 c1)

theorem sg360_0 {lvl : Nat} {C : bCall} {Q : bPost} {A : bPt → Prop} (hC : bMono C) (hA : bClosed lvl bm360 C Q A) {x0 : Int32} {x1 : Int32} {σ : bSt} 
  (h : ((x1 < x0 → Q (.inl (some (.int x1))) σ) ∧ (¬ x1 < x0 → Q (.inl (some (.int x0))) σ))) : A (0, [.int x0, .int x1], [], σ) := by
  refine bGo hA 0 0 (0, .iload_n 0, 1, 1, 0, [0], []) rfl rfl rfl ?_
  refine bGo hA 0 1 (1, .iload_n 1, 1, 2, 0, [1], []) rfl rfl rfl ?_
  refine bGo hA 0 2 (2, .if_icmp .gt (7), 3, 3, 5, [], []) rfl rfl rfl ?_
  refine ⟨fun c1 => ?_, fun c1 => ?_⟩
  · refine bGo hA 0 5 (9, .iload_n 1, 1, 6, 0, [1], []) rfl rfl rfl ?_
    refine bGo hA 0 6 (10, .ireturn, 1, 0, 0, [1], []) rfl rfl rfl ?_
    exact (h.1 c1)
  · refine bGo hA 0 3 (5, .iload_n 0, 1, 4, 0, [0], []) rfl rfl rfl ?_
    refine bGo hA 0 4 (6, .goto (4), 3, 5, 6, [], []) rfl rfl rfl ?_
    refine bGo hA 0 6 (10, .ireturn, 1, 0, 0, [1], []) rfl rfl rfl ?_
    exact (h.2 c1)

theorem sg361_0 {lvl : Nat} {C : bCall} {Q : bPost} {A : bPt → Prop} (hC : bMono C) (hA : bClosed lvl bm361 C Q A) {a0 : Nat} {x1 : Int32} {σ : bSt} 
  (h : (¬ bTy a0 = 9 ∧ A (5, [.ref a0, .int x1, .int 0, .int (Int32.ofNat (bLen σ a0))], [], σ))) : A (0, [.ref a0, .int x1, .float 0, .float 0], [], σ) := by
  refine bGo hA 0 0 (0, .iconst (0), 1, 1, 0, [], [(0, 0)]) rfl rfl rfl ?_
  refine bGo hA 0 1 (1, .istore_n 2, 1, 2, 0, [2], []) rfl rfl rfl ?_
  refine bGo hA 0 2 (2, .aload_n 0, 1, 3, 0, [0], []) rfl rfl rfl ?_
  refine bGo hA 0 3 (3, .arraylength, 1, 4, 0, [], []) rfl rfl rfl ?_
  refine ⟨h.1, ?_⟩
  refine bGo hA 0 4 (4, .istore_n 3, 1, 5, 0, [3], []) rfl rfl rfl ?_
  exact h.2

theorem sg361_5 {lvl : Nat} {C : bCall} {Q : bPost} {A : bPt → Prop} (hC : bMono C) (hA : bClosed lvl bm361 C Q A) {l0 : Nat} {l1 : Int32} {l2 : Int32} {l3 : Int32} {σ : bSt} 
  (h : ((l2 < l3 → (bTy l0 = 0 ∧ (vp_in l2 (bLen σ l0) ∧ (l0 % 256 < 200 ∧ A (5, [.ref l0, .int l1, .int (l2 + 1), .int l3], [], (bI σ l0 (l2).toNatClampNeg l1)))))) ∧ (¬ l2 < l3 → Q (.inl none) σ))) : A (5, [.ref l0, .int l1, .int l2, .int l3], [], σ) := by
  refine bGo hA 0 5 (5, .iload_n 2, 1, 6, 0, [2], []) rfl rfl rfl ?_
  refine bGo hA 0 6 (6, .iload_n 3, 1, 7, 0, [3], []) rfl rfl rfl ?_
  refine bGo hA 0 7 (7, .if_icmp .ge (13), 3, 8, 14, [], []) rfl rfl rfl ?_
  refine ⟨fun c1 => ?_, fun c1 => ?_⟩
  · refine bGo hA 0 8 (10, .aload_n 0, 1, 9, 0, [0], []) rfl rfl rfl ?_
    refine bGo hA 0 9 (11, .iload_n 2, 1, 10, 0, [2], []) rfl rfl rfl ?_
    refine bGo hA 0 10 (12, .iload_n 1, 1, 11, 0, [1], []) rfl rfl rfl ?_
    refine bGo hA 0 11 (13, .iastore, 1, 12, 0, [], []) rfl rfl rfl ?_
    refine ⟨(h.1 c1).1, (h.1 c1).2.1, (h.1 c1).2.2.1, ?_⟩
    refine bGo hA 0 12 (14, .iinc 2 (1), 3, 13, 0, [2], [(1, 0)]) rfl rfl rfl ?_
    refine bGo hA 0 13 (17, .goto (-12), 3, 14, 5, [], []) rfl rfl rfl ?_
    exact (h.1 c1).2.2.2
  · refine bGo hA 0 14 (20, .return_, 1, 0, 0, [0], []) rfl rfl rfl ?_
    exact (h.2 c1)

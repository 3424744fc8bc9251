/-! segments of methods 314-356, by program (wip/whole/gen8.py): from a cut of a method on to the next cuts -/
theorem sq314_0 {lvl : Nat} {C : bCall} {Q : bPost} {A : bPt → Prop} (hC : bMono C) (hA : bClosed lvl bm314 C Q A) {x1 : Int} {x2 : Int} {σ : bSt}  (h_x1 : bRg x1) (h_x2 : bRg x2)
  (h : (C 143 [.ref 11, .int (bn x1), .int (bn x2)] σ (bRnx (fun r3 s1 => Q (.inl (some (.int (bn 0)))) (bwj s1 154 0 (bL r3))) (fun E s1 => (bRet [(0, 8, 9, 0), (0, 8, 12, 1)] 5 (fun _ _ => False) (fun h σ2 => A (h, [.ref 11, .int (bn x1), .int (bn x2), .ref 154, .float 0], [.float 0], σ2)) Q (.inr E) s1))))) : A (0, [.ref 11, .int (bn x1), .int (bn x2), .ref 154, .float 0], [], σ) := by
  refine bGo hA 0 0 (0, .aload_n 3, 1, 1, 0, [3], []) rfl rfl rfl ?_
  refine bGo hA 0 1 (1, .iconst (0), 1, 2, 0, [], [(0, 0)]) rfl rfl rfl ?_
  refine bEqI bl_0 ?_
  refine bGo hA 0 2 (2, .aload_n 0, 1, 3, 0, [0], []) rfl rfl rfl ?_
  refine bGo hA 0 3 (3, .iload_n 1, 1, 4, 0, [1], []) rfl rfl rfl ?_
  refine bGo hA 0 4 (4, .iload_n 2, 1, 5, 0, [2], []) rfl rfl rfl ?_
  refine bGo hA 0 5 (5, .invokevirtual 7, 3, 6, 0, [0, 11, 143, 2], []) rfl rfl rfl ?_
  refine ⟨rfl, ?_⟩
  refine hC _ _ _ _ _ (bRnx_e (fun r3 s1 q4 k2 => ?_) (fun E s1 k2 => ?_)) h
  · show A (6, [.ref 11, .int (bn x1), .int (bn x2), .ref 154, .float 0], [.int (bn r3), .int (bn 0), .ref 154], s1)
    refine bGo hA 0 6 (8, .i2l, 1, 7, 0, [], []) rfl rfl rfl ?_
    refine bGo hA 0 7 (9, .lastore, 1, 8, 0, [], []) rfl rfl rfl ?_
    refine ⟨rfl, (bIxP (x := 0) (n := 1) (by decide) (by decide)), by decide, ?_⟩
    refine bEqSJ (x := 0) (by decide : bRg 0) ?_
    refine bGo hA 0 8 (10, .goto (11), 3, 9, 15, [], []) rfl rfl rfl ?_
    refine bGo hA 0 15 (21, .iconst (0), 1, 16, 0, [], [(0, 0)]) rfl rfl rfl ?_
    refine bEqI bl_0 ?_
    refine bGo hA 1 0 (22, .ireturn, 1, 0, 0, [1], []) rfl rfl rfl ?_
    exact k2
  · exact k2

theorem sq314_9 {lvl : Nat} {C : bCall} {Q : bPost} {A : bPt → Prop} (hC : bMono C) (hA : bClosed lvl bm314 C Q A) {v0 : Value} {v1 : Value} {v2 : Value} {v3 : Value} {v4 : Value} {σ : bSt}  
  (h : Q (.inl (some (.int (bn 1)))) σ) : A (9, [v0, v1, v2, v3, v4], [.float 0], σ) := by
  refine bGo hA 0 9 (13, .astore 4, 2, 10, 0, [4], []) rfl rfl rfl ?_
  refine bGo hA 0 10 (15, .iconst (1), 1, 11, 0, [], [(1, 0)]) rfl rfl rfl ?_
  refine bEqI bl_1 ?_
  refine bGo hA 0 11 (16, .ireturn, 1, 12, 0, [1], []) rfl rfl rfl ?_
  exact h

theorem sq314_12 {lvl : Nat} {C : bCall} {Q : bPost} {A : bPt → Prop} (hC : bMono C) (hA : bClosed lvl bm314 C Q A) {v0 : Value} {v1 : Value} {v2 : Value} {v3 : Value} {v4 : Value} {σ : bSt}  
  (h : Q (.inl (some (.int (bn 2)))) σ) : A (12, [v0, v1, v2, v3, v4], [.float 0], σ) := by
  refine bGo hA 0 12 (17, .astore 4, 2, 13, 0, [4], []) rfl rfl rfl ?_
  refine bGo hA 0 13 (19, .iconst (2), 1, 14, 0, [], [(2, 0)]) rfl rfl rfl ?_
  refine bEqI bl_2 ?_
  refine bGo hA 0 14 (20, .ireturn, 1, 15, 0, [1], []) rfl rfl rfl ?_
  exact h

theorem sq315_0 {lvl : Nat} {C : bCall} {Q : bPost} {A : bPt → Prop} (hC : bMono C) (hA : bClosed lvl bm315 C Q A) {x1 : Int} {σ : bSt}  (h_x1 : bRg x1)
  (h : (C 144 [.ref 11, .int (bn x1)] σ (bRnx (fun r3 s1 => Q (.inl (some (.int (bn 0)))) (bwj s1 154 0 (bL r3))) (fun E s1 => (bRet [(0, 7, 8, 0)] 4 (fun _ _ => False) (fun h σ2 => A (h, [.ref 11, .int (bn x1), .ref 154, .float 0], [.float 0], σ2)) Q (.inr E) s1))))) : A (0, [.ref 11, .int (bn x1), .ref 154, .float 0], [], σ) := by
  refine bGo hA 0 0 (0, .aload_n 2, 1, 1, 0, [2], []) rfl rfl rfl ?_
  refine bGo hA 0 1 (1, .iconst (0), 1, 2, 0, [], [(0, 0)]) rfl rfl rfl ?_
  refine bEqI bl_0 ?_
  refine bGo hA 0 2 (2, .aload_n 0, 1, 3, 0, [0], []) rfl rfl rfl ?_
  refine bGo hA 0 3 (3, .iload_n 1, 1, 4, 0, [1], []) rfl rfl rfl ?_
  refine bGo hA 0 4 (4, .invokevirtual 17, 3, 5, 0, [0, 11, 144, 1], []) rfl rfl rfl ?_
  refine ⟨rfl, ?_⟩
  refine hC _ _ _ _ _ (bRnx_e (fun r3 s1 q4 k2 => ?_) (fun E s1 k2 => ?_)) h
  · show A (5, [.ref 11, .int (bn x1), .ref 154, .float 0], [.int (bn r3), .int (bn 0), .ref 154], s1)
    refine bGo hA 0 5 (7, .i2l, 1, 6, 0, [], []) rfl rfl rfl ?_
    refine bGo hA 0 6 (8, .lastore, 1, 7, 0, [], []) rfl rfl rfl ?_
    refine ⟨rfl, (bIxP (x := 0) (n := 1) (by decide) (by decide)), by decide, ?_⟩
    refine bEqSJ (x := 0) (by decide : bRg 0) ?_
    refine bGo hA 0 7 (9, .goto (6), 3, 8, 11, [], []) rfl rfl rfl ?_
    refine bGo hA 0 11 (15, .iconst (0), 1, 12, 0, [], [(0, 0)]) rfl rfl rfl ?_
    refine bEqI bl_0 ?_
    refine bGo hA 0 12 (16, .ireturn, 1, 0, 0, [1], []) rfl rfl rfl ?_
    exact k2
  · exact k2

theorem sq315_8 {lvl : Nat} {C : bCall} {Q : bPost} {A : bPt → Prop} (hC : bMono C) (hA : bClosed lvl bm315 C Q A) {v0 : Value} {v1 : Value} {v2 : Value} {v3 : Value} {σ : bSt}  
  (h : Q (.inl (some (.int (bn 1)))) σ) : A (8, [v0, v1, v2, v3], [.float 0], σ) := by
  refine bGo hA 0 8 (12, .astore_n 3, 1, 9, 0, [3], []) rfl rfl rfl ?_
  refine bGo hA 0 9 (13, .iconst (1), 1, 10, 0, [], [(1, 0)]) rfl rfl rfl ?_
  refine bEqI bl_1 ?_
  refine bGo hA 0 10 (14, .ireturn, 1, 11, 0, [1], []) rfl rfl rfl ?_
  exact h

theorem sq316_0 {lvl : Nat} {C : bCall} {Q : bPost} {A : bPt → Prop} (hC : bMono C) (hA : bClosed lvl bm316 C Q A) {x1 : Int} {x2 : Int} {σ : bSt}  (h_x1 : bRg x1) (h_x2 : bRg x2)
  (h : (C 145 [.ref 11, .int (bn x1), .int (bn x2)] σ (bRnx (fun r3 s1 => ((r3 = 0 → Q (.inl (some (.int (bn 0)))) (bwj s1 154 0 (Int64.ofNat 0))) ∧ (¬ r3 = 0 → Q (.inl (some (.int (bn 0)))) (bwj s1 154 0 (Int64.ofNat 1))))) (fun E s1 => (bRet [(0, 11, 12, 0), (0, 11, 15, 2)] 5 (fun _ _ => False) (fun h σ2 => A (h, [.ref 11, .int (bn x1), .int (bn x2), .ref 154, .float 0], [.float 0], σ2)) Q (.inr E) s1))))) : A (0, [.ref 11, .int (bn x1), .int (bn x2), .ref 154, .float 0], [], σ) := by
  refine bGo hA 0 0 (0, .aload_n 3, 1, 1, 0, [3], []) rfl rfl rfl ?_
  refine bGo hA 0 1 (1, .iconst (0), 1, 2, 0, [], [(0, 0)]) rfl rfl rfl ?_
  refine bEqI bl_0 ?_
  refine bGo hA 0 2 (2, .aload_n 0, 1, 3, 0, [0], []) rfl rfl rfl ?_
  refine bGo hA 0 3 (3, .iload_n 1, 1, 4, 0, [1], []) rfl rfl rfl ?_
  refine bGo hA 0 4 (4, .iload_n 2, 1, 5, 0, [2], []) rfl rfl rfl ?_
  refine bGo hA 0 5 (5, .invokevirtual 21, 3, 6, 0, [0, 11, 145, 2], []) rfl rfl rfl ?_
  refine ⟨rfl, ?_⟩
  refine hC _ _ _ _ _ (bRnx_e (fun r3 s1 q4 k2 => ?_) (fun E s1 k2 => ?_)) h
  · show A (6, [.ref 11, .int (bn x1), .int (bn x2), .ref 154, .float 0], [.int (bn r3), .int (bn 0), .ref 154], s1)
    refine bGo hA 0 6 (8, .ifCond .eq (7), 3, 7, 9, [], []) rfl rfl rfl ?_
    refine bB_eq0 (x := r3) q4 (fun c5 => ?_) (fun c5 => ?_)
    · refine bGo hA 0 9 (15, .lconst 0, 1, 10, 0, [0], []) rfl rfl rfl ?_
      refine bGo hA 0 10 (16, .lastore, 1, 11, 0, [], []) rfl rfl rfl ?_
      refine ⟨rfl, (bIxP (x := 0) (n := 1) (by decide) (by decide)), by decide, ?_⟩
      refine bEqSJ (x := 0) (by decide : bRg 0) ?_
      refine bGo hA 0 11 (17, .goto (11), 3, 12, 18, [], []) rfl rfl rfl ?_
      refine bGo hA 1 2 (28, .iconst (0), 1, 19, 0, [], [(0, 0)]) rfl rfl rfl ?_
      refine bEqI bl_0 ?_
      refine bGo hA 1 3 (29, .ireturn, 1, 0, 0, [1], []) rfl rfl rfl ?_
      exact (k2.1 c5)
    · refine bGo hA 0 7 (11, .lconst 1, 1, 8, 0, [1], []) rfl rfl rfl ?_
      refine bGo hA 0 8 (12, .goto (4), 3, 9, 10, [], []) rfl rfl rfl ?_
      refine bGo hA 0 10 (16, .lastore, 1, 11, 0, [], []) rfl rfl rfl ?_
      refine ⟨rfl, (bIxP (x := 0) (n := 1) (by decide) (by decide)), by decide, ?_⟩
      refine bEqSJ (x := 0) (by decide : bRg 0) ?_
      refine bGo hA 0 11 (17, .goto (11), 3, 12, 18, [], []) rfl rfl rfl ?_
      refine bGo hA 1 2 (28, .iconst (0), 1, 19, 0, [], [(0, 0)]) rfl rfl rfl ?_
      refine bEqI bl_0 ?_
      refine bGo hA 1 3 (29, .ireturn, 1, 0, 0, [1], []) rfl rfl rfl ?_
      exact (k2.2 c5)
  · exact k2

theorem sq316_12 {lvl : Nat} {C : bCall} {Q : bPost} {A : bPt → Prop} (hC : bMono C) (hA : bClosed lvl bm316 C Q A) {v0 : Value} {v1 : Value} {v2 : Value} {v3 : Value} {v4 : Value} {σ : bSt}  
  (h : Q (.inl (some (.int (bn 1)))) σ) : A (12, [v0, v1, v2, v3, v4], [.float 0], σ) := by
  refine bGo hA 0 12 (20, .astore 4, 2, 13, 0, [4], []) rfl rfl rfl ?_
  refine bGo hA 0 13 (22, .iconst (1), 1, 14, 0, [], [(1, 0)]) rfl rfl rfl ?_
  refine bEqI bl_1 ?_
  refine bGo hA 0 14 (23, .ireturn, 1, 15, 0, [1], []) rfl rfl rfl ?_
  exact h

theorem sq316_15 {lvl : Nat} {C : bCall} {Q : bPost} {A : bPt → Prop} (hC : bMono C) (hA : bClosed lvl bm316 C Q A) {v0 : Value} {v1 : Value} {v2 : Value} {v3 : Value} {v4 : Value} {σ : bSt}  
  (h : Q (.inl (some (.int (bn 2)))) σ) : A (15, [v0, v1, v2, v3, v4], [.float 0], σ) := by
  refine bGo hA 0 15 (24, .astore 4, 2, 16, 0, [4], []) rfl rfl rfl ?_
  refine bGo hA 1 0 (26, .iconst (2), 1, 17, 0, [], [(2, 0)]) rfl rfl rfl ?_
  refine bEqI bl_2 ?_
  refine bGo hA 1 1 (27, .ireturn, 1, 18, 0, [1], []) rfl rfl rfl ?_
  exact h

theorem sq317_0 {lvl : Nat} {C : bCall} {Q : bPost} {A : bPt → Prop} (hC : bMono C) (hA : bClosed lvl bm317 C Q A) {x1 : Int} {σ : bSt}  (h_x1 : bRg x1)
  (h : (C 146 [.ref 11, .int (bn x1)] σ (bRnx (fun r3 s1 => Q (.inl (some (.int (bn 0)))) (bwj s1 154 0 (bL r3))) (fun E s1 => (bRet [(0, 7, 8, 0)] 4 (fun _ _ => False) (fun h σ2 => A (h, [.ref 11, .int (bn x1), .ref 154, .float 0], [.float 0], σ2)) Q (.inr E) s1))))) : A (0, [.ref 11, .int (bn x1), .ref 154, .float 0], [], σ) := by
  refine bGo hA 0 0 (0, .aload_n 2, 1, 1, 0, [2], []) rfl rfl rfl ?_
  refine bGo hA 0 1 (1, .iconst (0), 1, 2, 0, [], [(0, 0)]) rfl rfl rfl ?_
  refine bEqI bl_0 ?_
  refine bGo hA 0 2 (2, .aload_n 0, 1, 3, 0, [0], []) rfl rfl rfl ?_
  refine bGo hA 0 3 (3, .iload_n 1, 1, 4, 0, [1], []) rfl rfl rfl ?_
  refine bGo hA 0 4 (4, .invokevirtual 27, 3, 5, 0, [0, 11, 146, 1], []) rfl rfl rfl ?_
  refine ⟨rfl, ?_⟩
  refine hC _ _ _ _ _ (bRnx_e (fun r3 s1 q4 k2 => ?_) (fun E s1 k2 => ?_)) h
  · show A (5, [.ref 11, .int (bn x1), .ref 154, .float 0], [.int (bn r3), .int (bn 0), .ref 154], s1)
    refine bGo hA 0 5 (7, .i2l, 1, 6, 0, [], []) rfl rfl rfl ?_
    refine bGo hA 0 6 (8, .lastore, 1, 7, 0, [], []) rfl rfl rfl ?_
    refine ⟨rfl, (bIxP (x := 0) (n := 1) (by decide) (by decide)), by decide, ?_⟩
    refine bEqSJ (x := 0) (by decide : bRg 0) ?_
    refine bGo hA 0 7 (9, .goto (6), 3, 8, 11, [], []) rfl rfl rfl ?_
    refine bGo hA 0 11 (15, .iconst (0), 1, 12, 0, [], [(0, 0)]) rfl rfl rfl ?_
    refine bEqI bl_0 ?_
    refine bGo hA 0 12 (16, .ireturn, 1, 0, 0, [1], []) rfl rfl rfl ?_
    exact k2
  · exact k2

theorem sq317_8 {lvl : Nat} {C : bCall} {Q : bPost} {A : bPt → Prop} (hC : bMono C) (hA : bClosed lvl bm317 C Q A) {v0 : Value} {v1 : Value} {v2 : Value} {v3 : Value} {σ : bSt}  
  (h : Q (.inl (some (.int (bn 1)))) σ) : A (8, [v0, v1, v2, v3], [.float 0], σ) := by
  refine bGo hA 0 8 (12, .astore_n 3, 1, 9, 0, [3], []) rfl rfl rfl ?_
  refine bGo hA 0 9 (13, .iconst (1), 1, 10, 0, [], [(1, 0)]) rfl rfl rfl ?_
  refine bEqI bl_1 ?_
  refine bGo hA 0 10 (14, .ireturn, 1, 11, 0, [1], []) rfl rfl rfl ?_
  exact h

theorem sq318_0 {lvl : Nat} {C : bCall} {Q : bPost} {A : bPt → Prop} (hC : bMono C) (hA : bClosed lvl bm318 C Q A) {x1 : Int} {x2 : Int} {x3 : Int} {σ : bSt}  (h_x1 : bRg x1) (h_x2 : bRg x2) (h_x3 : bRg x3)
  (h : (C 147 [.ref 11, .int (bn x1), .int (bn x2), .int (bn x3)] σ (bRjx (fun r3 s1 => Q (.inl (some (.int (bn 0)))) (bwj s1 154 0 r3)) (fun E s1 => (bRet [(0, 8, 9, 0), (0, 8, 12, 1), (0, 8, 15, 2)] 6 (fun _ _ => False) (fun h σ2 => A (h, [.ref 11, .int (bn x1), .int (bn x2), .int (bn x3), .ref 154, .float 0], [.float 0], σ2)) Q (.inr E) s1))))) : A (0, [.ref 11, .int (bn x1), .int (bn x2), .int (bn x3), .ref 154, .float 0], [], σ) := by
  refine bGo hA 0 0 (0, .aload 4, 2, 1, 0, [4], []) rfl rfl rfl ?_
  refine bGo hA 0 1 (2, .iconst (0), 1, 2, 0, [], [(0, 0)]) rfl rfl rfl ?_
  refine bEqI bl_0 ?_
  refine bGo hA 0 2 (3, .aload_n 0, 1, 3, 0, [0], []) rfl rfl rfl ?_
  refine bGo hA 0 3 (4, .iload_n 1, 1, 4, 0, [1], []) rfl rfl rfl ?_
  refine bGo hA 0 4 (5, .iload_n 2, 1, 5, 0, [2], []) rfl rfl rfl ?_
  refine bGo hA 0 5 (6, .iload_n 3, 1, 6, 0, [3], []) rfl rfl rfl ?_
  refine bGo hA 0 6 (7, .invokevirtual 30, 3, 7, 0, [0, 11, 147, 3], []) rfl rfl rfl ?_
  refine ⟨rfl, ?_⟩
  refine hC _ _ _ _ _ (bRjx_e (fun r3 s1 k2 => ?_) (fun E s1 k2 => ?_)) h
  · show A (7, [.ref 11, .int (bn x1), .int (bn x2), .int (bn x3), .ref 154, .float 0], [.long r3, .int (bn 0), .ref 154], s1)
    refine bGo hA 0 7 (10, .lastore, 1, 8, 0, [], []) rfl rfl rfl ?_
    refine ⟨rfl, (bIxP (x := 0) (n := 1) (by decide) (by decide)), by decide, ?_⟩
    refine bEqSJ (x := 0) (by decide : bRg 0) ?_
    refine bGo hA 0 8 (11, .goto (15), 3, 9, 18, [], []) rfl rfl rfl ?_
    refine bGo hA 1 2 (26, .iconst (0), 1, 19, 0, [], [(0, 0)]) rfl rfl rfl ?_
    refine bEqI bl_0 ?_
    refine bGo hA 1 3 (27, .ireturn, 1, 0, 0, [1], []) rfl rfl rfl ?_
    exact k2
  · exact k2

theorem sq318_9 {lvl : Nat} {C : bCall} {Q : bPost} {A : bPt → Prop} (hC : bMono C) (hA : bClosed lvl bm318 C Q A) {v0 : Value} {v1 : Value} {v2 : Value} {v3 : Value} {v4 : Value} {v5 : Value} {σ : bSt}  
  (h : Q (.inl (some (.int (bn 1)))) σ) : A (9, [v0, v1, v2, v3, v4, v5], [.float 0], σ) := by
  refine bGo hA 0 9 (14, .astore 5, 2, 10, 0, [5], []) rfl rfl rfl ?_
  refine bGo hA 0 10 (16, .iconst (1), 1, 11, 0, [], [(1, 0)]) rfl rfl rfl ?_
  refine bEqI bl_1 ?_
  refine bGo hA 0 11 (17, .ireturn, 1, 12, 0, [1], []) rfl rfl rfl ?_
  exact h

theorem sq318_12 {lvl : Nat} {C : bCall} {Q : bPost} {A : bPt → Prop} (hC : bMono C) (hA : bClosed lvl bm318 C Q A) {v0 : Value} {v1 : Value} {v2 : Value} {v3 : Value} {v4 : Value} {v5 : Value} {σ : bSt}  
  (h : Q (.inl (some (.int (bn 2)))) σ) : A (12, [v0, v1, v2, v3, v4, v5], [.float 0], σ) := by
  refine bGo hA 0 12 (18, .astore 5, 2, 13, 0, [5], []) rfl rfl rfl ?_
  refine bGo hA 0 13 (20, .iconst (2), 1, 14, 0, [], [(2, 0)]) rfl rfl rfl ?_
  refine bEqI bl_2 ?_
  refine bGo hA 0 14 (21, .ireturn, 1, 15, 0, [1], []) rfl rfl rfl ?_
  exact h

theorem sq318_15 {lvl : Nat} {C : bCall} {Q : bPost} {A : bPt → Prop} (hC : bMono C) (hA : bClosed lvl bm318 C Q A) {v0 : Value} {v1 : Value} {v2 : Value} {v3 : Value} {v4 : Value} {v5 : Value} {σ : bSt}  
  (h : Q (.inl (some (.int (bn 3)))) σ) : A (15, [v0, v1, v2, v3, v4, v5], [.float 0], σ) := by
  refine bGo hA 0 15 (22, .astore 5, 2, 16, 0, [5], []) rfl rfl rfl ?_
  refine bGo hA 1 0 (24, .iconst (3), 1, 17, 0, [], [(3, 0)]) rfl rfl rfl ?_
  refine bEqI bl_3 ?_
  refine bGo hA 1 1 (25, .ireturn, 1, 18, 0, [1], []) rfl rfl rfl ?_
  exact h

theorem sq319_0 {lvl : Nat} {C : bCall} {Q : bPost} {A : bPt → Prop} (hC : bMono C) (hA : bClosed lvl bm319 C Q A) {x1 : Int} {x2 : Int} {x3 : Int} {x4 : Int} {x5 : Int} {σ : bSt}  (h_x1 : bRg x1) (h_x2 : bRg x2) (h_x3 : bRg x3) (h_x4 : bRg x4) (h_x5 : bRg x5)
  (h : (C 148 [.ref 11, .int (bn x1), .int (bn x2), .int (bn x3), .int (bn x4), .int (bn x5)] σ (bRnx (fun r3 s1 => Q (.inl (some (.int (bn 0)))) (bwj s1 154 0 (bL r3))) (fun E s1 => (bRet [(0, 11, 12, 0), (0, 11, 15, 1), (0, 11, 18, 2)] 8 (fun _ _ => False) (fun h σ2 => A (h, [.ref 11, .int (bn x1), .int (bn x2), .int (bn x3), .int (bn x4), .int (bn x5), .ref 154, .float 0], [.float 0], σ2)) Q (.inr E) s1))))) : A (0, [.ref 11, .int (bn x1), .int (bn x2), .int (bn x3), .int (bn x4), .int (bn x5), .ref 154, .float 0], [], σ) := by
  refine bGo hA 0 0 (0, .aload 6, 2, 1, 0, [6], []) rfl rfl rfl ?_
  refine bGo hA 0 1 (2, .iconst (0), 1, 2, 0, [], [(0, 0)]) rfl rfl rfl ?_
  refine bEqI bl_0 ?_
  refine bGo hA 0 2 (3, .aload_n 0, 1, 3, 0, [0], []) rfl rfl rfl ?_
  refine bGo hA 0 3 (4, .iload_n 1, 1, 4, 0, [1], []) rfl rfl rfl ?_
  refine bGo hA 0 4 (5, .iload_n 2, 1, 5, 0, [2], []) rfl rfl rfl ?_
  refine bGo hA 0 5 (6, .iload_n 3, 1, 6, 0, [3], []) rfl rfl rfl ?_
  refine bGo hA 0 6 (7, .iload 4, 2, 7, 0, [4], []) rfl rfl rfl ?_
  refine bGo hA 0 7 (9, .iload 5, 2, 8, 0, [5], []) rfl rfl rfl ?_
  refine bGo hA 0 8 (11, .invokevirtual 34, 3, 9, 0, [0, 11, 148, 5], []) rfl rfl rfl ?_
  refine ⟨rfl, ?_⟩
  refine hC _ _ _ _ _ (bRnx_e (fun r3 s1 q4 k2 => ?_) (fun E s1 k2 => ?_)) h
  · show A (9, [.ref 11, .int (bn x1), .int (bn x2), .int (bn x3), .int (bn x4), .int (bn x5), .ref 154, .float 0], [.int (bn r3), .int (bn 0), .ref 154], s1)
    refine bGo hA 0 9 (14, .i2l, 1, 10, 0, [], []) rfl rfl rfl ?_
    refine bGo hA 0 10 (15, .lastore, 1, 11, 0, [], []) rfl rfl rfl ?_
    refine ⟨rfl, (bIxP (x := 0) (n := 1) (by decide) (by decide)), by decide, ?_⟩
    refine bEqSJ (x := 0) (by decide : bRg 0) ?_
    refine bGo hA 0 11 (16, .goto (15), 3, 12, 21, [], []) rfl rfl rfl ?_
    refine bGo hA 1 5 (31, .iconst (0), 1, 22, 0, [], [(0, 0)]) rfl rfl rfl ?_
    refine bEqI bl_0 ?_
    refine bGo hA 1 6 (32, .ireturn, 1, 0, 0, [1], []) rfl rfl rfl ?_
    exact k2
  · exact k2

theorem sq319_12 {lvl : Nat} {C : bCall} {Q : bPost} {A : bPt → Prop} (hC : bMono C) (hA : bClosed lvl bm319 C Q A) {v0 : Value} {v1 : Value} {v2 : Value} {v3 : Value} {v4 : Value} {v5 : Value} {v6 : Value} {v7 : Value} {σ : bSt}  
  (h : Q (.inl (some (.int (bn 1)))) σ) : A (12, [v0, v1, v2, v3, v4, v5, v6, v7], [.float 0], σ) := by
  refine bGo hA 0 12 (19, .astore 7, 2, 13, 0, [7], []) rfl rfl rfl ?_
  refine bGo hA 0 13 (21, .iconst (1), 1, 14, 0, [], [(1, 0)]) rfl rfl rfl ?_
  refine bEqI bl_1 ?_
  refine bGo hA 0 14 (22, .ireturn, 1, 15, 0, [1], []) rfl rfl rfl ?_
  exact h

theorem sq319_15 {lvl : Nat} {C : bCall} {Q : bPost} {A : bPt → Prop} (hC : bMono C) (hA : bClosed lvl bm319 C Q A) {v0 : Value} {v1 : Value} {v2 : Value} {v3 : Value} {v4 : Value} {v5 : Value} {v6 : Value} {v7 : Value} {σ : bSt}  
  (h : Q (.inl (some (.int (bn 2)))) σ) : A (15, [v0, v1, v2, v3, v4, v5, v6, v7], [.float 0], σ) := by
  refine bGo hA 0 15 (23, .astore 7, 2, 16, 0, [7], []) rfl rfl rfl ?_
  refine bGo hA 1 0 (25, .iconst (2), 1, 17, 0, [], [(2, 0)]) rfl rfl rfl ?_
  refine bEqI bl_2 ?_
  refine bGo hA 1 1 (26, .ireturn, 1, 18, 0, [1], []) rfl rfl rfl ?_
  exact h

theorem sq319_18 {lvl : Nat} {C : bCall} {Q : bPost} {A : bPt → Prop} (hC : bMono C) (hA : bClosed lvl bm319 C Q A) {v0 : Value} {v1 : Value} {v2 : Value} {v3 : Value} {v4 : Value} {v5 : Value} {v6 : Value} {v7 : Value} {σ : bSt}  
  (h : Q (.inl (some (.int (bn 3)))) σ) : A (18, [v0, v1, v2, v3, v4, v5, v6, v7], [.float 0], σ) := by
  refine bGo hA 1 2 (27, .astore 7, 2, 19, 0, [7], []) rfl rfl rfl ?_
  refine bGo hA 1 3 (29, .iconst (3), 1, 20, 0, [], [(3, 0)]) rfl rfl rfl ?_
  refine bEqI bl_3 ?_
  refine bGo hA 1 4 (30, .ireturn, 1, 21, 0, [1], []) rfl rfl rfl ?_
  exact h

theorem sq320_0 {lvl : Nat} {C : bCall} {Q : bPost} {A : bPt → Prop} (hC : bMono C) (hA : bClosed lvl bm320 C Q A) {x1 : Int} {x2 : Int} {σ : bSt}  (h_x1 : bRg x1) (h_x2 : bRg x2)
  (h : (C 149 [.ref 11, .int (bn x1), .int (bn x2)] σ (bRnx (fun r3 s1 => Q (.inl (some (.int (bn 0)))) (bwj s1 154 0 (bL r3))) (fun E s1 => (bRet [(0, 8, 9, 0)] 5 (fun _ _ => False) (fun h σ2 => A (h, [.ref 11, .int (bn x1), .int (bn x2), .ref 154, .float 0], [.float 0], σ2)) Q (.inr E) s1))))) : A (0, [.ref 11, .int (bn x1), .int (bn x2), .ref 154, .float 0], [], σ) := by
  refine bGo hA 0 0 (0, .aload_n 3, 1, 1, 0, [3], []) rfl rfl rfl ?_
  refine bGo hA 0 1 (1, .iconst (0), 1, 2, 0, [], [(0, 0)]) rfl rfl rfl ?_
  refine bEqI bl_0 ?_
  refine bGo hA 0 2 (2, .aload_n 0, 1, 3, 0, [0], []) rfl rfl rfl ?_
  refine bGo hA 0 3 (3, .iload_n 1, 1, 4, 0, [1], []) rfl rfl rfl ?_
  refine bGo hA 0 4 (4, .iload_n 2, 1, 5, 0, [2], []) rfl rfl rfl ?_
  refine bGo hA 0 5 (5, .invokevirtual 38, 3, 6, 0, [0, 11, 149, 2], []) rfl rfl rfl ?_
  refine ⟨rfl, ?_⟩
  refine hC _ _ _ _ _ (bRnx_e (fun r3 s1 q4 k2 => ?_) (fun E s1 k2 => ?_)) h
  · show A (6, [.ref 11, .int (bn x1), .int (bn x2), .ref 154, .float 0], [.int (bn r3), .int (bn 0), .ref 154], s1)
    refine bGo hA 0 6 (8, .i2l, 1, 7, 0, [], []) rfl rfl rfl ?_
    refine bGo hA 0 7 (9, .lastore, 1, 8, 0, [], []) rfl rfl rfl ?_
    refine ⟨rfl, (bIxP (x := 0) (n := 1) (by decide) (by decide)), by decide, ?_⟩
    refine bEqSJ (x := 0) (by decide : bRg 0) ?_
    refine bGo hA 0 8 (10, .goto (7), 3, 9, 12, [], []) rfl rfl rfl ?_
    refine bGo hA 0 12 (17, .iconst (0), 1, 13, 0, [], [(0, 0)]) rfl rfl rfl ?_
    refine bEqI bl_0 ?_
    refine bGo hA 0 13 (18, .ireturn, 1, 0, 0, [1], []) rfl rfl rfl ?_
    exact k2
  · exact k2

theorem sq320_9 {lvl : Nat} {C : bCall} {Q : bPost} {A : bPt → Prop} (hC : bMono C) (hA : bClosed lvl bm320 C Q A) {v0 : Value} {v1 : Value} {v2 : Value} {v3 : Value} {v4 : Value} {σ : bSt}  
  (h : Q (.inl (some (.int (bn 1)))) σ) : A (9, [v0, v1, v2, v3, v4], [.float 0], σ) := by
  refine bGo hA 0 9 (13, .astore 4, 2, 10, 0, [4], []) rfl rfl rfl ?_
  refine bGo hA 0 10 (15, .iconst (1), 1, 11, 0, [], [(1, 0)]) rfl rfl rfl ?_
  refine bEqI bl_1 ?_
  refine bGo hA 0 11 (16, .ireturn, 1, 12, 0, [1], []) rfl rfl rfl ?_
  exact h

theorem sq321_0 {lvl : Nat} {C : bCall} {Q : bPost} {A : bPt → Prop} (hC : bMono C) (hA : bClosed lvl bm321 C Q A) {x1 : Int} {x2 : Int} {σ : bSt}  (h_x1 : bRg x1) (h_x2 : bRg x2)
  (h : (C 150 [.ref 11, .int (bn x1), .int (bn x2)] σ (bRnx (fun r3 s1 => Q (.inl (some (.int (bn 0)))) (bwj s1 154 0 (bL r3))) (fun E s1 => (bRet [(0, 8, 9, 0)] 5 (fun _ _ => False) (fun h σ2 => A (h, [.ref 11, .int (bn x1), .int (bn x2), .ref 154, .float 0], [.float 0], σ2)) Q (.inr E) s1))))) : A (0, [.ref 11, .int (bn x1), .int (bn x2), .ref 154, .float 0], [], σ) := by
  refine bGo hA 0 0 (0, .aload_n 3, 1, 1, 0, [3], []) rfl rfl rfl ?_
  refine bGo hA 0 1 (1, .iconst (0), 1, 2, 0, [], [(0, 0)]) rfl rfl rfl ?_
  refine bEqI bl_0 ?_
  refine bGo hA 0 2 (2, .aload_n 0, 1, 3, 0, [0], []) rfl rfl rfl ?_
  refine bGo hA 0 3 (3, .iload_n 1, 1, 4, 0, [1], []) rfl rfl rfl ?_
  refine bGo hA 0 4 (4, .iload_n 2, 1, 5, 0, [2], []) rfl rfl rfl ?_
  refine bGo hA 0 5 (5, .invokevirtual 41, 3, 6, 0, [0, 11, 150, 2], []) rfl rfl rfl ?_
  refine ⟨rfl, ?_⟩
  refine hC _ _ _ _ _ (bRnx_e (fun r3 s1 q4 k2 => ?_) (fun E s1 k2 => ?_)) h
  · show A (6, [.ref 11, .int (bn x1), .int (bn x2), .ref 154, .float 0], [.int (bn r3), .int (bn 0), .ref 154], s1)
    refine bGo hA 0 6 (8, .i2l, 1, 7, 0, [], []) rfl rfl rfl ?_
    refine bGo hA 0 7 (9, .lastore, 1, 8, 0, [], []) rfl rfl rfl ?_
    refine ⟨rfl, (bIxP (x := 0) (n := 1) (by decide) (by decide)), by decide, ?_⟩
    refine bEqSJ (x := 0) (by decide : bRg 0) ?_
    refine bGo hA 0 8 (10, .goto (7), 3, 9, 12, [], []) rfl rfl rfl ?_
    refine bGo hA 0 12 (17, .iconst (0), 1, 13, 0, [], [(0, 0)]) rfl rfl rfl ?_
    refine bEqI bl_0 ?_
    refine bGo hA 0 13 (18, .ireturn, 1, 0, 0, [1], []) rfl rfl rfl ?_
    exact k2
  · exact k2

theorem sq321_9 {lvl : Nat} {C : bCall} {Q : bPost} {A : bPt → Prop} (hC : bMono C) (hA : bClosed lvl bm321 C Q A) {v0 : Value} {v1 : Value} {v2 : Value} {v3 : Value} {v4 : Value} {σ : bSt}  
  (h : Q (.inl (some (.int (bn 1)))) σ) : A (9, [v0, v1, v2, v3, v4], [.float 0], σ) := by
  refine bGo hA 0 9 (13, .astore 4, 2, 10, 0, [4], []) rfl rfl rfl ?_
  refine bGo hA 0 10 (15, .iconst (1), 1, 11, 0, [], [(1, 0)]) rfl rfl rfl ?_
  refine bEqI bl_1 ?_
  refine bGo hA 0 11 (16, .ireturn, 1, 12, 0, [1], []) rfl rfl rfl ?_
  exact h

theorem sq322_0 {lvl : Nat} {C : bCall} {Q : bPost} {A : bPt → Prop} (hC : bMono C) (hA : bClosed lvl bm322 C Q A) {x1 : Int} {x2 : Int} {x3 : Int} {σ : bSt}  (h_x1 : bRg x1) (h_x2 : bRg x2) (h_x3 : bRg x3)
  (h : (C 151 [.ref 11, .int (bn x1), .int (bn x2), .int (bn x3)] σ (bRnx (fun r3 s1 => Q (.inl (some (.int (bn 0)))) (bwj s1 154 0 (bL r3))) (fun E s1 => (bRet [(0, 9, 10, 0)] 6 (fun _ _ => False) (fun h σ2 => A (h, [.ref 11, .int (bn x1), .int (bn x2), .int (bn x3), .ref 154, .float 0], [.float 0], σ2)) Q (.inr E) s1))))) : A (0, [.ref 11, .int (bn x1), .int (bn x2), .int (bn x3), .ref 154, .float 0], [], σ) := by
  refine bGo hA 0 0 (0, .aload 4, 2, 1, 0, [4], []) rfl rfl rfl ?_
  refine bGo hA 0 1 (2, .iconst (0), 1, 2, 0, [], [(0, 0)]) rfl rfl rfl ?_
  refine bEqI bl_0 ?_
  refine bGo hA 0 2 (3, .aload_n 0, 1, 3, 0, [0], []) rfl rfl rfl ?_
  refine bGo hA 0 3 (4, .iload_n 1, 1, 4, 0, [1], []) rfl rfl rfl ?_
  refine bGo hA 0 4 (5, .iload_n 2, 1, 5, 0, [2], []) rfl rfl rfl ?_
  refine bGo hA 0 5 (6, .iload_n 3, 1, 6, 0, [3], []) rfl rfl rfl ?_
  refine bGo hA 0 6 (7, .invokevirtual 44, 3, 7, 0, [0, 11, 151, 3], []) rfl rfl rfl ?_
  refine ⟨rfl, ?_⟩
  refine hC _ _ _ _ _ (bRnx_e (fun r3 s1 q4 k2 => ?_) (fun E s1 k2 => ?_)) h
  · show A (7, [.ref 11, .int (bn x1), .int (bn x2), .int (bn x3), .ref 154, .float 0], [.int (bn r3), .int (bn 0), .ref 154], s1)
    refine bGo hA 0 7 (10, .i2l, 1, 8, 0, [], []) rfl rfl rfl ?_
    refine bGo hA 0 8 (11, .lastore, 1, 9, 0, [], []) rfl rfl rfl ?_
    refine ⟨rfl, (bIxP (x := 0) (n := 1) (by decide) (by decide)), by decide, ?_⟩
    refine bEqSJ (x := 0) (by decide : bRg 0) ?_
    refine bGo hA 0 9 (12, .goto (7), 3, 10, 13, [], []) rfl rfl rfl ?_
    refine bGo hA 0 13 (19, .iconst (0), 1, 14, 0, [], [(0, 0)]) rfl rfl rfl ?_
    refine bEqI bl_0 ?_
    refine bGo hA 0 14 (20, .ireturn, 1, 0, 0, [1], []) rfl rfl rfl ?_
    exact k2
  · exact k2

theorem sq322_10 {lvl : Nat} {C : bCall} {Q : bPost} {A : bPt → Prop} (hC : bMono C) (hA : bClosed lvl bm322 C Q A) {v0 : Value} {v1 : Value} {v2 : Value} {v3 : Value} {v4 : Value} {v5 : Value} {σ : bSt}  
  (h : Q (.inl (some (.int (bn 1)))) σ) : A (10, [v0, v1, v2, v3, v4, v5], [.float 0], σ) := by
  refine bGo hA 0 10 (15, .astore 5, 2, 11, 0, [5], []) rfl rfl rfl ?_
  refine bGo hA 0 11 (17, .iconst (1), 1, 12, 0, [], [(1, 0)]) rfl rfl rfl ?_
  refine bEqI bl_1 ?_
  refine bGo hA 0 12 (18, .ireturn, 1, 13, 0, [1], []) rfl rfl rfl ?_
  exact h

theorem sq323_0 {lvl : Nat} {C : bCall} {Q : bPost} {A : bPt → Prop} (hC : bMono C) (hA : bClosed lvl bm323 C Q A) {x1 : Int} {x2 : Int} {σ : bSt}  (h_x1 : bRg x1) (h_x2 : bRg x2)
  (h : (C 152 [.ref 11, .int (bn x1), .int (bn x2)] σ (bRnx (fun r3 s1 => Q (.inl (some (.int (bn 0)))) (bwj s1 154 0 (bL r3))) (fun E s1 => (bRet [(0, 8, 9, 0)] 5 (fun _ _ => False) (fun h σ2 => A (h, [.ref 11, .int (bn x1), .int (bn x2), .ref 154, .float 0], [.float 0], σ2)) Q (.inr E) s1))))) : A (0, [.ref 11, .int (bn x1), .int (bn x2), .ref 154, .float 0], [], σ) := by
  refine bGo hA 0 0 (0, .aload_n 3, 1, 1, 0, [3], []) rfl rfl rfl ?_
  refine bGo hA 0 1 (1, .iconst (0), 1, 2, 0, [], [(0, 0)]) rfl rfl rfl ?_
  refine bEqI bl_0 ?_
  refine bGo hA 0 2 (2, .aload_n 0, 1, 3, 0, [0], []) rfl rfl rfl ?_
  refine bGo hA 0 3 (3, .iload_n 1, 1, 4, 0, [1], []) rfl rfl rfl ?_
  refine bGo hA 0 4 (4, .iload_n 2, 1, 5, 0, [2], []) rfl rfl rfl ?_
  refine bGo hA 0 5 (5, .invokevirtual 48, 3, 6, 0, [0, 11, 152, 2], []) rfl rfl rfl ?_
  refine ⟨rfl, ?_⟩
  refine hC _ _ _ _ _ (bRnx_e (fun r3 s1 q4 k2 => ?_) (fun E s1 k2 => ?_)) h
  · show A (6, [.ref 11, .int (bn x1), .int (bn x2), .ref 154, .float 0], [.int (bn r3), .int (bn 0), .ref 154], s1)
    refine bGo hA 0 6 (8, .i2l, 1, 7, 0, [], []) rfl rfl rfl ?_
    refine bGo hA 0 7 (9, .lastore, 1, 8, 0, [], []) rfl rfl rfl ?_
    refine ⟨rfl, (bIxP (x := 0) (n := 1) (by decide) (by decide)), by decide, ?_⟩
    refine bEqSJ (x := 0) (by decide : bRg 0) ?_
    refine bGo hA 0 8 (10, .goto (7), 3, 9, 12, [], []) rfl rfl rfl ?_
    refine bGo hA 0 12 (17, .iconst (0), 1, 13, 0, [], [(0, 0)]) rfl rfl rfl ?_
    refine bEqI bl_0 ?_
    refine bGo hA 0 13 (18, .ireturn, 1, 0, 0, [1], []) rfl rfl rfl ?_
    exact k2
  · exact k2

theorem sq323_9 {lvl : Nat} {C : bCall} {Q : bPost} {A : bPt → Prop} (hC : bMono C) (hA : bClosed lvl bm323 C Q A) {v0 : Value} {v1 : Value} {v2 : Value} {v3 : Value} {v4 : Value} {σ : bSt}  
  (h : Q (.inl (some (.int (bn 1)))) σ) : A (9, [v0, v1, v2, v3, v4], [.float 0], σ) := by
  refine bGo hA 0 9 (13, .astore 4, 2, 10, 0, [4], []) rfl rfl rfl ?_
  refine bGo hA 0 10 (15, .iconst (1), 1, 11, 0, [], [(1, 0)]) rfl rfl rfl ?_
  refine bEqI bl_1 ?_
  refine bGo hA 0 11 (16, .ireturn, 1, 12, 0, [1], []) rfl rfl rfl ?_
  exact h

theorem sq324_0 {lvl : Nat} {C : bCall} {Q : bPost} {A : bPt → Prop} (hC : bMono C) (hA : bClosed lvl bm324 C Q A) {x1 : Int} {x2 : Int} {σ : bSt}  (h_x1 : bRg x1) (h_x2 : bRg x2)
  (h : (C 153 [.ref 11, .int (bn x1), .int (bn x2)] σ (bRnx (fun r3 s1 => Q (.inl (some (.int (bn 0)))) (bwj s1 154 0 (bL r3))) (fun E s1 => (bRet [(0, 8, 9, 0), (0, 8, 12, 1)] 5 (fun _ _ => False) (fun h σ2 => A (h, [.ref 11, .int (bn x1), .int (bn x2), .ref 154, .float 0], [.float 0], σ2)) Q (.inr E) s1))))) : A (0, [.ref 11, .int (bn x1), .int (bn x2), .ref 154, .float 0], [], σ) := by
  refine bGo hA 0 0 (0, .aload_n 3, 1, 1, 0, [3], []) rfl rfl rfl ?_
  refine bGo hA 0 1 (1, .iconst (0), 1, 2, 0, [], [(0, 0)]) rfl rfl rfl ?_
  refine bEqI bl_0 ?_
  refine bGo hA 0 2 (2, .aload_n 0, 1, 3, 0, [0], []) rfl rfl rfl ?_
  refine bGo hA 0 3 (3, .iload_n 1, 1, 4, 0, [1], []) rfl rfl rfl ?_
  refine bGo hA 0 4 (4, .iload_n 2, 1, 5, 0, [2], []) rfl rfl rfl ?_
  refine bGo hA 0 5 (5, .invokevirtual 51, 3, 6, 0, [0, 11, 153, 2], []) rfl rfl rfl ?_
  refine ⟨rfl, ?_⟩
  refine hC _ _ _ _ _ (bRnx_e (fun r3 s1 q4 k2 => ?_) (fun E s1 k2 => ?_)) h
  · show A (6, [.ref 11, .int (bn x1), .int (bn x2), .ref 154, .float 0], [.int (bn r3), .int (bn 0), .ref 154], s1)
    refine bGo hA 0 6 (8, .i2l, 1, 7, 0, [], []) rfl rfl rfl ?_
    refine bGo hA 0 7 (9, .lastore, 1, 8, 0, [], []) rfl rfl rfl ?_
    refine ⟨rfl, (bIxP (x := 0) (n := 1) (by decide) (by decide)), by decide, ?_⟩
    refine bEqSJ (x := 0) (by decide : bRg 0) ?_
    refine bGo hA 0 8 (10, .goto (11), 3, 9, 15, [], []) rfl rfl rfl ?_
    refine bGo hA 0 15 (21, .iconst (0), 1, 16, 0, [], [(0, 0)]) rfl rfl rfl ?_
    refine bEqI bl_0 ?_
    refine bGo hA 1 0 (22, .ireturn, 1, 0, 0, [1], []) rfl rfl rfl ?_
    exact k2
  · exact k2

theorem sq324_9 {lvl : Nat} {C : bCall} {Q : bPost} {A : bPt → Prop} (hC : bMono C) (hA : bClosed lvl bm324 C Q A) {v0 : Value} {v1 : Value} {v2 : Value} {v3 : Value} {v4 : Value} {σ : bSt}  
  (h : Q (.inl (some (.int (bn 1)))) σ) : A (9, [v0, v1, v2, v3, v4], [.float 0], σ) := by
  refine bGo hA 0 9 (13, .astore 4, 2, 10, 0, [4], []) rfl rfl rfl ?_
  refine bGo hA 0 10 (15, .iconst (1), 1, 11, 0, [], [(1, 0)]) rfl rfl rfl ?_
  refine bEqI bl_1 ?_
  refine bGo hA 0 11 (16, .ireturn, 1, 12, 0, [1], []) rfl rfl rfl ?_
  exact h

theorem sq324_12 {lvl : Nat} {C : bCall} {Q : bPost} {A : bPt → Prop} (hC : bMono C) (hA : bClosed lvl bm324 C Q A) {v0 : Value} {v1 : Value} {v2 : Value} {v3 : Value} {v4 : Value} {σ : bSt}  
  (h : Q (.inl (some (.int (bn 2)))) σ) : A (12, [v0, v1, v2, v3, v4], [.float 0], σ) := by
  refine bGo hA 0 12 (17, .astore 4, 2, 13, 0, [4], []) rfl rfl rfl ?_
  refine bGo hA 0 13 (19, .iconst (2), 1, 14, 0, [], [(2, 0)]) rfl rfl rfl ?_
  refine bEqI bl_2 ?_
  refine bGo hA 0 14 (20, .ireturn, 1, 15, 0, [1], []) rfl rfl rfl ?_
  exact h

theorem sq325_0 {lvl : Nat} {C : bCall} {Q : bPost} {A : bPt → Prop} (hC : bMono C) (hA : bClosed lvl bm325 C Q A) {x1 : Int} {x2 : Int} {x3 : Int} {x4 : Int} {σ : bSt}  (h_x1 : bRg x1) (h_x2 : bRg x2) (h_x3 : bRg x3) (h_x4 : bRg x4)
  (h : (C 154 [.ref 11, .int (bn x1), .int (bn x2), .int (bn x3), .int (bn x4)] σ (bRnx (fun r3 s1 => Q (.inl (some (.int (bn 0)))) (bwj s1 154 0 (bL r3))) (fun E s1 => (bRet [(0, 10, 11, 0), (0, 10, 14, 1), (0, 10, 17, 2)] 7 (fun _ _ => False) (fun h σ2 => A (h, [.ref 11, .int (bn x1), .int (bn x2), .int (bn x3), .int (bn x4), .ref 154, .float 0], [.float 0], σ2)) Q (.inr E) s1))))) : A (0, [.ref 11, .int (bn x1), .int (bn x2), .int (bn x3), .int (bn x4), .ref 154, .float 0], [], σ) := by
  refine bGo hA 0 0 (0, .aload 5, 2, 1, 0, [5], []) rfl rfl rfl ?_
  refine bGo hA 0 1 (2, .iconst (0), 1, 2, 0, [], [(0, 0)]) rfl rfl rfl ?_
  refine bEqI bl_0 ?_
  refine bGo hA 0 2 (3, .aload_n 0, 1, 3, 0, [0], []) rfl rfl rfl ?_
  refine bGo hA 0 3 (4, .iload_n 1, 1, 4, 0, [1], []) rfl rfl rfl ?_
  refine bGo hA 0 4 (5, .iload_n 2, 1, 5, 0, [2], []) rfl rfl rfl ?_
  refine bGo hA 0 5 (6, .iload_n 3, 1, 6, 0, [3], []) rfl rfl rfl ?_
  refine bGo hA 0 6 (7, .iload 4, 2, 7, 0, [4], []) rfl rfl rfl ?_
  refine bGo hA 0 7 (9, .invokevirtual 54, 3, 8, 0, [0, 11, 154, 4], []) rfl rfl rfl ?_
  refine ⟨rfl, ?_⟩
  refine hC _ _ _ _ _ (bRnx_e (fun r3 s1 q4 k2 => ?_) (fun E s1 k2 => ?_)) h
  · show A (8, [.ref 11, .int (bn x1), .int (bn x2), .int (bn x3), .int (bn x4), .ref 154, .float 0], [.int (bn r3), .int (bn 0), .ref 154], s1)
    refine bGo hA 0 8 (12, .i2l, 1, 9, 0, [], []) rfl rfl rfl ?_
    refine bGo hA 0 9 (13, .lastore, 1, 10, 0, [], []) rfl rfl rfl ?_
    refine ⟨rfl, (bIxP (x := 0) (n := 1) (by decide) (by decide)), by decide, ?_⟩
    refine bEqSJ (x := 0) (by decide : bRg 0) ?_
    refine bGo hA 0 10 (14, .goto (15), 3, 11, 20, [], []) rfl rfl rfl ?_
    refine bGo hA 1 4 (29, .iconst (0), 1, 21, 0, [], [(0, 0)]) rfl rfl rfl ?_
    refine bEqI bl_0 ?_
    refine bGo hA 1 5 (30, .ireturn, 1, 0, 0, [1], []) rfl rfl rfl ?_
    exact k2
  · exact k2

theorem sq325_11 {lvl : Nat} {C : bCall} {Q : bPost} {A : bPt → Prop} (hC : bMono C) (hA : bClosed lvl bm325 C Q A) {v0 : Value} {v1 : Value} {v2 : Value} {v3 : Value} {v4 : Value} {v5 : Value} {v6 : Value} {σ : bSt}  
  (h : Q (.inl (some (.int (bn 1)))) σ) : A (11, [v0, v1, v2, v3, v4, v5, v6], [.float 0], σ) := by
  refine bGo hA 0 11 (17, .astore 6, 2, 12, 0, [6], []) rfl rfl rfl ?_
  refine bGo hA 0 12 (19, .iconst (1), 1, 13, 0, [], [(1, 0)]) rfl rfl rfl ?_
  refine bEqI bl_1 ?_
  refine bGo hA 0 13 (20, .ireturn, 1, 14, 0, [1], []) rfl rfl rfl ?_
  exact h

theorem sq325_14 {lvl : Nat} {C : bCall} {Q : bPost} {A : bPt → Prop} (hC : bMono C) (hA : bClosed lvl bm325 C Q A) {v0 : Value} {v1 : Value} {v2 : Value} {v3 : Value} {v4 : Value} {v5 : Value} {v6 : Value} {σ : bSt}  
  (h : Q (.inl (some (.int (bn 2)))) σ) : A (14, [v0, v1, v2, v3, v4, v5, v6], [.float 0], σ) := by
  refine bGo hA 0 14 (21, .astore 6, 2, 15, 0, [6], []) rfl rfl rfl ?_
  refine bGo hA 0 15 (23, .iconst (2), 1, 16, 0, [], [(2, 0)]) rfl rfl rfl ?_
  refine bEqI bl_2 ?_
  refine bGo hA 1 0 (24, .ireturn, 1, 17, 0, [1], []) rfl rfl rfl ?_
  exact h

theorem sq325_17 {lvl : Nat} {C : bCall} {Q : bPost} {A : bPt → Prop} (hC : bMono C) (hA : bClosed lvl bm325 C Q A) {v0 : Value} {v1 : Value} {v2 : Value} {v3 : Value} {v4 : Value} {v5 : Value} {v6 : Value} {σ : bSt}  
  (h : Q (.inl (some (.int (bn 3)))) σ) : A (17, [v0, v1, v2, v3, v4, v5, v6], [.float 0], σ) := by
  refine bGo hA 1 1 (25, .astore 6, 2, 18, 0, [6], []) rfl rfl rfl ?_
  refine bGo hA 1 2 (27, .iconst (3), 1, 19, 0, [], [(3, 0)]) rfl rfl rfl ?_
  refine bEqI bl_3 ?_
  refine bGo hA 1 3 (28, .ireturn, 1, 20, 0, [1], []) rfl rfl rfl ?_
  exact h

theorem sq326_0 {lvl : Nat} {C : bCall} {Q : bPost} {A : bPt → Prop} (hC : bMono C) (hA : bClosed lvl bm326 C Q A) {x1 : Int} {σ : bSt}  (h_x1 : bRg x1)
  (h : (C 155 [.ref 11, .int (bn x1)] σ (bRnx (fun r3 s1 => Q (.inl (some (.int (bn 0)))) (bwj s1 154 0 (bL r3))) (fun E s1 => (bRet [(0, 7, 8, 0)] 4 (fun _ _ => False) (fun h σ2 => A (h, [.ref 11, .int (bn x1), .ref 154, .float 0], [.float 0], σ2)) Q (.inr E) s1))))) : A (0, [.ref 11, .int (bn x1), .ref 154, .float 0], [], σ) := by
  refine bGo hA 0 0 (0, .aload_n 2, 1, 1, 0, [2], []) rfl rfl rfl ?_
  refine bGo hA 0 1 (1, .iconst (0), 1, 2, 0, [], [(0, 0)]) rfl rfl rfl ?_
  refine bEqI bl_0 ?_
  refine bGo hA 0 2 (2, .aload_n 0, 1, 3, 0, [0], []) rfl rfl rfl ?_
  refine bGo hA 0 3 (3, .iload_n 1, 1, 4, 0, [1], []) rfl rfl rfl ?_
  refine bGo hA 0 4 (4, .invokevirtual 58, 3, 5, 0, [0, 11, 155, 1], []) rfl rfl rfl ?_
  refine ⟨rfl, ?_⟩
  refine hC _ _ _ _ _ (bRnx_e (fun r3 s1 q4 k2 => ?_) (fun E s1 k2 => ?_)) h
  · show A (5, [.ref 11, .int (bn x1), .ref 154, .float 0], [.int (bn r3), .int (bn 0), .ref 154], s1)
    refine bGo hA 0 5 (7, .i2l, 1, 6, 0, [], []) rfl rfl rfl ?_
    refine bGo hA 0 6 (8, .lastore, 1, 7, 0, [], []) rfl rfl rfl ?_
    refine ⟨rfl, (bIxP (x := 0) (n := 1) (by decide) (by decide)), by decide, ?_⟩
    refine bEqSJ (x := 0) (by decide : bRg 0) ?_
    refine bGo hA 0 7 (9, .goto (6), 3, 8, 11, [], []) rfl rfl rfl ?_
    refine bGo hA 0 11 (15, .iconst (0), 1, 12, 0, [], [(0, 0)]) rfl rfl rfl ?_
    refine bEqI bl_0 ?_
    refine bGo hA 0 12 (16, .ireturn, 1, 0, 0, [1], []) rfl rfl rfl ?_
    exact k2
  · exact k2

theorem sq326_8 {lvl : Nat} {C : bCall} {Q : bPost} {A : bPt → Prop} (hC : bMono C) (hA : bClosed lvl bm326 C Q A) {v0 : Value} {v1 : Value} {v2 : Value} {v3 : Value} {σ : bSt}  
  (h : Q (.inl (some (.int (bn 1)))) σ) : A (8, [v0, v1, v2, v3], [.float 0], σ) := by
  refine bGo hA 0 8 (12, .astore_n 3, 1, 9, 0, [3], []) rfl rfl rfl ?_
  refine bGo hA 0 9 (13, .iconst (1), 1, 10, 0, [], [(1, 0)]) rfl rfl rfl ?_
  refine bEqI bl_1 ?_
  refine bGo hA 0 10 (14, .ireturn, 1, 11, 0, [1], []) rfl rfl rfl ?_
  exact h

theorem sq327_0 {lvl : Nat} {C : bCall} {Q : bPost} {A : bPt → Prop} (hC : bMono C) (hA : bClosed lvl bm327 C Q A) {x1 : Int} {x2 : Int} {x3 : Int} {σ : bSt}  (h_x1 : bRg x1) (h_x2 : bRg x2) (h_x3 : bRg x3)
  (h : (C 156 [.ref 11, .int (bn x1), .int (bn x2), .int (bn x3)] σ (bRnx (fun r3 s1 => Q (.inl (some (.int (bn 0)))) (bwj s1 154 0 (bL r3))) (fun E s1 => (bRet [(0, 9, 10, 0), (0, 9, 13, 1), (0, 9, 16, 2)] 6 (fun _ _ => False) (fun h σ2 => A (h, [.ref 11, .int (bn x1), .int (bn x2), .int (bn x3), .ref 154, .float 0], [.float 0], σ2)) Q (.inr E) s1))))) : A (0, [.ref 11, .int (bn x1), .int (bn x2), .int (bn x3), .ref 154, .float 0], [], σ) := by
  refine bGo hA 0 0 (0, .aload 4, 2, 1, 0, [4], []) rfl rfl rfl ?_
  refine bGo hA 0 1 (2, .iconst (0), 1, 2, 0, [], [(0, 0)]) rfl rfl rfl ?_
  refine bEqI bl_0 ?_
  refine bGo hA 0 2 (3, .aload_n 0, 1, 3, 0, [0], []) rfl rfl rfl ?_
  refine bGo hA 0 3 (4, .iload_n 1, 1, 4, 0, [1], []) rfl rfl rfl ?_
  refine bGo hA 0 4 (5, .iload_n 2, 1, 5, 0, [2], []) rfl rfl rfl ?_
  refine bGo hA 0 5 (6, .iload_n 3, 1, 6, 0, [3], []) rfl rfl rfl ?_
  refine bGo hA 0 6 (7, .invokevirtual 61, 3, 7, 0, [0, 11, 156, 3], []) rfl rfl rfl ?_
  refine ⟨rfl, ?_⟩
  refine hC _ _ _ _ _ (bRnx_e (fun r3 s1 q4 k2 => ?_) (fun E s1 k2 => ?_)) h
  · show A (7, [.ref 11, .int (bn x1), .int (bn x2), .int (bn x3), .ref 154, .float 0], [.int (bn r3), .int (bn 0), .ref 154], s1)
    refine bGo hA 0 7 (10, .i2l, 1, 8, 0, [], []) rfl rfl rfl ?_
    refine bGo hA 0 8 (11, .lastore, 1, 9, 0, [], []) rfl rfl rfl ?_
    refine ⟨rfl, (bIxP (x := 0) (n := 1) (by decide) (by decide)), by decide, ?_⟩
    refine bEqSJ (x := 0) (by decide : bRg 0) ?_
    refine bGo hA 0 9 (12, .goto (15), 3, 10, 19, [], []) rfl rfl rfl ?_
    refine bGo hA 1 3 (27, .iconst (0), 1, 20, 0, [], [(0, 0)]) rfl rfl rfl ?_
    refine bEqI bl_0 ?_
    refine bGo hA 1 4 (28, .ireturn, 1, 0, 0, [1], []) rfl rfl rfl ?_
    exact k2
  · exact k2

theorem sq327_10 {lvl : Nat} {C : bCall} {Q : bPost} {A : bPt → Prop} (hC : bMono C) (hA : bClosed lvl bm327 C Q A) {v0 : Value} {v1 : Value} {v2 : Value} {v3 : Value} {v4 : Value} {v5 : Value} {σ : bSt}  
  (h : Q (.inl (some (.int (bn 1)))) σ) : A (10, [v0, v1, v2, v3, v4, v5], [.float 0], σ) := by
  refine bGo hA 0 10 (15, .astore 5, 2, 11, 0, [5], []) rfl rfl rfl ?_
  refine bGo hA 0 11 (17, .iconst (1), 1, 12, 0, [], [(1, 0)]) rfl rfl rfl ?_
  refine bEqI bl_1 ?_
  refine bGo hA 0 12 (18, .ireturn, 1, 13, 0, [1], []) rfl rfl rfl ?_
  exact h

theorem sq327_13 {lvl : Nat} {C : bCall} {Q : bPost} {A : bPt → Prop} (hC : bMono C) (hA : bClosed lvl bm327 C Q A) {v0 : Value} {v1 : Value} {v2 : Value} {v3 : Value} {v4 : Value} {v5 : Value} {σ : bSt}  
  (h : Q (.inl (some (.int (bn 2)))) σ) : A (13, [v0, v1, v2, v3, v4, v5], [.float 0], σ) := by
  refine bGo hA 0 13 (19, .astore 5, 2, 14, 0, [5], []) rfl rfl rfl ?_
  refine bGo hA 0 14 (21, .iconst (2), 1, 15, 0, [], [(2, 0)]) rfl rfl rfl ?_
  refine bEqI bl_2 ?_
  refine bGo hA 0 15 (22, .ireturn, 1, 16, 0, [1], []) rfl rfl rfl ?_
  exact h

theorem sq327_16 {lvl : Nat} {C : bCall} {Q : bPost} {A : bPt → Prop} (hC : bMono C) (hA : bClosed lvl bm327 C Q A) {v0 : Value} {v1 : Value} {v2 : Value} {v3 : Value} {v4 : Value} {v5 : Value} {σ : bSt}  
  (h : Q (.inl (some (.int (bn 3)))) σ) : A (16, [v0, v1, v2, v3, v4, v5], [.float 0], σ) := by
  refine bGo hA 1 0 (23, .astore 5, 2, 17, 0, [5], []) rfl rfl rfl ?_
  refine bGo hA 1 1 (25, .iconst (3), 1, 18, 0, [], [(3, 0)]) rfl rfl rfl ?_
  refine bEqI bl_3 ?_
  refine bGo hA 1 2 (26, .ireturn, 1, 19, 0, [1], []) rfl rfl rfl ?_
  exact h

theorem sq328_0 {lvl : Nat} {C : bCall} {Q : bPost} {A : bPt → Prop} (hC : bMono C) (hA : bClosed lvl bm328 C Q A) {x1 : Int} {x2 : Int} {x3 : Int} {σ : bSt}  (h_x1 : bRg x1) (h_x2 : bRg x2) (h_x3 : bRg x3)
  (h : (C 157 [.ref 11, .int (bn x1), .int (bn x2), .int (bn x3)] σ (bRvx (fun s1 => Q (.inl (some (.int (bn 0)))) s1) (fun E s1 => (bRet [(0, 5, 6, 0)] 4 (fun _ _ => False) (fun h σ2 => A (h, [.ref 11, .int (bn x1), .int (bn x2), .int (bn x3), .float 0], [.float 0], σ2)) Q (.inr E) s1))))) : A (0, [.ref 11, .int (bn x1), .int (bn x2), .int (bn x3), .float 0], [], σ) := by
  refine bGo hA 0 0 (0, .aload_n 0, 1, 1, 0, [0], []) rfl rfl rfl ?_
  refine bGo hA 0 1 (1, .iload_n 1, 1, 2, 0, [1], []) rfl rfl rfl ?_
  refine bGo hA 0 2 (2, .iload_n 2, 1, 3, 0, [2], []) rfl rfl rfl ?_
  refine bGo hA 0 3 (3, .iload_n 3, 1, 4, 0, [3], []) rfl rfl rfl ?_
  refine bGo hA 0 4 (4, .invokevirtual 64, 3, 5, 0, [0, 11, 157, 3], []) rfl rfl rfl ?_
  refine ⟨rfl, ?_⟩
  refine hC _ _ _ _ _ (bRvx_e (fun s1 k2 => ?_) (fun E s1 k2 => ?_)) h
  · show A (5, [.ref 11, .int (bn x1), .int (bn x2), .int (bn x3), .float 0], [], s1)
    refine bGo hA 0 5 (7, .goto (7), 3, 6, 9, [], []) rfl rfl rfl ?_
    refine bGo hA 0 9 (14, .iconst (0), 1, 10, 0, [], [(0, 0)]) rfl rfl rfl ?_
    refine bEqI bl_0 ?_
    refine bGo hA 0 10 (15, .ireturn, 1, 0, 0, [1], []) rfl rfl rfl ?_
    exact k2
  · exact k2

theorem sq328_6 {lvl : Nat} {C : bCall} {Q : bPost} {A : bPt → Prop} (hC : bMono C) (hA : bClosed lvl bm328 C Q A) {v0 : Value} {v1 : Value} {v2 : Value} {v3 : Value} {v4 : Value} {σ : bSt}  
  (h : Q (.inl (some (.int (bn 1)))) σ) : A (6, [v0, v1, v2, v3, v4], [.float 0], σ) := by
  refine bGo hA 0 6 (10, .astore 4, 2, 7, 0, [4], []) rfl rfl rfl ?_
  refine bGo hA 0 7 (12, .iconst (1), 1, 8, 0, [], [(1, 0)]) rfl rfl rfl ?_
  refine bEqI bl_1 ?_
  refine bGo hA 0 8 (13, .ireturn, 1, 9, 0, [1], []) rfl rfl rfl ?_
  exact h

theorem sq329_0 {lvl : Nat} {C : bCall} {Q : bPost} {A : bPt → Prop} (hC : bMono C) (hA : bClosed lvl bm329 C Q A) {x1 : Int} {x2 : Int} {x3 : Int} {x4 : Int} {σ : bSt}  (h_x1 : bRg x1) (h_x2 : bRg x2) (h_x3 : bRg x3) (h_x4 : bRg x4)
  (h : (C 158 [.ref 11, .int (bn x1), .int (bn x2), .int (bn x3), .int (bn x4)] σ (bRnx (fun r3 s1 => Q (.inl (some (.int (bn 0)))) (bwj s1 154 0 (bL r3))) (fun E s1 => (bRet [(0, 10, 11, 0), (0, 10, 14, 1), (0, 10, 17, 2)] 7 (fun _ _ => False) (fun h σ2 => A (h, [.ref 11, .int (bn x1), .int (bn x2), .int (bn x3), .int (bn x4), .ref 154, .float 0], [.float 0], σ2)) Q (.inr E) s1))))) : A (0, [.ref 11, .int (bn x1), .int (bn x2), .int (bn x3), .int (bn x4), .ref 154, .float 0], [], σ) := by
  refine bGo hA 0 0 (0, .aload 5, 2, 1, 0, [5], []) rfl rfl rfl ?_
  refine bGo hA 0 1 (2, .iconst (0), 1, 2, 0, [], [(0, 0)]) rfl rfl rfl ?_
  refine bEqI bl_0 ?_
  refine bGo hA 0 2 (3, .aload_n 0, 1, 3, 0, [0], []) rfl rfl rfl ?_
  refine bGo hA 0 3 (4, .iload_n 1, 1, 4, 0, [1], []) rfl rfl rfl ?_
  refine bGo hA 0 4 (5, .iload_n 2, 1, 5, 0, [2], []) rfl rfl rfl ?_
  refine bGo hA 0 5 (6, .iload_n 3, 1, 6, 0, [3], []) rfl rfl rfl ?_
  refine bGo hA 0 6 (7, .iload 4, 2, 7, 0, [4], []) rfl rfl rfl ?_
  refine bGo hA 0 7 (9, .invokevirtual 68, 3, 8, 0, [0, 11, 158, 4], []) rfl rfl rfl ?_
  refine ⟨rfl, ?_⟩
  refine hC _ _ _ _ _ (bRnx_e (fun r3 s1 q4 k2 => ?_) (fun E s1 k2 => ?_)) h
  · show A (8, [.ref 11, .int (bn x1), .int (bn x2), .int (bn x3), .int (bn x4), .ref 154, .float 0], [.int (bn r3), .int (bn 0), .ref 154], s1)
    refine bGo hA 0 8 (12, .i2l, 1, 9, 0, [], []) rfl rfl rfl ?_
    refine bGo hA 0 9 (13, .lastore, 1, 10, 0, [], []) rfl rfl rfl ?_
    refine ⟨rfl, (bIxP (x := 0) (n := 1) (by decide) (by decide)), by decide, ?_⟩
    refine bEqSJ (x := 0) (by decide : bRg 0) ?_
    refine bGo hA 0 10 (14, .goto (15), 3, 11, 20, [], []) rfl rfl rfl ?_
    refine bGo hA 1 4 (29, .iconst (0), 1, 21, 0, [], [(0, 0)]) rfl rfl rfl ?_
    refine bEqI bl_0 ?_
    refine bGo hA 1 5 (30, .ireturn, 1, 0, 0, [1], []) rfl rfl rfl ?_
    exact k2
  · exact k2

theorem sq329_11 {lvl : Nat} {C : bCall} {Q : bPost} {A : bPt → Prop} (hC : bMono C) (hA : bClosed lvl bm329 C Q A) {v0 : Value} {v1 : Value} {v2 : Value} {v3 : Value} {v4 : Value} {v5 : Value} {v6 : Value} {σ : bSt}  
  (h : Q (.inl (some (.int (bn 1)))) σ) : A (11, [v0, v1, v2, v3, v4, v5, v6], [.float 0], σ) := by
  refine bGo hA 0 11 (17, .astore 6, 2, 12, 0, [6], []) rfl rfl rfl ?_
  refine bGo hA 0 12 (19, .iconst (1), 1, 13, 0, [], [(1, 0)]) rfl rfl rfl ?_
  refine bEqI bl_1 ?_
  refine bGo hA 0 13 (20, .ireturn, 1, 14, 0, [1], []) rfl rfl rfl ?_
  exact h

theorem sq329_14 {lvl : Nat} {C : bCall} {Q : bPost} {A : bPt → Prop} (hC : bMono C) (hA : bClosed lvl bm329 C Q A) {v0 : Value} {v1 : Value} {v2 : Value} {v3 : Value} {v4 : Value} {v5 : Value} {v6 : Value} {σ : bSt}  
  (h : Q (.inl (some (.int (bn 2)))) σ) : A (14, [v0, v1, v2, v3, v4, v5, v6], [.float 0], σ) := by
  refine bGo hA 0 14 (21, .astore 6, 2, 15, 0, [6], []) rfl rfl rfl ?_
  refine bGo hA 0 15 (23, .iconst (2), 1, 16, 0, [], [(2, 0)]) rfl rfl rfl ?_
  refine bEqI bl_2 ?_
  refine bGo hA 1 0 (24, .ireturn, 1, 17, 0, [1], []) rfl rfl rfl ?_
  exact h

theorem sq329_17 {lvl : Nat} {C : bCall} {Q : bPost} {A : bPt → Prop} (hC : bMono C) (hA : bClosed lvl bm329 C Q A) {v0 : Value} {v1 : Value} {v2 : Value} {v3 : Value} {v4 : Value} {v5 : Value} {v6 : Value} {σ : bSt}  
  (h : Q (.inl (some (.int (bn 3)))) σ) : A (17, [v0, v1, v2, v3, v4, v5, v6], [.float 0], σ) := by
  refine bGo hA 1 1 (25, .astore 6, 2, 18, 0, [6], []) rfl rfl rfl ?_
  refine bGo hA 1 2 (27, .iconst (3), 1, 19, 0, [], [(3, 0)]) rfl rfl rfl ?_
  refine bEqI bl_3 ?_
  refine bGo hA 1 3 (28, .ireturn, 1, 20, 0, [1], []) rfl rfl rfl ?_
  exact h

theorem sq330_0 {lvl : Nat} {C : bCall} {Q : bPost} {A : bPt → Prop} (hC : bMono C) (hA : bClosed lvl bm330 C Q A) {x1 : Int} {x2 : Int} {σ : bSt}  (h_x1 : bRg x1) (h_x2 : bRg x2)
  (h : (C 159 [.ref 11, .int (bn x1), .int (bn x2)] σ (bRnx (fun r3 s1 => Q (.inl (some (.int (bn 0)))) (bwj s1 154 0 (bL r3))) (fun E s1 => (bRet [(0, 8, 9, 0), (0, 8, 12, 2)] 5 (fun _ _ => False) (fun h σ2 => A (h, [.ref 11, .int (bn x1), .int (bn x2), .ref 154, .float 0], [.float 0], σ2)) Q (.inr E) s1))))) : A (0, [.ref 11, .int (bn x1), .int (bn x2), .ref 154, .float 0], [], σ) := by
  refine bGo hA 0 0 (0, .aload_n 3, 1, 1, 0, [3], []) rfl rfl rfl ?_
  refine bGo hA 0 1 (1, .iconst (0), 1, 2, 0, [], [(0, 0)]) rfl rfl rfl ?_
  refine bEqI bl_0 ?_
  refine bGo hA 0 2 (2, .aload_n 0, 1, 3, 0, [0], []) rfl rfl rfl ?_
  refine bGo hA 0 3 (3, .iload_n 1, 1, 4, 0, [1], []) rfl rfl rfl ?_
  refine bGo hA 0 4 (4, .iload_n 2, 1, 5, 0, [2], []) rfl rfl rfl ?_
  refine bGo hA 0 5 (5, .invokevirtual 71, 3, 6, 0, [0, 11, 159, 2], []) rfl rfl rfl ?_
  refine ⟨rfl, ?_⟩
  refine hC _ _ _ _ _ (bRnx_e (fun r3 s1 q4 k2 => ?_) (fun E s1 k2 => ?_)) h
  · show A (6, [.ref 11, .int (bn x1), .int (bn x2), .ref 154, .float 0], [.int (bn r3), .int (bn 0), .ref 154], s1)
    refine bGo hA 0 6 (8, .i2l, 1, 7, 0, [], []) rfl rfl rfl ?_
    refine bGo hA 0 7 (9, .lastore, 1, 8, 0, [], []) rfl rfl rfl ?_
    refine ⟨rfl, (bIxP (x := 0) (n := 1) (by decide) (by decide)), by decide, ?_⟩
    refine bEqSJ (x := 0) (by decide : bRg 0) ?_
    refine bGo hA 0 8 (10, .goto (11), 3, 9, 15, [], []) rfl rfl rfl ?_
    refine bGo hA 0 15 (21, .iconst (0), 1, 16, 0, [], [(0, 0)]) rfl rfl rfl ?_
    refine bEqI bl_0 ?_
    refine bGo hA 1 0 (22, .ireturn, 1, 0, 0, [1], []) rfl rfl rfl ?_
    exact k2
  · exact k2

theorem sq330_9 {lvl : Nat} {C : bCall} {Q : bPost} {A : bPt → Prop} (hC : bMono C) (hA : bClosed lvl bm330 C Q A) {v0 : Value} {v1 : Value} {v2 : Value} {v3 : Value} {v4 : Value} {σ : bSt}  
  (h : Q (.inl (some (.int (bn 1)))) σ) : A (9, [v0, v1, v2, v3, v4], [.float 0], σ) := by
  refine bGo hA 0 9 (13, .astore 4, 2, 10, 0, [4], []) rfl rfl rfl ?_
  refine bGo hA 0 10 (15, .iconst (1), 1, 11, 0, [], [(1, 0)]) rfl rfl rfl ?_
  refine bEqI bl_1 ?_
  refine bGo hA 0 11 (16, .ireturn, 1, 12, 0, [1], []) rfl rfl rfl ?_
  exact h

theorem sq330_12 {lvl : Nat} {C : bCall} {Q : bPost} {A : bPt → Prop} (hC : bMono C) (hA : bClosed lvl bm330 C Q A) {v0 : Value} {v1 : Value} {v2 : Value} {v3 : Value} {v4 : Value} {σ : bSt}  
  (h : Q (.inl (some (.int (bn 2)))) σ) : A (12, [v0, v1, v2, v3, v4], [.float 0], σ) := by
  refine bGo hA 0 12 (17, .astore 4, 2, 13, 0, [4], []) rfl rfl rfl ?_
  refine bGo hA 0 13 (19, .iconst (2), 1, 14, 0, [], [(2, 0)]) rfl rfl rfl ?_
  refine bEqI bl_2 ?_
  refine bGo hA 0 14 (20, .ireturn, 1, 15, 0, [1], []) rfl rfl rfl ?_
  exact h

theorem sq331_0 {lvl : Nat} {C : bCall} {Q : bPost} {A : bPt → Prop} (hC : bMono C) (hA : bClosed lvl bm331 C Q A) {x1 : Int} {x2 : Int} {x3 : Int} {σ : bSt}  (h_x1 : bRg x1) (h_x2 : bRg x2) (h_x3 : bRg x3)
  (h : (C 160 [.ref 11, .int (bn x1), .int (bn x2), .int (bn x3)] σ (bRnx (fun r3 s1 => Q (.inl (some (.int (bn 0)))) (bwj s1 154 0 (bL r3))) (fun E s1 => (bRet [(0, 9, 10, 0), (0, 9, 13, 1), (0, 9, 16, 2)] 6 (fun _ _ => False) (fun h σ2 => A (h, [.ref 11, .int (bn x1), .int (bn x2), .int (bn x3), .ref 154, .float 0], [.float 0], σ2)) Q (.inr E) s1))))) : A (0, [.ref 11, .int (bn x1), .int (bn x2), .int (bn x3), .ref 154, .float 0], [], σ) := by
  refine bGo hA 0 0 (0, .aload 4, 2, 1, 0, [4], []) rfl rfl rfl ?_
  refine bGo hA 0 1 (2, .iconst (0), 1, 2, 0, [], [(0, 0)]) rfl rfl rfl ?_
  refine bEqI bl_0 ?_
  refine bGo hA 0 2 (3, .aload_n 0, 1, 3, 0, [0], []) rfl rfl rfl ?_
  refine bGo hA 0 3 (4, .iload_n 1, 1, 4, 0, [1], []) rfl rfl rfl ?_
  refine bGo hA 0 4 (5, .iload_n 2, 1, 5, 0, [2], []) rfl rfl rfl ?_
  refine bGo hA 0 5 (6, .iload_n 3, 1, 6, 0, [3], []) rfl rfl rfl ?_
  refine bGo hA 0 6 (7, .invokevirtual 74, 3, 7, 0, [0, 11, 160, 3], []) rfl rfl rfl ?_
  refine ⟨rfl, ?_⟩
  refine hC _ _ _ _ _ (bRnx_e (fun r3 s1 q4 k2 => ?_) (fun E s1 k2 => ?_)) h
  · show A (7, [.ref 11, .int (bn x1), .int (bn x2), .int (bn x3), .ref 154, .float 0], [.int (bn r3), .int (bn 0), .ref 154], s1)
    refine bGo hA 0 7 (10, .i2l, 1, 8, 0, [], []) rfl rfl rfl ?_
    refine bGo hA 0 8 (11, .lastore, 1, 9, 0, [], []) rfl rfl rfl ?_
    refine ⟨rfl, (bIxP (x := 0) (n := 1) (by decide) (by decide)), by decide, ?_⟩
    refine bEqSJ (x := 0) (by decide : bRg 0) ?_
    refine bGo hA 0 9 (12, .goto (15), 3, 10, 19, [], []) rfl rfl rfl ?_
    refine bGo hA 1 3 (27, .iconst (0), 1, 20, 0, [], [(0, 0)]) rfl rfl rfl ?_
    refine bEqI bl_0 ?_
    refine bGo hA 1 4 (28, .ireturn, 1, 0, 0, [1], []) rfl rfl rfl ?_
    exact k2
  · exact k2

theorem sq331_10 {lvl : Nat} {C : bCall} {Q : bPost} {A : bPt → Prop} (hC : bMono C) (hA : bClosed lvl bm331 C Q A) {v0 : Value} {v1 : Value} {v2 : Value} {v3 : Value} {v4 : Value} {v5 : Value} {σ : bSt}  
  (h : Q (.inl (some (.int (bn 1)))) σ) : A (10, [v0, v1, v2, v3, v4, v5], [.float 0], σ) := by
  refine bGo hA 0 10 (15, .astore 5, 2, 11, 0, [5], []) rfl rfl rfl ?_
  refine bGo hA 0 11 (17, .iconst (1), 1, 12, 0, [], [(1, 0)]) rfl rfl rfl ?_
  refine bEqI bl_1 ?_
  refine bGo hA 0 12 (18, .ireturn, 1, 13, 0, [1], []) rfl rfl rfl ?_
  exact h

theorem sq331_13 {lvl : Nat} {C : bCall} {Q : bPost} {A : bPt → Prop} (hC : bMono C) (hA : bClosed lvl bm331 C Q A) {v0 : Value} {v1 : Value} {v2 : Value} {v3 : Value} {v4 : Value} {v5 : Value} {σ : bSt}  
  (h : Q (.inl (some (.int (bn 2)))) σ) : A (13, [v0, v1, v2, v3, v4, v5], [.float 0], σ) := by
  refine bGo hA 0 13 (19, .astore 5, 2, 14, 0, [5], []) rfl rfl rfl ?_
  refine bGo hA 0 14 (21, .iconst (2), 1, 15, 0, [], [(2, 0)]) rfl rfl rfl ?_
  refine bEqI bl_2 ?_
  refine bGo hA 0 15 (22, .ireturn, 1, 16, 0, [1], []) rfl rfl rfl ?_
  exact h

theorem sq331_16 {lvl : Nat} {C : bCall} {Q : bPost} {A : bPt → Prop} (hC : bMono C) (hA : bClosed lvl bm331 C Q A) {v0 : Value} {v1 : Value} {v2 : Value} {v3 : Value} {v4 : Value} {v5 : Value} {σ : bSt}  
  (h : Q (.inl (some (.int (bn 3)))) σ) : A (16, [v0, v1, v2, v3, v4, v5], [.float 0], σ) := by
  refine bGo hA 1 0 (23, .astore 5, 2, 17, 0, [5], []) rfl rfl rfl ?_
  refine bGo hA 1 1 (25, .iconst (3), 1, 18, 0, [], [(3, 0)]) rfl rfl rfl ?_
  refine bEqI bl_3 ?_
  refine bGo hA 1 2 (26, .ireturn, 1, 19, 0, [1], []) rfl rfl rfl ?_
  exact h

theorem sq332_0 {lvl : Nat} {C : bCall} {Q : bPost} {A : bPt → Prop} (hC : bMono C) (hA : bClosed lvl bm332 C Q A) {x1 : Int} {x2 : Int} {σ : bSt}  (h_x1 : bRg x1) (h_x2 : bRg x2)
  (h : (C 161 [.ref 11, .int (bn x1), .int (bn x2)] σ (bRnx (fun r3 s1 => Q (.inl (some (.int (bn 0)))) (bwj s1 154 0 (bL r3))) (fun E s1 => (bRet [(0, 8, 9, 0), (0, 8, 12, 1), (0, 8, 15, 2)] 5 (fun _ _ => False) (fun h σ2 => A (h, [.ref 11, .int (bn x1), .int (bn x2), .ref 154, .float 0], [.float 0], σ2)) Q (.inr E) s1))))) : A (0, [.ref 11, .int (bn x1), .int (bn x2), .ref 154, .float 0], [], σ) := by
  refine bGo hA 0 0 (0, .aload_n 3, 1, 1, 0, [3], []) rfl rfl rfl ?_
  refine bGo hA 0 1 (1, .iconst (0), 1, 2, 0, [], [(0, 0)]) rfl rfl rfl ?_
  refine bEqI bl_0 ?_
  refine bGo hA 0 2 (2, .aload_n 0, 1, 3, 0, [0], []) rfl rfl rfl ?_
  refine bGo hA 0 3 (3, .iload_n 1, 1, 4, 0, [1], []) rfl rfl rfl ?_
  refine bGo hA 0 4 (4, .iload_n 2, 1, 5, 0, [2], []) rfl rfl rfl ?_
  refine bGo hA 0 5 (5, .invokevirtual 78, 3, 6, 0, [0, 11, 161, 2], []) rfl rfl rfl ?_
  refine ⟨rfl, ?_⟩
  refine hC _ _ _ _ _ (bRnx_e (fun r3 s1 q4 k2 => ?_) (fun E s1 k2 => ?_)) h
  · show A (6, [.ref 11, .int (bn x1), .int (bn x2), .ref 154, .float 0], [.int (bn r3), .int (bn 0), .ref 154], s1)
    refine bGo hA 0 6 (8, .i2l, 1, 7, 0, [], []) rfl rfl rfl ?_
    refine bGo hA 0 7 (9, .lastore, 1, 8, 0, [], []) rfl rfl rfl ?_
    refine ⟨rfl, (bIxP (x := 0) (n := 1) (by decide) (by decide)), by decide, ?_⟩
    refine bEqSJ (x := 0) (by decide : bRg 0) ?_
    refine bGo hA 0 8 (10, .goto (15), 3, 9, 18, [], []) rfl rfl rfl ?_
    refine bGo hA 1 2 (25, .iconst (0), 1, 19, 0, [], [(0, 0)]) rfl rfl rfl ?_
    refine bEqI bl_0 ?_
    refine bGo hA 1 3 (26, .ireturn, 1, 0, 0, [1], []) rfl rfl rfl ?_
    exact k2
  · exact k2

theorem sq332_9 {lvl : Nat} {C : bCall} {Q : bPost} {A : bPt → Prop} (hC : bMono C) (hA : bClosed lvl bm332 C Q A) {v0 : Value} {v1 : Value} {v2 : Value} {v3 : Value} {v4 : Value} {σ : bSt}  
  (h : Q (.inl (some (.int (bn 1)))) σ) : A (9, [v0, v1, v2, v3, v4], [.float 0], σ) := by
  refine bGo hA 0 9 (13, .astore 4, 2, 10, 0, [4], []) rfl rfl rfl ?_
  refine bGo hA 0 10 (15, .iconst (1), 1, 11, 0, [], [(1, 0)]) rfl rfl rfl ?_
  refine bEqI bl_1 ?_
  refine bGo hA 0 11 (16, .ireturn, 1, 12, 0, [1], []) rfl rfl rfl ?_
  exact h

theorem sq332_12 {lvl : Nat} {C : bCall} {Q : bPost} {A : bPt → Prop} (hC : bMono C) (hA : bClosed lvl bm332 C Q A) {v0 : Value} {v1 : Value} {v2 : Value} {v3 : Value} {v4 : Value} {σ : bSt}  
  (h : Q (.inl (some (.int (bn 2)))) σ) : A (12, [v0, v1, v2, v3, v4], [.float 0], σ) := by
  refine bGo hA 0 12 (17, .astore 4, 2, 13, 0, [4], []) rfl rfl rfl ?_
  refine bGo hA 0 13 (19, .iconst (2), 1, 14, 0, [], [(2, 0)]) rfl rfl rfl ?_
  refine bEqI bl_2 ?_
  refine bGo hA 0 14 (20, .ireturn, 1, 15, 0, [1], []) rfl rfl rfl ?_
  exact h

theorem sq332_15 {lvl : Nat} {C : bCall} {Q : bPost} {A : bPt → Prop} (hC : bMono C) (hA : bClosed lvl bm332 C Q A) {v0 : Value} {v1 : Value} {v2 : Value} {v3 : Value} {v4 : Value} {σ : bSt}  
  (h : Q (.inl (some (.int (bn 3)))) σ) : A (15, [v0, v1, v2, v3, v4], [.float 0], σ) := by
  refine bGo hA 0 15 (21, .astore 4, 2, 16, 0, [4], []) rfl rfl rfl ?_
  refine bGo hA 1 0 (23, .iconst (3), 1, 17, 0, [], [(3, 0)]) rfl rfl rfl ?_
  refine bEqI bl_3 ?_
  refine bGo hA 1 1 (24, .ireturn, 1, 18, 0, [1], []) rfl rfl rfl ?_
  exact h

theorem sq333_0 {lvl : Nat} {C : bCall} {Q : bPost} {A : bPt → Prop} (hC : bMono C) (hA : bClosed lvl bm333 C Q A) {x1 : Int} {σ : bSt}  (h_x1 : bRg x1)
  (h : (C 162 [.ref 11, .int (bn x1)] σ (bRnx (fun r3 s1 => Q (.inl (some (.int (bn 0)))) (bwj s1 154 0 (bL r3))) (fun E s1 => (bRet [(0, 7, 8, 0), (0, 7, 11, 2)] 4 (fun _ _ => False) (fun h σ2 => A (h, [.ref 11, .int (bn x1), .ref 154, .float 0], [.float 0], σ2)) Q (.inr E) s1))))) : A (0, [.ref 11, .int (bn x1), .ref 154, .float 0], [], σ) := by
  refine bGo hA 0 0 (0, .aload_n 2, 1, 1, 0, [2], []) rfl rfl rfl ?_
  refine bGo hA 0 1 (1, .iconst (0), 1, 2, 0, [], [(0, 0)]) rfl rfl rfl ?_
  refine bEqI bl_0 ?_
  refine bGo hA 0 2 (2, .aload_n 0, 1, 3, 0, [0], []) rfl rfl rfl ?_
  refine bGo hA 0 3 (3, .iload_n 1, 1, 4, 0, [1], []) rfl rfl rfl ?_
  refine bGo hA 0 4 (4, .invokevirtual 81, 3, 5, 0, [0, 11, 162, 1], []) rfl rfl rfl ?_
  refine ⟨rfl, ?_⟩
  refine hC _ _ _ _ _ (bRnx_e (fun r3 s1 q4 k2 => ?_) (fun E s1 k2 => ?_)) h
  · show A (5, [.ref 11, .int (bn x1), .ref 154, .float 0], [.int (bn r3), .int (bn 0), .ref 154], s1)
    refine bGo hA 0 5 (7, .i2l, 1, 6, 0, [], []) rfl rfl rfl ?_
    refine bGo hA 0 6 (8, .lastore, 1, 7, 0, [], []) rfl rfl rfl ?_
    refine ⟨rfl, (bIxP (x := 0) (n := 1) (by decide) (by decide)), by decide, ?_⟩
    refine bEqSJ (x := 0) (by decide : bRg 0) ?_
    refine bGo hA 0 7 (9, .goto (9), 3, 8, 14, [], []) rfl rfl rfl ?_
    refine bGo hA 0 14 (18, .iconst (0), 1, 15, 0, [], [(0, 0)]) rfl rfl rfl ?_
    refine bEqI bl_0 ?_
    refine bGo hA 0 15 (19, .ireturn, 1, 0, 0, [1], []) rfl rfl rfl ?_
    exact k2
  · exact k2

theorem sq333_8 {lvl : Nat} {C : bCall} {Q : bPost} {A : bPt → Prop} (hC : bMono C) (hA : bClosed lvl bm333 C Q A) {v0 : Value} {v1 : Value} {v2 : Value} {v3 : Value} {σ : bSt}  
  (h : Q (.inl (some (.int (bn 1)))) σ) : A (8, [v0, v1, v2, v3], [.float 0], σ) := by
  refine bGo hA 0 8 (12, .astore_n 3, 1, 9, 0, [3], []) rfl rfl rfl ?_
  refine bGo hA 0 9 (13, .iconst (1), 1, 10, 0, [], [(1, 0)]) rfl rfl rfl ?_
  refine bEqI bl_1 ?_
  refine bGo hA 0 10 (14, .ireturn, 1, 11, 0, [1], []) rfl rfl rfl ?_
  exact h

theorem sq333_11 {lvl : Nat} {C : bCall} {Q : bPost} {A : bPt → Prop} (hC : bMono C) (hA : bClosed lvl bm333 C Q A) {v0 : Value} {v1 : Value} {v2 : Value} {v3 : Value} {σ : bSt}  
  (h : Q (.inl (some (.int (bn 2)))) σ) : A (11, [v0, v1, v2, v3], [.float 0], σ) := by
  refine bGo hA 0 11 (15, .astore_n 3, 1, 12, 0, [3], []) rfl rfl rfl ?_
  refine bGo hA 0 12 (16, .iconst (2), 1, 13, 0, [], [(2, 0)]) rfl rfl rfl ?_
  refine bEqI bl_2 ?_
  refine bGo hA 0 13 (17, .ireturn, 1, 14, 0, [1], []) rfl rfl rfl ?_
  exact h

theorem sq334_0 {lvl : Nat} {C : bCall} {Q : bPost} {A : bPt → Prop} (hC : bMono C) (hA : bClosed lvl bm334 C Q A) {x1 : Int} {x2 : Int} {σ : bSt}  (h_x1 : bRg x1) (h_x2 : bRg x2)
  (h : (C 163 [.ref 11, .int (bn x1), .int (bn x2)] σ (bRnx (fun r3 s1 => Q (.inl (some (.int (bn 0)))) (bwj s1 154 0 (bL r3))) (fun E s1 => (bRet [(0, 8, 9, 0), (0, 8, 12, 1)] 5 (fun _ _ => False) (fun h σ2 => A (h, [.ref 11, .int (bn x1), .int (bn x2), .ref 154, .float 0], [.float 0], σ2)) Q (.inr E) s1))))) : A (0, [.ref 11, .int (bn x1), .int (bn x2), .ref 154, .float 0], [], σ) := by
  refine bGo hA 0 0 (0, .aload_n 3, 1, 1, 0, [3], []) rfl rfl rfl ?_
  refine bGo hA 0 1 (1, .iconst (0), 1, 2, 0, [], [(0, 0)]) rfl rfl rfl ?_
  refine bEqI bl_0 ?_
  refine bGo hA 0 2 (2, .aload_n 0, 1, 3, 0, [0], []) rfl rfl rfl ?_
  refine bGo hA 0 3 (3, .iload_n 1, 1, 4, 0, [1], []) rfl rfl rfl ?_
  refine bGo hA 0 4 (4, .iload_n 2, 1, 5, 0, [2], []) rfl rfl rfl ?_
  refine bGo hA 0 5 (5, .invokevirtual 84, 3, 6, 0, [0, 11, 163, 2], []) rfl rfl rfl ?_
  refine ⟨rfl, ?_⟩
  refine hC _ _ _ _ _ (bRnx_e (fun r3 s1 q4 k2 => ?_) (fun E s1 k2 => ?_)) h
  · show A (6, [.ref 11, .int (bn x1), .int (bn x2), .ref 154, .float 0], [.int (bn r3), .int (bn 0), .ref 154], s1)
    refine bGo hA 0 6 (8, .i2l, 1, 7, 0, [], []) rfl rfl rfl ?_
    refine bGo hA 0 7 (9, .lastore, 1, 8, 0, [], []) rfl rfl rfl ?_
    refine ⟨rfl, (bIxP (x := 0) (n := 1) (by decide) (by decide)), by decide, ?_⟩
    refine bEqSJ (x := 0) (by decide : bRg 0) ?_
    refine bGo hA 0 8 (10, .goto (11), 3, 9, 15, [], []) rfl rfl rfl ?_
    refine bGo hA 0 15 (21, .iconst (0), 1, 16, 0, [], [(0, 0)]) rfl rfl rfl ?_
    refine bEqI bl_0 ?_
    refine bGo hA 1 0 (22, .ireturn, 1, 0, 0, [1], []) rfl rfl rfl ?_
    exact k2
  · exact k2

theorem sq334_9 {lvl : Nat} {C : bCall} {Q : bPost} {A : bPt → Prop} (hC : bMono C) (hA : bClosed lvl bm334 C Q A) {v0 : Value} {v1 : Value} {v2 : Value} {v3 : Value} {v4 : Value} {σ : bSt}  
  (h : Q (.inl (some (.int (bn 1)))) σ) : A (9, [v0, v1, v2, v3, v4], [.float 0], σ) := by
  refine bGo hA 0 9 (13, .astore 4, 2, 10, 0, [4], []) rfl rfl rfl ?_
  refine bGo hA 0 10 (15, .iconst (1), 1, 11, 0, [], [(1, 0)]) rfl rfl rfl ?_
  refine bEqI bl_1 ?_
  refine bGo hA 0 11 (16, .ireturn, 1, 12, 0, [1], []) rfl rfl rfl ?_
  exact h

theorem sq334_12 {lvl : Nat} {C : bCall} {Q : bPost} {A : bPt → Prop} (hC : bMono C) (hA : bClosed lvl bm334 C Q A) {v0 : Value} {v1 : Value} {v2 : Value} {v3 : Value} {v4 : Value} {σ : bSt}  
  (h : Q (.inl (some (.int (bn 2)))) σ) : A (12, [v0, v1, v2, v3, v4], [.float 0], σ) := by
  refine bGo hA 0 12 (17, .astore 4, 2, 13, 0, [4], []) rfl rfl rfl ?_
  refine bGo hA 0 13 (19, .iconst (2), 1, 14, 0, [], [(2, 0)]) rfl rfl rfl ?_
  refine bEqI bl_2 ?_
  refine bGo hA 0 14 (20, .ireturn, 1, 15, 0, [1], []) rfl rfl rfl ?_
  exact h

theorem sq335_0 {lvl : Nat} {C : bCall} {Q : bPost} {A : bPt → Prop} (hC : bMono C) (hA : bClosed lvl bm335 C Q A) {x1 : Int} {x2 : Int} {x3 : Int} {σ : bSt}  (h_x1 : bRg x1) (h_x2 : bRg x2) (h_x3 : bRg x3)
  (h : (C 164 [.ref 11, .int (bn x1), .int (bn x2), .int (bn x3)] σ (bRvx (fun s1 => Q (.inl (some (.int (bn 0)))) s1) (fun E s1 => (bRet [(0, 5, 6, 0), (0, 5, 9, 1)] 4 (fun _ _ => False) (fun h σ2 => A (h, [.ref 11, .int (bn x1), .int (bn x2), .int (bn x3), .float 0], [.float 0], σ2)) Q (.inr E) s1))))) : A (0, [.ref 11, .int (bn x1), .int (bn x2), .int (bn x3), .float 0], [], σ) := by
  refine bGo hA 0 0 (0, .aload_n 0, 1, 1, 0, [0], []) rfl rfl rfl ?_
  refine bGo hA 0 1 (1, .iload_n 1, 1, 2, 0, [1], []) rfl rfl rfl ?_
  refine bGo hA 0 2 (2, .iload_n 2, 1, 3, 0, [2], []) rfl rfl rfl ?_
  refine bGo hA 0 3 (3, .iload_n 3, 1, 4, 0, [3], []) rfl rfl rfl ?_
  refine bGo hA 0 4 (4, .invokevirtual 87, 3, 5, 0, [0, 11, 164, 3], []) rfl rfl rfl ?_
  refine ⟨rfl, ?_⟩
  refine hC _ _ _ _ _ (bRvx_e (fun s1 k2 => ?_) (fun E s1 k2 => ?_)) h
  · show A (5, [.ref 11, .int (bn x1), .int (bn x2), .int (bn x3), .float 0], [], s1)
    refine bGo hA 0 5 (7, .goto (11), 3, 6, 12, [], []) rfl rfl rfl ?_
    refine bGo hA 0 12 (18, .iconst (0), 1, 13, 0, [], [(0, 0)]) rfl rfl rfl ?_
    refine bEqI bl_0 ?_
    refine bGo hA 0 13 (19, .ireturn, 1, 0, 0, [1], []) rfl rfl rfl ?_
    exact k2
  · exact k2

theorem sq335_6 {lvl : Nat} {C : bCall} {Q : bPost} {A : bPt → Prop} (hC : bMono C) (hA : bClosed lvl bm335 C Q A) {v0 : Value} {v1 : Value} {v2 : Value} {v3 : Value} {v4 : Value} {σ : bSt}  
  (h : Q (.inl (some (.int (bn 1)))) σ) : A (6, [v0, v1, v2, v3, v4], [.float 0], σ) := by
  refine bGo hA 0 6 (10, .astore 4, 2, 7, 0, [4], []) rfl rfl rfl ?_
  refine bGo hA 0 7 (12, .iconst (1), 1, 8, 0, [], [(1, 0)]) rfl rfl rfl ?_
  refine bEqI bl_1 ?_
  refine bGo hA 0 8 (13, .ireturn, 1, 9, 0, [1], []) rfl rfl rfl ?_
  exact h

theorem sq335_9 {lvl : Nat} {C : bCall} {Q : bPost} {A : bPt → Prop} (hC : bMono C) (hA : bClosed lvl bm335 C Q A) {v0 : Value} {v1 : Value} {v2 : Value} {v3 : Value} {v4 : Value} {σ : bSt}  
  (h : Q (.inl (some (.int (bn 2)))) σ) : A (9, [v0, v1, v2, v3, v4], [.float 0], σ) := by
  refine bGo hA 0 9 (14, .astore 4, 2, 10, 0, [4], []) rfl rfl rfl ?_
  refine bGo hA 0 10 (16, .iconst (2), 1, 11, 0, [], [(2, 0)]) rfl rfl rfl ?_
  refine bEqI bl_2 ?_
  refine bGo hA 0 11 (17, .ireturn, 1, 12, 0, [1], []) rfl rfl rfl ?_
  exact h

theorem sq336_0 {lvl : Nat} {C : bCall} {Q : bPost} {A : bPt → Prop} (hC : bMono C) (hA : bClosed lvl bm336 C Q A) {x1 : Int} {x2 : Int} {x3 : Int} {x4 : Int} {σ : bSt}  (h_x1 : bRg x1) (h_x2 : bRg x2) (h_x3 : bRg x3) (h_x4 : bRg x4)
  (h : (C 165 [.ref 11, .int (bn x1), .int (bn x2), .int (bn x3), .int (bn x4)] σ (bRvx (fun s1 => Q (.inl (some (.int (bn 0)))) s1) (fun E s1 => (bRet [(0, 6, 7, 0), (0, 6, 10, 1)] 5 (fun _ _ => False) (fun h σ2 => A (h, [.ref 11, .int (bn x1), .int (bn x2), .int (bn x3), .int (bn x4), .float 0], [.float 0], σ2)) Q (.inr E) s1))))) : A (0, [.ref 11, .int (bn x1), .int (bn x2), .int (bn x3), .int (bn x4), .float 0], [], σ) := by
  refine bGo hA 0 0 (0, .aload_n 0, 1, 1, 0, [0], []) rfl rfl rfl ?_
  refine bGo hA 0 1 (1, .iload_n 1, 1, 2, 0, [1], []) rfl rfl rfl ?_
  refine bGo hA 0 2 (2, .iload_n 2, 1, 3, 0, [2], []) rfl rfl rfl ?_
  refine bGo hA 0 3 (3, .iload_n 3, 1, 4, 0, [3], []) rfl rfl rfl ?_
  refine bGo hA 0 4 (4, .iload 4, 2, 5, 0, [4], []) rfl rfl rfl ?_
  refine bGo hA 0 5 (6, .invokevirtual 90, 3, 6, 0, [0, 11, 165, 4], []) rfl rfl rfl ?_
  refine ⟨rfl, ?_⟩
  refine hC _ _ _ _ _ (bRvx_e (fun s1 k2 => ?_) (fun E s1 k2 => ?_)) h
  · show A (6, [.ref 11, .int (bn x1), .int (bn x2), .int (bn x3), .int (bn x4), .float 0], [], s1)
    refine bGo hA 0 6 (9, .goto (11), 3, 7, 13, [], []) rfl rfl rfl ?_
    refine bGo hA 0 13 (20, .iconst (0), 1, 14, 0, [], [(0, 0)]) rfl rfl rfl ?_
    refine bEqI bl_0 ?_
    refine bGo hA 0 14 (21, .ireturn, 1, 0, 0, [1], []) rfl rfl rfl ?_
    exact k2
  · exact k2

theorem sq336_7 {lvl : Nat} {C : bCall} {Q : bPost} {A : bPt → Prop} (hC : bMono C) (hA : bClosed lvl bm336 C Q A) {v0 : Value} {v1 : Value} {v2 : Value} {v3 : Value} {v4 : Value} {v5 : Value} {σ : bSt}  
  (h : Q (.inl (some (.int (bn 1)))) σ) : A (7, [v0, v1, v2, v3, v4, v5], [.float 0], σ) := by
  refine bGo hA 0 7 (12, .astore 5, 2, 8, 0, [5], []) rfl rfl rfl ?_
  refine bGo hA 0 8 (14, .iconst (1), 1, 9, 0, [], [(1, 0)]) rfl rfl rfl ?_
  refine bEqI bl_1 ?_
  refine bGo hA 0 9 (15, .ireturn, 1, 10, 0, [1], []) rfl rfl rfl ?_
  exact h

theorem sq336_10 {lvl : Nat} {C : bCall} {Q : bPost} {A : bPt → Prop} (hC : bMono C) (hA : bClosed lvl bm336 C Q A) {v0 : Value} {v1 : Value} {v2 : Value} {v3 : Value} {v4 : Value} {v5 : Value} {σ : bSt}  
  (h : Q (.inl (some (.int (bn 2)))) σ) : A (10, [v0, v1, v2, v3, v4, v5], [.float 0], σ) := by
  refine bGo hA 0 10 (16, .astore 5, 2, 11, 0, [5], []) rfl rfl rfl ?_
  refine bGo hA 0 11 (18, .iconst (2), 1, 12, 0, [], [(2, 0)]) rfl rfl rfl ?_
  refine bEqI bl_2 ?_
  refine bGo hA 0 12 (19, .ireturn, 1, 13, 0, [1], []) rfl rfl rfl ?_
  exact h

theorem sq337_0 {lvl : Nat} {C : bCall} {Q : bPost} {A : bPt → Prop} (hC : bMono C) (hA : bClosed lvl bm337 C Q A) {x1 : Int} {x2 : Int} {x3 : Int} {σ : bSt}  (h_x1 : bRg x1) (h_x2 : bRg x2) (h_x3 : bRg x3)
  (h : (C 166 [.ref 11, .int (bn x1), .int (bn x2), .int (bn x3)] σ (bRvx (fun s1 => Q (.inl (some (.int (bn 0)))) s1) (fun E s1 => (bRet [(0, 5, 6, 0), (0, 5, 9, 1)] 4 (fun _ _ => False) (fun h σ2 => A (h, [.ref 11, .int (bn x1), .int (bn x2), .int (bn x3), .float 0], [.float 0], σ2)) Q (.inr E) s1))))) : A (0, [.ref 11, .int (bn x1), .int (bn x2), .int (bn x3), .float 0], [], σ) := by
  refine bGo hA 0 0 (0, .aload_n 0, 1, 1, 0, [0], []) rfl rfl rfl ?_
  refine bGo hA 0 1 (1, .iload_n 1, 1, 2, 0, [1], []) rfl rfl rfl ?_
  refine bGo hA 0 2 (2, .iload_n 2, 1, 3, 0, [2], []) rfl rfl rfl ?_
  refine bGo hA 0 3 (3, .iload_n 3, 1, 4, 0, [3], []) rfl rfl rfl ?_
  refine bGo hA 0 4 (4, .invokevirtual 94, 3, 5, 0, [0, 11, 166, 3], []) rfl rfl rfl ?_
  refine ⟨rfl, ?_⟩
  refine hC _ _ _ _ _ (bRvx_e (fun s1 k2 => ?_) (fun E s1 k2 => ?_)) h
  · show A (5, [.ref 11, .int (bn x1), .int (bn x2), .int (bn x3), .float 0], [], s1)
    refine bGo hA 0 5 (7, .goto (11), 3, 6, 12, [], []) rfl rfl rfl ?_
    refine bGo hA 0 12 (18, .iconst (0), 1, 13, 0, [], [(0, 0)]) rfl rfl rfl ?_
    refine bEqI bl_0 ?_
    refine bGo hA 0 13 (19, .ireturn, 1, 0, 0, [1], []) rfl rfl rfl ?_
    exact k2
  · exact k2

theorem sq337_6 {lvl : Nat} {C : bCall} {Q : bPost} {A : bPt → Prop} (hC : bMono C) (hA : bClosed lvl bm337 C Q A) {v0 : Value} {v1 : Value} {v2 : Value} {v3 : Value} {v4 : Value} {σ : bSt}  
  (h : Q (.inl (some (.int (bn 1)))) σ) : A (6, [v0, v1, v2, v3, v4], [.float 0], σ) := by
  refine bGo hA 0 6 (10, .astore 4, 2, 7, 0, [4], []) rfl rfl rfl ?_
  refine bGo hA 0 7 (12, .iconst (1), 1, 8, 0, [], [(1, 0)]) rfl rfl rfl ?_
  refine bEqI bl_1 ?_
  refine bGo hA 0 8 (13, .ireturn, 1, 9, 0, [1], []) rfl rfl rfl ?_
  exact h

theorem sq337_9 {lvl : Nat} {C : bCall} {Q : bPost} {A : bPt → Prop} (hC : bMono C) (hA : bClosed lvl bm337 C Q A) {v0 : Value} {v1 : Value} {v2 : Value} {v3 : Value} {v4 : Value} {σ : bSt}  
  (h : Q (.inl (some (.int (bn 2)))) σ) : A (9, [v0, v1, v2, v3, v4], [.float 0], σ) := by
  refine bGo hA 0 9 (14, .astore 4, 2, 10, 0, [4], []) rfl rfl rfl ?_
  refine bGo hA 0 10 (16, .iconst (2), 1, 11, 0, [], [(2, 0)]) rfl rfl rfl ?_
  refine bEqI bl_2 ?_
  refine bGo hA 0 11 (17, .ireturn, 1, 12, 0, [1], []) rfl rfl rfl ?_
  exact h

theorem sq338_0 {lvl : Nat} {C : bCall} {Q : bPost} {A : bPt → Prop} (hC : bMono C) (hA : bClosed lvl bm338 C Q A) {x1 : Int} {x2 : Int} {σ : bSt}  (h_x1 : bRg x1) (h_x2 : bRg x2)
  (h : (C 167 [.ref 11, .int (bn x1), .int (bn x2)] σ (bRnx (fun r3 s1 => Q (.inl (some (.int (bn 0)))) (bwj s1 154 0 (bL r3))) (fun E s1 => (bRet [(0, 8, 9, 0)] 5 (fun _ _ => False) (fun h σ2 => A (h, [.ref 11, .int (bn x1), .int (bn x2), .ref 154, .float 0], [.float 0], σ2)) Q (.inr E) s1))))) : A (0, [.ref 11, .int (bn x1), .int (bn x2), .ref 154, .float 0], [], σ) := by
  refine bGo hA 0 0 (0, .aload_n 3, 1, 1, 0, [3], []) rfl rfl rfl ?_
  refine bGo hA 0 1 (1, .iconst (0), 1, 2, 0, [], [(0, 0)]) rfl rfl rfl ?_
  refine bEqI bl_0 ?_
  refine bGo hA 0 2 (2, .aload_n 0, 1, 3, 0, [0], []) rfl rfl rfl ?_
  refine bGo hA 0 3 (3, .iload_n 1, 1, 4, 0, [1], []) rfl rfl rfl ?_
  refine bGo hA 0 4 (4, .iload_n 2, 1, 5, 0, [2], []) rfl rfl rfl ?_
  refine bGo hA 0 5 (5, .invokevirtual 97, 3, 6, 0, [0, 11, 167, 2], []) rfl rfl rfl ?_
  refine ⟨rfl, ?_⟩
  refine hC _ _ _ _ _ (bRnx_e (fun r3 s1 q4 k2 => ?_) (fun E s1 k2 => ?_)) h
  · show A (6, [.ref 11, .int (bn x1), .int (bn x2), .ref 154, .float 0], [.int (bn r3), .int (bn 0), .ref 154], s1)
    refine bGo hA 0 6 (8, .i2l, 1, 7, 0, [], []) rfl rfl rfl ?_
    refine bGo hA 0 7 (9, .lastore, 1, 8, 0, [], []) rfl rfl rfl ?_
    refine ⟨rfl, (bIxP (x := 0) (n := 1) (by decide) (by decide)), by decide, ?_⟩
    refine bEqSJ (x := 0) (by decide : bRg 0) ?_
    refine bGo hA 0 8 (10, .goto (7), 3, 9, 12, [], []) rfl rfl rfl ?_
    refine bGo hA 0 12 (17, .iconst (0), 1, 13, 0, [], [(0, 0)]) rfl rfl rfl ?_
    refine bEqI bl_0 ?_
    refine bGo hA 0 13 (18, .ireturn, 1, 0, 0, [1], []) rfl rfl rfl ?_
    exact k2
  · exact k2

theorem sq338_9 {lvl : Nat} {C : bCall} {Q : bPost} {A : bPt → Prop} (hC : bMono C) (hA : bClosed lvl bm338 C Q A) {v0 : Value} {v1 : Value} {v2 : Value} {v3 : Value} {v4 : Value} {σ : bSt}  
  (h : Q (.inl (some (.int (bn 1)))) σ) : A (9, [v0, v1, v2, v3, v4], [.float 0], σ) := by
  refine bGo hA 0 9 (13, .astore 4, 2, 10, 0, [4], []) rfl rfl rfl ?_
  refine bGo hA 0 10 (15, .iconst (1), 1, 11, 0, [], [(1, 0)]) rfl rfl rfl ?_
  refine bEqI bl_1 ?_
  refine bGo hA 0 11 (16, .ireturn, 1, 12, 0, [1], []) rfl rfl rfl ?_
  exact h

theorem sq339_0 {lvl : Nat} {C : bCall} {Q : bPost} {A : bPt → Prop} (hC : bMono C) (hA : bClosed lvl bm339 C Q A) {x1 : Int} {x2 : Int} {σ : bSt}  (h_x1 : bRg x1) (h_x2 : bRg x2)
  (h : (C 168 [.ref 11, .int (bn x1), .int (bn x2)] σ (bRnx (fun r3 s1 => Q (.inl (some (.int (bn 0)))) (bwj s1 154 0 (bL r3))) (fun E s1 => (bRet [(0, 8, 9, 0), (0, 8, 12, 1)] 5 (fun _ _ => False) (fun h σ2 => A (h, [.ref 11, .int (bn x1), .int (bn x2), .ref 154, .float 0], [.float 0], σ2)) Q (.inr E) s1))))) : A (0, [.ref 11, .int (bn x1), .int (bn x2), .ref 154, .float 0], [], σ) := by
  refine bGo hA 0 0 (0, .aload_n 3, 1, 1, 0, [3], []) rfl rfl rfl ?_
  refine bGo hA 0 1 (1, .iconst (0), 1, 2, 0, [], [(0, 0)]) rfl rfl rfl ?_
  refine bEqI bl_0 ?_
  refine bGo hA 0 2 (2, .aload_n 0, 1, 3, 0, [0], []) rfl rfl rfl ?_
  refine bGo hA 0 3 (3, .iload_n 1, 1, 4, 0, [1], []) rfl rfl rfl ?_
  refine bGo hA 0 4 (4, .iload_n 2, 1, 5, 0, [2], []) rfl rfl rfl ?_
  refine bGo hA 0 5 (5, .invokevirtual 100, 3, 6, 0, [0, 11, 168, 2], []) rfl rfl rfl ?_
  refine ⟨rfl, ?_⟩
  refine hC _ _ _ _ _ (bRnx_e (fun r3 s1 q4 k2 => ?_) (fun E s1 k2 => ?_)) h
  · show A (6, [.ref 11, .int (bn x1), .int (bn x2), .ref 154, .float 0], [.int (bn r3), .int (bn 0), .ref 154], s1)
    refine bGo hA 0 6 (8, .i2l, 1, 7, 0, [], []) rfl rfl rfl ?_
    refine bGo hA 0 7 (9, .lastore, 1, 8, 0, [], []) rfl rfl rfl ?_
    refine ⟨rfl, (bIxP (x := 0) (n := 1) (by decide) (by decide)), by decide, ?_⟩
    refine bEqSJ (x := 0) (by decide : bRg 0) ?_
    refine bGo hA 0 8 (10, .goto (11), 3, 9, 15, [], []) rfl rfl rfl ?_
    refine bGo hA 0 15 (21, .iconst (0), 1, 16, 0, [], [(0, 0)]) rfl rfl rfl ?_
    refine bEqI bl_0 ?_
    refine bGo hA 1 0 (22, .ireturn, 1, 0, 0, [1], []) rfl rfl rfl ?_
    exact k2
  · exact k2

theorem sq339_9 {lvl : Nat} {C : bCall} {Q : bPost} {A : bPt → Prop} (hC : bMono C) (hA : bClosed lvl bm339 C Q A) {v0 : Value} {v1 : Value} {v2 : Value} {v3 : Value} {v4 : Value} {σ : bSt}  
  (h : Q (.inl (some (.int (bn 1)))) σ) : A (9, [v0, v1, v2, v3, v4], [.float 0], σ) := by
  refine bGo hA 0 9 (13, .astore 4, 2, 10, 0, [4], []) rfl rfl rfl ?_
  refine bGo hA 0 10 (15, .iconst (1), 1, 11, 0, [], [(1, 0)]) rfl rfl rfl ?_
  refine bEqI bl_1 ?_
  refine bGo hA 0 11 (16, .ireturn, 1, 12, 0, [1], []) rfl rfl rfl ?_
  exact h

theorem sq339_12 {lvl : Nat} {C : bCall} {Q : bPost} {A : bPt → Prop} (hC : bMono C) (hA : bClosed lvl bm339 C Q A) {v0 : Value} {v1 : Value} {v2 : Value} {v3 : Value} {v4 : Value} {σ : bSt}  
  (h : Q (.inl (some (.int (bn 2)))) σ) : A (12, [v0, v1, v2, v3, v4], [.float 0], σ) := by
  refine bGo hA 0 12 (17, .astore 4, 2, 13, 0, [4], []) rfl rfl rfl ?_
  refine bGo hA 0 13 (19, .iconst (2), 1, 14, 0, [], [(2, 0)]) rfl rfl rfl ?_
  refine bEqI bl_2 ?_
  refine bGo hA 0 14 (20, .ireturn, 1, 15, 0, [1], []) rfl rfl rfl ?_
  exact h

theorem sq340_0 {lvl : Nat} {C : bCall} {Q : bPost} {A : bPt → Prop} (hC : bMono C) (hA : bClosed lvl bm340 C Q A) {x1 : Int} {x2 : Int} {σ : bSt}  (h_x1 : bRg x1) (h_x2 : bRg x2)
  (h : (C 170 [.ref 11, .int (bn x1), .int (bn x2)] σ (bRnx (fun r3 s1 => ((r3 = 0 → Q (.inl (some (.int (bn 0)))) (bwj s1 154 0 (Int64.ofNat 0))) ∧ (¬ r3 = 0 → Q (.inl (some (.int (bn 0)))) (bwj s1 154 0 (Int64.ofNat 1))))) (fun E s1 => (bRet [(0, 11, 12, 1)] 5 (fun _ _ => False) (fun h σ2 => A (h, [.ref 11, .int (bn x1), .int (bn x2), .ref 154, .float 0], [.float 0], σ2)) Q (.inr E) s1))))) : A (0, [.ref 11, .int (bn x1), .int (bn x2), .ref 154, .float 0], [], σ) := by
  refine bGo hA 0 0 (0, .aload_n 3, 1, 1, 0, [3], []) rfl rfl rfl ?_
  refine bGo hA 0 1 (1, .iconst (0), 1, 2, 0, [], [(0, 0)]) rfl rfl rfl ?_
  refine bEqI bl_0 ?_
  refine bGo hA 0 2 (2, .aload_n 0, 1, 3, 0, [0], []) rfl rfl rfl ?_
  refine bGo hA 0 3 (3, .iload_n 1, 1, 4, 0, [1], []) rfl rfl rfl ?_
  refine bGo hA 0 4 (4, .iload_n 2, 1, 5, 0, [2], []) rfl rfl rfl ?_
  refine bGo hA 0 5 (5, .invokevirtual 103, 3, 6, 0, [0, 11, 170, 2], []) rfl rfl rfl ?_
  refine ⟨rfl, ?_⟩
  refine hC _ _ _ _ _ (bRnx_e (fun r3 s1 q4 k2 => ?_) (fun E s1 k2 => ?_)) h
  · show A (6, [.ref 11, .int (bn x1), .int (bn x2), .ref 154, .float 0], [.int (bn r3), .int (bn 0), .ref 154], s1)
    refine bGo hA 0 6 (8, .ifCond .eq (7), 3, 7, 9, [], []) rfl rfl rfl ?_
    refine bB_eq0 (x := r3) q4 (fun c5 => ?_) (fun c5 => ?_)
    · refine bGo hA 0 9 (15, .lconst 0, 1, 10, 0, [0], []) rfl rfl rfl ?_
      refine bGo hA 0 10 (16, .lastore, 1, 11, 0, [], []) rfl rfl rfl ?_
      refine ⟨rfl, (bIxP (x := 0) (n := 1) (by decide) (by decide)), by decide, ?_⟩
      refine bEqSJ (x := 0) (by decide : bRg 0) ?_
      refine bGo hA 0 11 (17, .goto (7), 3, 12, 15, [], []) rfl rfl rfl ?_
      refine bGo hA 0 15 (24, .iconst (0), 1, 16, 0, [], [(0, 0)]) rfl rfl rfl ?_
      refine bEqI bl_0 ?_
      refine bGo hA 1 0 (25, .ireturn, 1, 0, 0, [1], []) rfl rfl rfl ?_
      exact (k2.1 c5)
    · refine bGo hA 0 7 (11, .lconst 1, 1, 8, 0, [1], []) rfl rfl rfl ?_
      refine bGo hA 0 8 (12, .goto (4), 3, 9, 10, [], []) rfl rfl rfl ?_
      refine bGo hA 0 10 (16, .lastore, 1, 11, 0, [], []) rfl rfl rfl ?_
      refine ⟨rfl, (bIxP (x := 0) (n := 1) (by decide) (by decide)), by decide, ?_⟩
      refine bEqSJ (x := 0) (by decide : bRg 0) ?_
      refine bGo hA 0 11 (17, .goto (7), 3, 12, 15, [], []) rfl rfl rfl ?_
      refine bGo hA 0 15 (24, .iconst (0), 1, 16, 0, [], [(0, 0)]) rfl rfl rfl ?_
      refine bEqI bl_0 ?_
      refine bGo hA 1 0 (25, .ireturn, 1, 0, 0, [1], []) rfl rfl rfl ?_
      exact (k2.2 c5)
  · exact k2

theorem sq340_12 {lvl : Nat} {C : bCall} {Q : bPost} {A : bPt → Prop} (hC : bMono C) (hA : bClosed lvl bm340 C Q A) {v0 : Value} {v1 : Value} {v2 : Value} {v3 : Value} {v4 : Value} {σ : bSt}  
  (h : Q (.inl (some (.int (bn 1)))) σ) : A (12, [v0, v1, v2, v3, v4], [.float 0], σ) := by
  refine bGo hA 0 12 (20, .astore 4, 2, 13, 0, [4], []) rfl rfl rfl ?_
  refine bGo hA 0 13 (22, .iconst (1), 1, 14, 0, [], [(1, 0)]) rfl rfl rfl ?_
  refine bEqI bl_1 ?_
  refine bGo hA 0 14 (23, .ireturn, 1, 15, 0, [1], []) rfl rfl rfl ?_
  exact h

theorem sq341_0 {lvl : Nat} {C : bCall} {Q : bPost} {A : bPt → Prop} (hC : bMono C) (hA : bClosed lvl bm341 C Q A) {x1 : Int} {σ : bSt}  (h_x1 : bRg x1)
  (h : (C 171 [.ref 11, .int (bn x1)] σ (bRnx (fun r3 s1 => ((r3 = 0 → Q (.inl (some (.int (bn 0)))) (bwj s1 154 0 (Int64.ofNat 0))) ∧ (¬ r3 = 0 → Q (.inl (some (.int (bn 0)))) (bwj s1 154 0 (Int64.ofNat 1))))) (fun E s1 => (bRet [(0, 10, 11, 1)] 4 (fun _ _ => False) (fun h σ2 => A (h, [.ref 11, .int (bn x1), .ref 154, .float 0], [.float 0], σ2)) Q (.inr E) s1))))) : A (0, [.ref 11, .int (bn x1), .ref 154, .float 0], [], σ) := by
  refine bGo hA 0 0 (0, .aload_n 2, 1, 1, 0, [2], []) rfl rfl rfl ?_
  refine bGo hA 0 1 (1, .iconst (0), 1, 2, 0, [], [(0, 0)]) rfl rfl rfl ?_
  refine bEqI bl_0 ?_
  refine bGo hA 0 2 (2, .aload_n 0, 1, 3, 0, [0], []) rfl rfl rfl ?_
  refine bGo hA 0 3 (3, .iload_n 1, 1, 4, 0, [1], []) rfl rfl rfl ?_
  refine bGo hA 0 4 (4, .invokevirtual 107, 3, 5, 0, [0, 11, 171, 1], []) rfl rfl rfl ?_
  refine ⟨rfl, ?_⟩
  refine hC _ _ _ _ _ (bRnx_e (fun r3 s1 q4 k2 => ?_) (fun E s1 k2 => ?_)) h
  · show A (5, [.ref 11, .int (bn x1), .ref 154, .float 0], [.int (bn r3), .int (bn 0), .ref 154], s1)
    refine bGo hA 0 5 (7, .ifCond .eq (7), 3, 6, 8, [], []) rfl rfl rfl ?_
    refine bB_eq0 (x := r3) q4 (fun c5 => ?_) (fun c5 => ?_)
    · refine bGo hA 0 8 (14, .lconst 0, 1, 9, 0, [0], []) rfl rfl rfl ?_
      refine bGo hA 0 9 (15, .lastore, 1, 10, 0, [], []) rfl rfl rfl ?_
      refine ⟨rfl, (bIxP (x := 0) (n := 1) (by decide) (by decide)), by decide, ?_⟩
      refine bEqSJ (x := 0) (by decide : bRg 0) ?_
      refine bGo hA 0 10 (16, .goto (6), 3, 11, 14, [], []) rfl rfl rfl ?_
      refine bGo hA 0 14 (22, .iconst (0), 1, 15, 0, [], [(0, 0)]) rfl rfl rfl ?_
      refine bEqI bl_0 ?_
      refine bGo hA 0 15 (23, .ireturn, 1, 0, 0, [1], []) rfl rfl rfl ?_
      exact (k2.1 c5)
    · refine bGo hA 0 6 (10, .lconst 1, 1, 7, 0, [1], []) rfl rfl rfl ?_
      refine bGo hA 0 7 (11, .goto (4), 3, 8, 9, [], []) rfl rfl rfl ?_
      refine bGo hA 0 9 (15, .lastore, 1, 10, 0, [], []) rfl rfl rfl ?_
      refine ⟨rfl, (bIxP (x := 0) (n := 1) (by decide) (by decide)), by decide, ?_⟩
      refine bEqSJ (x := 0) (by decide : bRg 0) ?_
      refine bGo hA 0 10 (16, .goto (6), 3, 11, 14, [], []) rfl rfl rfl ?_
      refine bGo hA 0 14 (22, .iconst (0), 1, 15, 0, [], [(0, 0)]) rfl rfl rfl ?_
      refine bEqI bl_0 ?_
      refine bGo hA 0 15 (23, .ireturn, 1, 0, 0, [1], []) rfl rfl rfl ?_
      exact (k2.2 c5)
  · exact k2

theorem sq341_11 {lvl : Nat} {C : bCall} {Q : bPost} {A : bPt → Prop} (hC : bMono C) (hA : bClosed lvl bm341 C Q A) {v0 : Value} {v1 : Value} {v2 : Value} {v3 : Value} {σ : bSt}  
  (h : Q (.inl (some (.int (bn 1)))) σ) : A (11, [v0, v1, v2, v3], [.float 0], σ) := by
  refine bGo hA 0 11 (19, .astore_n 3, 1, 12, 0, [3], []) rfl rfl rfl ?_
  refine bGo hA 0 12 (20, .iconst (1), 1, 13, 0, [], [(1, 0)]) rfl rfl rfl ?_
  refine bEqI bl_1 ?_
  refine bGo hA 0 13 (21, .ireturn, 1, 14, 0, [1], []) rfl rfl rfl ?_
  exact h

theorem sq342_0 {lvl : Nat} {C : bCall} {Q : bPost} {A : bPt → Prop} (hC : bMono C) (hA : bClosed lvl bm342 C Q A) {x1 : Int} {x2 : Int} {x3 : Int} {σ : bSt}  (h_x1 : bRg x1) (h_x2 : bRg x2) (h_x3 : bRg x3)
  (h : (C 174 [.ref 11, .int (bn x1), .int (bn x2), .int (bn x3)] σ (bRnx (fun r3 s1 => Q (.inl (some (.int (bn 0)))) (bwj s1 154 0 (bL r3))) (fun E s1 => (bRet [(0, 9, 10, 0), (0, 9, 13, 1), (0, 9, 16, 2)] 6 (fun _ _ => False) (fun h σ2 => A (h, [.ref 11, .int (bn x1), .int (bn x2), .int (bn x3), .ref 154, .float 0], [.float 0], σ2)) Q (.inr E) s1))))) : A (0, [.ref 11, .int (bn x1), .int (bn x2), .int (bn x3), .ref 154, .float 0], [], σ) := by
  refine bGo hA 0 0 (0, .aload 4, 2, 1, 0, [4], []) rfl rfl rfl ?_
  refine bGo hA 0 1 (2, .iconst (0), 1, 2, 0, [], [(0, 0)]) rfl rfl rfl ?_
  refine bEqI bl_0 ?_
  refine bGo hA 0 2 (3, .aload_n 0, 1, 3, 0, [0], []) rfl rfl rfl ?_
  refine bGo hA 0 3 (4, .iload_n 1, 1, 4, 0, [1], []) rfl rfl rfl ?_
  refine bGo hA 0 4 (5, .iload_n 2, 1, 5, 0, [2], []) rfl rfl rfl ?_
  refine bGo hA 0 5 (6, .iload_n 3, 1, 6, 0, [3], []) rfl rfl rfl ?_
  refine bGo hA 0 6 (7, .invokevirtual 111, 3, 7, 0, [0, 11, 174, 3], []) rfl rfl rfl ?_
  refine ⟨rfl, ?_⟩
  refine hC _ _ _ _ _ (bRnx_e (fun r3 s1 q4 k2 => ?_) (fun E s1 k2 => ?_)) h
  · show A (7, [.ref 11, .int (bn x1), .int (bn x2), .int (bn x3), .ref 154, .float 0], [.int (bn r3), .int (bn 0), .ref 154], s1)
    refine bGo hA 0 7 (10, .i2l, 1, 8, 0, [], []) rfl rfl rfl ?_
    refine bGo hA 0 8 (11, .lastore, 1, 9, 0, [], []) rfl rfl rfl ?_
    refine ⟨rfl, (bIxP (x := 0) (n := 1) (by decide) (by decide)), by decide, ?_⟩
    refine bEqSJ (x := 0) (by decide : bRg 0) ?_
    refine bGo hA 0 9 (12, .goto (15), 3, 10, 19, [], []) rfl rfl rfl ?_
    refine bGo hA 1 3 (27, .iconst (0), 1, 20, 0, [], [(0, 0)]) rfl rfl rfl ?_
    refine bEqI bl_0 ?_
    refine bGo hA 1 4 (28, .ireturn, 1, 0, 0, [1], []) rfl rfl rfl ?_
    exact k2
  · exact k2

theorem sq342_10 {lvl : Nat} {C : bCall} {Q : bPost} {A : bPt → Prop} (hC : bMono C) (hA : bClosed lvl bm342 C Q A) {v0 : Value} {v1 : Value} {v2 : Value} {v3 : Value} {v4 : Value} {v5 : Value} {σ : bSt}  
  (h : Q (.inl (some (.int (bn 1)))) σ) : A (10, [v0, v1, v2, v3, v4, v5], [.float 0], σ) := by
  refine bGo hA 0 10 (15, .astore 5, 2, 11, 0, [5], []) rfl rfl rfl ?_
  refine bGo hA 0 11 (17, .iconst (1), 1, 12, 0, [], [(1, 0)]) rfl rfl rfl ?_
  refine bEqI bl_1 ?_
  refine bGo hA 0 12 (18, .ireturn, 1, 13, 0, [1], []) rfl rfl rfl ?_
  exact h

theorem sq342_13 {lvl : Nat} {C : bCall} {Q : bPost} {A : bPt → Prop} (hC : bMono C) (hA : bClosed lvl bm342 C Q A) {v0 : Value} {v1 : Value} {v2 : Value} {v3 : Value} {v4 : Value} {v5 : Value} {σ : bSt}  
  (h : Q (.inl (some (.int (bn 2)))) σ) : A (13, [v0, v1, v2, v3, v4, v5], [.float 0], σ) := by
  refine bGo hA 0 13 (19, .astore 5, 2, 14, 0, [5], []) rfl rfl rfl ?_
  refine bGo hA 0 14 (21, .iconst (2), 1, 15, 0, [], [(2, 0)]) rfl rfl rfl ?_
  refine bEqI bl_2 ?_
  refine bGo hA 0 15 (22, .ireturn, 1, 16, 0, [1], []) rfl rfl rfl ?_
  exact h

theorem sq342_16 {lvl : Nat} {C : bCall} {Q : bPost} {A : bPt → Prop} (hC : bMono C) (hA : bClosed lvl bm342 C Q A) {v0 : Value} {v1 : Value} {v2 : Value} {v3 : Value} {v4 : Value} {v5 : Value} {σ : bSt}  
  (h : Q (.inl (some (.int (bn 3)))) σ) : A (16, [v0, v1, v2, v3, v4, v5], [.float 0], σ) := by
  refine bGo hA 1 0 (23, .astore 5, 2, 17, 0, [5], []) rfl rfl rfl ?_
  refine bGo hA 1 1 (25, .iconst (3), 1, 18, 0, [], [(3, 0)]) rfl rfl rfl ?_
  refine bEqI bl_3 ?_
  refine bGo hA 1 2 (26, .ireturn, 1, 19, 0, [1], []) rfl rfl rfl ?_
  exact h

theorem sq343_0 {lvl : Nat} {C : bCall} {Q : bPost} {A : bPt → Prop} (hC : bMono C) (hA : bClosed lvl bm343 C Q A) {x1 : Int} {σ : bSt}  (h_x1 : bRg x1)
  (h : (C 175 [.ref 11, .int (bn x1)] σ (bRnx (fun r3 s1 => Q (.inl (some (.int (bn 0)))) (bwj s1 154 0 (bL r3))) (fun E s1 => (bRet [(0, 7, 8, 1)] 4 (fun _ _ => False) (fun h σ2 => A (h, [.ref 11, .int (bn x1), .ref 154, .float 0], [.float 0], σ2)) Q (.inr E) s1))))) : A (0, [.ref 11, .int (bn x1), .ref 154, .float 0], [], σ) := by
  refine bGo hA 0 0 (0, .aload_n 2, 1, 1, 0, [2], []) rfl rfl rfl ?_
  refine bGo hA 0 1 (1, .iconst (0), 1, 2, 0, [], [(0, 0)]) rfl rfl rfl ?_
  refine bEqI bl_0 ?_
  refine bGo hA 0 2 (2, .aload_n 0, 1, 3, 0, [0], []) rfl rfl rfl ?_
  refine bGo hA 0 3 (3, .iload_n 1, 1, 4, 0, [1], []) rfl rfl rfl ?_
  refine bGo hA 0 4 (4, .invokevirtual 115, 3, 5, 0, [0, 11, 175, 1], []) rfl rfl rfl ?_
  refine ⟨rfl, ?_⟩
  refine hC _ _ _ _ _ (bRnx_e (fun r3 s1 q4 k2 => ?_) (fun E s1 k2 => ?_)) h
  · show A (5, [.ref 11, .int (bn x1), .ref 154, .float 0], [.int (bn r3), .int (bn 0), .ref 154], s1)
    refine bGo hA 0 5 (7, .i2l, 1, 6, 0, [], []) rfl rfl rfl ?_
    refine bGo hA 0 6 (8, .lastore, 1, 7, 0, [], []) rfl rfl rfl ?_
    refine ⟨rfl, (bIxP (x := 0) (n := 1) (by decide) (by decide)), by decide, ?_⟩
    refine bEqSJ (x := 0) (by decide : bRg 0) ?_
    refine bGo hA 0 7 (9, .goto (6), 3, 8, 11, [], []) rfl rfl rfl ?_
    refine bGo hA 0 11 (15, .iconst (0), 1, 12, 0, [], [(0, 0)]) rfl rfl rfl ?_
    refine bEqI bl_0 ?_
    refine bGo hA 0 12 (16, .ireturn, 1, 0, 0, [1], []) rfl rfl rfl ?_
    exact k2
  · exact k2

theorem sq343_8 {lvl : Nat} {C : bCall} {Q : bPost} {A : bPt → Prop} (hC : bMono C) (hA : bClosed lvl bm343 C Q A) {v0 : Value} {v1 : Value} {v2 : Value} {v3 : Value} {σ : bSt}  
  (h : Q (.inl (some (.int (bn 1)))) σ) : A (8, [v0, v1, v2, v3], [.float 0], σ) := by
  refine bGo hA 0 8 (12, .astore_n 3, 1, 9, 0, [3], []) rfl rfl rfl ?_
  refine bGo hA 0 9 (13, .iconst (1), 1, 10, 0, [], [(1, 0)]) rfl rfl rfl ?_
  refine bEqI bl_1 ?_
  refine bGo hA 0 10 (14, .ireturn, 1, 11, 0, [1], []) rfl rfl rfl ?_
  exact h

theorem sq344_0 {lvl : Nat} {C : bCall} {Q : bPost} {A : bPt → Prop} (hC : bMono C) (hA : bClosed lvl bm344 C Q A) {x1 : Int} {σ : bSt}  (h_x1 : bRg x1)
  (h : (C 177 [.ref 11, .int (bn x1)] σ (bRnx (fun r3 s1 => Q (.inl (some (.int (bn 0)))) (bwj s1 154 0 (bL r3))) (fun E s1 => (bRet [(0, 7, 8, 0)] 4 (fun _ _ => False) (fun h σ2 => A (h, [.ref 11, .int (bn x1), .ref 154, .float 0], [.float 0], σ2)) Q (.inr E) s1))))) : A (0, [.ref 11, .int (bn x1), .ref 154, .float 0], [], σ) := by
  refine bGo hA 0 0 (0, .aload_n 2, 1, 1, 0, [2], []) rfl rfl rfl ?_
  refine bGo hA 0 1 (1, .iconst (0), 1, 2, 0, [], [(0, 0)]) rfl rfl rfl ?_
  refine bEqI bl_0 ?_
  refine bGo hA 0 2 (2, .aload_n 0, 1, 3, 0, [0], []) rfl rfl rfl ?_
  refine bGo hA 0 3 (3, .iload_n 1, 1, 4, 0, [1], []) rfl rfl rfl ?_
  refine bGo hA 0 4 (4, .invokevirtual 118, 3, 5, 0, [0, 11, 177, 1], []) rfl rfl rfl ?_
  refine ⟨rfl, ?_⟩
  refine hC _ _ _ _ _ (bRnx_e (fun r3 s1 q4 k2 => ?_) (fun E s1 k2 => ?_)) h
  · show A (5, [.ref 11, .int (bn x1), .ref 154, .float 0], [.int (bn r3), .int (bn 0), .ref 154], s1)
    refine bGo hA 0 5 (7, .i2l, 1, 6, 0, [], []) rfl rfl rfl ?_
    refine bGo hA 0 6 (8, .lastore, 1, 7, 0, [], []) rfl rfl rfl ?_
    refine ⟨rfl, (bIxP (x := 0) (n := 1) (by decide) (by decide)), by decide, ?_⟩
    refine bEqSJ (x := 0) (by decide : bRg 0) ?_
    refine bGo hA 0 7 (9, .goto (6), 3, 8, 11, [], []) rfl rfl rfl ?_
    refine bGo hA 0 11 (15, .iconst (0), 1, 12, 0, [], [(0, 0)]) rfl rfl rfl ?_
    refine bEqI bl_0 ?_
    refine bGo hA 0 12 (16, .ireturn, 1, 0, 0, [1], []) rfl rfl rfl ?_
    exact k2
  · exact k2

theorem sq344_8 {lvl : Nat} {C : bCall} {Q : bPost} {A : bPt → Prop} (hC : bMono C) (hA : bClosed lvl bm344 C Q A) {v0 : Value} {v1 : Value} {v2 : Value} {v3 : Value} {σ : bSt}  
  (h : Q (.inl (some (.int (bn 1)))) σ) : A (8, [v0, v1, v2, v3], [.float 0], σ) := by
  refine bGo hA 0 8 (12, .astore_n 3, 1, 9, 0, [3], []) rfl rfl rfl ?_
  refine bGo hA 0 9 (13, .iconst (1), 1, 10, 0, [], [(1, 0)]) rfl rfl rfl ?_
  refine bEqI bl_1 ?_
  refine bGo hA 0 10 (14, .ireturn, 1, 11, 0, [1], []) rfl rfl rfl ?_
  exact h

theorem sq345_0 {lvl : Nat} {C : bCall} {Q : bPost} {A : bPt → Prop} (hC : bMono C) (hA : bClosed lvl bm345 C Q A) {x1 : Int} {σ : bSt}  (h_x1 : bRg x1)
  (h : (C 179 [.ref 11, .int (bn x1)] σ (bRnx (fun r3 s1 => Q (.inl (some (.int (bn 0)))) (bwj s1 154 0 (bL r3))) (fun E s1 => (bRet [(0, 7, 8, 0)] 4 (fun _ _ => False) (fun h σ2 => A (h, [.ref 11, .int (bn x1), .ref 154, .float 0], [.float 0], σ2)) Q (.inr E) s1))))) : A (0, [.ref 11, .int (bn x1), .ref 154, .float 0], [], σ) := by
  refine bGo hA 0 0 (0, .aload_n 2, 1, 1, 0, [2], []) rfl rfl rfl ?_
  refine bGo hA 0 1 (1, .iconst (0), 1, 2, 0, [], [(0, 0)]) rfl rfl rfl ?_
  refine bEqI bl_0 ?_
  refine bGo hA 0 2 (2, .aload_n 0, 1, 3, 0, [0], []) rfl rfl rfl ?_
  refine bGo hA 0 3 (3, .iload_n 1, 1, 4, 0, [1], []) rfl rfl rfl ?_
  refine bGo hA 0 4 (4, .invokevirtual 121, 3, 5, 0, [0, 11, 179, 1], []) rfl rfl rfl ?_
  refine ⟨rfl, ?_⟩
  refine hC _ _ _ _ _ (bRnx_e (fun r3 s1 q4 k2 => ?_) (fun E s1 k2 => ?_)) h
  · show A (5, [.ref 11, .int (bn x1), .ref 154, .float 0], [.int (bn r3), .int (bn 0), .ref 154], s1)
    refine bGo hA 0 5 (7, .i2l, 1, 6, 0, [], []) rfl rfl rfl ?_
    refine bGo hA 0 6 (8, .lastore, 1, 7, 0, [], []) rfl rfl rfl ?_
    refine ⟨rfl, (bIxP (x := 0) (n := 1) (by decide) (by decide)), by decide, ?_⟩
    refine bEqSJ (x := 0) (by decide : bRg 0) ?_
    refine bGo hA 0 7 (9, .goto (6), 3, 8, 11, [], []) rfl rfl rfl ?_
    refine bGo hA 0 11 (15, .iconst (0), 1, 12, 0, [], [(0, 0)]) rfl rfl rfl ?_
    refine bEqI bl_0 ?_
    refine bGo hA 0 12 (16, .ireturn, 1, 0, 0, [1], []) rfl rfl rfl ?_
    exact k2
  · exact k2

theorem sq345_8 {lvl : Nat} {C : bCall} {Q : bPost} {A : bPt → Prop} (hC : bMono C) (hA : bClosed lvl bm345 C Q A) {v0 : Value} {v1 : Value} {v2 : Value} {v3 : Value} {σ : bSt}  
  (h : Q (.inl (some (.int (bn 1)))) σ) : A (8, [v0, v1, v2, v3], [.float 0], σ) := by
  refine bGo hA 0 8 (12, .astore_n 3, 1, 9, 0, [3], []) rfl rfl rfl ?_
  refine bGo hA 0 9 (13, .iconst (1), 1, 10, 0, [], [(1, 0)]) rfl rfl rfl ?_
  refine bEqI bl_1 ?_
  refine bGo hA 0 10 (14, .ireturn, 1, 11, 0, [1], []) rfl rfl rfl ?_
  exact h

theorem sq346_0 {lvl : Nat} {C : bCall} {Q : bPost} {A : bPt → Prop} (hC : bMono C) (hA : bClosed lvl bm346 C Q A) {x1 : Int} {x2 : Int} {σ : bSt}  (h_x1 : bRg x1) (h_x2 : bRg x2)
  (h : (C 180 [.ref 11, .int (bn x1), .int (bn x2)] σ (bRnx (fun r3 s1 => Q (.inl (some (.int (bn 0)))) (bwj s1 154 0 (bL r3))) (fun E s1 => (bRet [(0, 8, 9, 0)] 5 (fun _ _ => False) (fun h σ2 => A (h, [.ref 11, .int (bn x1), .int (bn x2), .ref 154, .float 0], [.float 0], σ2)) Q (.inr E) s1))))) : A (0, [.ref 11, .int (bn x1), .int (bn x2), .ref 154, .float 0], [], σ) := by
  refine bGo hA 0 0 (0, .aload_n 3, 1, 1, 0, [3], []) rfl rfl rfl ?_
  refine bGo hA 0 1 (1, .iconst (0), 1, 2, 0, [], [(0, 0)]) rfl rfl rfl ?_
  refine bEqI bl_0 ?_
  refine bGo hA 0 2 (2, .aload_n 0, 1, 3, 0, [0], []) rfl rfl rfl ?_
  refine bGo hA 0 3 (3, .iload_n 1, 1, 4, 0, [1], []) rfl rfl rfl ?_
  refine bGo hA 0 4 (4, .iload_n 2, 1, 5, 0, [2], []) rfl rfl rfl ?_
  refine bGo hA 0 5 (5, .invokevirtual 124, 3, 6, 0, [0, 11, 180, 2], []) rfl rfl rfl ?_
  refine ⟨rfl, ?_⟩
  refine hC _ _ _ _ _ (bRnx_e (fun r3 s1 q4 k2 => ?_) (fun E s1 k2 => ?_)) h
  · show A (6, [.ref 11, .int (bn x1), .int (bn x2), .ref 154, .float 0], [.int (bn r3), .int (bn 0), .ref 154], s1)
    refine bGo hA 0 6 (8, .i2l, 1, 7, 0, [], []) rfl rfl rfl ?_
    refine bGo hA 0 7 (9, .lastore, 1, 8, 0, [], []) rfl rfl rfl ?_
    refine ⟨rfl, (bIxP (x := 0) (n := 1) (by decide) (by decide)), by decide, ?_⟩
    refine bEqSJ (x := 0) (by decide : bRg 0) ?_
    refine bGo hA 0 8 (10, .goto (7), 3, 9, 12, [], []) rfl rfl rfl ?_
    refine bGo hA 0 12 (17, .iconst (0), 1, 13, 0, [], [(0, 0)]) rfl rfl rfl ?_
    refine bEqI bl_0 ?_
    refine bGo hA 0 13 (18, .ireturn, 1, 0, 0, [1], []) rfl rfl rfl ?_
    exact k2
  · exact k2

theorem sq346_9 {lvl : Nat} {C : bCall} {Q : bPost} {A : bPt → Prop} (hC : bMono C) (hA : bClosed lvl bm346 C Q A) {v0 : Value} {v1 : Value} {v2 : Value} {v3 : Value} {v4 : Value} {σ : bSt}  
  (h : Q (.inl (some (.int (bn 1)))) σ) : A (9, [v0, v1, v2, v3, v4], [.float 0], σ) := by
  refine bGo hA 0 9 (13, .astore 4, 2, 10, 0, [4], []) rfl rfl rfl ?_
  refine bGo hA 0 10 (15, .iconst (1), 1, 11, 0, [], [(1, 0)]) rfl rfl rfl ?_
  refine bEqI bl_1 ?_
  refine bGo hA 0 11 (16, .ireturn, 1, 12, 0, [1], []) rfl rfl rfl ?_
  exact h

theorem sq347_0 {lvl : Nat} {C : bCall} {Q : bPost} {A : bPt → Prop} (hC : bMono C) (hA : bClosed lvl bm347 C Q A) {x1 : Int} {x2 : Int} {σ : bSt}  (h_x1 : bRg x1) (h_x2 : bRg x2)
  (h : (C 181 [.ref 11, .int (bn x1), .int (bn x2)] σ (bRnx (fun r3 s1 => Q (.inl (some (.int (bn 0)))) (bwj s1 154 0 (bL r3))) (fun E s1 => (bRet [(0, 8, 9, 0), (0, 8, 12, 1)] 5 (fun _ _ => False) (fun h σ2 => A (h, [.ref 11, .int (bn x1), .int (bn x2), .ref 154, .float 0], [.float 0], σ2)) Q (.inr E) s1))))) : A (0, [.ref 11, .int (bn x1), .int (bn x2), .ref 154, .float 0], [], σ) := by
  refine bGo hA 0 0 (0, .aload_n 3, 1, 1, 0, [3], []) rfl rfl rfl ?_
  refine bGo hA 0 1 (1, .iconst (0), 1, 2, 0, [], [(0, 0)]) rfl rfl rfl ?_
  refine bEqI bl_0 ?_
  refine bGo hA 0 2 (2, .aload_n 0, 1, 3, 0, [0], []) rfl rfl rfl ?_
  refine bGo hA 0 3 (3, .iload_n 1, 1, 4, 0, [1], []) rfl rfl rfl ?_
  refine bGo hA 0 4 (4, .iload_n 2, 1, 5, 0, [2], []) rfl rfl rfl ?_
  refine bGo hA 0 5 (5, .invokevirtual 127, 3, 6, 0, [0, 11, 181, 2], []) rfl rfl rfl ?_
  refine ⟨rfl, ?_⟩
  refine hC _ _ _ _ _ (bRnx_e (fun r3 s1 q4 k2 => ?_) (fun E s1 k2 => ?_)) h
  · show A (6, [.ref 11, .int (bn x1), .int (bn x2), .ref 154, .float 0], [.int (bn r3), .int (bn 0), .ref 154], s1)
    refine bGo hA 0 6 (8, .i2l, 1, 7, 0, [], []) rfl rfl rfl ?_
    refine bGo hA 0 7 (9, .lastore, 1, 8, 0, [], []) rfl rfl rfl ?_
    refine ⟨rfl, (bIxP (x := 0) (n := 1) (by decide) (by decide)), by decide, ?_⟩
    refine bEqSJ (x := 0) (by decide : bRg 0) ?_
    refine bGo hA 0 8 (10, .goto (11), 3, 9, 15, [], []) rfl rfl rfl ?_
    refine bGo hA 0 15 (21, .iconst (0), 1, 16, 0, [], [(0, 0)]) rfl rfl rfl ?_
    refine bEqI bl_0 ?_
    refine bGo hA 1 0 (22, .ireturn, 1, 0, 0, [1], []) rfl rfl rfl ?_
    exact k2
  · exact k2

theorem sq347_9 {lvl : Nat} {C : bCall} {Q : bPost} {A : bPt → Prop} (hC : bMono C) (hA : bClosed lvl bm347 C Q A) {v0 : Value} {v1 : Value} {v2 : Value} {v3 : Value} {v4 : Value} {σ : bSt}  
  (h : Q (.inl (some (.int (bn 1)))) σ) : A (9, [v0, v1, v2, v3, v4], [.float 0], σ) := by
  refine bGo hA 0 9 (13, .astore 4, 2, 10, 0, [4], []) rfl rfl rfl ?_
  refine bGo hA 0 10 (15, .iconst (1), 1, 11, 0, [], [(1, 0)]) rfl rfl rfl ?_
  refine bEqI bl_1 ?_
  refine bGo hA 0 11 (16, .ireturn, 1, 12, 0, [1], []) rfl rfl rfl ?_
  exact h

theorem sq347_12 {lvl : Nat} {C : bCall} {Q : bPost} {A : bPt → Prop} (hC : bMono C) (hA : bClosed lvl bm347 C Q A) {v0 : Value} {v1 : Value} {v2 : Value} {v3 : Value} {v4 : Value} {σ : bSt}  
  (h : Q (.inl (some (.int (bn 2)))) σ) : A (12, [v0, v1, v2, v3, v4], [.float 0], σ) := by
  refine bGo hA 0 12 (17, .astore 4, 2, 13, 0, [4], []) rfl rfl rfl ?_
  refine bGo hA 0 13 (19, .iconst (2), 1, 14, 0, [], [(2, 0)]) rfl rfl rfl ?_
  refine bEqI bl_2 ?_
  refine bGo hA 0 14 (20, .ireturn, 1, 15, 0, [1], []) rfl rfl rfl ?_
  exact h

theorem sq348_0 {lvl : Nat} {C : bCall} {Q : bPost} {A : bPt → Prop} (hC : bMono C) (hA : bClosed lvl bm348 C Q A) {x1 : Int} {x2 : Int} {σ : bSt}  (h_x1 : bRg x1) (h_x2 : bRg x2)
  (h : (C 182 [.ref 11, .int (bn x1), .int (bn x2)] σ (bRnx (fun r3 s1 => Q (.inl (some (.int (bn 0)))) (bwj s1 154 0 (bL r3))) (fun E s1 => (bRet [(0, 8, 9, 0)] 5 (fun _ _ => False) (fun h σ2 => A (h, [.ref 11, .int (bn x1), .int (bn x2), .ref 154, .float 0], [.float 0], σ2)) Q (.inr E) s1))))) : A (0, [.ref 11, .int (bn x1), .int (bn x2), .ref 154, .float 0], [], σ) := by
  refine bGo hA 0 0 (0, .aload_n 3, 1, 1, 0, [3], []) rfl rfl rfl ?_
  refine bGo hA 0 1 (1, .iconst (0), 1, 2, 0, [], [(0, 0)]) rfl rfl rfl ?_
  refine bEqI bl_0 ?_
  refine bGo hA 0 2 (2, .aload_n 0, 1, 3, 0, [0], []) rfl rfl rfl ?_
  refine bGo hA 0 3 (3, .iload_n 1, 1, 4, 0, [1], []) rfl rfl rfl ?_
  refine bGo hA 0 4 (4, .iload_n 2, 1, 5, 0, [2], []) rfl rfl rfl ?_
  refine bGo hA 0 5 (5, .invokevirtual 130, 3, 6, 0, [0, 11, 182, 2], []) rfl rfl rfl ?_
  refine ⟨rfl, ?_⟩
  refine hC _ _ _ _ _ (bRnx_e (fun r3 s1 q4 k2 => ?_) (fun E s1 k2 => ?_)) h
  · show A (6, [.ref 11, .int (bn x1), .int (bn x2), .ref 154, .float 0], [.int (bn r3), .int (bn 0), .ref 154], s1)
    refine bGo hA 0 6 (8, .i2l, 1, 7, 0, [], []) rfl rfl rfl ?_
    refine bGo hA 0 7 (9, .lastore, 1, 8, 0, [], []) rfl rfl rfl ?_
    refine ⟨rfl, (bIxP (x := 0) (n := 1) (by decide) (by decide)), by decide, ?_⟩
    refine bEqSJ (x := 0) (by decide : bRg 0) ?_
    refine bGo hA 0 8 (10, .goto (7), 3, 9, 12, [], []) rfl rfl rfl ?_
    refine bGo hA 0 12 (17, .iconst (0), 1, 13, 0, [], [(0, 0)]) rfl rfl rfl ?_
    refine bEqI bl_0 ?_
    refine bGo hA 0 13 (18, .ireturn, 1, 0, 0, [1], []) rfl rfl rfl ?_
    exact k2
  · exact k2

theorem sq348_9 {lvl : Nat} {C : bCall} {Q : bPost} {A : bPt → Prop} (hC : bMono C) (hA : bClosed lvl bm348 C Q A) {v0 : Value} {v1 : Value} {v2 : Value} {v3 : Value} {v4 : Value} {σ : bSt}  
  (h : Q (.inl (some (.int (bn 1)))) σ) : A (9, [v0, v1, v2, v3, v4], [.float 0], σ) := by
  refine bGo hA 0 9 (13, .astore 4, 2, 10, 0, [4], []) rfl rfl rfl ?_
  refine bGo hA 0 10 (15, .iconst (1), 1, 11, 0, [], [(1, 0)]) rfl rfl rfl ?_
  refine bEqI bl_1 ?_
  refine bGo hA 0 11 (16, .ireturn, 1, 12, 0, [1], []) rfl rfl rfl ?_
  exact h

theorem sq349_0 {lvl : Nat} {C : bCall} {Q : bPost} {A : bPt → Prop} (hC : bMono C) (hA : bClosed lvl bm349 C Q A) {x1 : Int} {σ : bSt}  (h_x1 : bRg x1)
  (h : (C 183 [.ref 11, .int (bn x1)] σ (bRnx (fun r3 s1 => Q (.inl (some (.int (bn 0)))) (bwj s1 154 0 (bL r3))) (fun E s1 => (bRet [(0, 7, 8, 0)] 4 (fun _ _ => False) (fun h σ2 => A (h, [.ref 11, .int (bn x1), .ref 154, .float 0], [.float 0], σ2)) Q (.inr E) s1))))) : A (0, [.ref 11, .int (bn x1), .ref 154, .float 0], [], σ) := by
  refine bGo hA 0 0 (0, .aload_n 2, 1, 1, 0, [2], []) rfl rfl rfl ?_
  refine bGo hA 0 1 (1, .iconst (0), 1, 2, 0, [], [(0, 0)]) rfl rfl rfl ?_
  refine bEqI bl_0 ?_
  refine bGo hA 0 2 (2, .aload_n 0, 1, 3, 0, [0], []) rfl rfl rfl ?_
  refine bGo hA 0 3 (3, .iload_n 1, 1, 4, 0, [1], []) rfl rfl rfl ?_
  refine bGo hA 0 4 (4, .invokevirtual 133, 3, 5, 0, [0, 11, 183, 1], []) rfl rfl rfl ?_
  refine ⟨rfl, ?_⟩
  refine hC _ _ _ _ _ (bRnx_e (fun r3 s1 q4 k2 => ?_) (fun E s1 k2 => ?_)) h
  · show A (5, [.ref 11, .int (bn x1), .ref 154, .float 0], [.int (bn r3), .int (bn 0), .ref 154], s1)
    refine bGo hA 0 5 (7, .i2l, 1, 6, 0, [], []) rfl rfl rfl ?_
    refine bGo hA 0 6 (8, .lastore, 1, 7, 0, [], []) rfl rfl rfl ?_
    refine ⟨rfl, (bIxP (x := 0) (n := 1) (by decide) (by decide)), by decide, ?_⟩
    refine bEqSJ (x := 0) (by decide : bRg 0) ?_
    refine bGo hA 0 7 (9, .goto (6), 3, 8, 11, [], []) rfl rfl rfl ?_
    refine bGo hA 0 11 (15, .iconst (0), 1, 12, 0, [], [(0, 0)]) rfl rfl rfl ?_
    refine bEqI bl_0 ?_
    refine bGo hA 0 12 (16, .ireturn, 1, 0, 0, [1], []) rfl rfl rfl ?_
    exact k2
  · exact k2

theorem sq349_8 {lvl : Nat} {C : bCall} {Q : bPost} {A : bPt → Prop} (hC : bMono C) (hA : bClosed lvl bm349 C Q A) {v0 : Value} {v1 : Value} {v2 : Value} {v3 : Value} {σ : bSt}  
  (h : Q (.inl (some (.int (bn 1)))) σ) : A (8, [v0, v1, v2, v3], [.float 0], σ) := by
  refine bGo hA 0 8 (12, .astore_n 3, 1, 9, 0, [3], []) rfl rfl rfl ?_
  refine bGo hA 0 9 (13, .iconst (1), 1, 10, 0, [], [(1, 0)]) rfl rfl rfl ?_
  refine bEqI bl_1 ?_
  refine bGo hA 0 10 (14, .ireturn, 1, 11, 0, [1], []) rfl rfl rfl ?_
  exact h

theorem sq350_0 {lvl : Nat} {C : bCall} {Q : bPost} {A : bPt → Prop} (hC : bMono C) (hA : bClosed lvl bm350 C Q A) {x1 : Int} {σ : bSt}  (h_x1 : bRg x1)
  (h : (C 184 [.ref 11, .int (bn x1)] σ (bRnx (fun r3 s1 => Q (.inl (some (.int (bn 0)))) (bwj s1 154 0 (bL r3))) (fun E s1 => (bRet [(0, 7, 8, 0)] 4 (fun _ _ => False) (fun h σ2 => A (h, [.ref 11, .int (bn x1), .ref 154, .float 0], [.float 0], σ2)) Q (.inr E) s1))))) : A (0, [.ref 11, .int (bn x1), .ref 154, .float 0], [], σ) := by
  refine bGo hA 0 0 (0, .aload_n 2, 1, 1, 0, [2], []) rfl rfl rfl ?_
  refine bGo hA 0 1 (1, .iconst (0), 1, 2, 0, [], [(0, 0)]) rfl rfl rfl ?_
  refine bEqI bl_0 ?_
  refine bGo hA 0 2 (2, .aload_n 0, 1, 3, 0, [0], []) rfl rfl rfl ?_
  refine bGo hA 0 3 (3, .iload_n 1, 1, 4, 0, [1], []) rfl rfl rfl ?_
  refine bGo hA 0 4 (4, .invokevirtual 136, 3, 5, 0, [0, 11, 184, 1], []) rfl rfl rfl ?_
  refine ⟨rfl, ?_⟩
  refine hC _ _ _ _ _ (bRnx_e (fun r3 s1 q4 k2 => ?_) (fun E s1 k2 => ?_)) h
  · show A (5, [.ref 11, .int (bn x1), .ref 154, .float 0], [.int (bn r3), .int (bn 0), .ref 154], s1)
    refine bGo hA 0 5 (7, .i2l, 1, 6, 0, [], []) rfl rfl rfl ?_
    refine bGo hA 0 6 (8, .lastore, 1, 7, 0, [], []) rfl rfl rfl ?_
    refine ⟨rfl, (bIxP (x := 0) (n := 1) (by decide) (by decide)), by decide, ?_⟩
    refine bEqSJ (x := 0) (by decide : bRg 0) ?_
    refine bGo hA 0 7 (9, .goto (6), 3, 8, 11, [], []) rfl rfl rfl ?_
    refine bGo hA 0 11 (15, .iconst (0), 1, 12, 0, [], [(0, 0)]) rfl rfl rfl ?_
    refine bEqI bl_0 ?_
    refine bGo hA 0 12 (16, .ireturn, 1, 0, 0, [1], []) rfl rfl rfl ?_
    exact k2
  · exact k2

theorem sq350_8 {lvl : Nat} {C : bCall} {Q : bPost} {A : bPt → Prop} (hC : bMono C) (hA : bClosed lvl bm350 C Q A) {v0 : Value} {v1 : Value} {v2 : Value} {v3 : Value} {σ : bSt}  
  (h : Q (.inl (some (.int (bn 1)))) σ) : A (8, [v0, v1, v2, v3], [.float 0], σ) := by
  refine bGo hA 0 8 (12, .astore_n 3, 1, 9, 0, [3], []) rfl rfl rfl ?_
  refine bGo hA 0 9 (13, .iconst (1), 1, 10, 0, [], [(1, 0)]) rfl rfl rfl ?_
  refine bEqI bl_1 ?_
  refine bGo hA 0 10 (14, .ireturn, 1, 11, 0, [1], []) rfl rfl rfl ?_
  exact h

theorem sq351_0 {lvl : Nat} {C : bCall} {Q : bPost} {A : bPt → Prop} (hC : bMono C) (hA : bClosed lvl bm351 C Q A) {x1 : Int} {σ : bSt}  (h_x1 : bRg x1)
  (h : (C 185 [.ref 11, .int (bn x1)] σ (bRnx (fun r3 s1 => Q (.inl (some (.int (bn 0)))) (bwj s1 154 0 (bL r3))) (fun E s1 => (bRet [(0, 7, 8, 0), (0, 7, 11, 2)] 4 (fun _ _ => False) (fun h σ2 => A (h, [.ref 11, .int (bn x1), .ref 154, .float 0], [.float 0], σ2)) Q (.inr E) s1))))) : A (0, [.ref 11, .int (bn x1), .ref 154, .float 0], [], σ) := by
  refine bGo hA 0 0 (0, .aload_n 2, 1, 1, 0, [2], []) rfl rfl rfl ?_
  refine bGo hA 0 1 (1, .iconst (0), 1, 2, 0, [], [(0, 0)]) rfl rfl rfl ?_
  refine bEqI bl_0 ?_
  refine bGo hA 0 2 (2, .aload_n 0, 1, 3, 0, [0], []) rfl rfl rfl ?_
  refine bGo hA 0 3 (3, .iload_n 1, 1, 4, 0, [1], []) rfl rfl rfl ?_
  refine bGo hA 0 4 (4, .invokevirtual 139, 3, 5, 0, [0, 11, 185, 1], []) rfl rfl rfl ?_
  refine ⟨rfl, ?_⟩
  refine hC _ _ _ _ _ (bRnx_e (fun r3 s1 q4 k2 => ?_) (fun E s1 k2 => ?_)) h
  · show A (5, [.ref 11, .int (bn x1), .ref 154, .float 0], [.int (bn r3), .int (bn 0), .ref 154], s1)
    refine bGo hA 0 5 (7, .i2l, 1, 6, 0, [], []) rfl rfl rfl ?_
    refine bGo hA 0 6 (8, .lastore, 1, 7, 0, [], []) rfl rfl rfl ?_
    refine ⟨rfl, (bIxP (x := 0) (n := 1) (by decide) (by decide)), by decide, ?_⟩
    refine bEqSJ (x := 0) (by decide : bRg 0) ?_
    refine bGo hA 0 7 (9, .goto (9), 3, 8, 14, [], []) rfl rfl rfl ?_
    refine bGo hA 0 14 (18, .iconst (0), 1, 15, 0, [], [(0, 0)]) rfl rfl rfl ?_
    refine bEqI bl_0 ?_
    refine bGo hA 0 15 (19, .ireturn, 1, 0, 0, [1], []) rfl rfl rfl ?_
    exact k2
  · exact k2

theorem sq351_8 {lvl : Nat} {C : bCall} {Q : bPost} {A : bPt → Prop} (hC : bMono C) (hA : bClosed lvl bm351 C Q A) {v0 : Value} {v1 : Value} {v2 : Value} {v3 : Value} {σ : bSt}  
  (h : Q (.inl (some (.int (bn 1)))) σ) : A (8, [v0, v1, v2, v3], [.float 0], σ) := by
  refine bGo hA 0 8 (12, .astore_n 3, 1, 9, 0, [3], []) rfl rfl rfl ?_
  refine bGo hA 0 9 (13, .iconst (1), 1, 10, 0, [], [(1, 0)]) rfl rfl rfl ?_
  refine bEqI bl_1 ?_
  refine bGo hA 0 10 (14, .ireturn, 1, 11, 0, [1], []) rfl rfl rfl ?_
  exact h

theorem sq351_11 {lvl : Nat} {C : bCall} {Q : bPost} {A : bPt → Prop} (hC : bMono C) (hA : bClosed lvl bm351 C Q A) {v0 : Value} {v1 : Value} {v2 : Value} {v3 : Value} {σ : bSt}  
  (h : Q (.inl (some (.int (bn 2)))) σ) : A (11, [v0, v1, v2, v3], [.float 0], σ) := by
  refine bGo hA 0 11 (15, .astore_n 3, 1, 12, 0, [3], []) rfl rfl rfl ?_
  refine bGo hA 0 12 (16, .iconst (2), 1, 13, 0, [], [(2, 0)]) rfl rfl rfl ?_
  refine bEqI bl_2 ?_
  refine bGo hA 0 13 (17, .ireturn, 1, 14, 0, [1], []) rfl rfl rfl ?_
  exact h

theorem sq352_0 {lvl : Nat} {C : bCall} {Q : bPost} {A : bPt → Prop} (hC : bMono C) (hA : bClosed lvl bm352 C Q A) {x1 : Int} {x2 : Int} {σ : bSt}  (h_x1 : bRg x1) (h_x2 : bRg x2)
  (h : (C 189 [.ref 11, .int (bn x1), .int (bn x2)] σ (bRnx (fun r3 s1 => Q (.inl (some (.int (bn 0)))) (bwj s1 154 0 (bL r3))) (fun E s1 => (bRet [(0, 8, 9, 0)] 5 (fun _ _ => False) (fun h σ2 => A (h, [.ref 11, .int (bn x1), .int (bn x2), .ref 154, .float 0], [.float 0], σ2)) Q (.inr E) s1))))) : A (0, [.ref 11, .int (bn x1), .int (bn x2), .ref 154, .float 0], [], σ) := by
  refine bGo hA 0 0 (0, .aload_n 3, 1, 1, 0, [3], []) rfl rfl rfl ?_
  refine bGo hA 0 1 (1, .iconst (0), 1, 2, 0, [], [(0, 0)]) rfl rfl rfl ?_
  refine bEqI bl_0 ?_
  refine bGo hA 0 2 (2, .aload_n 0, 1, 3, 0, [0], []) rfl rfl rfl ?_
  refine bGo hA 0 3 (3, .iload_n 1, 1, 4, 0, [1], []) rfl rfl rfl ?_
  refine bGo hA 0 4 (4, .iload_n 2, 1, 5, 0, [2], []) rfl rfl rfl ?_
  refine bGo hA 0 5 (5, .invokevirtual 142, 3, 6, 0, [0, 11, 189, 2], []) rfl rfl rfl ?_
  refine ⟨rfl, ?_⟩
  refine hC _ _ _ _ _ (bRnx_e (fun r3 s1 q4 k2 => ?_) (fun E s1 k2 => ?_)) h
  · show A (6, [.ref 11, .int (bn x1), .int (bn x2), .ref 154, .float 0], [.int (bn r3), .int (bn 0), .ref 154], s1)
    refine bGo hA 0 6 (8, .i2l, 1, 7, 0, [], []) rfl rfl rfl ?_
    refine bGo hA 0 7 (9, .lastore, 1, 8, 0, [], []) rfl rfl rfl ?_
    refine ⟨rfl, (bIxP (x := 0) (n := 1) (by decide) (by decide)), by decide, ?_⟩
    refine bEqSJ (x := 0) (by decide : bRg 0) ?_
    refine bGo hA 0 8 (10, .goto (7), 3, 9, 12, [], []) rfl rfl rfl ?_
    refine bGo hA 0 12 (17, .iconst (0), 1, 13, 0, [], [(0, 0)]) rfl rfl rfl ?_
    refine bEqI bl_0 ?_
    refine bGo hA 0 13 (18, .ireturn, 1, 0, 0, [1], []) rfl rfl rfl ?_
    exact k2
  · exact k2

theorem sq352_9 {lvl : Nat} {C : bCall} {Q : bPost} {A : bPt → Prop} (hC : bMono C) (hA : bClosed lvl bm352 C Q A) {v0 : Value} {v1 : Value} {v2 : Value} {v3 : Value} {v4 : Value} {σ : bSt}  
  (h : Q (.inl (some (.int (bn 1)))) σ) : A (9, [v0, v1, v2, v3, v4], [.float 0], σ) := by
  refine bGo hA 0 9 (13, .astore 4, 2, 10, 0, [4], []) rfl rfl rfl ?_
  refine bGo hA 0 10 (15, .iconst (1), 1, 11, 0, [], [(1, 0)]) rfl rfl rfl ?_
  refine bEqI bl_1 ?_
  refine bGo hA 0 11 (16, .ireturn, 1, 12, 0, [1], []) rfl rfl rfl ?_
  exact h

theorem sq353_0 {lvl : Nat} {C : bCall} {Q : bPost} {A : bPt → Prop} (hC : bMono C) (hA : bClosed lvl bm353 C Q A) {x1 : Int} {σ : bSt}  (h_x1 : bRg x1)
  (h : (C 191 [.ref 11, .int (bn x1)] σ (bRvx (fun s1 => Q (.inl (some (.int (bn 0)))) s1) (fun E s1 => (bRet [(0, 3, 4, 1)] 2 (fun _ _ => False) (fun h σ2 => A (h, [.ref 11, .int (bn x1), .float 0], [.float 0], σ2)) Q (.inr E) s1))))) : A (0, [.ref 11, .int (bn x1), .float 0], [], σ) := by
  refine bGo hA 0 0 (0, .aload_n 0, 1, 1, 0, [0], []) rfl rfl rfl ?_
  refine bGo hA 0 1 (1, .iload_n 1, 1, 2, 0, [1], []) rfl rfl rfl ?_
  refine bGo hA 0 2 (2, .invokevirtual 145, 3, 3, 0, [0, 11, 191, 1], []) rfl rfl rfl ?_
  refine ⟨rfl, ?_⟩
  refine hC _ _ _ _ _ (bRvx_e (fun s1 k2 => ?_) (fun E s1 k2 => ?_)) h
  · show A (3, [.ref 11, .int (bn x1), .float 0], [], s1)
    refine bGo hA 0 3 (5, .goto (6), 3, 4, 7, [], []) rfl rfl rfl ?_
    refine bGo hA 0 7 (11, .iconst (0), 1, 8, 0, [], [(0, 0)]) rfl rfl rfl ?_
    refine bEqI bl_0 ?_
    refine bGo hA 0 8 (12, .ireturn, 1, 0, 0, [1], []) rfl rfl rfl ?_
    exact k2
  · exact k2

theorem sq353_4 {lvl : Nat} {C : bCall} {Q : bPost} {A : bPt → Prop} (hC : bMono C) (hA : bClosed lvl bm353 C Q A) {v0 : Value} {v1 : Value} {v2 : Value} {σ : bSt}  
  (h : Q (.inl (some (.int (bn 1)))) σ) : A (4, [v0, v1, v2], [.float 0], σ) := by
  refine bGo hA 0 4 (8, .astore_n 2, 1, 5, 0, [2], []) rfl rfl rfl ?_
  refine bGo hA 0 5 (9, .iconst (1), 1, 6, 0, [], [(1, 0)]) rfl rfl rfl ?_
  refine bEqI bl_1 ?_
  refine bGo hA 0 6 (10, .ireturn, 1, 7, 0, [1], []) rfl rfl rfl ?_
  exact h

theorem sq354_0 {lvl : Nat} {C : bCall} {Q : bPost} {A : bPt → Prop} (hC : bMono C) (hA : bClosed lvl bm354 C Q A) {x1 : Int} {x2 : Int} {x3 : Int} {σ : bSt}  (h_x1 : bRg x1) (h_x2 : bRg x2) (h_x3 : bRg x3)
  (h : (C 192 [.ref 11, .int (bn x1), .int (bn x2), .int (bn x3)] σ (bRnx (fun r3 s1 => Q (.inl (some (.int (bn 0)))) (bwj s1 154 0 (bL r3))) (fun E s1 => (bRet [(0, 9, 10, 0)] 6 (fun _ _ => False) (fun h σ2 => A (h, [.ref 11, .int (bn x1), .int (bn x2), .int (bn x3), .ref 154, .float 0], [.float 0], σ2)) Q (.inr E) s1))))) : A (0, [.ref 11, .int (bn x1), .int (bn x2), .int (bn x3), .ref 154, .float 0], [], σ) := by
  refine bGo hA 0 0 (0, .aload 4, 2, 1, 0, [4], []) rfl rfl rfl ?_
  refine bGo hA 0 1 (2, .iconst (0), 1, 2, 0, [], [(0, 0)]) rfl rfl rfl ?_
  refine bEqI bl_0 ?_
  refine bGo hA 0 2 (3, .aload_n 0, 1, 3, 0, [0], []) rfl rfl rfl ?_
  refine bGo hA 0 3 (4, .iload_n 1, 1, 4, 0, [1], []) rfl rfl rfl ?_
  refine bGo hA 0 4 (5, .iload_n 2, 1, 5, 0, [2], []) rfl rfl rfl ?_
  refine bGo hA 0 5 (6, .iload_n 3, 1, 6, 0, [3], []) rfl rfl rfl ?_
  refine bGo hA 0 6 (7, .invokevirtual 149, 3, 7, 0, [0, 11, 192, 3], []) rfl rfl rfl ?_
  refine ⟨rfl, ?_⟩
  refine hC _ _ _ _ _ (bRnx_e (fun r3 s1 q4 k2 => ?_) (fun E s1 k2 => ?_)) h
  · show A (7, [.ref 11, .int (bn x1), .int (bn x2), .int (bn x3), .ref 154, .float 0], [.int (bn r3), .int (bn 0), .ref 154], s1)
    refine bGo hA 0 7 (10, .i2l, 1, 8, 0, [], []) rfl rfl rfl ?_
    refine bGo hA 0 8 (11, .lastore, 1, 9, 0, [], []) rfl rfl rfl ?_
    refine ⟨rfl, (bIxP (x := 0) (n := 1) (by decide) (by decide)), by decide, ?_⟩
    refine bEqSJ (x := 0) (by decide : bRg 0) ?_
    refine bGo hA 0 9 (12, .goto (7), 3, 10, 13, [], []) rfl rfl rfl ?_
    refine bGo hA 0 13 (19, .iconst (0), 1, 14, 0, [], [(0, 0)]) rfl rfl rfl ?_
    refine bEqI bl_0 ?_
    refine bGo hA 0 14 (20, .ireturn, 1, 0, 0, [1], []) rfl rfl rfl ?_
    exact k2
  · exact k2

theorem sq354_10 {lvl : Nat} {C : bCall} {Q : bPost} {A : bPt → Prop} (hC : bMono C) (hA : bClosed lvl bm354 C Q A) {v0 : Value} {v1 : Value} {v2 : Value} {v3 : Value} {v4 : Value} {v5 : Value} {σ : bSt}  
  (h : Q (.inl (some (.int (bn 1)))) σ) : A (10, [v0, v1, v2, v3, v4, v5], [.float 0], σ) := by
  refine bGo hA 0 10 (15, .astore 5, 2, 11, 0, [5], []) rfl rfl rfl ?_
  refine bGo hA 0 11 (17, .iconst (1), 1, 12, 0, [], [(1, 0)]) rfl rfl rfl ?_
  refine bEqI bl_1 ?_
  refine bGo hA 0 12 (18, .ireturn, 1, 13, 0, [1], []) rfl rfl rfl ?_
  exact h

theorem sq355_0 {lvl : Nat} {C : bCall} {Q : bPost} {A : bPt → Prop} (hC : bMono C) (hA : bClosed lvl bm355 C Q A) {x1 : Int} {x2 : Int} {σ : bSt}  (h_x1 : bRg x1) (h_x2 : bRg x2)
  (h : (C 193 [.ref 11, .int (bn x1), .int (bn x2)] σ (bRnx (fun r3 s1 => Q (.inl (some (.int (bn 0)))) (bwj s1 154 0 (bL r3))) (fun E s1 => (bRet [(0, 8, 9, 0)] 5 (fun _ _ => False) (fun h σ2 => A (h, [.ref 11, .int (bn x1), .int (bn x2), .ref 154, .float 0], [.float 0], σ2)) Q (.inr E) s1))))) : A (0, [.ref 11, .int (bn x1), .int (bn x2), .ref 154, .float 0], [], σ) := by
  refine bGo hA 0 0 (0, .aload_n 3, 1, 1, 0, [3], []) rfl rfl rfl ?_
  refine bGo hA 0 1 (1, .iconst (0), 1, 2, 0, [], [(0, 0)]) rfl rfl rfl ?_
  refine bEqI bl_0 ?_
  refine bGo hA 0 2 (2, .aload_n 0, 1, 3, 0, [0], []) rfl rfl rfl ?_
  refine bGo hA 0 3 (3, .iload_n 1, 1, 4, 0, [1], []) rfl rfl rfl ?_
  refine bGo hA 0 4 (4, .iload_n 2, 1, 5, 0, [2], []) rfl rfl rfl ?_
  refine bGo hA 0 5 (5, .invokevirtual 152, 3, 6, 0, [0, 11, 193, 2], []) rfl rfl rfl ?_
  refine ⟨rfl, ?_⟩
  refine hC _ _ _ _ _ (bRnx_e (fun r3 s1 q4 k2 => ?_) (fun E s1 k2 => ?_)) h
  · show A (6, [.ref 11, .int (bn x1), .int (bn x2), .ref 154, .float 0], [.int (bn r3), .int (bn 0), .ref 154], s1)
    refine bGo hA 0 6 (8, .i2l, 1, 7, 0, [], []) rfl rfl rfl ?_
    refine bGo hA 0 7 (9, .lastore, 1, 8, 0, [], []) rfl rfl rfl ?_
    refine ⟨rfl, (bIxP (x := 0) (n := 1) (by decide) (by decide)), by decide, ?_⟩
    refine bEqSJ (x := 0) (by decide : bRg 0) ?_
    refine bGo hA 0 8 (10, .goto (7), 3, 9, 12, [], []) rfl rfl rfl ?_
    refine bGo hA 0 12 (17, .iconst (0), 1, 13, 0, [], [(0, 0)]) rfl rfl rfl ?_
    refine bEqI bl_0 ?_
    refine bGo hA 0 13 (18, .ireturn, 1, 0, 0, [1], []) rfl rfl rfl ?_
    exact k2
  · exact k2

theorem sq355_9 {lvl : Nat} {C : bCall} {Q : bPost} {A : bPt → Prop} (hC : bMono C) (hA : bClosed lvl bm355 C Q A) {v0 : Value} {v1 : Value} {v2 : Value} {v3 : Value} {v4 : Value} {σ : bSt}  
  (h : Q (.inl (some (.int (bn 1)))) σ) : A (9, [v0, v1, v2, v3, v4], [.float 0], σ) := by
  refine bGo hA 0 9 (13, .astore 4, 2, 10, 0, [4], []) rfl rfl rfl ?_
  refine bGo hA 0 10 (15, .iconst (1), 1, 11, 0, [], [(1, 0)]) rfl rfl rfl ?_
  refine bEqI bl_1 ?_
  refine bGo hA 0 11 (16, .ireturn, 1, 12, 0, [1], []) rfl rfl rfl ?_
  exact h

theorem sq356_0 {lvl : Nat} {C : bCall} {Q : bPost} {A : bPt → Prop} (hC : bMono C) (hA : bClosed lvl bm356 C Q A) {x1 : Int} {σ : bSt}  (h_x1 : bRg x1)
  (h : (C 194 [.ref 11, .int (bn x1)] σ (bRnx (fun r3 s1 => Q (.inl (some (.int (bn 0)))) (bwj s1 154 0 (bL r3))) (fun E s1 => (bRet [(0, 7, 8, 0)] 4 (fun _ _ => False) (fun h σ2 => A (h, [.ref 11, .int (bn x1), .ref 154, .float 0], [.float 0], σ2)) Q (.inr E) s1))))) : A (0, [.ref 11, .int (bn x1), .ref 154, .float 0], [], σ) := by
  refine bGo hA 0 0 (0, .aload_n 2, 1, 1, 0, [2], []) rfl rfl rfl ?_
  refine bGo hA 0 1 (1, .iconst (0), 1, 2, 0, [], [(0, 0)]) rfl rfl rfl ?_
  refine bEqI bl_0 ?_
  refine bGo hA 0 2 (2, .aload_n 0, 1, 3, 0, [0], []) rfl rfl rfl ?_
  refine bGo hA 0 3 (3, .iload_n 1, 1, 4, 0, [1], []) rfl rfl rfl ?_
  refine bGo hA 0 4 (4, .invokevirtual 155, 3, 5, 0, [0, 11, 194, 1], []) rfl rfl rfl ?_
  refine ⟨rfl, ?_⟩
  refine hC _ _ _ _ _ (bRnx_e (fun r3 s1 q4 k2 => ?_) (fun E s1 k2 => ?_)) h
  · show A (5, [.ref 11, .int (bn x1), .ref 154, .float 0], [.int (bn r3), .int (bn 0), .ref 154], s1)
    refine bGo hA 0 5 (7, .i2l, 1, 6, 0, [], []) rfl rfl rfl ?_
    refine bGo hA 0 6 (8, .lastore, 1, 7, 0, [], []) rfl rfl rfl ?_
    refine ⟨rfl, (bIxP (x := 0) (n := 1) (by decide) (by decide)), by decide, ?_⟩
    refine bEqSJ (x := 0) (by decide : bRg 0) ?_
    refine bGo hA 0 7 (9, .goto (6), 3, 8, 11, [], []) rfl rfl rfl ?_
    refine bGo hA 0 11 (15, .iconst (0), 1, 12, 0, [], [(0, 0)]) rfl rfl rfl ?_
    refine bEqI bl_0 ?_
    refine bGo hA 0 12 (16, .ireturn, 1, 0, 0, [1], []) rfl rfl rfl ?_
    exact k2
  · exact k2

theorem sq356_8 {lvl : Nat} {C : bCall} {Q : bPost} {A : bPt → Prop} (hC : bMono C) (hA : bClosed lvl bm356 C Q A) {v0 : Value} {v1 : Value} {v2 : Value} {v3 : Value} {σ : bSt}  
  (h : Q (.inl (some (.int (bn 1)))) σ) : A (8, [v0, v1, v2, v3], [.float 0], σ) := by
  refine bGo hA 0 8 (12, .astore_n 3, 1, 9, 0, [3], []) rfl rfl rfl ?_
  refine bGo hA 0 9 (13, .iconst (1), 1, 10, 0, [], [(1, 0)]) rfl rfl rfl ?_
  refine bEqI bl_1 ?_
  refine bGo hA 0 10 (14, .ireturn, 1, 11, 0, [1], []) rfl rfl rfl ?_
  exact h


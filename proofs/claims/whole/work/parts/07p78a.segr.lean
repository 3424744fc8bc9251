/-! segments of methods 210,211, by program (wip/whole/gen13.py): from a cut of a method on to the next cuts -/
theorem sq210_0 {lvl : Nat} {C : bCall} {Q : bPost} {A : bPt → Prop} (hC : bMono C) (hA : bClosed lvl bm210 C Q A) {x0 : Int} {σ : bSt}  (h_x0 : bRg x0)
  (h : (C 199 [.int (bn x0), .int (bn 0), .int (bn 5)] σ (bRn (fun r3 s1 => ((r3 = 0 ∨ r3 = 1) ∧ Q (.inl (some (.int (bn r3)))) s1))))) : A (0, [.int (bn x0)], [], σ) := by
  refine bGo hA 0 0 (0, .iload_n 0, 1, 1, 0, [0], []) rfl rfl rfl ?_
  refine bGo hA 0 1 (1, .iconst (0), 1, 2, 0, [], [(0, 0)]) rfl rfl rfl ?_
  refine bEqI bl_0 ?_
  refine bGo hA 0 2 (2, .iconst (5), 1, 3, 0, [], [(5, 0)]) rfl rfl rfl ?_
  refine bEqI bl_5 ?_
  refine bGo hA 0 3 (3, .invokestatic 325, 3, 4, 0, [2, 199, 3], []) rfl rfl rfl ?_
  refine hC _ _ _ _ _ (bRn_e (fun r3 s1 q4 k2 => ?_)) h
  show A (4, [.int (bn x0)], [.int (bn r3)], s1)
  refine bGo hA 0 4 (6, .ireturn, 1, 0, 0, [2], []) rfl rfl rfl ?_
  exact ⟨b01 k2.1, k2.2⟩

theorem sq211_0 {lvl : Nat} {C : bCall} {Q : bPost} {A : bPt → Prop} (hC : bMono C) (hA : bClosed lvl bm211 C Q A) {x0 : Int} {σ : bSt}  (h_x0 : bRg x0)
  (h : (C 199 [.int (bn x0), .int (bn 0), .int (bn 7)] σ (bRn (fun r3 s1 => ((r3 = 0 ∨ r3 = 1) ∧ Q (.inl (some (.int (bn r3)))) s1))))) : A (0, [.int (bn x0)], [], σ) := by
  refine bGo hA 0 0 (0, .iload_n 0, 1, 1, 0, [0], []) rfl rfl rfl ?_
  refine bGo hA 0 1 (1, .iconst (0), 1, 2, 0, [], [(0, 0)]) rfl rfl rfl ?_
  refine bEqI bl_0 ?_
  refine bGo hA 0 2 (2, .bipush (7), 2, 3, 0, [], [(7, 0)]) rfl rfl rfl ?_
  refine bEqI bl_7 ?_
  refine bGo hA 0 3 (4, .invokestatic 325, 3, 4, 0, [2, 199, 3], []) rfl rfl rfl ?_
  refine hC _ _ _ _ _ (bRn_e (fun r3 s1 q4 k2 => ?_)) h
  show A (4, [.int (bn x0)], [.int (bn r3)], s1)
  refine bGo hA 0 4 (7, .ireturn, 1, 0, 0, [2], []) rfl rfl rfl ?_
  exact ⟨b01 k2.1, k2.2⟩


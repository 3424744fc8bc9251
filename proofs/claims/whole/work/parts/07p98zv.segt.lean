/-! segments of methods 167,179,183,184, by program (wip/whole/gen13.py): from a cut of a method on to the next cuts -/
theorem sq167_0 {lvl : Nat} {C : bCall} {Q : bPost} {A : bPt → Prop} (hC : bMono C) (hA : bClosed lvl bm167 C Q A) {x1 : Int} {x2 : Int} {σ : bSt}  (h_x1 : bRg x1) (h_x2 : bRg x2)
  (h : (C 136 [.int (bn x1), .int (bn (bi σ 9 0))] σ (bRvx (fun s1 => (C 137 [.int (bn x2)] s1 (bRvx (fun s3 => (C 68 [.ref 6] s3 (bRv (fun s5 => (C 78 [.ref 6, .int (bn x1), .int (bn x2)] s5 (bRn (fun r9 s7 => Q (.inl (some (.int (bn r9)))) s7))))))) (fun E s3 => Q (.inr E) s3)))) (fun E s1 => Q (.inr E) s1)))) : A (0, [.ref 11, .int (bn x1), .int (bn x2)], [], σ) := by
  refine bGo hA 0 0 (0, .iload_n 1, 1, 1, 0, [1], []) rfl rfl rfl ?_
  refine bGo hA 0 1 (1, .aload_n 0, 1, 2, 0, [0], []) rfl rfl rfl ?_
  refine bGo hA 0 2 (2, .getfield 33, 3, 3, 0, [11, 3, 3, 9, 0, 0], []) rfl rfl rfl ?_
  refine ⟨rfl, ?_⟩
  refine bGo hA 0 3 (5, .getfield 144, 3, 4, 0, [9, 0, 0, 0, 0, 0], []) rfl rfl rfl ?_
  refine ⟨rfl, ?_⟩
  refine bEqI (bn_bi σ 9 0) ?_
  refine bGo hA 0 4 (8, .invokestatic 76, 3, 5, 0, [2, 136, 2], []) rfl rfl rfl ?_
  refine hC _ _ _ _ _ (bRvx_e (fun s1 k2 => ?_) (fun E s1 k2 => ?_)) h
  · show A (5, [.ref 11, .int (bn x1), .int (bn x2)], [], s1)
    refine bGo hA 0 5 (11, .iload_n 2, 1, 6, 0, [2], []) rfl rfl rfl ?_
    refine bGo hA 0 6 (12, .invokestatic 121, 3, 7, 0, [2, 137, 1], []) rfl rfl rfl ?_
    refine hC _ _ _ _ _ (bRvx_e (fun s3 k4 => ?_) (fun E s3 k4 => ?_)) k2
    · show A (7, [.ref 11, .int (bn x1), .int (bn x2)], [], s3)
      refine bGo hA 0 7 (15, .aload_n 0, 1, 8, 0, [0], []) rfl rfl rfl ?_
      refine bGo hA 0 8 (16, .getfield 42, 3, 9, 0, [11, 4, 3, 6, 0, 0], []) rfl rfl rfl ?_
      refine ⟨rfl, ?_⟩
      refine bGo hA 0 9 (19, .invokevirtual 188, 3, 10, 0, [0, 6, 68, 0], []) rfl rfl rfl ?_
      refine ⟨rfl, ?_⟩
      refine hC _ _ _ _ _ (bRv_e (fun s5 k6 => ?_)) k4
      show A (10, [.ref 11, .int (bn x1), .int (bn x2)], [], s5)
      refine bGo hA 0 10 (22, .aload_n 0, 1, 11, 0, [0], []) rfl rfl rfl ?_
      refine bGo hA 0 11 (23, .getfield 42, 3, 12, 0, [11, 4, 3, 6, 0, 0], []) rfl rfl rfl ?_
      refine ⟨rfl, ?_⟩
      refine bGo hA 0 12 (26, .iload_n 1, 1, 13, 0, [1], []) rfl rfl rfl ?_
      refine bGo hA 0 13 (27, .iload_n 2, 1, 14, 0, [2], []) rfl rfl rfl ?_
      refine bGo hA 0 14 (28, .invokevirtual 191, 3, 15, 0, [0, 6, 78, 2], []) rfl rfl rfl ?_
      refine ⟨rfl, ?_⟩
      refine hC _ _ _ _ _ (bRn_e (fun r9 s7 q10 k8 => ?_)) k6
      show A (15, [.ref 11, .int (bn x1), .int (bn x2)], [.int (bn r9)], s7)
      refine bGo hA 0 15 (31, .ireturn, 1, 0, 0, [1], []) rfl rfl rfl ?_
      exact k8
    · exact k4
  · exact k2

theorem sq179_0 {lvl : Nat} {C : bCall} {Q : bPost} {A : bPt → Prop} (hC : bMono C) (hA : bClosed lvl bm179 C Q A) {x1 : Int} {σ : bSt}  (h_x1 : bRg x1)
  (h : (C 136 [.int (bn x1), .int (bn (bi σ 9 0))] σ (bRvx (fun s1 => (C 68 [.ref 6] s1 (bRv (fun s3 => (C 83 [.ref 6, .int (bn x1)] s3 (bRn (fun r7 s5 => Q (.inl (some (.int (bn r7)))) s5))))))) (fun E s1 => Q (.inr E) s1)))) : A (0, [.ref 11, .int (bn x1)], [], σ) := by
  refine bGo hA 0 0 (0, .iload_n 1, 1, 1, 0, [1], []) rfl rfl rfl ?_
  refine bGo hA 0 1 (1, .aload_n 0, 1, 2, 0, [0], []) rfl rfl rfl ?_
  refine bGo hA 0 2 (2, .getfield 33, 3, 3, 0, [11, 3, 3, 9, 0, 0], []) rfl rfl rfl ?_
  refine ⟨rfl, ?_⟩
  refine bGo hA 0 3 (5, .getfield 144, 3, 4, 0, [9, 0, 0, 0, 0, 0], []) rfl rfl rfl ?_
  refine ⟨rfl, ?_⟩
  refine bEqI (bn_bi σ 9 0) ?_
  refine bGo hA 0 4 (8, .invokestatic 76, 3, 5, 0, [2, 136, 2], []) rfl rfl rfl ?_
  refine hC _ _ _ _ _ (bRvx_e (fun s1 k2 => ?_) (fun E s1 k2 => ?_)) h
  · show A (5, [.ref 11, .int (bn x1)], [], s1)
    refine bGo hA 0 5 (11, .aload_n 0, 1, 6, 0, [0], []) rfl rfl rfl ?_
    refine bGo hA 0 6 (12, .getfield 42, 3, 7, 0, [11, 4, 3, 6, 0, 0], []) rfl rfl rfl ?_
    refine ⟨rfl, ?_⟩
    refine bGo hA 0 7 (15, .invokevirtual 188, 3, 8, 0, [0, 6, 68, 0], []) rfl rfl rfl ?_
    refine ⟨rfl, ?_⟩
    refine hC _ _ _ _ _ (bRv_e (fun s3 k4 => ?_)) k2
    show A (8, [.ref 11, .int (bn x1)], [], s3)
    refine bGo hA 0 8 (18, .aload_n 0, 1, 9, 0, [0], []) rfl rfl rfl ?_
    refine bGo hA 0 9 (19, .getfield 42, 3, 10, 0, [11, 4, 3, 6, 0, 0], []) rfl rfl rfl ?_
    refine ⟨rfl, ?_⟩
    refine bGo hA 0 10 (22, .iload_n 1, 1, 11, 0, [1], []) rfl rfl rfl ?_
    refine bGo hA 0 11 (23, .invokevirtual 244, 3, 12, 0, [0, 6, 83, 1], []) rfl rfl rfl ?_
    refine ⟨rfl, ?_⟩
    refine hC _ _ _ _ _ (bRn_e (fun r7 s5 q8 k6 => ?_)) k4
    show A (12, [.ref 11, .int (bn x1)], [.int (bn r7)], s5)
    refine bGo hA 0 12 (26, .ireturn, 1, 0, 0, [1], []) rfl rfl rfl ?_
    exact k6
  · exact k2

theorem sq183_0 {lvl : Nat} {C : bCall} {Q : bPost} {A : bPt → Prop} (hC : bMono C) (hA : bClosed lvl bm183 C Q A) {x1 : Int} {σ : bSt}  (h_x1 : bRg x1)
  (h : (C 136 [.int (bn x1), .int (bn (bi σ 9 0))] σ (bRvx (fun s1 => (C 68 [.ref 6] s1 (bRv (fun s3 => (C 83 [.ref 6, .int (bn x1)] s3 (bRn (fun r7 s5 => ((r7 = (-1) → Q (.inl (some (.int (bn (-1))))) s5) ∧ (¬ r7 = (-1) → (C 89 [.ref 6, .int (bn r7)] s5 (bRa (fun r12 s10 => (r12 % 256 = 0 ∧ ((256 * (2 * (r12 / 256) + 1) + 4) % 256 = 4 ∧ Q (.inl (some (.int (bn (bi s10 (256 * (2 * (r12 / 256) + 1) + 4) 8))))) s10)))))))))))))) (fun E s1 => Q (.inr E) s1)))) : A (0, [.ref 11, .int (bn x1), .float 0], [], σ) := by
  refine bGo hA 0 0 (0, .iload_n 1, 1, 1, 0, [1], []) rfl rfl rfl ?_
  refine bGo hA 0 1 (1, .aload_n 0, 1, 2, 0, [0], []) rfl rfl rfl ?_
  refine bGo hA 0 2 (2, .getfield 33, 3, 3, 0, [11, 3, 3, 9, 0, 0], []) rfl rfl rfl ?_
  refine ⟨rfl, ?_⟩
  refine bGo hA 0 3 (5, .getfield 144, 3, 4, 0, [9, 0, 0, 0, 0, 0], []) rfl rfl rfl ?_
  refine ⟨rfl, ?_⟩
  refine bEqI (bn_bi σ 9 0) ?_
  refine bGo hA 0 4 (8, .invokestatic 76, 3, 5, 0, [2, 136, 2], []) rfl rfl rfl ?_
  refine hC _ _ _ _ _ (bRvx_e (fun s1 k2 => ?_) (fun E s1 k2 => ?_)) h
  · show A (5, [.ref 11, .int (bn x1), .float 0], [], s1)
    refine bGo hA 0 5 (11, .aload_n 0, 1, 6, 0, [0], []) rfl rfl rfl ?_
    refine bGo hA 0 6 (12, .getfield 42, 3, 7, 0, [11, 4, 3, 6, 0, 0], []) rfl rfl rfl ?_
    refine ⟨rfl, ?_⟩
    refine bGo hA 0 7 (15, .invokevirtual 188, 3, 8, 0, [0, 6, 68, 0], []) rfl rfl rfl ?_
    refine ⟨rfl, ?_⟩
    refine hC _ _ _ _ _ (bRv_e (fun s3 k4 => ?_)) k2
    show A (8, [.ref 11, .int (bn x1), .float 0], [], s3)
    refine bGo hA 0 8 (18, .aload_n 0, 1, 9, 0, [0], []) rfl rfl rfl ?_
    refine bGo hA 0 9 (19, .getfield 42, 3, 10, 0, [11, 4, 3, 6, 0, 0], []) rfl rfl rfl ?_
    refine ⟨rfl, ?_⟩
    refine bGo hA 0 10 (22, .iload_n 1, 1, 11, 0, [1], []) rfl rfl rfl ?_
    refine bGo hA 0 11 (23, .invokevirtual 244, 3, 12, 0, [0, 6, 83, 1], []) rfl rfl rfl ?_
    refine ⟨rfl, ?_⟩
    refine hC _ _ _ _ _ (bRn_e (fun r7 s5 q8 k6 => ?_)) k4
    show A (12, [.ref 11, .int (bn x1), .float 0], [.int (bn r7)], s5)
    refine bGo hA 0 12 (26, .istore_n 2, 1, 13, 0, [2], []) rfl rfl rfl ?_
    refine bGo hA 0 13 (27, .iload_n 2, 1, 14, 0, [2], []) rfl rfl rfl ?_
    refine bGo hA 0 14 (28, .iconst (-1), 1, 15, 0, [], [(-1, 0)]) rfl rfl rfl ?_
    refine bEqI bl_m1 ?_
    refine bGo hA 0 15 (29, .if_icmp .ne (7), 3, 16, 18, [], []) rfl rfl rfl ?_
    refine bB_eq (x := r7) (y := (-1)) q8 (by decide : bRg (-1)) (fun c9 => ?_) (fun c9 => ?_)
    · refine bGo hA 1 0 (32, .iconst (-1), 1, 17, 0, [], [(-1, 0)]) rfl rfl rfl ?_
      refine bEqI bl_m1 ?_
      refine bGo hA 1 1 (33, .goto (17), 3, 18, 24, [], []) rfl rfl rfl ?_
      refine bGo hA 1 8 (50, .ireturn, 1, 0, 0, [1], []) rfl rfl rfl ?_
      exact (k6.1 c9)
    · refine bGo hA 1 2 (36, .aload_n 0, 1, 19, 0, [0], []) rfl rfl rfl ?_
      refine bGo hA 1 3 (37, .getfield 42, 3, 20, 0, [11, 4, 3, 6, 0, 0], []) rfl rfl rfl ?_
      refine ⟨rfl, ?_⟩
      refine bGo hA 1 4 (40, .iload_n 2, 1, 21, 0, [2], []) rfl rfl rfl ?_
      refine bGo hA 1 5 (41, .invokevirtual 247, 3, 22, 0, [0, 6, 89, 1], []) rfl rfl rfl ?_
      refine ⟨rfl, ?_⟩
      refine hC _ _ _ _ _ (bRa_e (fun r12 s10 k11 => ?_)) (k6.2 c9)
      show A (22, [.ref 11, .int (bn x1), .int (bn r7)], [.ref r12], s10)
      refine bGo hA 1 6 (44, .getfield 259, 3, 23, 0, [0, 4, 3, 4, 2, 1], []) rfl rfl rfl ?_
      refine ⟨k11.1, ?_⟩
      refine bGo hA 1 7 (47, .getfield 268, 3, 24, 0, [4, 8, 0, 0, 0, 0], []) rfl rfl rfl ?_
      refine ⟨k11.2.1, ?_⟩
      refine bEqI (bn_bi s10 (256 * (2 * (r12 / 256) + 1) + 4) 8) ?_
      refine bGo hA 1 8 (50, .ireturn, 1, 0, 0, [1], []) rfl rfl rfl ?_
      exact k11.2.2
  · exact k2

theorem sq184_0 {lvl : Nat} {C : bCall} {Q : bPost} {A : bPt → Prop} (hC : bMono C) (hA : bClosed lvl bm184 C Q A) {x1 : Int} {σ : bSt}  (h_x1 : bRg x1)
  (h : (C 136 [.int (bn x1), .int (bn (bi σ 9 0))] σ (bRvx (fun s1 => (C 68 [.ref 6] s1 (bRv (fun s3 => (C 84 [.ref 6, .int (bn x1)] s3 (bRn (fun r7 s5 => Q (.inl (some (.int (bn r7)))) s5))))))) (fun E s1 => Q (.inr E) s1)))) : A (0, [.ref 11, .int (bn x1)], [], σ) := by
  refine bGo hA 0 0 (0, .iload_n 1, 1, 1, 0, [1], []) rfl rfl rfl ?_
  refine bGo hA 0 1 (1, .aload_n 0, 1, 2, 0, [0], []) rfl rfl rfl ?_
  refine bGo hA 0 2 (2, .getfield 33, 3, 3, 0, [11, 3, 3, 9, 0, 0], []) rfl rfl rfl ?_
  refine ⟨rfl, ?_⟩
  refine bGo hA 0 3 (5, .getfield 144, 3, 4, 0, [9, 0, 0, 0, 0, 0], []) rfl rfl rfl ?_
  refine ⟨rfl, ?_⟩
  refine bEqI (bn_bi σ 9 0) ?_
  refine bGo hA 0 4 (8, .invokestatic 76, 3, 5, 0, [2, 136, 2], []) rfl rfl rfl ?_
  refine hC _ _ _ _ _ (bRvx_e (fun s1 k2 => ?_) (fun E s1 k2 => ?_)) h
  · show A (5, [.ref 11, .int (bn x1)], [], s1)
    refine bGo hA 0 5 (11, .aload_n 0, 1, 6, 0, [0], []) rfl rfl rfl ?_
    refine bGo hA 0 6 (12, .getfield 42, 3, 7, 0, [11, 4, 3, 6, 0, 0], []) rfl rfl rfl ?_
    refine ⟨rfl, ?_⟩
    refine bGo hA 0 7 (15, .invokevirtual 188, 3, 8, 0, [0, 6, 68, 0], []) rfl rfl rfl ?_
    refine ⟨rfl, ?_⟩
    refine hC _ _ _ _ _ (bRv_e (fun s3 k4 => ?_)) k2
    show A (8, [.ref 11, .int (bn x1)], [], s3)
    refine bGo hA 0 8 (18, .aload_n 0, 1, 9, 0, [0], []) rfl rfl rfl ?_
    refine bGo hA 0 9 (19, .getfield 42, 3, 10, 0, [11, 4, 3, 6, 0, 0], []) rfl rfl rfl ?_
    refine ⟨rfl, ?_⟩
    refine bGo hA 0 10 (22, .iload_n 1, 1, 11, 0, [1], []) rfl rfl rfl ?_
    refine bGo hA 0 11 (23, .invokevirtual 271, 3, 12, 0, [0, 6, 84, 1], []) rfl rfl rfl ?_
    refine ⟨rfl, ?_⟩
    refine hC _ _ _ _ _ (bRn_e (fun r7 s5 q8 k6 => ?_)) k4
    show A (12, [.ref 11, .int (bn x1)], [.int (bn r7)], s5)
    refine bGo hA 0 12 (26, .ireturn, 1, 0, 0, [1], []) rfl rfl rfl ?_
    exact k6
  · exact k2


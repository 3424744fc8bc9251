/-! RULES' EVALUATION, 23: what both sides say of a file when it is evaluated -/
def bEvY (x : Int) (r : bSt) : Prop := (0 ≤ x ∧ x < 6) ∧
  (bi r 7 14 = -1 → bi r 65 x = 2 ∧ (0 ≤ bi r 7 12 ∧ bi r 7 12 ≤ 72) ∧ (∀ y, 0 ≤ y → y < 8 → bThg (bi r 39 (x * 8 + y)) (bi r 60 (8 * x + y)) (bi r 61 (8 * x + y)) ∧ bi r 39 (x * 8 + y) < 1000 + bi r 7 12) ∧
    ∀ l, 0 ≤ l → l < bi r 7 12 → (bi r 63 l = bi r 43 l ∧ 0 ≤ bi r 43 l ∧ bi r 43 l ≤ 8) ∧ ∀ k, 0 ≤ k → k < bi r 43 l → bi r 64 (8 * l + k) = bi r 45 (l * 8 + k)) ∧
  (bi r 7 14 ≠ -1 → (1 ≤ bi r 7 14 ∧ bi r 7 14 ≤ 5) ∧ (1 ≤ bi r 7 13 ∧ bi r 7 13 ≤ 6) ∧ bi r 42 0 = x ∧
    ∀ j, 0 ≤ j → j < bi r 7 13 → (0 ≤ bi r 42 j ∧ bi r 42 j < 6) ∧ (0 ≤ bi r 41 (bi r 42 j) ∧ bi r 41 (bi r 42 j) ≤ 13) ∧ bi r 65 (bi r 42 j) = 3 ∧ bi r 66 (bi r 42 j) = bi r 41 (bi r 42 j) ∧ bi r 67 (bi r 42 j) = (if j = bi r 7 13 - 1 then bi r 7 14 else 6) ∧ (j + 1 < bi r 7 13 → bi r 68 (bi r 42 j) = bi r 42 (j + 1)))
section
variable {d : Nat} {σ s t u e r r' : bSt} {fv : bSt → Prop} {f x y k n m p v w o j l a i : Int}
theorem bEvTo_r : ∀ (n : Nat) (s : bSt), (bi s 7 14 = -1 ∨ (1 ≤ bi s 7 14 ∧ bi s 7 14 ≤ 5) ∧ 1 ≤ bi s 7 13) → bEvTo n s t → bEvI s → (bi t 7 14 = -1 ∨ (1 ≤ bi t 7 14 ∧ bi t 7 14 ≤ 5) ∧ 1 ≤ bi t 7 13)
  | 0, s, h, T, _ => by rw [T.2]; exact h
  | n + 1, s, h, T, I => by
    obtain ⟨hd, hr⟩ := bEvNHt T.1
    have hf := (bEvI_tp I hd).1
    refine bEvTo_r n _ ?_ T.2 (bEvGo_I I hd hr).1
    refine bEvGo_c s (bEvTp s) (P := fun s' => bi s' 7 14 = -1 ∨ (1 ≤ bi s' 7 14 ∧ bi s' 7 14 ≤ 5) ∧ 1 ≤ bi s' 7 13) (fun _ _ _ => ?_) (fun q _ _ => ?_) (fun _ _ z => ?_) (fun _ => ?_)
    · unfold bEvEnt
      rw [bi_nj (by decide) (by decide) (by decide), bi_ne (by decide), bi_ne (by decide)]
      exact Or.inl hr
    · have st := ((I.1 _ hf.1 hf.2).2 _ (I.2.2.1 _ hf.1 hf.2).1.1 q)
      rw [(bEvPf_fr (s := bw (bw s 7 14 (-1)) 41 (bEvTp s) (bi s 41 (bEvTp s) + 1)) (f := bEvTp s) hf (by rw [bi_ne (by decide), bi_ne (by decide)]; exact st.1)).2.2.2 14 (by decide) (by decide), bi_ne (by decide), bi_eq (by decide)]
      exact Or.inl rfl
    · rw [bi_nj (j := 13) (by decide) (by decide) (by decide)]
      rcases bEvWh_b (s := s) (f := bEvTp s) (a := bEvTp s * 12 + bi s 41 (bEvTp s)) with w | w | w | w | w | w
      · exact absurd w z
      all_goals
        rw [w, bi_eq (by decide)]
        exact Or.inr ⟨by decide, hd⟩
    · rw [bi_nj (j := 14) (by decide) (by decide) (by decide), bi_ne (by decide)]
      exact Or.inl hr
theorem w214 (X : bEvX x σ) (S : bRs σ) (h : ∀ r', bRM σ r' → bEvY x r' → fv r') : bWp (d + 3) 214 [.ref 12, .int (bn x)] σ (bRv fv) := by
  obtain ⟨hx, n, e, u, z, zs, T, c1, c2, c3, c4, c5⟩ := X
  have zI := bEvZ_I z zs
  have I := bEvI_ent zI hx.1 hx.2 (z.2.1 x hx.1 hx.2).1
  have J := bEvZ_J z hx
  have B0 : bEvB e σ := fun y y0 y1 => by
    obtain ⟨⟨g1, g2, g3⟩, g4⟩ := S y y0 y1
    rw [← c1 34 (by decide)]
    refine ⟨g1.symm, fun i i0 i1 => ?_⟩
    obtain ⟨⟨q1, q2, q3, q4⟩, _⟩ := g4 i i0 (by omega)
    rw [← c1 35 (by decide), ← c1 36 (by decide), ← c1 37 (by decide), ← c1 38 (by decide), show y * 12 + i = 12 * y + i by omega]
    exact ⟨q1.symm, q2.symm, q3.symm, q4.symm⟩
  have f14 : bi (bEvEnt e x) 7 14 = -1 := by
    unfold bEvEnt
    rw [bi_nj (by decide) (by decide) (by decide), bi_ne (by decide), bi_ne (by decide)]
    exact z.2.2.2.2
  have f13 : bi (bEvEnt e x) 7 13 = 1 := by
    unfold bEvEnt
    rw [z.2.2.2.1]
    exact bi_eq (by decide)
  obtain ⟨It, Jt, Ht⟩ := bEvTo_I hx n _ I J T
  have rt := bEvTo_r n (bEvEnt e x) (Or.inl f14) T I
  refine ⟨rfl, fun A hA => sq214_0 (bWp_mono _) hA ⟨by omega, by omega⟩ ?_⟩
  have L : ∀ (m : Nat) (l : Int) (s : bSt) (v3 v4 : Value), l + m = 6 → 0 ≤ l → bFl 65 0 l 0 (bw σ 12 7 0) s → A (5, [.ref 12, .int (bn x), .int (bn l), v3, v4], [], s) := by
    intro m
    induction m with
    | zero =>
      intro l s v3 v4 q l0 F
      have el : l = 6 := by omega
      rw [el] at F ⊢
      have M0 : bRM σ s := bRM_l (bRM_f bRM_refl) F (by decide)
      refine sq214_5 (bWp_mono _) hA ⟨by omega, by omega⟩ (by decide) ⟨fun w => absurd w (by decide), fun _ => w215 hx fun t2 F2 => ?_⟩
      have M : bRM σ t2 := bRM_l (bRM_w (bRM_w (bRM_w M0 (by decide)) (by decide)) (by decide)) F2 (by decide)
      have R0 : bEvR e s := by
        refine ⟨fun y y0 y1 => ⟨?_, fun w => absurd (z.2.1 y y0 y1).1 w⟩, ?_, fun l l0 l1 => ?_, fun i i0 i1 => ?_⟩
        · rw [F.2.2 y y0, if_pos ⟨y0, y1⟩, (z.2.1 y y0 y1).1]
        · rw [F.2.1 12 7 (by decide), bi_eq (by decide), z.2.2.1]
        · rw [z.2.2.1] at l1; omega
        · rw [z.2.2.2.1] at i1; omega
      have R1 : bEvR (bEvEnt e x) t2 := bEvR_ent R0 hx (by rw [z.2.2.2.1]; decide) ⟨(z.2.1 x hx.1 hx.2).2, fun y y0 y1 => z.1 _ (by omega) (by omega)⟩ (by rw [z.2.2.2.1]; exact F2)
      have B1 : bEvB (bEvEnt e x) t2 := bEvB_m B0 (fun b hb j => by
        unfold bEvEnt
        rw [bi_ne (by revert hb; simp only [List.mem_cons, List.not_mem_nil, or_false]; omega), bi_ne (by revert hb; simp only [List.mem_cons, List.not_mem_nil, or_false]; omega), bi_ne (by revert hb; simp only [List.mem_cons, List.not_mem_nil, or_false]; omega)]) M
      have key := n214 (d := d) (t := u) hA hx n n (Nat.le_refl _) (bEvEnt e x) (.int (bn x)) v3 v4 t2 I J B1 R1 f14 T (fun r' m' E => ?_)
      · rw [f13] at key
        exact key
      · have M2 := bRM_trans M m'
        have kc : ∀ b, b % 256 ∉ bRfK → b % 256 ≠ 12 → ∀ j, bi r' b j = bi σ b j := fun b q q2 j => M2.2.1 b q q2 j
        have k7 : ∀ j, bi r' 7 j = bi σ 7 j := kc 7 (by decide) (by decide)
        have k39 : ∀ j, bi r' 39 j = bi u 39 j := fun j => (kc 39 (by decide) (by decide) j).trans (c2 39 (by decide) j)
        have k41 : ∀ j, bi r' 41 j = bi u 41 j := fun j => (kc 41 (by decide) (by decide) j).trans (c2 41 (by decide) j)
        have k42 : ∀ j, bi r' 42 j = bi u 42 j := fun j => (kc 42 (by decide) (by decide) j).trans (c2 42 (by decide) j)
        have k43 : ∀ j, bi r' 43 j = bi u 43 j := fun j => (kc 43 (by decide) (by decide) j).trans (c2 43 (by decide) j)
        have k45 : ∀ j, bi r' 45 j = bi u 45 j := fun j => (kc 45 (by decide) (by decide) j).trans (c2 45 (by decide) j)
        have k12 : bi r' 7 12 = bi u 7 12 := (k7 12).trans c3
        have k13 : bi r' 7 13 = bi u 7 13 := (k7 13).trans c4
        have k14 : bi r' 7 14 = bi u 7 14 := (k7 14).trans c5
        refine h r' M2 ⟨hx, ?_, ?_⟩
        · rw [k14, k12]
          simp only [k39, k43, k45]
          intro w
          have R := E.1 w
          obtain ⟨o1, o2, o3⟩ := It.2.1
          have d0 : bi u 7 13 = 0 := by
            have := (bEvI_d6 It).1
            rcases Ht with q | q
            · omega
            · exact absurd w q
          have mx : bi u 40 x = 2 := by
            have r3 := (It.2.2.1 x hx.1 hx.2).2
            have nz := Jt.2.2.2
            have n1 : bi u 40 x ≠ 1 := fun q => by
              have p := fun j => (bEvD_b (s := u) (x := j)).1
              have p0 := p 0; have p1 := p 1; have p2 := p 2; have p3 := p 3; have p4 := p 4; have p5 := p 5
              have k := It.2.2.2.1
              have dx : bEvD u x = 1 := if_pos q
              rw [d0] at k
              unfold bSix at k
              rcases bSix_c hx.1 hx.2 with a | a | a | a | a | a <;> rw [a] at dx <;> omega
            omega
          refine ⟨(R.1 x hx.1 hx.2).1.trans mx, o2, fun y y0 y1 => ⟨((R.1 x hx.1 hx.2).2 (by rw [mx]; decide)).2 y y0 y1, (o1 _ (by omega) (by omega)).2⟩, fun l l0 l1 => ?_⟩
          obtain ⟨g1, g2, g3⟩ := R.2.2.1 l l0 l1
          exact ⟨⟨g2, o3 l l0 l1⟩, g3⟩
        · rw [k14, k13]
          simp only [k41, k42]
          intro w
          obtain ⟨U1, U2, U3⟩ := E.2 w
          have SK := bEvStk_of It Jt
          obtain ⟨rr, dp⟩ := rt.resolve_left w
          refine ⟨rr, ⟨dp, SK.2.1.2⟩, Jt.2.2.1 (by omega), fun j j0 j1 => ?_⟩
          · obtain ⟨q1, q2, q3⟩ := U1 j (by omega) j0 j1
            obtain ⟨q4, q5⟩ := U3 j j0 j1
            obtain ⟨q6, q7, _⟩ := SK.2.2.1 j j0 j1
            exact ⟨q6, q7, q1, q4, q2, q3⟩
    | succ m ih =>
      intro l s v3 v4 q l0 F
      refine sq214_5 (bWp_mono _) hA ⟨by omega, by omega⟩ ⟨by omega, by omega⟩ ⟨fun _ => ⟨⟨l0, by omega⟩, ⟨by omega, by omega⟩, ih (l + 1) _ _ _ (by omega) (by omega) ?_⟩, fun w => absurd (show l < 6 by omega) w⟩
      have := bFl_s F (by omega) (by omega) (v := 0) (by decide)
      simpa using this
  exact L 6 0 _ _ _ (by decide) (by decide) (bFl_0 (by omega))
end

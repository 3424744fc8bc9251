/-! THE PLAN, 7: the reference evaluates the file of a rule -/
section
variable {d : Nat} {σ s t u e r r' : bSt} {fv : bSt → Prop} {f x y k n m p v w o j l a i : Int}
theorem w214u (X : bEvRun x σ u) (S : bRs σ) (h : ∀ r', bRM σ r' → (∀ y, 0 ≤ y → y < 8 → ((bi r' 65 x = 2 ∧ bi r' 60 (8 * x + y) = 1) ∧ bi r' 61 (8 * x + y) = bNum1 u x y ∧ bNum1 u x y ≠ -1) ∨ (¬ (bi r' 65 x = 2 ∧ bi r' 60 (8 * x + y) = 1) ∧ bNum1 u x y = -1)) → fv r') : bWp (d + 3) 214 [.ref 12, .int (bn x)] σ (bRv fv) := by
  obtain ⟨hx, n, e, z, zs, T, c1⟩ := X
  have zI := bEvZ_I z zs
  have I := bEvI_ent zI hx.1 hx.2 (z.2.1 x hx.1 hx.2).1
  have J := bEvZ_J z hx
  have B0 : bEvB e σ := fun y y0 y1 => by
    obtain ⟨⟨g1, g2, g3⟩, g4⟩ := S y y0 y1
    rw [← c1 34 (by decide)]
    refine ⟨g1.symm, fun i i0 i1 => ?_⟩
    obtain ⟨⟨q1, q2, q3, q4⟩, _⟩ := g4 i i0 (by omega)
    rw [← c1 35 (by decide), ← c1 36 (by decide), ← c1 37 (by decide), ← c1 38 (by decide), show y * 12 + i = 12 * y + i by omega]
    exact ⟨q1.symm, q2.symm, q3.symm, q4.symm⟩
  have f14 : bi (bEvEnt e x) 7 14 = -1 := by
    unfold bEvEnt
    rw [bi_nj (by decide) (by decide) (by decide), bi_ne (by decide), bi_ne (by decide)]
    exact z.2.2.2.2
  have f13 : bi (bEvEnt e x) 7 13 = 1 := by
    unfold bEvEnt
    rw [z.2.2.2.1]
    exact bi_eq (by decide)
  obtain ⟨It, Jt, Ht⟩ := bEvTo_I hx n _ I J T
  have rt := bEvTo_r n (bEvEnt e x) (Or.inl f14) T I
  refine ⟨rfl, fun A hA => sq214_0 (bWp_mono _) hA ⟨by omega, by omega⟩ ?_⟩
  have L : ∀ (m : Nat) (l : Int) (s : bSt) (v3 v4 : Value), l + m = 6 → 0 ≤ l → bFl 65 0 l 0 (bw σ 12 7 0) s → A (5, [.ref 12, .int (bn x), .int (bn l), v3, v4], [], s) := by
    intro m
    induction m with
    | zero =>
      intro l s v3 v4 q l0 F
      have el : l = 6 := by omega
      rw [el] at F ⊢
      have M0 : bRM σ s := bRM_l (bRM_f bRM_refl) F (by decide)
      refine sq214_5 (bWp_mono _) hA ⟨by omega, by omega⟩ (by decide) ⟨fun w => absurd w (by decide), fun _ => w215 hx fun t2 F2 => ?_⟩
      have M : bRM σ t2 := bRM_l (bRM_w (bRM_w (bRM_w M0 (by decide)) (by decide)) (by decide)) F2 (by decide)
      have R0 : bEvR e s := by
        refine ⟨fun y y0 y1 => ⟨?_, fun w => absurd (z.2.1 y y0 y1).1 w⟩, ?_, fun l l0 l1 => ?_, fun i i0 i1 => ?_⟩
        · rw [F.2.2 y y0, if_pos ⟨y0, y1⟩, (z.2.1 y y0 y1).1]
        · rw [F.2.1 12 7 (by decide), bi_eq (by decide), z.2.2.1]
        · rw [z.2.2.1] at l1; omega
        · rw [z.2.2.2.1] at i1; omega
      have R1 : bEvR (bEvEnt e x) t2 := bEvR_ent R0 hx (by rw [z.2.2.2.1]; decide) ⟨(z.2.1 x hx.1 hx.2).2, fun y y0 y1 => z.1 _ (by omega) (by omega)⟩ (by rw [z.2.2.2.1]; exact F2)
      have B1 : bEvB (bEvEnt e x) t2 := bEvB_m B0 (fun b hb j => by
        unfold bEvEnt
        rw [bi_ne (by revert hb; simp only [List.mem_cons, List.not_mem_nil, or_false]; omega), bi_ne (by revert hb; simp only [List.mem_cons, List.not_mem_nil, or_false]; omega), bi_ne (by revert hb; simp only [List.mem_cons, List.not_mem_nil, or_false]; omega)]) M
      have key := n214 (d := d) (t := u) hA hx n n (Nat.le_refl _) (bEvEnt e x) (.int (bn x)) v3 v4 t2 I J B1 R1 f14 T (fun r' m' E => ?_)
      · rw [f13] at key
        exact key
      · have M2 := bRM_trans M m'
        have rr := rt
        have SK := bEvStk_of It Jt
        refine h r' M2 fun y y0 y1 => ?_
        unfold bNum1 bEvV
        by_cases w : bi u 7 14 = -1
        · have R := E.1 w
          obtain ⟨o1, o2, o3⟩ := It.2.1
          have d0 : bi u 7 13 = 0 := by
            have := (bEvI_d6 It).1
            rcases Ht with q | q
            · omega
            · exact absurd w q
          have mx : bi u 40 x = 2 := by
            have r3 := (It.2.2.1 x hx.1 hx.2).2
            have nz := Jt.2.2.2
            have n1 : bi u 40 x ≠ 1 := fun q => by
              have p := fun j => (bEvD_b (s := u) (x := j)).1
              have p0 := p 0; have p1 := p 1; have p2 := p 2; have p3 := p 3; have p4 := p 4; have p5 := p 5
              have k := It.2.2.2.1
              have dx : bEvD u x = 1 := if_pos q
              rw [d0] at k
              unfold bSix at k
              rcases bSix_c hx.1 hx.2 with a | a | a | a | a | a <;> rw [a] at dx <;> omega
            omega
          have t := ((R.1 x hx.1 hx.2).2 (by rw [mx]; decide)).2 y y0 y1
          have e65 := (R.1 x hx.1 hx.2).1.trans mx
          rw [if_pos w]
          unfold bThg at t
          rcases t with ⟨t1, t2⟩ | ⟨t1, t2, t3⟩ | ⟨t1, t2, t3⟩
          · rw [t1]
            exact Or.inr ⟨fun q => by rw [t2] at q; exact absurd q.2 (by decide), rfl⟩
          · rw [if_pos t1.2]
            exact Or.inl ⟨⟨e65, t2⟩, t3, by omega⟩
          · rw [if_neg (by omega)]
            exact Or.inr ⟨fun q => by rw [t2] at q; exact absurd q.2 (by decide), rfl⟩
        · rw [if_neg w]
          obtain ⟨U1, U2, U3⟩ := E.2 w
          obtain ⟨_, dp⟩ := rr.resolve_left w
          have f3 := (U1 0 (by decide) (by decide) (by omega)).1
          rw [Jt.2.2.1 (by omega)] at f3
          exact Or.inr ⟨fun q => by rw [f3] at q; exact absurd q.1 (by decide), rfl⟩
    | succ m ih =>
      intro l s v3 v4 q l0 F
      refine sq214_5 (bWp_mono _) hA ⟨by omega, by omega⟩ ⟨by omega, by omega⟩ ⟨fun _ => ⟨⟨l0, by omega⟩, ⟨by omega, by omega⟩, ih (l + 1) _ _ _ (by omega) (by omega) ?_⟩, fun w => absurd (show l < 6 by omega) w⟩
      have := bFl_s F (by omega) (by omega) (v := 0) (by decide)
      simpa using this
  exact L 6 0 _ _ _ (by decide) (by decide) (bFl_0 (by omega))
end

/-! BUILD, 49: the class: which targets are sound -/
section
variable {d lvl : Nat} {σ s s0 t r s' : bSt} {f : Int → bSt → Prop} {fv : bSt → Prop} {A : bPt → Prop} {x y v a b k i q : Int} {n n0 m : Nat} {Q : Int → Prop}
theorem w79 (hF : bFi σ) (hL : bTl σ) (hT : bTg σ) (h4 : bR4 σ) (hM : bMks σ) (hr : bRg (bi σ 6 10 + 1)) (X : bMs Q x) (hQ : ∀ t, 0 ≤ t → t < 16 → Q t → bTgk σ t) (h : ∀ s v, bWk σ s → bi s 6 10 = bi σ 6 10 + 1 → bi s 6 13 = bi σ 6 13 → bMs (fun t => Q t ∧ bFx σ (t * 256 + bi σ 10 0) = 0) v → f v s) : bWp (d + 6) 79 [.ref 6, .int (bn x)] σ (bRn f) := by
  have tc := hT.1
  have hc : 0 ≤ bi σ 10 0 ∧ bi σ 10 0 < 256 := by
    have e := hL.2.2.2
    have a0 := hL.2.2.1 0 (by decide) (by decide)
    have a1 := hL.2.2.1 1 (by decide) (by decide)
    have a2 := hL.2.2.1 2 (by decide) (by decide)
    have a3 := hL.2.2.1 3 (by decide) (by decide)
    omega
  have hm : bRg x := ⟨by have := X.1.1; omega, by have := X.1.2; omega⟩
  refine ⟨rfl, fun A hA => sq79_0 (bWp_mono _) hA hm (w70 hr ?_)⟩
  have W0 := bWk_0 hM hr
  have e0 : bi (bw (bw σ 6 10 (bi σ 6 10 + 1)) 6 11 0) 6 10 = bi σ 6 10 + 1 := by rw [bi_nj (by decide) (by decide) (by decide), bi_eq hr]
  have e013 : bi (bw (bw σ 6 10 (bi σ 6 10 + 1)) 6 11 0) 6 13 = bi σ 6 13 := by rw [bi_nj (by decide) (by decide) (by decide), bi_nj (by decide) (by decide) (by decide)]
  generalize bw (bw σ 6 10 (bi σ 6 10 + 1)) 6 11 0 = s1 at *
  have Lp : ∀ (k m : Nat) (s : bSt) (v : Int), m + k = 16 → bWk σ s → bi s 6 10 = bi σ 6 10 + 1 → bi s 6 13 = bi σ 6 13 → bMs (fun t => t < (m : Int) ∧ Q t ∧ bFx σ (t * 256 + bi σ 10 0) = 0) v → A (6, [.ref 6, .int (bn x), .int (bn v), .int (bn m)], [], s) := by
    intro k
    induction k with
    | zero =>
      intro m s v hk Wk s10 s13 sM
      have em : m = 16 := by omega
      subst em
      have rv : bRg v := ⟨by have := sM.1.1; omega, by have := sM.1.2; omega⟩
      exact sq79_6 (bWp_mono _) hA hm rv (by decide) ⟨fun y => absurd y (by decide), fun _ => bRn_i rv (h s v Wk s10 s13 (bMs_c sM fun t t0 t1 => ⟨fun q => q.2, fun q => ⟨by omega, q⟩⟩))⟩
    | succ k ih =>
      intro m s v hk Wk s10 s13 sM
      have m16 : (m : Int) < 16 := by omega
      have rv : bRg v := ⟨by have := sM.1.1; omega, by have := sM.1.2; omega⟩
      have rm : bRg ((m : Int) + 1) := ⟨by omega, by omega⟩
      have nx := ih (m + 1)
      rw [show ((m + 1 : Nat) : Int) = (m : Int) + 1 by omega] at nx
      have nx := fun s v => nx s v (by omega)
      have bit := bMs_i X (i := m) (by omega) m16
      refine sq79_6 (bWp_mono _) hA hm rv ⟨by omega, by omega⟩ ⟨fun _ => ⟨fun y => ?_, fun y => ?_⟩, fun y => absurd m16 y⟩
      · have hq := bit.1 y
        have tk := hQ m (by omega) m16 hq
        have ec : ∀ s, bWk σ s → bi s 10 0 = bi σ 10 0 := fun s W => W.1.2 10 (by decide) 0
        have e : ((m : Int) * 256 + bi σ 10 0) / 256 = m := by omega
        refine w69 (d := d + 4) ⟨by omega, by omega⟩ (by rw [ec s Wk]; exact hc) ?_
        rw [ec s Wk]
        refine w71 (d := d) hF hL hT h4 Wk (by omega) (by rw [e]; exact tk) fun s2 W2 E2 I2 => w69 (d := d + 4) ⟨by omega, by omega⟩ (by rw [ec s2 W2]; exact hc) ?_
        rw [ec s2 W2]
        have e29 : bi s2 29 ((m : Int) * 256 + bi σ 10 0) = bFx σ ((m : Int) * 256 + bi σ 10 0) := by
          obtain ⟨j, j0, j1, j2⟩ := I2
          have := (W2.2.1.2.2 j j0 j1).2.2.1
          rwa [j2] at this
        refine w140i (n := 4096) rfl rfl (by decide) (by omega) (by omega) ?_
        rw [e29]
        have a1 : bi s2 6 10 = bi σ 6 10 + 1 := E2.1.1.trans s10
        have a2 : bi s2 6 13 = bi σ 6 13 := E2.1.2.trans s13
        refine ⟨fun z => ⟨rm, nx s2 _ W2 a1 a2 (bMs_c (bMs_or sM (bMs_shl (k := m) (by omega) m16)) fun t t0 t1 => ⟨fun w => ?_, fun w => ?_⟩)⟩, fun z => ⟨rm, nx s2 _ W2 a1 a2 (bMs_c (bMs_or sM bMs_0) fun t t0 t1 => ⟨fun w => ?_, fun w => ?_⟩)⟩⟩
        · rcases w with w | w
          · exact ⟨by omega, w.2⟩
          · rw [w]; exact ⟨by omega, hq, z⟩
        · by_cases e2 : t = m
          · exact Or.inr e2
          · exact Or.inl ⟨by omega, w.2⟩
        · rcases w with w | w
          · exact ⟨by omega, w.2⟩
          · exact w.elim
        · by_cases e2 : t = m
          · rw [e2] at w; exact absurd w.2.2 z
          · exact Or.inl ⟨by omega, w.2⟩
      · have hq : ¬ Q m := fun w => y (bit.2 w)
        exact ⟨rm, nx s v Wk s10 s13 (bMs_c sM fun t t0 t1 => ⟨fun w => ⟨by omega, w.2⟩, fun w => by
          by_cases e2 : t = m
          · rw [e2] at w; exact absurd w.2.1 hq
          · exact ⟨by omega, w.2⟩⟩)⟩
  exact Lp 16 0 s1 0 (by omega) W0 e0 e013 (bMs_c bMs_0 fun t t0 t1 => ⟨fun w => w.elim, fun w => by omega⟩)
end

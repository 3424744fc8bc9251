/-! RULES' EVALUATION, 21: after a failure the reference goes down its stack -/
section
variable {d lvl : Nat} {s t u r r' : bSt} {fv : bSt → Prop} {A : bPt → Prop} {f x y k n m p v w o j l a i D W : Int}
theorem bw_self {b : Nat} : bw s b i (bi s b i) = s := by
  show (bU s.1 b i.toNat (bn (s.1 b i.toNat).toInt), s.2) = s
  have e : bn (s.1 b i.toNat).toInt = s.1 b i.toNat := Int32.ofInt_toInt _
  rw [e]
  have : bU s.1 b i.toNat (s.1 b i.toNat) = s.1 := by
    funext b' j'
    unfold bU
    by_cases q : b' = b ∧ j' = i.toNat
    · rw [if_pos q, q.1, q.2]
    · rw [if_neg q]
  rw [this]
/-- what is known of the stack after a failure: files above i have failed -/
def bEvUw (u : bSt) (W i : Int) (r : bSt) : Prop := (∀ j, i < j → 0 ≤ j → j < bi u 7 13 → bi r 65 (bi u 42 j) = 3 ∧ bi r 67 (bi u 42 j) = (if j = bi u 7 13 - 1 then W else 6) ∧ (j + 1 < bi u 7 13 → bi r 68 (bi u 42 j) = bi u 42 (j + 1))) ∧
  (∀ j, 0 ≤ j → j ≤ i → bi r 65 (bi u 42 j) = 1) ∧ (∀ j, 0 ≤ j → j < bi u 7 13 → bi r 66 (bi u 42 j) = bi u 41 (bi u 42 j) ∧ bi r 69 j = bi u 42 j)
/-- what is known of the stack: loads all but the last, no file twice -/
def bEvStk (u : bSt) : Prop := bEvS u ∧ (0 ≤ bi u 7 13 ∧ bi u 7 13 ≤ 6) ∧ (∀ i, 0 ≤ i → i < bi u 7 13 → (0 ≤ bi u 42 i ∧ bi u 42 i < 6) ∧ (0 ≤ bi u 41 (bi u 42 i) ∧ bi u 41 (bi u 42 i) ≤ 13) ∧ ∀ j, 0 ≤ j → j < i → bi u 42 j ≠ bi u 42 i) ∧
  (∀ i, 0 ≤ i → i + 1 < bi u 7 13 → bi u 41 (bi u 42 i) < bi u 34 (bi u 42 i) ∧ bi u 35 (bi u 42 i * 12 + bi u 41 (bi u 42 i)) = 1 ∧ bi u 38 (bi u 42 i * 12 + bi u 41 (bi u 42 i)) = bi u 42 (i + 1))
theorem bEvStk_of (I : bEvI u) (J : bEvJ o u) : bEvStk u :=
  ⟨I.1, bEvI_d6 I, fun i i0 i1 => ⟨(I.2.2.2.2.1 i i0 i1).1, (I.2.2.1 _ (I.2.2.2.2.1 i i0 i1).1.1 (I.2.2.2.2.1 i i0 i1).1.2).1, (I.2.2.2.2.1 i i0 i1).2.2⟩, J.2.1⟩
theorem n214u (hA : bClosed lvl bm214 (bWp (d + 2)) (bRv fv) A) (S : bEvStk u) (hW : bRg W) : ∀ (n : Nat) (i : Int) (v1 v3 v4 : Value) (r : bSt), i + 1 = n → i + 1 < bi u 7 13 → bEvB u r → bEvUw u W i r → (∀ r', bRM r r' → bEvUw u W (-1) r' → fv r') → A (25, [.ref 12, v1, .int (bn i), v3, v4], [], r) := by
  obtain ⟨S1, S2, S3, S4⟩ := S
  intro n
  induction n with
  | zero =>
    intro i v1 v3 v4 r hi id B U k
    have e : i = -1 := by omega
    rw [e] at U ⊢
    exact sq214_25 (bWp_mono _) hA (by decide) ⟨fun _ => k r bRM_refl U, fun w => absurd (by decide) w⟩
  | succ n ih =>
    intro i v1 v3 v4 r hi id B U k
    obtain ⟨U1, U2, U3⟩ := U
    have i0 : 0 ≤ i := by omega
    obtain ⟨g6, gp, gd⟩ := S3 i i0 (by omega)
    obtain ⟨q1, q2, q3⟩ := S4 i i0 id
    obtain ⟨h6, _, hd⟩ := S3 (i + 1) (by omega) id
    obtain ⟨u66, u69⟩ := U3 i i0 (by omega)
    have u65 := U2 i i0 (Int.le_refl _)
    have o3 := (U1 (i + 1) (by omega) (by omega) id).1
    have oth : ∀ j, 0 ≤ j → j < bi u 7 13 → j ≠ i → bi u 42 j ≠ bi u 42 i := fun j j0 j1 jn => by
      by_cases w : j < i
      · exact gd j j0 w
      · exact fun e => (S3 j j0 j1).2.2 i i0 (by omega) e.symm
    generalize hg : bi u 42 i = g at *
    obtain ⟨st1, st2, st3, st4⟩ := (B g g6.1 g6.2).2 _ gp.1 q1
    have b58 := (B g g6.1 g6.2).1
    have st := (S1 g g6.1 g6.2).2 _ gp.1 q1
    have sz := (S1 g g6.1 g6.2).1
    rw [q3] at st4
    rw [q2] at st1
    rw [q2, q3] at st
    have bi8 : i < 8 := by omega
    refine sq214_25 (bWp_mono _) hA ⟨by omega, by omega⟩ ⟨fun w => absurd i0 (by omega), fun _ => ⟨⟨i0, bi8⟩, ?_⟩⟩
    rw [u69, u66, b58]
    refine ⟨g6, fun _ => ?_, fun w => absurd q1 w⟩
    refine w218 (a := 4 * (12 * g + bi u 41 g)) (K := 1) (O := bi u 42 (i + 1)) (n := 8 * g + bi u 36 (g * 12 + bi u 41 g)) (m := 8 * bi u 42 (i + 1) + bi u 37 (g * 12 + bi u 41 g)) g6 (by rw [u66]; omega) (by rw [u66]) st1 st2 st3 st4 st rfl (fun _ => rfl) (fun w => absurd w (by decide)) (fun _ w => absurd rfl w) (fun _ z => ?_) (fun _ z => ?_) (fun _ _ _ _ => ?_) (fun z => ?_) (fun z => ?_) (fun z => ?_)
    · rw [o3] at z; exact absurd z (by decide)
    · rw [o3] at z; exact absurd z (by decide)
    · have e65 : bi (bw (bw (bw r 65 g 3) 67 g 6) 68 g (bi u 42 (i + 1))) 65 g = 3 := by rw [bi_ne (by decide), bi_ne (by decide), bi_eq (by decide)]
      have e66 : bi (bw (bw (bw r 65 g 3) 67 g 6) 68 g (bi u 42 (i + 1))) 66 g = bi u 41 g := by rw [bi_ne (by decide), bi_ne (by decide), bi_ne (by decide), u66]
      have e58 : bi (bw (bw (bw r 65 g 3) 67 g 6) 68 g (bi u 42 (i + 1))) 58 g = bi u 34 g := by rw [bi_ne (by decide), bi_ne (by decide), bi_ne (by decide), b58]
      refine sq214_46 (bWp_mono _) hA ⟨by omega, by omega⟩ ⟨by omega, by omega⟩ (by decide) ⟨fun _ => ⟨fun _ => ⟨g6, ?_⟩, fun w => absurd rfl w⟩, fun w => absurd (by decide) w⟩
      rw [bw_self]
      rw [e66, e58, e65]
      refine ⟨fun _ => ⟨fun w => absurd w (by decide), fun _ => ⟨⟨by omega, by omega⟩, ?_⟩⟩, fun w => absurd q1 w⟩
      have M := bRM_w (i := g) (v := bi u 42 (i + 1)) (b := 68) (bRM_w (i := g) (v := 6) (b := 67) (bRM_w (i := g) (v := 3) (b := 65) (bRM_refl (r := r)) (by decide)) (by decide)) (by decide)
      have hgr : bRg (bi u 42 (i + 1)) := bi_rg _ _ _
      have ez : ∀ j, 0 ≤ j → bi (bw (bw (bw r 65 g 3) 67 g 6) 68 g (bi u 42 (i + 1))) 65 j = if j = g then 3 else bi r 65 j := fun j j0 => by
        rw [bi_ne (by decide), bi_ne (by decide), bi_bw g6.1 j0 (by decide)]; simp only [true_and]
      have ey : ∀ j, 0 ≤ j → bi (bw (bw (bw r 65 g 3) 67 g 6) 68 g (bi u 42 (i + 1))) 67 j = if j = g then 6 else bi r 67 j := fun j j0 => by
        rw [bi_ne (by decide), bi_bw g6.1 j0 (by decide), bi_ne (by decide)]; simp only [true_and]
      have ex : ∀ j, 0 ≤ j → bi (bw (bw (bw r 65 g 3) 67 g 6) 68 g (bi u 42 (i + 1))) 68 j = if j = g then bi u 42 (i + 1) else bi r 68 j := fun j j0 => by
        rw [bi_bw g6.1 j0 hgr, bi_ne (by decide), bi_ne (by decide)]; simp only [true_and]
      refine ih (i - 1) _ _ _ _ (by omega) (by omega) (bEvB_m B (fun _ _ _ => rfl) M) ⟨fun j j1 j0 j2 => ?_, fun j j0 j1 => ?_, fun j j0 j1 => ?_⟩ (fun r' m' z => k r' (bRM_trans M m') z)
      · have s6 := (S3 j j0 j2).1
        rw [ez _ s6.1, ey _ s6.1, ex _ s6.1]
        by_cases w : j = i
        · rw [w, hg, if_pos rfl, if_pos rfl, if_pos rfl, if_neg (by omega)]
          exact ⟨rfl, rfl, fun _ => rfl⟩
        · have := oth j j0 j2 w
          rw [if_neg this, if_neg this, if_neg this]
          exact U1 j (by omega) j0 j2
      · have s6 := (S3 j j0 (by omega)).1
        rw [ez _ s6.1, if_neg (oth j j0 (by omega) (by omega))]
        exact U2 j j0 (by omega)
      · rw [bi_ne (by decide), bi_ne (by decide), bi_ne (by decide), bi_ne (by decide), bi_ne (by decide), bi_ne (by decide)]
        exact U3 j j0 j1
    · have := z rfl; rw [o3] at this; exact absurd this (by decide)
    · have := z rfl; rw [o3] at this; exact absurd this (by decide)
    · have := z rfl; rw [o3] at this; exact absurd this (by decide)
end

/-! RULES' EVALUATION, 22: the reference evaluates a file -/
/-- both sides at the end: nothing failed and all alike, or the stack as it failed -/
def bEvE (t r : bSt) : Prop := (bi t 7 14 = -1 → bEvR t r) ∧ (bi t 7 14 ≠ -1 → bEvUw t (bi t 7 14) (-1) r)
section
variable {d lvl : Nat} {s t u r r' : bSt} {fv : bSt → Prop} {A : bPt → Prop} {f x y k n m p v w o j l a i D W : Int}
theorem n214 (hA : bClosed lvl bm214 (bWp (d + 2)) (bRv fv) A) (ho : 0 ≤ o ∧ o < 6) : ∀ (N n : Nat), n ≤ N → ∀ (u : bSt) (v1 v3 v4 : Value) (r : bSt), bEvI u → bEvJ o u → bEvB u r → bEvR u r → bi u 7 14 = -1 → bEvTo n u t → (∀ r', bRM r r' → bEvE t r' → fv r') → A (25, [.ref 12, v1, .int (bn (bi u 7 13 - 1)), v3, v4], [], r) := by
  intro N
  induction N with
  | zero =>
    intro n hn u v1 v3 v4 r I J B R h14 T k
    have e : n = 0 := by omega
    subst e
    have d6 := bEvI_d6 I
    have d0 : bi u 7 13 = 0 := by
      rcases T.1 with w | w
      · omega
      · exact absurd h14 w
    have et : t = u := T.2
    rw [d0]
    exact sq214_25 (bWp_mono _) hA (by decide) ⟨fun _ => k r bRM_refl (by rw [et]; exact ⟨fun _ => R, fun w => absurd h14 w⟩), fun w => absurd (by decide) w⟩
  | succ N ih =>
    intro n hn u v1 v3 v4 r I J B R h14 T k
    have d6 := bEvI_d6 I
    cases n with
    | zero => exact ih 0 (Nat.zero_le _) u v1 v3 v4 r I J B R h14 T k
    | succ n =>
      obtain ⟨hd, _⟩ := bEvNHt T.1
      have T2 := T.2
      obtain ⟨hf, m1⟩ := bEvI_tp I hd
      have JG := bEvGo_J I J ho hd
      have IG := (bEvGo_I I hd h14).1
      have SG := (bEvGo_sm (s := u) (f := bEvTp u)).1.2
      have hft : bEvTp u = bEvTp u := rfl
      have r69 : bi r 69 (bi u 7 13 - 1) = bEvTp u := R.2.2.2 _ (by omega) (by omega)
      generalize hf0 : bEvTp u = f at *
      have e66 : bi r 66 f = bi u 41 f := ((R.1 f hf.1 hf.2).2 (by rw [m1]; decide)).1
      have e65 : bi r 65 f = 1 := (R.1 f hf.1 hf.2).1.trans m1
      have e58 := (B f hf.1 hf.2).1
      have BG : ∀ r', bRM r r' → bEvB (bEvGo u f) r' := fun r' M => bEvB_m B (fun b hb j => SG b (by revert hb; simp only [List.mem_cons, List.not_mem_nil, or_false]; rintro (rfl | rfl | rfl | rfl | rfl) <;> decide) j) M
      -- the file is done
      have pop : ∀ (n : Nat) (u : bSt) (v1 v3 v4 : Value) (r1 : bSt), n ≤ N → bRM r r1 → bEvI (bEvGo u f) → bEvJ o (bEvGo u f) → (∀ r', bRM r1 r' → bEvB (bEvGo u f) r') → bEvR u r1 → bi u 40 f = 1 → 0 < bi u 7 13 → bi u 7 13 ≤ 6 → bi u 7 14 = -1 → ¬ bi u 41 f < bi u 34 f → bEvTo n (bEvGo u f) t → A (25, [.ref 12, v1, .int (bn (bi u 7 13 - 1 - 1)), v3, v4], [], bw r1 65 f 2) := by
        intro n u v1 v3 v4 r1 hn M I2 J2 B2 R2 m2 hd2 hd3 h2 q T3
        have eg : bEvGo u f = bw (bw u 40 f 2) 7 13 (bi u 7 13 - 1) := if_neg q
        have e13 : bi (bEvGo u f) 7 13 = bi u 7 13 - 1 := by rw [eg]; exact bi_eq ⟨by omega, by omega⟩
        have M2 := bRM_w (i := f) (v := 2) (b := 65) (bRM_refl (r := r1)) (by decide)
        have := ih n hn (bEvGo u f) v1 v3 v4 (bw r1 65 f 2) I2 J2 (B2 _ M2) (by rw [eg]; exact bEvR_pop R2 hf.1 (by rw [m2]; decide) hd2) (by rw [eg, bi_nj (by decide) (by decide) (by decide), bi_ne (by decide)]; exact h2) T3 (fun r' m' z => k r' (bRM_trans (bRM_trans M M2) m') z)
        rwa [e13] at this
      refine sq214_25 (bWp_mono _) hA ⟨by omega, by omega⟩ ⟨fun w => absurd w (by omega), fun _ => ⟨⟨by omega, by omega⟩, ?_⟩⟩
      rw [r69, e66, e58]
      refine ⟨hf, fun q => ?_, fun q => ?_⟩
      · refine w218s I B R hd hf0 q (fun k1 z => ?_) (fun nl z r' M R' => ?_) (fun nl z c hc => ?_)
        · have o6 := (((I.1 f hf.1 hf.2).2 _ (I.2.2.1 f hf.1 hf.2).1.1 q)).2.2.1 k1
          have hd5 := bEvI_he I o6.1 o6.2 (by rw [z]; decide)
          have fr := J.1 _ o6.1 o6.2 z
          have eg : bEvGo u f = bEvEnt u (bi u 38 (f * 12 + bi u 41 f)) := by unfold bEvGo; rw [if_pos q, if_pos ⟨k1, z⟩]
          generalize ho2 : bi u 38 (f * 12 + bi u 41 f) = o2 at *
          refine sq214_46 (bWp_mono _) hA ⟨by omega, by omega⟩ ⟨by omega, by omega⟩ ⟨by omega, by omega⟩ ⟨fun w => absurd w (by omega), fun _ => ⟨⟨by omega, by omega⟩, ⟨by omega, by omega⟩, ?_⟩⟩
          refine w215 o6 fun t2 F => ?_
          have e1 : bi u 7 13 - 1 + 1 = bi u 7 13 := by omega
          rw [e1] at F ⊢
          have M : bRM r t2 := bRM_l (bRM_w (bRM_w (bRM_w bRM_refl (by decide)) (by decide)) (by decide)) F (by decide)
          have e13 : bi (bEvGo u f) 7 13 = bi u 7 13 + 1 := by rw [eg]; exact bi_eq ⟨by omega, by omega⟩
          have := ih n (by omega) (bEvGo u f) (bUnl v1) (.int (bn f)) (.int (bn o2)) t2 IG JG (BG _ M) (by rw [eg]; exact bEvR_ent R o6 hd5 fr F) (by rw [eg]; unfold bEvEnt; rw [bi_nj (by decide) (by decide) (by decide), bi_ne (by decide), bi_ne (by decide)]; exact h14) T2 (fun r' m' z => k r' (bRM_trans M m') z)
          rwa [e13, show bi u 7 13 + 1 - 1 = bi u 7 13 by omega] at this
        · have eg : bEvGo u f = bEvPf (bw (bw u 7 14 (-1)) 41 f (bi u 41 f + 1)) f (f * 12 + bi u 41 f) := by unfold bEvGo; rw [if_pos q, if_neg nl, if_pos z]
          rw [← eg] at R'
          have st := ((I.1 f hf.1 hf.2).2 _ (I.2.2.1 f hf.1 hf.2).1.1 q)
          obtain ⟨f1, f2, f3, f4⟩ := bEvPf_fr (s := bw (bw u 7 14 (-1)) 41 f (bi u 41 f + 1)) (f := f) (a := f * 12 + bi u 41 f) hf (by rw [bi_ne (by decide), bi_ne (by decide)]; exact st.1)
          rw [← eg] at f1 f2 f3 f4
          have g40 : bi (bEvGo u f) 40 f = 1 := by rw [f1 40 (by decide), bi_ne (by decide), bi_ne (by decide)]; exact m1
          have g42 : ∀ j, bi (bEvGo u f) 42 j = bi u 42 j := fun j => by rw [f1 42 (by decide), bi_ne (by decide), bi_ne (by decide)]
          have g34 : bi (bEvGo u f) 34 f = bi u 34 f := by rw [f1 34 (by decide), bi_ne (by decide), bi_ne (by decide)]
          have g13 : bi (bEvGo u f) 7 13 = bi u 7 13 := by rw [f4 13 (by decide) (by decide), bi_ne (by decide), bi_nj (by decide) (by decide) (by decide)]
          have g14 : bi (bEvGo u f) 7 14 = -1 := by rw [f4 14 (by decide) (by decide), bi_ne (by decide), bi_eq (by decide)]
          have h65 : bi r' 65 f = 1 := (R'.1 f hf.1 hf.2).1.trans g40
          have h66 : bi r' 66 f = bi (bEvGo u f) 41 f := ((R'.1 f hf.1 hf.2).2 (by rw [g40]; decide)).1
          have h58 : bi r' 58 f = bi u 34 f := by rw [M.2.1 58 (by decide) (by decide)]; exact e58
          refine sq214_46 (bWp_mono _) hA ⟨by omega, by omega⟩ ⟨by omega, by omega⟩ (by decide) ⟨fun _ => ⟨fun _ => ⟨hf, ?_⟩, fun w => absurd rfl w⟩, fun w => absurd (by decide) w⟩
          rw [bw_self, Int.sub_zero]
          refine ⟨fun _ => ⟨fun _ => ⟨⟨by omega, by omega⟩, ?_⟩, fun w => absurd h65 w⟩, fun q2 => ⟨fun _ => ⟨⟨by omega, by omega⟩, ?_⟩, fun w => absurd h65 w⟩⟩
          · have := ih n (by omega) (bEvGo u f) (bUnl v1) (.int (bn f)) (.int (bn (-1))) r' IG JG (BG _ M) R' g14 T2 (fun r'' m' z => k r'' (bRM_trans M m') z)
            rwa [g13] at this
          · cases n with
            | zero =>
              exfalso
              rcases T2.1 with w | w
              · exact w (by rw [g13]; exact hd)
              · exact w g14
            | succ n =>
              have tp : bEvTp (bEvGo u f) = f := by unfold bEvTp; rw [g13, g42]; exact hf0
              have T3 := T2.2
              have I3 := (bEvGo_I IG (by rw [g13]; exact hd) g14).1
              have J3 := bEvGo_J IG JG ho (by rw [g13]; exact hd)
              rw [tp] at T3 I3 J3
              have := pop n (bEvGo u f) (bUnl v1) (.int (bn f)) (.int (bn (-1))) r' (by omega) M I3 J3 (fun r'' m' => bEvB_m (BG _ M) (fun b hb j => (bEvGo_sm (s := bEvGo u f) (f := f)).1.2 b (by revert hb; simp only [List.mem_cons, List.not_mem_nil, or_false]; rintro (rfl | rfl | rfl | rfl | rfl) <;> decide) j) m') R' g40 (by rw [g13]; exact hd) (by rw [g13]; exact d6.2) g14 (by rw [g34, ← h66, ← h58]; exact q2) T3
              rwa [g13] at this
        · have eg : bEvGo u f = bw u 7 14 (bEvWh u f (f * 12 + bi u 41 f)) := by unfold bEvGo; rw [if_pos q, if_neg nl, if_neg z]
          have SK := bEvStk_of IG JG
          have hb := bEvWh_b (s := u) (f := f) (a := f * 12 + bi u 41 f)
          generalize hW : bEvWh u f (f * 12 + bi u 41 f) = W at *
          have rW : bRg W := by rcases hb with e | e | e | e | e | e <;> rw [e] <;> decide
          have g14 : bi (bEvGo u f) 7 14 = W := by rw [eg]; exact bi_eq rW
          have et : t = bEvGo u f := by
            cases n with
            | zero => exact T2.2
            | succ n => exact absurd (Or.inr (by rw [g14]; exact z)) T2.1
          have g13 : bi (bEvGo u f) 7 13 = bi u 7 13 := by rw [eg]; exact bi_nj (by decide) (by decide) (by decide)
          have gn : ∀ b, b ≠ 7 → ∀ j, bi (bEvGo u f) b j = bi u b j := fun b w j => by rw [eg, bi_ne w]
          have M : bRM r (bw (bw (bw r 65 f 3) 67 f W) 68 f c) := bRM_w (bRM_w (bRM_w bRM_refl (by decide)) (by decide)) (by decide)
          have h65 : ∀ j, 0 ≤ j → bi (bw (bw (bw r 65 f 3) 67 f W) 68 f c) 65 j = if j = f then 3 else bi r 65 j := fun j j0 => by
            rw [bi_ne (by decide), bi_ne (by decide), bi_bw hf.1 j0 (by decide)]; simp only [true_and]
          have h66 : ∀ j, bi (bw (bw (bw r 65 f 3) 67 f W) 68 f c) 66 j = bi r 66 j := fun j => by rw [bi_ne (by decide), bi_ne (by decide), bi_ne (by decide)]
          have h58 : bi (bw (bw (bw r 65 f 3) 67 f W) 68 f c) 58 f = bi u 34 f := by rw [bi_ne (by decide), bi_ne (by decide), bi_ne (by decide)]; exact e58
          have h67 : bi (bw (bw (bw r 65 f 3) 67 f W) 68 f c) 67 f = W := by rw [bi_ne (by decide), bi_eq rW]
          have h69 : ∀ j, bi (bw (bw (bw r 65 f 3) 67 f W) 68 f c) 69 j = bi r 69 j := fun j => by rw [bi_ne (by decide), bi_ne (by decide), bi_ne (by decide)]
          generalize hr1 : bw (bw (bw r 65 f 3) 67 f W) 68 f c = r1 at *
          have f65 : bi r1 65 f = 3 := by rw [h65 f hf.1, if_pos rfl]
          refine sq214_46 (bWp_mono _) hA ⟨by omega, by omega⟩ ⟨by omega, by omega⟩ (by decide) ⟨fun _ => ⟨fun _ => ⟨hf, ?_⟩, fun w => absurd rfl w⟩, fun w => absurd (by decide) w⟩
          rw [bw_self, f65, h66, h58, e66]
          refine ⟨fun _ => ⟨fun w => absurd w (by decide), fun _ => ⟨⟨by omega, by omega⟩, ?_⟩⟩, fun w => absurd q w⟩
          have ex : bi u 7 13 - 1 - 1 + 1 = ((bi u 7 13 - 1).toNat : Int) := by omega
          refine n214u hA SK rW (bi u 7 13 - 1).toNat _ _ _ _ _ ex (by rw [g13]; omega) (BG _ M) ⟨fun j j1 j0 j2 => ?_, fun j j0 j1 => ?_, fun j j0 j1 => ?_⟩ (fun r' m' U => k r' (bRM_trans M m') ⟨fun w => absurd (by rw [et, g14] at w; exact w) z, fun _ => by rw [et, g14]; exact U⟩)
          · rw [g13] at j2
            have je : j = bi u 7 13 - 1 := by omega
            rw [je, gn 42 (by decide), g13, show bi u 42 (bi u 7 13 - 1) = f from hf0, if_pos rfl]
            exact ⟨f65, h67, fun w => absurd w (by omega)⟩
          · have s6 := I.2.2.2.2.1 j j0 (by omega)
            have ne : bi u 42 j ≠ f := by
              rw [← hf0]
              exact (I.2.2.2.2.1 (bi u 7 13 - 1) (by omega) (by omega)).2.2 j j0 (by omega)
            rw [gn 42 (by decide), h65 _ s6.1.1, if_neg ne, (R.1 _ s6.1.1 s6.1.2).1]
            exact s6.2.1
          · rw [g13] at j1
            have s6 := I.2.2.2.2.1 j j0 j1
            rw [gn 42 (by decide), gn 41 (by decide), h66, h69]
            exact ⟨((R.1 _ s6.1.1 s6.1.2).2 (by rw [s6.2.1]; decide)).1, R.2.2.2 j j0 j1⟩
      · refine sq214_46 (bWp_mono _) hA ⟨by omega, by omega⟩ ⟨by omega, by omega⟩ (by decide) ⟨fun _ => ⟨fun _ => ⟨hf, ?_⟩, fun w => absurd rfl w⟩, fun w => absurd (by decide) w⟩
        rw [e66, e58]
        refine ⟨fun w => absurd w q, fun _ => ⟨fun _ => ⟨⟨by omega, by omega⟩, ?_⟩, fun w => absurd e65 w⟩⟩
        exact pop n u _ _ _ r (by omega) bRM_refl IG JG (fun r' m => BG r' m) R m1 hd d6.2 h14 q T2
end

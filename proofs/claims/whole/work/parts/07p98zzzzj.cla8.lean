/-! BUILD, 32: the class: those that end now, the rest is cancelled -/
abbrev bzK0 (s t : bSt) : Prop := bzKf (fun _ => False) s t
section
variable {d : Nat} {σ s t r u : bSt} {f : Int → bSt → Prop} {fa : Nat → bSt → Prop} {fv : bSt → Prop} {a b g i j k x y v w p : Int} {c e e0 q m n z : Nat} {K M : bKy} {L N F : List bKy} {Z Y X : bZs} {S : List Nat} {T U : Int → Bool}
theorem bzCh_w {b : Nat} (h : bzCh s N F) (h1 : b ≠ 1) (h2 : b ≠ 257) (h3 : ¬ bzTc b) (hN : ∀ K ∈ N, bKl K) (hF : ∀ K ∈ F, bKl K) : bzCh (bw s b i v) N F :=
  bzCh_of h rfl (fun x hx j => bi_ne (fun e => h3 (by rw [← e]; exact hx))) (bi_ne (Ne.symm h1)) (bi_ne (Ne.symm h2)) hN hF
/-- what an end leaves -/
theorem bzEd_o (h : bzEd a x v s t) (a1 : a ≤ 120) : bzKf (bzPx a) s t ∨ a < 0 := by
  by_cases a0 : 0 ≤ a
  · refine Or.inl ⟨fun y y1 y2 => ⟨fun j => h.2.1 y (fun e => y2 ⟨a0, by rw [e]; exact List.mem_cons_self⟩) (fun e => y2 ⟨a0, ?_⟩) j, fun _ => by unfold bj; rw [h.1], fun _ => by unfold br; rw [h.1], by rw [h.1]⟩, bzNu_of h.1⟩
    unfold bzTa
    simp only [List.mem_cons, List.not_mem_nil, or_false] at e ⊢
    omega
  · exact Or.inr (by omega)
theorem bzEd_ch (h : bzEd a x v s t) (a1 : a ≤ 120) (C : bzCh s N F) (hN : ∀ K ∈ N, bKl K) (hF : ∀ K ∈ F, bKl K) : bzCh t N F := by
  have lo : ∀ y, (bzTc y ∨ y = 1 ∨ y = 257) → y ≠ bAi a ∧ y ∉ [bKe a, bKe a + 18, bKe a + 19] := fun y hy => by
    unfold bzTc at hy
    unfold bAi bKe
    simp only [List.mem_cons, List.not_mem_nil, or_false, not_or] at hy ⊢
    omega
  exact bzCh_of C h.1 (fun y hy j => h.2.1 y (lo y (Or.inl hy)).1 (lo y (Or.inl hy)).2 j) (h.2.1 1 (lo 1 (by decide)).1 (lo 1 (by decide)).2 0) (h.2.1 257 (lo 257 (by decide)).1 (lo 257 (by decide)).2 0) hN hF
theorem bzEd_cg (h : bzEd a x v s t) (G : bzCG σ n Z s) : bzCG σ n Z t := bzCG_s G fun b hb j => h.2.1 b (by
  unfold bAi
  simp only [List.mem_cons, List.not_mem_nil, or_false] at hb
  omega) (by
  unfold bKe
  simp only [List.mem_cons, List.not_mem_nil, or_false, not_or] at hb ⊢
  omega) j
/-- objects of actions stand -/
theorem bzK0_a (h : bzK0 s t) (a1 : a ≤ 120) : (∀ y ∈ bAi a :: (bAi a + 13) :: bzTa a, ∀ j, bi t y j = bi s y j) ∧ ∀ b, br t 33 b = br s 33 b := ⟨fun y hy => (h.1 y (bzTa_b hy a1).1 (fun w => w)).1, (h.1 33 (fun q => by
  unfold bzTb bzTc at q
  simp only [List.mem_cons, List.not_mem_nil, or_false] at q
  omega) (fun w => w)).2.2.1⟩
theorem bzK0_ek (h : bzK0 s t) (a1 : a ≤ 120) (hK : bKl K) : (bzEk s (bNe a) K → bzEk t (bNe a) K) ∧ (bzEk s (bKe a) K → bzEk t (bKe a) K) := by
  have f := (bzK0_a h a1).1
  exact ⟨fun E => bzEk_m E (fun j _ => f (bNe a) (by simp [bzTa]) j) (fun j _ _ => f (bNe a + 18) (by simp [bzTa]) j) (fun j _ _ => f (bNe a + 19) (by simp [bzTa]) j) ⟨hK.1, hK.2.1⟩, fun E => bzEk_m E (fun j _ => f (bKe a) (by simp [bzTa]) j) (fun j _ _ => f (bKe a + 18) (by simp [bzTa]) j) (fun j _ _ => f (bKe a + 19) (by simp [bzTa]) j) ⟨hK.1, hK.2.1⟩⟩
/-- an action has ended, in the class -/
theorem bzCC_e (I : bzI σ n Z) (R : bzCC σ n Z s) (hg : bzG Z a) (a0 : 0 ≤ a) (a1 : a < (n : Int)) (fe : bzFe σ n a Z Y) (e144 : Y.1 144 a = v) (F1 : bzK0 s u) (E : bzEd a (Y.1 142 a) v u t) (F2 : bzK0 t r) (G : bzCG σ n Y r) (C : bzCh r Y.2.1 Y.2.2.1) : bzCC σ n Y r ∧ ∀ b, 0 ≤ b → b < (n : Int) → bi r (bAi b) 13 = bi s (bAi b) 13 := by
  have n120 := I.1.2.1.1
  have a2 : a ≤ 120 := by omega
  have D := bzFe_dx fe
  have nd : ¬ bzD Z a := fun q => by have := hg.2.2; unfold bzD at q; omega
  have F : bzKf (bzPx a) s r := by
    rcases bzEd_o E a2 with q | q
    · exact bzKf_trans (bzKf_mono F1 (fun _ w => w.elim)) (bzKf_trans q (bzKf_mono F2 (fun _ w => w.elim)))
    · omega
  obtain ⟨As, Ad⟩ := R.2.2.2 a a0 a1
  obtain ⟨f1, r1⟩ := bzK0_a F1 a2
  obtain ⟨f2, r2⟩ := bzK0_a F2 a2
  have r33 : ∀ b, br r 33 b = br s 33 b := fun b => by
    rw [r2, ← r1]
    unfold br
    rw [E.1]
  have kn : bKe a ≠ bNe a ∧ bKe a ≠ bNe a + 18 ∧ bKe a ≠ bNe a + 19 ∧ bAi a ≠ bNe a ∧ bAi a ≠ bKe a := by unfold bKe bNe bAi; omega
  have m14 : ∀ y ∈ [bAi a + 13, bNe a, bNe a + 18, bNe a + 19], y ≠ bAi a ∧ y ∉ [bKe a, bKe a + 18, bKe a + 19] := fun y hy => by
    unfold bAi bKe bNe at *
    simp only [List.mem_cons, List.not_mem_nil, or_false, not_or] at hy ⊢
    omega
  have same : ∀ y ∈ [bAi a + 13, bNe a, bNe a + 18, bNe a + 19], ∀ j, bi r y j = bi s y j := fun y hy j => by
    have my : y ∈ bAi a :: (bAi a + 13) :: bzTa a := by
      unfold bzTa
      simp only [List.mem_cons, List.not_mem_nil, or_false] at hy ⊢
      omega
    rw [f2 y my, E.2.1 y (m14 y hy).1 (m14 y hy).2, f1 y my]
  have act : ∀ j, 0 ≤ j → bi r (bAi a) j = if j = 10 then Y.1 142 a else if j = 12 then v else if 15 ≤ j ∧ j ≤ 17 then 2147483647 else bi s (bAi a) j := fun j j0 => by
    rw [f2 (bAi a) List.mem_cons_self, E.2.2.1 j j0, f1 (bAi a) List.mem_cons_self]
  have l := bzKl_z (σ := σ) I.1.1.1 I.1.2.1 a0 a1
  have bg : bi s (bAi a) 13 ≠ -1 := Ad.2.2.2.2.2.1 hg.2.1
  have T := Ad.2.2.2.2.1 bg
  have Y142 : Y.1 142 a ≠ -1 := by rcases fe.2.2.1 with ⟨q, _⟩ | ⟨q, _⟩ <;> omega
  have ng : ¬ bzG Y a := fun q => Y142 q.2.2
  obtain ⟨m, m2⟩ := bzDx_K (σ := σ) I.1.2.1 D (fun _ => nd) a0 a1 T.1
  refine ⟨bzCC_x I R D (fun _ => nd) a1 F G C fun _ => ⟨bzAs_x As D (r33 a) (fun j hj => ?_) (same _ (by simp)) (fun j _ => same _ (by simp) j), ⟨?_, ?_, ?_⟩, ⟨?_, ?_, ?_⟩, fun q => absurd q Y142, ⟨?_, ?_⟩, fun _ => ⟨m2, ?_, ?_, ?_⟩, fun _ => ?_, ?_⟩, fun b b0 b1 => ?_⟩
  · simp only [List.mem_cons, List.not_mem_nil, or_false] at hj
    rw [act j (by omega), if_neg (by omega), if_neg (by omega), if_neg (by omega)]
  · rw [act 10 (by decide), if_pos rfl]
  · rw [act 11 (by decide), if_neg (by decide), if_neg (by decide), if_neg (by decide), fe.1 143 (by decide)]; exact Ad.1.2.1
  · rw [act 12 (by decide), if_neg (by decide), if_pos rfl]; exact e144.symm
  · rw [act 15 (by decide), if_neg (by decide), if_neg (by decide), if_pos (by decide), if_neg (fun q => ng q.1)]
  · rw [act 16 (by decide), if_neg (by decide), if_neg (by decide), if_pos (by decide), if_neg (fun q => ng q.1)]
  · rw [act 17 (by decide), if_neg (by decide), if_neg (by decide), if_pos (by decide), if_neg (fun q => ng q.1)]
  · intro q
    rcases fe.2.2.1 with ⟨_, _, w, _⟩ | ⟨w1, w2, _⟩
    · rw [w] at q; cases q
    · rw [w2] at q
      have e : ∀ j, bi r (bKe a) j = bi s (bKe a) j := fun j => by rw [f2 _ (by simp [bzTa]), E.2.2.2.1 (by omega) (bKe a) List.mem_cons_self, f1 _ (by simp [bzTa])]
      rw [e, e, e]
      exact Ad.2.2.2.1.1 q
  · intro K q
    rcases fe.2.2.1 with ⟨w0, w1, w, w3, _⟩ | ⟨w1, w2, _⟩
    · rw [w] at q
      have eK := Option.some.inj q
      have En := (bzK0_ek F1 a2 l).1 T.2.1
      obtain ⟨k1, k2⟩ := E.2.2.2.2 ⟨w0, w1⟩ _ l En
      rw [← eK]
      refine ⟨(bzK0_ek F2 a2 l).2 k1, ?_⟩
      rw [f2 _ (by simp [bzTa]), k2, f1 _ (by simp [bzTa]), T.2.2.1]
      exact bzV_k I.1.1.1
    · rw [w2] at q
      have lK := bzKl (I.2.1 a a0 a1 K q).1
      have kk := Ad.2.2.2.1.2 K q
      have e : ∀ y ∈ [bKe a, bKe a + 18, bKe a + 19], ∀ j, bi r y j = bi s y j := fun y hy j => by
        have my : y ∈ bAi a :: (bAi a + 13) :: bzTa a := by
          unfold bzTa
          simp only [List.mem_cons, List.not_mem_nil, or_false] at hy ⊢
          omega
        rw [f2 y my, E.2.2.2.1 (by omega) y hy, f1 y my]
      exact ⟨bzEk_m kk.1 (fun j _ => e _ (by simp) j) (fun j _ _ => e _ (by simp) j) (fun j _ _ => e _ (by simp) j) ⟨lK.1, lK.2.1⟩, by rw [e _ (by simp)]; exact kk.2⟩
  · rw [m.1]
    exact bzEk_m T.2.1 (fun j _ => same _ (by simp) j) (fun j _ _ => same _ (by simp) j) (fun j _ _ => same _ (by simp) j) ⟨l.1, l.2.1⟩
  · rw [same _ (by simp), m.2.1]; exact T.2.2.1
  · rw [same _ (by simp), m.2.2.1]; exact T.2.2.2
  · rw [act 13 (by decide), if_neg (by decide), if_neg (by decide), if_neg (by decide)]; exact bg
  · rw [act 13 (by decide), if_neg (by decide), if_neg (by decide), if_neg (by decide), fe.1 305 (by decide)]; exact Ad.2.2.2.2.2.2
  · by_cases y : b = a
    · rw [y, act 13 (by decide), if_neg (by decide), if_neg (by decide), if_neg (by decide)]
    · exact (F.1 (bAi b) (bzTa_b List.mem_cons_self (by omega)).1 (bzTa_ne List.mem_cons_self b0 y)).1 13
/-- a run leaves its worker -/
theorem w29z (R : bzCC σ n Z s) (I : bzI σ n Z) (a0 : 0 ≤ a) (a1 : a < (n : Int)) (h142 : Z.1 142 a = -1) (hv : -1 ≤ v ∧ v < 1000) (h : ∀ t, bzK0 s t → bzCG σ n (bzLv Z a v) t → bzCh t Z.2.1 Z.2.2.1 → fv t) : bWp (d + 2) 29 [.ref 2, .int (bn (bi s (bAi a) 14)), .int (bn v)] s (bRv fv) := by
  have e14 := (R.2.2.2 a a0 a1).2.2.2.1 h142
  have jr := (I.2.2.2.1 a a0 a1).2.1
  obtain ⟨hN, hF⟩ := bzN_l I
  rw [e14]
  refine w29 jr.1 jr.2 ⟨by omega, by omega⟩ (fun q => ?_) fun q => ?_
  · refine h s bzKf_refl ?_ R.2.2.1
    unfold bzLv
    rw [if_pos q]; exact R.2.1
  · refine h _ (bzKf_trans (bzKf_w (Or.inl (bzTb_s (by decide)))) (bzKf_w (Or.inl (bzTb_s (by decide))))) ?_ (bzCh_w (bzCh_w R.2.2.1 (by decide) (by decide) (by decide) hN hF) (by decide) (by decide) (by decide) hN hF)
    unfold bzLv
    rw [if_neg (by omega)]
    exact bzCG_z (bzCG_w (bzCG_w R.2.1 (b := 18) (mx := 12) (by decide) q (by decide)) (b := 17) (mx := 12) (by decide) q ⟨by omega, by omega⟩) (zU_w (S := [148]) (by decide)) (by decide)
theorem w11 (h : f (if bi s (bAi a) 11 ≠ -1 ∧ bi s (bAi a) 10 = -1 then 1 else 0) s) : bWp (d + 1) 11 [.ref (bAi a)] s (bRn f) :=
  ⟨rfl, fun A hA => sq11_0 (bWp_mono _) hA bAi_0 ⟨fun q => bRn_i (by decide) (by rwa [if_neg (fun y => y.1 q)] at h), fun q => ⟨fun q2 => bRn_i (by decide) (by rwa [if_pos ⟨q, q2⟩] at h), fun q2 => bRn_i (by decide) (by rwa [if_neg (fun y => q2 y.2)] at h)⟩⟩⟩
/-- the rest is cancelled -/
theorem w55 (I : bzI σ n Z) (R : bzCC σ n Z s) (h : ∀ t, bzCC σ n (bzCcl n Z) t → fv t) : bWp (d + 4) 55 [.ref 5] s (bRv fv) := by
  have n120 := I.1.2.1.1
  refine ⟨rfl, fun A hA => sq55_0 (bWp_mono _) hA ?_⟩
  have Lp : ∀ (m k : Nat) (t : bSt) (v2 : Value), k + m = n → bzCC σ n (bzCcl k Z) t → A (2, [.ref 5, .int (bn k), v2], [], t) := by
    intro m
    induction m with
    | zero =>
      intro k t v2 hk Rt
      have ek : k = n := by omega
      subst ek
      exact sq55_2 (bWp_mono _) hA ⟨by omega, by omega⟩ ⟨fun y => absurd y (by rw [Rt.2.1.1.1]; omega), fun _ => h t Rt⟩
    | succ m ih =>
      intro k t v2 hk Rt
      have k1 : (k : Int) < (n : Int) := by omega
      have Ik := bzI_ccl I k (by omega)
      have nx := fun t v2 => ih (k + 1) t v2 (by omega)
      have uC : bzCcl (k + 1) Z = if bzG (bzCcl k Z) k then bzE (bzLv (bzCcl k Z) k (-1)) k 7 else bzCcl k Z := rfl
      rw [show ((k + 1 : Nat) : Int) = (k : Int) + 1 by omega, uC] at nx
      generalize bzCcl k Z = W at *
      obtain ⟨As, Ad⟩ := Rt.2.2.2 k (by omega) k1
      have j1 := Ik.2.2.1 k (by omega) k1
      have nw := Ik.2.2.2.2.2.1
      have nbz := bzNb_b (n := n) (Z := W)
      have gi : (bi t (bAi k) 11 ≠ -1 ∧ bi t (bAi k) 10 = -1) ↔ bzG W k := by
        rw [Ad.1.1, Ad.1.2.1]
        exact ⟨fun q => ⟨(j1.2.2.1 q.1).1, q.1, q.2⟩, fun q => ⟨q.2.1, q.2.2⟩⟩
      refine sq55_2 (bWp_mono _) hA ⟨by omega, by omega⟩ ⟨fun _ => w89r As (by omega) (by omega) ⟨bAi_0, w11 (d := d + 2) ?_⟩, fun y => absurd (by rw [Rt.2.1.1.1]; omega) y⟩
      by_cases g : bzG W k
      · rw [if_pos (gi.2 g)]
        rw [if_pos g] at nx
        have fe := bzLv_fe (σ := σ) (n := n) (Z := W) (a := k)
        refine ⟨fun y => absurd y (by decide), fun _ => w29z (d := d + 1) Rt Ik (by omega) k1 g.2.2 (by decide) fun u F1 G1 C1 => ?_⟩
        have e59 : bi u 5 9 = W.1 305 0 := by
          rw [G1.2.2 (305, 9) (by decide)]
          show (bzLv W k (-1)).1 305 0 = _
          unfold bzLv
          split
          · rfl
          · rw [zw_a (by decide), zw_a (by decide), zw_a (by decide)]
        rw [e59]
        obtain ⟨hN, hF⟩ := bzN_l Ik
        refine w13 (d := d) (by decide) (by decide) ⟨by omega, by omega⟩ (fun q => absurd q (by decide)) fun t2 E => ⟨⟨by omega, by omega⟩, nx t2 _ ?_⟩
        have e142 : (bzE (bzLv W k (-1)) k 7).1 142 k = 7 := by unfold bzE; rw [zw_a (by decide), zw_e]
        have e305 : (bzLv W k (-1)).1 305 0 = W.1 305 0 := by
          unfold bzLv
          split
          · rfl
          · rw [zw_a (by decide), zw_a (by decide), zw_a (by decide)]
        have e2 : (bzE (bzLv W k (-1)) k 7).2 = W.2 := by
          unfold bzE bzLv
          split <;> rfl
        refine (bzCC_e (r := t2) Ik Rt g (by omega) k1 fe (v := W.1 305 0) (by unfold bzE; rw [zw_e]; exact e305) F1 (by rw [e142]; exact E) bzKf_refl ?_ ?_).1
        · exact bzCG_z (bzEd_cg E G1) (zU_trans (zU_w (S := [142, 144]) (by decide)) (zU_w (by decide))) (by decide)
        · rw [e2]; exact bzEd_ch E (by omega) C1 hN hF
      · rw [if_neg (fun q => g (gi.1 q))]
        rw [if_neg g] at nx
        exact ⟨fun _ => ⟨⟨by omega, by omega⟩, nx t _ Rt⟩, fun y => absurd rfl y⟩
  exact Lp n 0 s _ (by omega) R
end

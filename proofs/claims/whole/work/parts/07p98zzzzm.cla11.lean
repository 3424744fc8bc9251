/-! BUILD, 35: the class: what an action will give is made -/
/-- only the entry of now has changed: it is what the action's key says -/
def bzPp (σ : bSt) (Z : bZs) (a : Int) (s t : bSt) : Prop := t.2 = s.2 ∧ (∀ y, y ≠ bNe a → y ≠ bNe a + 18 → y ≠ bNe a + 19 → ∀ j, bi t y j = bi s y j) ∧ (∀ j ∈ ([0, 1, 2] : List Int), bi t (bNe a) j = bi s (bNe a) j) ∧ bzEk t (bNe a) (bzK σ Z a) ∧ bi t (bNe a) 8 = bzV σ Z a ∧ bi t (bNe a) 7 = bzX σ Z a
section
variable {d : Nat} {σ s t r u : bSt} {f : Int → bSt → Prop} {fa : Nat → bSt → Prop} {fv : bSt → Prop} {a b g i j k x y v w p : Int} {c e e0 q m n z : Nat} {K M : bKy} {L N F : List bKy} {Z Y X W : bZs} {S : List Nat} {T U : Int → Bool}
theorem bzKf_t (h : bzKf (bzPa n) σ s) : ∀ t, bi s (bTi t) 4 = bi σ (bTi t) 4 := fun t => (h.1 (bTi t) (fun q => by
  unfold bzTb bzTc bTi at q
  simp only [List.mem_cons, List.not_mem_nil, or_false] at q
  omega) (bzPa_n (Or.inr (by unfold bTi; omega)))).1 4
theorem bzKf_p (h : bzKf (bzPa n) σ s) : bPag σ s := by
  have e := (bzKf_s h).1
  exact ⟨fun a ha i => e a (by
    simp only [List.mem_cons, List.not_mem_nil, or_false] at ha ⊢
    omega) i, e 12 (by decide) 17, e 12 (by decide) 22, bzKf_t h⟩
theorem bzKf_fi (h : bzKf (bzPa n) σ s) (hF : bFi σ) : bFi s := by
  have e := (bzKf_s h).1
  obtain ⟨h1, h2, h3, h4, h5, h6⟩ := hF
  refine ⟨fun p p0 p1 => ?_, ?_, fun x x0 x1 => ?_, fun x x0 x1 => ?_, fun x x0 x1 => ?_, fun x x0 x1 => ?_⟩
  · rw [e 19 (by decide), e 56 (by decide)]; exact h1 p p0 p1
  · rw [e 57 (by decide)]; exact h2
  · rw [e 57 (by decide)]; exact h3 x x0 x1
  · rw [e 20 (by decide), e 57 (by decide)]; exact h4 x x0 x1
  · rw [e 21 (by decide), bOwn_p (bzKf_p h)]; exact h5 x x0 x1
  · rw [e 201 (by decide)]; exact h6 x x0 x1
/-- the content that a done action of the class has -/
theorem bzD_8 (I : bzI σ n Z) (R : bzCC σ n Z s) (b0 : 0 ≤ b) (b1 : b < (n : Int)) (h : bzD Z b) : bi s (bNe b) 8 = Z.1 112 b := by
  obtain ⟨As, Ad⟩ := R.2.2.2 b b0 b1
  have j := I.2.2.1 b b0 b1
  have bg := j.2.1 (by unfold bzD at h; omega)
  have k := j.2.2.2 h
  rw [(Ad.2.2.2.2.1 (Ad.2.2.2.2.2.1 bg)).2.2.1, (I.2.1 b b0 b1 _ k).2.2.2]
  exact bzV_k I.1.1.1
theorem w59 (I : bzI σ n Z) (R : bzCC σ n Z s) (hsb : bi σ 3 3 = bi σ 12 68 ∧ (bi σ 12 68 = 0 ∨ bi σ 12 68 = 1)) (rd : bzRd Z a) (a0 : 0 ≤ a) (a1 : a < (n : Int)) (h : ∀ t, bzPp σ Z a s t → fv t) : bWp (d + 4) 59 [.ref 5, .ref (bAi a)] s (bRv fv) := by
  have n120 := I.1.2.1.1
  have o := I.1.2.1.2 a a0 a1
  have ow := I.1.2.2.1 a a0 a1 rd.1
  obtain ⟨As, Ad⟩ := R.2.2.2 a a0 a1
  have fr := bzKf_s R.1
  have hF : bFi σ := I.1.1.1
  have Fs := bzKf_fi R.1 hF
  have ag := bzKf_p R.1
  have e68 : bi s 12 68 = bi σ 12 68 := fr.1 12 (by decide) 68
  have b1 : bi s (bAi a) 1 = Z.1 105 a := As.2.1.2
  have nf := bNe_4 a
  have lo : bAi a ≠ bNe a ∧ bAi a ≠ bNe a + 18 ∧ bAi a ≠ bNe a + 19 ∧ bAi a + 13 ≠ bNe a ∧ bAi a + 13 ≠ bNe a + 18 ∧ bAi a + 13 ≠ bNe a + 19 ∧ 256 < bNe a := by unfold bAi bNe; omega
  have ea : 256 * (1 * (bNe a / 256) + 0) + 22 = bNe a + 18 := by omega
  have ly : ∀ s : bSt, bLen s (bNe a + 18) = 40 := fun s => bLen_of (k := 22) (by omega) (by decide) rfl
  have ty : bTy (bNe a + 18) = 0 := bTy_of (k := 22) (by omega) rfl
  refine ⟨rfl, fun A hA => sq59_0 (bWp_mono _) hA bAi_0 ?_⟩
  rw [bAi_n, b1]
  refine ⟨nf, ?_⟩
  have Lp : ∀ (m i : Nat) (t : bSt) (v3 v4 : Value), ((i + m : Nat) : Int) = Z.1 105 a → t.2 = s.2 → (∀ y, y ≠ bNe a → y ≠ bNe a + 18 → y ≠ bNe a + 19 → ∀ j, bi t y j = bi s y j) → bi t (bNe a) 3 = Z.1 105 a → (∀ j ∈ ([0, 1, 2] : List Int), bi t (bNe a) j = bi s (bNe a) j) → (∀ j, 0 ≤ j → j < (i : Int) → bi t (bNe a + 18) j = bzC σ Z a j) → A (7, [.ref 5, .ref (bAi a), .int (bn i), v3, v4], [], t) := by
    intro m
    induction m with
    | zero =>
      intro i t v3 v4 hi t2 W e3 e02 C
      have f0 := W (bAi a) lo.1 lo.2.1 lo.2.2.1
      have Rt : bzKf (bzPa n) s t := ⟨fun y y1 y2 => ⟨W y (fun e => y2 ⟨a, a0, a1, by rw [e]; simp [bzTa]⟩) (fun e => y2 ⟨a, a0, a1, by rw [e]; simp [bzTa]⟩) (fun e => y2 ⟨a, a0, a1, by rw [e]; simp [bzTa]⟩), fun _ => by unfold bj; rw [t2], fun _ => by unfold br; rw [t2], by rw [t2]⟩, bzNu_of t2⟩
      have Rσ := bzKf_trans R.1 Rt
      have Ft := bzKf_fi Rσ hF
      have agt := bzKf_p Rσ
      have et := (bzKf_s Rσ).1
      have e104 : bi t (bAi a) 0 = Z.1 104 a := by rw [f0]; exact As.2.1.1
      have e68t : bi t 12 68 = bi σ 12 68 := et 12 (by decide) 68
      refine sq59_7 (bWp_mono _) hA ⟨by omega, by omega⟩ ⟨bAi_0, fun y => absurd y (by rw [f0, b1]; omega), fun _ => ?_⟩
      rw [bAi_n, e104]
      have n0 : bi t (bNe a) 0 = Z.1 101 a := by rw [e02 0 (by decide)]; exact As.2.2.2.1.1
      have n1 : bi t (bNe a) 1 = Z.1 102 a := by rw [e02 1 (by decide)]; exact As.2.2.2.1.2.1
      have n2 : bi t (bNe a) 2 = Z.1 103 a := by rw [e02 2 (by decide)]; exact As.2.2.2.1.2.2
      refine ⟨nf, w40 (d := d) (c := bzC σ Z a) (m := (Z.1 105 a).toNat) (op := Z.1 101 a) (n := Z.1 102 a + Z.1 103 a) Ft ⟨by rw [et 3 (by decide), e68t]; exact hsb.1, by rw [e68t]; exact hsb.2⟩ nf ⟨by omega, by omega⟩ n0 (by rw [n1, n2]) (by omega) (by rw [e3]; omega) (by omega) (fun j j0 j1 => ⟨C j j0 (by omega), bzC_rg I.1 a0 a1 rd.1 j0 (by omega)⟩) fun s2 M HF e8 => ?_⟩
      have sF : bFnn t (Z.1 101 a) (Z.1 104 a) (bzC σ Z a) (Z.1 105 a).toNat = bzF σ Z a := by
        unfold bzF bFnn
        rw [bLka_m agt e68t]
      rw [sF] at HF
      rw [bGiv_m agt e68t] at e8
      have sE : bEls t (Z.1 104 a) (bzF σ Z a) = bzX σ Z a := by
        unfold bzX bEls
        simp only [bOwn_p agt]
      have keep : ∀ j, 0 ≤ j → j ≠ 5 → j ≠ 7 → j ≠ 8 → bi s2 (bNe a) j = bi t (bNe a) j := M.2.1
      have k18 : ∀ j, bi s2 (bNe a + 18) j = bi t (bNe a + 18) j := M.1 _ (by omega) (by omega)
      refine h s2 ⟨M.2.2.trans t2, fun y y1 y2 y3 j => (M.1 y y1 y3 j).trans (W y y1 y2 y3 j), fun j hj => ?_, ⟨?_, ?_, ?_, ?_, fun i hi => ?_, ?_, fun i hi => ?_⟩, e8, HF.2.2.trans sE⟩
      · rw [keep j (by
          simp only [List.mem_cons, List.not_mem_nil, or_false] at hj
          omega) (by
          simp only [List.mem_cons, List.not_mem_nil, or_false] at hj
          omega) (by
          simp only [List.mem_cons, List.not_mem_nil, or_false] at hj
          omega) (by
          simp only [List.mem_cons, List.not_mem_nil, or_false] at hj
          omega)]
        exact e02 j hj
      · rw [keep 0 (by decide) (by decide) (by decide) (by decide)]; exact n0
      · rw [keep 1 (by decide) (by decide) (by decide) (by decide)]; exact n1
      · rw [keep 2 (by decide) (by decide) (by decide) (by decide)]; exact n2
      · rw [keep 3 (by decide) (by decide) (by decide) (by decide), e3]
        show Z.1 105 a = ((bzL σ Z a).length : Int)
        rw [bzL_len]; omega
      · have hi : i < (bzL σ Z a).length := hi
        rw [bzL_len] at hi
        rw [Int.zero_add, k18, C i (by omega) (by omega)]
        exact (bzL_at hi).symm
      · exact HF.1
      · exact HF.2.1 i hi
    | succ m ih =>
      intro i t v3 v4 hi t2 W e3 e02 C
      have f0 := W (bAi a) lo.1 lo.2.1 lo.2.2.1
      have f13 := W (bAi a + 13) lo.2.2.2.1 lo.2.2.2.2.1 lo.2.2.2.2.2.1
      have inp : bi t (bAi a + 13) i = Z.1 106 (40 * a + i) := by rw [f13]; exact As.2.2.1 i (by omega) (by omega)
      have oi := o.2.2 i (by omega) (by omega)
      have c0 := bzC_rg I.1 a0 a1 rd.1 (i := i) (by omega) (by omega)
      have cv : bzC σ Z a i = if Z.1 106 (40 * a + i) < 100 then bi σ 56 (Z.1 106 (40 * a + i)) else Z.1 112 (Z.1 106 (40 * a + i) - 100) := rfl
      have di := (bzIn_at _).1 rd.2.2 i (by omega) (by omega)
      have owi := ow.1 i (by omega) (by omega)
      have put : ∀ v v3' v4', v = bzC σ Z a i → bWp (d + 3) 141 [.ref (bNe a + 18), .int (bn i), .int (bn v)] t (bRv fun s11 => bRg ((i : Int) + 1) ∧ A (7, [.ref 5, .ref (bAi a), .int (bn ((i : Int) + 1)), v3', v4'], [], s11)) := fun v v3' v4' hv => by
        refine w141i (n := 40) (by rw [hv]; exact ⟨by omega, by omega⟩) ty (by omega) (ly t) (by decide) (by omega) (by omega) ⟨⟨by omega, by omega⟩, ?_⟩
        have := ih (i + 1) (bw t (bNe a + 18) i v) v3' v4' (by omega) t2 (fun y y1 y2 y3 j => by rw [bi_ne y2]; exact W y y1 y2 y3 j) (by rw [bi_ne (by omega)]; exact e3) (fun j hj => by rw [bi_ne (by omega)]; exact e02 j hj) (fun j j0 j1 => by
          rw [bi_bw (by omega) j0 (by rw [hv]; exact ⟨by omega, by omega⟩)]
          by_cases z : j = i
          · rw [if_pos ⟨rfl, z⟩, z]; exact hv
          · rw [if_neg (fun y => z y.2)]; exact C j j0 (by omega))
        rw [show ((i + 1 : Nat) : Int) = (i : Int) + 1 by omega] at this
        exact this
      have b1t : bi t (bAi a) 1 = Z.1 105 a := by rw [f0]; exact b1
      refine sq59_7 (bWp_mono _) hA ⟨by omega, by omega⟩ ⟨bAi_0, fun _ => w5 (d := d + 2) bAi_0 (by omega) (by rw [b1t]; omega) (by rw [b1t]; omega) (by rw [inp]; omega) ?_, fun y => absurd (by rw [b1t]; omega) y⟩
      rw [inp, bAi_n, ea]
      have r33 : ∀ b, br t 33 b = br s 33 b := fun b => by unfold br; rw [t2]
      generalize Z.1 106 (40 * a + i) = w at *
      by_cases q : w < 100
      · rw [if_pos q] at cv ⊢
        have w48 : 0 ≤ w ∧ w < 48 := by omega
        refine ⟨fun _ => w4 (d := d + 2) bAi_0 (by omega) ⟨by omega, by omega⟩ (by rw [b1t]; omega) (fun _ => ?_) (fun y => absurd (by rw [b1t]; omega) y), fun y => absurd rfl y⟩
        rw [inp]
        refine w31i w48.1 w48.2 ⟨nf, put _ _ _ ?_⟩
        rw [cv, W 19 (by omega) (by omega) (by omega), fr.1 19 (by decide)]
        exact (hF.1 w w48.1 w48.2).1
      · rw [if_neg q] at cv ⊢
        obtain ⟨As2, Ad2⟩ := R.2.2.2 (w - 100) (by omega) (by omega)
        refine ⟨fun y => absurd y (by omega), fun _ => w89 (by rw [r33]; exact As2.1) (by omega) (by omega) ⟨bAi_0, ?_⟩⟩
        rw [bAi_n]
        have dn : bzD Z (w - 100) := di.resolve_left (by omega)
        refine ⟨bNe_4 _, nf, put _ _ _ ?_⟩
        rw [cv, W (bNe (w - 100)) (by unfold bNe; omega) (by unfold bNe; omega) (by unfold bNe; omega)]
        exact bzD_8 I R (by omega) (by omega) dn
  have := Lp (Z.1 105 a).toNat 0 (bw s (bNe a) 3 (Z.1 105 a)) (.float 0) (.float 0) (by omega) rfl (fun y y1 _ _ j => bi_ne y1) (by rw [bi_bw (by decide) (by decide) ⟨by omega, by omega⟩, if_pos ⟨rfl, rfl⟩]) (fun j hj => by
    simp only [List.mem_cons, List.not_mem_nil, or_false] at hj
    rw [bi_bw (by decide) (by omega) ⟨by omega, by omega⟩, if_neg (fun z => by omega)]) (fun j j0 j1 => by omega)
  exact this
end

/-! BUILD, 37: the class: a run begins -/
section
variable {d : Nat} {σ s t r u : bSt} {f : Int → bSt → Prop} {fa : Nat → bSt → Prop} {fv : bSt → Prop} {a b g i j k x y v w p st : Int} {c e e0 q m n z : Nat} {K M : bKy} {L N F : List bKy} {Z Y X W : bZs} {S : List Nat} {T U : Int → Bool} {rk : Int → Nat}
/-- bringing bytes asks for some arrays only -/
theorem bzB_c : ∀ (f : Nat) (Z Y : bZs) (a : Int), (∀ c ∈ [105, 106, 107, 112, 134, 135, 139], ∀ j, Y.1 c j = Z.1 c j) → (bzB σ f Y a).2 = (bzB σ f Z a).2 ∧ ∀ c ∈ [105, 106, 107, 112, 134, 135, 139], ∀ j, (bzB σ f Y a).1.1 c j = (bzB σ f Z a).1.1 c j := by
  intro f
  induction f with
  | zero => intro Z Y a h; exact ⟨rfl, h⟩
  | succ f ih =>
    intro Z Y a h
    have P : ∀ k : Nat, (bzBp σ (bzB σ f) a k Y).2 = (bzBp σ (bzB σ f) a k Z).2 ∧ ∀ c ∈ [105, 106, 107, 112, 134, 135, 139], ∀ j, (bzBp σ (bzB σ f) a k Y).1.1 c j = (bzBp σ (bzB σ f) a k Z).1.1 c j := by
      intro k
      induction k with
      | zero => exact ⟨rfl, h⟩
      | succ k ihk =>
        unfold bzBp
        generalize bzBp σ (bzB σ f) a k Y = rY at *
        generalize bzBp σ (bzB σ f) a k Z = rZ at *
        obtain ⟨VY, xY⟩ := rY
        obtain ⟨VZ, xZ⟩ := rZ
        dsimp only at *
        obtain ⟨e1, e2⟩ := ihk
        have du : ∀ b, bzDu σ Y b = bzDu σ Z b := fun b => by unfold bzDu; rw [h 107 (by decide)]
        rw [h 106 (by decide), h 112 (by decide), e2 134 (by decide), e2 135 (by decide), e2 139 (by decide), du]
        generalize Z.1 106 (40 * a + k) = w at *
        have two : ∀ (A B : bZs) (v y : Int) (cc : Nat), (∀ c ∈ [105, 106, 107, 112, 134, 135, 139], ∀ j, A.1 c j = B.1 c j) → ∀ c ∈ [105, 106, 107, 112, 134, 135, 139], ∀ j, (zw (zw A 134 v 1) 139 cc y).1 c j = (zw (zw B 134 v 1) 139 cc y).1 c j := fun A B v y cc hAB c hc j => by
          rw [zw_w, zw_w, zw_w, zw_w, hAB c hc]
        by_cases c1 : w < 100
        · rw [if_pos c1, if_pos c1]; exact ⟨e1, e2⟩
        rw [if_neg c1, if_neg c1]
        by_cases c2 : VZ.1 134 (Z.1 112 (w - 100)) ≠ 0
        · rw [if_pos c2, if_pos c2]; exact ⟨e1, e2⟩
        rw [if_neg c2, if_neg c2]
        by_cases c3 : bi σ 12 87 ≠ 0 ∧ VZ.1 135 (Z.1 112 (w - 100)) ≠ 0
        · rw [if_pos c3, if_pos c3]
          exact ⟨e1, two _ _ _ _ 10 e2⟩
        · rw [if_neg c3, if_neg c3]
          obtain ⟨g1, g2⟩ := ih VZ VY (w - 100) e2
          dsimp only
          rw [g1, e1, g2 139 (by decide)]
          exact ⟨rfl, two _ _ _ _ 9 g2⟩
    unfold bzB
    rw [h 105 (by decide)]
    exact P _
/-- an action goes on, in the class -/
theorem bzCC_r (I : bzI σ n Z) (R : bzCC σ n Z s) (rd : bzRd Z a) (a0 : 0 ≤ a) (a1 : a < (n : Int)) (h13 : bi s (bAi a) 13 ≠ -1) (D : bzDx a Z Y) (e142 : Y.1 142 a = -1) (e144 : Y.1 144 a = Z.1 144 a) (eK : Y.2.2.2 a = Z.2.2.2 a) (F : bzKf (fun y => y = bAi a) s t) (f0 : ∀ j ∈ ([0, 1, 5, 6, 7, 8, 9, 10, 12, 13] : List Int), bi t (bAi a) j = bi s (bAi a) j) (f11 : bi t (bAi a) 11 = Y.1 143 a) (f14 : bi t (bAi a) 14 = Y.1 148 a)
    (f15 : bi t (bAi a) 15 = if Y.1 147 a ≠ 0 then Y.1 146 a else 2147483647) (f16 : bi t (bAi a) 16 = if Y.1 147 a = 0 then bzNv (Y.1 145 a) else 2147483647) (f17 : bi t (bAi a) 17 = if Y.1 147 a = 0 then bzNv (Y.1 146 a) else 2147483647) (hY : Y.1 143 a ≠ -1) (G : bzCG σ n Y t) (C : bzCh t Y.2.1 Y.2.2.1) : bzCC σ n Y t ∧ ∀ b, 0 ≤ b → b < (n : Int) → bi t (bAi b) 13 = bi s (bAi b) 13 := by
  have n120 := I.1.2.1.1
  have z142 : Z.1 142 a = -1 := Classical.byContradiction fun q => (I.2.2.1 a a0 a1).2.1 q rd.2.1
  have nd : ¬ bzD Z a := fun q => by unfold bzD at q; omega
  obtain ⟨As, Ad⟩ := R.2.2.2 a a0 a1
  have T := Ad.2.2.2.2.1 h13
  have l := bzKl_z (σ := σ) I.1.1.1 I.1.2.1 a0 a1
  obtain ⟨m, m2⟩ := bzDx_K (σ := σ) I.1.2.1 D (fun _ => nd) a0 a1 T.1
  have same : ∀ y ∈ [bAi a + 13, bNe a, bNe a + 18, bNe a + 19, bKe a, bKe a + 18, bKe a + 19], ∀ j, bi t y j = bi s y j := fun y hy => by
    have my : y ∈ bAi a :: (bAi a + 13) :: bzTa a := by
      unfold bzTa
      simp only [List.mem_cons, List.not_mem_nil, or_false] at hy ⊢
      omega
    exact (F.1 y (bzTa_b my (by omega)).1 (fun e => by
      unfold bAi bNe bKe at *
      simp only [List.mem_cons, List.not_mem_nil, or_false] at hy
      omega)).1
  have r33 : br t 33 a = br s 33 a := (F.1 33 (fun q => by
    unfold bzTb bzTc at q
    simp only [List.mem_cons, List.not_mem_nil, or_false] at q
    omega) (by unfold bAi; omega)).2.2.1 a
  have g : bzG Y a := ⟨by rw [D.1 140 (by decide)]; exact rd.1, hY, e142⟩
  have c : bzG Y a ∧ Y.1 147 a ≠ 0 ↔ Y.1 147 a ≠ 0 := ⟨fun q => q.2, fun q => ⟨g, q⟩⟩
  have c' : bzG Y a ∧ Y.1 147 a = 0 ↔ Y.1 147 a = 0 := ⟨fun q => q.2, fun q => ⟨g, q⟩⟩
  refine ⟨bzCC_x I R D (fun _ => nd) a1 (bzKf_mono F fun y q => ⟨a0, by rw [q]; exact List.mem_cons_self⟩) G C fun _ => ⟨bzAs_x As D r33 (fun j hj => f0 j (by
    simp only [List.mem_cons, List.not_mem_nil, or_false] at hj ⊢
    omega)) (same _ (by simp)) (fun j _ => same _ (by simp) j), ⟨?_, f11, ?_⟩, ⟨?_, ?_, ?_⟩, fun _ => f14, ⟨?_, ?_⟩, fun _ => ⟨m2, ?_, ?_, ?_⟩, fun _ => ?_, ?_⟩, fun b b0 b1 => ?_⟩
  · rw [f0 10 (by decide), e142, Ad.1.1, z142]
  · rw [f0 12 (by decide), e144]; exact Ad.1.2.2
  · rw [f15]; simp only [c]
  · rw [f16]; simp only [c']
  · rw [f17]; simp only [c']
  · rw [eK, same _ (by simp), same _ (by simp), same _ (by simp)]; exact Ad.2.2.2.1.1
  · intro K q
    rw [eK] at q
    have lK := bzKl (I.2.1 a a0 a1 K q).1
    have kk := Ad.2.2.2.1.2 K q
    exact ⟨bzEk_m kk.1 (fun j _ => same _ (by simp) j) (fun j _ _ => same _ (by simp) j) (fun j _ _ => same _ (by simp) j) ⟨lK.1, lK.2.1⟩, by rw [same _ (by simp)]; exact kk.2⟩
  · rw [m.1]
    exact bzEk_m T.2.1 (fun j _ => same _ (by simp) j) (fun j _ _ => same _ (by simp) j) (fun j _ _ => same _ (by simp) j) ⟨l.1, l.2.1⟩
  · rw [same _ (by simp), m.2.1]; exact T.2.2.1
  · rw [same _ (by simp), m.2.2.1]; exact T.2.2.2
  · rw [f0 13 (by decide)]; exact h13
  · rw [f0 13 (by decide)]; have := Ad.2.2.2.2.2.2; have := D.2.2; omega
  · by_cases y : b = a
    · rw [y]; exact f0 13 (by decide)
    · exact (F.1 (bAi b) (bzTa_b List.mem_cons_self (by omega)).1 (by unfold bAi; omega)).1 13
/-- an action is done at once, in the class -/
theorem bzCC_d (I : bzI σ n Z) (R : bzCC σ n Z s) (rd : bzRd Z a) (a0 : 0 ≤ a) (a1 : a < (n : Int)) (h13 : bi s (bAi a) 13 ≠ -1) (D : bzDx a Z Y) (e142 : Y.1 142 a = st) (hst : 0 ≤ st ∧ st ≤ 4) (e143 : Y.1 143 a = v) (hv : bRg v ∧ 0 ≤ v) (e144 : Y.1 144 a = v) (eK : Y.2.2.2 a = some (bzK σ Z a)) (F1 : bzK0 s u) (E : bzEd a st v (bw u (bAi a) 11 v) t) (G : bzCG σ n Y t) (C : bzCh t Y.2.1 Y.2.2.1) : bzCC σ n Y t ∧ ∀ b, 0 ≤ b → b < (n : Int) → bi t (bAi b) 13 = bi s (bAi b) 13 := by
  have n120 := I.1.2.1.1
  have a2 : a ≤ 120 := by omega
  have z142 : Z.1 142 a = -1 := Classical.byContradiction fun q => (I.2.2.1 a a0 a1).2.1 q rd.2.1
  have nd : ¬ bzD Z a := fun q => by unfold bzD at q; omega
  obtain ⟨As, Ad⟩ := R.2.2.2 a a0 a1
  have T := Ad.2.2.2.2.1 h13
  have l := bzKl_z (σ := σ) I.1.1.1 I.1.2.1 a0 a1
  obtain ⟨m, m2⟩ := bzDx_K (σ := σ) I.1.2.1 D (fun _ => nd) a0 a1 T.1
  obtain ⟨f1, r1⟩ := bzK0_a F1 a2
  have F : bzKf (bzPx a) s t := by
    rcases bzEd_o E a2 with q | q
    · exact bzKf_trans (bzKf_mono F1 (fun _ w => w.elim)) (bzKf_trans (bzKf_w (Or.inr ⟨a0, List.mem_cons_self⟩)) q)
    · omega
  have nA : ∀ y ∈ [bAi a + 13, bNe a, bNe a + 18, bNe a + 19], y ≠ bAi a ∧ y ∉ [bKe a, bKe a + 18, bKe a + 19] ∧ y ∈ bAi a :: (bAi a + 13) :: bzTa a := fun y hy => by
    unfold bzTa
    unfold bAi bKe bNe at *
    simp only [List.mem_cons, List.not_mem_nil, or_false, not_or] at hy ⊢
    omega
  have same : ∀ y ∈ [bAi a + 13, bNe a, bNe a + 18, bNe a + 19], ∀ j, bi t y j = bi s y j := fun y hy j => by
    rw [E.2.1 y (nA y hy).1 (nA y hy).2.1, bi_ne (nA y hy).1, f1 y (nA y hy).2.2]
  have act : ∀ j, 0 ≤ j → bi t (bAi a) j = if j = 10 then st else if j = 12 then v else if 15 ≤ j ∧ j ≤ 17 then 2147483647 else if j = 11 then v else bi s (bAi a) j := fun j j0 => by
    rw [E.2.2.1 j j0, bi_bw (by decide) j0 hv.1, f1 (bAi a) List.mem_cons_self]
    simp only [true_and]
  have r33 : br t 33 a = br s 33 a := by
    rw [← r1]
    unfold br
    rw [E.1]
    rfl
  have Y142 : Y.1 142 a ≠ -1 := by omega
  have ng : ¬ bzG Y a := fun q => Y142 q.2.2
  have En : bzEk (bw u (bAi a) 11 v) (bNe a) (bzK σ Z a) := bzEk_m ((bzK0_ek F1 a2 l).1 T.2.1) (fun j _ => bi_ne (by unfold bAi bNe; omega)) (fun j _ _ => bi_ne (by unfold bAi bNe; omega)) (fun j _ _ => bi_ne (by unfold bAi bNe; omega)) ⟨l.1, l.2.1⟩
  obtain ⟨k1, k2⟩ := E.2.2.2.2 hst _ l En
  refine ⟨bzCC_x I R D (fun _ => nd) a1 F G C fun _ => ⟨bzAs_x As D r33 (fun j hj => ?_) (same _ (by simp)) (fun j _ => same _ (by simp) j), ⟨?_, ?_, ?_⟩, ⟨?_, ?_, ?_⟩, fun q => absurd q Y142, ⟨fun q => absurd (eK.symm.trans q) (by simp), fun K q => ?_⟩, fun _ => ⟨m2, ?_, ?_, ?_⟩, fun _ => ?_, ?_⟩, fun b b0 b1 => ?_⟩
  · simp only [List.mem_cons, List.not_mem_nil, or_false] at hj
    rw [act j (by omega), if_neg (by omega), if_neg (by omega), if_neg (by omega), if_neg (by omega)]
  · rw [act 10 (by decide), if_pos rfl, e142]
  · rw [act 11 (by decide), if_neg (by decide), if_neg (by decide), if_neg (by decide), if_pos rfl, e143]
  · rw [act 12 (by decide), if_neg (by decide), if_pos rfl, e144]
  · rw [act 15 (by decide), if_neg (by decide), if_neg (by decide), if_pos (by decide), if_neg (fun q => ng q.1)]
  · rw [act 16 (by decide), if_neg (by decide), if_neg (by decide), if_pos (by decide), if_neg (fun q => ng q.1)]
  · rw [act 17 (by decide), if_neg (by decide), if_neg (by decide), if_pos (by decide), if_neg (fun q => ng q.1)]
  · rw [eK] at q
    have eK2 := Option.some.inj q
    rw [← eK2]
    refine ⟨k1, ?_⟩
    rw [k2, bi_ne (by unfold bAi bNe; omega), f1 _ (by simp [bzTa]), T.2.2.1]
    exact bzV_k I.1.1.1
  · rw [m.1]
    exact bzEk_m T.2.1 (fun j _ => same _ (by simp) j) (fun j _ _ => same _ (by simp) j) (fun j _ _ => same _ (by simp) j) ⟨l.1, l.2.1⟩
  · rw [same _ (by simp), m.2.1]; exact T.2.2.1
  · rw [same _ (by simp), m.2.2.1]; exact T.2.2.2
  · rw [act 13 (by decide), if_neg (by decide), if_neg (by decide), if_neg (by decide), if_neg (by decide)]; exact h13
  · rw [act 13 (by decide), if_neg (by decide), if_neg (by decide), if_neg (by decide), if_neg (by decide)]; have := Ad.2.2.2.2.2.2; have := D.2.2; omega
  · by_cases y : b = a
    · rw [y, act 13 (by decide), if_neg (by decide), if_neg (by decide), if_neg (by decide), if_neg (by decide)]
    · exact (F.1 (bAi b) (bzTa_b List.mem_cons_self (by omega)).1 (bzTa_ne List.mem_cons_self b0 y)).1 13
end

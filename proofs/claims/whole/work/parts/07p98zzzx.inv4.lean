/-! BUILD, 20: what holds while time passes, when one begins -/
/-- action a begins -/
def bzSe (σ : bSt) (a : Int) (Z Y : bZs) : Prop :=
  zU [112, 134, 138, 139, 142, 143, 144, 145, 146, 147, 148] Z Y ∧
  (∀ b, b ≠ a → (∀ c ∈ [112, 142, 143, 144, 145, 146, 147, 148], Y.1 c b = Z.1 c b) ∧ Y.2.2.2 b = Z.2.2.2 b) ∧
  Y.1 143 a = Z.1 305 0 ∧
  (((0 ≤ Y.1 142 a ∧ Y.1 142 a ≤ 4) ∧ (Y.2.2.2 a = some (bzK σ Z a) ∧ Y.1 112 a = bKv (bzK σ Z a) ∧ bKg (bzK σ Z a)) ∧ ∀ c ∈ [145, 146, 147, 148], Y.1 c a = Z.1 c a) ∨
   ((Y.1 142 a = Z.1 142 a ∧ Y.2.2.2 a = Z.2.2.2 a ∧ Y.1 112 a = Z.1 112 a) ∧
     ((Y.1 147 a = 1 ∧ Y.1 145 a = Z.1 145 a ∧ Y.1 148 a = Z.1 148 a ∧ bzV σ Z a ≠ -1 ∧ 0 ≤ Y.1 146 a ∧ Y.1 146 a ≤ Z.1 305 0 + 2450) ∨
      (Y.1 147 a = Z.1 147 a ∧ (Y.1 145 a = -1 ∧ Y.1 148 a = -1 ∨ (0 ≤ Y.1 148 a ∧ Y.1 148 a < 12) ∧ 0 ≤ Y.1 145 a ∧ Y.1 145 a ≤ Z.1 305 0 + 2450) ∧ (Y.1 146 a = -1 ∨ 0 ≤ Y.1 146 a ∧ Y.1 146 a ≤ Z.1 305 0 + 2450) ∧ (Y.1 145 a ≠ -1 ∨ Y.1 146 a ≠ -1))))) ∧
  (Y.2.1 = Z.2.1 ∨ bzK σ Z a ∈ Z.2.1 ∧ Y.2.1 = bzRm Z.2.1 (bzK σ Z a) ++ [bzK σ Z a]) ∧ Y.2.2.1 = Z.2.2.1 ∧
  (∀ w, Y.1 138 w = Z.1 138 w ∨ Y.1 138 w = 1) ∧ (∀ w, Y.1 134 w = Z.1 134 w ∨ Y.1 134 w = 1) ∧
  (∀ w, w ≠ 9 → w ≠ 10 → Y.1 139 w = Z.1 139 w) ∧ (Z.1 139 9 ≤ Y.1 139 9 ∧ Z.1 139 10 ≤ Y.1 139 10 ∧ Y.1 139 9 + Y.1 139 10 ≤ Z.1 139 9 + Z.1 139 10 + 120)
section
variable {σ : bSt} {Z Y X : bZs} {a b i v g w x : Int} {c n m : Nat} {S T : List Nat} {K : bKy} {L : List bKy} {rk : Int → Nat}
theorem bzSe_K (h : bzSe σ a Z Y) (I : bzI σ n Z) (ha : Z.1 143 a = -1) (b0 : 0 ≤ b) (b1 : b < (n : Int)) (hb : Z.1 143 b ≠ -1 ∨ b = a) (a0 : 0 ≤ a) (a1 : a < (n : Int)) : bzK σ Y b = bzK σ Z b ∧ bzV σ Y b = bzV σ Z b ∧ bzX σ Y b = bzX σ Z b ∧ bzF σ Y b = bzF σ Z b := by
  have o := I.1.2.1.2 b b0 b1
  refine bzK_m (fun c hc => h.1 c (by
    simp only [List.mem_cons, List.not_mem_nil, or_false] at hc ⊢
    omega) _) (fun i i0 i1 => ⟨h.1 106 (by decide) _, ?_⟩)
  rcases o.2.2 i i0 i1 with q | q
  · exact Or.inl (by omega)
  · refine Or.inr ((h.2.1 _ (fun e => ?_)).1 112 (by decide))
    rcases hb with hb | hb
    · rcases (bzIn_at _).1 ((I.2.2.1 b b0 b1).2.2.1 hb).2 i i0 (by omega) with y | y
      · omega
      · rw [e] at y
        exact (I.2.2.1 a a0 a1).2.1 (by unfold bzD at y; omega) ha
    · omega
theorem bzI_se (I : bzI σ n Z) (rd : bzRd Z a) (a0 : 0 ≤ a) (a1 : a < (n : Int)) (h : bzSe σ a Z Y) : bzI σ n Y := by
  obtain ⟨u, ho, h3, hc, hn, hf, h8, h4, ht, ht2⟩ := id h
  have I0 := I
  obtain ⟨O, Ik, J1, J2, ⟨C1, C2⟩, J4⟩ := I
  have e := fun c (hc : c ∉ [112, 134, 138, 139, 142, 143, 144, 145, 146, 147, 148]) j => u c hc j
  have now := J4.1
  have ob := fun b (q : b ≠ a) => (ho b q).1
  have z142 : Z.1 142 a = -1 := Classical.byContradiction fun q => (J1 a a0 a1).2.1 q rd.2.1
  have z2 := (J2 a a0 a1).2.2.1 rd.2.1
  have nb : bzNb n Y = bzNb n Z + 1 := bzNb_1 a0 a1 (fun b q => ob b q 143 (by decide)) rd.2.1 (by rw [h3]; omega)
  have nbz := bzNb_b (n := n) (Z := Z)
  have ne : bzNe n Z ≤ bzNe n Y := by
    by_cases q : Y.1 142 a = -1
    · rw [bzNe_m (Y := Y) (Z := Z) fun b _ _ => by
        by_cases y : b = a
        · rw [y, q, z142]
        · exact ob b y 142 (by decide)]
      exact Int.le_refl _
    · rw [bzNe_1 a0 a1 (fun b q => ob b q 142 (by decide)) z142 q]; omega
  have oo : bzOo n Y := fun b b0 b1 => by
    by_cases q : b = a
    · rw [q]
      rcases hc with ⟨_, ⟨_, r, s⟩, _⟩ | ⟨⟨_, _, r⟩, _⟩
      · rw [r]; exact s.2.2.2.2.2.2.2.2
      · rw [r]; exact O.2.2.2 a a0 a1
    · rw [ob b q 112 (by decide)]; exact O.2.2.2 b b0 b1
  have Ka := bzSe_K h I0 rd.2.1 a0 a1 (Or.inr rfl) a0 a1
  have Dd : ∀ b, bzD Z b → bzD Y b := fun b q => by
    have y : b ≠ a := fun y => by rw [y] at q; unfold bzD at q; omega
    unfold bzD at q ⊢
    rw [ob b y 142 (by decide)]; exact q
  refine ⟨bzO_m O u (by decide) oo, fun b b0 b1 K hK => ?_, fun b b0 b1 => ?_, fun b b0 b1 => ?_, ⟨?_, ?_⟩, ?_⟩
  · rw [e 101 (by decide), e 102 (by decide), e 103 (by decide), e 105 (by decide)]
    by_cases q : b = a
    · rw [q] at hK ⊢
      rcases hc with ⟨_, ⟨r1, r2, r3⟩, _⟩ | ⟨⟨_, r1, r2⟩, _⟩
      · rw [r1] at hK
        have eK := Option.some.inj hK
        rw [← eK]
        exact ⟨r3, ⟨rfl, rfl, rfl⟩, bzL_len, r2⟩
      · rw [r1] at hK
        rw [r2]
        exact Ik a a0 a1 K hK
    · rw [(ho b q).2] at hK
      rw [ob b q 112 (by decide)]
      exact Ik b b0 b1 K hK
  · obtain ⟨j1, j2, j3, j4⟩ := J1 b b0 b1
    rw [e 140 (by decide), e 105 (by decide)]
    refine ⟨?_, ?_, fun q => ⟨?_, ?_⟩, fun q => ?_⟩
    · by_cases q : b = a
      · rw [q]; rcases hc with ⟨r, _⟩ | ⟨r, _⟩ <;> omega
      · rw [ob b q 142 (by decide)]; exact j1
    · by_cases q : b = a
      · rw [q, h3]; exact fun _ => by omega
      · rw [ob b q 142 (by decide), ob b q 143 (by decide)]; exact j2
    · by_cases y : b = a
      · rw [y]; exact rd.1
      · rw [ob b y 143 (by decide)] at q; exact (j3 q).1
    · refine (bzIn_at _).2 fun i i0 i1 => ?_
      rw [e 106 (by decide)]
      have src : bzIn Z b (Z.1 105 b).toNat = true := by
        by_cases y : b = a
        · rw [y]; exact rd.2.2
        · rw [ob b y 143 (by decide)] at q; exact (j3 q).2
      rcases (bzIn_at _).1 src i i0 i1 with r | r
      · exact Or.inl r
      · exact Or.inr (Dd _ r)
    · by_cases y : b = a
      · rw [y] at q ⊢
        rcases hc with ⟨_, ⟨r, _⟩, _⟩ | ⟨⟨r, _⟩, _⟩
        · rw [r, Ka.1]
        · unfold bzD at q; omega
      · have qZ : bzD Z b := by
          unfold bzD at q ⊢
          rw [ob b y 142 (by decide)] at q
          exact q
        have bgb : Z.1 143 b ≠ -1 := j2 (by unfold bzD at qZ; omega)
        rw [(ho b y).2, (bzSe_K h I0 rd.2.1 b0 b1 (Or.inl bgb) a0 a1).1]
        exact j4 qZ
  · obtain ⟨j1, j2, j3, j4, j5, j6, j7, j8, j9⟩ := J2 b b0 b1
    rw [nb]
    by_cases y : b = a
    · rw [y, h3]
      have ng : bzG Y a → Y.1 142 a = -1 := fun q => q.2.2
      rcases hc with ⟨r1, _, r3⟩ | ⟨⟨r1, _⟩, ⟨r2, r3, r4, r5, r6, r7⟩ | ⟨r2, r3, r4, r5⟩⟩
      · rw [r3 145 (by decide), r3 146 (by decide), r3 147 (by decide), r3 148 (by decide)]
        exact ⟨by omega, by omega, fun q => by omega, fun q => absurd z2.2.2.1 q, fun q => by have := ng q; omega, by omega, by omega, fun q => by have := ng q; omega, by omega, by omega⟩
      · rw [r2, r3, r4]
        exact ⟨Or.inr rfl, by omega, fun q => by omega, fun _ => ⟨z2.1, z2.2.2.2, fun _ => by rw [Ka.2.1]; exact r5⟩, fun _ q => absurd z2.1 q, by omega, by omega, fun _ => Or.inr (by omega), by omega, by omega⟩
      · rw [r2]
        exact ⟨by omega, by omega, fun q => by omega, fun q => absurd z2.2.2.1 q, fun _ q => by omega, by omega, by omega, fun _ => r5, by omega, by omega⟩
    · have gZ : bzG Y b → bzG Z b := fun q => ⟨by rw [← e 140 (by decide) b]; exact q.1, by rw [← ob b y 143 (by decide)]; exact q.2.1, by rw [← ob b y 142 (by decide)]; exact q.2.2⟩
      rw [ob b y 143 (by decide), ob b y 145 (by decide), ob b y 146 (by decide), ob b y 147 (by decide), ob b y 148 (by decide)]
      refine ⟨j1, j2, j3, fun q => ⟨(j4 q).1, (j4 q).2.1, fun r => ?_⟩, fun q => j5 (gZ q), by omega, by omega, fun q => j8 (gZ q), by omega, by omega⟩
      rw [(bzSe_K h I0 rd.2.1 b0 b1 (Or.inl (gZ r).2.1) a0 a1).2.1]
      exact (j4 q).2.2 (gZ r)
  · rcases hn with r | ⟨r, s⟩
    · rw [r]; exact C1
    · rw [s]; exact bzRm_c C1 r
  · rw [hf]; exact C2
  · obtain ⟨j1, j2, j3, j4, j5, j6, j7, j8, j9⟩ := J4
    unfold bzJ4
    rw [nb, e 305 (by decide), e 306 (by decide), e 395 (by decide), ht 11 (by decide) (by decide)]
    refine ⟨by omega, j2, j3, fun w w0 w1 => ?_, fun x x0 x1 => ?_, by omega, by omega, by omega, fun x x1 x2 x3 => by rw [ht x x1 x2]; exact j9 x x1 x2 x3⟩
    · rw [e 137 (by decide)]
      have p := h8 w
      obtain ⟨q1, q2⟩ := j4 w w0 w1
      exact ⟨q1, by rcases p with r | r <;> omega⟩
    · rw [e 135 (by decide)]
      have p := h4 x
      obtain ⟨q1, q2⟩ := j5 x x0 x1
      exact ⟨by rcases p with r | r <;> omega, q2⟩
/-- what beginning comes to -/
theorem bzSt_se (I : bzI σ n Z) (hr : bzRn0 rk n Z) (rd : bzRd Z a) (cn : bzCn σ Z a) (a0 : 0 ≤ a) (a1 : a < (n : Int)) : bzSe σ a Z (bzSt σ Z a) := by
  obtain ⟨O, Ik, J1, J2, ⟨C1, C2⟩, J4⟩ := id I
  have n120 := O.2.1.1
  have now := J4.1
  have z142 : Z.1 142 a = -1 := Classical.byContradiction fun q => (J1 a a0 a1).2.1 q rd.2.1
  have z2 := (J2 a a0 a1).2.2.1 rd.2.1
  have lat := O.1.2.2
  obtain ⟨_, _, fi, kd, du, _⟩ := O.2.2.1 a a0 a1 rd.1
  have nbz := bzNb_b (n := n) (Z := Z)
  unfold bzSt
  by_cases c1 : Z.2.2.2 a = some (bzK σ Z a)
  · rw [if_pos c1]
    have ik := Ik a a0 a1 _ c1
    refine ⟨?_, fun b hb => ⟨fun c hc => ?_, rfl⟩, ?_, Or.inl ⟨?_, ⟨c1, ?_, ik.1⟩, fun c hc => ?_⟩, Or.inl rfl, rfl, fun w => Or.inl ?_, fun w => Or.inl ?_, fun w _ _ => ?_, ?_⟩
    all_goals unfold bzE bzBe
    · exact zU_trans (zU_trans (zU_w (by decide)) (zU_w (by decide))) (zU_w (by decide))
    · rw [zw_i hb, zw_i hb, zw_i hb]
    · rw [zw_a (by decide), zw_a (by decide), zw_e]
    · rw [zw_a (by decide), zw_e]; decide
    · rw [zw_a (by decide), zw_a (by decide), zw_a (by decide)]; exact ik.2.2.2
    · simp only [List.mem_cons, List.not_mem_nil, or_false] at hc
      rw [zw_a (by omega), zw_a (by omega), zw_a (by omega)]
    · rw [zw_a (by decide), zw_a (by decide), zw_a (by decide)]
    · rw [zw_a (by decide), zw_a (by decide), zw_a (by decide)]
    · rw [zw_a (by decide), zw_a (by decide), zw_a (by decide)]
    · rw [zw_a (by decide), zw_a (by decide), zw_a (by decide), zw_a (by decide), zw_a (by decide), zw_a (by decide)]; omega
  rw [if_neg c1]
  by_cases c2 : bzK σ Z a ∈ Z.2.1
  · rw [if_pos c2]
    have g := C1.2.2 _ c2
    have e1 : (bzH (bzE (bzMv (bzBe Z a) (bzK σ Z a)) a 1) a (bzK σ Z a)).1 = (zw (zw (zw (zw Z 143 a (Z.1 305 0)) 142 a 1) 144 a ((zw Z 143 a (Z.1 305 0)).1 305 0)) 112 a (bKv (bzK σ Z a))).1 := rfl
    have st : ∀ c, c ∉ [112, 142, 143, 144] → ∀ j, (bzH (bzE (bzMv (bzBe Z a) (bzK σ Z a)) a 1) a (bzK σ Z a)).1 c j = Z.1 c j := fun c hc j => by
      simp only [List.mem_cons, List.not_mem_nil, or_false, not_or] at hc
      rw [e1, zw_a hc.1, zw_a hc.2.2.2, zw_a hc.2.1, zw_a hc.2.2.1]
    refine ⟨fun c hc j => st c (by simp only [List.mem_cons, List.not_mem_nil, or_false, not_or] at hc ⊢; omega) j, fun b hb => ⟨fun c hc => ?_, if_neg hb⟩, ?_, Or.inl ⟨?_, ⟨if_pos rfl, ?_, g⟩, fun c hc => st c (by simp only [List.mem_cons, List.not_mem_nil, or_false, not_or] at hc ⊢; omega) _⟩, Or.inr ⟨c2, rfl⟩, rfl, fun w => Or.inl (st 138 (by decide) w), fun w => Or.inl (st 134 (by decide) w), fun w _ _ => st 139 (by decide) w, ?_⟩
    · rw [e1, zw_i hb, zw_i hb, zw_i hb, zw_i hb]
    · rw [e1, zw_a (by decide), zw_a (by decide), zw_a (by decide), zw_e]
    · rw [e1, zw_a (by decide), zw_a (by decide), zw_e]; decide
    · rw [e1, zw_e]
    · rw [st 139 (by decide), st 139 (by decide)]; omega
  rw [if_neg c2]
  by_cases c3 : bi σ 12 87 ≠ 0 ∧ bzK σ Z a ∈ Z.2.2.1
  · rw [if_pos c3]
    have g := C2.2.2 _ c3.2
    have hv : bzV σ Z a ≠ -1 := by
      rw [bzV_k O.1.1]
      have := g.2.2.2.2.2.2.2.2.1
      omega
    have st : ∀ c, c ∉ [143, 146, 147] → ∀ j, (zw (zw (bzBe Z a) 147 a 1) 146 a (Z.1 305 0 + bi σ 12 88)).1 c j = Z.1 c j := fun c hc j => by
      simp only [List.mem_cons, List.not_mem_nil, or_false, not_or] at hc
      unfold bzBe
      rw [zw_a hc.2.1, zw_a hc.2.2, zw_a hc.1]
    refine ⟨fun c hc j => st c (by simp only [List.mem_cons, List.not_mem_nil, or_false, not_or] at hc ⊢; omega) j, fun b hb => ⟨fun c hc => ?_, rfl⟩, ?_, Or.inr ⟨⟨st 142 (by decide) a, rfl, st 112 (by decide) a⟩, Or.inl ⟨?_, st 145 (by decide) a, st 148 (by decide) a, hv, ?_⟩⟩, Or.inl rfl, rfl, fun w => Or.inl (st 138 (by decide) w), fun w => Or.inl (st 134 (by decide) w), fun w _ _ => st 139 (by decide) w, ?_⟩
    · unfold bzBe; rw [zw_i hb, zw_i hb, zw_i hb]
    · unfold bzBe; rw [zw_a (by decide), zw_a (by decide), zw_e]
    · rw [zw_a (by decide), zw_e]
    · rw [zw_e]; omega
    · rw [st 139 (by decide), st 139 (by decide)]; omega
  rw [if_neg c3]
  -- a run
  have zB : zU [143] Z (bzBe Z a) := zU_w (by decide)
  obtain ⟨hB, mB⟩ := bzEnv O zB (by decide)
  have eB : ∀ c, c ≠ 143 → ∀ j, (bzBe Z a).1 c j = Z.1 c j := fun c hc j => zw_a hc
  have ePk : bzPk σ (bzBe Z a) a = bzPk σ Z a := by
    have f1 : ∀ (m : Nat) (w : Int), bzFr (bzBe Z a) m w = bzFr Z m w := fun m => by
      induction m with
      | zero => intro w; rfl
      | succ m ih => intro w; unfold bzFr; rw [eB 138 (by decide), ih]
    have f2 : ∀ (v : Int) (m : Nat) (w : Int), bzWm (bzBe Z a) v m w = bzWm Z v m w := fun v m => by
      induction m with
      | zero => intro w; rfl
      | succ m ih => intro w; unfold bzWm; rw [eB 138 (by decide), eB 137 (by decide), ih]
    unfold bzPk bzKd
    simp only [f1, f2, eB 103 (by decide), eB 107 (by decide)]
  have pr := bzPk_rg O a0 a1 rd.1
  have can : bzBo σ Z a ∨ bzPk σ Z a ≠ -1 := by
    rcases bzCn_iff.1 cn with (q | q | q) | q
    · exact absurd q c1
    · exact absurd q c2
    · exact absurd q c3
    · exact q
  have eBo : bzBo σ (bzBe Z a) a ↔ bzBo σ Z a := by unfold bzBo; rw [eB 107 (by decide)]
  have eDu : bzDu σ (bzBe Z a) a = bzDu σ Z a := by unfold bzDu; rw [eB 107 (by decide)]
  -- the run here
  have R1 : zU [134, 138, 139, 143, 145, 148] Z (bzR1 σ (bzBe Z a) a) ∧ (bzR1 σ (bzBe Z a) a).2 = Z.2 ∧ (∀ b, b ≠ a → ∀ c ∈ [143, 145, 148], (bzR1 σ (bzBe Z a) a).1 c b = Z.1 c b) ∧ (bzR1 σ (bzBe Z a) a).1 143 a = Z.1 305 0 ∧ (bzPk σ Z a = -1 ∧ (bzR1 σ (bzBe Z a) a).1 145 a = -1 ∧ (bzR1 σ (bzBe Z a) a).1 148 a = -1 ∨ (0 ≤ (bzR1 σ (bzBe Z a) a).1 148 a ∧ (bzR1 σ (bzBe Z a) a).1 148 a < 12) ∧ 0 ≤ (bzR1 σ (bzBe Z a) a).1 145 a ∧ (bzR1 σ (bzBe Z a) a).1 145 a ≤ Z.1 305 0 + 2450) ∧ (∀ w, (bzR1 σ (bzBe Z a) a).1 138 w = Z.1 138 w ∨ (bzR1 σ (bzBe Z a) a).1 138 w = 1) ∧ (∀ w, (bzR1 σ (bzBe Z a) a).1 134 w = Z.1 134 w ∨ (bzR1 σ (bzBe Z a) a).1 134 w = 1) ∧ (∀ w, w ≠ 9 → w ≠ 10 → (bzR1 σ (bzBe Z a) a).1 139 w = Z.1 139 w) ∧ (Z.1 139 9 ≤ (bzR1 σ (bzBe Z a) a).1 139 9 ∧ Z.1 139 10 ≤ (bzR1 σ (bzBe Z a) a).1 139 10 ∧ (bzR1 σ (bzBe Z a) a).1 139 9 + (bzR1 σ (bzBe Z a) a).1 139 10 ≤ Z.1 139 9 + Z.1 139 10 + 120) := by
    unfold bzR1
    rw [ePk]
    by_cases z : bzPk σ Z a = -1
    · rw [if_pos z]
      exact ⟨zU_mono zB (by decide), rfl, fun b hb c hc => by unfold bzBe; rw [zw_i hb], zw_e, Or.inl ⟨z, by rw [eB 145 (by decide)]; exact z2.1, by rw [eB 148 (by decide)]; exact z2.2.2.2⟩, fun w => Or.inl (eB 138 (by decide) w), fun w => Or.inl (eB 134 (by decide) w), fun w _ _ => eB 139 (by decide) w, by rw [eB 139 (by decide), eB 139 (by decide)]; omega⟩
    · rw [if_neg z]
      have p := pr.resolve_left z
      generalize bzPk σ Z a = wk at *
      have zT : zU [138, 148] (bzBe Z a) (bzTk (bzBe Z a) a wk) := zU_trans (zU_w (by decide)) (zU_w (by decide))
      have hT := (bzEnv hB zT (by decide)).1
      have hrT : bzRn0 rk n (bzTk (bzBe Z a) a wk) := fun b b0 b1 => by
        simp only [zT 105 (by decide), zT 106 (by decide), eB 105 (by decide), eB 106 (by decide)]
        exact hr b b0 b1
      have wT : (bzTk (bzBe Z a) a wk).1 140 a ≠ 0 := by rw [zT 140 (by decide), eB 140 (by decide)]; exact rd.1
      have bq := (bzB_e (rk := rk) 17 (bzTk (bzBe Z a) a wk) a ⟨hT.2.1, hT.2.2.1⟩ hrT a0 a1 wT).1
      have ph0 := bzPh_b (Z := bzTk (bzBe Z a) a wk) (m := n)
      have phq := bzPh_b (Z := (bzB σ 17 (bzTk (bzBe Z a) a wk) a).1) (m := n)
      unfold bzRh
      generalize hq : bzB σ 17 (bzTk (bzBe Z a) a wk) a = q at *
      obtain ⟨b1, b2, b3, b4, b5, b6, b7⟩ := bq
      have bn7 := b7 n (by omega)
      have eT : ∀ c, c ∉ [134, 138, 139, 143, 148] → ∀ j, q.1.1 c j = Z.1 c j := fun c hc j => by
        simp only [List.mem_cons, List.not_mem_nil, or_false, not_or] at hc
        rw [b1 c (by simp only [List.mem_cons, List.not_mem_nil, or_false, not_or]; omega), zT c (by simp only [List.mem_cons, List.not_mem_nil, or_false, not_or]; omega)]
        exact eB c (by omega) j
      have e9 : ∀ w, (bzTk (bzBe Z a) a wk).1 139 w = Z.1 139 w := fun w => by rw [zT 139 (by decide)]; exact eB 139 (by decide) w
      rw [e9, e9] at bn7 b5
      rw [e9] at b6
      have tm : 0 ≤ bzTm σ (bzBe Z a) a wk ∧ bzTm σ (bzBe Z a) a wk ≤ 20 := by
        unfold bzTm
        rw [eDu]
        split <;> omega
      have e305 : (bzBe Z a).1 305 0 = Z.1 305 0 := eB 305 (by decide) 0
      rw [e305]
      refine ⟨fun c hc j => ?_, b2, fun b hb c hc => ?_, ?_, Or.inr ⟨?_, ?_⟩, fun w => ?_, fun w => ?_, fun w w1 w2 => ?_, ?_⟩
      · simp only [List.mem_cons, List.not_mem_nil, or_false, not_or] at hc
        rw [zw_a (by omega)]
        exact eT c (by simp only [List.mem_cons, List.not_mem_nil, or_false, not_or]; omega) j
      · simp only [List.mem_cons, List.not_mem_nil, or_false] at hc
        rw [zw_i hb, b1 c (by simp only [List.mem_cons, List.not_mem_nil, or_false, not_or]; omega)]
        unfold bzTk bzBe
        rw [zw_a (by omega), zw_i hb, zw_i hb]
      · rw [zw_a (by decide), b1 143 (by decide), zT 143 (by decide)]
        exact zw_e
      · rw [zw_a (by decide), b1 148 (by decide)]
        unfold bzTk
        rw [zw_a (by decide), zw_e]
        omega
      · rw [zw_e]; omega
      · rw [zw_a (by decide), b1 138 (by decide)]
        unfold bzTk
        rw [zw_w]
        split
        · exact Or.inr rfl
        · rw [zw_a (by decide), eB 138 (by decide)]; exact Or.inl rfl
      · rw [zw_a (by decide)]
        have := b3 w
        rw [zT 134 (by decide), eB 134 (by decide)] at this
        exact this
      · rw [zw_a (by decide), b4 w w1 w2]; exact e9 w
      · rw [zw_a (by decide), zw_a (by decide)]
        omega
  obtain ⟨r1, r2, r3, r4, r5, r6, r7, r8, r9⟩ := R1
  unfold bzRun
  generalize bzR1 σ (bzBe Z a) a = W at *
  rw [eDu, eB 305 (by decide)]
  have w146 : W.1 146 a = -1 := by rw [r1 146 (by decide)]; exact z2.2.1
  have w147 : W.1 147 a = Z.1 147 a := r1 147 (by decide) a
  have r5' : (W.1 145 a = -1 ∧ W.1 148 a = -1 ∨ (0 ≤ W.1 148 a ∧ W.1 148 a < 12) ∧ 0 ≤ W.1 145 a ∧ W.1 145 a ≤ Z.1 305 0 + 2450) := r5.imp (fun q => q.2) id
  by_cases bo : bzBo σ (bzBe Z a) a
  · rw [if_pos bo]
    refine ⟨fun c hc j => ?_, fun b hb => ⟨fun c hc => ?_, by show W.2.2.2 b = _; rw [r2]⟩, ?_, Or.inr ⟨⟨?_, by show W.2.2.2 a = _; rw [r2], ?_⟩, Or.inr ⟨?_, ?_, Or.inr ?_, Or.inr ?_⟩⟩, Or.inl (by show W.2.1 = _; rw [r2]), by show W.2.2.1 = _; rw [r2], fun w => ?_, fun w => ?_, fun w w1 w2 => ?_, ?_⟩
    · simp only [List.mem_cons, List.not_mem_nil, or_false, not_or] at hc
      rw [zw_a (by omega)]
      exact r1 c (by simp only [List.mem_cons, List.not_mem_nil, or_false, not_or]; omega) j
    · rw [zw_i hb]
      simp only [List.mem_cons, List.not_mem_nil, or_false] at hc
      by_cases y : c = 143 ∨ c = 145 ∨ c = 148
      · exact r3 b hb c (by simp only [List.mem_cons, List.not_mem_nil, or_false]; omega)
      · exact r1 c (by simp only [List.mem_cons, List.not_mem_nil, or_false, not_or]; omega) b
    · rw [zw_a (by decide)]; exact r4
    · rw [zw_a (by decide)]; exact r1 142 (by decide) a
    · rw [zw_a (by decide)]; exact r1 112 (by decide) a
    · rw [zw_a (by decide)]; exact w147
    · rw [zw_a (by decide), zw_a (by decide)]; exact r5'
    · rw [zw_e]; omega
    · rw [zw_e]; omega
    · rw [zw_a (by decide)]; exact r6 w
    · rw [zw_a (by decide)]; exact r7 w
    · rw [zw_a (by decide)]; exact r8 w w1 w2
    · rw [zw_a (by decide), zw_a (by decide)]; exact r9
  · rw [if_neg bo]
    have hp : bzPk σ Z a ≠ -1 := by
      rcases can with q | q
      · exact absurd (eBo.2 q) bo
      · exact q
    have r6' : 0 ≤ W.1 145 a := by
      rcases r5 with ⟨q, _⟩ | q
      · exact absurd q hp
      · exact q.2.1
    refine ⟨fun c hc j => ?_, fun b hb => ⟨fun c hc => ?_, by rw [r2]⟩, r4, Or.inr ⟨⟨r1 142 (by decide) a, by rw [r2], r1 112 (by decide) a⟩, Or.inr ⟨w147, r5', Or.inl w146, Or.inl (by omega)⟩⟩, Or.inl (by rw [r2]), by rw [r2], r6, r7, r8, r9⟩
    · simp only [List.mem_cons, List.not_mem_nil, or_false, not_or] at hc
      exact r1 c (by simp only [List.mem_cons, List.not_mem_nil, or_false, not_or]; omega) j
    · simp only [List.mem_cons, List.not_mem_nil, or_false] at hc
      by_cases y : c = 143 ∨ c = 145 ∨ c = 148
      · exact r3 b hb c (by simp only [List.mem_cons, List.not_mem_nil, or_false]; omega)
      · exact r1 c (by simp only [List.mem_cons, List.not_mem_nil, or_false, not_or]; omega) b
end

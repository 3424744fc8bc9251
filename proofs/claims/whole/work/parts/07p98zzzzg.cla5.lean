/-! BUILD, 29: the class's state while time passes -/
/-- objects that time changes, but actions -/
def bzTb (y : Nat) : Prop := y ∈ [1, 257, 5, 14, 270, 15, 271, 17, 18, 24, 25, 26] ∨ bzTc y
/-- the objects of an action that time changes -/
def bzTa (x : Int) : List Nat := [bAi x, bNe x, bNe x + 18, bNe x + 19, bKe x, bKe x + 18, bKe x + 19]
/-- of one action, of the first n -/
def bzPx (x : Int) (y : Nat) : Prop := 0 ≤ x ∧ y ∈ bzTa x
def bzPa (n : Nat) (y : Nat) : Prop := ∃ a : Int, 0 ≤ a ∧ a < (n : Int) ∧ y ∈ bzTa a
/-- only that has changed -/
def bzKf (P : Nat → Prop) (s t : bSt) : Prop := (∀ y, ¬ bzTb y → ¬ P y → (∀ j, bi t y j = bi s y j) ∧ (∀ j, bj t y j = bj s y j) ∧ (∀ j, br t y j = br s y j) ∧ t.2.2.2.1 y = s.2.2.2.1 y) ∧ bzNu s t
def bzGp : List (Nat × Nat × Int) := [(137, 17, 12), (138, 18, 12), (139, 24, 12), (134, 15, 1000), (135, 271, 1000)]
def bzGq : List (Nat × Int) := [(305, 9), (306, 10), (395, 8)]
/-- the class has the time, the crew, the bytes and what is told -/
def bzCG (σ : bSt) (n : Nat) (Z : bZs) (s : bSt) : Prop := (bi s 6 13 = n ∧ bi s 5 5 = bi σ 12 87 ∧ bi s 5 6 = bi σ 12 88 ∧ ∀ k, 0 ≤ k → k < 3 → bi s 16 k = bi σ 136 k) ∧ (∀ p ∈ bzGp, ∀ i, 0 ≤ i → i < p.2.2 → bi s p.2.1 i = Z.1 p.1 i) ∧ ∀ p ∈ bzGq, bi s 5 p.2 = Z.1 p.1 0
/-- an action of the class is described -/
def bzAs (σ : bSt) (Z : bZs) (s : bSt) (a : Int) : Prop := br s 33 a = some (bAi a) ∧ (bi s (bAi a) 0 = Z.1 104 a ∧ bi s (bAi a) 1 = Z.1 105 a) ∧ (∀ i, 0 ≤ i → i < Z.1 105 a → bi s (bAi a + 13) i = Z.1 106 (40 * a + i)) ∧ (bi s (bNe a) 0 = Z.1 101 a ∧ bi s (bNe a) 1 = Z.1 102 a ∧ bi s (bNe a) 2 = Z.1 103 a) ∧ bi s (bAi a) 5 = Z.1 140 a ∧
  (Z.1 140 a ≠ 0 → bi s (bAi a) 6 = bzKd σ Z a ∧ bi s (bAi a) 7 = bzDu σ Z a ∧ bi s (bAi a) 8 = bi σ 91 (Z.1 107 a) ∧ bi s (bAi a) 9 = Z.1 141 a)
def bzNv (x : Int) : Int := if x = -1 then 2147483647 else x
/-- what becomes of an action of the class -/
def bzAd (σ : bSt) (Z : bZs) (s : bSt) (a : Int) : Prop := (bi s (bAi a) 10 = Z.1 142 a ∧ bi s (bAi a) 11 = Z.1 143 a ∧ bi s (bAi a) 12 = Z.1 144 a) ∧
  ((bi s (bAi a) 15 = if bzG Z a ∧ Z.1 147 a ≠ 0 then Z.1 146 a else 2147483647) ∧ (bi s (bAi a) 16 = if bzG Z a ∧ Z.1 147 a = 0 then bzNv (Z.1 145 a) else 2147483647) ∧ (bi s (bAi a) 17 = if bzG Z a ∧ Z.1 147 a = 0 then bzNv (Z.1 146 a) else 2147483647)) ∧
  (Z.1 142 a = -1 → bi s (bAi a) 14 = Z.1 148 a) ∧
  ((Z.2.2.2 a = none → bi s (bKe a) 0 = -1 ∧ bi s (bKe a) 5 = 0 ∧ bi s (bKe a) 8 = -1) ∧ ∀ K, Z.2.2.2 a = some K → bzEk s (bKe a) K ∧ bi s (bKe a) 8 = bKv K) ∧
  (bi s (bAi a) 13 ≠ -1 → bzIn Z a (Z.1 105 a).toNat = true ∧ bzEk s (bNe a) (bzK σ Z a) ∧ bi s (bNe a) 8 = bzV σ Z a ∧ bi s (bNe a) 7 = bzX σ Z a) ∧ (Z.1 143 a ≠ -1 → bi s (bAi a) 13 ≠ -1) ∧ bi s (bAi a) 13 ≤ Z.1 305 0
/-- the class's state while time passes -/
def bzCC (σ : bSt) (n : Nat) (Z : bZs) (s : bSt) : Prop := bzKf (bzPa n) σ s ∧ bzCG σ n Z s ∧ bzCh s Z.2.1 Z.2.2.1 ∧ ∀ a, 0 ≤ a → a < (n : Int) → bzAs σ Z s a ∧ bzAd σ Z s a
/-- of the actions only x changes -/
def bzDx (x : Int) (Z Y : bZs) : Prop := zU [112, 134, 135, 137, 138, 139, 142, 143, 144, 145, 146, 147, 148, 305, 306, 395] Z Y ∧ (∀ b, b ≠ x → (∀ c ∈ [112, 142, 143, 144, 145, 146, 147, 148], Y.1 c b = Z.1 c b) ∧ Y.2.2.2 b = Z.2.2.2 b) ∧ Z.1 305 0 ≤ Y.1 305 0
section
variable {d : Nat} {σ s t r : bSt} {f : Int → bSt → Prop} {fv : bSt → Prop} {a b i j k x y v w c p : Int} {e e0 q m n : Nat} {K M : bKy} {L N F : List bKy} {Z Y X : bZs} {P Q : Nat → Prop}
theorem bzKf_refl : bzKf P s s := ⟨fun _ _ _ => ⟨fun _ => rfl, fun _ => rfl, fun _ => rfl, rfl⟩, bzNu_refl⟩
theorem bzKf_trans (h : bzKf P s t) (k : bzKf P t r) : bzKf P s r := ⟨fun y y1 y2 => ⟨fun j => ((k.1 y y1 y2).1 j).trans ((h.1 y y1 y2).1 j), fun j => ((k.1 y y1 y2).2.1 j).trans ((h.1 y y1 y2).2.1 j), fun j => ((k.1 y y1 y2).2.2.1 j).trans ((h.1 y y1 y2).2.2.1 j), (k.1 y y1 y2).2.2.2.trans (h.1 y y1 y2).2.2.2⟩, bzNu_trans h.2 k.2⟩
theorem bzKf_mono (h : bzKf P s t) (k : ∀ y, P y → Q y) : bzKf Q s t := ⟨fun y y1 y2 => h.1 y y1 (fun z => y2 (k y z)), h.2⟩
theorem bzKf_w {b : Nat} (h : bzTb b ∨ P b) : bzKf P s (bw s b i v) := ⟨fun y y1 y2 => ⟨fun j => bi_ne (fun e => by rw [e] at y1 y2; exact h.elim y1 y2), fun _ => rfl, fun _ => rfl, rfl⟩, bzNu_of rfl⟩
theorem bzKf_of {l : List Nat} (h : ∀ b ∈ l, bzTb b ∨ P b) (e : ∀ b, b ∉ l → ∀ j, bi t b j = bi s b j) (e2 : t.2 = s.2) : bzKf P s t := ⟨fun y y1 y2 => ⟨e y (fun q => (h y q).elim y1 y2), fun _ => by unfold bj; rw [e2], fun _ => by unfold br; rw [e2], by rw [e2]⟩, bzNu_of e2⟩
theorem bzTb_s {b : Nat} (h : b ∈ [1, 257, 5, 14, 270, 15, 271, 17, 18, 24, 25, 26]) : bzTb b := Or.inl h
theorem bzKf_cf (h : bzCf s t) : bzKf P s t := ⟨fun y y1 _ => by
  have n : y ≠ 1 ∧ y ≠ 257 ∧ y ≠ 14 ∧ y ≠ 270 := ⟨fun e => y1 (Or.inl (by rw [e]; decide)), fun e => y1 (Or.inl (by rw [e]; decide)), fun e => y1 (Or.inl (by rw [e]; decide)), fun e => y1 (Or.inl (by rw [e]; decide))⟩
  have := h.1 y (fun q => y1 (Or.inr q))
  exact ⟨fun j => this.1 j (Or.inl ⟨n.1, n.2.1⟩), this.2.1, this.2.2.1 n.2.2.1 n.2.2.2, this.2.2.2⟩, h.2⟩
/-- where an action's objects lie -/
theorem bzTa_b {y : Nat} (h : y ∈ bAi a :: (bAi a + 13) :: bzTa a) (a1 : a ≤ 120) : ¬ bzTb y ∧ y < 256000 ∧ y ≠ 12 ∧ y ≠ 6 ∧ y ≠ 16 ∧ y ≠ 33 ∧ y ≠ 3 ∧ (y % 256 = 0 ∨ y % 256 = 13 ∨ y % 256 = 4 ∨ y % 256 = 22 ∨ y % 256 = 23) := by
  unfold bzTa bAi bNe bKe at h
  simp only [List.mem_cons, List.not_mem_nil, or_false] at h
  refine ⟨fun q => ?_, by omega, by omega, by omega, by omega, by omega, by omega, by omega⟩
  unfold bzTb bzTc at q
  simp only [List.mem_cons, List.not_mem_nil, or_false] at q
  omega
theorem bzTa_ne {y : Nat} (h : y ∈ bAi a :: (bAi a + 13) :: bzTa a) (a0 : 0 ≤ a) (hn : a ≠ x) : ¬ bzPx x y := by
  rintro ⟨x0, k⟩
  unfold bzTa bAi bNe bKe at h k
  simp only [List.mem_cons, List.not_mem_nil, or_false] at h k
  omega
theorem bzPa_n {y : Nat} (h : y < 256 ∨ (y % 256 ≠ 0 ∧ y % 256 ≠ 4 ∧ y % 256 ≠ 22 ∧ y % 256 ≠ 23)) : ¬ bzPa n y := by
  rintro ⟨x, x0, _, k⟩
  unfold bzTa bAi bNe bKe at k
  simp only [List.mem_cons, List.not_mem_nil, or_false] at k
  omega
theorem bzPx_n {y : Nat} (h : y < 256 ∨ (y % 256 ≠ 0 ∧ y % 256 ≠ 4 ∧ y % 256 ≠ 22 ∧ y % 256 ≠ 23)) : ¬ bzPx x y := by
  rintro ⟨x0, k⟩
  unfold bzTa bAi bNe bKe at k
  simp only [List.mem_cons, List.not_mem_nil, or_false] at k
  omega
theorem bzPx_a (x1 : x < (n : Int)) : ∀ y, bzPx x y → bzPa n y := fun y h => ⟨x, h.1, x1, h.2⟩
/-- what does not change -/
theorem bzKf_s (h : bzKf (bzPa n) σ s) : (∀ b ∈ [3, 6, 12, 16, 19, 20, 21, 56, 57, 201, 71, 72, 73, 74, 75, 77, 78, 80, 81, 82, 83, 84, 85, 86, 87, 88, 89, 90, 91, 136], ∀ j, bi s b j = bi σ b j) ∧ ∀ a, br s 33 a = br σ 33 a := by
  refine ⟨fun b hb j => (h.1 b ?_ (bzPa_n (Or.inl ?_))).1 j, fun a => (h.1 33 (fun q => ?_) (bzPa_n (Or.inl (by decide)))).2.2.1 a⟩
  · simp only [List.mem_cons, List.not_mem_nil, or_false] at hb
    intro q
    unfold bzTb bzTc at q
    simp only [List.mem_cons, List.not_mem_nil, or_false] at q
    omega
  · simp only [List.mem_cons, List.not_mem_nil, or_false] at hb
    omega
  · unfold bzTb bzTc at q
    simp only [List.mem_cons, List.not_mem_nil, or_false] at q
    omega
theorem bzDx_D (h : bzDx x Z Y) (hb : b ≠ x) : bzD Y b ↔ bzD Z b := by
  unfold bzD
  rw [(h.2.1 b hb).1 142 (by decide)]
/-- keys of what is tried stand -/
theorem bzDx_K (O : bzOa n Z) (h : bzDx x Z Y) (hx : 0 ≤ x → ¬ bzD Z x) (b0 : 0 ≤ b) (b1 : b < (n : Int)) (hin : bzIn Z b (Z.1 105 b).toNat = true) : (bzK σ Y b = bzK σ Z b ∧ bzV σ Y b = bzV σ Z b ∧ bzX σ Y b = bzX σ Z b ∧ bzF σ Y b = bzF σ Z b) ∧ bzIn Y b (Y.1 105 b).toNat = true := by
  have o := O.2 b b0 b1
  have ne : ∀ i, 0 ≤ i → i < Z.1 105 b → Z.1 106 (40 * b + i) < 48 ∨ (100 ≤ Z.1 106 (40 * b + i) ∧ Z.1 106 (40 * b + i) - 100 ≠ x ∧ bzD Z (Z.1 106 (40 * b + i) - 100)) := fun i i0 i1 => by
    rcases (bzIn_at _).1 hin i i0 (by omega) with q | q
    · exact Or.inl q
    · rcases o.2.2 i i0 i1 with y | y
      · exact Or.inl (by omega)
      · refine Or.inr ⟨y.1, fun e => hx (by omega) (by rw [← e]; exact q), q⟩
  refine ⟨bzK_m (fun c hc => h.1 c (by
    simp only [List.mem_cons, List.not_mem_nil, or_false] at hc ⊢
    omega) _) (fun i i0 i1 => ⟨h.1 106 (by decide) _, ?_⟩), (bzIn_at _).2 fun i i0 i1 => ?_⟩
  · rcases ne i i0 i1 with q | q
    · exact Or.inl (by omega)
    · exact Or.inr ((h.2.1 _ q.2.1).1 112 (by decide))
  · rw [h.1 105 (by decide)] at i1
    rw [h.1 106 (by decide)]
    rcases ne i i0 (by omega) with q | q
    · exact Or.inl q
    · exact Or.inr ((bzDx_D h q.2.1).2 q.2.2)
theorem bzKl_z (hF : bFi σ) (O : bzOa n Z) (b0 : 0 ≤ b) (b1 : b < (n : Int)) : bKl (bzK σ Z b) := by
  have f := bzF_ok (σ := σ) (Z := Z) (a := b) hF
  have l := bCn_b (P := bFin2 (bzF σ Z b)) 48
  refine ⟨?_, ?_, f.1⟩
  · show (bzL σ Z b).length ≤ 40
    rw [bzL_len]
    have := (O.2 b b0 b1).1
    omega
  · show (bzF σ Z b).length ≤ 48
    have := f.2
    omega
/-- the other actions stand -/
theorem bzA_o (hF : bFi σ) (O : bzOa n Z) (h : bzDx x Z Y) (hx : 0 ≤ x → ¬ bzD Z x) (b0 : 0 ≤ b) (b1 : b < (n : Int)) (hb : b ≠ x) (hk : ∀ K, Z.2.2.2 b = some K → bKl K) (F : bzKf (bzPx x) s t) (A : bzAs σ Z s b ∧ bzAd σ Z s b) : bzAs σ Y t b ∧ bzAd σ Y t b := by
  have n120 := O.1
  have fr : ∀ y ∈ bAi b :: (bAi b + 13) :: bzTa b, ∀ j, bi t y j = bi s y j := fun y hy => (F.1 y (bzTa_b hy (by omega)).1 (bzTa_ne hy b0 hb)).1
  have f0 := fr (bAi b) List.mem_cons_self
  have f13 := fr (bAi b + 13) (by simp)
  have fN := fr (bNe b) (by simp [bzTa])
  have fN1 := fr (bNe b + 18) (by simp [bzTa])
  have fN2 := fr (bNe b + 19) (by simp [bzTa])
  have fK := fr (bKe b) (by simp [bzTa])
  have fK1 := fr (bKe b + 18) (by simp [bzTa])
  have fK2 := fr (bKe b + 19) (by simp [bzTa])
  have r33 : ∀ a, br t 33 a = br s 33 a := (F.1 33 (fun q => by
    unfold bzTb bzTc at q
    simp only [List.mem_cons, List.not_mem_nil, or_false] at q
    omega) (bzPx_n (Or.inl (by decide)))).2.2.1
  have e : ∀ c, c ∉ [112, 134, 135, 137, 138, 139, 142, 143, 144, 145, 146, 147, 148, 305, 306, 395] → ∀ j, Y.1 c j = Z.1 c j := h.1
  obtain ⟨ho, hK⟩ := h.2.1 b hb
  obtain ⟨A1, A2⟩ := A
  refine ⟨?_, ?_⟩
  · unfold bzAs bzKd bzDu at A1 ⊢
    rw [r33, f0, f0, f0, f0, f0, f0, f0, fN, fN, fN, e 101 (by decide), e 102 (by decide), e 103 (by decide), e 104 (by decide), e 105 (by decide), e 107 (by decide), e 140 (by decide), e 141 (by decide)]
    exact ⟨A1.1, A1.2.1, fun i i0 i1 => by rw [f13, e 106 (by decide)]; exact A1.2.2.1 i i0 i1, A1.2.2.2⟩
  · have g : bzG Y b ↔ bzG Z b := by unfold bzG; rw [e 140 (by decide), ho 143 (by decide), ho 142 (by decide)]
    obtain ⟨a1, ⟨a2, a3, a4⟩, a5, ⟨a6, a7⟩, a8, a9, a10⟩ := A2
    refine ⟨by rw [f0, f0, f0, ho 142 (by decide), ho 143 (by decide), ho 144 (by decide)]; exact a1, ⟨?_, ?_, ?_⟩, ?_, ⟨?_, fun K q => ?_⟩, fun q => ?_, ?_, by rw [f0]; have := h.2.2; omega⟩
    · rw [f0, a2]; simp only [g, ho 146 (by decide), ho 147 (by decide)]
    · rw [f0, a3]; simp only [g, ho 145 (by decide), ho 147 (by decide)]
    · rw [f0, a4]; simp only [g, ho 146 (by decide), ho 147 (by decide)]
    · rw [f0, ho 142 (by decide), ho 148 (by decide)]; exact a5
    · rw [hK, fK, fK, fK]; exact a6
    · rw [hK] at q
      have l := hk K q
      exact ⟨bzEk_m (a7 K q).1 (fun j _ => fK j) (fun j _ _ => fK1 j) (fun j _ _ => fK2 j) ⟨l.1, l.2.1⟩, by rw [fK]; exact (a7 K q).2⟩
    · rw [f0] at q
      obtain ⟨k1, k2, k3, k4⟩ := a8 q
      obtain ⟨m, m2⟩ := bzDx_K (σ := σ) O h hx b0 b1 k1
      refine ⟨m2, ?_, by rw [fN, m.2.1]; exact k3, by rw [fN, m.2.2.1]; exact k4⟩
      rw [m.1]
      have l := bzKl_z (σ := σ) hF O b0 b1
      exact bzEk_m k2 (fun j _ => fN j) (fun j _ _ => fN1 j) (fun j _ _ => fN2 j) ⟨l.1, l.2.1⟩
    · rw [ho 143 (by decide), f0]; exact a9
end

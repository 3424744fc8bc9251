/-! BUILD, 12: what holds while time passes, when one ends -/
/-- action a ends: done, failed or cancelled -/
def bzFe (σ : bSt) (n : Nat) (a : Int) (Z Y : bZs) : Prop :=
  zU [112, 134, 135, 137, 138, 139, 142, 144, 148, 306, 395] Z Y ∧
  (∀ b, b ≠ a → (Y.1 112 b = Z.1 112 b ∧ Y.1 142 b = Z.1 142 b ∧ Y.1 144 b = Z.1 144 b ∧ Y.1 148 b = Z.1 148 b) ∧ Y.2.2.2 b = Z.2.2.2 b) ∧
  ((0 ≤ Y.1 142 a ∧ Y.1 142 a ≤ 4 ∧ Y.2.2.2 a = some (bzK σ Z a) ∧ Y.1 112 a = bKv (bzK σ Z a) ∧ bzV σ Z a ≠ -1) ∨ ((Y.1 142 a = 5 ∨ Y.1 142 a = 7) ∧ Y.2.2.2 a = Z.2.2.2 a ∧ Y.1 112 a = Z.1 112 a)) ∧
  ((Y.2.1 = Z.2.1 ∨ Y.2.1 = bzPut 24 Z.2.1 (bzK σ Z a) ∧ bzV σ Z a ≠ -1) ∧ (Y.2.2.1 = Z.2.2.1 ∨ Y.2.2.1 = bzPut 40 Z.2.2.1 (bzK σ Z a) ∧ bzV σ Z a ≠ -1)) ∧
  (∀ w, (Y.1 138 w = Z.1 138 w ∨ Y.1 138 w = 0) ∧ (Y.1 137 w = Z.1 137 w ∨ (-1 ≤ Y.1 137 w ∧ Y.1 137 w < 1000))) ∧
  (∀ x, (Y.1 134 x = Z.1 134 x ∨ Y.1 134 x = 1) ∧ (Y.1 135 x = Z.1 135 x ∨ Y.1 135 x = 1)) ∧
  ((∀ x, x ≠ 11 → Y.1 139 x = Z.1 139 x) ∧ Z.1 139 11 ≤ Y.1 139 11 ∧ Y.1 139 11 ≤ Z.1 139 11 + 1) ∧
  (Y.1 306 0 = Z.1 306 0 ∨ Y.1 306 0 = 1) ∧ (Y.1 395 0 = Z.1 395 0 ∨ Y.1 395 0 = a) ∧ (Y.1 148 a = -1 ∨ Y.1 148 a = Z.1 148 a)
section
variable {σ : bSt} {Z Y X : bZs} {a b i v g : Int} {c n m : Nat} {S T : List Nat} {K : bKy} {L : List bKy}
/-- what is done stays done -/
theorem bzFe_D (h : bzFe σ n a Z Y) (hg : bzG Z a) (hb : bzD Z b) : bzD Y b := by
  have ne : b ≠ a := fun e => by
    have := hg.2.2
    rw [e] at hb
    unfold bzD at hb
    omega
  unfold bzD at hb ⊢
  rw [(h.2.1 b ne).1.2.1]
  exact hb
/-- inputs of what has begun are other than what ends now -/
theorem bzFe_in (I : bzI σ n Z) (hg : bzG Z a) (b0 : 0 ≤ b) (b1 : b < (n : Int)) (hb : Z.1 143 b ≠ -1) (i0 : 0 ≤ i) (i1 : i < Z.1 105 b) : Z.1 106 (40 * b + i) < 100 ∨ (Z.1 106 (40 * b + i) - 100 ≠ a ∧ bzD Z (Z.1 106 (40 * b + i) - 100)) := by
  have o := (I.1.2.1.2 b b0 b1).1
  have hi := ((I.2.2.1 b b0 b1).2.2.1 hb).2
  rcases (bzIn_at _).1 hi i i0 (by omega) with q | q
  · exact Or.inl (by omega)
  · refine Or.inr ⟨fun e => ?_, q⟩
    have := hg.2.2
    unfold bzD at q
    rw [e] at q
    omega
/-- what has begun has the same key -/
theorem bzFe_K (h : bzFe σ n a Z Y) (I : bzI σ n Z) (hg : bzG Z a) (b0 : 0 ≤ b) (b1 : b < (n : Int)) (hb : Z.1 143 b ≠ -1) : bzK σ Y b = bzK σ Z b ∧ bzV σ Y b = bzV σ Z b ∧ bzX σ Y b = bzX σ Z b ∧ bzF σ Y b = bzF σ Z b := by
  refine bzK_m (fun c hc => h.1 c (by
    simp only [List.mem_cons, List.not_mem_nil, or_false] at hc ⊢
    omega) _) (fun i i0 i1 => ⟨h.1 106 (by decide) _, ?_⟩)
  rcases bzFe_in I hg b0 b1 hb i0 i1 with q | q
  · exact Or.inl q
  · exact Or.inr (h.2.1 _ q.1).1.1
theorem bzO_m (h : bzO σ n Z) (u : zU S Z Y) (hS : ∀ c ∈ [101, 102, 103, 104, 105, 106, 107, 140, 141], c ∉ S) (ho : bzOo n Y) : bzO σ n Y := by
  have e := fun c hc j => u c (hS c hc) j
  obtain ⟨h1, ⟨n1, h2⟩, h3, _⟩ := h
  refine ⟨h1, ⟨n1, fun a a0 a1 => ?_⟩, fun a a0 a1 => ?_, ho⟩
  · simp only [e 101 (by decide), e 102 (by decide), e 103 (by decide), e 104 (by decide), e 105 (by decide), e 106 (by decide)]
    exact h2 a a0 a1
  · unfold bzKd bzDu
    simp only [e 101 (by decide), e 104 (by decide), e 105 (by decide), e 106 (by decide), e 107 (by decide), e 140 (by decide), e 141 (by decide)]
    exact h3 a a0 a1
theorem bzI_fe (I : bzI σ n Z) (hg : bzG Z a) (a0 : 0 ≤ a) (a1 : a < (n : Int)) (h : bzFe σ n a Z Y) : bzI σ n Y := by
  obtain ⟨u, ho, hc, hch, hw, hx, ht, h6, h9, h8⟩ := id h
  have I0 := I
  obtain ⟨O, Ik, J1, J2, ⟨C1, C2⟩, J4⟩ := I
  have e := fun c (hc : c ∉ [112, 134, 135, 137, 138, 139, 142, 144, 148, 306, 395]) j => u c hc j
  have bg := hg.2.1
  have Kg : bzV σ Z a ≠ -1 → bKg (bzK σ Z a) := fun q => bzK_g O a0 a1 hg.1 q
  have Ka := bzFe_K h I0 hg a0 a1 bg
  have oo : bzOo n Y := fun b b0 b1 => by
    by_cases q : b = a
    · rw [q]
      rcases hc with ⟨_, _, _, r, s⟩ | ⟨_, _, r⟩
      · rw [r]
        have := (Kg s).2.2.2.2.2.2.2.2
        exact this
      · rw [r]; exact O.2.2.2 a a0 a1
    · rw [(ho b q).1.1]; exact O.2.2.2 b b0 b1
  have nb : bzNb n Y = bzNb n Z := bzNb_m fun b _ _ => e 143 (by decide) b
  have ne : bzNe n Y = bzNe n Z + 1 := bzNe_1 a0 a1 (fun b q => (ho b q).1.2.1) hg.2.2 (by rcases hc with ⟨q, _⟩ | ⟨q, _⟩ <;> omega)
  have ng : ∀ b, bzG Y b → bzG Z b ∧ b ≠ a := fun b q => by
    have q2 := q.2.2
    have na : b ≠ a := fun y => by
      rw [y] at q2
      rcases hc with ⟨r, _⟩ | ⟨r, _⟩ <;> omega
    refine ⟨⟨by rw [← e 140 (by decide) b]; exact q.1, by rw [← e 143 (by decide) b]; exact q.2.1, by rw [← (ho b na).1.2.1]; exact q.2.2⟩, na⟩
  refine ⟨bzO_m O u (by decide) oo, fun b b0 b1 K hK => ?_, fun b b0 b1 => ?_, fun b b0 b1 => ?_, ⟨?_, ?_⟩, ?_⟩
  · rw [e 101 (by decide), e 102 (by decide), e 103 (by decide), e 105 (by decide)]
    by_cases q : b = a
    · rw [q] at hK ⊢
      rcases hc with ⟨_, _, r1, r2, r3⟩ | ⟨_, r1, r2⟩
      · rw [r1] at hK
        have eK := Option.some.inj hK
        rw [← eK]
        exact ⟨Kg r3, ⟨rfl, rfl, rfl⟩, bzL_len, r2⟩
      · rw [r1] at hK
        rw [r2]
        exact Ik a a0 a1 K hK
    · rw [(ho b q).2] at hK
      rw [(ho b q).1.1]
      exact Ik b b0 b1 K hK
  · obtain ⟨j1, j2, j3, j4⟩ := J1 b b0 b1
    rw [e 143 (by decide), e 140 (by decide), e 105 (by decide)]
    refine ⟨?_, ?_, fun q => ⟨(j3 q).1, ?_⟩, fun q => ?_⟩
    · by_cases q : b = a
      · rw [q]; rcases hc with ⟨r, _⟩ | ⟨r, _⟩ <;> omega
      · rw [(ho b q).1.2.1]; exact j1
    · by_cases q : b = a
      · rw [q]; exact fun _ => bg
      · rw [(ho b q).1.2.1]; exact j2
    · refine (bzIn_at _).2 fun i i0 i1 => ?_
      rw [e 106 (by decide)]
      rcases (bzIn_at _).1 (j3 q).2 i i0 i1 with r | r
      · exact Or.inl r
      · exact Or.inr (bzFe_D h hg r)
    · by_cases y : b = a
      · rw [y] at q ⊢
        rcases hc with ⟨_, _, r, _⟩ | ⟨r, _⟩
        · rw [r, Ka.1]
        · unfold bzD at q; omega
      · have qZ : bzD Z b := by
          unfold bzD at q ⊢
          rw [(ho b y).1.2.1] at q
          exact q
        have bgb : Z.1 143 b ≠ -1 := j2 (by unfold bzD at qZ; omega)
        rw [(ho b y).2, (bzFe_K h I0 hg b0 b1 bgb).1]
        exact j4 qZ
  · obtain ⟨j1, j2, j3, j4, j5, j6, j7, j8, j9⟩ := J2 b b0 b1
    rw [nb, e 143 (by decide), e 145 (by decide), e 146 (by decide), e 147 (by decide)]
    have w148 : Y.1 148 b = Z.1 148 b ∨ (b = a ∧ Y.1 148 b = -1) := by
      by_cases q : b = a
      · rw [q]
        rcases h8 with r | r
        · exact Or.inr ⟨rfl, r⟩
        · exact Or.inl r
      · exact Or.inl (ho b q).1.2.2.2
    refine ⟨j1, by rcases w148 with r | r <;> omega, fun q => ?_, fun q => ⟨(j4 q).1, ?_, fun y => ?_⟩, fun y => ?_, j6, j7, fun y => j8 (ng b y).1, j9⟩
    · have := j3 q
      rcases w148 with r | r <;> omega
    · have := (j4 q).2.1
      rcases w148 with r | r <;> omega
    · rw [(bzFe_K h I0 hg b0 b1 (ng b y).1.2.1).2.1]
      exact (j4 q).2.2 (ng b y).1
    · rw [(ho b (ng b y).2).1.2.2.2]
      exact j5 (ng b y).1
  · rcases hch.1 with r | ⟨r, s⟩
    · rw [r]; exact C1
    · rw [r]; exact bzPut_c C1 (by decide) (Kg s)
  · rcases hch.2 with r | ⟨r, s⟩
    · rw [r]; exact C2
    · rw [r]; exact bzPut_c C2 (by decide) (Kg s)
  · obtain ⟨j1, j2, j3, j4, j5, j6, j7, j8, j9⟩ := J4
    unfold bzJ4
    rw [nb, ne, e 305 (by decide), ht.1 9 (by decide), ht.1 10 (by decide)]
    refine ⟨j1, by rcases h6 with r | r <;> omega, by rcases h9 with r | r <;> omega, fun w w0 w1 => ?_, fun x x0 x1 => ?_, j6, by omega, by omega, fun x x1 x2 x3 => by rw [ht.1 x x3]; exact j9 x x1 x2 x3⟩
    · obtain ⟨p1, p2⟩ := hw w
      obtain ⟨q1, q2⟩ := j4 w w0 w1
      exact ⟨by rcases p2 with r | r <;> omega, by rcases p1 with r | r <;> omega⟩
    · obtain ⟨p1, p2⟩ := hx x
      obtain ⟨q1, q2⟩ := j5 x x0 x1
      exact ⟨by rcases p1 with r | r <;> omega, by rcases p2 with r | r <;> omega⟩
end

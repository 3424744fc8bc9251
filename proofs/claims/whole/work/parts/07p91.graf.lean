/-! THE GRAPH OF TARGETS: what is an item of what, what is below and above, how far -/
def bEdk (σ : bSt) (o : Int) (m : Int) (i : Int) : Prop := ∃ k, 0 ≤ k ∧ k < m ∧ bi σ 86 (6 * o + k) = 2 ∧ bi σ 87 (6 * o + k) = i
def bEd (σ : bSt) (o i : Int) : Prop := bEdk σ o (bi σ 85 o) i
theorem bEdk_0 {σ : bSt} {o i : Int} : ¬ bEdk σ o 0 i := fun ⟨k, h0, h1, _⟩ => by omega
theorem bEdk_s {σ : bSt} {o m i : Int} (hm : 0 ≤ m) : bEdk σ o (m + 1) i ↔ bEdk σ o m i ∨ (bi σ 86 (6 * o + m) = 2 ∧ i = bi σ 87 (6 * o + m)) :=
  ⟨fun ⟨k, h0, h1, h2, h3⟩ => by
    by_cases w : k = m
    · rw [w] at h2 h3; exact Or.inr ⟨h2, h3.symm⟩
    · exact Or.inl ⟨k, h0, by omega, h2, h3⟩, fun h => h.elim (fun ⟨k, h0, h1, h2, h3⟩ => ⟨k, h0, by omega, h2, h3⟩) (fun ⟨h2, h3⟩ => ⟨m, hm, by omega, h2, h3.symm⟩)⟩
theorem bEd_lt {σ : bSt} {o i : Int} (h : bTg σ) (q : bTgk σ o) (e : bEd σ o i) : 0 ≤ i ∧ i < o := by
  obtain ⟨k, h0, h1, h2, h3⟩ := e
  have := (h.2.2.2 o q.1 q.2).2.2.2.2.2.2.2.2.2.2.2.2.2.2 k h0 h1
  unfold bItm at this
  omega
theorem bEdk_m {σ s : bSt} (e : ∀ a ∈ [86, 87], ∀ j, bi s a j = bi σ a j) {o m i : Int} : bEdk s o m i ↔ bEdk σ o m i := by
  unfold bEdk
  simp only [e 86 (by decide), e 87 (by decide)]
theorem bEd_m {σ s : bSt} (e : ∀ a ∈ [85, 86, 87], ∀ j, bi s a j = bi σ a j) {o i : Int} : bEd s o i ↔ bEd σ o i := by
  unfold bEd
  rw [e 85 (by decide)]
  exact bEdk_m fun a ha => e a (by simp at ha ⊢; omega)
/-- the least of what leads on, and one more -/
def bMn (E : Int → Prop) (D : Int → Int) (v : Int) : Prop := (v = -1 ∧ ∀ j, E j → D j = -1) ∨ ∃ j, E j ∧ D j ≠ -1 ∧ v = D j + 1 ∧ ∀ i, E i → D i ≠ -1 → D j ≤ D i
theorem bMn_c {E E' : Int → Prop} {D : Int → Int} {v : Int} (h : bMn E D v) (e : ∀ j, E' j ↔ E j) : bMn E' D v := by
  rcases h with ⟨a, b⟩ | ⟨j, a, b, c, d⟩
  · exact Or.inl ⟨a, fun j q => b j ((e j).mp q)⟩
  · exact Or.inr ⟨j, (e j).mpr a, b, c, fun i q => d i ((e i).mp q)⟩
theorem bMn_d {E : Int → Prop} {D D' : Int → Int} {v : Int} (h : bMn E D v) (e : ∀ j, E j → D' j = D j) : bMn E D' v := by
  rcases h with ⟨a, b⟩ | ⟨j, a, b, c, d⟩
  · exact Or.inl ⟨a, fun j q => (e j q).trans (b j q)⟩
  · exact Or.inr ⟨j, a, by rw [e j a]; exact b, by rw [e j a]; exact c, fun i q => by rw [e j a, e i q]; exact d i q⟩
theorem bMn_z {E : Int → Prop} {D : Int → Int} (h : ∀ j, ¬ E j) : bMn E D (-1) := Or.inl ⟨rfl, fun j q => absurd q (h j)⟩
/-- one more is looked at -/
theorem bMn_s {E E' : Int → Prop} {D : Int → Int} {v w : Int} (h : bMn E D v) (e : ∀ j, E' j ↔ E j ∨ j = w) (h0 : ∀ j, E' j → -1 ≤ D j) : bMn E' D (if D w = -1 then v else if v = -1 then D w + 1 else if D w + 1 < v then D w + 1 else v) := by
  have hw := h0 w ((e w).mpr (Or.inr rfl))
  refine bMn_c (E := fun j => E j ∨ j = w) ?_ e
  rcases h with ⟨a, b⟩ | ⟨j, a, b, c, d⟩
  · by_cases q : D w = -1
    · rw [if_pos q]; exact Or.inl ⟨a, fun j z => z.elim (b j) (fun z => by rw [z]; exact q)⟩
    · rw [if_neg q, if_pos a]
      exact Or.inr ⟨w, Or.inr rfl, q, rfl, fun i z z2 => z.elim (fun z => absurd (b i z) z2) (fun z => by rw [z]; exact Int.le_refl _)⟩
  · have hj := h0 j ((e j).mpr (Or.inl a))
    by_cases q : D w = -1
    · rw [if_pos q]; exact Or.inr ⟨j, Or.inl a, b, c, fun i z z2 => z.elim (fun z => d i z z2) (fun z => absurd (by rw [z]; exact q) z2)⟩
    · rw [if_neg q, if_neg (by omega)]
      by_cases q2 : D w + 1 < v
      · rw [if_pos q2]
        exact Or.inr ⟨w, Or.inr rfl, q, rfl, fun i z z2 => z.elim (fun z => by have := d i z z2; omega) (fun z => by rw [z]; exact Int.le_refl _)⟩
      · rw [if_neg q2]
        exact Or.inr ⟨j, Or.inl a, b, c, fun i z z2 => z.elim (fun z => d i z z2) (fun z => by rw [z]; omega)⟩
theorem bMn_u {E : Int → Prop} {D : Int → Int} {v w : Int} (h : bMn E D v) (k : bMn E D w) : v = w := by
  rcases h with ⟨a, b⟩ | ⟨j, a, b, c, d⟩ <;> rcases k with ⟨a', b'⟩ | ⟨j', a', b', c', d'⟩
  · rw [a, a']
  · exact absurd (b j' a') b'
  · exact absurd (b' j a) b
  · have := d j' a' b'; have := d' j a b; omega
/-- how far the targets before n are from x -/
def bDs (σ : bSt) (x n : Int) (D : Int → Int) : Prop := ∀ t, 0 ≤ t → t < n → (-1 ≤ D t ∧ D t ≤ t) ∧ (t = x → D t = 0) ∧ (t ≠ x → bMn (bEd σ t) D (D t))
theorem bDs_u {σ : bSt} {x n : Int} {D D' : Int → Int} (hT : bTg σ) (hn : n ≤ bi σ 12 22) (h : bDs σ x n D) (k : bDs σ x n D') : ∀ t, 0 ≤ t → t < n → D t = D' t := by
  have K : ∀ (m : Nat) (t : Int), 0 ≤ t → t < m → t < n → D t = D' t := by
    intro m
    induction m with
    | zero => intro t t0 t1; omega
    | succ m ih =>
      intro t t0 t1 t2
      by_cases w : t = x
      · rw [(h t t0 t2).2.1 w, (k t t0 t2).2.1 w]
      · refine bMn_u (bMn_d ((h t t0 t2).2.2 w) fun j q => ?_) ((k t t0 t2).2.2 w)
        have := bEd_lt hT ⟨t0, by omega⟩ q
        exact (ih j (by omega) (by omega) (by omega)).symm
  exact fun t t0 t1 => K (t.toNat + 1) t t0 (by omega) t1
theorem bDs_m {σ s : bSt} {x n : Int} {D : Int → Int} (e : ∀ a ∈ [85, 86, 87], ∀ j, bi s a j = bi σ a j) (h : bDs σ x n D) : bDs s x n D := fun t t0 t1 =>
  ⟨(h t t0 t1).1, (h t t0 t1).2.1, fun w => bMn_c ((h t t0 t1).2.2 w) fun j => bEd_m e⟩
/-- what is above x, of the targets before n -/
def bUpn (σ : bSt) (x n : Int) (P : Int → Prop) : Prop := (∀ t, 0 ≤ t → t < n → (P t ↔ t = x ∨ ∃ j, bEd σ t j ∧ P j)) ∧ ∀ t, n ≤ t → ¬ P t
theorem bUpn_u {σ : bSt} {x n : Int} {P P' : Int → Prop} (hT : bTg σ) (hn : n ≤ bi σ 12 22) (h : bUpn σ x n P) (k : bUpn σ x n P') : ∀ t, 0 ≤ t → (P t ↔ P' t) := by
  have K : ∀ (m : Nat) (t : Int), 0 ≤ t → t < m → (P t ↔ P' t) := by
    intro m
    induction m with
    | zero => intro t t0 t1; omega
    | succ m ih =>
      intro t t0 t1
      by_cases t2 : t < n
      · rw [h.1 t t0 t2, k.1 t t0 t2]
        refine or_congr Iff.rfl ⟨fun ⟨j, q, z⟩ => ⟨j, q, ?_⟩, fun ⟨j, q, z⟩ => ⟨j, q, ?_⟩⟩ <;> have := bEd_lt hT ⟨t0, by omega⟩ q
        · exact (ih j (by omega) (by omega)).mp z
        · exact (ih j (by omega) (by omega)).mpr z
      · exact ⟨fun q => absurd q (h.2 t (by omega)), fun q => absurd q (k.2 t (by omega))⟩
  exact fun t t0 => K (t.toNat + 1) t t0 (by omega)
theorem bUp_D {σ : bSt} {x n : Int} {D : Int → Int} (hT : bTg σ) (hn : n ≤ bi σ 12 22) (h : bDs σ x n D) : bUpn σ x n (fun t => (0 ≤ t ∧ t < n) ∧ D t ≠ -1) := by
  refine ⟨fun t t0 t1 => ?_, fun t t1 q => by have := q.1.2; omega⟩
  obtain ⟨h1, h2, h3⟩ := h t t0 t1
  constructor
  · intro q
    by_cases w : t = x
    · exact Or.inl w
    · rcases h3 w with ⟨a, _⟩ | ⟨j, a, b, _, _⟩
      · exact absurd a q.2
      · have := bEd_lt hT ⟨t0, by omega⟩ a
        exact Or.inr ⟨j, a, ⟨by omega, by omega⟩, b⟩
  · intro q
    refine ⟨⟨t0, t1⟩, ?_⟩
    by_cases w : t = x
    · rw [h2 w]; decide
    · rcases q with q | ⟨j, a, _, b⟩
      · exact absurd q w
      · rcases h3 w with ⟨_, b'⟩ | ⟨i, a', b', c', _⟩
        · exact absurd (b' j a) b
        · have := (bEd_lt hT ⟨t0, by omega⟩ a')
          have := (h i (by omega) (by omega)).1
          omega
/-- what is below x, as it is found downwards -/
def bBe (σ : bSt) (x : Int) : Nat → Int → Prop
  | 0, i => i = x
  | n + 1, i => bBe σ x n i ∨ (bBe σ x n (x - n) ∧ bEd σ (x - n) i)
theorem bUpn_0 {σ : bSt} {x : Int} (hT : bTg σ) (q : bTgk σ x) : bUpn σ x (x + 1) (fun t => t = x) :=
  ⟨fun t t0 t1 => ⟨Or.inl, fun z => z.elim id fun ⟨j, a, b⟩ => by have := bEd_lt hT ⟨t0, by have := q.2; omega⟩ a; omega⟩, fun t t1 z => by omega⟩
theorem bUpn_s {σ : bSt} {x n : Int} {P : Int → Prop} (hT : bTg σ) (h0 : 0 ≤ n) (hn : n < bi σ 12 22) (hx : x < n) (h : bUpn σ x n P) : bUpn σ x (n + 1) (fun t => P t ∨ (t = n ∧ ∃ j, bEd σ n j ∧ P j)) := by
  have K : ∀ t j, 0 ≤ t → t < n + 1 → bEd σ t j → ((P j ∨ (j = n ∧ ∃ j, bEd σ n j ∧ P j)) ↔ P j) := fun t j t0 t1 e => by
    have := bEd_lt hT ⟨t0, by omega⟩ e
    exact ⟨fun z => z.elim id (fun z => by omega), Or.inl⟩
  refine ⟨fun t t0 t1 => ?_, fun t t1 z => z.elim (h.2 t (by omega)) (fun z => by omega)⟩
  have e : (∃ j, bEd σ t j ∧ (P j ∨ (j = n ∧ ∃ j, bEd σ n j ∧ P j))) ↔ ∃ j, bEd σ t j ∧ P j := ⟨fun ⟨j, a, b⟩ => ⟨j, a, (K t j t0 t1 a).mp b⟩, fun ⟨j, a, b⟩ => ⟨j, a, Or.inl b⟩⟩
  show _ ↔ t = x ∨ ∃ j, bEd σ t j ∧ (P j ∨ (j = n ∧ ∃ j, bEd σ n j ∧ P j))
  rw [e]
  by_cases w : t = n
  · subst w
    have := h.2 t (Int.le_refl _)
    constructor
    · exact fun z => z.elim (fun z => absurd z this) (fun z => Or.inr z.2)
    · exact fun z => z.elim (fun z => by omega) (fun z => Or.inr ⟨rfl, z⟩)
  · rw [← h.1 t t0 (by omega)]
    exact ⟨fun z => z.elim id (fun z => absurd z.1 w), Or.inl⟩
theorem bDs_0 {σ : bSt} {x : Int} {D : Int → Int} (hT : bTg σ) (q : bTgk σ x) (h : ∀ t, 0 ≤ t → t < x → D t = -1) (hx : D x = 0) : bDs σ x (x + 1) D := fun t t0 t1 => by
  by_cases w : t = x
  · rw [w, hx]; exact ⟨⟨by decide, q.1⟩, fun _ => rfl, fun z => absurd rfl z⟩
  · have hh := h t t0 (by omega)
    rw [hh]
    refine ⟨⟨by decide, by omega⟩, fun z => absurd z w, fun _ => Or.inl ⟨rfl, fun j a => ?_⟩⟩
    have := bEd_lt hT ⟨t0, by have := q.2; omega⟩ a
    exact h j (by omega) (by omega)
theorem bDs_s {σ : bSt} {x n : Int} {D D' : Int → Int} (hT : bTg σ) (h0 : 0 ≤ n) (hn : n < bi σ 12 22) (h : bDs σ x n D) (e : ∀ t, 0 ≤ t → t < n → D' t = D t) (hx : n = x → D' n = 0) (k : n ≠ x → bMn (bEd σ n) D (D' n)) : bDs σ x (n + 1) D' := fun t t0 t1 => by
  by_cases w : t = n
  · subst w
    refine ⟨?_, hx, fun z => bMn_d (k z) fun j a => ?_⟩
    · by_cases z : t = x
      · rw [hx z]; exact ⟨by decide, t0⟩
      · rcases k z with ⟨a, _⟩ | ⟨j, a, b, c, _⟩
        · rw [a]; exact ⟨by decide, by omega⟩
        · have := bEd_lt hT ⟨t0, hn⟩ a
          have := (h j (by omega) (by omega)).1
          omega
    · have := bEd_lt hT ⟨t0, hn⟩ a
      exact e j (by omega) (by omega)
  · obtain ⟨h1, h2, h3⟩ := h t t0 (by omega)
    rw [e t t0 (by omega)]
    refine ⟨h1, h2, fun z => bMn_d (h3 z) fun j a => ?_⟩
    have := bEd_lt hT ⟨t0, by omega⟩ a
    exact e j (by omega) (by omega)
theorem bBe_mono {σ : bSt} {x i : Int} : ∀ {n m : Nat}, n ≤ m → bBe σ x n i → bBe σ x m i := fun {n m} h k => by
  induction h with
  | refl => exact k
  | step _ ih => exact Or.inl ih
theorem bBe_b {σ : bSt} {x : Int} (hT : bTg σ) (q : bTgk σ x) : ∀ (n : Nat) {i : Int}, (n : Int) ≤ x + 1 → bBe σ x n i → (0 ≤ i ∧ i ≤ x) ∧ bBe σ x (x - i).toNat i := by
  intro n
  induction n with
  | zero =>
    intro i _ h
    have h : i = x := h
    rw [h]
    exact ⟨⟨q.1, Int.le_refl _⟩, bBe_mono (Nat.zero_le _) (rfl : bBe σ x 0 x)⟩
  | succ n ih =>
    intro i hn h
    rcases h with h | ⟨h, e⟩
    · exact ih (by omega) h
    · have := bEd_lt hT ⟨by omega, by have := q.2; omega⟩ e
      exact ⟨by omega, bBe_mono (n := n + 1) (by omega) (Or.inr ⟨h, e⟩)⟩
/-- below and above are one relation -/
theorem bBe_up {σ : bSt} {x y : Int} {P : Int → Prop} (hT : bTg σ) (q : bTgk σ x) (q2 : bTgk σ y) (h : bUpn σ y (bi σ 12 22) P) : bBe σ x (x.toNat + 1) y ↔ P x := by
  have q1 := q.2
  have q0 := q.1
  constructor
  · have K : ∀ (n : Nat) (i : Int), (n : Int) ≤ x + 1 → bBe σ x n i → P i → P x := by
      intro n
      induction n with
      | zero => intro i _ b p; have b : i = x := b; rwa [b] at p
      | succ n ih =>
        intro i hn b p
        rcases b with b | ⟨b, e⟩
        · exact ih i (by omega) b p
        · exact ih _ (by omega) b ((h.1 _ (by omega) (by omega)).mpr (Or.inr ⟨i, e, p⟩))
    exact fun b => K _ y (by omega) b ((h.1 y q2.1 q2.2).mpr (Or.inl rfl))
  · have K : ∀ (n : Nat) (t : Int), t < n → 0 ≤ t → bBe σ x (x.toNat + 1) t → P t → bBe σ x (x.toNat + 1) y := by
      intro n
      induction n with
      | zero => intro t t1 t0; omega
      | succ n ih =>
        intro t t1 t0 b p
        have hb := bBe_b hT q _ (by omega) b
        rcases (h.1 t t0 (by omega)).mp p with w | ⟨j, e, p2⟩
        · rwa [w] at b
        · have hj := bEd_lt hT ⟨t0, by omega⟩ e
          refine ih j (by omega) (by omega) (bBe_mono (n := (x - t).toNat + 1) (by omega) (Or.inr ?_)) p2
          rw [show x - ((x - t).toNat : Int) = t by omega]
          exact ⟨hb.2, e⟩
    exact K (x.toNat + 1) x (by omega) q0 (bBe_mono (Nat.zero_le _) (rfl : bBe σ x 0 x))

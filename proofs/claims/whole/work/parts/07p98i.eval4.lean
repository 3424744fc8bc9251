/-! RULES' EVALUATION, 4: what holds at each step; a file is entered, a file is done -/
def bSix (F : Int → Int) : Int := F 0 + F 1 + F 2 + F 3 + F 4 + F 5
theorem bSix_c {f : Int} (h0 : 0 ≤ f) (h1 : f < 6) : f = 0 ∨ f = 1 ∨ f = 2 ∨ f = 3 ∨ f = 4 ∨ f = 5 := by omega
theorem bSix_u {F G : Int → Int} {f : Int} (h0 : 0 ≤ f) (h1 : f < 6) (h : ∀ j, 0 ≤ j → j < 6 → j ≠ f → G j = F j) : bSix G = bSix F - F f + G f := by
  have e : ∀ j, 0 ≤ j → j < 6 → G j = F j ∨ j = f := fun j j0 j1 => by
    by_cases w : j = f
    · exact Or.inr w
    · exact Or.inl (h j j0 j1 w)
  unfold bSix
  rcases bSix_c h0 h1 with rfl | rfl | rfl | rfl | rfl | rfl
  · rw [h 1 (by decide) (by decide) (by decide), h 2 (by decide) (by decide) (by decide), h 3 (by decide) (by decide) (by decide), h 4 (by decide) (by decide) (by decide), h 5 (by decide) (by decide) (by decide)]; omega
  · rw [h 0 (by decide) (by decide) (by decide), h 2 (by decide) (by decide) (by decide), h 3 (by decide) (by decide) (by decide), h 4 (by decide) (by decide) (by decide), h 5 (by decide) (by decide) (by decide)]; omega
  · rw [h 0 (by decide) (by decide) (by decide), h 1 (by decide) (by decide) (by decide), h 3 (by decide) (by decide) (by decide), h 4 (by decide) (by decide) (by decide), h 5 (by decide) (by decide) (by decide)]; omega
  · rw [h 0 (by decide) (by decide) (by decide), h 1 (by decide) (by decide) (by decide), h 2 (by decide) (by decide) (by decide), h 4 (by decide) (by decide) (by decide), h 5 (by decide) (by decide) (by decide)]; omega
  · rw [h 0 (by decide) (by decide) (by decide), h 1 (by decide) (by decide) (by decide), h 2 (by decide) (by decide) (by decide), h 3 (by decide) (by decide) (by decide), h 5 (by decide) (by decide) (by decide)]; omega
  · rw [h 0 (by decide) (by decide) (by decide), h 1 (by decide) (by decide) (by decide), h 2 (by decide) (by decide) (by decide), h 3 (by decide) (by decide) (by decide), h 4 (by decide) (by decide) (by decide)]; omega
theorem bSix_le {F : Int → Int} {c f : Int} (h0 : 0 ≤ f) (h1 : f < 6) (h : ∀ j, 0 ≤ j → j < 6 → F j ≤ c) : bSix F ≤ 5 * c + F f := by
  have a0 := h 0 (by decide) (by decide)
  have a1 := h 1 (by decide) (by decide)
  have a2 := h 2 (by decide) (by decide)
  have a3 := h 3 (by decide) (by decide)
  have a4 := h 4 (by decide) (by decide)
  have a5 := h 5 (by decide) (by decide)
  unfold bSix
  rcases bSix_c h0 h1 with rfl | rfl | rfl | rfl | rfl | rfl <;> omega
def bEvD (s : bSt) (x : Int) : Int := if bi s 40 x = 1 then 1 else 0
def bEvL (s : bSt) (x : Int) : Int := if bi s 41 x < bi s 34 x then bi s 41 x else bi s 34 x
/-- marks, places, stack, lists are in order -/
def bEvI (s : bSt) : Prop := bEvS s ∧ bEvOk s ∧ (∀ x, 0 ≤ x → x < 6 → (0 ≤ bi s 41 x ∧ bi s 41 x ≤ 13) ∧ 0 ≤ bi s 40 x ∧ bi s 40 x ≤ 2) ∧ bi s 7 13 = bSix (bEvD s) ∧
  (∀ i, 0 ≤ i → i < bi s 7 13 → (0 ≤ bi s 42 i ∧ bi s 42 i < 6) ∧ bi s 40 (bi s 42 i) = 1 ∧ ∀ j, 0 ≤ j → j < i → bi s 42 j ≠ bi s 42 i) ∧ bi s 7 12 ≤ bSix (bEvL s)
theorem bEvD_b {s : bSt} {x : Int} : 0 ≤ bEvD s x ∧ bEvD s x ≤ 1 := by
  unfold bEvD
  by_cases w : bi s 40 x = 1
  · rw [if_pos w]; decide
  · rw [if_neg w]; decide
/-- there is room for one more file on the stack, for one more list -/
theorem bEvI_he {s : bSt} {o : Int} (h : bEvI s) (o0 : 0 ≤ o) (o1 : o < 6) (hm : bi s 40 o ≠ 1) : 0 ≤ bi s 7 13 ∧ bi s 7 13 < 6 := by
  have e := bSix_le (F := bEvD s) o0 o1 (fun j _ _ => bEvD_b.2)
  have e2 : bEvD s o = 0 := if_neg hm
  have p := fun j => (bEvD_b (s := s) (x := j)).1
  have p0 := p 0; have p1 := p 1; have p2 := p 2; have p3 := p 3; have p4 := p 4; have p5 := p 5
  have k := h.2.2.2.1
  refine ⟨?_, by omega⟩
  unfold bSix at k
  omega
theorem bEvI_hl {s : bSt} {f : Int} (h : bEvI s) (f0 : 0 ≤ f) (f1 : f < 6) (hp : bi s 41 f < bi s 34 f) : bi s 7 12 < 72 := by
  have e := bSix_le (F := bEvL s) (c := 12) f0 f1 (fun j j0 j1 => by
    have := (h.1 j j0 j1).1
    unfold bEvL
    by_cases w : bi s 41 j < bi s 34 j
    · rw [if_pos w]; omega
    · rw [if_neg w]; omega)
  have e2 : bEvL s f = bi s 41 f := if_pos hp
  have := (h.1 f f0 f1).1
  have := h.2.2.2.2.2
  omega

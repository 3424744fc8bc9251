/-! THE GRAPH OF TARGETS, 4: what is above, all ways -/
theorem bMs_i0 {P : Int → Prop} {x i : Int} (h : bMs P x) (i0 : 0 ≤ i) (i1 : i < 16) : bAnd (bShr x i) 1 = 0 ↔ ¬ P i := by
  have hx := h.1
  have hr : 0 ≤ bShr x i ∧ bShr x i < 2147483648 := by
    rw [bShr_nat hx.1 (by omega) i0 (by omega)]
    have : x.toNat >>> i.toNat ≤ x.toNat := Nat.shiftRight_le _ _
    generalize x.toNat >>> i.toNat = q at this ⊢
    omega
  rw [← bMs_i h i0 i1, bAnd_1 hr.1 hr.2]
  omega
def bUpx (σ : bSt) (x m : Int) : Prop := ∃ P, bMs P m ∧ bUpn σ x (bi σ 12 22) P
def bWys (σ : bSt) (x y m : Int) : Prop := ∃ P, bUpn σ y (bi σ 12 22) P ∧ ((¬ P x ∧ m = 0) ∨ (P x ∧ bMs (fun i => P i ∧ bBe σ x (x.toNat + 1) i) m))
section
variable {d : Nat} {σ s t : bSt} {f : Int → bSt → Prop} {fv : bSt → Prop} {x y k c : Int} {m : Nat} {G : bSt → Prop} {H : bHp} {L n : Nat}
theorem bBe_m (e : ∀ a ∈ [85, 86, 87], ∀ j, bi s a j = bi σ a j) {i : Int} : ∀ {n : Nat}, bBe s x n i ↔ bBe σ x n i := fun {n} => by
  induction n generalizing i with
  | zero => exact Iff.rfl
  | succ n ih => exact or_congr ih (and_congr ih (bEd_m e))
theorem bO1_e (o : bO1 153 (bw σ 12 0 0) s) : ∀ a, a ≠ 153 → a ≠ 12 → ∀ j, bi s a j = bi σ a j := fun a h1 h2 j => by rw [o.2 a j h1, bi_ne h2]
theorem w313 (hT : bTg σ) (hx : bRg x) (h1 : ¬ bTgk σ x → f 0 (bw σ 12 0 1)) (h0 : bTgk σ x → ∀ s m, bO1 153 (bw σ 12 0 0) s → bRg m → bUpx σ x m → f m s) : bWp (d + 3) 313 [.ref 12, .int (bn x)] σ (bRn f) := by
  obtain ⟨e9, e16, e0⟩ := bTk_r hT
  have h16 : 0 ≤ bi σ 12 22 ∧ bi σ 12 22 ≤ 16 := ⟨e0, e16⟩
  have u : bUn [] [0] σ (bw σ 12 0 0) := bUn_f bUn_refl (by decide) (by decide)
  have hT' := bTg_un u (by decide) (by decide) hT
  have e22 : bi (bw σ 12 0 0) 12 22 = bi σ 12 22 := u.2.1 22 (by decide) (by decide)
  refine ⟨rfl, fun A hA => sq313_0 (bWp_mono _) hA hx (w225 h16 hx (fun q => bFf (by decide) (rY (w309 hT' (by unfold bTgk; rw [e22]; exact q) fun s o hD => ?_))) (fun q => bTt rfl (rN (by decide) (by decide) (bRn_i (by decide) (h1 q)))))⟩
  rw [e22] at hD
  have hD2 : bDs σ x (bi σ 12 22) (bi s 153) := bDs_m (fun a ha j => by simp at ha; rw [bi_ne (by omega)]) hD
  have es : bi s 12 22 = bi σ 12 22 := by rw [o.2 12 22 (by decide), e22]
  have K : ∀ (n : Nat) (l m : Int) (v : Value), l + n = bi σ 12 22 → 0 ≤ l → bMs (fun i => (0 ≤ i ∧ i < l) ∧ bi s 153 i ≠ -1) m → A (19, [.ref 12, v, .int (bn m), .int (bn l)], [], s) := by
    intro n
    induction n with
    | zero =>
      intro l m v hl l0 hm
      have hr := hm.1
      refine sq313_19 (bWp_mono _) hA ⟨by omega, by omega⟩ ⟨by omega, by omega⟩ ?_
      rw [es]
      refine bFf (by omega) (bRn_i ⟨by omega, by omega⟩ (h0 q s m o ⟨by omega, by omega⟩ ⟨_, hm, ?_⟩))
      rw [show l = bi σ 12 22 by omega]
      exact bUp_D hT (Int.le_refl _) hD2
    | succ n ih =>
      intro l m v hl l0 hm
      have hr := hm.1
      refine sq313_19 (bWp_mono _) hA ⟨by omega, by omega⟩ ⟨by omega, by omega⟩ ?_
      rw [es]
      refine bTt (by omega) ⟨⟨by omega, by omega⟩, fun z => ⟨⟨by omega, by omega⟩, ih (l + 1) _ _ (by omega) (by omega) (bMs_c (bMs_or hm bMs_0) fun i i0 _ => ?_)⟩, fun z => ⟨⟨by omega, by omega⟩, ih (l + 1) _ _ (by omega) (by omega) (bMs_c (bMs_or hm (bMs_shl (k := l) l0 (by omega))) fun i i0 _ => ?_)⟩⟩
      · refine ⟨fun w => w.elim (fun w => ⟨by omega, w.2⟩) False.elim, fun w => Or.inl ⟨⟨i0, ?_⟩, w.2⟩⟩
        by_cases w2 : i = l
        · exact absurd (w2 ▸ z) w.2
        · omega
      · refine ⟨fun w => w.elim (fun w => ⟨by omega, w.2⟩) (fun w => ⟨by omega, by rw [w]; exact z⟩), fun w => ?_⟩
        by_cases w2 : i = l
        · exact Or.inr w2
        · exact Or.inl ⟨by omega, w.2⟩
  exact K (bi σ 12 22).toNat 0 0 _ (by omega) (by decide) (bMs_c bMs_0 fun i i0 _ => ⟨False.elim, fun w => by omega⟩)
theorem w312 (hT : bTg σ) (hx : bRg x) (hy : bRg y) (h1 : ¬ (bTgk σ x ∧ bTgk σ y) → f 0 (bw σ 12 0 1)) (h0 : bTgk σ x → bTgk σ y → ∀ s m, bO1 153 (bw σ 12 0 0) s → bRg m → bWys σ x y m → f m s) : bWp (d + 3) 312 [.ref 12, .int (bn x), .int (bn y)] σ (bRn f) := by
  obtain ⟨e9, e16, e0⟩ := bTk_r hT
  have h16 : 0 ≤ bi σ 12 22 ∧ bi σ 12 22 ≤ 16 := ⟨e0, e16⟩
  have u : bUn [] [0] σ (bw σ 12 0 0) := bUn_f bUn_refl (by decide) (by decide)
  have hT' := bTg_un u (by decide) (by decide) hT
  have e22 : bi (bw σ 12 0 0) 12 22 = bi σ 12 22 := u.2.1 22 (by decide) (by decide)
  refine ⟨rfl, fun A hA => sq312_0 (bWp_mono _) hA hx hy (w225 h16 hx (fun qx => bFf (by decide) (w225 h16 hy (fun q => bFf (by decide) (rY (w309 hT' (by unfold bTgk; rw [e22]; exact q) fun s o hD => ?_))) (fun q => bTt rfl (rN (by decide) (by decide) (bRn_i (by decide) (h1 fun w => q w.2)))))) (fun q => bTt rfl (rN (by decide) (by decide) (bRn_i (by decide) (h1 fun w => q w.1)))))⟩
  have qx0 := qx.1
  have qx1 := qx.2
  rw [e22] at hD
  have hD2 : bDs σ y (bi σ 12 22) (bi s 153) := bDs_m (fun a ha j => by simp at ha; rw [bi_ne (by omega)]) hD
  have hU := bUp_D hT (Int.le_refl _) hD2
  have es : bi s 12 22 = bi σ 12 22 := by rw [o.2 12 22 (by decide), e22]
  have us : bUn [153] [0] σ s := bUn_trans (bUn_mono u (by decide) (by decide)) (bO1_un o (by decide) (by decide))
  have hTs := bTg_un us (by decide) (by decide) hT
  have K : ∀ (n : Nat) (l m : Int) (v : Value), l + n = bi σ 12 22 → 0 ≤ l → bMs (fun i => (0 ≤ i ∧ i < l) ∧ bi s 153 i ≠ -1) m → A (23, [.ref 12, .int (bn x), v, .int (bn m), .int (bn l)], [], s) := by
    intro n
    induction n with
    | zero =>
      intro l m v hl l0 hm
      have hr := hm.1
      rw [show l = bi σ 12 22 by omega] at hm ⊢
      refine sq312_23 (bWp_mono _) hA ⟨by omega, by omega⟩ ⟨by omega, by omega⟩ ⟨by omega, by omega⟩ ?_
      rw [es]
      refine bFf (by omega) ⟨⟨by omega, by omega⟩, fun z => bRn_i (by decide) (h0 qx q s 0 o (by decide) ⟨_, hU, Or.inl ⟨fun w => w.2 z, rfl⟩⟩), fun z => w311 hTs ⟨qx0, by rw [es]; exact qx1⟩ fun r hr2 => ?_⟩
      have hr3 := bMs_and hm (bMs_c hr2 fun i _ _ => bBe_m (σ := σ) fun a ha j => bO1_e o a (by simp at ha; omega) (by simp at ha; omega) j)
      have hr4 := hr3.1
      exact bRn_i ⟨by omega, by omega⟩ (h0 qx q s _ o ⟨by omega, by omega⟩ ⟨_, hU, Or.inr ⟨⟨qx, z⟩, hr3⟩⟩)
    | succ n ih =>
      intro l m v hl l0 hm
      have hr := hm.1
      refine sq312_23 (bWp_mono _) hA ⟨by omega, by omega⟩ ⟨by omega, by omega⟩ ⟨by omega, by omega⟩ ?_
      rw [es]
      refine bTt (by omega) ⟨⟨by omega, by omega⟩, fun z => ⟨⟨by omega, by omega⟩, ih (l + 1) _ _ (by omega) (by omega) (bMs_c (bMs_or hm bMs_0) fun i i0 _ => ?_)⟩, fun z => ⟨⟨by omega, by omega⟩, ih (l + 1) _ _ (by omega) (by omega) (bMs_c (bMs_or hm (bMs_shl (k := l) l0 (by omega))) fun i i0 _ => ?_)⟩⟩
      · refine ⟨fun w => w.elim (fun w => ⟨by omega, w.2⟩) False.elim, fun w => Or.inl ⟨⟨i0, ?_⟩, w.2⟩⟩
        by_cases w2 : i = l
        · exact absurd (w2 ▸ z) w.2
        · omega
      · refine ⟨fun w => w.elim (fun w => ⟨by omega, w.2⟩) (fun w => ⟨by omega, by rw [w]; exact z⟩), fun w => ?_⟩
        by_cases w2 : i = l
        · exact Or.inr w2
        · exact Or.inl ⟨by omega, w.2⟩
  exact K (bi σ 12 22).toNat 0 0 _ (by omega) (by decide) (bMs_c bMs_0 fun i i0 _ => ⟨False.elim, fun w => by omega⟩)
theorem bUpx_u (hT : bTg σ) {m m' : Int} (h : bUpx σ x m) (k : bUpx σ x m') : m = m' := by
  obtain ⟨P, a, b⟩ := h
  obtain ⟨P', a', b'⟩ := k
  exact bMs_eq a (bMs_c a' fun i i0 _ => bUpn_u hT (Int.le_refl _) b' b i i0)
theorem bWys_u (hT : bTg σ) (hx : 0 ≤ x) {m m' : Int} (h : bWys σ x y m) (k : bWys σ x y m') : m = m' := by
  obtain ⟨P, a, b⟩ := h
  obtain ⟨P', a', b'⟩ := k
  have e := bUpn_u hT (Int.le_refl _) a a'
  rcases b with ⟨b, c⟩ | ⟨b, c⟩ <;> rcases b' with ⟨b', c'⟩ | ⟨b', c'⟩
  · rw [c, c']
  · exact absurd ((e x hx).mpr b') b
  · exact absurd ((e x hx).mp b) b'
  · exact bMs_eq c (bMs_c c' fun i i0 _ => and_congr (e i i0).symm Iff.rfl)
theorem bQs (h : bI9 G H L n σ) (hS : ∀ σ s, bUn [51, 153] [0] σ s → G σ → G s) (hH : ∀ c k σ s, bUn [51, 153] [0] σ s → H c k σ → H c k s) (u : bUn [51, 153] [0] σ s) (h1 : s.2.2.2.2.1 ≤ σ.2.2.2.2.1 + 1) (h2 : s.2.2.2.2.2 ≤ σ.2.2.2.2.2 + 6) : bI9 G H L (n + 1) s :=
  bI9_u (by decide) (by decide) u (hS _ _ u) (fun c k => hH c k _ _ u) h1 h2 h
theorem k48 (hT : ∀ s, G s → bTg s) (hS : ∀ σ s, bUn [51, 153] [0] σ s → G σ → G s) (hH : ∀ c k σ s, bUn [51, 153] [0] σ s → H c k σ → H c k s) (h : bI9 G H L n σ) : bK48 (bI9 G H L (n + 1)) σ := by
  have hT1 := hT _ h.2.2.2.1
  obtain ⟨e9, e16, e0⟩ := bTk_r hT1
  refine wk48 fun x hx => ⟨rfl, fun A hA => sq194_0 (bWp_mono _) hA hx ?_⟩
  rw [e9]
  refine w136 hx ⟨by omega, by omega⟩ (by omega) (fun q => w124 hT1 q fun m P hm hu => bRnx_i ⟨by have := hm.1; omega, by have := hm.1; omega⟩ ?_) (fun q => ?_)
  · have u1 : bUn [51, 153] [0] σ (bwj σ 154 0 (bL m)) := bUn_o bUn_refl
    refine ⟨bMid_un u1 (by decide), w313 (bTg_un u1 (by decide) (by decide) hT1) hx (fun w => absurd q w) fun _ s m' o hm' hw => ?_⟩
    have e : m = m' := bUpx_u hT1 (σ := σ) (x := x) ⟨P, hm, hu⟩ hw
    refine ⟨by rw [o.2 12 0 (by decide)]; exact bi_eq (by decide), fun _ => ?_, bQs h hS hH (bUn_trans (bUn_f u1 (by decide) (by decide)) (bO1_un o (by decide) (by decide))) ?_ ?_⟩
    · unfold bj
      rw [o.1, ← e]
      exact bj_eq
    · rw [o.1]
      exact Nat.le_succ _
    · rw [o.1]
      exact Nat.le_add_right _ _
  · have u1 : bUn [51, 153] [0] σ (bC σ 1 6) := bUn_C bUn_refl
    exact ⟨bMid_C, w313 (bTg_un u1 (by decide) (by decide) hT1) hx (fun _ => ⟨bi_eq (by decide), fun w => absurd w (by decide), bQs h hS hH (bUn_f u1 (by decide) (by decide)) (Nat.le_refl _) (Nat.le_refl _)⟩) fun w => absurd w q⟩
theorem k47 (hT : ∀ s, G s → bTg s) (hS : ∀ σ s, bUn [51, 153] [0] σ s → G σ → G s) (hH : ∀ c k σ s, bUn [51, 153] [0] σ s → H c k σ → H c k s) (h : bI9 G H L n σ) : bK47 (bI9 G H L (n + 1)) σ := by
  have hT1 := hT _ h.2.2.2.1
  obtain ⟨e9, e16, e0⟩ := bTk_r hT1
  have no : ∀ {x y : Int}, bRg x → bRg y → ¬ (bTgk σ x ∧ bTgk σ y) → bAf47 (bI9 G H L (n + 1)) σ x y 1 (bC σ 1 6) := fun hx hy q => by
    have u1 : bUn [51, 153] [0] σ (bC σ 1 6) := bUn_C bUn_refl
    exact ⟨bMid_C, w312 (bTg_un u1 (by decide) (by decide) hT1) hx hy (fun _ => ⟨bi_eq (by decide), fun w => absurd w (by decide), bQs h hS hH (bUn_f u1 (by decide) (by decide)) (Nat.le_refl _) (Nat.le_refl _)⟩) fun w w2 => absurd ⟨w, w2⟩ q⟩
  have yes : ∀ {x y m : Int}, bRg x → bRg y → bTgk σ x → bTgk σ y → bWys σ x y m → bAf47 (bI9 G H L (n + 1)) σ x y 0 (bwj σ 154 0 (bL m)) := fun {x y m} hx hy q q2 hw => by
    have u1 : bUn [51, 153] [0] σ (bwj σ 154 0 (bL m)) := bUn_o bUn_refl
    refine ⟨bMid_un u1 (by decide), w312 (bTg_un u1 (by decide) (by decide) hT1) hx hy (fun w => absurd ⟨q, q2⟩ w) fun _ _ s m' o hm' hw' => ?_⟩
    have hw2 : bWys σ x y m' := by
      obtain ⟨P, w1, w2⟩ := hw'
      refine ⟨P, w1, w2.imp id fun w => ⟨w.1, ?_⟩⟩
      have e : ∀ i : Int, (P i ∧ bBe (bwj σ 154 0 (bL m)) x (x.toNat + 1) i) ↔ (P i ∧ bBe σ x (x.toNat + 1) i) := fun i => and_congr Iff.rfl (bBe_m (σ := σ) (s := bwj σ 154 0 (bL m)) fun _ _ _ => rfl)
      exact bMs_c w.2 fun i _ _ => e i
    have e : m = m' := bWys_u hT1 (σ := σ) (x := x) (y := y) q.1 hw hw2
    refine ⟨by rw [o.2 12 0 (by decide)]; exact bi_eq (by decide), fun _ => ?_, bQs h hS hH (bUn_trans (bUn_f u1 (by decide) (by decide)) (bO1_un o (by decide) (by decide))) ?_ ?_⟩
    · unfold bj
      rw [o.1, ← e]
      exact bj_eq
    · rw [o.1]
      exact Nat.le_succ _
    · rw [o.1]
      exact Nat.le_add_right _ _
  refine wk47 fun x y hx hy => ⟨rfl, fun A hA => sq193_0 (bWp_mono _) hA hx hy ?_⟩
  rw [e9]
  refine w136 hx ⟨by omega, by omega⟩ (by omega) (fun q => ?_) (fun q => no hx hy fun w => q w.1)
  rw [e9]
  refine w136 hy ⟨by omega, by omega⟩ (by omega) (fun q2 => w123 hT1 q fun m hm => ?_) (fun q2 => no hx hy fun w => q2 w.2)
  have hz := bMs_i0 hm (i := y) q2.1 (by omega)
  have hr := hm.1
  refine ⟨fun z => bRnx_i (by decide) ?_, fun z => w124 hT1 q2 fun r P hr2 hu => ?_⟩
  · have hD : ∃ P, bUpn σ y (bi σ 12 22) P := by
      have : ∀ (n : Nat), y + 1 + n ≤ bi σ 12 22 → ∃ P, bUpn σ y (y + 1 + n) P := by
        intro n
        induction n with
        | zero => exact fun _ => ⟨_, by rw [show y + 1 + ((0 : Nat) : Int) = y + 1 by omega]; exact bUpn_0 hT1 q2⟩
        | succ n ih =>
          intro hn
          obtain ⟨P, hP⟩ := ih (by omega)
          exact ⟨_, by rw [show y + 1 + ((n + 1 : Nat) : Int) = y + 1 + n + 1 by omega]; exact bUpn_s hT1 (by have := q2.1; omega) (by omega) (by omega) hP⟩
      obtain ⟨P, hP⟩ := this (bi σ 12 22 - (y + 1)).toNat (by have := q2.2; omega)
      rw [show y + 1 + ((bi σ 12 22 - (y + 1)).toNat : Int) = bi σ 12 22 by have := q2.2; omega] at hP
      exact ⟨P, hP⟩
    obtain ⟨P, hP⟩ := hD
    exact yes hx hy q q2 ⟨P, hP, Or.inl ⟨fun w => hz.mp z ((bBe_up hT1 q q2 hP).mpr w), rfl⟩⟩
  · have ha := bMs_and hm hr2
    have ha2 := ha.1
    refine bRnx_i ⟨by omega, by omega⟩ (yes hx hy q q2 ⟨P, hu, Or.inr ⟨(bBe_up hT1 q q2 hu).mp (Classical.byContradiction fun w => z (hz.mpr w)), bMs_c ha fun i _ _ => and_comm⟩⟩)
end

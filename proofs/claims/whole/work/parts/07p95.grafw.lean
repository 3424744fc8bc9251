/-! THE GRAPH OF TARGETS, 5: a shortest way -/
/-- the first that is one step nearer -/
def bFst (σ : bSt) (D : Int → Int) (a r : Int) : Prop := (bEd σ a r ∧ D r = D a - 1) ∧ ∀ i, bEd σ a i → D i = D a - 1 → r ≤ i
def bWy (σ : bSt) (D : Int → Int) (t : Int) : Nat → Int → Prop
  | 0, r => r = t
  | n + 1, r => ∃ a, bWy σ D t n a ∧ bFst σ D a r
theorem bWy_u {σ : bSt} {D D' : Int → Int} {t : Int} (hT : bTg σ) (ht : bTgk σ t) (e : ∀ t, 0 ≤ t → t < bi σ 12 22 → D t = D' t) : ∀ {n : Nat} {r r' : Int}, bWy σ D t n r → bWy σ D' t n r' → r = r' ∧ bTgk σ r := by
  intro n
  induction n with
  | zero =>
    intro r r' h k
    have h : r = t := h
    have k : r' = t := k
    rw [h, k]
    exact ⟨rfl, ht⟩
  | succ n ih =>
    intro r r' h k
    obtain ⟨a, h1, ⟨h2, h3⟩, h4⟩ := h
    obtain ⟨a', k1, ⟨k2, k3⟩, k4⟩ := k
    obtain ⟨ea, ta⟩ := ih h1 k1
    subst ea
    have hr := bEd_lt hT ta h2
    have hr' := bEd_lt hT ta k2
    have ta2 := ta.2
    have e1 := e r (by omega) (by omega)
    have e2 := e r' (by omega) (by omega)
    have e3 := e a ta.1 ta.2
    have z1 := h4 r' k2 (by omega)
    have z2 := k4 r h2 (by omega)
    exact ⟨by omega, hr.1, by omega⟩
def bSway (σ : bSt) (t x p r : Int) : Prop := ∃ D, bDs σ x (bi σ 12 22) D ∧ (((D t = -1 ∨ D t < p) ∧ r = -1) ∨ (¬ (D t = -1 ∨ D t < p) ∧ bWy σ D t p.toNat r))
theorem bSway_u {σ : bSt} {t x p r r' : Int} (hT : bTg σ) (ht : bTgk σ t) (h : bSway σ t x p r) (k : bSway σ t x p r') : r = r' := by
  obtain ⟨D, h1, h2⟩ := h
  obtain ⟨D', k1, k2⟩ := k
  have e := bDs_u hT (Int.le_refl _) h1 k1
  have et := e t ht.1 ht.2
  rcases h2 with ⟨a, b⟩ | ⟨a, b⟩ <;> rcases k2 with ⟨a', b'⟩ | ⟨a', b'⟩
  · rw [b, b']
  · exact absurd (by rwa [et] at a) a'
  · exact absurd (by rwa [← et] at a') a
  · exact (bWy_u hT ht e b b').1
/-- the least of what is looked for -/
def bBs (E C : Int → Prop) (v : Int) : Prop := (v = -1 ∧ ∀ j, E j → ¬ C j) ∨ (0 ≤ v ∧ E v ∧ C v ∧ ∀ j, E j → C j → v ≤ j)
theorem bBs_n {E E' C : Int → Prop} {v w : Int} (h : bBs E C v) (e : ∀ j, E' j ↔ E j ∨ j = w) (hw : ¬ C w) : bBs E' C v := by
  rcases h with ⟨a, b⟩ | ⟨a, b, c, g⟩
  · exact Or.inl ⟨a, fun j q => ((e j).mp q).elim (b j) (fun z => by rw [z]; exact hw)⟩
  · exact Or.inr ⟨a, (e v).mpr (Or.inl b), c, fun j q z => ((e j).mp q).elim (fun q => g j q z) (fun q => absurd (q ▸ z) hw)⟩
theorem bBs_c {E E' C : Int → Prop} {v : Int} (h : bBs E C v) (e : ∀ j, E' j ↔ E j) : bBs E' C v := by
  rcases h with ⟨a, b⟩ | ⟨a, b, c, g⟩
  · exact Or.inl ⟨a, fun j q => b j ((e j).mp q)⟩
  · exact Or.inr ⟨a, (e v).mpr b, c, fun j q z => g j ((e j).mp q) z⟩
theorem bBs_y {E E' C : Int → Prop} {v w : Int} (h : bBs E C v) (e : ∀ j, E' j ↔ E j ∨ j = w) (hw : C w) (w0 : 0 ≤ w) : bBs E' C (if v = -1 then w else if w < v then w else v) := by
  rcases h with ⟨a, b⟩ | ⟨a, b, c, g⟩
  · rw [if_pos a]
    exact Or.inr ⟨w0, (e w).mpr (Or.inr rfl), hw, fun j q z => ((e j).mp q).elim (fun q => absurd z (b j q)) (fun q => by rw [q]; exact Int.le_refl _)⟩
  · rw [if_neg (by omega)]
    by_cases q2 : w < v
    · rw [if_pos q2]
      exact Or.inr ⟨w0, (e w).mpr (Or.inr rfl), hw, fun j q z => ((e j).mp q).elim (fun q => by have := g j q z; omega) (fun q => by rw [q]; exact Int.le_refl _)⟩
    · rw [if_neg q2]
      exact Or.inr ⟨a, (e v).mpr (Or.inl b), c, fun j q z => ((e j).mp q).elim (fun q => g j q z) (fun q => by rw [q]; omega)⟩
theorem bDs_ex {σ : bSt} {x a : Int} {D : Int → Int} (h : bDs σ x (bi σ 12 22) D) (q : bTgk σ a) (h1 : 1 ≤ D a) : ∃ j, bEd σ a j ∧ D j = D a - 1 := by
  obtain ⟨_, h2, h3⟩ := h a q.1 q.2
  by_cases w : a = x
  · have := h2 w; omega
  · rcases h3 w with ⟨b, _⟩ | ⟨j, b, _, c, _⟩
    · omega
    · exact ⟨j, b, by omega⟩
section
variable {d : Nat} {σ s t : bSt} {f : Int → bSt → Prop} {fv : bSt → Prop} {x y k c w : Int} {P : Int → Prop} {m : Int} {G : bSt → Prop} {H : bHp} {L n : Nat}
theorem w127 (h9 : 0 ≤ bi σ 9 0 ∧ bi σ 9 0 ≤ 16) (hm : bMs P m) (hd : bRg k) (hex : ∃ j, (0 ≤ j ∧ j < bi σ 9 0) ∧ P j ∧ bi σ 51 j = k) (h : ∀ j, 0 ≤ j → j < bi σ 9 0 → P j → bi σ 51 j = k → (∀ i, 0 ≤ i → i < j → P i → bi σ 51 i ≠ k) → f j σ) : bWp (d + 2) 127 [.ref 9, .int (bn k), .int (bn m)] σ (bRn f) := by
  have hr := hm.1
  refine ⟨rfl, fun A hA => sq127_0 (bWp_mono _) hA hd ⟨by omega, by omega⟩ ?_⟩
  have K : ∀ (n : Nat) (l : Int), l + n = bi σ 9 0 → 0 ≤ l → (∀ i, 0 ≤ i → i < l → P i → bi σ 51 i ≠ k) → A (2, [.ref 9, .int (bn k), .int (bn m), .int (bn l)], [], σ) := by
    intro n
    induction n with
    | zero =>
      intro l hl l0 hn
      obtain ⟨j, j0, j1, j2⟩ := hex
      exact absurd j2 (hn j j0.1 (by omega) j1)
    | succ n ih =>
      intro l hl l0 hn
      have hb := bMs_i hm l0 (by omega)
      have nx : (P l → bi σ 51 l ≠ k) → ∀ i, 0 ≤ i → i < l + 1 → P i → bi σ 51 i ≠ k := fun z i i0 i1 p => by
        by_cases w : i = l
        · rw [w] at p ⊢; exact z p
        · exact hn i i0 (by omega) p
      refine sq127_2 (bWp_mono _) hA hd ⟨by omega, by omega⟩ ⟨by omega, by omega⟩ (bTt (by omega) ⟨fun z => w140i (n := 16) rfl rfl (by decide) l0 (by omega) ⟨fun a => bRn_i ⟨by omega, by omega⟩ (h l l0 (by omega) (hb.mp z) a hn), fun a => ⟨⟨by omega, by omega⟩, ih (l + 1) (by omega) (by omega) (nx fun _ => a)⟩⟩, fun z => ⟨⟨by omega, by omega⟩, ih (l + 1) (by omega) (by omega) (nx fun p => absurd (hb.mpr p) z)⟩⟩)
  exact K (bi σ 9 0).toNat 0 (by omega) (by decide) (fun i i0 i1 => by omega)
theorem w125 (hT : bTg σ) (q : bTgk σ w) (qx : bTgk σ x) (hp : 0 ≤ y ∧ y < 2147483648) (h : ∀ s r, bO1 51 σ s → bRg r → bSway σ w x y r → f r s) : bWp (d + 5) 125 [.ref 9, .int (bn w), .int (bn x), .int (bn y)] σ (bRn f) := by
  obtain ⟨e9, e16, e0⟩ := bTk_r hT
  have q0 := q.1
  have q1 := q.2
  have x0 := qx.1
  have x1 := qx.2
  refine ⟨rfl, fun A hA => sq125_0 (bWp_mono _) hA ⟨by omega, by omega⟩ ⟨by omega, by omega⟩ ⟨by omega, by omega⟩ (w126 hT qx fun s o hD => w140i (n := 16) rfl rfl (by decide) q0 (by omega) ?_)⟩
  have us : bUn [51] [] σ s := bO1_un o (by decide) (by decide)
  have hTs := bTg_un us (by decide) (by decide) hT
  have s9 : bi s 9 0 = bi σ 12 22 := by rw [o.2 9 0 (by decide), e9]
  have s22 : bi s 12 22 = bi σ 12 22 := o.2 12 22 (by decide)
  have hw := (hD w q0 q1).1
  refine ⟨fun z => bRn_i (by decide) (h s _ o (by decide) ⟨_, hD, Or.inl ⟨Or.inl z, rfl⟩⟩), fun z => ⟨fun z2 => bRn_i (by decide) (h s _ o (by decide) ⟨_, hD, Or.inl ⟨Or.inr z2, rfl⟩⟩), fun z2 => ?_⟩⟩
  have K : ∀ (n : Nat) (k r : Int), k + n = y → 0 ≤ k → bTgk σ r → bi s 51 r = bi s 51 w - k → bWy σ (bi s 51) w k.toNat r → A (20, [.ref 9, .int (bn w), .int (bn x), .int (bn y), .int (bn (bi s 51 w)), .int (bn r), .int (bn k)], [], s) := by
    intro n
    induction n with
    | zero =>
      intro k r hk k0 qr hr hy
      have qr0 := qr.1
      have qr1 := qr.2
      rw [show k = y by omega] at hy ⊢
      exact sq125_20 (bWp_mono _) hA ⟨by omega, by omega⟩ (bi_rg _ _ _) ⟨by omega, by omega⟩ ⟨by omega, by omega⟩ (bFf (by omega) (bRn_i ⟨by omega, by omega⟩ (h s r o ⟨by omega, by omega⟩ ⟨_, hD, Or.inr ⟨fun a => a.elim z z2, hy⟩⟩)))
    | succ n ih =>
      intro k r hk k0 qr hr hy
      have qr0 := qr.1
      have qr1 := qr.2
      refine sq125_20 (bWp_mono _) hA ⟨by omega, by omega⟩ (bi_rg _ _ _) ⟨by omega, by omega⟩ ⟨by omega, by omega⟩ (bTt (by omega) ⟨⟨by omega, by omega⟩, ⟨by omega, by omega⟩, w122 hTs ⟨qr0, by rw [s22]; exact qr1⟩ fun m hm => ?_⟩)
      replace hm := bMs_c hm fun i _ _ => bEd_m (σ := σ) (fun a ha j => o.2 a j (by simp at ha; omega))
      refine w127 ⟨by omega, by omega⟩ hm ⟨by omega, by omega⟩ ?_ fun j j0 j1 j2 j3 j4 => ⟨⟨by omega, by omega⟩, ih (k + 1) j (by omega) (by omega) ⟨j0, by omega⟩ (by omega) ?_⟩
      · obtain ⟨j, a, b⟩ := bDs_ex hD qr (by omega)
        have := bEd_lt hT qr a
        exact ⟨j, ⟨by omega, by omega⟩, a, by omega⟩
      · rw [show (k + 1).toNat = k.toNat + 1 by omega]
        refine ⟨r, hy, ⟨j2, by omega⟩, fun i a b => ?_⟩
        have := bEd_lt hT qr a
        exact Classical.byContradiction fun c => j4 i this.1 (by omega) a (by omega)
  exact K y.toNat 0 w (by omega) (by decide) q (by omega) rfl
theorem w310 (hT : bTg σ) (hw : bRg w) (hx : bRg x) (hy : bRg y) (h1 : ¬ (bTgk σ w ∧ bTgk σ x ∧ 0 ≤ y) → f 0 (bw σ 12 0 1)) (h0 : bTgk σ w → bTgk σ x → 0 ≤ y → ∀ s r, bO1 153 (bw σ 12 0 0) s → bRg r → bSway σ w x y r → f r s) : bWp (d + 3) 310 [.ref 12, .int (bn w), .int (bn x), .int (bn y)] σ (bRn f) := by
  obtain ⟨e9, e16, e0⟩ := bTk_r hT
  have h16 : 0 ≤ bi σ 12 22 ∧ bi σ 12 22 ≤ 16 := ⟨e0, e16⟩
  have u : bUn [] [0] σ (bw σ 12 0 0) := bUn_f bUn_refl (by decide) (by decide)
  have hT' := bTg_un u (by decide) (by decide) hT
  have e22 : bi (bw σ 12 0 0) 12 22 = bi σ 12 22 := u.2.1 22 (by decide) (by decide)
  refine ⟨rfl, fun A hA => sq310_0 (bWp_mono _) hA hw hx hy (w225 h16 hw (fun q => bFf (by decide) (w225 h16 hx (fun qx => bFf (by decide) ⟨fun z => rN (by decide) (by decide) (bRn_i (by decide) (h1 fun a => by omega)), fun z => rY (w309 hT' (by unfold bTgk; rw [e22]; exact qx) fun s o hD => ?_)⟩) (fun q => bTt rfl (rN (by decide) (by decide) (bRn_i (by decide) (h1 fun w => q w.2.1)))))) (fun q => bTt rfl (rN (by decide) (by decide) (bRn_i (by decide) (h1 fun w => q w.1)))))⟩
  have q0 := q.1
  have q1 := q.2
  rw [e22] at hD
  have hD2 : bDs σ x (bi σ 12 22) (bi s 153) := bDs_m (fun a ha j => by simp at ha; rw [bi_ne (by omega)]) hD
  have hw2 := (hD2 w q0 q1).1
  have go := h0 q qx (by omega) s
  refine ⟨⟨by omega, by omega⟩, fun a => bRn_i (by decide) (go _ o (by decide) ⟨_, hD2, Or.inl ⟨Or.inl a, rfl⟩⟩), fun a => ⟨fun b => bRn_i (by decide) (go _ o (by decide) ⟨_, hD2, Or.inl ⟨Or.inr b, rfl⟩⟩), fun b => ?_⟩⟩
  have K : ∀ (n : Nat) (k r : Int) (v6 v7 v8 : Value), k + n = y → 0 ≤ k → bTgk σ r → bi s 153 r = bi s 153 w - k → bWy σ (bi s 153) w k.toNat r → A (39, [.ref 12, .int (bn w), .int (bn x), .int (bn y), .int (bn r), .int (bn k), v6, v7, v8], [], s) := by
    intro n
    induction n with
    | zero =>
      intro k r v6 v7 v8 hk k0 qr hr hY
      have qr0 := qr.1
      have qr1 := qr.2
      rw [show k = y by omega] at hY ⊢
      exact sq310_39 (bWp_mono _) hA ⟨by omega, by omega⟩ ⟨by omega, by omega⟩ ⟨by omega, by omega⟩ (bFf (by omega) (bRn_i ⟨by omega, by omega⟩ (go r o ⟨by omega, by omega⟩ ⟨_, hD2, Or.inr ⟨fun z => z.elim a b, hY⟩⟩)))
    | succ n ih =>
      intro k r v6 v7 v8 hk k0 qr hr hY
      have qr0 := qr.1
      have qr1 := qr.2
      have hc := (hT.2.2.2 r qr.1 qr.2).2.2.2.2.2.2.2.2.2.2.2.2.1.2
      have hI := (hT.2.2.2 r qr.1 qr.2).2.2.2.2.2.2.2.2.2.2.2.2.2.2
      have K2 : ∀ (n2 : Nat) (j v : Int) (v8 : Value), j + n2 = bi σ 85 r → 0 ≤ j → bBs (bEdk σ r j) (fun i => bi s 153 i = bi s 153 r - 1) v → bRg v → A (48, [.ref 12, .int (bn w), .int (bn x), .int (bn y), .int (bn r), .int (bn k), .int (bn v), .int (bn (6 * r + j)), v8], [], s) := by
        intro n2
        induction n2 with
        | zero =>
          intro j v v8 hj j0 hB hv
          refine sq310_48 (bWp_mono _) hA ⟨by omega, by omega⟩ ⟨by omega, by omega⟩ ⟨by omega, by omega⟩ hv ⟨by omega, by omega⟩ ?_
          rw [bO1_e o 85 (by decide) (by decide)]
          rw [show j = bi σ 85 r by omega] at hB
          refine ⟨⟨by omega, by omega⟩, ⟨by omega, by omega⟩, ⟨by omega, by omega⟩, bFf (by omega) ⟨⟨by omega, by omega⟩, ?_⟩⟩
          rcases hB with ⟨_, c⟩ | ⟨v0, c1, c2, c3⟩
          · obtain ⟨i, c1, c2⟩ := bDs_ex hD2 qr (by omega)
            exact absurd c2 (c i c1)
          · have hv2 := bEd_lt hT qr c1
            refine ih (k + 1) v _ _ _ (by omega) (by omega) ⟨v0, by omega⟩ (by omega) ?_
            rw [show (k + 1).toNat = k.toNat + 1 by omega]
            exact ⟨r, hY, ⟨c1, c2⟩, c3⟩
        | succ n2 ih2 =>
          intro j v v8 hj j0 hB hv
          have hi := (hI j j0 (by omega)).2
          have next : ∀ (v : Int) (v8 : Value), bRg v → bBs (bEdk σ r (j + 1)) (fun i => bi s 153 i = bi s 153 r - 1) v → A (48, [.ref 12, .int (bn w), .int (bn x), .int (bn y), .int (bn r), .int (bn k), .int (bn v), .int (bn (6 * r + j + 1)), v8], [], s) := fun v v8 hv h3 => by
            rw [show 6 * r + j + 1 = 6 * r + (j + 1) by omega]
            exact ih2 (j + 1) v v8 (by omega) (by omega) h3 hv
          refine sq310_48 (bWp_mono _) hA ⟨by omega, by omega⟩ ⟨by omega, by omega⟩ ⟨by omega, by omega⟩ hv ⟨by omega, by omega⟩ ?_
          rw [bO1_e o 85 (by decide) (by decide), bO1_e o 86 (by decide) (by decide), bO1_e o 87 (by decide) (by decide)]
          refine ⟨⟨by omega, by omega⟩, ⟨by omega, by omega⟩, ⟨by omega, by omega⟩, bTt (by omega) ⟨⟨by omega, by omega⟩, fun e => ⟨⟨by omega, by omega⟩, ⟨by omega, by omega⟩, ?_⟩, fun e => ⟨⟨by omega, by omega⟩, next _ _ hv (bBs_c hB fun i => by rw [bEdk_s j0]; exact ⟨fun z => z.elim id (fun z => absurd z.1 e), Or.inl⟩)⟩⟩⟩
          generalize hw : bi σ 87 (6 * r + j) = g at hi ⊢
          have g0 : 0 ≤ g ∧ g < r := by omega
          have eE : ∀ i, bEdk σ r (j + 1) i ↔ bEdk σ r j i ∨ i = g := fun i => by rw [bEdk_s j0, hw]; exact or_congr Iff.rfl ⟨fun z => z.2, fun z => ⟨e, z⟩⟩
          refine ⟨fun z => ?_, fun z => ⟨⟨by omega, by omega⟩, next _ _ hv (bBs_n hB eE z)⟩⟩
          have hs := bBs_y hB eE z g0.1
          refine ⟨fun c => ⟨⟨by omega, by omega⟩, next _ _ ⟨by omega, by omega⟩ (by rwa [if_pos c] at hs)⟩, fun c => ⟨fun e2 => ⟨⟨by omega, by omega⟩, next _ _ ⟨by omega, by omega⟩ (by rwa [if_neg c, if_pos e2] at hs)⟩, fun e2 => ⟨⟨by omega, by omega⟩, next _ _ hv (by rwa [if_neg c, if_neg e2] at hs)⟩⟩⟩
      refine sq310_39 (bWp_mono _) hA ⟨by omega, by omega⟩ ⟨by omega, by omega⟩ ⟨by omega, by omega⟩ (bTt (by omega) ⟨⟨by omega, by omega⟩, ?_⟩)
      have := K2 (bi σ 85 r).toNat 0 (-1) v8 (by omega) (by decide) (Or.inl ⟨rfl, fun i e => absurd e bEdk_0⟩) (by decide)
      rwa [show 6 * r + 0 = 6 * r by omega] at this
  exact K y.toNat 0 w _ _ _ (by omega) (by decide) q (by omega) rfl
theorem k46 (hT : ∀ s, G s → bTg s) (hS : ∀ σ s, bUn [51, 153] [0] σ s → G σ → G s) (hH : ∀ c k σ s, bUn [51, 153] [0] σ s → H c k σ → H c k s) (h : bI9 G H L n σ) : bK46 (bI9 G H L (n + 1)) σ := by
  have hT1 := hT _ h.2.2.2.1
  obtain ⟨e9, e16, e0⟩ := bTk_r hT1
  have no : ∀ {w x y : Int}, bRg w → bRg x → bRg y → ¬ (bTgk σ w ∧ bTgk σ x ∧ 0 ≤ y) → bAf46 (bI9 G H L (n + 1)) σ w x y 1 (bC σ 1 6) := fun hw hx hy q => by
    have u1 : bUn [51, 153] [0] σ (bC σ 1 6) := bUn_C bUn_refl
    exact ⟨bMid_C, w310 (bTg_un u1 (by decide) (by decide) hT1) hw hx hy (fun _ => ⟨bi_eq (by decide), fun w => absurd w (by decide), bQs h hS hH (bUn_f u1 (by decide) (by decide)) (Nat.le_refl _) (Nat.le_refl _)⟩) fun w w2 w3 => absurd ⟨w, w2, w3⟩ q⟩
  refine wk46 fun w x y hw hx hy => ⟨rfl, fun A hA => sq192_0 (bWp_mono _) hA hw hx hy ?_⟩
  rw [e9]
  refine w136 hw ⟨by omega, by omega⟩ (by omega) (fun q => ?_) (fun q => no hw hx hy fun z => q z.1)
  rw [e9]
  refine w136 hx ⟨by omega, by omega⟩ (by omega) (fun q2 => w137 hy (by omega) (fun q3 => w125 hT1 q q2 ⟨q3, hy.2⟩ fun s r o hr hs => bRnx_i hr ?_) (fun q3 => no hw hx hy fun z => q3 z.2.2)) (fun q2 => no hw hx hy fun z => q2 z.2.1)
  have us : bUn [51, 153] [0] σ s := bO1_un o (by decide) (by decide)
  have u1 : bUn [51, 153] [0] σ (bwj s 154 0 (bL r)) := bUn_o us
  have es : ∀ a ∈ [85, 86, 87], ∀ j, bi (bwj s 154 0 (bL r)) a j = bi σ a j := fun a ha j => o.2 a j (by simp at ha; omega)
  have e22 : bi (bwj s 154 0 (bL r)) 12 22 = bi σ 12 22 := o.2 12 22 (by decide)
  have hT2 := bTg_un u1 (by decide) (by decide) hT1
  have tk : ∀ {a}, bTgk σ a → bTgk (bwj s 154 0 (bL r)) a := fun z => ⟨z.1, by rw [e22]; exact z.2⟩
  refine ⟨bMid_un u1 (by decide), w310 hT2 hw hx hy (fun z => absurd ⟨tk q, tk q2, q3⟩ z) fun _ _ _ s2 r' o2 hr' hs' => ?_⟩
  have hs2 : bSway (bwj s 154 0 (bL r)) w x y r := by
    obtain ⟨D, a, b⟩ := hs
    refine ⟨D, by rw [e22]; exact bDs_m es a, b.imp id fun b => ⟨b.1, ?_⟩⟩
    have M : ∀ (n : Nat) (r0 : Int), bWy σ D w n r0 → bWy (bwj s 154 0 (bL r)) D w n r0 := by
      intro n
      induction n with
      | zero => exact fun _ z => z
      | succ n ih => exact fun r0 ⟨a, z1, ⟨z2, z3⟩, z4⟩ => ⟨a, ih a z1, ⟨(bEd_m es).mpr z2, z3⟩, fun i z5 => z4 i ((bEd_m es).mp z5)⟩
    exact M _ _ b.2
  have e : r = r' := bSway_u hT2 (tk q) hs2 hs'
  refine ⟨by rw [o2.2 12 0 (by decide)]; exact bi_eq (by decide), fun _ => ?_, bQs h hS hH (bUn_trans (bUn_f u1 (by decide) (by decide)) (bO1_un o2 (by decide) (by decide))) ?_ ?_⟩
  · unfold bj
    rw [o2.1, ← e]
    exact bj_eq
  · rw [o2.1]
    show s.2.2.2.2.1 ≤ _
    rw [o.1]
    exact Nat.le_succ _
  · rw [o2.1]
    show s.2.2.2.2.2 ≤ _
    rw [o.1]
    exact Nat.le_add_right _ _
end

/-! THE CRITICAL PATH -/
/-- the latest, of these the first -/
def bMx (E : Int → Prop) (V : Int → Int) (v : Int) : Prop := (v = -1 ∧ ∀ j, ¬ E j) ∨ (0 ≤ v ∧ E v ∧ ∀ j, E j → V j < V v ∨ (V j = V v ∧ v ≤ j))
theorem bMx_u {E : Int → Prop} {V : Int → Int} {v w : Int} (h : bMx E V v) (k : bMx E V w) : v = w := by
  rcases h with ⟨a, b⟩ | ⟨a, b, c⟩ <;> rcases k with ⟨a', b'⟩ | ⟨a', b', c'⟩
  · rw [a, a']
  · exact absurd b' (b w)
  · exact absurd b (b' v)
  · have := c w b'; have := c' v b; omega
theorem bMx_c {E E' : Int → Prop} {V : Int → Int} {v : Int} (h : bMx E V v) (e : ∀ j, E' j ↔ E j) : bMx E' V v := by
  rcases h with ⟨a, b⟩ | ⟨a, b, c⟩
  · exact Or.inl ⟨a, fun j q => b j ((e j).mp q)⟩
  · exact Or.inr ⟨a, (e v).mpr b, fun j q => c j ((e j).mp q)⟩
theorem bMx_y {E E' : Int → Prop} {V : Int → Int} {v w : Int} (h : bMx E V v) (e : ∀ j, E' j ↔ E j ∨ j = w) (w0 : 0 ≤ w) (h1 : v = -1 ∨ V v < V w ∨ (V w = V v ∧ w < v)) : bMx E' V w := by
  refine Or.inr ⟨w0, (e w).mpr (Or.inr rfl), fun j q => ?_⟩
  rcases (e j).mp q with q | q
  · rcases h with ⟨a, b⟩ | ⟨a, b, c⟩
    · exact absurd q (b j)
    · have := c j q; omega
  · rw [q]; exact Or.inr ⟨rfl, Int.le_refl _⟩
theorem bMx_n {E E' : Int → Prop} {V : Int → Int} {v w : Int} (h : bMx E V v) (e : ∀ j, E' j ↔ E j ∨ j = w) (h1 : v ≠ -1) (h2 : ¬ V v < V w) (h3 : ¬ (V w = V v ∧ w < v)) : bMx E' V v := by
  rcases h with ⟨a, b⟩ | ⟨a, b, c⟩
  · exact absurd a h1
  · refine Or.inr ⟨a, (e v).mpr (Or.inl b), fun j q => ?_⟩
    rcases (e j).mp q with q | q
    · exact c j q
    · rw [q]; omega
def bCntd (σ : bSt) (a : Int) : Prop := (0 ≤ a ∧ a < bi σ 12 49) ∧ bi σ 140 a ≠ 0 ∧ 0 ≤ bi σ 142 a ∧ bi σ 142 a ≤ 5
def bInk (σ : bSt) (a m i : Int) : Prop := ∃ k, 0 ≤ k ∧ k < m ∧ bi σ 106 (40 * a + k) = 100 + i ∧ 0 ≤ i
def bInp (σ : bSt) (a i : Int) : Prop := bInk σ a (bi σ 105 a) i
theorem bInk_0 {σ : bSt} {a i : Int} : ¬ bInk σ a 0 i := fun ⟨k, h0, h1, _⟩ => by omega
theorem bInk_s {σ : bSt} {a m i : Int} (hm : 0 ≤ m) : bInk σ a (m + 1) i ↔ bInk σ a m i ∨ (100 ≤ bi σ 106 (40 * a + m) ∧ i = bi σ 106 (40 * a + m) - 100) :=
  ⟨fun ⟨k, h0, h1, h2, h3⟩ => by
    by_cases w : k = m
    · rw [w] at h2; exact Or.inr ⟨by omega, by omega⟩
    · exact Or.inl ⟨k, h0, by omega, h2, h3⟩, fun h => h.elim (fun ⟨k, h0, h1, h2⟩ => ⟨k, h0, by omega, h2⟩) (fun ⟨h2, h3⟩ => ⟨m, hm, by omega, by omega, by omega⟩)⟩
/-- what the critical path needs of an action -/
def bA2 (σ : bSt) (a : Int) (z : Nat) : Prop := (br σ 33 a = some z ∧ z % 256 = 0) ∧ ((bi σ z 1 = bi σ 105 a ∧ 0 ≤ bi σ 105 a ∧ bi σ 105 a ≤ 40) ∧ ∀ i, 0 ≤ i → i < bi σ 105 a → bi σ (z + 13) i = bi σ 106 (40 * a + i) ∧ 0 ≤ bi σ 106 (40 * a + i)) ∧
  (-1 ≤ bi σ z 10 ∧ ((0 ≤ bi σ z 10 ∧ bi σ z 10 ≤ 5) ↔ bCntd σ a)) ∧ (bCntd σ a → bi σ z 12 = bi σ 144 a ∧ ∀ i, bInp σ a i → i < a ∧ bCntd σ i)
def bAq (σ : bSt) : Prop := (bi σ 6 13 = bi σ 12 49 ∧ 0 ≤ bi σ 12 49 ∧ bi σ 12 49 ≤ 120) ∧ ∀ a, 0 ≤ a → a < bi σ 12 49 → ∃ z, bA2 σ a z
def bCh (σ : bSt) : Nat → Int → Prop
  | 0, r => bMx (bCntd σ) (bi σ 144) r
  | n + 1, r => ∃ a, bCh σ n a ∧ ((a = -1 ∧ r = -1) ∨ (a ≠ -1 ∧ bMx (bInp σ a) (bi σ 144) r))
theorem bCh_u {σ : bSt} : ∀ {n : Nat} {r r' : Int}, bCh σ n r → bCh σ n r' → r = r' := by
  intro n
  induction n with
  | zero => exact fun h k => bMx_u h k
  | succ n ih =>
    intro r r' ⟨a, h1, h2⟩ ⟨b, k1, k2⟩
    have e := ih h1 k1
    subst e
    rcases h2 with ⟨p, q⟩ | ⟨p, q⟩ <;> rcases k2 with ⟨p', q'⟩ | ⟨p', q'⟩
    · rw [q, q']
    · exact absurd p p'
    · exact absurd p' p
    · exact bMx_u q q'
theorem bCh_n {σ : bSt} {n : Nat} (h : bCh σ n (-1)) : ∀ m : Nat, bCh σ (n + m) (-1) := by
  intro m
  induction m with
  | zero => exact h
  | succ m ih => exact ⟨-1, ih, Or.inl ⟨rfl, rfl⟩⟩
theorem bCh_b {σ : bSt} (hA : bAq σ) : ∀ {n : Nat} {r : Int}, bCh σ n r → r = -1 ∨ (bCntd σ r ∧ r + n < 120) := by
  intro n
  have h2 := hA.1.2.2
  induction n with
  | zero =>
    intro r h
    rcases h with ⟨a, _⟩ | ⟨_, b, _⟩
    · exact Or.inl a
    · exact Or.inr ⟨b, by have := b.1.2; omega⟩
  | succ n ih =>
    intro r ⟨a, h1, h2⟩
    rcases h2 with ⟨p, q⟩ | ⟨p, q⟩
    · exact Or.inl q
    · rcases ih h1 with w | ⟨w, w2⟩
      · exact absurd w p
      · rcases q with ⟨q, _⟩ | ⟨_, q, _⟩
        · exact Or.inl q
        · obtain ⟨z, _, _, _, g⟩ := hA.2 a w.1.1 w.1.2
          have := (g w).2 r q
          exact Or.inr ⟨this.2, by omega⟩
section
variable {d : Nat} {σ s t : bSt} {f : Int → bSt → Prop} {fa : Nat → bSt → Prop} {x y k c : Int} {z : Nat} {G : bSt → Prop} {H : bHp} {L n : Nat}
theorem w89n (h : fa 0 σ) : bWp (d + 1) 89 [.ref 6, .int (bn (-1))] σ (bRa fa) :=
  ⟨rfl, fun A hA => sq89_0 (bWp_mono _) hA (by decide) (bTt (by decide) h)⟩
theorem w10 (hz : z % 256 = 0) (hr : -1 ≤ bi σ z 10) (h1 : 0 ≤ bi σ z 10 ∧ bi σ z 10 ≤ 4 → f 1 σ) (h0 : ¬ (0 ≤ bi σ z 10 ∧ bi σ z 10 ≤ 4) → f 0 σ) : bWp (d + 1) 10 [.ref z] σ (bRn f) :=
  ⟨rfl, fun A hA => sq10_0 (bWp_mono _) hA hz ⟨fun a => bRn_i (by decide) (h0 (by omega)), fun a => ⟨fun b => bRn_i (by decide) (h0 (by omega)), fun b => bRn_i (by decide) (h1 (by omega))⟩⟩⟩
theorem w5 (hz : z % 256 = 0) (h0 : 0 ≤ y) (hc : bi σ z 1 ≤ 40) (h1 : y < bi σ z 1) (hp : 0 ≤ bi σ (z + 13) y) (h : f (if bi σ (z + 13) y < 100 then -1 else bi σ (z + 13) y - 100) σ) : bWp (d + 1) 5 [.ref z, .int (bn y)] σ (bRn f) := by
  refine ⟨rfl, fun A hA => sq5_0 (bWp_mono _) hA hz ⟨by omega, by omega⟩ (bFf (by omega) (bTt h1 ?_))⟩
  rw [show 256 * (1 * (z / 256) + 0) + 13 = z + 13 by omega]
  have e1 : bLen σ (z + 13) = 40 := bLen_of (k := 13) (by omega) (by decide) rfl
  have e2 : bTy (z + 13) = 0 := bTy_of (k := 13) (by omega) rfl
  have hr : bRg (bi σ (z + 13) y) := bi_rg _ _ _
  rw [e1, e2]
  exact ⟨by decide, by decide, bTt (by omega) ⟨rfl, ⟨h0, by omega⟩, fun q => bRn_i (by decide) (by rwa [if_pos q] at h), fun q => ⟨⟨h0, by omega⟩, ⟨by omega, by omega⟩, bRn_i ⟨by omega, by omega⟩ (by rwa [if_neg q] at h)⟩⟩⟩
theorem w65 (hA0 : bAq σ) (h : ∀ r, bRg r → bMx (bCntd σ) (bi σ 144) r → f r σ) : bWp (d + 2) 65 [.ref 5] σ (bRn f) := by
  obtain ⟨⟨e6, n0, n1⟩, hA1⟩ := hA0
  refine ⟨rfl, fun A hA => sq65_0 (bWp_mono _) hA ?_⟩
  have K : ∀ (m : Nat) (l v : Int) (v3 v4 : Value), l + m = bi σ 12 49 → 0 ≤ l → -1 ≤ v → v < 120 → bMx (fun j => bCntd σ j ∧ j < l) (bi σ 144) v → A (4, [.ref 5, .int (bn v), .int (bn l), v3, v4], [], σ) := by
    intro m
    induction m with
    | zero =>
      intro l v v3 v4 hl l0 hv0 hv1 hm
      refine sq65_4 (bWp_mono _) hA ⟨by omega, by omega⟩ ⟨by omega, by omega⟩ (bFf (by omega) (bRn_i ⟨by omega, by omega⟩ (h v ⟨by omega, by omega⟩ (bMx_c hm fun j => ⟨fun q => ⟨q, by have := q.1.2; omega⟩, fun q => q.1⟩))))
    | succ m ih =>
      intro l v v3 v4 hl l0 hv0 hv1 hm
      obtain ⟨z, ⟨hz, hz0⟩, _, ⟨g0, g1⟩, g2⟩ := hA1 l l0 (by omega)
      have yes : bCntd σ l → v = -1 ∨ (v ≠ -1 ∧ bCntd σ v ∧ v < l) := fun q => by
        rcases hm with ⟨a, _⟩ | ⟨a, b, _⟩
        · exact Or.inl a
        · exact Or.inr ⟨by omega, b⟩
      have eE : bCntd σ l → ∀ j, (bCntd σ j ∧ j < l + 1) ↔ (bCntd σ j ∧ j < l) ∨ j = l := fun q j => ⟨fun w => by
        by_cases u : j = l
        · exact Or.inr u
        · exact Or.inl ⟨w.1, by have := w.2; omega⟩, fun w => w.elim (fun w => ⟨w.1, by have := w.2; omega⟩) (fun w => ⟨by rw [w]; exact q, by omega⟩)⟩
      have cnt : bCntd σ l → ∀ (v3 v4 : Value), (v = -1 → bRg (l + 1) ∧ A (4, [.ref 5, .int (bn l), .int (bn (l + 1)), .ref z, .int (bn 1)], [], σ)) ∧ (¬ v = -1 → bWp (d + 1) 89 [.ref 6, .int (bn v)] σ (bRa fun r s => r % 256 = 0 ∧ (bi s r 12 < bi σ z 12 → bRg (l + 1) ∧ A (4, [.ref 5, .int (bn l), .int (bn (l + 1)), .ref z, .int (bn 1)], [], s)) ∧ (¬ bi s r 12 < bi σ z 12 → bRg (l + 1) ∧ A (4, [.ref 5, .int (bn v), .int (bn (l + 1)), .ref z, .int (bn 1)], [], s)))) := fun q v3 v4 => by
        refine ⟨fun a => ⟨⟨by omega, by omega⟩, ih (l + 1) l _ _ (by omega) (by omega) (by omega) (by omega) (bMx_y hm (eE q) l0 (Or.inl a))⟩, fun a => ?_⟩
        obtain ⟨b1, b2, b3⟩ := (yes q).resolve_left a
        obtain ⟨z', ⟨hz', hz0'⟩, _, _, g2'⟩ := hA1 v b2.1.1 b2.1.2
        have e1 := (g2 q).1
        have e2 := (g2' b2).1
        refine w89 hz' b2.1.1 (by omega) ⟨hz0', fun w => ⟨⟨by omega, by omega⟩, ih (l + 1) l _ _ (by omega) (by omega) (by omega) (by omega) (bMx_y hm (eE q) l0 (Or.inr (Or.inl (by omega))))⟩, fun w => ⟨⟨by omega, by omega⟩, ih (l + 1) v _ _ (by omega) (by omega) (by omega) (by omega) (bMx_n hm (eE q) a (by omega) (by omega))⟩⟩
      refine sq65_4 (bWp_mono _) hA ⟨by omega, by omega⟩ ⟨by omega, by omega⟩ (bTt (by omega) (w89 hz l0 (by omega) ⟨hz0, w10 hz0 g0 (fun q => bFf (by decide) (cnt (g1.mp ⟨q.1, by omega⟩) v3 v4)) (fun q => bTt rfl ⟨fun w => cnt (g1.mp ⟨by omega, by omega⟩) v3 v4, fun w => ⟨⟨by omega, by omega⟩, ih (l + 1) v _ _ (by omega) (by omega) (by omega) (by omega) (bMx_c hm fun j => ⟨fun u => ⟨u.1, ?_⟩, fun u => ⟨u.1, by have := u.2; omega⟩⟩)⟩⟩)⟩))
      have u2 := u.2
      by_cases e : j = l
      · have := g1.mpr (e ▸ u.1); omega
      · omega
  exact K (bi σ 12 49).toNat 0 (-1) _ _ (by omega) (by decide) (by decide) (by decide) (Or.inl ⟨rfl, fun j q => by have := q.1.1.1; have := q.2; omega⟩)
theorem w66 (hA0 : bAq σ) (hx : bCntd σ x) (hz : br σ 33 x = some z) (h : ∀ r, -1 ≤ r → r < 120 → bMx (bInp σ x) (bi σ 144) r → f r σ) : bWp (d + 2) 66 [.ref 5, .ref z] σ (bRn f) := by
  obtain ⟨⟨e6, n0, n1⟩, hA1⟩ := hA0
  obtain ⟨z2, ⟨hz2, hz0⟩, ⟨⟨c1, c2, c3⟩, ci⟩, _, g2⟩ := hA1 x hx.1.1 hx.1.2
  cases hz.symm.trans hz2
  have gI := (g2 hx).2
  refine ⟨rfl, fun A hA => sq66_0 (bWp_mono _) hA hz0 ?_⟩
  have K : ∀ (m : Nat) (l v : Int) (v4 v5 v6 : Value), l + m = bi σ 105 x → 0 ≤ l → -1 ≤ v → v < 120 → bMx (bInk σ x l) (bi σ 144) v → A (4, [.ref 5, .ref z, .int (bn v), .int (bn l), v4, v5, v6], [], σ) := by
    intro m
    induction m with
    | zero =>
      intro l v v4 v5 v6 hl l0 hv0 hv1 hm
      refine sq66_4 (bWp_mono _) hA ⟨by omega, by omega⟩ ⟨by omega, by omega⟩ ⟨hz0, bFf (by omega) (bRn_i ⟨by omega, by omega⟩ (h v hv0 hv1 ?_))⟩
      rwa [show l = bi σ 105 x by omega] at hm
    | succ m ih =>
      intro l v v4 v5 v6 hl l0 hv0 hv1 hm
      obtain ⟨i1, i2⟩ := ci l l0 (by omega)
      have get : ∀ {p : Int}, (∃ k, 0 ≤ k ∧ k ≤ l ∧ bi σ 106 (40 * x + k) = 100 + p ∧ 0 ≤ p) → (p < 120 ∧ ∃ y, br σ 33 p = some y ∧ y % 256 = 0 ∧ bi σ y 12 = bi σ 144 p ∧ 0 ≤ p) := fun {p} ⟨k, k0, k1, k2, k3⟩ => by
        have q := gI p ⟨k, k0, by omega, k2, k3⟩
        obtain ⟨y, ⟨a, b⟩, _, _, c⟩ := hA1 p q.2.1.1 q.2.1.2
        have := q.2.1.2
        exact ⟨by omega, y, a, b, (c q.2).1, k3⟩
      have gv : v = -1 ∨ (v ≠ -1 ∧ ∃ y, br σ 33 v = some y ∧ y % 256 = 0 ∧ bi σ y 12 = bi σ 144 v ∧ 0 ≤ v) := by
        rcases hm with ⟨a, _⟩ | ⟨a, ⟨k, k0, k1, k2⟩, _⟩
        · exact Or.inl a
        · exact Or.inr ⟨by omega, (get ⟨k, k0, by omega, k2⟩).2⟩
      have lv : ∀ {fa : Nat → bSt → Prop}, (v = -1 → fa 0 σ) → (∀ y, v ≠ -1 → y % 256 = 0 → bi σ y 12 = bi σ 144 v → fa y σ) → bWp (d + 1) 89 [.ref 6, .int (bn v)] σ (bRa fa) := fun {fa} a b => by
        rcases gv with w | ⟨w, y, y1, y2, y3, y4⟩
        · rw [w]; exact w89n (a w)
        · exact w89 y1 y4 (by omega) (b y w y2 y3)
      refine sq66_4 (bWp_mono _) hA ⟨by omega, by omega⟩ ⟨by omega, by omega⟩ ⟨hz0, bTt (by omega) (w5 hz0 l0 (by omega) (by omega) (by omega) ?_)⟩
      rw [i1]
      by_cases w : bi σ 106 (40 * x + l) < 100
      · rw [if_pos w]
        have nx : ∀ v4 v5 v6, A (4, [.ref 5, .ref z, .int (bn v), .int (bn (l + 1)), v4, v5, v6], [], σ) := fun v4 v5 v6 => ih (l + 1) v _ _ _ (by omega) (by omega) hv0 hv1 (bMx_c hm fun j => by
          rw [bInk_s l0]; exact ⟨fun u => u.elim id (fun u => by omega), Or.inl⟩)
        exact w89n ⟨by decide, lv (fun _ => ⟨by decide, bTt rfl ⟨⟨by omega, by omega⟩, nx _ _ _⟩⟩) (fun y _ y2 _ => ⟨y2, bTt rfl ⟨⟨by omega, by omega⟩, nx _ _ _⟩⟩)⟩
      · rw [if_neg w]
        generalize hp : bi σ 106 (40 * x + l) - 100 = p
        obtain ⟨p1, y, y1, y2, y3, y4⟩ := get (p := p) ⟨l, l0, Int.le_refl _, by omega, by omega⟩
        have eE : ∀ j, bInk σ x (l + 1) j ↔ bInk σ x l j ∨ j = p := fun j => by rw [bInk_s l0, hp]; exact or_congr Iff.rfl ⟨fun u => u.2, fun u => ⟨by omega, u⟩⟩
        have ny : ∀ v4 v5 v6, (v = -1 ∨ bi σ 144 v < bi σ 144 p ∨ (bi σ 144 p = bi σ 144 v ∧ p < v)) → A (4, [.ref 5, .ref z, .int (bn p), .int (bn (l + 1)), v4, v5, v6], [], σ) := fun v4 v5 v6 u => ih (l + 1) p _ _ _ (by omega) (by omega) (by omega) p1 (bMx_y hm eE y4 u)
        have nn : ∀ v4 v5 v6, v ≠ -1 → ¬ bi σ 144 v < bi σ 144 p → ¬ (bi σ 144 p = bi σ 144 v ∧ p < v) → A (4, [.ref 5, .ref z, .int (bn v), .int (bn (l + 1)), v4, v5, v6], [], σ) := fun v4 v5 v6 u1 u2 u3 => ih (l + 1) v _ _ _ (by omega) (by omega) hv0 hv1 (bMx_n hm eE u1 u2 u3)
        have rl : bRg (l + 1) := ⟨by omega, by omega⟩
        refine w89 y1 y4 (by omega) ⟨y2, lv (fun a => ⟨by decide, bFf (by omega) (bTt a ⟨rl, ny _ _ _ (Or.inl a)⟩)⟩) (fun y' a b c => ⟨b, bFf (by omega) (bFf a ?_)⟩)⟩
        rw [c, y3]
        exact ⟨fun u => ⟨rl, ny _ _ _ (Or.inr (Or.inl u))⟩, fun u => ⟨fun u2 => ⟨fun u3 => ⟨rl, ny _ _ _ (Or.inr (Or.inr ⟨u2, u3⟩))⟩, fun u3 => ⟨rl, nn _ _ _ a u (fun t => u3 t.2)⟩⟩, fun u2 => ⟨rl, nn _ _ _ a u (fun t => u2 t.1)⟩⟩⟩
  exact K (bi σ 105 x).toNat 0 (-1) _ _ _ (by omega) (by decide) (by decide) (by decide) (Or.inl ⟨rfl, fun j => bInk_0⟩)
theorem w64 (hA0 : bAq σ) (hx : bRg x) (x0 : 0 ≤ x) (h : ∀ r, bRg r → bCh σ x.toNat r → f r σ) : bWp (d + 3) 64 [.ref 5, .int (bn x)] σ (bRn f) := by
  refine ⟨rfl, fun A hA => sq64_0 (bWp_mono _) hA hx (w65 hA0 fun r hr hm => ?_)⟩
  have K : ∀ (m : Nat) (l v : Int), l + m = x → 0 ≤ l → bRg v → bCh σ l.toNat v → A (5, [.ref 5, .int (bn x), .int (bn v), .int (bn l)], [], σ) := by
    intro m
    induction m with
    | zero =>
      intro l v hl l0 hv hc
      rw [show l = x by omega] at hc ⊢
      exact sq64_5 (bWp_mono _) hA hx hv hx (bFf (by omega) (bRn_i hv (h v hv hc)))
    | succ m ih =>
      intro l v hl l0 hv hc
      have hx2 := hx.2
      refine sq64_5 (bWp_mono _) hA hx hv ⟨by omega, by omega⟩ (bTt (by omega) ⟨fun a => bRn_i hv (h v hv ?_), fun a => ?_⟩)
      · rw [a] at hc ⊢
        have := bCh_n hc (x.toNat - l.toNat)
        rwa [show l.toNat + (x.toNat - l.toNat) = x.toNat by omega] at this
      · obtain ⟨b, b2⟩ := (bCh_b hA0 hc).resolve_left a
        obtain ⟨z, ⟨hz, hz0⟩, _⟩ := hA0.2 v b.1.1 b.1.2
        refine w89 hz b.1.1 (by omega) (w66 hA0 b hz fun r r0 r1 hm => ⟨⟨by omega, by omega⟩, ih (l + 1) r (by omega) (by omega) ⟨by omega, by omega⟩ ?_⟩)
        rw [show (l + 1).toNat = l.toNat + 1 by omega]
        exact ⟨v, hc, Or.inr ⟨a, hm⟩⟩
  exact K x.toNat 0 r (by omega) (by decide) hr hm
end

/-! THE GRAPH OF TARGETS, 3: the programs that find how far -/
/-- nothing has changed but the cells of one array -/
def bO1 (a : Nat) (σ s : bSt) : Prop := s.2 = σ.2 ∧ ∀ b j, b ≠ a → bi s b j = bi σ b j
theorem bO1_w {a : Nat} {σ s : bSt} {i v : Int} (h : bO1 a σ s) : bO1 a σ (bw s a i v) := ⟨h.1, fun b j q => by rw [bi_ne q]; exact h.2 b j q⟩
theorem bO1_un {S : List Nat} {F : List Int} {a : Nat} {σ s : bSt} (h : bO1 a σ s) (ha : a % 256 ∈ S) (h12 : a % 256 ≠ 12) : bUn S F σ s :=
  ⟨fun b q1 _ j => h.2 b j (fun e => q1 (e ▸ ha)), fun j _ _ => h.2 12 j (fun e => h12 (by rw [← e])), fun _ _ _ _ => by unfold bj; rw [h.1], fun _ _ _ => by unfold br; rw [h.1], fun _ _ => by rw [h.1]⟩
section
variable {d : Nat} {σ s t : bSt} {f : Int → bSt → Prop} {fv : bSt → Prop} {x y k c : Int} {m : Nat}
theorem w126 (hT : bTg σ) (q : bTgk σ x) (h : ∀ s, bO1 51 σ s → bDs σ x (bi σ 12 22) (bi s 51) → fv s) : bWp (d + 4) 126 [.ref 9, .int (bn x)] σ (bRv fv) := by
  obtain ⟨e9, e16, e0⟩ := bTk_r hT
  have q0 := q.1
  have q1 := q.2
  refine ⟨rfl, fun A hA => sq126_0 (bWp_mono _) hA ⟨by omega, by omega⟩ (w361 (N := 16) (by decide) rfl (by decide) (fun _ => rfl) (by decide) fun s1 a1 a2 a3 => w141i (n := 16) (by decide) rfl (by decide) rfl (by decide) q0 (by omega) ⟨⟨by omega, by omega⟩, ?_⟩)⟩
  have K : ∀ (n : Nat) (l : Int) (v3 v4 v5 v6 : Value) (s : bSt), l + n = bi σ 12 22 → x < l → bO1 51 σ s → (∀ t, 0 ≤ t → t < x → bi s 51 t = -1) → (∀ t, l ≤ t → t < 16 → bi s 51 t = -1) → bDs σ x l (bi s 51) → A (13, [.ref 9, .int (bn x), .int (bn l), v3, v4, v5, v6], [], s) := by
    intro n
    induction n with
    | zero =>
      intro l v3 v4 v5 v6 s hl hx ho hz hm hD
      refine sq126_13 (bWp_mono _) hA ⟨by omega, by omega⟩ ⟨by omega, by omega⟩ ?_
      rw [ho.2 9 0 (by decide), e9]
      refine bFf (by omega) (h s ho ?_)
      rwa [show l = bi σ 12 22 by omega] at hD
    | succ n ih =>
      intro l v3 v4 v5 v6 s hl hx ho hz hm hD
      have u : bUn [51] [] σ s := bO1_un ho (by decide) (by decide)
      have hTs := bTg_un u (by decide) (by decide) hT
      have e22 : bi s 12 22 = bi σ 12 22 := ho.2 12 22 (by decide)
      refine sq126_13 (bWp_mono _) hA ⟨by omega, by omega⟩ ⟨by omega, by omega⟩ ?_
      rw [ho.2 9 0 (by decide), e9]
      refine bTt (by omega) (w122 hTs ⟨by omega, by rw [e22]; omega⟩ fun r hr => ?_)
      replace hr := bMs_c hr fun i _ _ => bEd_m (σ := σ) (fun a ha j => ho.2 a j (by simp at ha; omega))
      have hrr := hr.1
      have K2 : ∀ (n2 : Nat) (j : Int) (v5 v6 : Value) (s' : bSt), j + n2 = l → x ≤ j → bO1 51 σ s' → (∀ t, 0 ≤ t → t < 16 → t ≠ l → bi s' 51 t = bi s 51 t) → bMn (fun i => bEd σ l i ∧ i < j) (bi s 51) (bi s' 51 l) → A (23, [.ref 9, .int (bn x), .int (bn l), .int (bn r), .int (bn j), v5, v6], [], s') := by
        intro n2
        induction n2 with
        | zero =>
          intro j v5 v6 s' hj hxj ho' hs' hM
          refine sq126_23 (bWp_mono _) hA ⟨by omega, by omega⟩ ⟨by omega, by omega⟩ ⟨by omega, by omega⟩ ⟨by omega, by omega⟩ (bFf (by omega) ⟨⟨by omega, by omega⟩, ih (l + 1) _ _ _ _ s' (by omega) (by omega) ho' (fun t t0 t1 => by rw [hs' t t0 (by omega) (by omega)]; exact hz t t0 t1) (fun t t0 t1 => by rw [hs' t (by omega) t1 (by omega)]; exact hm t (by omega) t1) (bDs_s hT (by omega) (by omega) hD (fun t t0 t1 => hs' t t0 (by omega) (by omega)) (fun z => by omega) fun _ => bMn_c hM fun i => ⟨fun e => ⟨e, ?_⟩, fun e => e.1⟩)⟩)
          have := bEd_lt hT ⟨by omega, by omega⟩ e
          omega
        | succ n2 ih2 =>
          intro j v5 v6 s' hj hxj ho' hs' hM
          have hb := bMs_i hr (i := j) (by omega) (by omega)
          have hDj := (hD j (by omega) (by omega)).1
          have ej := hs' j (by omega) (by omega) (by omega)
          have next : ∀ (v : Int) (v5 v6 : Value) (s2 : bSt), s2 = s' ∨ s2 = bw s' 51 l v → bi s2 51 l = v → bMn (fun i => bEd σ l i ∧ i < j + 1) (bi s 51) v → A (23, [.ref 9, .int (bn x), .int (bn l), .int (bn r), .int (bn (j + 1)), v5, v6], [], s2) := fun v v5 v6 s2 h1 h2 h3 => ih2 (j + 1) v5 v6 s2 (by omega) (by omega) (h1.elim (fun w => by rw [w]; exact ho') (fun w => by rw [w]; exact bO1_w ho')) (fun t t0 t1 t2 => h1.elim (fun w => by rw [w]; exact hs' t t0 t1 t2) (fun w => by rw [w, bi_nj (by omega) t0 t2]; exact hs' t t0 t1 t2)) (by rw [h2]; exact h3)
          refine sq126_23 (bWp_mono _) hA ⟨by omega, by omega⟩ ⟨by omega, by omega⟩ ⟨by omega, by omega⟩ ⟨by omega, by omega⟩ (bTt (by omega) ⟨fun z => ?_, fun z => ?_⟩)
          · have hE := hb.mp z
            have hs := bMn_s (E' := fun i => bEd σ l i ∧ i < j + 1) (w := j) hM (fun i => ⟨fun e => by
              by_cases w : i = j
              · exact Or.inr w
              · exact Or.inl ⟨e.1, by have := e.2; omega⟩, fun e => e.elim (fun e => ⟨e.1, by have := e.2; omega⟩) (fun e => ⟨by rw [e]; exact hE, by omega⟩)⟩) (fun i e => by
              have := bEd_lt hT ⟨by omega, by omega⟩ e.1
              exact (hD i (by omega) (by omega)).1.1)
            refine w140i (n := 16) rfl rfl (by decide) (by omega) (by omega) (w140i (n := 16) rfl rfl (by decide) (by omega) (by omega) ?_)
            rw [ej]
            refine ⟨fun a => ⟨⟨by omega, by omega⟩, next _ _ _ s' (Or.inl rfl) rfl (by rwa [if_pos a] at hs)⟩, fun a => ⟨fun b => ⟨⟨by omega, by omega⟩, w141i (n := 16) ⟨by omega, by omega⟩ rfl (by decide) rfl (by decide) (by omega) (by omega) ⟨⟨by omega, by omega⟩, next (bi s 51 j + 1) _ _ _ (Or.inr rfl) (bi_eq ⟨by omega, by omega⟩) (by rwa [if_neg a, if_pos b] at hs)⟩⟩, fun b => ⟨⟨by omega, by omega⟩, fun c => w141i (n := 16) ⟨by omega, by omega⟩ rfl (by decide) rfl (by decide) (by omega) (by omega) ⟨⟨by omega, by omega⟩, next (bi s 51 j + 1) _ _ _ (Or.inr rfl) (bi_eq ⟨by omega, by omega⟩) (by rwa [if_neg a, if_neg b, if_pos c] at hs)⟩, fun c => ⟨⟨by omega, by omega⟩, next _ _ _ s' (Or.inl rfl) rfl (by rwa [if_neg a, if_neg b, if_neg c] at hs)⟩⟩⟩⟩
          · refine w140i (n := 16) rfl rfl (by decide) (by omega) (by omega) ⟨⟨by omega, by omega⟩, next _ _ _ s' (Or.inl rfl) rfl (bMn_c hM fun i => ⟨fun e => ⟨e.1, ?_⟩, fun e => ⟨e.1, by have := e.2; omega⟩⟩)⟩
            have := e.2
            by_cases w : i = j
            · exact absurd (hb.mpr (w ▸ e.1)) z
            · omega
      refine K2 (l - x).toNat x _ _ s (by omega) (by omega) ho (fun _ _ _ _ => rfl) (Or.inl ⟨hm l (by omega) (by omega), fun i e => ?_⟩)
      have := bEd_lt hT ⟨by omega, by omega⟩ e.1
      exact hz i (by omega) e.2
  have c0 : ∀ t, 0 ≤ t → t < 16 → t ≠ x → bi (bw s1 51 x 0) 51 t = -1 := fun t t0 t1 t2 => by rw [bi_nj q0 t0 t2]; exact a3 t t0 t1
  exact K (bi σ 12 22 - (x + 1)).toNat (x + 1) _ _ _ _ _ (by omega) (by omega) (bO1_w ⟨a1, a2⟩) (fun t t0 t1 => c0 t t0 (by omega) (by omega)) (fun t t0 t1 => c0 t (by omega) t1 (by omega)) (bDs_0 hT q (fun t t0 t1 => c0 t t0 (by omega) (by omega)) (bi_eq (by decide)))
theorem w309 (hT : bTg σ) (q : bTgk σ x) (h : ∀ s, bO1 153 σ s → bDs σ x (bi σ 12 22) (bi s 153) → fv s) : bWp (d + 1) 309 [.ref 12, .int (bn x)] σ (bRv fv) := by
  obtain ⟨e9, e16, e0⟩ := bTk_r hT
  have q0 := q.1
  have q1 := q.2
  refine ⟨rfl, fun A hA => sq309_0 (bWp_mono _) hA ⟨by omega, by omega⟩ ?_⟩
  have K : ∀ (n : Nat) (l : Int) (v3 v4 : Value) (s : bSt), l + n = bi σ 12 22 → 0 ≤ l → bO1 153 σ s → bDs σ x l (bi s 153) → A (2, [.ref 12, .int (bn x), .int (bn l), v3, v4], [], s) := by
    intro n
    induction n with
    | zero =>
      intro l v3 v4 s hl l0 ho hD
      refine sq309_2 (bWp_mono _) hA ⟨by omega, by omega⟩ ⟨by omega, by omega⟩ ?_
      rw [ho.2 12 22 (by decide)]
      refine bFf (by omega) (h s ho ?_)
      rwa [show l = bi σ 12 22 by omega] at hD
    | succ n ih =>
      intro l v3 v4 s hl l0 ho hD
      have hc := (hT.2.2.2 l (by omega) (by omega)).2.2.2.2.2.2.2.2.2.2.2.2.1.2
      have hI := (hT.2.2.2 l (by omega) (by omega)).2.2.2.2.2.2.2.2.2.2.2.2.2.2
      refine sq309_2 (bWp_mono _) hA ⟨by omega, by omega⟩ ⟨by omega, by omega⟩ ?_
      rw [ho.2 12 22 (by decide)]
      refine bTt (by omega) ⟨fun z => ⟨⟨by omega, by omega⟩, ⟨by omega, by omega⟩, ?_⟩, fun z => ⟨⟨by omega, by omega⟩, ⟨by omega, by omega⟩, ?_⟩⟩
      · have hD2 : bDs σ x (l + 1) (bi (bw s 153 l 0) 153) := bDs_s hT l0 (by omega) hD (fun t t0 t1 => bi_nj l0 t0 (by omega)) (fun _ => bi_eq (by decide)) (fun w => absurd z w)
        refine sq309_20 (bWp_mono _) hA ⟨by omega, by omega⟩ ⟨by omega, by omega⟩ ⟨by omega, by omega⟩ ?_
        rw [bi_ne (by decide), ho.2 85 l (by decide)]
        exact ⟨⟨by omega, by omega⟩, ⟨by omega, by omega⟩, ⟨by omega, by omega⟩, fun _ => bTt z ⟨⟨by omega, by omega⟩, ih (l + 1) _ _ _ (by omega) (by omega) (bO1_w ho) hD2⟩, fun _ => ⟨⟨by omega, by omega⟩, ih (l + 1) _ _ _ (by omega) (by omega) (bO1_w ho) hD2⟩⟩
      · have K2 : ∀ (n2 : Nat) (k : Int) (v4 : Value) (s' : bSt), k + n2 = bi σ 85 l → 0 ≤ k → bO1 153 σ s' → (∀ t, 0 ≤ t → t ≠ l → bi s' 153 t = bi s 153 t) → bMn (bEdk σ l k) (bi s 153) (bi s' 153 l) → A (20, [.ref 12, .int (bn x), .int (bn l), .int (bn (6 * l + k)), v4], [], s') := by
          intro n2
          induction n2 with
          | zero =>
            intro k v4 s' hk k0 ho' hs' hM
            refine sq309_20 (bWp_mono _) hA ⟨by omega, by omega⟩ ⟨by omega, by omega⟩ ⟨by omega, by omega⟩ ?_
            rw [ho'.2 85 l (by decide)]
            refine ⟨⟨by omega, by omega⟩, ⟨by omega, by omega⟩, ⟨by omega, by omega⟩, bFf (by omega) ⟨⟨by omega, by omega⟩, ih (l + 1) _ _ s' (by omega) (by omega) ho' (bDs_s hT l0 (by omega) hD (fun t t0 t1 => hs' t t0 (by omega)) (fun w => absurd w z) fun _ => ?_)⟩⟩
            rwa [show k = bi σ 85 l by omega] at hM
          | succ n2 ih2 =>
            intro k v4 s' hk k0 ho' hs' hM
            have hi := (hI k k0 (by omega)).2
            have next : ∀ (v : Int) (v4 : Value), bRg v → bMn (bEdk σ l (k + 1)) (bi s 153) v → A (20, [.ref 12, .int (bn x), .int (bn l), .int (bn (6 * l + k + 1)), v4], [], bw s' 153 l v) := fun v v4 hv h3 => by
              rw [show 6 * l + k + 1 = 6 * l + (k + 1) by omega]
              exact ih2 (k + 1) v4 _ (by omega) (by omega) (bO1_w ho') (fun t t0 t2 => by rw [bi_nj l0 t0 t2]; exact hs' t t0 t2) (by rw [bi_eq hv]; exact h3)
            refine sq309_20 (bWp_mono _) hA ⟨by omega, by omega⟩ ⟨by omega, by omega⟩ ⟨by omega, by omega⟩ ?_
            rw [ho'.2 85 l (by decide), ho'.2 86 _ (by decide), ho'.2 87 _ (by decide)]
            refine ⟨⟨by omega, by omega⟩, ⟨by omega, by omega⟩, ⟨by omega, by omega⟩, bTt (by omega) (bFf z ⟨⟨by omega, by omega⟩, fun a => ⟨⟨by omega, by omega⟩, ?_⟩, fun a => ?_⟩)⟩
            · generalize hw : bi σ 87 (6 * l + k) = w at hi ⊢
              have w0 : 0 ≤ w ∧ w < l := by omega
              have hDw := (hD w w0.1 w0.2).1
              have hs := bMn_s (E' := bEdk σ l (k + 1)) (w := w) hM (fun i => by rw [bEdk_s k0, hw]; exact or_congr Iff.rfl ⟨fun e => e.2, fun e => ⟨a, e⟩⟩) (fun i e => by
                obtain ⟨k', b0, b1, b2, b3⟩ := e
                have := bEd_lt hT (o := l) ⟨by omega, by omega⟩ ⟨k', b0, by omega, b2, b3⟩
                exact (hD i (by omega) (by omega)).1.1)
              rw [hs' w w0.1 (by omega)]
              exact sq309_48 (bWp_mono _) hA ⟨by omega, by omega⟩ ⟨by omega, by omega⟩ ⟨by omega, by omega⟩ (bi_rg _ _ _) ⟨fun a => ⟨⟨by omega, by omega⟩, ⟨by omega, by omega⟩, next _ _ (bi_rg _ _ _) (by rwa [if_pos a] at hs)⟩, fun a => ⟨⟨by omega, by omega⟩, fun b => ⟨⟨by omega, by omega⟩, ⟨by omega, by omega⟩, next _ _ ⟨by omega, by omega⟩ (by rwa [if_neg a, if_pos b] at hs)⟩, fun b => ⟨⟨by omega, by omega⟩, fun c => ⟨⟨by omega, by omega⟩, next _ _ ⟨by omega, by omega⟩ (by rwa [if_neg a, if_neg b, if_pos c] at hs)⟩, fun c => ⟨⟨by omega, by omega⟩, next _ _ (bi_rg _ _ _) (by rwa [if_neg a, if_neg b, if_neg c] at hs)⟩⟩⟩⟩
            · exact sq309_48 (bWp_mono _) hA ⟨by omega, by omega⟩ ⟨by omega, by omega⟩ ⟨by omega, by omega⟩ (by decide) (bTt rfl ⟨⟨by omega, by omega⟩, ⟨by omega, by omega⟩, next _ _ (bi_rg _ _ _) (bMn_c hM fun i => by rw [bEdk_s k0]; exact ⟨fun e => e.elim id (fun e => absurd e.1 a), Or.inl⟩)⟩)
        have := K2 (bi σ 85 l).toNat 0 v4 (bw s 153 l (-1)) (by omega) (by decide) (bO1_w ho) (fun t t0 t1 => bi_nj l0 t0 t1) (by rw [bi_eq (by decide)]; exact bMn_z fun j => bEdk_0)
        rwa [show 6 * l + 0 = 6 * l by omega] at this
  exact K (bi σ 12 22).toNat 0 _ _ σ (by omega) (by decide) ⟨rfl, fun _ _ _ => rfl⟩ (fun t t0 t1 => by omega)
end

/-! THE PLAN, 6: the numbers that rules give, taken by the class -/
def bEvRun (x : Int) (s u : bSt) : Prop := (0 ≤ x ∧ x < 6) ∧ ∃ (n : Nat) (e : bSt), bEvZ e ∧ bEvS e ∧ bEvTo n (bEvEnt e x) u ∧ ∀ b ∈ [34, 35, 36, 37, 38], ∀ j, bi s b j = bi e b j
def bNum1 (u : bSt) (x y : Int) : Int := if bEvV u x y < 1000 then bEvV u x y else -1
/-- one target's number from its rule -/
def bRn1 (σ s : bSt) (t : Int) : Prop := (bi σ 78 t = -1 → bi s (bTi t) 4 = -1) ∧ (bi σ 78 t ≠ -1 → ∃ u, bEvRun (bi σ 78 t) σ u ∧ (0 ≤ bi σ 79 t ∧ bi σ 79 t < 8) ∧ bi s (bTi t) 4 = bNum1 u (bi σ 78 t) (bi σ 79 t)) ∧ -1 ≤ bi s (bTi t) 4 ∧ bi s (bTi t) 4 < 1000
/-- what taking them changes -/
def bT68 (σ s : bSt) : Prop := s.2 = σ.2 ∧ (∀ a, a % 256 ∉ bEvK → a % 256 ≠ 8 → ∀ i, bi s a i = bi σ a i) ∧ ∀ a, a % 256 = 8 → ∀ i, 0 ≤ i → i ≠ 4 → bi s a i = bi σ a i
section
variable {d : Nat} {σ s r : bSt} {f : Int → bSt → Prop} {fv : bSt → Prop} {F : Int → Int} {t x y z v k c i q n m : Int}
theorem bT68_refl : bT68 σ σ := ⟨rfl, fun _ _ _ _ => rfl, fun _ _ _ _ _ => rfl⟩
theorem bT68_S (h : bT68 σ s) (k : bSm bEvK s r) : bT68 σ r := ⟨k.1.trans h.1, fun a q1 q2 i => (k.2 a q1 i).trans (h.2.1 a q1 q2 i), fun a q i i0 i1 => (k.2 a (by rw [q]; decide) i).trans (h.2.2 a q i i0 i1)⟩
theorem bT68_4 (h : bT68 σ s) : bT68 σ (bw s (bTi t) 4 v) := ⟨h.1, fun a q1 q2 i => by
    rw [bi_ne (fun e => q2 (by rw [e]; exact bTi_m))]; exact h.2.1 a q1 q2 i, fun a q i i0 i1 => by
    by_cases e : a = bTi t
    · rw [e, bi_nj (by decide) i0 i1, ← e]; exact h.2.2 a q i i0 i1
    · rw [bi_ne e]; exact h.2.2 a q i i0 i1⟩
theorem bT68_un (h : bT68 σ s) : bUn (8 :: bEvK) [] σ s := ⟨fun a q1 q2 i => h.2.1 a (fun z => q1 (List.mem_cons_of_mem _ z)) (fun z => q1 (by rw [z]; exact List.mem_cons_self)) i, fun i _ _ => h.2.1 12 (by decide) (by decide) i, fun _ _ _ _ => by unfold bj; rw [h.1], fun _ _ _ => by unfold br; rw [h.1], fun _ _ => by rw [h.1]⟩
theorem bTg_68 (h : bT68 σ s) (hT : bTg σ) : bTg s := by
  obtain ⟨a1, a2, a3, a4⟩ := hT
  have e := h.2.1
  have e8 := fun t j (j0 : 0 ≤ j) (j1 : j ≠ 4) => h.2.2 (bTi t) bTi_m j j0 j1
  have e38 := fun t j => e (bTi t + 38) (by have := bTi_m (t := t); rw [show (bTi t + 38) % 256 = 46 by omega]; decide) (by have := bTi_m (t := t); omega) j
  have e39 := fun t j => e (bTi t + 39) (by have := bTi_m (t := t); rw [show (bTi t + 39) % 256 = 47 by omega]; decide) (by have := bTi_m (t := t); omega) j
  have el : ∀ a ∈ [12, 9, 75, 76, 77, 78, 79, 80, 81, 82, 83, 84, 85, 86, 87, 88, 89, 90, 91, 92, 93], ∀ j, bi s a j = bi σ a j := fun a ha j => e a (by
    simp only [List.mem_cons, List.not_mem_nil, or_false] at ha
    rcases ha with rfl | rfl | rfl | rfl | rfl | rfl | rfl | rfl | rfl | rfl | rfl | rfl | rfl | rfl | rfl | rfl | rfl | rfl | rfl | rfl | rfl <;> decide) (by
    simp only [List.mem_cons, List.not_mem_nil, or_false] at ha
    rcases ha with rfl | rfl | rfl | rfl | rfl | rfl | rfl | rfl | rfl | rfl | rfl | rfl | rfl | rfl | rfl | rfl | rfl | rfl | rfl | rfl | rfl <;> decide) j
  refine ⟨?_, fun t t0 t1 => ?_, fun t t0 t1 => ?_, fun t t0 t1 => ?_⟩
  · rw [el 12 (by decide), el 9 (by decide)]; exact a1
  · rw [el 12 (by decide)] at t1
    have : br s 50 t = br σ 50 t := by unfold br; rw [h.1]
    rw [this]; exact a2 t t0 t1
  · rw [el 12 (by decide)] at t0
    obtain ⟨b1, b2, b3⟩ := a3 t t0 t1
    have : br s 50 t = br σ 50 t := by unfold br; rw [h.1]
    rw [this]
    refine ⟨b1, fun b hb => by rw [h.1]; exact b2 b hb, fun a ha => ?_⟩
    rw [el a (by
      simp only [List.mem_cons, List.not_mem_nil, or_false] at ha
      rcases ha with rfl | rfl | rfl | rfl | rfl | rfl <;> decide)]
    exact b3 a ha
  · rw [el 12 (by decide)] at t1
    have k := a4 t t0 t1
    unfold bTg1 at k ⊢
    simp only [e8 t 0 (by decide) (by decide), e8 t 1 (by decide) (by decide), e8 t 2 (by decide) (by decide), e8 t 3 (by decide) (by decide), e8 t 5 (by decide) (by decide), e8 t 6 (by decide) (by decide), e8 t 7 (by decide) (by decide), e8 t 8 (by decide) (by decide), e8 t 9 (by decide) (by decide), e8 t 10 (by decide) (by decide), e8 t 11 (by decide) (by decide), e8 t 12 (by decide) (by decide), e8 t 13 (by decide) (by decide), e8 t 14 (by decide) (by decide), e38, e39, el 75 (by decide), el 76 (by decide), el 77 (by decide), el 78 (by decide), el 79 (by decide), el 80 (by decide), el 81 (by decide), el 82 (by decide), el 83 (by decide), el 84 (by decide), el 85 (by decide), el 86 (by decide), el 87 (by decide), el 88 (by decide), el 89 (by decide), el 90 (by decide), el 91 (by decide), el 92 (by decide), el 93 (by decide)]
    exact k
theorem w96 (hx : 0 ≤ x ∧ x < 6) (hy : 0 ≤ y ∧ y < 8) (hS : bEvS σ) (hX : x = bi σ 7 15 → bEvX x σ) (h : ∀ t, bSm bEvK σ t → bi t 7 15 = x → bEvX x t → f (bNum1 t x y) t) : bWp (d + 7) 96 [.ref 7, .int (bn x), .int (bn y)] σ (bRn f) := by
  refine ⟨rfl, fun A hA => sq96_0 (bWp_mono _) hA ⟨by omega, by omega⟩ ⟨by omega, by omega⟩ (w101 hx hS hX fun t a1 a2 a3 => w99 hx hy ?_)⟩
  have b := bEvV_b a3 hy
  have o := (bEvX_ok a3).1.2.1
  have k := h t a1 a2 a3
  unfold bNum1 at k
  exact ⟨fun q => bRn_i ⟨by omega, by omega⟩ (by rwa [if_pos q] at k), fun q => bRn_i (by decide) (by rwa [if_neg q] at k)⟩
theorem bEvRun_of (X : bEvX x s) : ∃ u, bEvRun x s u ∧ ∀ y, bNum1 u x y = bNum1 s x y := by
  obtain ⟨hx, n, e, u, z, zs, T, c1, c2, c3, c4, c5⟩ := X
  refine ⟨u, ⟨hx, n, e, z, zs, T, c1⟩, fun y => ?_⟩
  unfold bNum1 bEvV
  rw [c5, c2 39 (by decide)]
theorem bEvRun_m (h : bEvRun x s r) (e : ∀ b ∈ [34, 35, 36, 37, 38], ∀ j, bi σ b j = bi s b j) : bEvRun x σ r := by
  obtain ⟨hx, n, e0, z, zs, T, c⟩ := h
  exact ⟨hx, n, e0, z, zs, T, fun b hb j => (e b hb j).trans (c b hb j)⟩
theorem w68 (hT : bTg σ) (hS : bEvS σ) (hX : bi σ 7 15 = -1 ∨ bXe σ) (h : ∀ s, bT68 σ s → (bi s 7 15 = -1 ∨ bXe s) → (∀ t, bTgk σ t → bRn1 σ s t) → fv s) : bWp (d + 8) 68 [.ref 6] σ (bRv fv) := by
  have tc := hT.1
  refine ⟨rfl, fun A hA => sq68_0 (bWp_mono _) hA ?_⟩
  have L : ∀ (m : Nat) (l : Int) (s : bSt) (v2 v3 : Value), l + m = bi σ 12 22 → 0 ≤ l → bT68 σ s → (bi s 7 15 = -1 ∨ bXe s) → (∀ t, 0 ≤ t → t < l → bRn1 σ s t) → A (2, [.ref 6, .int (bn l), v2, v3], [], s) := by
    intro m
    induction m with
    | zero =>
      intro l s v2 v3 hl l0 M X D
      have e9 : bi s 9 0 = bi σ 9 0 := M.2.1 9 (by decide) (by decide) 0
      exact sq68_2 (bWp_mono _) hA ⟨by omega, by omega⟩ ⟨fun w => absurd w (by omega), fun _ => h s M X (fun t ht => D t ht.1 (by have := ht.2; omega))⟩
    | succ m ih =>
      intro l s v2 v3 hl l0 M X D
      have hTs := bTg_68 M hT
      have e9 : bi s 9 0 = bi σ 9 0 := M.2.1 9 (by decide) (by decide) 0
      have e22 : bi s 12 22 = bi σ 12 22 := M.2.1 12 (by decide) (by decide) 22
      have hl2 : l < bi σ 12 22 := by omega
      have e78 : bi s 78 l = bi σ 78 l := M.2.1 78 (by decide) (by decide) l
      have e79 : bi s 79 l = bi σ 79 l := M.2.1 79 (by decide) (by decide) l
      have rl := (hTs.2.2.2 l l0 (by omega)).2.2.2.1
      rw [e78, e79] at rl
      have hSs : bEvS s := by
        unfold bEvS
        simp only [M.2.1 34 (by decide) (by decide), M.2.1 35 (by decide) (by decide), M.2.1 36 (by decide) (by decide), M.2.1 37 (by decide) (by decide), M.2.1 38 (by decide) (by decide)]
        exact hS
      have keep : ∀ (s' : bSt) (v : Int), bT68 σ s' → (∀ t, bi s' (bTi t) 4 = bi s (bTi t) 4) → ∀ t, 0 ≤ t → t < l → bRn1 σ (bw s' (bTi l) 4 v) t := fun s' v M' e t t0 t1 => by
        have := D t t0 t1
        unfold bRn1 at this ⊢
        rw [bi_ne (show bTi t ≠ bTi l by unfold bTi; omega), e]
        exact this
      refine sq68_2 (bWp_mono _) hA ⟨by omega, by omega⟩ ⟨fun _ => w120 (hTs.2.1 l l0 (by omega)) l0 (by omega) ⟨bTi_m, fun w => ⟨⟨by omega, by omega⟩, ?_⟩, fun w => ?_⟩, fun w => absurd (show l < bi s 9 0 by omega) w⟩
      · have e3 : bi σ 78 l = -1 := by
          rcases rl with ⟨a, _⟩ | ⟨a, a2, b, b2, e⟩
          · exact a
          · omega
        refine ih (l + 1) _ _ _ (by omega) (by omega) (bT68_4 M) (X.imp (fun q => by rw [bi_ne (by unfold bTi; omega)]; exact q) (fun q => ?_)) (fun t t0 t1 => ?_)
        · unfold bXe
          rw [bi_ne (by unfold bTi; omega)]
          exact bEvX_m q (fun b hb j => bi_ne (by
            simp only [List.mem_cons, List.not_mem_nil, or_false] at hb
            unfold bTi; omega))
        · by_cases e : t = l
          · rw [e]
            unfold bRn1
            rw [bi_eq (by decide)]
            exact ⟨fun _ => rfl, fun w => absurd e3 w, by decide, by decide⟩
          · exact keep s _ M (fun _ => rfl) t t0 (by omega)
      · rcases rl with ⟨a, e⟩ | ⟨a, a2, b, b2, e⟩
        · exact absurd e w
        · rw [e, bShr_3 (by omega) (by omega), bAnd_7 (by omega) (by omega), show (bi σ 78 l * 8 + bi σ 79 l) / 8 = bi σ 78 l by omega, show (bi σ 78 l * 8 + bi σ 79 l) % 8 = bi σ 79 l by omega]
          refine w96 ⟨a, a2⟩ ⟨b, b2⟩ hSs (fun q => X.elim (fun z => absurd (q.trans z) (by omega)) (fun z => by rw [q]; exact z)) fun s1 m1 m2 m3 => ⟨⟨by omega, by omega⟩, ?_⟩
          have M1 := bT68_S M m1
          have vb := bEvV_b m3 ⟨b, b2⟩
          have nb : -1 ≤ bNum1 s1 (bi σ 78 l) (bi σ 79 l) ∧ bNum1 s1 (bi σ 78 l) (bi σ 79 l) < 1000 := by
            unfold bNum1
            by_cases q : bEvV s1 (bi σ 78 l) (bi σ 79 l) < 1000
            · rw [if_pos q]; exact ⟨vb.1, q⟩
            · rw [if_neg q]; decide
          refine ih (l + 1) _ _ _ (by omega) (by omega) (bT68_4 M1) (Or.inr ?_) (fun t t0 t1 => ?_)
          · unfold bXe
            rw [bi_ne (by unfold bTi; omega), m2]
            exact bEvX_m m3 (fun b hb j => bi_ne (by
              simp only [List.mem_cons, List.not_mem_nil, or_false] at hb
              unfold bTi; omega))
          · by_cases e : t = l
            · rw [e]
              unfold bRn1
              rw [bi_eq ⟨by omega, by omega⟩]
              refine ⟨fun w => by omega, fun _ => ?_, nb⟩
              obtain ⟨u, hu, hn⟩ := bEvRun_of m3
              exact ⟨u, bEvRun_m hu (fun b hb j => (M1.2.1 b (by revert hb; simp only [List.mem_cons, List.not_mem_nil, or_false]; rintro (rfl | rfl | rfl | rfl | rfl) <;> decide) (by revert hb; simp only [List.mem_cons, List.not_mem_nil, or_false]; rintro (rfl | rfl | rfl | rfl | rfl) <;> decide) j).symm), ⟨b, b2⟩, (hn _).symm⟩
            · exact keep s1 _ M1 (fun t => m1.2 (bTi t) (by rw [bTi_m]; decide) 4) t t0 (by omega)
  exact L (bi σ 12 22).toNat 0 σ _ _ (by omega) (by decide) bT68_refl hX (fun t t0 t1 => by omega)
end

/-! THE CASE targetError -/
/-- what plans change on both sides, short of actions -/
def bPlK : List Nat := [6, 7, 8, 27, 28, 29, 31, 32, 39, 40, 41, 42, 43, 44, 45, 60, 61, 62, 63, 64, 65, 66, 67, 68, 69, 94, 95, 96, 97, 98, 99]
/-- the marks, and how many there can be after N calls -/
def bPm (N : Nat) (σ : bSt) : Prop := bMks σ ∧ bi σ 6 10 ≤ 2 * N
section
variable {d : Nat} {σ s t u e r r' s1 s2 : bSt} {f : Int → bSt → Prop} {fv : bSt → Prop} {g0 : Nat → bSt → Prop} {F : Int → Int} {x y k n m p v w o j l a i t c q : Int} {R : bSt → Prop} {H : bHp} {L N : Nat}
theorem bErr_m (h : bPag σ s) : ∀ (n : Nat) (y : Int), bErr s n y = bErr σ n y
  | 0, y => by
    unfold bErr
    rw [bFx_m h]
  | n + 1, y => by
    unfold bErr
    rw [bFx_m h, bErr_m h n]
theorem bPm_up (h : bPm N σ) : bPm (N + 1) σ := ⟨h.1, by have := h.2; omega⟩
theorem bPm_un {S : List Nat} {F : List Int} (u : bUn S F σ s) (h6 : 6 ∉ S) (h27 : 27 ∉ S) (h : bPm N σ) : bPm N s := by
  unfold bPm bMks
  simp only [u.1 6 h6 (by decide), u.1 27 h27 (by decide)]
  exact h
theorem bRn1_m (h : bRn1 σ s t) (e4 : bi r (bTi t) 4 = bi s (bTi t) 4) (e : ∀ b ∈ [34, 35, 36, 37, 38, 78, 79], ∀ j, bi r b j = bi σ b j) : bRn1 r r t := by
  unfold bRn1 at h ⊢
  rw [e 78 (by decide), e 79 (by decide), e4]
  refine ⟨h.1, fun q => ?_, h.2.2⟩
  obtain ⟨u, hu, hy, h4⟩ := h.2.1 q
  exact ⟨u, bEvRun_m hu (fun b hb j => e b (by revert hb; simp only [List.mem_cons, List.not_mem_nil, or_false]; omega) j), hy, h4⟩
theorem bShl_1 : ∀ t : Fin 16, bAnd (bShr (bShl 1 (t.val : Int)) (t.val : Int)) 1 = 1 := by decide +kernel
theorem w167 (hF : bFi σ) (hL : bTl σ) (hT : bTg σ) (hS : bRs σ) (hX : bi σ 7 15 = -1 ∨ bXe σ) (hM : bMks σ) (hr : bRg (bi σ 6 10 + 1)) (ht : bRg t) (hq : bRg q) (h1 : ¬ (bTgk σ t ∧ 0 ≤ q) → g0 0 (bC σ 1 6)) (h0 : bTgk σ t → 0 ≤ q → ∀ s1 s, bT68 σ s1 → (bi s1 7 15 = -1 ∨ bXe s1) → (∀ t, bTgk σ t → bRn1 σ s1 t) → bWk s1 s → bi s 6 10 = bi s1 6 10 + 1 → f (bErr s1 q.toNat (t * 256 + bi σ 10 0)) s) : bWp (d + 9) 167 [.ref 11, .int (bn t), .int (bn q)] σ (bRnx f g0) := by
  have tc := hT.1
  refine ⟨rfl, fun A hA => sq167_0 (bWp_mono _) hA ht hq (w136 ht (by rw [tc.2.2]; exact ⟨by omega, by omega⟩) (by omega) (fun a => w137 hq (by omega) (fun b => ?_) (fun b => h1 fun w => b w.2)) (fun a => h1 fun w => a ⟨w.1.1, by rw [tc.2.2]; exact w.1.2⟩))⟩
  have tk : bTgk σ t := ⟨a.1, by rw [← tc.2.2]; exact a.2⟩
  refine w68 hT (bRs_S hS) hX fun s1 T1 X1 D1 => ?_
  have u1 := bT68_un T1
  have e22 : bi s1 12 22 = bi σ 12 22 := T1.2.1 12 (by decide) (by decide) 22
  have tk1 : ∀ t, bTgk s1 t → bTgk σ t := fun t h => ⟨h.1, by rw [← e22]; exact h.2⟩
  have e6 : bi s1 6 10 = bi σ 6 10 := T1.2.1 6 (by decide) (by decide) 10
  have e10 : bi s1 10 0 = bi σ 10 0 := T1.2.1 10 (by decide) (by decide) 0
  have M1 : bMks s1 := by
    unfold bMks
    simp only [T1.2.1 6 (by decide) (by decide), T1.2.1 27 (by decide) (by decide)]
    exact hM
  refine w78 (bFi_un u1 (by decide) hF) (bTl_un u1 (by decide) (by decide) hL) (bTg_68 T1 hT) (fun t h => (D1 t (tk1 t h)).2.2) M1 (by rw [e6]; exact hr) ⟨tk.1, by rw [e22]; exact tk.2⟩ b hq fun s W e => ?_
  have er := bErr_rg (bTg_68 T1 hT) q.toNat (t * 256 + bi s1 10 0) (by
    have e := hL.2.2.2
    have a0 := hL.2.2.1 0 (by decide) (by decide)
    have a1 := hL.2.2.1 1 (by decide) (by decide)
    have a2 := hL.2.2.1 2 (by decide) (by decide)
    have a3 := hL.2.2.1 3 (by decide) (by decide)
    have := tk.1
    omega) (by
    have e := hL.2.2.2
    have a0 := hL.2.2.1 0 (by decide) (by decide)
    have a1 := hL.2.2.1 1 (by decide) (by decide)
    have a2 := hL.2.2.1 2 (by decide) (by decide)
    have a3 := hL.2.2.1 3 (by decide) (by decide)
    rw [show (t * 256 + bi s1 10 0) / 256 = t by omega]
    exact ⟨tk.1, by rw [e22]; exact tk.2⟩)
  have := h0 tk b s1 s T1 X1 D1 W e
  rw [e10] at er ⊢
  exact bRnx_i ⟨by omega, by omega⟩ this
theorem w244 (hF : bFi σ) (hL : bTl σ) (hT : bTg σ) (hS : bRs σ) (hN : bTgk σ t → 0 ≤ q → ∀ t, bTgk σ t → bRn1 σ σ t) (ht : bRg t) (hq : bRg q) (h1 : ¬ (bTgk σ t ∧ 0 ≤ q) → f 0 (bw σ 12 0 1)) (h0 : bTgk σ t → 0 ≤ q → ∀ s, bLook (bShl 1 t) (bw σ 12 0 0) s → f (bErr σ q.toNat (t * 256 + bi σ 10 0)) s) : bWp (d + 7) 244 [.ref 12, .int (bn t), .int (bn q)] σ (bRn f) := by
  have tc := hT.1
  refine ⟨rfl, fun A hA => ?_⟩
  have bad : ∀ {P : Int → bSt → Prop}, ¬ (bTgk σ t ∧ 0 ≤ q) → (∀ s, f 0 s → P 1 s) → bWp (d + 6) 197 [.ref 12, .int (bn 1)] σ (bRn P) := fun z c => w197 (by decide) (fun w => absurd w (by decide)) (fun _ => c _ (h1 z))
  refine sq244_0 (bWp_mono _) hA ht hq (w225 ⟨tc.1, tc.2.1⟩ ht (fun tk => bFf (by decide) ⟨fun z => bad (fun w => absurd w.2 (by omega)) fun s z => ⟨fun w => absurd w (by decide), fun _ => bRn_i (by decide) z⟩, fun z => ?_⟩) (fun tk => bTt rfl (bad (fun w => tk w.1) fun s z => ⟨fun w => absurd w (by decide), fun _ => bRn_i (by decide) z⟩)))
  refine w197 (by decide) (fun _ => ⟨fun _ => ?_, fun w => absurd rfl w⟩) (fun w => absurd rfl w)
  have tk1 := tk.1
  have tk2 := tk.2
  have u0 : bUn [] [0] σ (bw σ 12 0 0) := bUn_f bUn_refl (by decide) (by decide)
  generalize hs0 : bw σ 12 0 0 = s0 at *
  have ag0 : bPag σ s0 := by
    rw [← hs0]
    exact ⟨fun a ha i => bi_ne (by revert ha; simp only [List.mem_cons, List.not_mem_nil, or_false]; omega), bi_nj (by decide) (by decide) (by decide), bi_nj (by decide) (by decide) (by decide), fun t => bi_ne (by unfold bTi; omega)⟩
  have hT0 := bTg_un u0 (by decide) (by decide) hT
  have tk0 : ∀ t, bTgk s0 t → bTgk σ t := fun t h => ⟨h.1, by rw [← ag0.2.2.1]; exact h.2⟩
  refine w241 (bFi_un u0 (by decide) hF) (bTl_un u0 (by decide) (by decide) hL) hT0 (bRs_un u0 (by decide) hS) (fun t h => bRn1_m (hN tk (by omega) t (tk0 t h)) (ag0.2.2.2 t) (fun b hb j => u0.1 b (by simp) (by
    simp only [List.mem_cons, List.not_mem_nil, or_false] at hb
    rcases hb with rfl | rfl | rfl | rfl | rfl | rfl | rfl <;> decide) j)) (bShl_rg _ _) fun s LK => ?_
  have k0 := h0 tk (by omega) s LK
  obtain ⟨e2, M, a99, nd, ro⟩ := LK
  have ag := bLk2_pag M
  have e10 : bi s0 10 0 = bi σ 10 0 := u0.1 10 (by decide) (by decide) 0
  have hc : 0 ≤ bi σ 10 0 ∧ bi σ 10 0 < 256 := by
    have e := hL.2.2.2
    have a0 := hL.2.2.1 0 (by decide) (by decide)
    have a1 := hL.2.2.1 1 (by decide) (by decide)
    have a2 := hL.2.2.1 2 (by decide) (by decide)
    have a3 := hL.2.2.1 3 (by decide) (by decide)
    omega
  refine ⟨⟨by omega, by omega⟩, w238 (bTl_un M (by decide) (by decide) (bTl_un u0 (by decide) (by decide) hL)) ⟨⟨by rw [M.1 10 (by decide) (by decide), e10]; omega, by rw [M.1 10 (by decide) (by decide), e10]; omega⟩, ?_⟩⟩
  rw [M.1 10 (by decide) (by decide), e10]
  have root : bi s 94 (256 * t + bi σ 10 0) ≠ 0 := by
    rw [← e10]
    refine ro t ⟨tk1, by rw [ag0.2.2.1]; exact tk2⟩ ?_
    obtain ⟨tf, e⟩ := bFinN (n := 16) (x := t) tk1 (by omega)
    rw [e]
    exact bShl_1 tf
  have Lp : ∀ (m : Nat) (j y : Int) (v1 : Value), j + m = q → 0 ≤ j → (y = -1 ∧ f (-1) s ∨ 0 ≤ y ∧ bTgk s0 (y / 256) ∧ bi s 94 y ≠ 0 ∧ y / 256 + j < 16 ∧ f (bErr s0 m y) s) → A (28, [.ref 12, v1, .int (bn q), .int (bn y), .int (bn j)], [], s) := by
    intro m
    induction m with
    | zero =>
      intro j y v1 hj j0 hy
      have ej : j = q := by omega
      rw [ej]
      rcases hy with ⟨ey, hf⟩ | ⟨y0, yt, yn, yb, hf⟩
      · rw [ey]
        exact sq244_28 (bWp_mono _) hA hq (by decide) hq ⟨fun w => absurd w (by omega), fun _ => ⟨fun _ => bRn_i (by decide) hf, fun w => absurd rfl w⟩⟩
      · have yt2 := yt.2
        have tc0 := hT0.1
        have ld := (nd y y0 yt yn).1
        have fr := bFx_rg hT0 y0 yt
        unfold bErr at hf
        refine sq244_28 (bWp_mono _) hA hq ⟨by omega, by omega⟩ hq ⟨fun w => absurd w (by omega), fun _ => ⟨fun w => absurd w (by omega), fun _ => ⟨⟨y0, by omega⟩, ?_⟩⟩⟩
        rw [ld.1]
        refine ⟨fun w => bRn_i (by decide) (by rwa [if_pos w] at hf), fun w => ?_⟩
        rw [if_neg w] at hf
        refine ⟨y0, ⟨by omega, by omega⟩, ⟨by omega, by omega⟩, bRn_i ⟨by omega, by omega⟩ ?_⟩
        rw [show 10 * (y / 256) = y / 256 * 10 by omega]
        exact hf
    | succ m ih =>
      intro j y v1 hj j0 hy
      have hq2 := hq.2
      rcases hy with ⟨ey, hf⟩ | ⟨y0, yt, yn, yb, hf⟩
      · rw [ey]
        exact sq244_28 (bWp_mono _) hA hq (by decide) ⟨by omega, by omega⟩ ⟨fun _ => ⟨fun _ => ⟨fun _ => bRn_i (by decide) hf, fun w => absurd rfl w⟩, fun w => absurd rfl w⟩, fun w => absurd (show j < q by omega) w⟩
      · have yt2 := yt.2
        have tc0 := hT0.1
        obtain ⟨ld, cl⟩ := nd y y0 yt yn
        have fr := bFx_rg hT0 y0 yt
        unfold bErr at hf
        refine sq244_28 (bWp_mono _) hA hq ⟨by omega, by omega⟩ ⟨by omega, by omega⟩ ⟨fun _ => ⟨fun w => absurd w (by omega), fun _ => ⟨fun w => absurd w (by omega), fun _ => ⟨⟨y0, by omega⟩, ?_⟩⟩⟩, fun w => absurd (show j < q by omega) w⟩
        rw [ld.1, ld.2.1]
        refine ⟨fun w => ⟨⟨by omega, by omega⟩, ?_⟩, fun w => ⟨⟨by omega, by omega⟩, ih (j + 1) (-1) _ (by omega) (by omega) (Or.inl ⟨rfl, by rwa [if_neg w] at hf⟩)⟩⟩
        rw [if_pos w] at hf ⊢
        obtain ⟨k, k0, k1, k2, k3⟩ := bFx_6 hT0 y0 yt w
        obtain ⟨⟨q1, q2, q3⟩, _⟩ := bNd_at hT0 yt k0 k1 k2
        rw [k3] at hf ⊢
        exact ih (j + 1) _ _ (by omega) (by omega) (Or.inr ⟨q1, q3, cl k k0 k1 k2, by omega, hf⟩)
  rw [← bErr_m ag0, show t * 256 + bi σ 10 0 = 256 * t + bi σ 10 0 by omega] at k0
  exact Lp q.toNat 0 _ _ (by omega) (by decide) (Or.inr ⟨by omega, by rw [show (256 * t + bi σ 10 0) / 256 = t by omega]; exact ⟨tk1, by rw [ag0.2.2.1]; exact tk2⟩, root, by omega, k0⟩)
end

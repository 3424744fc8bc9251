/-! THE CASE actionOf -/
def bLk3 : List Nat := [60, 61, 62, 63, 64, 65, 66, 67, 68, 69, 94, 95, 96, 97, 98, 99, 116]
section
variable {d : Nat} {σ s t r s0 s1 : bSt} {f : Int → bSt → Prop} {fv : bSt → Prop} {g0 : Nat → bSt → Prop} {q x y v i op nu ve ho k m : Int} {L : List Int} {M N : Int → Int} {Od Nd : Int → Prop}
/-- class and reference know the same action of a node without error -/
theorem bKn_eq (hA : bAk σ) (hT : bTg σ) (h : ∀ x, Od x → (0 ≤ x ∧ bTgk σ (x / 256)) ∧ bCkf σ M x ∧ ∀ k, 0 ≤ k → k < bi σ 85 (x / 256) → bi σ 86 (6 * (x / 256) + k) = 2 → Od (bNod σ x k))
    (g : ∀ x, 0 ≤ x → bTgk σ (x / 256) → Nd x → (bFx σ x = 0 → bCkf σ N x) ∧ ∀ k, 0 ≤ k → k < bi σ 85 (x / 256) → bi σ 86 (6 * (x / 256) + k) = 2 → Nd (bNod σ x k)) : ∀ (n : Nat) (x : Int), x / 256 < n → Od x → Nd x → bFx σ x = 0 → M x = N x := by
  intro n
  induction n with
  | zero =>
    intro x hx o _ _
    have := (h x o).1.2.1
    omega
  | succ n ih =>
    intro x hx o nd fz
    obtain ⟨⟨x0, xt⟩, ck, cl⟩ := h x o
    obtain ⟨g1, g2⟩ := g x x0 xt nd
    obtain ⟨_, _, f40, _⟩ := bIl_40 (G := M) hT x0 xt fz
    refine bCkf_u hA ck (g1 fz) hT xt (fun _ k k0 k1 hK => ?_)
    obtain ⟨⟨_, y1, _⟩, _⟩ := bNd_at hT xt k0 k1 hK
    exact (ih _ (by omega) (cl k k0 k1 hK) (g2 k k0 k1 hK) (f40 k k0 k1 hK)).symm
theorem w249 {t : Int} (hF : bFi σ) (hL : bTl σ) (hT : bTg σ) (hS : bRs σ) (hA : bAk σ) (hN : ∀ t, bTgk σ t → bRn1 σ σ t) (ht : bTgk σ t)
    (h : ∀ s (Nd : Int → Prop), s.2 = σ.2 → bUn bLk3 [7] σ s → Nd (t * 256 + bi σ 10 0) → (∀ x, 0 ≤ x → bTgk σ (x / 256) → Nd x → (bFx σ x = 0 → bCkf σ (bMa s) x) ∧ ∀ k, 0 ≤ k → k < bi σ 85 (x / 256) → bi σ 86 (6 * (x / 256) + k) = 2 → Nd (bNod σ x k)) → f (if bFx σ (t * 256 + bi σ 10 0) = 0 then bi s 99 (t * 256 + bi σ 10 0) else -1) s) : bWp (d + 7) 249 [.ref 12, .int (bn t)] σ (bRn f) := by
  have tc := hT.1
  have ht1 := ht.1
  have ht2 := ht.2
  have hc : 0 ≤ bi σ 10 0 ∧ bi σ 10 0 < 256 := by
    have e := hL.2.2.2
    have a0 := hL.2.2.1 0 (by decide) (by decide)
    have a1 := hL.2.2.1 1 (by decide) (by decide)
    have a2 := hL.2.2.1 2 (by decide) (by decide)
    have a3 := hL.2.2.1 3 (by decide) (by decide)
    omega
  refine ⟨rfl, fun A hA' => sq249_0 (bWp_mono _) hA' ⟨by omega, by omega⟩ (w241 hF hL hT hS hN (bShl_rg _ _) fun s0 LK => ?_)⟩
  obtain ⟨e2, M0, a99, nd, ro⟩ := LK
  have ag := bLk2_pag M0
  have ref : ∀ b ∈ [76, 101, 102, 103, 104, 105, 106], ∀ j, bi s0 b j = bi σ b j := fun b hb j => M0.1 b (by
    simp only [List.mem_cons, List.not_mem_nil, or_false] at hb
    rcases hb with rfl | rfl | rfl | rfl | rfl | rfl | rfl <;> decide) (by
    simp only [List.mem_cons, List.not_mem_nil, or_false] at hb
    rcases hb with rfl | rfl | rfl | rfl | rfl | rfl | rfl <;> decide) j
  have e49 : bi s0 12 49 = bi σ 12 49 := M0.2.1 49 (by decide) (by decide)
  have A0 : bAk s0 := bAk_m hA (fun b hb j => M0.1 b (by
    simp only [List.mem_cons, List.not_mem_nil, or_false] at hb
    unfold bLk2
    simp only [List.mem_cons, List.not_mem_nil, or_false, not_or]
    omega) (by
    simp only [List.mem_cons, List.not_mem_nil, or_false] at hb
    omega) j) (M0.1 6 (by decide) (by decide) 13) e49 (fun a => by unfold br; rw [e2]) (fun a b _ => by rw [e2])
  have T0 := bTg_un M0 (by decide) (by decide) hT
  have tk0 : ∀ t, bTgk s0 t → bTgk σ t := fun t h => ⟨h.1, by rw [← ag.2.2.1]; exact h.2⟩
  have en : ∀ x k, bNod s0 x k = bNod σ x k := fun x k => by unfold bNod; rw [ag.1 87 (by decide), bBw_m ag]
  refine w247 (bFi_un M0 (by decide) hF) T0 A0 (fun x x0 xt n => ?_) a99 fun s M1 D => ?_
  · obtain ⟨⟨l1, l2, l3⟩, l4⟩ := nd x x0 (tk0 _ xt) n
    rw [bFx_m ag, ag.1 85 (by decide), bNu_m ag, bVe_m ag]
    refine ⟨l1, fun z => l3 (by rw [z]; decide) (by rw [z]; decide) (by rw [z]; decide), fun k k0 k1 hK => ?_⟩
    rw [ag.1 86 (by decide)] at hK
    rw [en]
    exact l4 k k0 k1 hK
  · have u1 : bUn [99, 116] [] s0 s := bUn_S bUn_refl M1 (by decide)
    have u : bUn bLk3 [7] σ s := bUn_trans (bUn_mono M0 (by decide) (by decide)) (bUn_mono u1 (by decide) (by decide))
    have e10 : bi s 10 0 = bi σ 10 0 := u.1 10 (by decide) (by decide) 0
    refine ⟨⟨by omega, by omega⟩, w238 (bTl_un u (by decide) (by decide) hL) ?_⟩
    rw [e10]
    have rt : bi s0 94 (256 * t + bi σ 10 0) ≠ 0 := by
      refine ro t ht ?_
      obtain ⟨tf, e⟩ := bFinN (n := 16) (x := t) ht1 (by omega)
      rw [e]
      exact bShl_1 tf
    have xt : bTgk σ ((256 * t + bi σ 10 0) / 256) := by rw [show (256 * t + bi σ 10 0) / 256 = t by omega]; exact ht
    have e95 : bi s 95 (256 * t + bi σ 10 0) = bFx σ (256 * t + bi σ 10 0) % 8 := (u1.1 95 (by decide) (by decide) _).trans (nd _ (by omega) xt rt).1.1
    have hk := h s (fun x => bi s0 94 x ≠ 0) (M1.1.trans e2) u (by rw [show t * 256 + bi σ 10 0 = 256 * t + bi σ 10 0 by omega]; exact rt) (fun x x0 xt n => ⟨fun z => ?_, (nd x x0 xt n).2⟩)
    · rw [show t * 256 + bi σ 10 0 = 256 * t + bi σ 10 0 by omega] at hk
      rw [e95]
      refine ⟨⟨by omega, by omega⟩, ⟨by omega, by omega⟩, fun z => bRn_i (bi_rg _ _ _) ?_, fun z => bRn_i (by decide) ?_⟩
      · rwa [if_pos (bFx_z hT (by omega) xt z)] at hk
      · rwa [if_neg (fun w => z (by rw [w]; rfl))] at hk
    · exact (bCkf_b ag ref e49 hT xt).1 (D x x0 ⟨xt.1, by rw [ag.2.2.1]; exact xt.2⟩ n (by rw [bFx_m ag]; exact z))
theorem w248 {t : Int} (hF : bFi σ) (hL : bTl σ) (hT : bTg σ) (hS : bRs σ) (hA : bAk σ) (hN : bTgk σ t → ∀ t, bTgk σ t → bRn1 σ σ t) (ht : bRg t) (h1 : ¬ bTgk σ t → f 0 (bw σ 12 0 1))
    (h0 : bTgk σ t → ∀ s (Nd : Int → Prop), s.2 = (bw σ 12 0 0).2 → bUn bLk3 [7] (bw σ 12 0 0) s → Nd (t * 256 + bi σ 10 0) → (∀ x, 0 ≤ x → bTgk σ (x / 256) → Nd x → (bFx σ x = 0 → bCkf σ (bMa s) x) ∧ ∀ k, 0 ≤ k → k < bi σ 85 (x / 256) → bi σ 86 (6 * (x / 256) + k) = 2 → Nd (bNod σ x k)) → f (if bFx σ (t * 256 + bi σ 10 0) = 0 then bi s 99 (t * 256 + bi σ 10 0) else -1) s) : bWp (d + 8) 248 [.ref 12, .int (bn t)] σ (bRn f) := by
  have tc := hT.1
  refine ⟨rfl, fun A hA' => ?_⟩
  refine sq248_0 (bWp_mono _) hA' ht (w225 ⟨tc.1, tc.2.1⟩ ht (fun tk => bFf (by decide) ?_) (fun tk => bTt rfl (w197 (by decide) (fun w => absurd w (by decide)) (fun _ => ⟨fun w => absurd w (by decide), fun _ => bRn_i (by decide) (h1 tk)⟩))))
  refine w197 (by decide) (fun _ => ⟨fun _ => ?_, fun w => absurd rfl w⟩) (fun w => absurd rfl w)
  have u0 : bUn [] [0] σ (bw σ 12 0 0) := bUn_f bUn_refl (by decide) (by decide)
  have k0 := h0 tk
  generalize hs0 : bw σ 12 0 0 = s0 at *
  have ag0 : bPag σ s0 := by
    rw [← hs0]
    exact ⟨fun a ha i => bi_ne (by revert ha; simp only [List.mem_cons, List.not_mem_nil, or_false]; omega), bi_nj (by decide) (by decide) (by decide), bi_nj (by decide) (by decide) (by decide), fun t => bi_ne (by unfold bTi; omega)⟩
  have tk0 : ∀ t, bTgk s0 t → bTgk σ t := fun t h => ⟨h.1, by rw [← ag0.2.2.1]; exact h.2⟩
  have e10 : bi s0 10 0 = bi σ 10 0 := u0.1 10 (by decide) (by decide) 0
  have e49 : bi s0 12 49 = bi σ 12 49 := u0.2.1 49 (by decide) (by decide)
  have nb : ∀ b, b ≠ 12 → ∀ j, bi s0 b j = bi σ b j := fun b q j => by rw [← hs0, bi_ne q]
  have A0 : bAk s0 := bAk_m hA (fun b hb j => nb b (by
    simp only [List.mem_cons, List.not_mem_nil, or_false] at hb
    omega) j) (nb 6 (by decide) 13) e49 (fun a => by rw [← hs0]; rfl) (fun a b _ => by rw [← hs0]; rfl)
  have en : ∀ x k, bNod s0 x k = bNod σ x k := fun x k => by unfold bNod; rw [ag0.1 87 (by decide), bBw_m ag0]
  refine w249 (bFi_un u0 (by decide) hF) (bTl_un u0 (by decide) (by decide) hL) (bTg_un u0 (by decide) (by decide) hT) (bRs_un u0 (by decide) hS) A0 (fun t h => bRn1_m (hN tk t (tk0 t h)) (ag0.2.2.2 t) (fun b hb j => u0.1 b (by simp) (by
    simp only [List.mem_cons, List.not_mem_nil, or_false] at hb
    rcases hb with rfl | rfl | rfl | rfl | rfl | rfl | rfl <;> decide) j)) ⟨tk.1, by rw [ag0.2.2.1]; exact tk.2⟩ fun s Nd e2 M nd cl => ?_
  rw [e10] at nd ⊢
  rw [bFx_m ag0]
  refine bRn_i ?_ (k0 s Nd e2 M nd fun x x0 xt n => ?_)
  · by_cases z : bFx σ (t * 256 + bi σ 10 0) = 0
    · rw [if_pos z]; exact bi_rg _ _ _
    · rw [if_neg z]; decide
  · obtain ⟨c1, c2⟩ := cl x x0 ⟨xt.1, by rw [ag0.2.2.1]; exact xt.2⟩ n
    rw [bFx_m ag0, ag0.1 85 (by decide)] at *
    refine ⟨fun z => (bCkf_b ag0 (fun b hb j => nb b (by
      simp only [List.mem_cons, List.not_mem_nil, or_false] at hb
      omega) j) e49 hT xt).1 (c1 z), fun k k0 k1 hK => ?_⟩
    rw [← en]
    exact c2 k k0 k1 (by rw [ag0.1 86 (by decide)]; exact hK)
theorem w179 {t : Int} (hF : bFi σ) (hL : bTl σ) (hT : bTg σ) (hS : bRs σ) (hX : bi σ 7 15 = -1 ∨ bXe σ) (hM : bMks σ) (hr : bRg (bi σ 6 10 + 1)) (hA : bAk σ) (h30 : ∀ y, 0 ≤ y → y < 4096 → -1 ≤ bi σ 30 y ∧ bi σ 30 y < 1000) (ht : bRg t) (h1 : ¬ bTgk σ t → g0 0 (bC σ 1 6))
    (h0 : bTgk σ t → ∀ s1 s0 s, bT68 σ s1 → (bi s1 7 15 = -1 ∨ bXe s1) → (∀ t, bTgk σ t → bRn1 σ s1 t) → bAk s1 → bWk s1 s0 → bi s0 6 10 = bi s1 6 10 + 1 → bi s0 6 13 = bi s1 6 13 → bCew (bi s1 12 49) s0 s → (∀ y, 0 ≤ y → y < 4096 → -1 ≤ bi s 30 y ∧ bi s 30 y < 1000) → bIno s (bi s 6 11) (t * 256 + bi σ 10 0) → (∀ y, bIno s (bi s 6 11) y → (0 ≤ y ∧ bTgk s1 (y / 256)) ∧ bCk s1 s y ∧ ∀ k, 0 ≤ k → k < bi s1 85 (y / 256) → bi s1 86 (6 * (y / 256) + k) = 2 → bIno s (bi s 6 11) (bNod s1 y k)) → f (bi s 30 (t * 256 + bi σ 10 0)) s) : bWp (d + 9) 179 [.ref 11, .int (bn t)] σ (bRnx f g0) := by
  have tc := hT.1
  refine ⟨rfl, fun A hA' => sq179_0 (bWp_mono _) hA' ht (w136 ht (by rw [tc.2.2]; exact ⟨by omega, by omega⟩) (by omega) (fun a => ?_) (fun a => h1 fun w => a ⟨w.1, by rw [tc.2.2]; exact w.2⟩))⟩
  have tk : bTgk σ t := ⟨a.1, by rw [← tc.2.2]; exact a.2⟩
  refine w68 hT (bRs_S hS) hX fun s1 T1 X1 D1 => ?_
  have u1 := bT68_un T1
  have e22 : bi s1 12 22 = bi σ 12 22 := T1.2.1 12 (by decide) (by decide) 22
  have tk1 : ∀ t, bTgk s1 t → bTgk σ t := fun t h => ⟨h.1, by rw [← e22]; exact h.2⟩
  have e6 : ∀ j, bi s1 6 j = bi σ 6 j := T1.2.1 6 (by decide) (by decide)
  have e10 : bi s1 10 0 = bi σ 10 0 := T1.2.1 10 (by decide) (by decide) 0
  have M1 : bMks s1 := by
    unfold bMks
    simp only [e6, T1.2.1 27 (by decide) (by decide)]
    exact hM
  have A1 : bAk s1 := bAk_m hA (fun b hb j => T1.2.1 b (by
    simp only [List.mem_cons, List.not_mem_nil, or_false] at hb
    unfold bEvK
    simp only [List.mem_cons, List.not_mem_nil, or_false, not_or]
    omega) (by
    simp only [List.mem_cons, List.not_mem_nil, or_false] at hb
    omega) j) (e6 13) (T1.2.1 12 (by decide) (by decide) 49) (fun a => by unfold br; rw [T1.1]) (fun a b _ => by rw [T1.1])
  refine w83 (bFi_un u1 (by decide) hF) (bTl_un u1 (by decide) (by decide) hL) (bTg_68 T1 hT) (fun t h => (D1 t (tk1 t h)).2.2) M1 (by rw [e6]; exact hr) A1 (fun y y0 y1 => by rw [T1.2.1 30 (by decide) (by decide)]; exact h30 y y0 y1) ⟨tk.1, by rw [e22]; exact tk.2⟩ fun s0 s W k6 e13 C R I O => ?_
  rw [e10] at I ⊢
  exact bRnx_i (bi_rg _ _ _) (h0 tk s1 s0 s T1 X1 D1 A1 W k6 e13 C R I O)
end

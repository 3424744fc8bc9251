/-! THE CASE outputFromNothing -/
def bLk4 : List Nat := [60, 61, 62, 63, 64, 65, 66, 67, 68, 69, 94, 95, 96, 97, 98, 99, 100, 119, 120]
section
variable {d : Nat} {σ s t r s0 s1 : bSt} {f : Int → bSt → Prop} {fv : bSt → Prop} {g0 : Nat → bSt → Prop} {q x y v i k m : Int} {M N : Int → Int}
theorem w263 {t : Int} (hF : bFi σ) (hL : bTl σ) (hT : bTg σ) (hS : bRs σ) (hN : bTgk σ t → ∀ t, bTgk σ t → bRn1 σ σ t) (ht : bRg t) (h1 : ¬ bTgk σ t → f 0 (bw σ 12 0 1))
    (h0 : bTgk σ t → ∀ s (Nd : Int → Prop), s.2 = (bw σ 12 0 0).2 → bUn bLk4 [7, 70, 72] (bw σ 12 0 0) s → Nd (t * 256 + bi σ 10 0) → (∀ x, 0 ≤ x → bTgk σ (x / 256) → Nd x → bGkf σ (bMh s) x ∧ ∀ k, 0 ≤ k → k < bi σ 85 (x / 256) → bi σ 86 (6 * (x / 256) + k) = 2 → Nd (bNod σ x k)) → f (bMh s (t * 256 + bi σ 10 0)) s) : bWp (d + 8) 263 [.ref 12, .int (bn t)] σ (bRn f) := by
  have tc := hT.1
  refine ⟨rfl, fun A hA' => ?_⟩
  refine sq263_0 (bWp_mono _) hA' ht (w225 ⟨tc.1, tc.2.1⟩ ht (fun tk => bFf (by decide) ?_) (fun tk => bTt rfl (w197 (by decide) (fun w => absurd w (by decide)) (fun _ => ⟨fun w => absurd w (by decide), fun _ => bRn_i (by decide) (h1 tk)⟩))))
  refine w197 (by decide) (fun _ => ⟨fun _ => ?_, fun w => absurd rfl w⟩) (fun w => absurd rfl w)
  have u0 : bUn [] [0] σ (bw σ 12 0 0) := bUn_f bUn_refl (by decide) (by decide)
  have k0 := h0 tk
  have ht1 := tk.1
  have ht2 := tk.2
  have hc : 0 ≤ bi σ 10 0 ∧ bi σ 10 0 < 256 := by
    have e := hL.2.2.2
    have a0 := hL.2.2.1 0 (by decide) (by decide)
    have a1 := hL.2.2.1 1 (by decide) (by decide)
    have a2 := hL.2.2.1 2 (by decide) (by decide)
    have a3 := hL.2.2.1 3 (by decide) (by decide)
    omega
  generalize hs1 : bw σ 12 0 0 = s1 at *
  have ag0 : bPag σ s1 := by
    rw [← hs1]
    exact ⟨fun a ha i => bi_ne (by revert ha; simp only [List.mem_cons, List.not_mem_nil, or_false]; omega), bi_nj (by decide) (by decide) (by decide), bi_nj (by decide) (by decide) (by decide), fun t => bi_ne (by unfold bTi; omega)⟩
  have tk1 : ∀ t, bTgk s1 t → bTgk σ t := fun t h => ⟨h.1, by rw [← ag0.2.2.1]; exact h.2⟩
  have e10 : bi s1 10 0 = bi σ 10 0 := u0.1 10 (by decide) (by decide) 0
  refine w241 (bFi_un u0 (by decide) hF) (bTl_un u0 (by decide) (by decide) hL) (bTg_un u0 (by decide) (by decide) hT) (bRs_un u0 (by decide) hS) (fun t h => bRn1_m (hN tk t (tk1 t h)) (ag0.2.2.2 t) (fun b hb j => u0.1 b (by simp) (by
    simp only [List.mem_cons, List.not_mem_nil, or_false] at hb
    rcases hb with rfl | rfl | rfl | rfl | rfl | rfl | rfl <;> decide) j)) (bShl_rg _ _) fun s0 LK => ?_
  obtain ⟨e2, M0, a99, nd, ro⟩ := LK
  have M1 : bUn bLk2 [0, 7] σ s0 := bUn_trans (bUn_mono u0 (by decide) (by decide)) (bUn_mono M0 (by decide) (by decide))
  have agL := bLk2_pag M0
  have ag : bPag σ s0 := bPag_t ag0 agL
  have e76 : ∀ j, bi s0 76 j = bi σ 76 j := M1.1 76 (by decide) (by decide)
  have e68 : bi s0 12 68 = bi σ 12 68 := M1.2.1 68 (by decide) (by decide)
  have f10 : bi s0 10 0 = bi σ 10 0 := M1.1 10 (by decide) (by decide) 0
  have T0 := bTg_un M1 (by decide) (by decide) hT
  have tk0 : ∀ t, bTgk s0 t → bTgk s1 t := fun t h => ⟨h.1, by rw [← agL.2.2.1]; exact h.2⟩
  have en : ∀ x k, bNod s0 x k = bNod s1 x k := fun x k => by unfold bNod; rw [agL.1 87 (by decide), bBw_m agL]
  have en2 : ∀ x k, bNod s0 x k = bNod σ x k := fun x k => by unfold bNod; rw [ag.1 87 (by decide), bBw_m ag]
  refine n263 (d := d) hA' (bFi_un M1 (by decide) hF) (bTl_un M1 (by decide) (by decide) hL) T0 (fun t h => by rw [ag.2.2.2]; exact (hN tk t (tk1 t (tk0 t h))).2.2) (fun x x0 xt n => ?_) ⟨tk.1, by rw [ag.2.2.1]; exact tk.2⟩ fun s H D => ?_
  · obtain ⟨⟨l1, l2, l3⟩, l4⟩ := nd x x0 (tk0 _ xt) n
    rw [bFx_m agL, agL.1 85 (by decide), bNu_m agL, bVe_m agL]
    refine ⟨l1, fun z => l3 (by rw [z]; decide) (by rw [z]; decide) (by rw [z]; decide), fun k k0 k1 hK => ?_⟩
    rw [agL.1 86 (by decide)] at hK
    rw [en]
    exact l4 k k0 k1 hK
  · have u : bUn bLk4 [7, 70, 72] s1 s := bUn_trans (bUn_mono M0 (by decide) (by decide)) (bUn_mono H.2 (by decide) (by decide))
    rw [f10]
    have rt : bi s0 94 (256 * t + bi σ 10 0) ≠ 0 := by
      rw [← e10]
      refine ro t ⟨tk.1, by rw [ag0.2.2.1]; exact tk.2⟩ ?_
      obtain ⟨tf, e⟩ := bFinN (n := 16) (x := t) ht1 (by omega)
      rw [e]
      exact bShl_1 tf
    have hk := k0 s (fun x => bi s0 94 x ≠ 0) (H.1.trans e2) u (by rw [show t * 256 + bi σ 10 0 = 256 * t + bi σ 10 0 by omega]; exact rt) (fun x x0 xt n => ⟨?_, fun k k0 k1 hK => ?_⟩)
    · rw [show t * 256 + bi σ 10 0 = 256 * t + bi σ 10 0 by omega] at hk
      exact hk
    · exact (bGkf_b ag e76 e68 hT xt).1 (D x x0 ⟨xt.1, by rw [ag.2.2.1]; exact xt.2⟩ n)
    · rw [← en2, en]
      exact (nd x x0 ⟨xt.1, by rw [ag0.2.2.1]; exact xt.2⟩ n).2 k k0 (by rw [ag0.1 85 (by decide)]; exact k1) (by rw [ag0.1 86 (by decide)]; exact hK)
theorem w184 {t : Int} (hF : bFi σ) (hL : bTl σ) (hT : bTg σ) (hS : bRs σ) (hX : bi σ 7 15 = -1 ∨ bXe σ) (hM : bMks σ) (hr : bRg (bi σ 6 10 + 1)) (hA : bAk σ) (hsb : bM26 σ) (h30 : ∀ y, 0 ≤ y → y < 4096 → -1 ≤ bi σ 30 y ∧ bi σ 30 y < 1000) (ht : bRg t) (h1 : ¬ bTgk σ t → g0 0 (bC σ 1 6))
    (h0 : bTgk σ t → ∀ s1 s0 s, bT68 σ s1 → (bi s1 7 15 = -1 ∨ bXe s1) → (∀ t, bTgk σ t → bRn1 σ s1 t) → bAk s1 → bWk s1 s0 → bi s0 6 10 = bi s1 6 10 + 1 → bi s0 6 13 = bi s1 6 13 → bCew (bi s1 12 49) s0 s → (∀ y, 0 ≤ y → y < 4096 → -1 ≤ bi s 30 y ∧ bi s 30 y < 1000) → bIno s (bi s 6 11) (t * 256 + bi σ 10 0) → (∀ y, bIno s (bi s 6 11) y → (0 ≤ y ∧ bTgk s1 (y / 256)) ∧ bGkf s1 (bMd s) y ∧ ∀ k, 0 ≤ k → k < bi s1 85 (y / 256) → bi s1 86 (6 * (y / 256) + k) = 2 → bIno s (bi s 6 11) (bNod s1 y k)) → f (bi s 30 (t * 256 + bi σ 10 0)) s) : bWp (d + 9) 184 [.ref 11, .int (bn t)] σ (bRnx f g0) := by
  have tc := hT.1
  refine ⟨rfl, fun A hA' => sq184_0 (bWp_mono _) hA' ht (w136 ht (by rw [tc.2.2]; exact ⟨by omega, by omega⟩) (by omega) (fun a => ?_) (fun a => h1 fun w => a ⟨w.1, by rw [tc.2.2]; exact w.2⟩))⟩
  have tk : bTgk σ t := ⟨a.1, by rw [← tc.2.2]; exact a.2⟩
  refine w68 hT (bRs_S hS) hX fun s1 T1 X1 D1 => ?_
  have u1 := bT68_un T1
  have e22 : bi s1 12 22 = bi σ 12 22 := T1.2.1 12 (by decide) (by decide) 22
  have tk1 : ∀ t, bTgk s1 t → bTgk σ t := fun t h => ⟨h.1, by rw [← e22]; exact h.2⟩
  have e6 : ∀ j, bi s1 6 j = bi σ 6 j := T1.2.1 6 (by decide) (by decide)
  have e10 : bi s1 10 0 = bi σ 10 0 := T1.2.1 10 (by decide) (by decide) 0
  have M1 : bMks s1 := by
    unfold bMks
    simp only [e6, T1.2.1 27 (by decide) (by decide)]
    exact hM
  have A1 : bAk s1 := bAk_m hA (fun b hb j => T1.2.1 b (by
    simp only [List.mem_cons, List.not_mem_nil, or_false] at hb
    unfold bEvK
    simp only [List.mem_cons, List.not_mem_nil, or_false, not_or]
    omega) (by
    simp only [List.mem_cons, List.not_mem_nil, or_false] at hb
    omega) j) (e6 13) (T1.2.1 12 (by decide) (by decide) 49) (fun a => by unfold br; rw [T1.1]) (fun a b _ => by rw [T1.1])
  refine w84 (bFi_un u1 (by decide) hF) (bTl_un u1 (by decide) (by decide) hL) (bTg_68 T1 hT) (fun t h => (D1 t (tk1 t h)).2.2) M1 (by rw [e6]; exact hr) A1 (by rw [T1.2.1 3 (by decide) (by decide), T1.2.1 12 (by decide) (by decide)]; exact hsb) (fun y y0 y1 => by rw [T1.2.1 30 (by decide) (by decide)]; exact h30 y y0 y1) ⟨tk.1, by rw [e22]; exact tk.2⟩ fun s0 s W k6 e13 C R I O => ?_
  rw [e10] at I ⊢
  exact bRnx_i (bi_rg _ _ _) (h0 tk s1 s0 s T1 X1 D1 A1 W k6 e13 C R I O)
end
def bPlB : List Nat := [0, 4, 6, 7, 8, 13, 22, 23, 27, 28, 29, 30, 31, 32, 33, 39, 40, 41, 42, 43, 44, 45, 60, 61, 62, 63, 64, 65, 66, 67, 68, 69, 94, 95, 96, 97, 98, 99, 100, 116, 119, 120]
section
variable {d : Nat} {σ s t r s0 s1 : bSt} {f : Int → bSt → Prop} {q x y v k m : Int} {R : bSt → Prop} {H : bHp} {L N : Nat}
theorem bAb_step (hR : ∀ σ s, bUn bPlB [0, 7, 70, 72] σ s → bAoth (bi σ 12 49) σ s → R σ → R s) (hH : ∀ c k σ s, bUn bPlB [0, 7, 70, 72] σ s → bAoth (bi σ 12 49) σ s → H c k σ → H (c + 8 * (bSo s (bi σ 12 49) - bSo σ (bi σ 12 49))) (k + 252 * (bSo s (bi σ 12 49) - bSo σ (bi σ 12 49))) s) (h : bI9 (bGa N R) H L N σ) (u : bUn bPlB [0, 7, 70, 72] σ s) (o : bAoth (bi σ 12 49) σ s) (hT : bTg s) (hX : bi s 7 15 = -1 ∨ bXe s) (hM : bPm (N + 1) s) (hA : bAk s) (hMr : bMr s) (h1 : s.2.2.2.2.1 + 8 * bSo σ (bi σ 12 49) ≤ σ.2.2.2.2.1 + 1 + 8 * bSo s (bi σ 12 49)) (h2 : s.2.2.2.2.2 + 252 * bSo σ (bi σ 12 49) ≤ σ.2.2.2.2.2 + 6 + 252 * bSo s (bi σ 12 49)) : bI9 (bGa (N + 1) R) H L (N + 1) s := by
  obtain ⟨a1, a2, a3, ⟨b1, b2, b3, b4, b5, b6, b7, b8⟩, c, k, a5, a6, a7⟩ := h
  have e : bT s = bT σ := by unfold bT; rw [u.2.1 22 (by decide) (by decide)]
  refine ⟨(bMid_un u (by decide)).2.trans a1, bFi_un u (by decide) a2, bTl_un u (by decide) (by decide) a3, ⟨hT, bTst_un u (by decide) (by decide) b2, bRs_un u (by decide) b3, hX, hM, hA, hMr, hR _ _ u o b8⟩, _, _, ?_, ?_, hH _ _ _ _ u o a7⟩
  · rw [e]
    generalize bSo σ (bi σ 12 49) = p at *
    generalize bSo s (bi σ 12 49) = q at *
    omega
  · rw [e]
    generalize bSo σ (bi σ 12 49) = p at *
    generalize bSo s (bi σ 12 49) = q at *
    omega
theorem bAb_no (hR : ∀ σ s, bUn bPlB [0, 7, 70, 72] σ s → bAoth (bi σ 12 49) σ s → R σ → R s) (hH : ∀ c k σ s, bUn bPlB [0, 7, 70, 72] σ s → bAoth (bi σ 12 49) σ s → H c k σ → H (c + 8 * (bSo s (bi σ 12 49) - bSo σ (bi σ 12 49))) (k + 252 * (bSo s (bi σ 12 49) - bSo σ (bi σ 12 49))) s) (h : bI9 (bGa N R) H L N σ) : bI9 (bGa (N + 1) R) H L (N + 1) (bw (bC σ 1 6) 12 0 v) := by
  have u0 : bUn [] [0] σ (bw (bC σ 1 6) 12 0 v) := bUn_f (bUn_C bUn_refl) (by decide) (by decide)
  obtain ⟨b1, b2, b3, b4, b5, b6, b7, b8⟩ := h.2.2.2.1
  have nb : ∀ b, b ≠ 12 → ∀ j, bi (bw (bC σ 1 6) 12 0 v) b j = bi σ b j := fun b q j => bi_ne q
  have o : bAoth (bi σ 12 49) σ (bw (bC σ 1 6) 12 0 v) := ⟨fun b hb _ => ⟨nb b (by intro w; rw [w] at hb; revert hb; decide), fun _ => rfl, rfl⟩, fun _ _ _ => rfl, id⟩
  have so : bSo (bw (bC σ 1 6) 12 0 v) (bi σ 12 49) = bSo σ (bi σ 12 49) := rfl
  refine bAb_step hR hH h (bUn_mono u0 (by decide) (by decide)) o (bTg_un u0 (by decide) (by decide) b1) (b4.imp (fun w => by rw [bi_ne (by decide)]; exact w) (fun w => bXe_un u0 (by decide) w)) (bPm_up (bPm_un u0 (by decide) (by decide) b5)) (bAk_m b6 (fun b hb j => nb b (by
    simp only [List.mem_cons, List.not_mem_nil, or_false] at hb
    omega) j) (nb 6 (by decide) 13) (bi_nj (by decide) (by decide) (by decide)) (fun _ => rfl) (fun _ _ _ => rfl)) (fun y y0 y1 => by rw [nb 30 (by decide)]; exact b7 y y0 y1) ?_ ?_
  · rw [so]; exact Nat.le_refl _
  · rw [so]; exact Nat.le_refl _
/-- behind the class's making and the reference's: what comes is the same -/
theorem bAb_ok {t : Int} {w : Int64} {Nd : Int → Prop} (hR : ∀ σ s, bUn bPlB [0, 7, 70, 72] σ s → bAoth (bi σ 12 49) σ s → R σ → R s) (hH : ∀ c k σ s, bUn bPlB [0, 7, 70, 72] σ s → bAoth (bi σ 12 49) σ s → H c k σ → H (c + 8 * (bSo s (bi σ 12 49) - bSo σ (bi σ 12 49))) (k + 252 * (bSo s (bi σ 12 49) - bSo σ (bi σ 12 49))) s) (h : bI9 (bGa N R) H L N σ) (tk : bTgk σ t) (T : bT68 σ s1) (X : bi s1 7 15 = -1 ∨ bXe s1) (A1 : bAk s1) (W : bWk s1 s0) (e6 : bi s0 6 10 = bi s1 6 10 + 1) (e13 : bi s0 6 13 = bi s1 6 13) (C : bCew (bi s1 12 49) s0 s) (Rg : ∀ y, 0 ≤ y → y < 4096 → -1 ≤ bi s 30 y ∧ bi s 30 y < 1000) (I : bIno s (bi s 6 11) (t * 256 + bi σ 10 0)) (O : ∀ y, bIno s (bi s 6 11) y → (0 ≤ y ∧ bTgk s1 (y / 256)) ∧ bGkf s1 (bMd s) y ∧ ∀ k, 0 ≤ k → k < bi s1 85 (y / 256) → bi s1 86 (6 * (y / 256) + k) = 2 → bIno s (bi s 6 11) (bNod s1 y k))
    (E2 : r.2 = (bw (bwj s 154 0 w) 12 0 0).2) (U : bUn bLk4 [7, 70, 72] (bw (bwj s 154 0 w) 12 0 0) r) (nr : Nd (t * 256 + bi σ 10 0)) (nd : ∀ x, 0 ≤ x → bTgk (bwj s 154 0 w) (x / 256) → Nd x → bGkf (bwj s 154 0 w) (bMh r) x ∧ ∀ k, 0 ≤ k → k < bi (bwj s 154 0 w) 85 (x / 256) → bi (bwj s 154 0 w) 86 (6 * (x / 256) + k) = 2 → Nd (bNod (bwj s 154 0 w) x k)) :
    bi r 12 0 = 0 ∧ bj r 154 0 = w ∧ bI9 (bGa (N + 1) R) H L (N + 1) r ∧ bi s 30 (t * 256 + bi σ 10 0) = bMh r (t * 256 + bi σ 10 0) := by
  obtain ⟨b1, b2, b3, b4, b5, b6, b7, b8⟩ := h.2.2.2.1
  have u1 : bUn bPlB [0, 7, 70, 72] σ s1 := bUn_mono (bT68_un T) (by decide) (by decide)
  have u0 : bUn bPlB [0, 7, 70, 72] σ s0 := bUn_S u1 (bSm_mono W.1 (by decide)) (by decide)
  have us : bUn bPlB [0, 7, 70, 72] σ s := bUn_trans u0 (bUn_mono (bCe_un C) (by decide) (by decide))
  have ur0 : bUn bPlB [0, 7, 70, 72] σ (bw (bwj s 154 0 w) 12 0 0) := bUn_f (bUn_o us) (by decide) (by decide)
  have u : bUn bPlB [0, 7, 70, 72] σ r := bUn_trans ur0 (bUn_mono U (by decide) (by decide))
  have e49 : bi s1 12 49 = bi σ 12 49 := T.2.1 12 (by decide) (by decide) 49
  have f49 : bi s0 12 49 = bi s1 12 49 := W.1.2 12 (by decide) 49
  have T1 := bTg_68 T b1
  have w0 : bUn bWkK [] s1 s0 := bUn_S bUn_refl W.1 (by decide)
  have ws : bUn (bWkK ++ (30 :: bCdK)) [] s1 s := bUn_trans (bUn_mono w0 (by decide) (by decide)) (bUn_mono (bCe_un C) (by decide) (by decide))
  have wr : bUn (bWkK ++ (30 :: bCdK)) [0] s1 (bw (bwj s 154 0 w) 12 0 0) := bUn_f (bUn_o (bUn_mono ws (by decide) (by decide))) (by decide) (by decide)
  have A0 := bAk_w A1 W.1 e13
  have As := bAk_e A0 f49 C
  have nb : ∀ b, b ≠ 12 → ∀ j, bi (bw (bwj s 154 0 w) 12 0 0) b j = bi s b j := fun b q j => by rw [bi_ne q, bi_bwj]
  have q12 : bi (bw (bwj s 154 0 w) 12 0 0) 12 49 = bi s 12 49 := by rw [bi_nj (by decide) (by decide) (by decide), bi_bwj]
  have Ar : bAk r := bAk_m As (fun b hb j => by
    rw [U.1 b (by
      simp only [List.mem_cons, List.not_mem_nil, or_false] at hb
      unfold bLk4
      simp only [List.mem_cons, List.not_mem_nil, or_false, not_or]
      omega) (by
      simp only [List.mem_cons, List.not_mem_nil, or_false] at hb
      omega)]
    exact nb b (by
      simp only [List.mem_cons, List.not_mem_nil, or_false] at hb
      omega) j) (by rw [U.1 6 (by decide) (by decide)]; exact nb 6 (by decide) 13) (by rw [U.2.1 49 (by decide) (by decide)]; exact q12) (fun a => by unfold br; rw [E2]; rfl) (fun a b _ => by rw [E2]; rfl)
  have k6 : ∀ j, bi r 6 j = bi s0 6 j := fun j => by rw [U.1 6 (by decide) (by decide), nb 6 (by decide)]; exact (bCe_un C).1 6 (by decide) (by decide) j
  have k27 : ∀ j, bi r 27 j = bi s0 27 j := fun j => by rw [U.1 27 (by decide) (by decide), nb 27 (by decide)]; exact (bCe_un C).1 27 (by decide) (by decide) j
  have k30 : ∀ j, bi r 30 j = bi s 30 j := fun j => by rw [U.1 30 (by decide) (by decide), nb 30 (by decide)]
  have e61 : bi s1 6 10 = bi σ 6 10 := T.2.1 6 (by decide) (by decide) 10
  have m10 := b5.1.1
  have m11 := b5.2
  have oth : bAoth (bi σ 12 49) σ r := by
    have o1 : bAoth (bi σ 12 49) σ s1 := bAoth_of (fun b hb j => T.2.1 b (by
      simp only [List.mem_cons, List.not_mem_nil, or_false] at hb
      unfold bEvK
      simp only [List.mem_cons, List.not_mem_nil, or_false, not_or]
      omega) (by
      simp only [List.mem_cons, List.not_mem_nil, or_false] at hb
      omega) j) T.1
    have o2 : bAoth (bi σ 12 49) s1 s0 := bAoth_of (fun b hb j => W.1.2 b (by
      simp only [List.mem_cons, List.not_mem_nil, or_false] at hb
      unfold bWkK
      simp only [List.mem_cons, List.not_mem_nil, or_false, not_or]
      omega) j) W.1.1
    have o3 : bAoth (bi σ 12 49) s0 s := by rw [← e49]; exact bAoth_e C
    refine bAoth_t (bAoth_t (bAoth_t o1 o2) o3) ⟨fun b hb _ => ⟨fun j => ?_, fun j => by unfold br; rw [E2]; rfl, by rw [E2]; rfl⟩, fun a _ _ => by unfold br; rw [E2]; rfl, fun z => by unfold br at z ⊢; rw [E2]; exact z⟩
    rw [U.1 b (by
      simp only [List.mem_cons, List.not_mem_nil, or_false] at hb
      unfold bLk4
      simp only [List.mem_cons, List.not_mem_nil, or_false, not_or]
      omega) (by
      simp only [List.mem_cons, List.not_mem_nil, or_false] at hb
      omega)]
    exact nb b (by intro z; rw [z] at hb; revert hb; decide) j
  have so0 : bSo s0 (bi s1 12 49) = bSo σ (bi σ 12 49) := by unfold bSo br; rw [W.1.1, T.1, e49]
  have sor : bSo r (bi σ 12 49) = bSo s (bi s1 12 49) := by unfold bSo br; rw [E2, e49]; rfl
  refine ⟨?_, ?_, bAb_step hR hH h u oth (bTg_un U (by decide) (by decide) (bTg_un wr (by decide) (by decide) T1)) (X.imp (fun z => ?_) (fun z => ?_)) ⟨⟨?_, fun y y0 y1 => ?_⟩, ?_⟩ Ar (fun y y0 y1 => by rw [k30]; exact Rg y y0 y1) ?_ ?_, ?_⟩
  · rw [U.2.1 0 (by decide) (by decide), bi_eq (by decide)]
  · have : bj r 154 0 = bj (bw (bwj s 154 0 w) 12 0 0) 154 0 := by unfold bj; rw [E2]
    rw [this]
    exact bj_eq
  · rw [U.1 7 (by decide) (by decide), wr.1 7 (by decide) (by decide)]; exact z
  · exact bXe_un U (by decide) (bXe_un wr (by decide) z)
  · rw [k6, e6, e61]; omega
  · rw [k27, k6]; exact W.2.1.1 y y0 y1
  · rw [k6, e6, e61]; omega
  · have c := C.2.2.2.2.1
    rw [so0] at c
    rw [sor, E2]
    show s.2.2.2.2.1 + _ ≤ _
    rw [W.1.1, T.1] at c
    omega
  · have c := C.2.2.2.2.2
    rw [so0] at c
    rw [sor, E2]
    show s.2.2.2.2.2 + _ ≤ _
    rw [W.1.1, T.1] at c
    omega
  · have ag : bPag s1 (bwj s 154 0 w) := bPag_t (bPag_t (bWk_pag W.1) (bCe_pag C)) (t := bwj s 154 0 w) ⟨fun _ _ _ => rfl, rfl, rfl, fun _ => rfl⟩
    have ref : ∀ b ∈ [76, 101, 102, 103, 104, 105, 106], ∀ j, bi (bwj s 154 0 w) b j = bi s1 b j := fun b hb j => ws.1 b (by
      simp only [List.mem_cons, List.not_mem_nil, or_false] at hb
      rcases hb with rfl | rfl | rfl | rfl | rfl | rfl | rfl <;> decide) (by
      simp only [List.mem_cons, List.not_mem_nil, or_false] at hb
      rcases hb with rfl | rfl | rfl | rfl | rfl | rfl | rfl <;> decide) j
    have g68 : bi (bwj s 154 0 w) 12 68 = bi s1 12 68 := ws.2.1 68 (by decide) (by decide)
    have en : ∀ x k, bNod (bwj s 154 0 w) x k = bNod s1 x k := fun x k => by unfold bNod; rw [ag.1 87 (by decide), bBw_m ag]
    have := bGn_eq (M := bMd s) (N := bMh r) (Od := fun y => bIno s (bi s 6 11) y) (Nd := Nd) T1 O (fun x x0 xt n => by
      obtain ⟨c1, c2⟩ := nd x x0 ⟨xt.1, by rw [ag.2.2.1]; exact xt.2⟩ n
      refine ⟨(bGkf_b ag (ref 76 (by decide)) g68 T1 xt).1 c1, fun k k0 k1 hK => ?_⟩
      rw [← en]
      exact c2 k k0 (by rw [ag.1 85 (by decide)]; exact k1) (by rw [ag.1 86 (by decide)]; exact hK)) ((t * 256 + bi σ 10 0) / 256 + 1).toNat (t * 256 + bi σ 10 0) (by have := (O _ I).1.2.1; omega) I nr
    exact this
theorem k41 (hO : ∀ σ, R σ → bM26 σ) (hR : ∀ σ s, bUn bPlB [0, 7, 70, 72] σ s → bAoth (bi σ 12 49) σ s → R σ → R s) (hH : ∀ c k σ s, bUn bPlB [0, 7, 70, 72] σ s → bAoth (bi σ 12 49) σ s → H c k σ → H (c + 8 * (bSo s (bi σ 12 49) - bSo σ (bi σ 12 49))) (k + 252 * (bSo s (bi σ 12 49) - bSo σ (bi σ 12 49))) s) (hN : N ≤ 100000) (h : bI9 (bGa N R) H L N σ) : bK41 (bI9 (bGa (N + 1) R) H L (N + 1)) σ := by
  obtain ⟨b1, b2, b3, b4, b5, b6, b7, b8⟩ := h.2.2.2.1
  have m10 := b5.1.1
  have m11 := b5.2
  refine wk41 fun t ht => w184 (d := 2) h.2.1 h.2.2.1 b1 b3 b4 b5.1 ⟨by omega, by omega⟩ b6 (hO _ b8) b7 ht (fun z => ?_) (fun tk s1 s0 s T X D A1 W e6 e13 C Rg I O => ?_)
  · have u0 : bUn [] [] σ (bC σ 1 6) := bUn_C bUn_refl
    exact ⟨bMid_C, w263 (d := 4) (bFi_un u0 (by decide) h.2.1) (bTl_un u0 (by decide) (by decide) h.2.2.1) (bTg_un u0 (by decide) (by decide) b1) (bRs_un u0 (by decide) b3) (fun w => absurd w z) ht (fun _ => ⟨bi_eq (by decide), fun w => absurd w (by decide), bAb_no hR hH h⟩) (fun w => absurd w z)⟩
  · obtain ⟨p1, p2, p3, p4, p5, p6, p7, p8, p9⟩ := bAa_mid (bL (bi s 30 (t * 256 + bi σ 10 0))) h T D A1 W e13 C
    refine ⟨p1, w263 (d := 4) p2 p3 p4 p5 (fun _ => p7) ht (fun w => absurd ⟨tk.1, by rw [p8]; exact tk.2⟩ w) (fun _ r Nd E2 U nr nd => ?_)⟩
    rw [p9] at nr ⊢
    obtain ⟨g1, g2, g3, g4⟩ := bAb_ok hR hH h tk T X A1 W e6 e13 C Rg I O E2 U nr nd
    refine ⟨g1, fun _ => ?_, g3⟩
    rw [g2]
    exact congrArg bL g4
end

/-! THE CASE output -/
/-- what actions have given last, alike on both sides -/
def bAo (σ : bSt) : Prop := ∀ a, 0 ≤ a → a < bi σ 12 49 → bi σ (bKe a) 8 = (if bi σ 111 a = 0 then -1 else bi σ 112 a)
section
variable {d : Nat} {σ s t r s0 s1 : bSt} {f : Int → bSt → Prop} {fv : bSt → Prop} {g0 : Nat → bSt → Prop} {q x y v k m : Int} {R : bSt → Prop} {H : bHp} {L N : Nat}
theorem w183 {t : Int} (hF : bFi σ) (hL : bTl σ) (hT : bTg σ) (hS : bRs σ) (hX : bi σ 7 15 = -1 ∨ bXe σ) (hM : bMks σ) (hr : bRg (bi σ 6 10 + 1)) (hA : bAk σ) (h30 : ∀ y, 0 ≤ y → y < 4096 → -1 ≤ bi σ 30 y ∧ bi σ 30 y < 1000) (ht : bRg t) (h1 : ¬ bTgk σ t → g0 0 (bC σ 1 6))
    (h0 : bTgk σ t → ∀ s1 s0 s, bT68 σ s1 → (bi s1 7 15 = -1 ∨ bXe s1) → (∀ t, bTgk σ t → bRn1 σ s1 t) → bAk s1 → bWk s1 s0 → bi s0 6 10 = bi s1 6 10 + 1 → bi s0 6 13 = bi s1 6 13 → bCew (bi s1 12 49) s0 s → (∀ y, 0 ≤ y → y < 4096 → -1 ≤ bi s 30 y ∧ bi s 30 y < 1000) → bIno s (bi s 6 11) (t * 256 + bi σ 10 0) → (∀ y, bIno s (bi s 6 11) y → (0 ≤ y ∧ bTgk s1 (y / 256)) ∧ bCk s1 s y ∧ ∀ k, 0 ≤ k → k < bi s1 85 (y / 256) → bi s1 86 (6 * (y / 256) + k) = 2 → bIno s (bi s 6 11) (bNod s1 y k)) → f (if bi s 30 (t * 256 + bi σ 10 0) = -1 then -1 else bi s (bKe (bi s 30 (t * 256 + bi σ 10 0))) 8) s) : bWp (d + 9) 183 [.ref 11, .int (bn t)] σ (bRnx f g0) := by
  have tc := hT.1
  refine ⟨rfl, fun A hA' => sq183_0 (bWp_mono _) hA' ht (w136 ht (by rw [tc.2.2]; exact ⟨by omega, by omega⟩) (by omega) (fun a => ?_) (fun a => h1 fun w => a ⟨w.1, by rw [tc.2.2]; exact w.2⟩))⟩
  have tk : bTgk σ t := ⟨a.1, by rw [← tc.2.2]; exact a.2⟩
  refine w68 hT (bRs_S hS) hX fun s1 T1 X1 D1 => ?_
  have u1 := bT68_un T1
  have e22 : bi s1 12 22 = bi σ 12 22 := T1.2.1 12 (by decide) (by decide) 22
  have tk1 : ∀ t, bTgk s1 t → bTgk σ t := fun t h => ⟨h.1, by rw [← e22]; exact h.2⟩
  have e6 : ∀ j, bi s1 6 j = bi σ 6 j := T1.2.1 6 (by decide) (by decide)
  have e10 : bi s1 10 0 = bi σ 10 0 := T1.2.1 10 (by decide) (by decide) 0
  have M1 : bMks s1 := by
    unfold bMks
    simp only [e6, T1.2.1 27 (by decide) (by decide)]
    exact hM
  have A1 : bAk s1 := bAk_m hA (fun b hb j => T1.2.1 b (by
    simp only [List.mem_cons, List.not_mem_nil, or_false] at hb
    unfold bEvK
    simp only [List.mem_cons, List.not_mem_nil, or_false, not_or]
    omega) (by
    simp only [List.mem_cons, List.not_mem_nil, or_false] at hb
    omega) j) (e6 13) (T1.2.1 12 (by decide) (by decide) 49) (fun a => by unfold br; rw [T1.1]) (fun a b _ => by rw [T1.1])
  refine w83 (bFi_un u1 (by decide) hF) (bTl_un u1 (by decide) (by decide) hL) (bTg_68 T1 hT) (fun t h => (D1 t (tk1 t h)).2.2) M1 (by rw [e6]; exact hr) A1 (fun y y0 y1 => by rw [T1.2.1 30 (by decide) (by decide)]; exact h30 y y0 y1) ⟨tk.1, by rw [e22]; exact tk.2⟩ fun s0 s W k6 e13 C R I O => ?_
  rw [e10] at I ⊢
  have k0 := h0 tk s1 s0 s T1 X1 D1 A1 W k6 e13 C R I O
  have f49 : bi s0 12 49 = bi s1 12 49 := W.1.2 12 (by decide) 49
  have As := bAk_e (bAk_w A1 W.1 e13) f49 C
  have g49 : bi s 12 49 = bi s1 12 49 := ((bCe_un C).2.1 49 (by decide) (by decide)).trans f49
  have rg := bCkf_rg (bCk_f.1 (O _ I).2.1)
  have rg2 : bi s 30 (t * 256 + bi σ 10 0) = -1 ∨ 0 ≤ bi s 30 (t * 256 + bi σ 10 0) ∧ bi s 30 (t * 256 + bi σ 10 0) < bi s1 12 49 := rg
  generalize hv : bi s 30 (t * 256 + bi σ 10 0) = v at *
  refine ⟨fun z => ?_, fun z => ?_⟩
  · rw [if_pos z] at k0
    exact bRnx_i (by decide) k0
  · rw [if_neg z] at k0
    have r2 := rg2.resolve_left z
    have qq := A1.1
    obtain ⟨m0, m1, m2, m3⟩ := bAi_m (q := v)
    have ek : 256 * (2 * (bAi v / 256) + 1) + 4 = bKe v := by rw [m3]; unfold bKe; omega
    have mk : bKe v % 256 = 4 := by unfold bKe; omega
    refine w89 (As.2.1 v r2.1 (by rw [g49]; exact r2.2)).1 r2.1 (by omega) ⟨m0, ?_⟩
    rw [ek]
    exact ⟨mk, bRnx_i (bi_rg _ _ _) k0⟩
theorem w256 {t : Int} (hF : bFi σ) (hL : bTl σ) (hT : bTg σ) (hS : bRs σ) (hA : bAk σ) (hN : bTgk σ t → ∀ t, bTgk σ t → bRn1 σ σ t) (ht : bRg t) (h1 : ¬ bTgk σ t → f 0 (bw σ 12 0 1))
    (h0 : bTgk σ t → ∀ s (Nd : Int → Prop), s.2 = (bw σ 12 0 0).2 → bUn bLk3 [7] (bw σ 12 0 0) s → Nd (t * 256 + bi σ 10 0) → (∀ x, 0 ≤ x → bTgk σ (x / 256) → Nd x → (bFx σ x = 0 → bCkf σ (bMa s) x) ∧ ∀ k, 0 ≤ k → k < bi σ 85 (x / 256) → bi σ 86 (6 * (x / 256) + k) = 2 → Nd (bNod σ x k)) → f (if (if bFx σ (t * 256 + bi σ 10 0) = 0 then bi s 99 (t * 256 + bi σ 10 0) else -1) = -1 then -1 else if bi s 111 (if bFx σ (t * 256 + bi σ 10 0) = 0 then bi s 99 (t * 256 + bi σ 10 0) else -1) = 0 then -1 else bi s 112 (if bFx σ (t * 256 + bi σ 10 0) = 0 then bi s 99 (t * 256 + bi σ 10 0) else -1)) s) : bWp (d + 8) 256 [.ref 12, .int (bn t)] σ (bRn f) := by
  have tc := hT.1
  refine ⟨rfl, fun A hA' => ?_⟩
  refine sq256_0 (bWp_mono _) hA' ht (w225 ⟨tc.1, tc.2.1⟩ ht (fun tk => bFf (by decide) ?_) (fun tk => bTt rfl (w197 (by decide) (fun w => absurd w (by decide)) (fun _ => ⟨fun w => absurd w (by decide), fun _ => bRn_i (by decide) (h1 tk)⟩))))
  refine w197 (by decide) (fun _ => ⟨fun _ => ?_, fun w => absurd rfl w⟩) (fun w => absurd rfl w)
  have u0 : bUn [] [0] σ (bw σ 12 0 0) := bUn_f bUn_refl (by decide) (by decide)
  have k0 := h0 tk
  generalize hs0 : bw σ 12 0 0 = s0 at *
  have ag0 : bPag σ s0 := by
    rw [← hs0]
    exact ⟨fun a ha i => bi_ne (by revert ha; simp only [List.mem_cons, List.not_mem_nil, or_false]; omega), bi_nj (by decide) (by decide) (by decide), bi_nj (by decide) (by decide) (by decide), fun t => bi_ne (by unfold bTi; omega)⟩
  have tk0 : ∀ t, bTgk s0 t → bTgk σ t := fun t h => ⟨h.1, by rw [← ag0.2.2.1]; exact h.2⟩
  have e10 : bi s0 10 0 = bi σ 10 0 := u0.1 10 (by decide) (by decide) 0
  have e49 : bi s0 12 49 = bi σ 12 49 := u0.2.1 49 (by decide) (by decide)
  have nb : ∀ b, b ≠ 12 → ∀ j, bi s0 b j = bi σ b j := fun b q j => by rw [← hs0, bi_ne q]
  have A0 : bAk s0 := bAk_m hA (fun b hb j => nb b (by
    simp only [List.mem_cons, List.not_mem_nil, or_false] at hb
    omega) j) (nb 6 (by decide) 13) e49 (fun a => by rw [← hs0]; rfl) (fun a b _ => by rw [← hs0]; rfl)
  have en : ∀ x k, bNod s0 x k = bNod σ x k := fun x k => by unfold bNod; rw [ag0.1 87 (by decide), bBw_m ag0]
  refine w249 (bFi_un u0 (by decide) hF) (bTl_un u0 (by decide) (by decide) hL) (bTg_un u0 (by decide) (by decide) hT) (bRs_un u0 (by decide) hS) A0 (fun t h => bRn1_m (hN tk t (tk0 t h)) (ag0.2.2.2 t) (fun b hb j => u0.1 b (by simp) (by
    simp only [List.mem_cons, List.not_mem_nil, or_false] at hb
    rcases hb with rfl | rfl | rfl | rfl | rfl | rfl | rfl <;> decide) j)) ⟨tk.1, by rw [ag0.2.2.1]; exact tk.2⟩ fun s Nd e2 M nd cl => ?_
  rw [e10] at nd ⊢
  rw [bFx_m ag0]
  have hc : 0 ≤ bi σ 10 0 ∧ bi σ 10 0 < 256 := by
    have e := hL.2.2.2
    have a0 := hL.2.2.1 0 (by decide) (by decide)
    have a1 := hL.2.2.1 1 (by decide) (by decide)
    have a2 := hL.2.2.1 2 (by decide) (by decide)
    have a3 := hL.2.2.1 3 (by decide) (by decide)
    omega
  have tk1 := tk.1
  have xt : bTgk σ ((t * 256 + bi σ 10 0) / 256) := by rw [show (t * 256 + bi σ 10 0) / 256 = t by omega]; exact tk
  have cl2 : ∀ x, 0 ≤ x → bTgk σ (x / 256) → Nd x → (bFx σ x = 0 → bCkf σ (bMa s) x) ∧ ∀ k, 0 ≤ k → k < bi σ 85 (x / 256) → bi σ 86 (6 * (x / 256) + k) = 2 → Nd (bNod σ x k) := fun x x0 xt n => by
    obtain ⟨c1, c2⟩ := cl x x0 ⟨xt.1, by rw [ag0.2.2.1]; exact xt.2⟩ n
    rw [bFx_m ag0, ag0.1 85 (by decide)] at *
    refine ⟨fun z => (bCkf_b ag0 (fun b hb j => nb b (by
      simp only [List.mem_cons, List.not_mem_nil, or_false] at hb
      omega) j) e49 hT xt).1 (c1 z), fun k k0 k1 hK => ?_⟩
    rw [← en]
    exact c2 k k0 k1 (by rw [ag0.1 86 (by decide)]; exact hK)
  have kk := k0 s Nd e2 M nd cl2
  have rg : (if bFx σ (t * 256 + bi σ 10 0) = 0 then bi s 99 (t * 256 + bi σ 10 0) else -1) = -1 ∨ 0 ≤ (if bFx σ (t * 256 + bi σ 10 0) = 0 then bi s 99 (t * 256 + bi σ 10 0) else -1) ∧ (if bFx σ (t * 256 + bi σ 10 0) = 0 then bi s 99 (t * 256 + bi σ 10 0) else -1) < bi σ 12 49 := by
    by_cases z : bFx σ (t * 256 + bi σ 10 0) = 0
    · rw [if_pos z]; exact bCkf_rg ((cl2 _ (by omega) xt nd).1 z)
    · rw [if_neg z]; exact Or.inl rfl
  have qq := hA.1
  generalize (if bFx σ (t * 256 + bi σ 10 0) = 0 then bi s 99 (t * 256 + bi σ 10 0) else -1) = v at *
  refine ⟨fun z => bRn_i (by decide) (by rwa [if_pos z] at kk), fun z => ?_⟩
  rw [if_neg z] at kk
  have r2 := rg.resolve_left z
  exact ⟨⟨r2.1, by omega⟩, fun z2 => bRn_i (by decide) (by rwa [if_pos z2] at kk), fun z2 => bRn_i (bi_rg _ _ _) (by rwa [if_neg z2] at kk)⟩
theorem k40 (hO : ∀ σ, R σ → bAo σ) (hR : ∀ σ s, bUn bPlA [0, 7] σ s → bAoth (bi σ 12 49) σ s → R σ → R s) (hH : ∀ c k σ s, bUn bPlA [0, 7] σ s → bAoth (bi σ 12 49) σ s → H c k σ → H (c + 8 * (bSo s (bi σ 12 49) - bSo σ (bi σ 12 49))) (k + 252 * (bSo s (bi σ 12 49) - bSo σ (bi σ 12 49))) s) (hN : N ≤ 100000) (h : bI9 (bGa N R) H L N σ) : bK40 (bI9 (bGa (N + 1) R) H L (N + 1)) σ := by
  obtain ⟨b1, b2, b3, b4, b5, b6, b7, b8⟩ := h.2.2.2.1
  have m10 := b5.1.1
  have m11 := b5.2
  refine wk40 fun t ht => w183 (d := 2) h.2.1 h.2.2.1 b1 b3 b4 b5.1 ⟨by omega, by omega⟩ b6 b7 ht (fun z => ?_) (fun tk s1 s0 s T X D A1 W e6 e13 C Rg I O => ?_)
  · have u0 : bUn [] [] σ (bC σ 1 6) := bUn_C bUn_refl
    exact ⟨bMid_C, w256 (d := 4) (bFi_un u0 (by decide) h.2.1) (bTl_un u0 (by decide) (by decide) h.2.2.1) (bTg_un u0 (by decide) (by decide) b1) (bRs_un u0 (by decide) b3) (bAk_m b6 (fun _ _ _ => rfl) rfl rfl (fun _ => rfl) (fun _ _ _ => rfl)) (fun w => absurd w z) ht (fun _ => ⟨bi_eq (by decide), fun w => absurd w (by decide), bAa_no hR hH h⟩) (fun w => absurd w z)⟩
  · have rg := bCkf_rg (bCk_f.1 (O _ I).2.1)
    have rg2 : bi s 30 (t * 256 + bi σ 10 0) = -1 ∨ 0 ≤ bi s 30 (t * 256 + bi σ 10 0) ∧ bi s 30 (t * 256 + bi σ 10 0) < bi s1 12 49 := rg
    have e49 : bi s1 12 49 = bi σ 12 49 := T.2.1 12 (by decide) (by decide) 49
    have u1 : bUn bPlA [0, 7] σ s1 := bUn_mono (bT68_un T) (by decide) (by decide)
    have u0 : bUn bPlA [0, 7] σ s0 := bUn_S u1 (bSm_mono W.1 (by decide)) (by decide)
    have us : bUn bPlA [0, 7] σ s := bUn_trans u0 (bUn_mono (bCe_un C) (by decide) (by decide))
    have ao := hO _ b8
    -- what was kept, as the reference has it
    have ke : bi s 30 (t * 256 + bi σ 10 0) ≠ -1 → bi s (bKe (bi s 30 (t * 256 + bi σ 10 0))) 8 = (if bi σ 111 (bi s 30 (t * 256 + bi σ 10 0)) = 0 then -1 else bi σ 112 (bi s 30 (t * 256 + bi σ 10 0))) := fun z => by
      have r2 := rg2.resolve_left z
      generalize bi s 30 (t * 256 + bi σ 10 0) = v at *
      rw [← ao v r2.1 (by omega)]
      have mk : bKe v % 256 = 4 := by unfold bKe; omega
      obtain ⟨_, _, _, n4, _⟩ := bAd_n (q := bi s1 12 49) (a := v) r2.1 (by omega) (by omega)
      rw [(bCe_i C n4 (by intro w; rw [w] at mk; omega) (by intro w; rw [w] at mk; omega)).1, W.1.2 _ (by rw [mk]; decide), T.2.1 _ (by rw [mk]; decide) (by omega)]
    obtain ⟨p1, p2, p3, p4, p5, p6, p7, p8, p9⟩ := bAa_mid (bL (if bi s 30 (t * 256 + bi σ 10 0) = -1 then -1 else bi s (bKe (bi s 30 (t * 256 + bi σ 10 0))) 8)) h T D A1 W e13 C
    refine ⟨p1, w256 (d := 4) p2 p3 p4 p5 p6 (fun _ => p7) ht (fun w => absurd ⟨tk.1, by rw [p8]; exact tk.2⟩ w) (fun _ r Nd E2 U nr nd => ?_)⟩
    rw [p9] at nr ⊢
    obtain ⟨g1, g2, g3, g4⟩ := bAa_ok hR hH h tk T X A1 W e6 e13 C Rg I O E2 U nr nd
    refine ⟨g1, fun _ => ?_, g3⟩
    have r111 : ∀ j, bi r 111 j = bi σ 111 j := fun j => by
      rw [U.1 111 (by decide) (by decide), bi_ne (by decide), bi_bwj]
      exact us.1 111 (by decide) (by decide) j
    have r112 : ∀ j, bi r 112 j = bi σ 112 j := fun j => by
      rw [U.1 112 (by decide) (by decide), bi_ne (by decide), bi_bwj]
      exact us.1 112 (by decide) (by decide) j
    rw [g2, ← g4, r111, r112]
    congr 1
    by_cases z : bi s 30 (t * 256 + bi σ 10 0) = -1
    · rw [if_pos z, if_pos z]
    · rw [if_neg z, if_neg z, ke z]
end

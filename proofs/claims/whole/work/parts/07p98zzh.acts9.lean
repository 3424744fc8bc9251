/-! THE CASE actionOf, 2 -/
def bPlA : List Nat := [0, 4, 6, 7, 8, 13, 22, 23, 27, 28, 29, 30, 31, 32, 33, 39, 40, 41, 42, 43, 44, 45, 60, 61, 62, 63, 64, 65, 66, 67, 68, 69, 94, 95, 96, 97, 98, 99, 116]
/-- of actions nothing has changed but the candidate at place q -/
def bAoth (q : Int) (σ s : bSt) : Prop := (∀ b, b % 256 ∈ [0, 4, 13, 22, 23] → b ∉ bAd q → (∀ j, bi s b j = bi σ b j) ∧ (∀ j, br s b j = br σ b j) ∧ s.2.2.2.1 b = σ.2.2.2.1 b) ∧ (∀ a, 0 ≤ a → a ≠ q → br s 33 a = br σ 33 a) ∧ ((br σ 33 q).isSome → (br s 33 q).isSome)
/-- what was made is in order -/
def bMr (σ : bSt) : Prop := ∀ y, 0 ≤ y → y < 4096 → -1 ≤ bi σ 30 y ∧ bi σ 30 y < 1000
def bGa (N : Nat) (R : bSt → Prop) : bSt → Prop := bGp N (fun σ => bAk σ ∧ bMr σ ∧ R σ)
section
variable {d : Nat} {σ s t r s0 s1 : bSt} {f : Int → bSt → Prop} {q x y v k m : Int} {R : bSt → Prop} {H : bHp} {L N : Nat}
theorem bAoth_of (e : ∀ b, b % 256 ∈ [0, 4, 13, 22, 23] → ∀ j, bi s b j = bi σ b j) (e2 : s.2 = σ.2) : bAoth q σ s := ⟨fun b hb _ => ⟨e b hb, fun _ => by unfold br; rw [e2], by rw [e2]⟩, fun _ _ _ => by unfold br; rw [e2], fun w => by unfold br at w ⊢; rw [e2]; exact w⟩
theorem bAoth_t (h : bAoth q σ s) (k : bAoth q s t) : bAoth q σ t := ⟨fun b hb hn => ⟨fun j => ((k.1 b hb hn).1 j).trans ((h.1 b hb hn).1 j), fun j => ((k.1 b hb hn).2.1 j).trans ((h.1 b hb hn).2.1 j), (k.1 b hb hn).2.2.trans (h.1 b hb hn).2.2⟩, fun a a0 a1 => (k.2.1 a a0 a1).trans (h.2.1 a a0 a1), fun w => k.2.2 (h.2.2 w)⟩
theorem bAoth_e (h : bCew q σ s) : bAoth q σ s := ⟨fun b hb hn => by
    obtain ⟨a1, _, a3, a4⟩ := bCe_i h hn (by intro w; rw [w] at hb; revert hb; decide) (by intro w; rw [w] at hb; revert hb; decide)
    exact ⟨a1, a3, a4⟩, h.2.1, h.2.2.2.1⟩
theorem bAa_step (hR : ∀ σ s, bUn bPlA [0, 7] σ s → bAoth (bi σ 12 49) σ s → R σ → R s) (hH : ∀ c k σ s, bUn bPlA [0, 7] σ s → bAoth (bi σ 12 49) σ s → H c k σ → H (c + 8 * (bSo s (bi σ 12 49) - bSo σ (bi σ 12 49))) (k + 252 * (bSo s (bi σ 12 49) - bSo σ (bi σ 12 49))) s) (h : bI9 (bGa N R) H L N σ) (u : bUn bPlA [0, 7] σ s) (o : bAoth (bi σ 12 49) σ s) (hT : bTg s) (hX : bi s 7 15 = -1 ∨ bXe s) (hM : bPm (N + 1) s) (hA : bAk s) (hMr : bMr s) (h1 : s.2.2.2.2.1 + 8 * bSo σ (bi σ 12 49) ≤ σ.2.2.2.2.1 + 1 + 8 * bSo s (bi σ 12 49)) (h2 : s.2.2.2.2.2 + 252 * bSo σ (bi σ 12 49) ≤ σ.2.2.2.2.2 + 6 + 252 * bSo s (bi σ 12 49)) : bI9 (bGa (N + 1) R) H L (N + 1) s := by
  obtain ⟨a1, a2, a3, ⟨b1, b2, b3, b4, b5, b6, b7, b8⟩, c, k, a5, a6, a7⟩ := h
  have e : bT s = bT σ := by unfold bT; rw [u.2.1 22 (by decide) (by decide)]
  refine ⟨(bMid_un u (by decide)).2.trans a1, bFi_un u (by decide) a2, bTl_un u (by decide) (by decide) a3, ⟨hT, bTst_un u (by decide) (by decide) b2, bRs_un u (by decide) b3, hX, hM, hA, hMr, hR _ _ u o b8⟩, _, _, ?_, ?_, hH _ _ _ _ u o a7⟩
  · rw [e]
    generalize bSo σ (bi σ 12 49) = p at *
    generalize bSo s (bi σ 12 49) = q at *
    omega
  · rw [e]
    generalize bSo σ (bi σ 12 49) = p at *
    generalize bSo s (bi σ 12 49) = q at *
    omega
theorem bAa_no (hR : ∀ σ s, bUn bPlA [0, 7] σ s → bAoth (bi σ 12 49) σ s → R σ → R s) (hH : ∀ c k σ s, bUn bPlA [0, 7] σ s → bAoth (bi σ 12 49) σ s → H c k σ → H (c + 8 * (bSo s (bi σ 12 49) - bSo σ (bi σ 12 49))) (k + 252 * (bSo s (bi σ 12 49) - bSo σ (bi σ 12 49))) s) (h : bI9 (bGa N R) H L N σ) : bI9 (bGa (N + 1) R) H L (N + 1) (bw (bC σ 1 6) 12 0 v) := by
  have u0 : bUn [] [0] σ (bw (bC σ 1 6) 12 0 v) := bUn_f (bUn_C bUn_refl) (by decide) (by decide)
  obtain ⟨b1, b2, b3, b4, b5, b6, b7, b8⟩ := h.2.2.2.1
  have nb : ∀ b, b ≠ 12 → ∀ j, bi (bw (bC σ 1 6) 12 0 v) b j = bi σ b j := fun b q j => bi_ne q
  have o : bAoth (bi σ 12 49) σ (bw (bC σ 1 6) 12 0 v) := ⟨fun b hb _ => ⟨nb b (by intro w; rw [w] at hb; revert hb; decide), fun _ => rfl, rfl⟩, fun _ _ _ => rfl, id⟩
  have so : bSo (bw (bC σ 1 6) 12 0 v) (bi σ 12 49) = bSo σ (bi σ 12 49) := rfl
  refine bAa_step hR hH h (bUn_mono u0 (by decide) (by decide)) o (bTg_un u0 (by decide) (by decide) b1) (b4.imp (fun w => by rw [bi_ne (by decide)]; exact w) (fun w => bXe_un u0 (by decide) w)) (bPm_up (bPm_un u0 (by decide) (by decide) b5)) (bAk_m b6 (fun b hb j => nb b (by
    simp only [List.mem_cons, List.not_mem_nil, or_false] at hb
    omega) j) (nb 6 (by decide) 13) (bi_nj (by decide) (by decide) (by decide)) (fun _ => rfl) (fun _ _ _ => rfl)) (fun y y0 y1 => by rw [nb 30 (by decide)]; exact b7 y y0 y1) ?_ ?_
  · rw [so]; exact Nat.le_refl _
  · rw [so]; exact Nat.le_refl _
/-- behind the class's plan and the reference's: what both know is the same -/
theorem bAa_ok {t : Int} {w : Int64} {Nd : Int → Prop} (hR : ∀ σ s, bUn bPlA [0, 7] σ s → bAoth (bi σ 12 49) σ s → R σ → R s) (hH : ∀ c k σ s, bUn bPlA [0, 7] σ s → bAoth (bi σ 12 49) σ s → H c k σ → H (c + 8 * (bSo s (bi σ 12 49) - bSo σ (bi σ 12 49))) (k + 252 * (bSo s (bi σ 12 49) - bSo σ (bi σ 12 49))) s) (h : bI9 (bGa N R) H L N σ) (tk : bTgk σ t) (T : bT68 σ s1) (X : bi s1 7 15 = -1 ∨ bXe s1) (A1 : bAk s1) (W : bWk s1 s0) (e6 : bi s0 6 10 = bi s1 6 10 + 1) (e13 : bi s0 6 13 = bi s1 6 13) (C : bCew (bi s1 12 49) s0 s) (Rg : ∀ y, 0 ≤ y → y < 4096 → -1 ≤ bi s 30 y ∧ bi s 30 y < 1000) (I : bIno s (bi s 6 11) (t * 256 + bi σ 10 0)) (O : ∀ y, bIno s (bi s 6 11) y → (0 ≤ y ∧ bTgk s1 (y / 256)) ∧ bCk s1 s y ∧ ∀ k, 0 ≤ k → k < bi s1 85 (y / 256) → bi s1 86 (6 * (y / 256) + k) = 2 → bIno s (bi s 6 11) (bNod s1 y k))
    (E2 : r.2 = (bw (bwj s 154 0 w) 12 0 0).2) (U : bUn bLk3 [7] (bw (bwj s 154 0 w) 12 0 0) r) (nr : Nd (t * 256 + bi σ 10 0)) (nd : ∀ x, 0 ≤ x → bTgk (bwj s 154 0 w) (x / 256) → Nd x → (bFx (bwj s 154 0 w) x = 0 → bCkf (bwj s 154 0 w) (bMa r) x) ∧ ∀ k, 0 ≤ k → k < bi (bwj s 154 0 w) 85 (x / 256) → bi (bwj s 154 0 w) 86 (6 * (x / 256) + k) = 2 → Nd (bNod (bwj s 154 0 w) x k)) :
    bi r 12 0 = 0 ∧ bj r 154 0 = w ∧ bI9 (bGa (N + 1) R) H L (N + 1) r ∧ bi s 30 (t * 256 + bi σ 10 0) = (if bFx (bwj s 154 0 w) (t * 256 + bi σ 10 0) = 0 then bi r 99 (t * 256 + bi σ 10 0) else -1) := by
  obtain ⟨b1, b2, b3, b4, b5, b6, b7, b8⟩ := h.2.2.2.1
  have u1 : bUn bPlA [0, 7] σ s1 := bUn_mono (bT68_un T) (by decide) (by decide)
  have u0 : bUn bPlA [0, 7] σ s0 := bUn_S u1 (bSm_mono W.1 (by decide)) (by decide)
  have us : bUn bPlA [0, 7] σ s := bUn_trans u0 (bUn_mono (bCe_un C) (by decide) (by decide))
  have ur0 : bUn bPlA [0, 7] σ (bw (bwj s 154 0 w) 12 0 0) := bUn_f (bUn_o us) (by decide) (by decide)
  have u : bUn bPlA [0, 7] σ r := bUn_trans ur0 (bUn_mono U (by decide) (by decide))
  have e49 : bi s1 12 49 = bi σ 12 49 := T.2.1 12 (by decide) (by decide) 49
  have f49 : bi s0 12 49 = bi s1 12 49 := W.1.2 12 (by decide) 49
  have T1 := bTg_68 T b1
  have w0 : bUn bWkK [] s1 s0 := bUn_S bUn_refl W.1 (by decide)
  have ws : bUn (bWkK ++ (30 :: bCdK)) [] s1 s := bUn_trans (bUn_mono w0 (by decide) (by decide)) (bUn_mono (bCe_un C) (by decide) (by decide))
  have wr : bUn (bWkK ++ (30 :: bCdK)) [0] s1 (bw (bwj s 154 0 w) 12 0 0) := bUn_f (bUn_o (bUn_mono ws (by decide) (by decide))) (by decide) (by decide)
  have A0 := bAk_w A1 W.1 e13
  have As := bAk_e A0 f49 C
  have nb : ∀ b, b ≠ 12 → ∀ j, bi (bw (bwj s 154 0 w) 12 0 0) b j = bi s b j := fun b q j => by rw [bi_ne q, bi_bwj]
  have q12 : bi (bw (bwj s 154 0 w) 12 0 0) 12 49 = bi s 12 49 := by rw [bi_nj (by decide) (by decide) (by decide), bi_bwj]
  have Ar : bAk r := bAk_m As (fun b hb j => by
    rw [U.1 b (by
      simp only [List.mem_cons, List.not_mem_nil, or_false] at hb
      unfold bLk3
      simp only [List.mem_cons, List.not_mem_nil, or_false, not_or]
      omega) (by
      simp only [List.mem_cons, List.not_mem_nil, or_false] at hb
      omega)]
    exact nb b (by
      simp only [List.mem_cons, List.not_mem_nil, or_false] at hb
      omega) j) (by rw [U.1 6 (by decide) (by decide)]; exact nb 6 (by decide) 13) (by rw [U.2.1 49 (by decide) (by decide)]; exact q12) (fun a => by unfold br; rw [E2]; rfl) (fun a b _ => by rw [E2]; rfl)
  have k6 : ∀ j, bi r 6 j = bi s0 6 j := fun j => by rw [U.1 6 (by decide) (by decide), nb 6 (by decide)]; exact (bCe_un C).1 6 (by decide) (by decide) j
  have k27 : ∀ j, bi r 27 j = bi s0 27 j := fun j => by rw [U.1 27 (by decide) (by decide), nb 27 (by decide)]; exact (bCe_un C).1 27 (by decide) (by decide) j
  have k30 : ∀ j, bi r 30 j = bi s 30 j := fun j => by rw [U.1 30 (by decide) (by decide), nb 30 (by decide)]
  have e61 : bi s1 6 10 = bi σ 6 10 := T.2.1 6 (by decide) (by decide) 10
  have m10 := b5.1.1
  have m11 := b5.2
  have oth : bAoth (bi σ 12 49) σ r := by
    have o1 : bAoth (bi σ 12 49) σ s1 := bAoth_of (fun b hb j => T.2.1 b (by
      simp only [List.mem_cons, List.not_mem_nil, or_false] at hb
      unfold bEvK
      simp only [List.mem_cons, List.not_mem_nil, or_false, not_or]
      omega) (by
      simp only [List.mem_cons, List.not_mem_nil, or_false] at hb
      omega) j) T.1
    have o2 : bAoth (bi σ 12 49) s1 s0 := bAoth_of (fun b hb j => W.1.2 b (by
      simp only [List.mem_cons, List.not_mem_nil, or_false] at hb
      unfold bWkK
      simp only [List.mem_cons, List.not_mem_nil, or_false, not_or]
      omega) j) W.1.1
    have o3 : bAoth (bi σ 12 49) s0 s := by rw [← e49]; exact bAoth_e C
    refine bAoth_t (bAoth_t (bAoth_t o1 o2) o3) ⟨fun b hb _ => ⟨fun j => ?_, fun j => by unfold br; rw [E2]; rfl, by rw [E2]; rfl⟩, fun a _ _ => by unfold br; rw [E2]; rfl, fun z => by unfold br at z ⊢; rw [E2]; exact z⟩
    rw [U.1 b (by
      simp only [List.mem_cons, List.not_mem_nil, or_false] at hb
      unfold bLk3
      simp only [List.mem_cons, List.not_mem_nil, or_false, not_or]
      omega) (by
      simp only [List.mem_cons, List.not_mem_nil, or_false] at hb
      omega)]
    exact nb b (by intro z; rw [z] at hb; revert hb; decide) j
  have so0 : bSo s0 (bi s1 12 49) = bSo σ (bi σ 12 49) := by unfold bSo br; rw [W.1.1, T.1, e49]
  have sor : bSo r (bi σ 12 49) = bSo s (bi s1 12 49) := by unfold bSo br; rw [E2, e49]; rfl
  refine ⟨?_, ?_, bAa_step hR hH h u oth (bTg_un U (by decide) (by decide) (bTg_un wr (by decide) (by decide) T1)) (X.imp (fun z => ?_) (fun z => ?_)) ⟨⟨?_, fun y y0 y1 => ?_⟩, ?_⟩ Ar (fun y y0 y1 => by rw [k30]; exact Rg y y0 y1) ?_ ?_, ?_⟩
  · rw [U.2.1 0 (by decide) (by decide), bi_eq (by decide)]
  · have : bj r 154 0 = bj (bw (bwj s 154 0 w) 12 0 0) 154 0 := by unfold bj; rw [E2]
    rw [this]
    exact bj_eq
  · rw [U.1 7 (by decide) (by decide), wr.1 7 (by decide) (by decide)]; exact z
  · exact bXe_un U (by decide) (bXe_un wr (by decide) z)
  · rw [k6, e6, e61]; omega
  · rw [k27, k6]; exact W.2.1.1 y y0 y1
  · rw [k6, e6, e61]; omega
  · have c := C.2.2.2.2.1
    rw [so0] at c
    rw [sor, E2]
    show s.2.2.2.2.1 + _ ≤ _
    rw [W.1.1, T.1] at c
    omega
  · have c := C.2.2.2.2.2
    rw [so0] at c
    rw [sor, E2]
    show s.2.2.2.2.2 + _ ≤ _
    rw [W.1.1, T.1] at c
    omega
  · have ag : bPag s1 (bwj s 154 0 w) := bPag_t (bPag_t (bWk_pag W.1) (bCe_pag C)) (t := bwj s 154 0 w) ⟨fun _ _ _ => rfl, rfl, rfl, fun _ => rfl⟩
    have ref : ∀ b ∈ [76, 101, 102, 103, 104, 105, 106], ∀ j, bi (bwj s 154 0 w) b j = bi s1 b j := fun b hb j => ws.1 b (by
      simp only [List.mem_cons, List.not_mem_nil, or_false] at hb
      rcases hb with rfl | rfl | rfl | rfl | rfl | rfl | rfl <;> decide) (by
      simp only [List.mem_cons, List.not_mem_nil, or_false] at hb
      rcases hb with rfl | rfl | rfl | rfl | rfl | rfl | rfl <;> decide) j
    have g49 : bi (bwj s 154 0 w) 12 49 = bi s1 12 49 := ws.2.1 49 (by decide) (by decide)
    have en : ∀ x k, bNod (bwj s 154 0 w) x k = bNod s1 x k := fun x k => by unfold bNod; rw [ag.1 87 (by decide), bBw_m ag]
    rw [bFx_m ag]
    by_cases z : bFx s1 (t * 256 + bi σ 10 0) = 0
    · rw [if_pos z]
      have := bKn_eq (M := bMd s) (N := bMa r) (Od := fun y => bIno s (bi s 6 11) y) (Nd := Nd) A1 T1 O (fun x x0 xt n => by
        obtain ⟨c1, c2⟩ := nd x x0 ⟨xt.1, by rw [ag.2.2.1]; exact xt.2⟩ n
        rw [bFx_m ag] at c1
        refine ⟨fun z => (bCkf_b ag ref g49 T1 xt).1 (c1 z), fun k k0 k1 hK => ?_⟩
        rw [← en]
        exact c2 k k0 (by rw [ag.1 85 (by decide)]; exact k1) (by rw [ag.1 86 (by decide)]; exact hK)) ((t * 256 + bi σ 10 0) / 256 + 1).toNat (t * 256 + bi σ 10 0) (by have := (O _ I).1.2.1; omega) I nr z
      exact this
    · rw [if_neg z]
      rcases (O _ I).2.1 with ⟨_, e⟩ | ⟨e, _⟩
      · exact e
      · exact absurd e z
/-- what the reference needs behind the class's plan -/
theorem bAa_mid (w : Int64) (h : bI9 (bGa N R) H L N σ) (T : bT68 σ s1) (D : ∀ t, bTgk σ t → bRn1 σ s1 t) (A1 : bAk s1) (W : bWk s1 s0) (e13 : bi s0 6 13 = bi s1 6 13) (C : bCew (bi s1 12 49) s0 s) : bMid σ (bwj s 154 0 w) ∧ bFi (bwj s 154 0 w) ∧ bTl (bwj s 154 0 w) ∧ bTg (bwj s 154 0 w) ∧ bRs (bwj s 154 0 w) ∧ bAk (bwj s 154 0 w) ∧ (∀ t, bTgk (bwj s 154 0 w) t → bRn1 (bwj s 154 0 w) (bwj s 154 0 w) t) ∧ bi (bwj s 154 0 w) 12 22 = bi σ 12 22 ∧ bi (bwj s 154 0 w) 10 0 = bi σ 10 0 := by
  obtain ⟨b1, b2, b3, b4, b5, b6, b7, b8⟩ := h.2.2.2.1
  have u1 : bUn bPlA [0, 7] σ s1 := bUn_mono (bT68_un T) (by decide) (by decide)
  have u0 : bUn bPlA [0, 7] σ s0 := bUn_S u1 (bSm_mono W.1 (by decide)) (by decide)
  have us : bUn bPlA [0, 7] σ s := bUn_trans u0 (bUn_mono (bCe_un C) (by decide) (by decide))
  have ur : bUn bPlA [0, 7] σ (bwj s 154 0 w) := bUn_o us
  have f49 : bi s0 12 49 = bi s1 12 49 := W.1.2 12 (by decide) 49
  have w0 : bUn bWkK [] s1 s0 := bUn_S bUn_refl W.1 (by decide)
  have ws : bUn (bWkK ++ (30 :: bCdK)) [] s1 s := bUn_trans (bUn_mono w0 (by decide) (by decide)) (bUn_mono (bCe_un C) (by decide) (by decide))
  have wr : bUn (bWkK ++ (30 :: bCdK)) [] s1 (bwj s 154 0 w) := bUn_o ws
  have As := bAk_e (bAk_w A1 W.1 e13) f49 C
  have ag := bPag_t (bWk_pag W.1) (bCe_pag C)
  have e22 : bi (bwj s 154 0 w) 12 22 = bi σ 12 22 := ur.2.1 22 (by decide) (by decide)
  refine ⟨bMid_un ur (by decide), bFi_un ur (by decide) h.2.1, bTl_un ur (by decide) (by decide) h.2.2.1, bTg_un wr (by decide) (by decide) (bTg_68 T b1), bRs_un ur (by decide) b3, bAk_m As (fun _ _ _ => rfl) rfl rfl (fun _ => rfl) (fun _ _ _ => rfl), fun t ht => ?_, e22, ur.1 10 (by decide) (by decide) 0⟩
  refine bRn1_m (D t ⟨ht.1, by rw [← e22]; exact ht.2⟩) (ag.2.2.2 t) (fun b hb j => ur.1 b ?_ ?_ j)
  · simp only [List.mem_cons, List.not_mem_nil, or_false] at hb
    rcases hb with rfl | rfl | rfl | rfl | rfl | rfl | rfl <;> decide
  · simp only [List.mem_cons, List.not_mem_nil, or_false] at hb
    rcases hb with rfl | rfl | rfl | rfl | rfl | rfl | rfl <;> decide
theorem k36 (hR : ∀ σ s, bUn bPlA [0, 7] σ s → bAoth (bi σ 12 49) σ s → R σ → R s) (hH : ∀ c k σ s, bUn bPlA [0, 7] σ s → bAoth (bi σ 12 49) σ s → H c k σ → H (c + 8 * (bSo s (bi σ 12 49) - bSo σ (bi σ 12 49))) (k + 252 * (bSo s (bi σ 12 49) - bSo σ (bi σ 12 49))) s) (hN : N ≤ 100000) (h : bI9 (bGa N R) H L N σ) : bK36 (bI9 (bGa (N + 1) R) H L (N + 1)) σ := by
  obtain ⟨b1, b2, b3, b4, b5, b6, b7, b8⟩ := h.2.2.2.1
  have m10 := b5.1.1
  have m11 := b5.2
  refine wk36 fun t ht => w179 (d := 2) h.2.1 h.2.2.1 b1 b3 b4 b5.1 ⟨by omega, by omega⟩ b6 b7 ht (fun z => ?_) (fun tk s1 s0 s T X D A1 W e6 e13 C Rg I O => ?_)
  · have u0 : bUn [] [] σ (bC σ 1 6) := bUn_C bUn_refl
    exact ⟨bMid_C, w248 (d := 4) (bFi_un u0 (by decide) h.2.1) (bTl_un u0 (by decide) (by decide) h.2.2.1) (bTg_un u0 (by decide) (by decide) b1) (bRs_un u0 (by decide) b3) (bAk_m b6 (fun _ _ _ => rfl) rfl rfl (fun _ => rfl) (fun _ _ _ => rfl)) (fun w => absurd w z) ht (fun _ => ⟨bi_eq (by decide), fun w => absurd w (by decide), bAa_no hR hH h⟩) (fun w => absurd w z)⟩
  · obtain ⟨p1, p2, p3, p4, p5, p6, p7, p8, p9⟩ := bAa_mid (bL (bi s 30 (t * 256 + bi σ 10 0))) h T D A1 W e13 C
    refine ⟨p1, w248 (d := 4) p2 p3 p4 p5 p6 (fun _ => p7) ht (fun w => absurd ⟨tk.1, by rw [p8]; exact tk.2⟩ w) (fun _ r Nd E2 U nr nd => ?_)⟩
    rw [p9] at nr ⊢
    obtain ⟨g1, g2, g3, g4⟩ := bAa_ok hR hH h tk T X A1 W e6 e13 C Rg I O E2 U nr nd
    refine ⟨g1, fun _ => ?_, g3⟩
    rw [g2]
    exact congrArg bL g4
end

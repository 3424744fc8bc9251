/-! THE PLAN, 4: the walk -/
def bWkK : List Nat := [6, 27, 28, 29, 31, 32]
theorem bWk_pag {σ s : bSt} (h : bSm bWkK σ s) : bPag σ s :=
  ⟨fun a ha i => h.2 a (by
    simp only [List.mem_cons, List.not_mem_nil, or_false] at ha
    rcases ha with rfl | rfl | rfl | rfl | rfl | rfl | rfl | rfl | rfl | rfl | rfl | rfl | rfl | rfl | rfl | rfl | rfl | rfl <;> decide) i, h.2 12 (by decide) 17, h.2 12 (by decide) 22, fun t => h.2 (bTi t) (by rw [bTi_m]; decide) 4⟩
/-- visited in this walk -/
def bVis (s : bSt) (y : Int) : Prop := bi s 27 y = bi s 6 10
def bVn (s : bSt) : Int := bCnp (fun y => decide (bi s 27 y = bi s 6 10)) 4096
/-- it stands in the order, ahead of n -/
def bIno (s : bSt) (n y : Int) : Prop := ∃ j, 0 ≤ j ∧ j < n ∧ bi s 28 j = y
/-- what holds of one in the order -/
def bOrd1 (σ s : bSt) (n x : Int) : Prop := (0 ≤ x ∧ bTgk σ (x / 256)) ∧ bVis s x ∧ bi s 29 x = bFx σ x ∧ ∀ k, 0 ≤ k → k < bi σ 85 (x / 256) → bi σ 86 (6 * (x / 256) + k) = 2 → bIno s n (bNod σ x k)
/-- the walk's order as far as it has come -/
def bOrd (σ s : bSt) : Prop := (∀ y, 0 ≤ y → y < 4096 → bi s 27 y ≤ bi s 6 10) ∧ 0 ≤ bi s 6 11 ∧ ∀ i, 0 ≤ i → i < bi s 6 11 → bOrd1 σ s i (bi s 28 i)
/-- it has gone on: s behind r, with the stack below dd untouched -/
def bExt6 (dd : Int) (r s : bSt) : Prop := (bi s 6 10 = bi r 6 10 ∧ bi s 6 13 = bi r 6 13) ∧ (∀ j, 0 ≤ j → j < dd → bi s 31 j = bi r 31 j ∧ bi s 32 j = bi r 32 j) ∧ bi r 6 11 ≤ bi s 6 11 ∧ (∀ i, 0 ≤ i → i < bi r 6 11 → bi s 28 i = bi r 28 i) ∧ (∀ y, 0 ≤ y → y < 4096 → bVis r y → bVis s y) ∧ ∀ y, 0 ≤ y → y < 4096 → bVis s y → bVis r y ∨ bIno s (bi s 6 11) y
section
variable {d lvl : Nat} {σ s r : bSt} {f : Int → bSt → Prop} {fv : bSt → Prop} {A : bPt → Prop} {t x y z v k c i q n m dd : Int}
theorem bIno_e {r : bSt} (h : bIno r n y) (n2 : n ≤ m) (e : ∀ i, 0 ≤ i → i < n → bi s 28 i = bi r 28 i) : bIno s m y := by
  obtain ⟨j, j0, j1, j2⟩ := h
  exact ⟨j, j0, by omega, by rw [e j j0 j1]; exact j2⟩
theorem w72 (h0 : x = -1 → fv σ) (h1 : x ≠ -1 → (0 ≤ x ∧ x < 4096) ∧ (bVis σ x → fv σ) ∧ (¬ bVis σ x → (0 ≤ bi σ 6 12 ∧ bi σ 6 12 < 16) ∧ fv (bw (bw (bw (bw σ 27 x (bi σ 6 10)) 31 (bi σ 6 12) x) 32 (bi σ 6 12) 0) 6 12 (bi σ 6 12 + 1)))) (hx : bRg x) : bWp (d + 2) 72 [.ref 6, .int (bn x)] σ (bRv fv) := by
  refine ⟨rfl, fun _ hA => sq72_0 (bWp_mono _) hA hx ⟨h0, fun w => ?_⟩⟩
  obtain ⟨x4, k1, k2⟩ := h1 w
  refine w140i (n := 4096) rfl rfl (by decide) x4.1 x4.2 ⟨k1, fun q => ?_⟩
  obtain ⟨d16, k⟩ := k2 q
  refine w141i (n := 4096) (bi_rg _ _ _) rfl (by decide) rfl (by decide) x4.1 x4.2 ?_
  rw [bi_ne (by decide)]
  refine w141i (n := 16) hx rfl (by decide) rfl (by decide) d16.1 d16.2 ?_
  rw [bi_ne (by decide), bi_ne (by decide)]
  refine w141i (n := 16) (by decide) rfl (by decide) rfl (by decide) d16.1 d16.2 ?_
  rw [bi_ne (by decide), bi_ne (by decide), bi_ne (by decide)]
  exact ⟨⟨by omega, by omega⟩, k⟩
theorem bVis_in {r s : bSt} (e : ∀ j, bi s 27 j = bi r 27 j) (e2 : bi s 6 10 = bi r 6 10) : bVis s y ↔ bVis r y := by
  unfold bVis
  rw [e, e2]
theorem bVn_in {r s : bSt} (e : ∀ j, bi s 27 j = bi r 27 j) (e2 : bi s 6 10 = bi r 6 10) : bVn s = bVn r := by
  unfold bVn
  exact bCn_c 4096 (fun k _ _ => by simp only [e, e2])
theorem bVn_b : 0 ≤ bVn s ∧ bVn s ≤ 4096 := bCn_b 4096
/-- from a node on top with place p, on until it is done -/
theorem n71 (hF : bFi σ) (hL : bTl σ) (hT : bTg σ) (h4 : bR4 σ) (hA : bClosed lvl bm71 (bWp (d + 4)) (bRv fv) A) : ∀ (T : Nat) (x : Int), 0 ≤ x → x / 256 < T → bTgk σ (x / 256) → ∀ (n : Nat) (p : Int) (s : bSt) (v1 v3 v4 v5 : Value) (l dd C : Int), p + n = bi σ 85 (x / 256) → 0 ≤ p → bSm bWkK σ s → bi s 6 12 = dd + 1 → 0 ≤ dd → dd + x / 256 < 16 → bi s 31 dd = x → bi s 32 dd = p → bVis s x → bOrd σ s →
    (∀ y, 0 ≤ y → y < 4096 → bVis s y → y / 256 < x / 256 → bIno s (bi s 6 11) y) → (∀ k, 0 ≤ k → k < p → bi σ 86 (6 * (x / 256) + k) = 2 → bIno s (bi s 6 11) (bNod σ x k)) → bi s 6 11 + bi s 6 12 = bVn s → 0 ≤ C → 0 ≤ l → l + 8 * (4096 - bVn s) + (7 - p) + C ≤ 99999 →
    (∀ s' l' v1' v3' v4' v5', bSm bWkK σ s' → bExt6 dd s s' → bi s' 6 12 = dd → bOrd σ s' → bIno s' (bi s' 6 11) x → bi s' 6 11 + bi s' 6 12 = bVn s' → 0 ≤ l' → l' + 8 * (4096 - bVn s') + C ≤ 99999 → A (8, [.ref 6, v1', .int (bn l'), v3', v4', v5'], [], s')) → A (8, [.ref 6, v1, .int (bn l), v3, v4, v5], [], s) := by
  intro T
  induction T with
  | zero => intro x x0 xT; omega
  | succ T IH =>
    intro x x0 xT ht n
    have tc := hT.1.2.1
    have ht2 := ht.2
    have ic := bIc_at hT ht
    have x8 : bShr x 8 = x / 256 := bShr_8 x0 (by omega)
    induction n with
    | zero =>
      intro p s v1 v3 v4 v5 l dd C hp p0 M e12 dd0 dd1 e31 e32 vx O VI PI cn C0 l0 bl k
      have vb := bVn_b (s := s)
      have ag := bWk_pag M
      have uM : bUn bWkK [] σ s := bUn_S bUn_refl M (by decide)
      have hTs : bTg s := bTg_un uM (by decide) (by decide) hT
      have g13 : bi s (bTi (x / 256)) 13 = bi σ 85 (x / 256) := (M.2 _ (by rw [bTi_m]; decide) 13).trans ic.1
      refine sq71_8 (bWp_mono _) hA ⟨by omega, by omega⟩ ⟨fun _ => ⟨fun _ => ⟨⟨by omega, by omega⟩, ?_⟩, fun w => absurd (show (0 : Int) < bi s 6 12 by omega) w⟩, fun w => absurd (show l < 100000 by omega) w⟩
      have eD : bi s 6 12 - 1 = dd := by omega
      rw [eD]
      refine w140i (n := 16) rfl rfl (by decide) dd0 (by omega) ⟨⟨by omega, by omega⟩, ?_⟩
      rw [eD]
      refine w140i (n := 16) rfl rfl (by decide) dd0 (by omega) ?_
      rw [e31, e32, x8]
      refine w120 (hTs.2.1 _ ht.1 (by rw [ag.2.2.1]; exact ht.2)) ht.1 (by omega) ⟨bTi_m, ?_⟩
      rw [g13]
      refine ⟨fun w => absurd w (by omega), fun _ => ?_⟩
      refine w74 (bFi_un uM (by decide) hF) (bTl_un uM (by decide) (by decide) hL) hTs (fun t ht => by rw [ag.2.2.2]; exact h4 t ⟨ht.1, by rw [← ag.2.2.1]; exact ht.2⟩) x0 ⟨ht.1, by rw [ag.2.2.1]; exact ht.2⟩ ?_
      have ef : bF1 s (bi s 29) x = bFx σ x := by
        rw [bF1_m ag, bFx_s hT x0 ht]
        refine bF1_c hT ht fun k k0 k1 hK => ?_
        obtain ⟨j, j0, j1, j2⟩ := PI k k0 (by omega) hK
        have := (O.2.2 j j0 j1).2.2.1
        rwa [j2] at this
      rw [ef]
      have fr := bFx_rg hT x0 ht
      refine w141i (n := 4096) ⟨by omega, by omega⟩ rfl (by decide) rfl (by decide) x0 (by omega) ?_
      rw [bi_ne (by decide)]
      have n0 := O.2.1
      refine w141i (n := 4096) ⟨by omega, by omega⟩ rfl (by decide) rfl (by decide) n0 (by omega) ?_
      simp (disch := decide) only [bi_ne]
      generalize hv : bFx σ x = v at *
      generalize hn : bi s 6 11 = nn at *
      refine ⟨⟨by omega, by omega⟩, ⟨by omega, by omega⟩, ⟨by omega, by omega⟩, ?_⟩
      rw [e12, show dd + 1 - 1 = dd by omega]
      generalize hs : bw (bw (bw (bw s 29 x v) 28 nn x) 6 11 (nn + 1)) 6 12 dd = s'
      have e11' : bi s' 6 11 = nn + 1 := by rw [← hs, bi_nj (by decide) (by decide) (by decide), bi_eq ⟨by omega, by omega⟩]
      have e12' : bi s' 6 12 = dd := by rw [← hs, bi_eq ⟨by omega, by omega⟩]
      have e10' : bi s' 6 10 = bi s 6 10 := by rw [← hs, bi_nj (by decide) (by decide) (by decide), bi_nj (by decide) (by decide) (by decide), bi_ne (by decide), bi_ne (by decide)]
      have ne : ∀ b, b ≠ 29 → b ≠ 28 → b ≠ 6 → ∀ j, bi s' b j = bi s b j := fun b q1 q2 q3 j => by rw [← hs, bi_ne q3, bi_ne q3, bi_ne q2, bi_ne q1]
      have e28 : ∀ j, 0 ≤ j → bi s' 28 j = if j = nn then x else bi s 28 j := fun j j0 => by
        rw [← hs, bi_ne (by decide), bi_ne (by decide), bi_bw n0 j0 ⟨by omega, by omega⟩, bi_ne (by decide)]; simp only [true_and]
      have e29 : ∀ j, 0 ≤ j → bi s' 29 j = if j = x then v else bi s 29 j := fun j j0 => by
        rw [← hs, bi_ne (by decide), bi_ne (by decide), bi_ne (by decide), bi_bw x0 j0 ⟨by omega, by omega⟩]; simp only [true_and]
      have pre : ∀ i, 0 ≤ i → i < nn → bi s' 28 i = bi s 28 i := fun i i0 i1 => by rw [e28 i i0, if_neg (by omega)]
      have vs : ∀ y, bVis s' y ↔ bVis s y := fun y => bVis_in (ne 27 (by decide) (by decide) (by decide)) e10'
      have cv : bVn s' = bVn s := bVn_in (ne 27 (by decide) (by decide) (by decide)) e10'
      refine k s' (l + 1) _ _ _ _ (bSm_trans M (by rw [← hs]; exact bSm_trans (bSm_trans (bSm_trans (bSm_bw (by decide)) (bSm_bw (by decide))) (bSm_bw (by decide))) (bSm_bw (by decide)))) ⟨⟨e10', by rw [← hs, bi_nj (by decide) (by decide) (by decide), bi_nj (by decide) (by decide) (by decide), bi_ne (by decide), bi_ne (by decide)]⟩, fun j j0 j1 => ⟨ne 31 (by decide) (by decide) (by decide) j, ne 32 (by decide) (by decide) (by decide) j⟩, by omega, fun i i0 i1 => pre i i0 (by omega), fun y _ _ w => (vs y).2 w, fun y _ _ w => Or.inl ((vs y).1 w)⟩ e12' ⟨fun y y0 y1 => by rw [ne 27 (by decide) (by decide) (by decide), e10']; exact O.1 y y0 y1, by omega, fun i i0 i1 => ?_⟩ ⟨nn, n0, by omega, by rw [e28 nn n0, if_pos rfl]⟩ (by omega) (by omega) (by rw [cv]; omega)
      rw [e11'] at i1
      by_cases w : i = nn
      · rw [e28 i i0, if_pos w]
        refine ⟨⟨x0, ht⟩, (vs x).2 vx, by rw [e29 x x0, if_pos rfl, hv], fun k k0 k1 hK => ?_⟩
        exact bIno_e (PI k k0 (by omega) hK) (by omega) (fun i i0 i1 => pre i i0 i1)
      · rw [pre i i0 (by omega)]
        obtain ⟨o1, o2, o3, o4⟩ := O.2.2 i i0 (by omega)
        refine ⟨o1, (vs _).2 o2, ?_, fun k k0 k1 hK => bIno_e (o4 k k0 k1 hK) (Int.le_refl _) (fun i i0 i1 => pre i i0 (by omega))⟩
        rw [e29 _ o1.1]
        by_cases w2 : bi s 28 i = x
        · rw [if_pos w2, w2, hv]
        · rw [if_neg w2]; exact o3
    | succ n ih =>
      intro p s v1 v3 v4 v5 l dd C hp p0 M e12 dd0 dd1 e31 e32 vx O VI PI cn C0 l0 bl k
      have vb := bVn_b (s := s)
      have ag := bWk_pag M
      have uM : bUn bWkK [] σ s := bUn_S bUn_refl M (by decide)
      have hTs : bTg s := bTg_un uM (by decide) (by decide) hT
      have hts : bTgk s (x / 256) := ⟨ht.1, by rw [ag.2.2.1]; exact ht.2⟩
      have g13 : bi s (bTi (x / 256)) 13 = bi σ 85 (x / 256) := (M.2 _ (by rw [bTi_m]; decide) 13).trans ic.1
      have n0 := O.2.1
      refine sq71_8 (bWp_mono _) hA ⟨by omega, by omega⟩ ⟨fun _ => ⟨fun _ => ⟨⟨by omega, by omega⟩, ?_⟩, fun w => absurd (show (0 : Int) < bi s 6 12 by omega) w⟩, fun w => absurd (show l < 100000 by omega) w⟩
      have eD : bi s 6 12 - 1 = dd := by omega
      rw [eD]
      refine w140i (n := 16) rfl rfl (by decide) dd0 (by omega) ⟨⟨by omega, by omega⟩, ?_⟩
      rw [eD]
      refine w140i (n := 16) rfl rfl (by decide) dd0 (by omega) ?_
      rw [e31, e32, x8]
      refine w120 (hTs.2.1 _ hts.1 hts.2) ht.1 (by omega) ⟨bTi_m, ?_⟩
      rw [g13, eD]
      refine ⟨fun _ => ⟨⟨by omega, by omega⟩, ⟨by omega, by omega⟩, w141i (n := 16) ⟨by omega, by omega⟩ rfl (by decide) rfl (by decide) dd0 (by omega) ?_⟩, fun w => absurd (show p < bi σ 85 (x / 256) by omega) w⟩
      generalize hs1 : bw s 32 dd (p + 1) = s1
      have M1 : bSm bWkK σ s1 := by rw [← hs1]; exact bSm_trans M (bSm_bw (by decide))
      have ne1 : ∀ b, b ≠ 32 → ∀ j, bi s1 b j = bi s b j := fun b q j => by rw [← hs1, bi_ne q]
      have e32' : ∀ j, 0 ≤ j → bi s1 32 j = if j = dd then p + 1 else bi s 32 j := fun j j0 => by
        rw [← hs1, bi_bw dd0 j0 ⟨by omega, by omega⟩]; simp only [true_and]
      have ag1 := bWk_pag M1
      have uM1 : bUn bWkK [] σ s1 := bUn_S bUn_refl M1 (by decide)
      have hT1 : bTg s1 := bTg_un uM1 (by decide) (by decide) hT
      have ht1 : bTgk s1 (x / 256) := ⟨ht.1, by rw [ag1.2.2.1]; exact ht.2⟩
      have vs1 : ∀ y, bVis s1 y ↔ bVis s y := fun y => bVis_in (ne1 27 (by decide)) (ne1 6 (by decide) 10)
      have cv1 : bVn s1 = bVn s := bVn_in (ne1 27 (by decide)) (ne1 6 (by decide) 10)
      have i1 : ∀ {m y}, bIno s m y → bIno s1 m y := fun h => bIno_e h (Int.le_refl _) (fun i _ _ => ne1 28 (by decide) i)
      have O1 : bOrd σ s1 := ⟨fun y y0 y1 => by rw [ne1 27 (by decide), ne1 6 (by decide)]; exact O.1 y y0 y1, by rw [ne1 6 (by decide)]; exact n0, fun i i0 i2 => by
        rw [ne1 6 (by decide)] at i2
        obtain ⟨o1, o2, o3, o4⟩ := O.2.2 i i0 i2
        rw [ne1 28 (by decide)]
        exact ⟨o1, (vs1 _).2 o2, by rw [ne1 29 (by decide)]; exact o3, fun k k0 k1 hK => i1 (o4 k k0 k1 hK)⟩⟩
      have g131 : bi s1 (bTi (x / 256)) 13 = bi σ 85 (x / 256) := (M1.2 _ (by rw [bTi_m]; decide) 13).trans ic.1
      have i85 : p < bi s1 85 (x / 256) := by rw [ag1.1 85 (by decide)]; omega
      refine w112 g131 p0 (by omega) ic.2.2 (w73 hT1 ht1 ⟨x0, by omega⟩ p0 i85 ?_)
      rw [ag1.1 86 (by decide), ag1.1 87 (by decide), bBw_m ag1]
      -- on with the next item
      have go : ∀ (s2 : bSt) (l2 : Int) (v1' v3' v4' v5' : Value), bSm bWkK σ s2 → bExt6 dd s s2 → bi s2 6 12 = dd + 1 → bi s2 31 dd = x → bi s2 32 dd = p + 1 → bOrd σ s2 → (∀ y, 0 ≤ y → y < 4096 → bVis s2 y → y / 256 < x / 256 → bIno s2 (bi s2 6 11) y) → (bi σ 86 (6 * (x / 256) + p) = 2 → bIno s2 (bi s2 6 11) (bNod σ x p)) → bi s2 6 11 + bi s2 6 12 = bVn s2 → 0 ≤ l2 → l2 + 8 * (4096 - bVn s2) + (7 - (p + 1)) + C ≤ 99999 → A (8, [.ref 6, v1', .int (bn l2), v3', v4', v5'], [], s2) := by
        intro s2 l2 v1' v3' v4' v5' M2 E2 f12 f31 f32 O2 VI2 PI2 cn2 l20 bl2
        refine ih (p + 1) s2 v1' v3' v4' v5' l2 dd C (by omega) (by omega) M2 f12 dd0 dd1 f31 f32 (E2.2.2.2.2.1 x x0 (by omega) vx) O2 VI2 (fun k k0 k1 hK => ?_) cn2 C0 l20 bl2 (fun s' l' v1' v3' v4' v5' a1 a2 a3 a4 a5 a6 a7 a8 => k s' l' v1' v3' v4' v5' a1 ?_ a3 a4 a5 a6 a7 a8)
        · by_cases w : k = p
          · rw [w] at hK ⊢; exact PI2 hK
          · exact bIno_e (PI k k0 (by omega) hK) E2.2.2.1 E2.2.2.2.1
        · refine ⟨⟨a2.1.1.trans E2.1.1, a2.1.2.trans E2.1.2⟩, fun j j0 j1 => ⟨(a2.2.1 j j0 j1).1.trans (E2.2.1 j j0 j1).1, (a2.2.1 j j0 j1).2.trans (E2.2.1 j j0 j1).2⟩, Int.le_trans E2.2.2.1 a2.2.2.1, fun i i0 i1 => (a2.2.2.2.1 i i0 (Int.lt_of_lt_of_le i1 E2.2.2.1)).trans (E2.2.2.2.1 i i0 i1), fun y y0 y1 w => a2.2.2.2.2.1 y y0 y1 (E2.2.2.2.2.1 y y0 y1 w), fun y y0 y1 w => ?_⟩
          rcases a2.2.2.2.2.2 y y0 y1 w with z | z
          · rcases E2.2.2.2.2.2 y y0 y1 z with z2 | z2
            · exact Or.inl z2
            · exact Or.inr (bIno_e z2 a2.2.2.1 a2.2.2.2.1)
          · exact Or.inr z
      have E1 : bExt6 dd s s1 := ⟨⟨ne1 6 (by decide) 10, ne1 6 (by decide) 13⟩, fun j j0 j1 => ⟨ne1 31 (by decide) j, by rw [e32' j j0, if_neg (by omega)]⟩, by rw [ne1 6 (by decide)]; exact Int.le_refl _, fun i _ _ => ne1 28 (by decide) i, fun y _ _ w => (vs1 y).2 w, fun y _ _ w => Or.inl ((vs1 y).1 w)⟩
      have stay : (bi σ 86 (6 * (x / 256) + p) = 2 → bIno s1 (bi s1 6 11) (bNod σ x p)) → ∀ v1' v3' v4' v5', bRg (l + 1) ∧ A (8, [.ref 6, v1', .int (bn (l + 1)), v3', v4', v5'], [], s1) := fun h v1' v3' v4' v5' =>
        ⟨⟨by omega, by omega⟩, go s1 (l + 1) v1' v3' v4' v5' M1 E1 (by rw [ne1 6 (by decide)]; exact e12) (by rw [ne1 31 (by decide)]; exact e31) (by rw [e32' dd dd0, if_pos rfl]) O1 (fun y y0 y1 w z => by rw [ne1 6 (by decide)]; exact i1 (VI y y0 y1 ((vs1 y).1 w) z)) h (by rw [ne1 6 (by decide), ne1 6 (by decide), cv1]; exact cn) (by omega) (by rw [cv1]; omega)⟩
      by_cases hK : bi σ 86 (6 * (x / 256) + p) = 2
      · rw [if_pos hK]
        show bWp (d + 4) 72 [.ref 6, .int (bn (bNod σ x p))] s1 _
        obtain ⟨⟨y0, y1, y2⟩, _⟩ := bNd_at hT ht p0 (show p < bi σ 85 (x / 256) by omega) hK
        generalize hy : bNod σ x p = y at *
        refine w72 (fun w => absurd w (by omega)) (fun _ => ⟨⟨y0, by omega⟩, fun w => stay (fun _ => ?_) _ _ _ _, fun w => ⟨?_, ?_⟩⟩) ⟨by omega, by omega⟩
        · rw [ne1 6 (by decide)]
          exact i1 (VI y y0 (by omega) ((vs1 y).1 w) y1)
        · rw [ne1 6 (by decide)]; omega
        · rw [ne1 6 (by decide), ne1 6 (by decide), e12]
          have mr := bi_rg s 6 10
          have o27 := O.1
          generalize hs2 : bw (bw (bw (bw s1 27 y (bi s 6 10)) 31 (dd + 1) y) 32 (dd + 1) 0) 6 12 (dd + 1 + 1) = s2
          have M2 : bSm bWkK σ s2 := by rw [← hs2]; exact bSm_trans M1 (bSm_trans (bSm_trans (bSm_trans (bSm_bw (by decide)) (bSm_bw (by decide))) (bSm_bw (by decide))) (bSm_bw (by decide)))
          have ne2 : ∀ b, b ≠ 27 → b ≠ 31 → b ≠ 32 → b ≠ 6 → ∀ j, bi s2 b j = bi s b j := fun b q1 q2 q3 q4 j => by rw [← hs2, bi_ne q4, bi_ne q3, bi_ne q2, bi_ne q1, ne1 b q3]
          have f10 : bi s2 6 10 = bi s 6 10 := by rw [← hs2, bi_nj (by decide) (by decide) (by decide), bi_ne (by decide), bi_ne (by decide), bi_ne (by decide), ne1 6 (by decide)]
          have f11 : bi s2 6 11 = bi s 6 11 := by rw [← hs2, bi_nj (by decide) (by decide) (by decide), bi_ne (by decide), bi_ne (by decide), bi_ne (by decide), ne1 6 (by decide)]
          have f13 : bi s2 6 13 = bi s 6 13 := by rw [← hs2, bi_nj (by decide) (by decide) (by decide), bi_ne (by decide), bi_ne (by decide), bi_ne (by decide), ne1 6 (by decide)]
          have f12 : bi s2 6 12 = dd + 1 + 1 := by rw [← hs2, bi_eq ⟨by omega, by omega⟩]
          have f27 : ∀ j, 0 ≤ j → bi s2 27 j = if j = y then bi s 6 10 else bi s 27 j := fun j j0 => by
            rw [← hs2, bi_ne (by decide), bi_ne (by decide), bi_ne (by decide), bi_bw y0 j0 mr, ne1 27 (by decide)]; simp only [true_and]
          have f31 : ∀ j, 0 ≤ j → bi s2 31 j = if j = dd + 1 then y else bi s 31 j := fun j j0 => by
            rw [← hs2, bi_ne (by decide), bi_ne (by decide), bi_bw (by omega) j0 ⟨by omega, by omega⟩, bi_ne (by decide), ne1 31 (by decide)]; simp only [true_and]
          have f32 : ∀ j, 0 ≤ j → bi s2 32 j = if j = dd + 1 then 0 else bi s1 32 j := fun j j0 => by
            rw [← hs2, bi_ne (by decide), bi_bw (by omega) j0 (by decide), bi_ne (by decide), bi_ne (by decide)]; simp only [true_and]
          have vis2 : ∀ z, 0 ≤ z → (bVis s2 z ↔ z = y ∨ bVis s z) := fun z z0 => by
            unfold bVis
            rw [f27 z z0, f10]
            by_cases e : z = y
            · rw [if_pos e]; exact ⟨fun _ => Or.inl e, fun _ => rfl⟩
            · rw [if_neg e]; exact ⟨Or.inr, fun h => h.resolve_left e⟩
          have ny : ¬ bVis s y := fun h => w ((vs1 y).2 h)
          have cv2 : bVn s2 = bVn s + 1 := by
            unfold bVn
            refine bCn_a (y := y) 4096 y0 (by omega) (fun k k0 k1 kn => ?_) ?_ ?_
            · simp only [f27 k k0, if_neg kn, f10]
            · exact decide_eq_false ny
            · refine decide_eq_true ?_
              rw [f27 y y0, if_pos rfl, f10]
          have pre2 : ∀ i, bi s2 28 i = bi s 28 i := ne2 28 (by decide) (by decide) (by decide) (by decide)
          have i2 : ∀ {m y}, bIno s m y → bIno s2 m y := fun h => bIno_e h (Int.le_refl _) (fun i _ _ => pre2 i)
          have O2 : bOrd σ s2 := ⟨fun z z0 z1 => by
            rw [f27 z z0, f10]
            by_cases e : z = y
            · rw [if_pos e]; exact Int.le_refl _
            · rw [if_neg e]; exact o27 z z0 z1, by rw [f11]; exact n0, fun i i0 i3 => by
            rw [f11] at i3
            obtain ⟨o1, o2, o3, o4⟩ := O.2.2 i i0 i3
            rw [pre2]
            exact ⟨o1, (vis2 _ o1.1).2 (Or.inr o2), by rw [ne2 29 (by decide) (by decide) (by decide) (by decide)]; exact o3, fun k k0 k1 hK => i2 (o4 k k0 k1 hK)⟩⟩
          refine ⟨⟨by omega, by omega⟩, ?_⟩
          have icy := bIc_at hT y2
          refine IH y y0 (by omega) y2 (bi σ 85 (y / 256)).toNat 0 s2 _ _ _ _ (l + 1) (dd + 1) (C + (6 - p)) (by omega) (by decide) M2 f12 (by omega) (by omega) (by rw [f31 _ (by omega), if_pos rfl]) (by rw [f32 _ (by omega), if_pos rfl]) ((vis2 y y0).2 (Or.inl rfl)) O2 (fun z z0 z1 h h2 => ?_) (fun k k0 k1 => by omega) (by rw [f11, f12, cv2]; omega) (by omega) (by omega) (by rw [cv2]; omega) (fun s3 l3 v1' v3' v4' v5' M3 E3 h12 O3 I3 cn3 l30 bl3 => ?_)
          · rw [f11]
            rcases (vis2 z z0).1 h with e | e
            · omega
            · exact i2 (VI z z0 z1 e (by omega))
          · have s31 := E3.2.1 dd dd0 (by omega)
            refine go s3 l3 v1' v3' v4' v5' M3 ⟨⟨E3.1.1.trans f10, E3.1.2.trans f13⟩, fun j j0 j1 => ?_, ?_, fun i i0 i1 => ?_, fun z z0 z1 h => E3.2.2.2.2.1 z z0 z1 ((vis2 z z0).2 (Or.inr h)), fun z z0 z1 h => ?_⟩ h12 ?_ ?_ O3 (fun z z0 z1 h h2 => ?_) (fun _ => I3) cn3 l30 (by omega)
            · obtain ⟨a1, a2⟩ := E3.2.1 j j0 (by omega)
              rw [a1, a2, f31 j j0, f32 j j0, if_neg (by omega), if_neg (by omega), e32' j j0, if_neg (by omega)]
              exact ⟨rfl, rfl⟩
            · have := E3.2.2.1; rw [f11] at this; exact this
            · rw [E3.2.2.2.1 i i0 (by rw [f11]; exact i1), pre2]
            · rcases E3.2.2.2.2.2 z z0 z1 h with e | e
              · rcases (vis2 z z0).1 e with e2 | e2
                · rw [e2]; exact Or.inr I3
                · exact Or.inl e2
              · exact Or.inr e
            · rw [s31.1, f31 dd dd0, if_neg (by omega), e31]
            · rw [s31.2, f32 dd dd0, if_neg (by omega), e32' dd dd0, if_pos rfl]
            · rcases E3.2.2.2.2.2 z z0 z1 h with e | e
              · rcases (vis2 z z0).1 e with e2 | e2
                · rw [e2]; exact I3
                · exact bIno_e (VI z z0 z1 e2 h2) (by have := E3.2.2.1; rw [f11] at this; exact this) (fun i i0 i1 => by rw [E3.2.2.2.1 i i0 (by rw [f11]; exact i1), pre2])
              · exact e
      · rw [if_neg hK]
        exact w72 (fun _ => stay (fun w => absurd w hK) _ _ _ _) (fun w => absurd rfl w) (by decide)
end

/-! BUILD, 43: the order of a walk -/
/-- the nodes of the first items of x, with all below, behind V -/
def bpI (σ : bSt) (more : Int → List Int → List Int) (x : Int) : Nat → List Int → List Int
  | 0, V => V
  | k + 1, V => if bi σ 86 (6 * (x / 256) + k) = 2 then more (bNod σ x k) (bpI σ more x k V) else bpI σ more x k V
/-- x behind V, with all below ahead of it -/
def bpO (σ : bSt) : Nat → Int → List Int → List Int
  | 0, _, V => V
  | T + 1, x, V => if x ∈ V then V else bpI σ (bpO σ T) x (bi σ 85 (x / 256)).toNat V ++ [x]
/-- the order of the class's walk -/
def bOl (s : bSt) : List Int := (List.range (bi s 6 11).toNat).map (fun i : Nat => bi s 28 i)
section
variable {d lvl : Nat} {σ s r s' : bSt} {f : Int → bSt → Prop} {fv : bSt → Prop} {A : bPt → Prop} {t x y z v k c i q n m dd : Int} {V : List Int} {T : Nat}
theorem bpO_in (h : x ∈ V) : bpO σ T x V = V := by
  cases T with
  | zero => rfl
  | succ T => unfold bpO; rw [if_pos h]
theorem bOl_in : y ∈ bOl s ↔ bIno s (bi s 6 11) y := by
  unfold bOl bIno
  rw [List.mem_map]
  constructor
  · rintro ⟨i, hi, e⟩
    have := List.mem_range.1 hi
    exact ⟨i, by omega, by omega, e⟩
  · rintro ⟨j, j0, j1, e⟩
    exact ⟨j.toNat, List.mem_range.2 (by omega), by rw [show ((j.toNat : Nat) : Int) = j by omega]; exact e⟩
theorem bOl_m (h : bi s' 6 11 = bi s 6 11) (e : ∀ i, 0 ≤ i → i < bi s 6 11 → bi s' 28 i = bi s 28 i) : bOl s' = bOl s := by
  unfold bOl
  rw [h]
  refine List.map_congr_left fun i hi => ?_
  have := List.mem_range.1 hi
  exact e i (by omega) (by omega)
theorem bOl_s (h0 : 0 ≤ bi s 6 11) (h : bi s' 6 11 = bi s 6 11 + 1) (hx : bi s' 28 (bi s 6 11) = x) (e : ∀ i, 0 ≤ i → i < bi s 6 11 → bi s' 28 i = bi s 28 i) : bOl s' = bOl s ++ [x] := by
  unfold bOl
  rw [h, show (bi s 6 11 + 1).toNat = (bi s 6 11).toNat + 1 by omega, List.range_succ, List.map_append]
  congr 1
  · refine List.map_congr_left fun i hi => ?_
    have := List.mem_range.1 hi
    exact e i (by omega) (by omega)
  · show [bi s' 28 (((bi s 6 11).toNat : Nat) : Int)] = [x]
    rw [show (((bi s 6 11).toNat : Nat) : Int) = bi s 6 11 by omega, hx]
/-- from a node on top with place p, on until it is done -/
theorem n71o (hF : bFi σ) (hL : bTl σ) (hT : bTg σ) (h4 : bR4 σ) (hA : bClosed lvl bm71 (bWp (d + 4)) (bRv fv) A) : ∀ (T : Nat) (x : Int), 0 ≤ x → x / 256 < T → bTgk σ (x / 256) → ∀ (n : Nat) (p : Int) (s : bSt) (v1 v3 v4 v5 : Value) (l dd C : Int) (V0 : List Int), bOl s = bpI σ (bpO σ (T - 1)) x p.toNat V0 → p + n = bi σ 85 (x / 256) → 0 ≤ p → bSm bWkK σ s → bi s 6 12 = dd + 1 → 0 ≤ dd → dd + x / 256 < 16 → bi s 31 dd = x → bi s 32 dd = p → bVis s x → bOrd σ s →
    (∀ y, 0 ≤ y → y < 4096 → bVis s y → y / 256 < x / 256 → bIno s (bi s 6 11) y) → (∀ k, 0 ≤ k → k < p → bi σ 86 (6 * (x / 256) + k) = 2 → bIno s (bi s 6 11) (bNod σ x k)) → bi s 6 11 + bi s 6 12 = bVn s → 0 ≤ C → 0 ≤ l → l + 8 * (4096 - bVn s) + (7 - p) + C ≤ 99999 →
    (∀ s' l' v1' v3' v4' v5', bOl s' = bpI σ (bpO σ (T - 1)) x (bi σ 85 (x / 256)).toNat V0 ++ [x] → bSm bWkK σ s' → bExt6 dd s s' → bi s' 6 12 = dd → bOrd σ s' → bIno s' (bi s' 6 11) x → bi s' 6 11 + bi s' 6 12 = bVn s' → 0 ≤ l' → l' + 8 * (4096 - bVn s') + C ≤ 99999 → A (8, [.ref 6, v1', .int (bn l'), v3', v4', v5'], [], s')) → A (8, [.ref 6, v1, .int (bn l), v3, v4, v5], [], s) := by
  intro T
  induction T with
  | zero => intro x x0 xT; omega
  | succ T IH =>
    intro x x0 xT ht n
    have tc := hT.1.2.1
    have ht2 := ht.2
    have ic := bIc_at hT ht
    have x8 : bShr x 8 = x / 256 := bShr_8 x0 (by omega)
    induction n with
    | zero =>
      intro p s v1 v3 v4 v5 l dd C V0 hV hp p0 M e12 dd0 dd1 e31 e32 vx O VI PI cn C0 l0 bl k
      have vb := bVn_b (s := s)
      have ag := bWk_pag M
      have uM : bUn bWkK [] σ s := bUn_S bUn_refl M (by decide)
      have hTs : bTg s := bTg_un uM (by decide) (by decide) hT
      have g13 : bi s (bTi (x / 256)) 13 = bi σ 85 (x / 256) := (M.2 _ (by rw [bTi_m]; decide) 13).trans ic.1
      refine sq71_8 (bWp_mono _) hA ⟨by omega, by omega⟩ ⟨fun _ => ⟨fun _ => ⟨⟨by omega, by omega⟩, ?_⟩, fun w => absurd (show (0 : Int) < bi s 6 12 by omega) w⟩, fun w => absurd (show l < 100000 by omega) w⟩
      have eD : bi s 6 12 - 1 = dd := by omega
      rw [eD]
      refine w140i (n := 16) rfl rfl (by decide) dd0 (by omega) ⟨⟨by omega, by omega⟩, ?_⟩
      rw [eD]
      refine w140i (n := 16) rfl rfl (by decide) dd0 (by omega) ?_
      rw [e31, e32, x8]
      refine w120 (hTs.2.1 _ ht.1 (by rw [ag.2.2.1]; exact ht.2)) ht.1 (by omega) ⟨bTi_m, ?_⟩
      rw [g13]
      refine ⟨fun w => absurd w (by omega), fun _ => ?_⟩
      refine w74 (bFi_un uM (by decide) hF) (bTl_un uM (by decide) (by decide) hL) hTs (fun t ht => by rw [ag.2.2.2]; exact h4 t ⟨ht.1, by rw [← ag.2.2.1]; exact ht.2⟩) x0 ⟨ht.1, by rw [ag.2.2.1]; exact ht.2⟩ ?_
      have ef : bF1 s (bi s 29) x = bFx σ x := by
        rw [bF1_m ag, bFx_s hT x0 ht]
        refine bF1_c hT ht fun k k0 k1 hK => ?_
        obtain ⟨j, j0, j1, j2⟩ := PI k k0 (by omega) hK
        have := (O.2.2 j j0 j1).2.2.1
        rwa [j2] at this
      rw [ef]
      have fr := bFx_rg hT x0 ht
      refine w141i (n := 4096) ⟨by omega, by omega⟩ rfl (by decide) rfl (by decide) x0 (by omega) ?_
      rw [bi_ne (by decide)]
      have n0 := O.2.1
      refine w141i (n := 4096) ⟨by omega, by omega⟩ rfl (by decide) rfl (by decide) n0 (by omega) ?_
      simp (disch := decide) only [bi_ne]
      generalize hv : bFx σ x = v at *
      generalize hn : bi s 6 11 = nn at *
      refine ⟨⟨by omega, by omega⟩, ⟨by omega, by omega⟩, ⟨by omega, by omega⟩, ?_⟩
      rw [e12, show dd + 1 - 1 = dd by omega]
      generalize hs : bw (bw (bw (bw s 29 x v) 28 nn x) 6 11 (nn + 1)) 6 12 dd = s'
      have e11' : bi s' 6 11 = nn + 1 := by rw [← hs, bi_nj (by decide) (by decide) (by decide), bi_eq ⟨by omega, by omega⟩]
      have e12' : bi s' 6 12 = dd := by rw [← hs, bi_eq ⟨by omega, by omega⟩]
      have e10' : bi s' 6 10 = bi s 6 10 := by rw [← hs, bi_nj (by decide) (by decide) (by decide), bi_nj (by decide) (by decide) (by decide), bi_ne (by decide), bi_ne (by decide)]
      have ne : ∀ b, b ≠ 29 → b ≠ 28 → b ≠ 6 → ∀ j, bi s' b j = bi s b j := fun b q1 q2 q3 j => by rw [← hs, bi_ne q3, bi_ne q3, bi_ne q2, bi_ne q1]
      have e28 : ∀ j, 0 ≤ j → bi s' 28 j = if j = nn then x else bi s 28 j := fun j j0 => by
        rw [← hs, bi_ne (by decide), bi_ne (by decide), bi_bw n0 j0 ⟨by omega, by omega⟩, bi_ne (by decide)]; simp only [true_and]
      have e29 : ∀ j, 0 ≤ j → bi s' 29 j = if j = x then v else bi s 29 j := fun j j0 => by
        rw [← hs, bi_ne (by decide), bi_ne (by decide), bi_ne (by decide), bi_bw x0 j0 ⟨by omega, by omega⟩]; simp only [true_and]
      have pre : ∀ i, 0 ≤ i → i < nn → bi s' 28 i = bi s 28 i := fun i i0 i1 => by rw [e28 i i0, if_neg (by omega)]
      have vs : ∀ y, bVis s' y ↔ bVis s y := fun y => bVis_in (ne 27 (by decide) (by decide) (by decide)) e10'
      have cv : bVn s' = bVn s := bVn_in (ne 27 (by decide) (by decide) (by decide)) e10'
      have eO : bOl s' = bpI σ (bpO σ (T + 1 - 1)) x (bi σ 85 (x / 256)).toNat V0 ++ [x] := by
        have := bOl_s (s := s) (s' := s') (x := x) (by omega) (by omega) (by rw [hn, e28 nn n0, if_pos rfl]) (fun i i0 i1 => pre i i0 (by omega))
        rw [this, hV, show (bi σ 85 (x / 256)).toNat = p.toNat by omega]
      refine k s' (l + 1) _ _ _ _ eO (bSm_trans M (by rw [← hs]; exact bSm_trans (bSm_trans (bSm_trans (bSm_bw (by decide)) (bSm_bw (by decide))) (bSm_bw (by decide))) (bSm_bw (by decide)))) ⟨⟨e10', by rw [← hs, bi_nj (by decide) (by decide) (by decide), bi_nj (by decide) (by decide) (by decide), bi_ne (by decide), bi_ne (by decide)]⟩, fun j j0 j1 => ⟨ne 31 (by decide) (by decide) (by decide) j, ne 32 (by decide) (by decide) (by decide) j⟩, by omega, fun i i0 i1 => pre i i0 (by omega), fun y _ _ w => (vs y).2 w, fun y _ _ w => Or.inl ((vs y).1 w)⟩ e12' ⟨fun y y0 y1 => by rw [ne 27 (by decide) (by decide) (by decide), e10']; exact O.1 y y0 y1, by omega, fun i i0 i1 => ?_⟩ ⟨nn, n0, by omega, by rw [e28 nn n0, if_pos rfl]⟩ (by omega) (by omega) (by rw [cv]; omega)
      rw [e11'] at i1
      by_cases w : i = nn
      · rw [e28 i i0, if_pos w]
        refine ⟨⟨x0, ht⟩, (vs x).2 vx, by rw [e29 x x0, if_pos rfl, hv], fun k k0 k1 hK => ?_⟩
        exact bIno_e (PI k k0 (by omega) hK) (by omega) (fun i i0 i1 => pre i i0 i1)
      · rw [pre i i0 (by omega)]
        obtain ⟨o1, o2, o3, o4⟩ := O.2.2 i i0 (by omega)
        refine ⟨o1, (vs _).2 o2, ?_, fun k k0 k1 hK => bIno_e (o4 k k0 k1 hK) (Int.le_refl _) (fun i i0 i1 => pre i i0 (by omega))⟩
        rw [e29 _ o1.1]
        by_cases w2 : bi s 28 i = x
        · rw [if_pos w2, w2, hv]
        · rw [if_neg w2]; exact o3
    | succ n ih =>
      intro p s v1 v3 v4 v5 l dd C V0 hV hp p0 M e12 dd0 dd1 e31 e32 vx O VI PI cn C0 l0 bl k
      have vb := bVn_b (s := s)
      have ag := bWk_pag M
      have uM : bUn bWkK [] σ s := bUn_S bUn_refl M (by decide)
      have hTs : bTg s := bTg_un uM (by decide) (by decide) hT
      have hts : bTgk s (x / 256) := ⟨ht.1, by rw [ag.2.2.1]; exact ht.2⟩
      have g13 : bi s (bTi (x / 256)) 13 = bi σ 85 (x / 256) := (M.2 _ (by rw [bTi_m]; decide) 13).trans ic.1
      have n0 := O.2.1
      refine sq71_8 (bWp_mono _) hA ⟨by omega, by omega⟩ ⟨fun _ => ⟨fun _ => ⟨⟨by omega, by omega⟩, ?_⟩, fun w => absurd (show (0 : Int) < bi s 6 12 by omega) w⟩, fun w => absurd (show l < 100000 by omega) w⟩
      have eD : bi s 6 12 - 1 = dd := by omega
      rw [eD]
      refine w140i (n := 16) rfl rfl (by decide) dd0 (by omega) ⟨⟨by omega, by omega⟩, ?_⟩
      rw [eD]
      refine w140i (n := 16) rfl rfl (by decide) dd0 (by omega) ?_
      rw [e31, e32, x8]
      refine w120 (hTs.2.1 _ hts.1 hts.2) ht.1 (by omega) ⟨bTi_m, ?_⟩
      rw [g13, eD]
      refine ⟨fun _ => ⟨⟨by omega, by omega⟩, ⟨by omega, by omega⟩, w141i (n := 16) ⟨by omega, by omega⟩ rfl (by decide) rfl (by decide) dd0 (by omega) ?_⟩, fun w => absurd (show p < bi σ 85 (x / 256) by omega) w⟩
      generalize hs1 : bw s 32 dd (p + 1) = s1
      have M1 : bSm bWkK σ s1 := by rw [← hs1]; exact bSm_trans M (bSm_bw (by decide))
      have ne1 : ∀ b, b ≠ 32 → ∀ j, bi s1 b j = bi s b j := fun b q j => by rw [← hs1, bi_ne q]
      have e32' : ∀ j, 0 ≤ j → bi s1 32 j = if j = dd then p + 1 else bi s 32 j := fun j j0 => by
        rw [← hs1, bi_bw dd0 j0 ⟨by omega, by omega⟩]; simp only [true_and]
      have ag1 := bWk_pag M1
      have uM1 : bUn bWkK [] σ s1 := bUn_S bUn_refl M1 (by decide)
      have hT1 : bTg s1 := bTg_un uM1 (by decide) (by decide) hT
      have ht1 : bTgk s1 (x / 256) := ⟨ht.1, by rw [ag1.2.2.1]; exact ht.2⟩
      have vs1 : ∀ y, bVis s1 y ↔ bVis s y := fun y => bVis_in (ne1 27 (by decide)) (ne1 6 (by decide) 10)
      have cv1 : bVn s1 = bVn s := bVn_in (ne1 27 (by decide)) (ne1 6 (by decide) 10)
      have i1 : ∀ {m y}, bIno s m y → bIno s1 m y := fun h => bIno_e h (Int.le_refl _) (fun i _ _ => ne1 28 (by decide) i)
      have O1 : bOrd σ s1 := ⟨fun y y0 y1 => by rw [ne1 27 (by decide), ne1 6 (by decide)]; exact O.1 y y0 y1, by rw [ne1 6 (by decide)]; exact n0, fun i i0 i2 => by
        rw [ne1 6 (by decide)] at i2
        obtain ⟨o1, o2, o3, o4⟩ := O.2.2 i i0 i2
        rw [ne1 28 (by decide)]
        exact ⟨o1, (vs1 _).2 o2, by rw [ne1 29 (by decide)]; exact o3, fun k k0 k1 hK => i1 (o4 k k0 k1 hK)⟩⟩
      have g131 : bi s1 (bTi (x / 256)) 13 = bi σ 85 (x / 256) := (M1.2 _ (by rw [bTi_m]; decide) 13).trans ic.1
      have i85 : p < bi s1 85 (x / 256) := by rw [ag1.1 85 (by decide)]; omega
      refine w112 g131 p0 (by omega) ic.2.2 (w73 hT1 ht1 ⟨x0, by omega⟩ p0 i85 ?_)
      rw [ag1.1 86 (by decide), ag1.1 87 (by decide), bBw_m ag1]
      -- on with the next item
      have go : ∀ (s2 : bSt) (l2 : Int) (v1' v3' v4' v5' : Value), bOl s2 = bpI σ (bpO σ (T + 1 - 1)) x (p + 1).toNat V0 → bSm bWkK σ s2 → bExt6 dd s s2 → bi s2 6 12 = dd + 1 → bi s2 31 dd = x → bi s2 32 dd = p + 1 → bOrd σ s2 → (∀ y, 0 ≤ y → y < 4096 → bVis s2 y → y / 256 < x / 256 → bIno s2 (bi s2 6 11) y) → (bi σ 86 (6 * (x / 256) + p) = 2 → bIno s2 (bi s2 6 11) (bNod σ x p)) → bi s2 6 11 + bi s2 6 12 = bVn s2 → 0 ≤ l2 → l2 + 8 * (4096 - bVn s2) + (7 - (p + 1)) + C ≤ 99999 → A (8, [.ref 6, v1', .int (bn l2), v3', v4', v5'], [], s2) := by
        intro s2 l2 v1' v3' v4' v5' hV2 M2 E2 f12 f31 f32 O2 VI2 PI2 cn2 l20 bl2
        refine ih (p + 1) s2 v1' v3' v4' v5' l2 dd C V0 hV2 (by omega) (by omega) M2 f12 dd0 dd1 f31 f32 (E2.2.2.2.2.1 x x0 (by omega) vx) O2 VI2 (fun k k0 k1 hK => ?_) cn2 C0 l20 bl2 (fun s' l' v1' v3' v4' v5' a0 a1 a2 a3 a4 a5 a6 a7 a8 => k s' l' v1' v3' v4' v5' a0 a1 ?_ a3 a4 a5 a6 a7 a8)
        · by_cases w : k = p
          · rw [w] at hK ⊢; exact PI2 hK
          · exact bIno_e (PI k k0 (by omega) hK) E2.2.2.1 E2.2.2.2.1
        · refine ⟨⟨a2.1.1.trans E2.1.1, a2.1.2.trans E2.1.2⟩, fun j j0 j1 => ⟨(a2.2.1 j j0 j1).1.trans (E2.2.1 j j0 j1).1, (a2.2.1 j j0 j1).2.trans (E2.2.1 j j0 j1).2⟩, Int.le_trans E2.2.2.1 a2.2.2.1, fun i i0 i1 => (a2.2.2.2.1 i i0 (Int.lt_of_lt_of_le i1 E2.2.2.1)).trans (E2.2.2.2.1 i i0 i1), fun y y0 y1 w => a2.2.2.2.2.1 y y0 y1 (E2.2.2.2.2.1 y y0 y1 w), fun y y0 y1 w => ?_⟩
          rcases a2.2.2.2.2.2 y y0 y1 w with z | z
          · rcases E2.2.2.2.2.2 y y0 y1 z with z2 | z2
            · exact Or.inl z2
            · exact Or.inr (bIno_e z2 a2.2.2.1 a2.2.2.2.1)
          · exact Or.inr z
      have E1 : bExt6 dd s s1 := ⟨⟨ne1 6 (by decide) 10, ne1 6 (by decide) 13⟩, fun j j0 j1 => ⟨ne1 31 (by decide) j, by rw [e32' j j0, if_neg (by omega)]⟩, by rw [ne1 6 (by decide)]; exact Int.le_refl _, fun i _ _ => ne1 28 (by decide) i, fun y _ _ w => (vs1 y).2 w, fun y _ _ w => Or.inl ((vs1 y).1 w)⟩
      have uP : bpI σ (bpO σ (T + 1 - 1)) x (p + 1).toNat V0 = if bi σ 86 (6 * (x / 256) + p) = 2 then bpO σ T (bNod σ x p) (bOl s) else bOl s := by
        rw [show (p + 1).toNat = p.toNat + 1 by omega]
        show (if bi σ 86 (6 * (x / 256) + ((p.toNat : Nat) : Int)) = 2 then bpO σ T (bNod σ x ((p.toNat : Nat) : Int)) (bpI σ (bpO σ (T + 1 - 1)) x p.toNat V0) else bpI σ (bpO σ (T + 1 - 1)) x p.toNat V0) = _
        rw [show ((p.toNat : Nat) : Int) = p by omega, ← hV]
      have eo1 : bOl s1 = bOl s := bOl_m (by rw [ne1 6 (by decide)]) (fun i _ _ => ne1 28 (by decide) i)
      have stay : (bi σ 86 (6 * (x / 256) + p) = 2 → bNod σ x p ∈ bOl s) → (bi σ 86 (6 * (x / 256) + p) = 2 → bIno s1 (bi s1 6 11) (bNod σ x p)) → ∀ v1' v3' v4' v5', bRg (l + 1) ∧ A (8, [.ref 6, v1', .int (bn (l + 1)), v3', v4', v5'], [], s1) := fun hin h v1' v3' v4' v5' =>
        ⟨⟨by omega, by omega⟩, go s1 (l + 1) v1' v3' v4' v5' (by
          rw [uP, eo1]
          split
          · rename_i hK; exact (bpO_in (hin hK)).symm
          · rfl) M1 E1 (by rw [ne1 6 (by decide)]; exact e12) (by rw [ne1 31 (by decide)]; exact e31) (by rw [e32' dd dd0, if_pos rfl]) O1 (fun y y0 y1 w z => by rw [ne1 6 (by decide)]; exact i1 (VI y y0 y1 ((vs1 y).1 w) z)) h (by rw [ne1 6 (by decide), ne1 6 (by decide), cv1]; exact cn) (by omega) (by rw [cv1]; omega)⟩
      by_cases hK : bi σ 86 (6 * (x / 256) + p) = 2
      · rw [if_pos hK]
        show bWp (d + 4) 72 [.ref 6, .int (bn (bNod σ x p))] s1 _
        obtain ⟨⟨y0, y1, y2⟩, _⟩ := bNd_at hT ht p0 (show p < bi σ 85 (x / 256) by omega) hK
        generalize hy : bNod σ x p = y at *
        refine w72 (fun w => absurd w (by omega)) (fun _ => ⟨⟨y0, by omega⟩, fun w => stay (fun _ => bOl_in.2 (VI y y0 (by omega) ((vs1 y).1 w) y1)) (fun _ => ?_) _ _ _ _, fun w => ⟨?_, ?_⟩⟩) ⟨by omega, by omega⟩
        · rw [ne1 6 (by decide)]
          exact i1 (VI y y0 (by omega) ((vs1 y).1 w) y1)
        · rw [ne1 6 (by decide)]; omega
        · rw [ne1 6 (by decide), ne1 6 (by decide), e12]
          have mr := bi_rg s 6 10
          have o27 := O.1
          generalize hs2 : bw (bw (bw (bw s1 27 y (bi s 6 10)) 31 (dd + 1) y) 32 (dd + 1) 0) 6 12 (dd + 1 + 1) = s2
          have M2 : bSm bWkK σ s2 := by rw [← hs2]; exact bSm_trans M1 (bSm_trans (bSm_trans (bSm_trans (bSm_bw (by decide)) (bSm_bw (by decide))) (bSm_bw (by decide))) (bSm_bw (by decide)))
          have ne2 : ∀ b, b ≠ 27 → b ≠ 31 → b ≠ 32 → b ≠ 6 → ∀ j, bi s2 b j = bi s b j := fun b q1 q2 q3 q4 j => by rw [← hs2, bi_ne q4, bi_ne q3, bi_ne q2, bi_ne q1, ne1 b q3]
          have f10 : bi s2 6 10 = bi s 6 10 := by rw [← hs2, bi_nj (by decide) (by decide) (by decide), bi_ne (by decide), bi_ne (by decide), bi_ne (by decide), ne1 6 (by decide)]
          have f11 : bi s2 6 11 = bi s 6 11 := by rw [← hs2, bi_nj (by decide) (by decide) (by decide), bi_ne (by decide), bi_ne (by decide), bi_ne (by decide), ne1 6 (by decide)]
          have f13 : bi s2 6 13 = bi s 6 13 := by rw [← hs2, bi_nj (by decide) (by decide) (by decide), bi_ne (by decide), bi_ne (by decide), bi_ne (by decide), ne1 6 (by decide)]
          have f12 : bi s2 6 12 = dd + 1 + 1 := by rw [← hs2, bi_eq ⟨by omega, by omega⟩]
          have f27 : ∀ j, 0 ≤ j → bi s2 27 j = if j = y then bi s 6 10 else bi s 27 j := fun j j0 => by
            rw [← hs2, bi_ne (by decide), bi_ne (by decide), bi_ne (by decide), bi_bw y0 j0 mr, ne1 27 (by decide)]; simp only [true_and]
          have f31 : ∀ j, 0 ≤ j → bi s2 31 j = if j = dd + 1 then y else bi s 31 j := fun j j0 => by
            rw [← hs2, bi_ne (by decide), bi_ne (by decide), bi_bw (by omega) j0 ⟨by omega, by omega⟩, bi_ne (by decide), ne1 31 (by decide)]; simp only [true_and]
          have f32 : ∀ j, 0 ≤ j → bi s2 32 j = if j = dd + 1 then 0 else bi s1 32 j := fun j j0 => by
            rw [← hs2, bi_ne (by decide), bi_bw (by omega) j0 (by decide), bi_ne (by decide), bi_ne (by decide)]; simp only [true_and]
          have vis2 : ∀ z, 0 ≤ z → (bVis s2 z ↔ z = y ∨ bVis s z) := fun z z0 => by
            unfold bVis
            rw [f27 z z0, f10]
            by_cases e : z = y
            · rw [if_pos e]; exact ⟨fun _ => Or.inl e, fun _ => rfl⟩
            · rw [if_neg e]; exact ⟨Or.inr, fun h => h.resolve_left e⟩
          have ny : ¬ bVis s y := fun h => w ((vs1 y).2 h)
          have cv2 : bVn s2 = bVn s + 1 := by
            unfold bVn
            refine bCn_a (y := y) 4096 y0 (by omega) (fun k k0 k1 kn => ?_) ?_ ?_
            · simp only [f27 k k0, if_neg kn, f10]
            · exact decide_eq_false ny
            · refine decide_eq_true ?_
              rw [f27 y y0, if_pos rfl, f10]
          have pre2 : ∀ i, bi s2 28 i = bi s 28 i := ne2 28 (by decide) (by decide) (by decide) (by decide)
          have i2 : ∀ {m y}, bIno s m y → bIno s2 m y := fun h => bIno_e h (Int.le_refl _) (fun i _ _ => pre2 i)
          have O2 : bOrd σ s2 := ⟨fun z z0 z1 => by
            rw [f27 z z0, f10]
            by_cases e : z = y
            · rw [if_pos e]; exact Int.le_refl _
            · rw [if_neg e]; exact o27 z z0 z1, by rw [f11]; exact n0, fun i i0 i3 => by
            rw [f11] at i3
            obtain ⟨o1, o2, o3, o4⟩ := O.2.2 i i0 i3
            rw [pre2]
            exact ⟨o1, (vis2 _ o1.1).2 (Or.inr o2), by rw [ne2 29 (by decide) (by decide) (by decide) (by decide)]; exact o3, fun k k0 k1 hK => i2 (o4 k k0 k1 hK)⟩⟩
          refine ⟨⟨by omega, by omega⟩, ?_⟩
          have icy := bIc_at hT y2
          have eo2 : bOl s2 = bOl s := bOl_m f11 (fun i _ _ => pre2 i)
          have nin : y ∉ bOl s := fun h => by
            obtain ⟨j, j0, j1, j2⟩ := bOl_in.1 h
            exact ny (by rw [← j2]; exact (O.2.2 j j0 j1).2.1)
          obtain ⟨T', eT⟩ : ∃ T', T = T' + 1 := ⟨T - 1, by omega⟩
          refine IH y y0 (by omega) y2 (bi σ 85 (y / 256)).toNat 0 s2 _ _ _ _ (l + 1) (dd + 1) (C + (6 - p)) (bOl s) eo2 (by omega) (by decide) M2 f12 (by omega) (by omega) (by rw [f31 _ (by omega), if_pos rfl]) (by rw [f32 _ (by omega), if_pos rfl]) ((vis2 y y0).2 (Or.inl rfl)) O2 (fun z z0 z1 h h2 => ?_) (fun k k0 k1 => by omega) (by rw [f11, f12, cv2]; omega) (by omega) (by omega) (by rw [cv2]; omega) (fun s3 l3 v1' v3' v4' v5' hV3 M3 E3 h12 O3 I3 cn3 l30 bl3 => ?_)
          · rw [f11]
            rcases (vis2 z z0).1 h with e | e
            · omega
            · exact i2 (VI z z0 z1 e (by omega))
          · have s31 := E3.2.1 dd dd0 (by omega)
            refine go s3 l3 v1' v3' v4' v5' (by
              rw [uP, if_pos hK, hV3, eT]
              unfold bpO
              rw [if_neg nin]
              rfl) M3 ⟨⟨E3.1.1.trans f10, E3.1.2.trans f13⟩, fun j j0 j1 => ?_, ?_, fun i i0 i1 => ?_, fun z z0 z1 h => E3.2.2.2.2.1 z z0 z1 ((vis2 z z0).2 (Or.inr h)), fun z z0 z1 h => ?_⟩ h12 ?_ ?_ O3 (fun z z0 z1 h h2 => ?_) (fun _ => I3) cn3 l30 (by omega)
            · obtain ⟨a1, a2⟩ := E3.2.1 j j0 (by omega)
              rw [a1, a2, f31 j j0, f32 j j0, if_neg (by omega), if_neg (by omega), e32' j j0, if_neg (by omega)]
              exact ⟨rfl, rfl⟩
            · have := E3.2.2.1; rw [f11] at this; exact this
            · rw [E3.2.2.2.1 i i0 (by rw [f11]; exact i1), pre2]
            · rcases E3.2.2.2.2.2 z z0 z1 h with e | e
              · rcases (vis2 z z0).1 e with e2 | e2
                · rw [e2]; exact Or.inr I3
                · exact Or.inl e2
              · exact Or.inr e
            · rw [s31.1, f31 dd dd0, if_neg (by omega), e31]
            · rw [s31.2, f32 dd dd0, if_neg (by omega), e32' dd dd0, if_pos rfl]
            · rcases E3.2.2.2.2.2 z z0 z1 h with e | e
              · rcases (vis2 z z0).1 e with e2 | e2
                · rw [e2]; exact I3
                · exact bIno_e (VI z z0 z1 e2 h2) (by have := E3.2.2.1; rw [f11] at this; exact this) (fun i i0 i1 => by rw [E3.2.2.2.1 i i0 (by rw [f11]; exact i1), pre2])
              · exact e
      · rw [if_neg hK]
        exact w72 (fun _ => stay (fun w => absurd w hK) (fun w => absurd w hK) _ _ _ _) (fun w => absurd rfl w) (by decide)
theorem w71o (hF : bFi σ) (hL : bTl σ) (hT : bTg σ) (h4 : bR4 σ) (W : bWk σ s) (x0 : 0 ≤ x) (ht : bTgk σ (x / 256)) (h : ∀ s', bOl s' = bpO σ 16 x (bOl s) → bWk σ s' → bExt6 0 s s' → bIno s' (bi s' 6 11) x → fv s') : bWp (d + 5) 71 [.ref 6, .int (bn x)] s (bRv fv) := by
  have tc := hT.1.2.1
  have ht2 := ht.2
  have ic := bIc_at hT ht
  obtain ⟨M, O, VI, cn⟩ := W
  have n0 := O.2.1
  have vb := bVn_b (s := s)
  have mr := bi_rg s 6 10
  refine ⟨rfl, fun A hA => sq71_0 (bWp_mono _) hA ⟨by omega, by omega⟩ ?_⟩
  have e12 : bi (bw s 6 12 0) 6 12 = 0 := bi_eq (by decide)
  have fin : ∀ (s' : bSt) (l : Int) (v1 v3 v4 v5 : Value), bRg l → bi s' 6 12 = 0 → fv s' → A (8, [.ref 6, v1, .int (bn l), v3, v4, v5], [], s') := fun s' l v1 v3 v4 v5 hl e hf =>
    sq71_8 (bWp_mono _) hA hl ⟨fun _ => ⟨fun w => absurd w (by omega), fun _ => hf⟩, fun _ => hf⟩
  generalize hs : bw s 6 12 0 = s0 at *
  have ne0 : ∀ b, b ≠ 6 → ∀ j, bi s0 b j = bi s b j := fun b q j => by rw [← hs, bi_ne q]
  have e10 : bi s0 6 10 = bi s 6 10 := by rw [← hs, bi_nj (by decide) (by decide) (by decide)]
  have e11 : bi s0 6 11 = bi s 6 11 := by rw [← hs, bi_nj (by decide) (by decide) (by decide)]
  have M0 : bSm bWkK σ s0 := by rw [← hs]; exact bSm_trans M (bSm_bw (by decide))
  have vs0 : ∀ y, bVis s0 y ↔ bVis s y := fun y => bVis_in (ne0 27 (by decide)) e10
  have cv0 : bVn s0 = bVn s := bVn_in (ne0 27 (by decide)) e10
  have i0 : ∀ {m y}, bIno s m y → bIno s0 m y := fun h => bIno_e h (Int.le_refl _) (fun i _ _ => ne0 28 (by decide) i)
  have O0 : bOrd σ s0 := ⟨fun y y0 y1 => by rw [ne0 27 (by decide), e10]; exact O.1 y y0 y1, by rw [e11]; exact n0, fun i i1 i2 => by
    rw [e11] at i2
    obtain ⟨o1, o2, o3, o4⟩ := O.2.2 i i1 i2
    rw [ne0 28 (by decide)]
    exact ⟨o1, (vs0 _).2 o2, by rw [ne0 29 (by decide)]; exact o3, fun k k0 k1 hK => i0 (o4 k k0 k1 hK)⟩⟩
  have E0 : bExt6 0 s s0 := ⟨⟨e10, by rw [← hs, bi_nj (by decide) (by decide) (by decide)]⟩, fun j j0 j1 => by omega, by rw [e11]; exact Int.le_refl _, fun i _ _ => ne0 28 (by decide) i, fun y _ _ w => (vs0 y).2 w, fun y _ _ w => Or.inl ((vs0 y).1 w)⟩
  have VI0 : ∀ y, 0 ≤ y → y < 4096 → bVis s0 y → bIno s0 (bi s0 6 11) y := fun y y0 y1 w => by rw [e11]; exact i0 (VI y y0 y1 ((vs0 y).1 w))
  refine w72 (fun w => absurd w (by omega)) (fun _ => ⟨⟨x0, by omega⟩, fun w => ?_, fun w => ?_⟩) ⟨by omega, by omega⟩
  · have eo0 : bOl s0 = bOl s := bOl_m e11 (fun i _ _ => ne0 28 (by decide) i)
    exact fin s0 0 _ _ _ _ (by decide) e12 (h s0 (by
      rw [eo0]
      refine (bpO_in (bOl_in.2 ?_)).symm
      have := VI x x0 (by omega) ((vs0 x).1 w)
      exact this) ⟨M0, O0, VI0, by rw [e11, cv0]; exact cn⟩ E0 (VI0 x x0 (by omega) w))
  · rw [e12, e10]
    refine ⟨by decide, ?_⟩
    generalize hs2 : bw (bw (bw (bw s0 27 x (bi s 6 10)) 31 0 x) 32 0 0) 6 12 (0 + 1) = s2
    have M2 : bSm bWkK σ s2 := by rw [← hs2]; exact bSm_trans M0 (bSm_trans (bSm_trans (bSm_trans (bSm_bw (by decide)) (bSm_bw (by decide))) (bSm_bw (by decide))) (bSm_bw (by decide)))
    have ne2 : ∀ b, b ≠ 27 → b ≠ 31 → b ≠ 32 → b ≠ 6 → ∀ j, bi s2 b j = bi s b j := fun b q1 q2 q3 q4 j => by rw [← hs2, bi_ne q4, bi_ne q3, bi_ne q2, bi_ne q1, ne0 b q4]
    have f10 : bi s2 6 10 = bi s 6 10 := by rw [← hs2, bi_nj (by decide) (by decide) (by decide), bi_ne (by decide), bi_ne (by decide), bi_ne (by decide), e10]
    have f11 : bi s2 6 11 = bi s 6 11 := by rw [← hs2, bi_nj (by decide) (by decide) (by decide), bi_ne (by decide), bi_ne (by decide), bi_ne (by decide), e11]
    have f13 : bi s2 6 13 = bi s 6 13 := by rw [← hs2, bi_nj (by decide) (by decide) (by decide), bi_ne (by decide), bi_ne (by decide), bi_ne (by decide), ← hs, bi_nj (by decide) (by decide) (by decide)]
    have f12 : bi s2 6 12 = 1 := by rw [← hs2, bi_eq (by decide)]; rfl
    have f27 : ∀ j, 0 ≤ j → bi s2 27 j = if j = x then bi s 6 10 else bi s 27 j := fun j j0 => by
      rw [← hs2, bi_ne (by decide), bi_ne (by decide), bi_ne (by decide), bi_bw x0 j0 mr, ne0 27 (by decide)]; simp only [true_and]
    have vis2 : ∀ z, 0 ≤ z → (bVis s2 z ↔ z = x ∨ bVis s z) := fun z z0 => by
      unfold bVis
      rw [f27 z z0, f10]
      by_cases e : z = x
      · rw [if_pos e]; exact ⟨fun _ => Or.inl e, fun _ => rfl⟩
      · rw [if_neg e]; exact ⟨Or.inr, fun h => h.resolve_left e⟩
    have ny : ¬ bVis s x := fun h => w ((vs0 x).2 h)
    have cv2 : bVn s2 = bVn s + 1 := by
      unfold bVn
      refine bCn_a (y := x) 4096 x0 (by omega) (fun k k0 k1 kn => ?_) ?_ ?_
      · simp only [f27 k k0, if_neg kn, f10]
      · exact decide_eq_false ny
      · refine decide_eq_true ?_
        rw [f27 x x0, if_pos rfl, f10]
    have pre2 : ∀ i, bi s2 28 i = bi s 28 i := ne2 28 (by decide) (by decide) (by decide) (by decide)
    have i2 : ∀ {m y}, bIno s m y → bIno s2 m y := fun h => bIno_e h (Int.le_refl _) (fun i _ _ => pre2 i)
    have o27 := O.1
    have O2 : bOrd σ s2 := ⟨fun z z0 z1 => by
      rw [f27 z z0, f10]
      by_cases e : z = x
      · rw [if_pos e]; exact Int.le_refl _
      · rw [if_neg e]; exact o27 z z0 z1, by rw [f11]; exact n0, fun i i1 i3 => by
      rw [f11] at i3
      obtain ⟨o1, o2, o3, o4⟩ := O.2.2 i i1 i3
      rw [pre2]
      exact ⟨o1, (vis2 _ o1.1).2 (Or.inr o2), by rw [ne2 29 (by decide) (by decide) (by decide) (by decide)]; exact o3, fun k k0 k1 hK => i2 (o4 k k0 k1 hK)⟩⟩
    have vb2 := bVn_b (s := s2)
    have eo2 : bOl s2 = bOl s := bOl_m f11 (fun i _ _ => pre2 i)
    have nin : x ∉ bOl s := fun hh => by
      obtain ⟨j, j0, j1, j2⟩ := bOl_in.1 hh
      exact ny (by rw [← j2]; exact (O.2.2 j j0 j1).2.1)
    refine n71o hF hL hT h4 hA 16 x x0 (by omega) ht (bi σ 85 (x / 256)).toNat 0 s2 _ _ _ _ 0 0 0 (bOl s) eo2 (by omega) (by decide) M2 f12 (by decide) (by omega) ?_ ?_ ((vis2 x x0).2 (Or.inl rfl)) O2 (fun z z0 z1 h h2 => ?_) (fun k k0 k1 => by omega) (by rw [f11, f12, cv2]; omega) (by decide) (by decide) (by omega) (fun s3 l3 v1' v3' v4' v5' hV3 M3 E3 h12 O3 I3 cn3 l30 bl3 => ?_)
    · rw [← hs2, bi_ne (by decide), bi_ne (by decide), bi_eq ⟨by omega, by omega⟩]
    · rw [← hs2, bi_ne (by decide), bi_eq (by decide)]
    · rw [f11]
      rcases (vis2 z z0).1 h with e | e
      · omega
      · exact i2 (VI z z0 z1 e)
    · have pre3 : ∀ i, 0 ≤ i → i < bi s 6 11 → bi s3 28 i = bi s 28 i := fun i i0 i1 => by rw [E3.2.2.2.1 i i0 (by rw [f11]; exact i1), pre2]
      have le3 : bi s 6 11 ≤ bi s3 6 11 := by have := E3.2.2.1; rw [f11] at this; exact this
      have new : ∀ y, 0 ≤ y → y < 4096 → bVis s3 y → bVis s y ∨ bIno s3 (bi s3 6 11) y := fun y y0 y1 w => by
        rcases E3.2.2.2.2.2 y y0 y1 w with e | e
        · rcases (vis2 y y0).1 e with e2 | e2
          · rw [e2]; exact Or.inr I3
          · exact Or.inl e2
        · exact Or.inr e
      have vb3 := bVn_b (s := s3)
      refine fin s3 l3 _ _ _ _ ⟨by omega, by omega⟩ h12 (h s3 (by
        rw [hV3]
        unfold bpO
        rw [if_neg nin]) ⟨M3, O3, fun y y0 y1 w => ?_, by omega⟩ ⟨⟨E3.1.1.trans f10, E3.1.2.trans f13⟩, fun j j0 j1 => by omega, le3, pre3, fun y y0 y1 w => E3.2.2.2.2.1 y y0 y1 ((vis2 y y0).2 (Or.inr w)), new⟩ I3)
      rcases new y y0 y1 w with e | e
      · exact bIno_e (VI y y0 y1 e) le3 pre3
      · exact e
end

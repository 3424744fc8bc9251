/-! BUILD, 47: the class numbers the actions of its order -/
section
variable {d lvl : Nat} {σ s s0 t r s' : bSt} {f : Int → bSt → Prop} {fv : bSt → Prop} {A : bPt → Prop} {Z Z0 Y X : bZs} {x y v a b k i q : Int} {V W : List Int} {n n0 m : Nat} {rk : Int → Nat}
/-- what a new action changes -/
theorem bmNew_e (hY : Y = bmTg (zw (bmNw σ Z x n) 109 n 0) x n) : (∀ c ∈ [101, 102, 103, 104, 105], ∀ j, j ≠ (n : Int) → Y.1 c j = Z.1 c j) ∧
    (Y.1 101 n = bi σ 76 (x / 256) ∧ Y.1 102 n = bNu σ (x / 256) (x % 256) ∧ Y.1 103 n = bVe σ (x / 256) (x % 256) ∧ Y.1 104 n = bi σ 75 (x / 256) ∧ Y.1 105 n = (bmL σ Z x).length) ∧
    (∀ j, Y.1 106 j = if 40 * (n : Int) ≤ j ∧ j < 40 * (n : Int) + (bmL σ Z x).length then (bmL σ Z x).getD (j - 40 * (n : Int)).toNat 0 else Z.1 106 j) ∧ (∀ j, Y.1 99 j = if j = x then (n : Int) else Z.1 99 j) ∧ Y.1 49 0 = (n : Int) + 1 ∧ (Y.2.1 = Z.2.1 ∧ Y.2.2.1 = Z.2.2.1 ∧ ∀ b, Y.2.2.2 b = if b = (n : Int) then none else Z.2.2.2 b) := by
  obtain ⟨g0, g99, g109, g107, g2⟩ := bmTg_e (Z := zw (bmNw σ Z x n) 109 n 0) (x := x) (a := (n : Int))
  rw [← hY] at g0 g99 g109 g107 g2
  have w : ∀ c, c ≠ 106 → ∀ j, (bmNw σ Z x n).1 c j = (zw (zw (zw (zw (zw (zw Z 49 0 ((n : Int) + 1)) 101 n (bi σ 76 (x / 256))) 102 n (bNu σ (x / 256) (x % 256))) 103 n (bVe σ (x / 256) (x % 256))) 104 n (bi σ 75 (x / 256))) 105 n (bmL σ Z x).length).1 c j := fun c hc j => if_neg fun q => hc q.1
  refine ⟨fun c hc j hj => ?_, ⟨?_, ?_, ?_, ?_, ?_⟩, fun j => ?_, fun j => ?_, ?_, ?_, ?_, fun b => ?_⟩
  · simp only [List.mem_cons, List.not_mem_nil, or_false] at hc
    rw [g0 c (by omega) (by omega) (by omega), zw_a (by omega), w c (by omega), zw_i hj, zw_i hj, zw_i hj, zw_i hj, zw_i hj, zw_a (by omega)]
  · rw [g0 101 (by decide) (by decide) (by decide), zw_a (by decide), w 101 (by decide), zw_a (by decide), zw_a (by decide), zw_a (by decide), zw_a (by decide), zw_e]
  · rw [g0 102 (by decide) (by decide) (by decide), zw_a (by decide), w 102 (by decide), zw_a (by decide), zw_a (by decide), zw_a (by decide), zw_e]
  · rw [g0 103 (by decide) (by decide) (by decide), zw_a (by decide), w 103 (by decide), zw_a (by decide), zw_a (by decide), zw_e]
  · rw [g0 104 (by decide) (by decide) (by decide), zw_a (by decide), w 104 (by decide), zw_a (by decide), zw_e]
  · rw [g0 105 (by decide) (by decide) (by decide), zw_a (by decide), w 105 (by decide), zw_e]
  · rw [g0 106 (by decide) (by decide) (by decide), zw_a (by decide)]
    show (if 106 = 106 ∧ 40 * (n : Int) ≤ j ∧ j < 40 * (n : Int) + (bmL σ Z x).length then _ else _) = _
    by_cases e : 40 * (n : Int) ≤ j ∧ j < 40 * (n : Int) + (bmL σ Z x).length
    · rw [if_pos ⟨rfl, e⟩, if_pos e]
    · rw [if_neg (fun q => e q.2), if_neg e, zw_a (by decide), zw_a (by decide), zw_a (by decide), zw_a (by decide), zw_a (by decide), zw_a (by decide)]
  · rw [g99]
    by_cases e : j = x
    · rw [if_pos e, if_pos e]
    · rw [if_neg e, if_neg e, zw_a (by decide), w 99 (by decide), zw_a (by decide), zw_a (by decide), zw_a (by decide), zw_a (by decide), zw_a (by decide), zw_a (by decide)]
  · rw [g0 49 (by decide) (by decide) (by decide), zw_a (by decide), w 49 (by decide), zw_a (by decide), zw_a (by decide), zw_a (by decide), zw_a (by decide), zw_a (by decide), zw_e]
  · rw [g2]; rfl
  · rw [g2]; rfl
  · rw [g2]; rfl
theorem bAm1_o (h : bAm1 s a) (e : ∀ b ∈ [bAi a, bKe a], ∀ j, bi t b j = bi s b j) (e33 : br t 33 a = br s 33 a) (em : ∀ b ∈ bAd a, t.2.2.2.1 b = s.2.2.2.1 b) : bAm1 t a := by
  unfold bAm1 bFre at h ⊢
  rw [e33]
  simp only [e (bAi a) (by simp), e (bKe a) (by simp)]
  exact h.imp (fun ⟨h1, h2⟩ => ⟨h1, fun b hb => by rw [em b hb]; exact h2 b hb⟩) id
theorem w80L (hA : bClosed lvl bm80 (bWp (d + 5)) (bRn f) A) (hF : bFi σ) (hL : bTl σ) (hT : bTg σ) (h4 : bR4 σ) (M0 : bSm bWkK σ s0) (O : bOrd σ s0) (hS : ∀ y ∈ bOl s0, bFx σ y = 0) (hN : (bOl s0).Nodup) (h44 : bi s0 6 11 ≤ 4096) (n120 : n0 ≤ 120)
    (K1 : ∀ t Z n rk, bmAl σ (bOl s0) Z0 = some Z → bmI0 rk n Z → bmI1 σ (bOl s0) rk n Z → bmC n0 (bOl s0) Z n t → bmFr n0 s0 t → f 1 t)
    (K0 : bmAl σ (bOl s0) Z0 = none → ∀ t, bmFr n0 s0 t → bi t 6 13 = n0 → (∀ a, (n0 : Int) ≤ a → a ≤ 120 → bAm1 t a) → (∀ y, 0 ≤ y → y < 4096 → -1 ≤ bi t 30 y ∧ bi t 30 y < 1000) → f 0 t) :
    ∀ (W V : List Int) (t : bSt) (Z : bZs) (n : Nat) (rk : Int → Nat) (v1 v4 v5 : Value), bOl s0 = V ++ W → bmAl σ V Z0 = some Z → bmI0 rk n Z → bmI1 σ V rk n Z → bmCl σ V → bmC n0 V Z n t → bmFr n0 s0 t → n0 ≤ n → A (26, [.ref 6, v1, .int (bn n0), .int (bn V.length), v4, v5], [], t) := by
  have olen : (bOl s0).length = (bi s0 6 11).toNat := by unfold bOl; rw [List.length_map, List.length_range]
  have o11 := O.2.1
  intro W
  induction W with
  | nil =>
    intro V t Z n rk v1 v4 v5 hV hZ I0 I1 Cl C Fr nn
    rw [List.append_nil] at hV
    rw [← hV] at hZ I1 C
    have e11 : bi t 6 11 = bi s0 6 11 := Fr.2.1.1 11 (by decide) (by decide)
    rw [← hV]
    exact sq80_26 (bWp_mono _) hA ⟨by omega, by omega⟩ ⟨by omega, by omega⟩ ⟨fun y => absurd y (by rw [e11]; omega), fun _ => bRn_i (by decide) (K1 t Z n rk hZ I0 I1 C Fr)⟩
  | cons x W ih =>
    intro V t Z n rk v1 v4 v5 hV hZ I0 I1 Cl C Fr nn
    have nx := ih (V ++ [x])
    have hV2 : bOl s0 = (V ++ [x]) ++ W := by rw [hV, List.append_assoc]; rfl
    have lenV : V.length + 1 ≤ (bOl s0).length := by rw [hV, List.length_append, List.length_cons]; omega
    have e11 : bi t 6 11 = bi s0 6 11 := Fr.2.1.1 11 (by decide) (by decide)
    have u := bmFr_un Fr
    -- the node at its place
    have at28 : bi s0 28 V.length = x := by
      have h1 : (bOl s0)[V.length]? = some x := by rw [hV, List.getElem?_append_right (Nat.le_refl _), Nat.sub_self]; rfl
      unfold bOl at h1
      rw [List.getElem?_map, List.getElem?_range (by omega)] at h1
      exact Option.some.inj h1
    have t28 : bi t 28 V.length = x := by rw [u.1 28 (by decide) (by decide)]; exact at28
    have ord := O.2.2 V.length (by omega) (by omega)
    rw [at28] at ord
    obtain ⟨⟨x0, ht⟩, _, _, oit⟩ := ord
    have xm : x ∈ bOl s0 := by rw [hV]; exact List.mem_append_right _ List.mem_cons_self
    have hE := hS x xm
    have nin : x ∉ V := fun h => by
      rw [hV] at hN
      exact (List.nodup_append.1 hN).2.2 x h x List.mem_cons_self rfl
    have tc := hT.1
    have ht2 := ht.2
    have ic := bIc_at hT ht
    have hit : ∀ k, 0 ≤ k → k < bi σ 85 (x / 256) → bi σ 86 (6 * (x / 256) + k) = 2 → bNod σ x k ∈ V := fun k k0 k1 k2 => by
      obtain ⟨j, j0, j1, j2⟩ := oit k k0 k1 k2
      have h1 : (bOl s0)[j.toNat]? = some (bNod σ x k) := by
        unfold bOl
        rw [List.getElem?_map, List.getElem?_range (by omega)]
        show some (bi s0 28 ((j.toNat : Nat) : Int)) = _
        rw [show ((j.toNat : Nat) : Int) = j by omega, j2]
      rw [hV, List.getElem?_append_left (by omega)] at h1
      exact List.mem_of_getElem? h1
    have uσ : bUn [0, 4, 6, 13, 22, 23, 27, 28, 29, 30, 31, 32, 33] [] σ t := bUn_trans (bUn_S bUn_refl (bSm_mono M0 (by decide)) (by decide)) (bUn_mono u (by decide) (fun _ h => h))
    have ag := bmUn_pag uσ
    have Ft := bFi_un uσ (by decide) hF
    have Lt := bTl_un uσ (by decide) (by decide) hL
    have Tt := bTg_un uσ (by decide) (by decide) hT
    have R4 : bR4 t := fun t' h' => by rw [ag.2.2.2]; exact h4 t' ⟨h'.1, by rw [← ag.2.2.1]; exact h'.2⟩
    have htt : bTgk t (x / 256) := ⟨ht.1, by rw [ag.2.2.1]; exact ht.2⟩
    obtain ⟨C1, C2, C3, C4, C5⟩ := C
    have c49 := I0.1.1
    have n1 := I0.1.2.1
    have en : ∀ k, bNod t x k = bNod σ x k := fun k => by unfold bNod; rw [ag.1 87 (by decide), bBw_m ag]
    have made : ∀ k, 0 ≤ k → k < bi σ 85 (x / 256) → bi σ 86 (6 * (x / 256) + k) = 2 → bi t 30 (bNod σ x k) = Z.1 99 (bNod σ x k) ∧ 0 ≤ Z.1 99 (bNod σ x k) := fun k k0 k1 k2 => ⟨C4 _ (hit k k0 k1 k2), (I1.1 _ (hit k k0 k1 k2)).2.1.1⟩
    have eL : bIl t (bMd t) x (bi σ 85 (x / 256)).toNat = bmL σ Z x := bIl_m ag hT ht (fun k k0 k1 k2 => (made k k0 k1 k2).1) _ (by omega)
    have L40 := (bmL_in (Z := Z) hF hT x0 ht hE).1
    refine sq80_26 (bWp_mono _) hA ⟨by omega, by omega⟩ ⟨by omega, by omega⟩ ⟨fun _ => w140i (n := 4096) rfl rfl (by decide) (by omega) (by omega) ?_, fun y => absurd (by rw [e11]; omega) y⟩
    rw [t28]
    refine w86 (d := d) (q := n) Ft Lt Tt R4 C1 ⟨by omega, by omega⟩ (C3 n (by omega) (by omega)) C5 x0 htt (by rw [bFx_m ag]; exact hE) (fun ⟨k, k0, k1, k2, k3⟩ => ?_) (fun _ t1 D1 z1 H1 => ?_)
    · rw [ag.1 85 (by decide)] at k1
      rw [ag.1 86 (by decide)] at k2
      rw [en] at k3
      have := made k k0 k1 k2
      omega
    rw [uσ.1 76 (by decide) (by decide), bNu_m ag, bVe_m ag, ag.1 75 (by decide), ag.1 85 (by decide), eL] at H1
    have n0i : (0 : Int) ≤ (n : Int) := by omega
    have Fr1 : bmFr n0 s0 t1 := bmFr_trans Fr (bmFr_c D1 (by omega) n0i (by omega))
    have off : ∀ b, b ≠ 33 → b ∉ bAd (n : Int) → (∀ j, bi t1 b j = bi t b j) ∧ t1.2.2.2.1 b = t.2.2.2.1 b := fun b h1 h2 => by
      have := D1.1 b (fun w => by
        rcases List.mem_cons.1 w with e | e
        · exact h1 e
        · exact h2 e)
      exact ⟨this.1, this.2.2.2⟩
    have lowm : ∀ b ∈ [6, 30], b ≠ 33 ∧ b ∉ bAd (n : Int) := fun b hb => by
      refine ⟨fun e => by rw [e] at hb; revert hb; decide, fun w => ?_⟩
      have := bAd_m w
      simp only [List.mem_cons, List.not_mem_nil, or_false] at hb this
      omega
    have c13 : bi t1 6 13 = n := by rw [(off 6 (lowm 6 (by decide)).1 (lowm 6 (by decide)).2).1]; exact C1
    have f30 : ∀ j, bi t1 30 j = bi t 30 j := (off 30 (lowm 30 (by decide)).1 (lowm 30 (by decide)).2).1
    have n33 : ∀ a b, b ∈ bAd a → b ≠ 33 := fun a b hb e => by
      have := bAd_m hb
      rw [e] at this
      revert this
      decide
    have mem : ∀ a, bAi a ∈ bAd a ∧ bAi a + 13 ∈ bAd a ∧ bNe a ∈ bAd a ∧ bKe a ∈ bAd a := fun a => by
      unfold bAd bAid bAi bNe bKe
      generalize a.toNat + 1 = q
      exact ⟨by simp, by simp, by simp, by simp⟩
    have offA : ∀ a, 0 ≤ a → a ≠ (n : Int) → ∀ b ∈ bAd a, (∀ j, bi t1 b j = bi t b j) ∧ t1.2.2.2.1 b = t.2.2.2.1 b := fun a a0 an b hb => off b (n33 a b hb) ((bAd_n a0 n0i an).2.2.2.2 b hb)
    have A1 : ∀ a, 0 ≤ a → a < (n : Int) → bmA Z t1 a := fun a a0 a1 => bmA_m (C2 a a0 a1) (fun b hb => (offA a a0 (by omega) b (by
      have m := mem a
      simp only [List.mem_cons, List.not_mem_nil, or_false] at hb
      rcases hb with rfl | rfl | rfl
      · exact m.1
      · exact m.2.1
      · exact m.2.2.1)).1) (D1.2.1 a a0 (by omega)) (fun _ _ => rfl) (fun _ _ _ => rfl)
    have M1 : ∀ a, (n0 : Int) ≤ a → a ≤ 120 → bAm1 t1 a := fun a a0 a1 => by
      by_cases e : a = n
      · rw [e]; exact D1.2.2.1
      · exact bAm1_o (C3 a a0 a1) (fun b hb => (offA a (by omega) e b (by
          have m := mem a
          simp only [List.mem_cons, List.not_mem_nil, or_false] at hb
          rcases hb with rfl | rfl
          · exact m.1
          · exact m.2.2.2)).1) (D1.2.1 a (by omega) e) (fun b hb => (offA a (by omega) e b hb).2)
    have same : ∀ a, 0 ≤ a → a < (n : Int) → (bSam t1 a (bi σ 76 (x / 256)) (bNu σ (x / 256) (x % 256)) (bVe σ (x / 256) (x % 256)) (bi σ 75 (x / 256)) (bmL σ Z x) ↔ bmSr σ Z x a) := fun a a0 a1 => by
      obtain ⟨_, ⟨h2, h3⟩, h4, h5, h6, h7⟩ := A1 a a0 a1
      unfold bSam bmSr bHl
      rw [h2, h3, h5, h6, h7]
      constructor
      · rintro ⟨q1, q2, q3, q4, q5, q6⟩
        exact ⟨q1, q2, q3, q4, q5, fun i hi => by rw [← h4 i (by omega) (by omega), ← Int.zero_add (i : Int)]; exact q6 i hi⟩
      · rintro ⟨q1, q2, q3, q4, q5, q6⟩
        exact ⟨q1, q2, q3, q4, q5, fun i hi => by rw [Int.zero_add, h4 i (by omega) (by omega)]; exact q6 i hi⟩
    have x4 : x < 4096 := by omega
    -- on with the next node
    have next : ∀ (Y : bZs) (t2 : bSt) (v v4 v5) (m : Nat), bmMk σ x Z = some Y → Y.1 49 0 = (m : Int) → n ≤ m → bi t2 6 13 = m → (∀ j, Y.1 99 j = if j = x then v else Z.1 99 j) → (0 ≤ v ∧ v ≤ 120) → (∀ a, 0 ≤ a → a < (m : Int) → bmA Y t2 a) → (∀ a, (n0 : Int) ≤ a → a ≤ 120 → bAm1 t2 a) → (∀ j, 0 ≤ j → bi t2 30 j = if j = x then v else bi t 30 j) → bmFr n0 s0 t2 → bRg ((V.length : Int) + 1) ∧ A (26, [.ref 6, v1, .int (bn n0), .int (bn ((V.length : Int) + 1)), v4, v5], [], t2) := fun Y t2 v v4 v5 m hY y49 nm e13 y99 hv AY MY e30 F2 => by
      obtain ⟨rk', m', J0, J1, _, _⟩ := bmI_mk hF hL hT h4 I0 I1 Cl x0 ht hE nin hit hY
      have em : m' = m := by have := J0.1.1; omega
      subst em
      have := nx t2 Y m' rk' v1 v4 v5 hV2 (by rw [bmAl_app, hZ]; show (bmMk σ x Z).bind (bmAl σ []) = _; rw [hY]; rfl) J0 J1 (fun y hy => ?_) ⟨e13, AY, MY, fun y hy => ?_, fun y y0 y1 => ?_⟩ F2 (by omega)
      · rw [List.length_append] at this
        exact ⟨⟨by omega, by omega⟩, this⟩
      · rcases List.mem_append.1 hy with h | h
        · have c := Cl y h
          exact ⟨c.1, fun k k0 k1 k2 => List.mem_append_left _ (c.2 k k0 k1 k2)⟩
        · rw [List.mem_singleton.1 h]
          exact ⟨⟨x0, ht, hE⟩, fun k k0 k1 k2 => List.mem_append_left _ (hit k k0 k1 k2)⟩
      · rcases List.mem_append.1 hy with h | h
        · have ne : y ≠ x := fun e => nin (by rw [← e]; exact h)
          rw [e30 y (Cl y h).1.1, if_neg ne, y99, if_neg ne]; exact C4 y h
        · rw [List.mem_singleton.1 h, e30 x x0, if_pos rfl, y99, if_pos rfl]
      · rw [e30 y y0]
        split
        · omega
        · exact C5 y y0 y1
    refine w88 (d := d + 1) (q := n) c13 ⟨by omega, by omega⟩ (fun a a0 a1 => ?_) z1 H1 (fun a a0 a1 hs => ?_) fun hs => ?_
    · have o := I0.1.2.2 a a0 a1
      have h := A1 a a0 a1
      exact ⟨h.1, by rw [h.2.1.2]; exact o.1.1, by rw [h.2.1.2]; exact o.1.2⟩
    · -- it is there
      have sr := (same a a0 a1).1 hs
      have fd := bmFd_e I0 a0 a1 sr
      have hY : bmMk σ x Z = some (bmTg Z x a) := by
        unfold bmMk
        rw [c49, Int.toNat_natCast, fd, if_pos (by omega)]
      obtain ⟨g0, g99, _⟩ := bmTg_e (Z := Z) (x := x) (a := a)
      have rv : bRg a := ⟨by omega, by omega⟩
      refine ⟨fun y => by omega, fun _ => ⟨fun y => absurd y (by rw [c13]; omega), fun _ => w141i (n := 4096) rv rfl (by decide) rfl (by decide) x0 x4 ?_⟩⟩
      have ne : ∀ b, b ≠ 30 → ∀ j, bi (bw t1 30 x a) b j = bi t1 b j := fun b hb j => bi_ne hb
      have b30 : ∀ a', bAi a' ≠ 30 ∧ bAi a' + 13 ≠ 30 ∧ bNe a' ≠ 30 ∧ bKe a' ≠ 30 := fun a' => by unfold bAi bNe bKe; omega
      refine next _ (bw t1 30 x a) a _ _ n hY (by rw [g0 49 (by decide) (by decide) (by decide)]; exact c49) (Nat.le_refl _) (by rw [ne 6 (by decide)]; exact c13) g99 ⟨a0, by omega⟩ (fun c h0 h1 => bmA_m (A1 c h0 h1) (fun b hb => ne b (by
        have := b30 c
        simp only [List.mem_cons, List.not_mem_nil, or_false] at hb
        rcases hb with rfl | rfl | rfl
        · exact this.1
        · exact this.2.1
        · exact this.2.2.1)) rfl (fun cc hc => g0 cc (by
          simp only [List.mem_cons, List.not_mem_nil, or_false] at hc
          omega) (by
          simp only [List.mem_cons, List.not_mem_nil, or_false] at hc
          omega) (by
          simp only [List.mem_cons, List.not_mem_nil, or_false] at hc
          omega) _) (fun _ _ _ => g0 106 (by decide) (by decide) (by decide) _)) (fun c h0 h1 => bAm1_o (M1 c h0 h1) (fun b hb => ne b (by
        have := b30 c
        simp only [List.mem_cons, List.not_mem_nil, or_false] at hb
        rcases hb with rfl | rfl
        · exact this.1
        · exact this.2.2.2)) rfl (fun _ _ => rfl)) (fun j j0 => by rw [bi_bw x0 j0 rv, f30]; simp only [true_and]) (bmFr_trans Fr1 (bmFr_w (Or.inl rfl)))
    · -- a new one
      have fd : bmFd σ Z x n = -1 := by
        rcases bmFd_at (σ := σ) (Z := Z) (x := x) n with ⟨q, _⟩ | ⟨q, q2⟩
        · exact q
        · exact absurd ((same _ q.1 q.2).2 q2) (hs _ q.1 q.2)
      have rn : bRg ((n : Int) + 1) := ⟨by omega, by omega⟩
      rw [c13]
      refine ⟨fun _ => ⟨rn, fun y => ?_, fun y => ?_⟩, fun y => absurd rfl y⟩
      · have hY : bmMk σ x Z = none := by
          unfold bmMk
          rw [c49, Int.toNat_natCast, fd, if_neg (by decide), if_pos (by omega)]
        refine bRn_i (by decide) (K0 ?_ _ (bmFr_trans Fr1 (bmFr_trans (bmFr_w (Or.inr ⟨rfl, rfl⟩)) (bmFr_w (Or.inr ⟨rfl, rfl⟩)))) (bi_eq ⟨by omega, by omega⟩) (fun c h0 h1 => bAm1_o (M1 c h0 h1) (fun b hb j => ?_) rfl (fun _ _ => rfl)) (fun y y0 y1 => ?_))
        · rw [hV, bmAl_app, hZ]
          show (bmMk σ x Z).bind (bmAl σ W) = none
          rw [hY]; rfl
        · have : b ≠ 6 := by
            unfold bAi bKe at hb
            simp only [List.mem_cons, List.not_mem_nil, or_false] at hb
            omega
          rw [bi_ne this, bi_ne this]
        · rw [bi_ne (by decide), bi_ne (by decide), f30]; exact C5 y y0 y1
      · have hY : bmMk σ x Z = some (bmTg (zw (bmNw σ Z x n) 109 n 0) x n) := by
          unfold bmMk
          rw [c49, Int.toNat_natCast, fd, if_neg (by decide), if_neg (by omega)]
        obtain ⟨r, rr, r6, y99, y49, _⟩ := bmNew_e (σ := σ) (Z := Z) (x := x) (n := n) rfl
        have rv : bRg (n : Int) := ⟨by omega, by omega⟩
        refine w141i (n := 4096) rv rfl (by decide) rfl (by decide) x0 x4 ?_
        have ne : ∀ b, b ≠ 30 → b ≠ 6 → ∀ j, bi (bw (bw t1 6 13 ((n : Int) + 1)) 30 x n) b j = bi t1 b j := fun b hb hb2 j => by rw [bi_ne hb, bi_ne hb2]
        have b30 : ∀ a' b, b ∈ [bAi a', bAi a' + 13, bNe a', bKe a'] → b ≠ 30 ∧ b ≠ 6 := fun a' b hb => by
          unfold bAi bNe bKe at hb
          simp only [List.mem_cons, List.not_mem_nil, or_false] at hb
          omega
        refine next _ _ n _ _ (n + 1) hY (by rw [y49]; omega) (by omega) (by rw [bi_ne (by decide), bi_eq rn]; omega) y99 ⟨by omega, by omega⟩ (fun c h0 h1 => ?_) (fun c h0 h1 => bAm1_o (M1 c h0 h1) (fun b hb => by
          have := b30 c b (by
            simp only [List.mem_cons, List.not_mem_nil, or_false] at hb ⊢
            omega)
          exact ne b this.1 this.2) rfl (fun _ _ => rfl)) (fun j j0 => by rw [bi_bw x0 j0 rv, bi_ne (by decide), f30]; simp only [true_and]) (bmFr_trans Fr1 (bmFr_trans (bmFr_w (Or.inr ⟨rfl, rfl⟩)) (bmFr_w (Or.inl rfl))))
        by_cases e : c = n
        · obtain ⟨H0, H1', H2, H3, H4, H5⟩ := H1
          have g := fun b hb j => ne b (b30 (n : Int) b hb).1 (b30 (n : Int) b hb).2 j
          rw [e]
          refine ⟨z1, ⟨by rw [g _ (by simp), rr.2.2.2.1]; exact H0, by rw [g _ (by simp), rr.2.2.2.2]; exact H1'⟩, fun i i0 i1 => ?_, by rw [g _ (by simp), rr.1]; exact H3, by rw [g _ (by simp), rr.2.1]; exact H4, by rw [g _ (by simp), rr.2.2.1]; exact H5⟩
          rw [rr.2.2.2.2] at i1
          rw [g _ (by simp), r6, if_pos ⟨by omega, by omega⟩, show 40 * (n : Int) + i - 40 * (n : Int) = i by omega]
          have := H2 i.toNat (by omega)
          rw [Int.zero_add, show ((i.toNat : Nat) : Int) = i by omega] at this
          exact this
        · have oc := I0.1.2.2 c h0 (by omega)
          exact bmA_m (A1 c h0 (by omega)) (fun b hb => by
            have := b30 c b (by
              simp only [List.mem_cons, List.not_mem_nil, or_false] at hb ⊢
              omega)
            exact ne b this.1 this.2) rfl (fun cc hc => r cc hc c e) (fun i i0 i1 => by rw [r6, if_neg (fun y => by omega)])
end

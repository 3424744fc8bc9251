/-! BUILD, 45: the model: what holds when an action is made -/
/-- what holds of nodes: their items' nodes stand ahead -/
def bmCl (σ : bSt) (V : List Int) : Prop := ∀ y ∈ V, (0 ≤ y ∧ bTgk σ (y / 256) ∧ bFx σ y = 0) ∧ ∀ k, 0 ≤ k → k < bi σ 85 (y / 256) → bi σ 86 (6 * (y / 256) + k) = 2 → bNod σ y k ∈ V
section
variable {σ s : bSt} {Z Y X : bZs} {x y a b k i : Int} {V W : List Int} {n m : Nat} {rk : Int → Nat}
theorem bmI_mk (hF : bFi σ) (hL : bTl σ) (hT : bTg σ) (h4 : bR4 σ) (I0 : bmI0 rk n Z) (I1 : bmI1 σ V rk n Z) (Cl : bmCl σ V) (x0 : 0 ≤ x) (ht : bTgk σ (x / 256)) (hE : bFx σ x = 0) (hx : x ∉ V) (hit : ∀ k, 0 ≤ k → k < bi σ 85 (x / 256) → bi σ 86 (6 * (x / 256) + k) = 2 → bNod σ x k ∈ V) (hY : bmMk σ x Z = some Y) :
    ∃ rk' m, bmI0 rk' m Y ∧ bmI1 σ (V ++ [x]) rk' m Y ∧ n ≤ m ∧ (∀ b, 0 ≤ b → b < (n : Int) → rk' b = rk b) := by
  obtain ⟨⟨c49, n120, Oa⟩, Nd, Rk⟩ := id I0
  have tc := hT.1
  have ht2 := ht.2
  obtain ⟨L40, Lin⟩ := bmL_in (Z := Z) hF hT x0 ht hE
  have n40 := (bIl_40 (G := fun y => Z.1 99 y) hT x0 ht hE)
  have nu := bNuS_rg hT ht (c := x % 256) (h4 _ ht) (bi σ 83 (x / 256)).toNat 0 (by decide) (by have := (hT.2.2.2 _ ht.1 ht.2).2.2.2.2.2.2.2.2.2.2.2.1; omega)
  have ve := bVe_rg (t := x / 256) (c := x % 256) hL
  have nu1 : bNu σ (x / 256) (x % 256) ≠ -1 := n40.2.2.2.2.1
  have ve1 : bVe σ (x / 256) (x % 256) ≠ -1 := n40.2.2.2.2.2
  have nu2 : -1 ≤ bNu σ (x / 256) (x % 256) ∧ bNu σ (x / 256) (x % 256) < 1000 := nu
  have op := (hT.2.2.2 _ ht.1 ht.2).2.1
  have ho := (hT.2.2.2 _ ht.1 ht.2).1
  -- the nodes below
  have bel : ∀ k, 0 ≤ k → k < bi σ 85 (x / 256) → bi σ 86 (6 * (x / 256) + k) = 2 → (bNod σ x k ≠ x) ∧ (0 ≤ Z.1 99 (bNod σ x k) ∧ Z.1 99 (bNod σ x k) < (n : Int)) ∧ (rk (Z.1 99 (bNod σ x k)) : Int) < x / 256 := fun k k0 k1 k2 => by
    have nd := (bNd_at hT ht k0 k1 k2).1
    have q := I1.1 _ (hit k k0 k1 k2)
    exact ⟨fun e => by rw [e] at nd; omega, q.2.1, by omega⟩
  have Lw : ∀ w ∈ bmL σ Z x, (0 ≤ w ∧ w < 48) ∨ (100 ≤ w ∧ w < 100 + (n : Int) ∧ (rk (w - 100) : Int) < x / 256) := fun w hw => by
    rcases Lin w hw with q | ⟨k, k0, k1, k2, e⟩
    · exact Or.inl q
    · have b := bel k k0 k1 k2
      refine Or.inr ⟨by omega, by omega, ?_⟩
      rw [e, show 100 + Z.1 99 (bNod σ x k) - 100 = Z.1 99 (bNod σ x k) by omega]
      exact b.2.2
  have Lget : ∀ i : Nat, i < (bmL σ Z x).length → (bmL σ Z x).getD i 0 ∈ bmL σ Z x := fun i hi => by
    rw [List.getD_eq_getElem?_getD, List.getElem?_eq_getElem hi]
    exact List.getElem_mem _
  -- lists of nodes in V stand when 99 changes at x alone
  have LV : ∀ (Y : bZs), (∀ j, j ≠ x → Y.1 99 j = Z.1 99 j) → ∀ y ∈ V, bmL σ Y y = bmL σ Z y := fun Y h y hy => by
    have c := Cl y hy
    exact bmL_m hT c.1.2.1 fun k k0 k1 k2 => h _ fun e => hx (by rw [← e]; exact c.2 k k0 k1 k2)
  have Lx : ∀ (Y : bZs), (∀ j, j ≠ x → Y.1 99 j = Z.1 99 j) → bmL σ Y x = bmL σ Z x := fun Y h => bmL_m hT ht fun k k0 k1 k2 => h _ (bel k k0 k1 k2).1
  have yx : ∀ y ∈ V, y ≠ x := fun y hy e => hx (by rw [← e]; exact hy)
  -- of what was found this time
  have tags : ∀ (T Y : bZs) (a : Int), (∀ j, T.1 99 j = Z.1 99 j) → (∀ j, T.1 109 j = if j = a ∧ ¬ (∃ y ∈ V, Z.1 99 y = a) then 0 else Z.1 109 j) → (∀ j, T.1 107 j = Z.1 107 j) → Y = bmTg T x a → ∀ b, (Y.1 109 b = 0 ∨ Y.1 109 b = 1) ∧ (Y.1 109 b ≠ 0 ↔ ∃ y ∈ V ++ [x], Y.1 99 y = b) ∧ (Y.1 109 b ≠ 0 → Y.1 107 b = bmFs (fun y => Y.1 99 y) b (V ++ [x])) := fun T Y a t99 t109 t107 hYT b => by
    obtain ⟨_, g99, g109, g107, _⟩ := bmTg_e (Z := T) (x := x) (a := a)
    rw [← hYT] at g99 g109 g107
    have y99 : ∀ y ∈ V, Y.1 99 y = Z.1 99 y := fun y hy => by rw [g99, if_neg (yx y hy), t99]
    have x99 : Y.1 99 x = a := by rw [g99, if_pos rfl]
    obtain ⟨o1, o2, o3⟩ := I1.2 b
    have fV : bmFs (fun y => Y.1 99 y) b V = bmFs (fun y => Z.1 99 y) b V := bmFs_m y99
    have fA := bmFs_a (M := fun y => Y.1 99 y) (a := b) (V := V) (W := [x])
    have exy : (∃ y ∈ V, Y.1 99 y = b) ↔ ∃ y ∈ V, Z.1 99 y = b := ⟨fun ⟨y, hy, e⟩ => ⟨y, hy, by rw [← y99 y hy]; exact e⟩, fun ⟨y, hy, e⟩ => ⟨y, hy, by rw [y99 y hy]; exact e⟩⟩
    have xm : x ∈ V ++ [x] := List.mem_append_right _ List.mem_cons_self
    by_cases e : b = a
    · have one : Y.1 109 b = 1 := by rw [g109, if_pos e]
      refine ⟨Or.inr one, ⟨fun _ => ⟨x, xm, by rw [x99, e]⟩, fun _ => by rw [one]; decide⟩, fun _ => ?_⟩
      by_cases ex : ∃ y ∈ V, Z.1 99 y = a
      · have o3 := o3 (o2.2 (by rw [e]; exact ex))
        have tz : T.1 109 a ≠ 0 := by
          rw [t109, if_neg (fun q => q.2 ex), ← e]
          exact o2.2 (by rw [e]; exact ex)
        rw [g107, if_neg (fun q => tz q.2), t107, fA.1 (exy.2 (by rw [e]; exact ex)), fV]
        exact o3
      · rw [g107, if_pos ⟨e, by rw [t109, if_pos ⟨rfl, ex⟩]⟩, fA.2 (fun q => ex (by rw [← e]; exact exy.1 q))]
        show x / 256 = if Y.1 99 x = b then x / 256 else 0
        rw [if_pos (by rw [x99, e])]
    · have b109 : Y.1 109 b = Z.1 109 b := by rw [g109, if_neg e, t109, if_neg (fun q => e q.1)]
      have b107 : Y.1 107 b = Z.1 107 b := by rw [g107, if_neg (fun q => e q.1), t107]
      rw [b109, b107]
      refine ⟨o1, ⟨fun q => ?_, fun ⟨y, hy, e1⟩ => ?_⟩, fun q => ?_⟩
      · obtain ⟨y, hy, e1⟩ := o2.1 q
        exact ⟨y, List.mem_append_left _ hy, by rw [y99 y hy]; exact e1⟩
      · rcases List.mem_append.1 hy with q | q
        · exact o2.2 ⟨y, q, by rw [← y99 y q]; exact e1⟩
        · rw [List.mem_singleton.1 q, x99] at e1; exact absurd e1.symm e
      · rw [fA.1 (exy.2 (o2.1 q)), fV]
        exact o3 q
  unfold bmMk at hY
  rw [c49, Int.toNat_natCast] at hY
  rcases bmFd_at (σ := σ) (Z := Z) (x := x) n with ⟨q, q2⟩ | ⟨q, q2⟩
  · -- a new one
    rw [if_neg (fun w => w q)] at hY
    by_cases z : (n : Int) = 120
    · rw [if_pos z] at hY; cases hY
    rw [if_neg z] at hY
    have hY := (Option.some.inj hY).symm
    have notin : ¬ ∃ y ∈ V, Z.1 99 y = (n : Int) := fun ⟨y, hy, e⟩ => by have := (I1.1 y hy).2.1; omega
    obtain ⟨g0, g99, g109, g107, _⟩ := bmTg_e (Z := zw (bmNw σ Z x n) 109 n 0) (x := x) (a := (n : Int))
    rw [← hY] at g0 g99 g109 g107
    have w : ∀ c, c ≠ 106 → ∀ j, (bmNw σ Z x n).1 c j = (zw (zw (zw (zw (zw (zw Z 49 0 ((n : Int) + 1)) 101 n (bi σ 76 (x / 256))) 102 n (bNu σ (x / 256) (x % 256))) 103 n (bVe σ (x / 256) (x % 256))) 104 n (bi σ 75 (x / 256))) 105 n (bmL σ Z x).length).1 c j := fun c hc j => if_neg fun q => hc q.1
    have w99 : ∀ j, (zw (bmNw σ Z x n) 109 n 0).1 99 j = Z.1 99 j := fun j => by
      rw [zw_a (by decide), w 99 (by decide), zw_a (by decide), zw_a (by decide), zw_a (by decide), zw_a (by decide), zw_a (by decide), zw_a (by decide)]
    have w107 : ∀ j, (zw (bmNw σ Z x n) 109 n 0).1 107 j = Z.1 107 j := fun j => by
      rw [zw_a (by decide), w 107 (by decide), zw_a (by decide), zw_a (by decide), zw_a (by decide), zw_a (by decide), zw_a (by decide), zw_a (by decide)]
    have w109 : ∀ j, (zw (bmNw σ Z x n) 109 n 0).1 109 j = if j = (n : Int) ∧ ¬ (∃ y ∈ V, Z.1 99 y = (n : Int)) then 0 else Z.1 109 j := fun j => by
      rw [zw_w]
      by_cases e : j = (n : Int)
      · rw [if_pos ⟨rfl, e⟩, if_pos ⟨e, notin⟩]
      · rw [if_neg (fun q => e q.2), if_neg (fun q => e q.1), w 109 (by decide), zw_a (by decide), zw_a (by decide), zw_a (by decide), zw_a (by decide), zw_a (by decide), zw_a (by decide)]
    have r : ∀ c ∈ [101, 102, 103, 104, 105], ∀ j, j ≠ (n : Int) → Y.1 c j = Z.1 c j := fun c hc j hj => by
      simp only [List.mem_cons, List.not_mem_nil, or_false] at hc
      rw [g0 c (by omega) (by omega) (by omega), zw_a (by omega), w c (by omega), zw_i hj, zw_i hj, zw_i hj, zw_i hj, zw_i hj, zw_a (by omega)]
    have rn : Y.1 101 n = bi σ 76 (x / 256) ∧ Y.1 102 n = bNu σ (x / 256) (x % 256) ∧ Y.1 103 n = bVe σ (x / 256) (x % 256) ∧ Y.1 104 n = bi σ 75 (x / 256) ∧ Y.1 105 n = (bmL σ Z x).length := by
      refine ⟨?_, ?_, ?_, ?_, ?_⟩
      · rw [g0 101 (by decide) (by decide) (by decide), zw_a (by decide), w 101 (by decide), zw_a (by decide), zw_a (by decide), zw_a (by decide), zw_a (by decide), zw_e]
      · rw [g0 102 (by decide) (by decide) (by decide), zw_a (by decide), w 102 (by decide), zw_a (by decide), zw_a (by decide), zw_a (by decide), zw_e]
      · rw [g0 103 (by decide) (by decide) (by decide), zw_a (by decide), w 103 (by decide), zw_a (by decide), zw_a (by decide), zw_e]
      · rw [g0 104 (by decide) (by decide) (by decide), zw_a (by decide), w 104 (by decide), zw_a (by decide), zw_e]
      · rw [g0 105 (by decide) (by decide) (by decide), zw_a (by decide), w 105 (by decide), zw_e]
    have r49 : Y.1 49 0 = ((n + 1 : Nat) : Int) := by
      rw [g0 49 (by decide) (by decide) (by decide), zw_a (by decide), w 49 (by decide), zw_a (by decide), zw_a (by decide), zw_a (by decide), zw_a (by decide), zw_a (by decide), zw_e]
      omega
    have r6 : ∀ j, Y.1 106 j = if 40 * (n : Int) ≤ j ∧ j < 40 * (n : Int) + (bmL σ Z x).length then (bmL σ Z x).getD (j - 40 * (n : Int)).toNat 0 else Z.1 106 j := fun j => by
      rw [g0 106 (by decide) (by decide) (by decide), zw_a (by decide)]
      show (if 106 = 106 ∧ 40 * (n : Int) ≤ j ∧ j < 40 * (n : Int) + (bmL σ Z x).length then _ else _) = _
      by_cases e : 40 * (n : Int) ≤ j ∧ j < 40 * (n : Int) + (bmL σ Z x).length
      · rw [if_pos ⟨rfl, e⟩, if_pos e]
      · rw [if_neg (fun q => e q.2), if_neg e, zw_a (by decide), zw_a (by decide), zw_a (by decide), zw_a (by decide), zw_a (by decide), zw_a (by decide)]
    have r6o : ∀ a i, 0 ≤ a → a < (n : Int) → 0 ≤ i → i < 40 → Y.1 106 (40 * a + i) = Z.1 106 (40 * a + i) := fun a i a0 a1 i0 i1 => by
      rw [r6, if_neg (fun q => by omega)]
    have r6n : ∀ i : Int, 0 ≤ i → i < (bmL σ Z x).length → Y.1 106 (40 * (n : Int) + i) = (bmL σ Z x).getD i.toNat 0 := fun i i0 i1 => by
      rw [r6, if_pos ⟨by omega, by omega⟩, show 40 * (n : Int) + i - 40 * (n : Int) = i by omega]
    have y99 : ∀ j, j ≠ x → Y.1 99 j = Z.1 99 j := fun j hj => by rw [g99, if_neg hj, w99]
    have x99 : Y.1 99 x = n := by rw [g99, if_pos rfl]
    have rkn : ∀ b, b < (n : Int) → (fun b => if b = (n : Int) then bmMx rk (bmL σ Z x) else rk b) b = rk b := fun b hb => if_neg (by omega)
    have mx : (bmMx rk (bmL σ Z x) : Int) ≤ x / 256 := by
      have := bmMx_le (rk := rk) (r := (x / 256).toNat) (L := bmL σ Z x) fun w hw h => by
        rcases Lw w hw with q | ⟨_, _, q⟩ <;> omega
      omega
    have Lv : ∀ i : Int, 0 ≤ i → i < (bmL σ Z x).length → (0 ≤ Y.1 106 (40 * (n : Int) + i) ∧ Y.1 106 (40 * (n : Int) + i) < 48) ∨ (100 ≤ Y.1 106 (40 * (n : Int) + i) ∧ Y.1 106 (40 * (n : Int) + i) < 100 + (n : Int)) := fun i i0 i1 => by
      rw [r6n i i0 i1]
      rcases Lw _ (Lget i.toNat (by omega)) with q | ⟨q1, q2, _⟩
      · exact Or.inl q
      · exact Or.inr ⟨q1, q2⟩
    refine ⟨fun b => if b = (n : Int) then bmMx rk (bmL σ Z x) else rk b, n + 1, ⟨⟨r49, by omega, fun a a0 a1 => ?_⟩, fun a b a0 ab b1 => ?_, fun a a0 a1 => ?_⟩, ⟨fun y hy => ?_, tags _ Y n w99 w109 w107 hY⟩, by omega, fun b b0 b1 => rkn b b1⟩
    · by_cases e : a = n
      · rw [e, rn.1, rn.2.1, rn.2.2.1, rn.2.2.2.1, rn.2.2.2.2]
        exact ⟨by omega, by omega, fun i i0 i1 => Lv i i0 i1⟩
      · have o := Oa a a0 (by omega)
        rw [r 101 (by decide) a e, r 102 (by decide) a e, r 103 (by decide) a e, r 104 (by decide) a e, r 105 (by decide) a e]
        exact ⟨o.1, o.2.1, fun i i0 i1 => by rw [r6o a i a0 (by omega) i0 (by omega)]; exact o.2.2 i i0 i1⟩
    · intro h
      have ea : a ≠ n := by omega
      by_cases e : b = n
      · rw [e] at h
        unfold bmSm at h
        rw [r 101 (by decide) a ea, r 102 (by decide) a ea, r 103 (by decide) a ea, r 104 (by decide) a ea, r 105 (by decide) a ea, rn.1, rn.2.1, rn.2.2.1, rn.2.2.2.1, rn.2.2.2.2] at h
        refine q2 a a0 (by omega) ⟨h.1, h.2.1, h.2.2.1, h.2.2.2.1, h.2.2.2.2.1, fun i hi => ?_⟩
        have := h.2.2.2.2.2 i (by omega) (by omega)
        rw [r6o a i a0 (by omega) (by omega) (by omega), r6n i (by omega) (by omega), Int.toNat_natCast] at this
        exact this
      · have ob := Oa b (by omega) (by omega)
        unfold bmSm at h
        rw [r 101 (by decide) a ea, r 102 (by decide) a ea, r 103 (by decide) a ea, r 104 (by decide) a ea, r 105 (by decide) a ea, r 101 (by decide) b e, r 102 (by decide) b e, r 103 (by decide) b e, r 104 (by decide) b e, r 105 (by decide) b e] at h
        refine Nd a b a0 ab (by omega) ⟨h.1, h.2.1, h.2.2.1, h.2.2.2.1, h.2.2.2.2.1, fun i i0 i1 => ?_⟩
        have := h.2.2.2.2.2 i i0 i1
        rw [r6o a i a0 (by omega) i0 (by omega), r6o b i (by omega) (by omega) i0 (by omega)] at this
        exact this
    · by_cases e : a = n
      · rw [e]
        dsimp only
        rw [if_pos rfl, rn.2.2.2.2]
        refine ⟨by omega, fun i i0 i1 h => ?_, fun r hr => bmMx_le fun w hw h => ?_⟩
        · have l := Lv i i0 i1
          rw [if_neg (by omega), r6n i i0 i1]
          exact bmMx_gt _ (Lget i.toNat (by omega)) (by rw [← r6n i i0 i1]; exact h)
        · obtain ⟨i, hi, e2⟩ := List.mem_iff_getElem.1 hw
          have := hr i (by omega) (by omega)
          have e3 : (bmL σ Z x).getD i 0 = w := by rw [List.getD_eq_getElem?_getD, List.getElem?_eq_getElem hi]; exact e2
          have l := Lw w hw
          rw [r6n i (by omega) (by omega), Int.toNat_natCast, e3, if_neg (by omega)] at this
          exact this h
      · dsimp only
        have o := Oa a a0 (by omega)
        obtain ⟨k1, k2, k3⟩ := Rk a a0 (by omega)
        rw [if_neg e, r 105 (by decide) a e]
        refine ⟨k1, fun i i0 i1 h => ?_, fun r hr => k3 r fun i i0 i1 h => ?_⟩
        · have oi := o.2.2 i i0 i1
          rw [r6o a i a0 (by omega) i0 (by omega)] at h ⊢
          rw [if_neg (by omega)]
          exact k2 i i0 i1 h
        · have oi := o.2.2 i i0 i1
          have := hr i i0 i1
          rw [r6o a i a0 (by omega) i0 (by omega), if_neg (by omega)] at this
          exact this h
    · rcases List.mem_append.1 hy with hy | hy
      · obtain ⟨p1, p2, p3, p4⟩ := I1.1 y hy
        dsimp only
        rw [y99 y (yx y hy), if_neg (by omega)]
        have ly40 := (bmL_in (Z := Z) hF hT p1.1 p1.2.1 p1.2.2).1
        exact ⟨p1, ⟨p2.1, by omega⟩, p3, (bmSr_m (LV Y y99 y hy) (fun c hc => r c hc _ (by omega)) (fun i i0 i1 => r6o _ i p2.1 p2.2 i0 i1) ly40).2 p4⟩
      · have e := List.mem_singleton.1 hy
        rw [e, x99]
        dsimp only
        rw [if_pos rfl]
        refine ⟨⟨x0, ht, hE⟩, ⟨by omega, by omega⟩, mx, ?_⟩
        have eL := Lx Y y99
        refine ⟨rn.1, rn.2.1, rn.2.2.1, by rw [eL]; exact rn.2.2.2.2, fun _ => rn.2.2.2.1, fun i hi => ?_⟩
        rw [eL] at hi ⊢
        rw [r6n i (by omega) (by omega), Int.toNat_natCast]
  · -- one that is there
    rw [if_pos (show bmFd σ Z x n ≠ -1 by omega)] at hY
    have hY := (Option.some.inj hY).symm
    generalize bmFd σ Z x n = a at *
    obtain ⟨g0, g99, g109, g107, _⟩ := bmTg_e (Z := Z) (x := x) (a := a)
    rw [← hY] at g0 g99 g109 g107
    have y99 : ∀ j, j ≠ x → Y.1 99 j = Z.1 99 j := fun j hj => by rw [g99, if_neg hj]
    have x99 : Y.1 99 x = a := by rw [g99, if_pos rfl]
    have r : ∀ c ∈ [101, 102, 103, 104, 105], ∀ j, Y.1 c j = Z.1 c j := fun c hc j => by
      simp only [List.mem_cons, List.not_mem_nil, or_false] at hc
      exact g0 c (by omega) (by omega) (by omega) j
    have r6 : ∀ j, Y.1 106 j = Z.1 106 j := g0 106 (by decide) (by decide) (by decide)
    refine ⟨rk, n, ⟨⟨by rw [g0 49 (by decide) (by decide) (by decide)]; exact c49, n120, fun b b0 b1 => ?_⟩, fun b c b0 bc c1 => ?_, fun b b0 b1 => ?_⟩, ⟨fun y hy => ?_, tags Z Y a (fun _ => rfl) (fun j => ?_) (fun _ => rfl) hY⟩, Nat.le_refl _, fun _ _ _ => rfl⟩
    · simp only [r 101 (by decide), r 102 (by decide), r 103 (by decide), r 104 (by decide), r 105 (by decide), r6]
      exact Oa b b0 b1
    · unfold bmSm
      simp only [r 101 (by decide), r 102 (by decide), r 103 (by decide), r 104 (by decide), r 105 (by decide), r6]
      exact Nd b c b0 bc c1
    · simp only [r 105 (by decide), r6]
      exact Rk b b0 b1
    · rcases List.mem_append.1 hy with hy | hy
      · obtain ⟨p1, p2, p3, p4⟩ := I1.1 y hy
        rw [y99 y (yx y hy)]
        have ly40 := (bmL_in (Z := Z) hF hT p1.1 p1.2.1 p1.2.2).1
        exact ⟨p1, p2, p3, (bmSr_m (LV Y y99 y hy) (fun c hc => r c hc _) (fun i i0 i1 => r6 _) ly40).2 p4⟩
      · have e := List.mem_singleton.1 hy
        rw [e, x99]
        refine ⟨⟨x0, ht, hE⟩, q, ?_, (bmSr_m (Lx Y y99) (fun c hc => r c hc _) (fun i i0 i1 => r6 _) L40).2 q2⟩
        have := (Rk a q.1 q.2).2.2 (x / 256).toNat fun i i0 i1 h => by
          have e5 := q2.2.2.2.1
          have e6 := q2.2.2.2.2.2 i.toNat (by omega)
          rw [show ((i.toNat : Nat) : Int) = i by omega] at e6
          rw [e6] at h ⊢
          rcases Lw _ (Lget i.toNat (by omega)) with w | ⟨_, _, w⟩ <;> omega
        omega
    · by_cases e : j = a ∧ ¬ ∃ y ∈ V, Z.1 99 y = a
      · rw [if_pos e, e.1]
        exact Classical.byContradiction fun w => e.2 ((I1.2 a).2.1.1 w)
      · rw [if_neg e]
end

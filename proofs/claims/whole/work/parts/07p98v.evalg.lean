/-! RULES' EVALUATION, 16: class and reference at the same step -/
def bThg (v k w : Int) : Prop := v = -1 ∧ k = 0 ∨ (0 ≤ v ∧ v < 1000) ∧ k = 1 ∧ w = v ∨ 1000 ≤ v ∧ k = 2 ∧ w = v - 1000
/-- the reference's statements are those of u -/
def bEvB (u r : bSt) : Prop := ∀ x, 0 ≤ x → x < 6 → bi r 58 x = bi u 34 x ∧ ∀ i, 0 ≤ i → i < bi u 34 x → bi r 59 (4 * (12 * x + i)) = bi u 35 (x * 12 + i) ∧ bi r 59 (4 * (12 * x + i) + 1) = bi u 36 (x * 12 + i) ∧ bi r 59 (4 * (12 * x + i) + 2) = bi u 37 (x * 12 + i) ∧ bi r 59 (4 * (12 * x + i) + 3) = bi u 38 (x * 12 + i)
def bEvR (u r : bSt) : Prop := (∀ x, 0 ≤ x → x < 6 → bi r 65 x = bi u 40 x ∧ (bi u 40 x ≠ 0 → bi r 66 x = bi u 41 x ∧ ∀ y, 0 ≤ y → y < 8 → bThg (bi u 39 (x * 8 + y)) (bi r 60 (8 * x + y)) (bi r 61 (8 * x + y)))) ∧ bi r 12 7 = bi u 7 12 ∧
  (∀ l, 0 ≤ l → l < bi u 7 12 → bi r 62 l = bi u 44 l ∧ bi r 63 l = bi u 43 l ∧ ∀ k, 0 ≤ k → k < bi u 43 l → bi r 64 (8 * l + k) = bi u 45 (l * 8 + k)) ∧ ∀ i, 0 ≤ i → i < bi u 7 13 → bi r 69 i = bi u 42 i
section
variable {s t u r r' : bSt} {f x y k n m p v w o j l : Int}
theorem bi_cg {a b : Nat} {i j v : Int} {X Y : bSt} (h : bi Y b j = bi X b j) : bi (bw Y a i v) b j = bi (bw X a i v) b j := by
  show (bU Y.1 a i.toNat (bn v) b j.toNat).toInt = (bU X.1 a i.toNat (bn v) b j.toNat).toInt
  unfold bU
  by_cases w : b = a ∧ j.toNat = i.toNat
  · rw [if_pos w, if_pos w]
  · rw [if_neg w, if_neg w]
    exact h
theorem bEvR_14 (h : bEvR u r) : bEvR (bw u 7 14 v) r := by
  obtain ⟨h1, h2, h3, h4⟩ := h
  have ne : ∀ b, b ≠ 7 → ∀ j, bi (bw u 7 14 v) b j = bi u b j := fun b w j => bi_ne w
  have e12 : bi (bw u 7 14 v) 7 12 = bi u 7 12 := bi_nj (by decide) (by decide) (by decide)
  have e13 : bi (bw u 7 14 v) 7 13 = bi u 7 13 := bi_nj (by decide) (by decide) (by decide)
  unfold bEvR
  simp only [ne 39 (by decide), ne 40 (by decide), ne 41 (by decide), ne 42 (by decide), ne 43 (by decide), ne 44 (by decide), ne 45 (by decide), e12, e13]
  exact ⟨h1, h2, h3, h4⟩
theorem bEvR_41 (h : bEvR u r) (f0 : 0 ≤ f) (hv : bRg v) : bEvR (bw u 41 f v) (bw r 66 f v) := by
  obtain ⟨h1, h2, h3, h4⟩ := h
  have ne : ∀ b, b ≠ 41 → ∀ j, bi (bw u 41 f v) b j = bi u b j := fun b w j => bi_ne w
  have nr : ∀ b, b ≠ 66 → ∀ j, bi (bw r 66 f v) b j = bi r b j := fun b w j => bi_ne w
  refine ⟨fun x x0 x1 => ?_, ?_, ?_, ?_⟩
  · simp only [ne 40 (by decide), ne 39 (by decide), nr 65 (by decide), nr 60 (by decide), nr 61 (by decide)]
    refine ⟨(h1 x x0 x1).1, fun z => ⟨?_, ((h1 x x0 x1).2 z).2⟩⟩
    rw [bi_bw f0 x0 hv, bi_bw f0 x0 hv, ((h1 x x0 x1).2 z).1]
    simp only [true_and]
  · rw [nr 12 (by decide), ne 7 (by decide)]; exact h2
  · simp only [ne 7 (by decide), ne 44 (by decide), ne 43 (by decide), ne 45 (by decide), nr 62 (by decide), nr 63 (by decide), nr 64 (by decide)]
    exact h3
  · simp only [ne 7 (by decide), ne 42 (by decide), nr 69 (by decide)]
    exact h4
theorem bEvR_39 (h : bEvR u r) (hf : 0 ≤ f ∧ f < 6) (hy : 0 ≤ y ∧ y < 8) (hv : bRg v) (hr : ∀ b, b ≠ 60 → b ≠ 61 → ∀ j, bi r' b j = bi r b j) (h6 : ∀ j, 0 ≤ j → j ≠ 8 * f + y → bi r' 60 j = bi r 60 j ∧ bi r' 61 j = bi r 61 j) (ht : bThg v (bi r' 60 (8 * f + y)) (bi r' 61 (8 * f + y))) : bEvR (bw u 39 (f * 8 + y) v) r' := by
  obtain ⟨h1, h2, h3, h4⟩ := h
  have ne : ∀ b, b ≠ 39 → ∀ j, bi (bw u 39 (f * 8 + y) v) b j = bi u b j := fun b w j => bi_ne w
  refine ⟨fun x x0 x1 => ?_, ?_, ?_, ?_⟩
  · simp only [ne 40 (by decide), ne 41 (by decide), hr 65 (by decide) (by decide), hr 66 (by decide) (by decide)]
    refine ⟨(h1 x x0 x1).1, fun z => ⟨((h1 x x0 x1).2 z).1, fun q q0 q1 => ?_⟩⟩
    rw [bi_bw (by omega) (by omega) hv]
    by_cases w : x * 8 + q = f * 8 + y
    · rw [if_pos ⟨rfl, w⟩, show 8 * x + q = 8 * f + y by omega]
      exact ht
    · rw [if_neg (fun e => w e.2), (h6 (8 * x + q) (by omega) (by omega)).1, (h6 (8 * x + q) (by omega) (by omega)).2]
      exact ((h1 x x0 x1).2 z).2 q q0 q1
  · rw [hr 12 (by decide) (by decide), ne 7 (by decide)]; exact h2
  · simp only [ne 7 (by decide), ne 44 (by decide), ne 43 (by decide), ne 45 (by decide), hr 62 (by decide) (by decide), hr 63 (by decide) (by decide), hr 64 (by decide) (by decide)]
    exact h3
  · simp only [ne 7 (by decide), ne 42 (by decide), hr 69 (by decide) (by decide)]
    exact h4
theorem bEvR_gv (h : bEvR u r) (hf : 0 ≤ f ∧ f < 6) (hy : 0 ≤ y ∧ y < 8) (hv : bRg v) (hk : bRg k) (hw : bRg w) (ht : bThg v k w) : bEvR (bw u 39 (f * 8 + y) v) (bw (bw r 60 (8 * f + y) k) 61 (8 * f + y) w) := by
  refine bEvR_39 h hf hy hv (fun b b0 b1 j => by rw [bi_ne b1, bi_ne b0]) (fun j j0 j1 => ⟨?_, ?_⟩) ?_
  · rw [bi_ne (by decide), bi_nj (by omega) j0 j1]
  · rw [bi_nj (by omega) j0 j1, bi_ne (by decide)]
  · rw [bi_eq hw, bi_ne (by decide), bi_eq hk]
    exact ht
theorem bEvR_mk (h : bEvR u r) (hl : 0 ≤ bi u 7 12 ∧ bi u 7 12 < 72) (hf : bRg f) : bEvR (bw (bw (bw u 44 (bi u 7 12) f) 43 (bi u 7 12) 0) 7 12 (bi u 7 12 + 1)) (bw (bw (bw r 62 (bi u 7 12) f) 63 (bi u 7 12) 0) 12 7 (bi u 7 12 + 1)) := by
  obtain ⟨h1, h2, h3, h4⟩ := h
  generalize hd : bi u 7 12 = l at *
  generalize hs : bw (bw (bw u 44 l f) 43 l 0) 7 12 (l + 1) = s'
  generalize ht : bw (bw (bw r 62 l f) 63 l 0) 12 7 (l + 1) = r'
  have ne : ∀ b, b ≠ 44 → b ≠ 43 → b ≠ 7 → ∀ j, bi s' b j = bi u b j := fun b w1 w2 w3 j => by rw [← hs, bi_ne w3, bi_ne w2, bi_ne w1]
  have nr : ∀ b, b ≠ 62 → b ≠ 63 → b ≠ 12 → ∀ j, bi r' b j = bi r b j := fun b w1 w2 w3 j => by rw [← ht, bi_ne w3, bi_ne w2, bi_ne w1]
  have e12 : bi s' 7 12 = l + 1 := by rw [← hs]; exact bi_eq ⟨by omega, by omega⟩
  have e13 : bi s' 7 13 = bi u 7 13 := by rw [← hs, bi_nj (by decide) (by decide) (by decide), bi_ne (by decide), bi_ne (by decide)]
  have f12 : bi r' 12 7 = l + 1 := by rw [← ht]; exact bi_eq ⟨by omega, by omega⟩
  have e43 : ∀ k, 0 ≤ k → bi s' 43 k = if k = l then 0 else bi u 43 k := fun k k0 => by
    rw [← hs, bi_ne (by decide), bi_bw hl.1 k0 (by decide), bi_ne (by decide)]; simp only [true_and]
  have e44 : ∀ k, 0 ≤ k → bi s' 44 k = if k = l then f else bi u 44 k := fun k k0 => by
    rw [← hs, bi_ne (by decide), bi_ne (by decide), bi_bw hl.1 k0 hf]; simp only [true_and]
  have e63 : ∀ k, 0 ≤ k → bi r' 63 k = if k = l then 0 else bi r 63 k := fun k k0 => by
    rw [← ht, bi_ne (by decide), bi_bw hl.1 k0 (by decide), bi_ne (by decide)]; simp only [true_and]
  have e62 : ∀ k, 0 ≤ k → bi r' 62 k = if k = l then f else bi r 62 k := fun k k0 => by
    rw [← ht, bi_ne (by decide), bi_ne (by decide), bi_bw hl.1 k0 hf]; simp only [true_and]
  refine ⟨fun x x0 x1 => ?_, by rw [e12, f12], fun q q0 q1 => ?_, ?_⟩
  · simp only [ne 40 (by decide) (by decide) (by decide), ne 41 (by decide) (by decide) (by decide), ne 39 (by decide) (by decide) (by decide), nr 65 (by decide) (by decide) (by decide), nr 66 (by decide) (by decide) (by decide), nr 60 (by decide) (by decide) (by decide), nr 61 (by decide) (by decide) (by decide)]
    exact h1 x x0 x1
  · rw [e12] at q1
    simp only [ne 45 (by decide) (by decide) (by decide), nr 64 (by decide) (by decide) (by decide)]
    rw [e62 q q0, e44 q q0, e63 q q0, e43 q q0]
    by_cases w : q = l
    · rw [if_pos w, if_pos w, if_pos w, if_pos w]
      exact ⟨rfl, rfl, fun k k0 k1 => by omega⟩
    · rw [if_neg w, if_neg w, if_neg w, if_neg w]
      exact h3 q q0 (by omega)
  · rw [e13]
    simp only [ne 42 (by decide) (by decide) (by decide), nr 69 (by decide) (by decide) (by decide)]
    exact h4
theorem bEvR_ps {z : Int} (h : bEvR u r) (l0 : 0 ≤ l) (hz : bi u 43 l = z) (z0 : 0 ≤ z ∧ z < 8) (hl : ∀ q, 0 ≤ q → q < bi u 7 12 → 0 ≤ bi u 43 q ∧ bi u 43 q ≤ 8) (hv : bRg v) (hL : bi u 7 12 ≤ 72) (hl1 : l < 72) : bEvR (bw (bw u 45 (l * 8 + z) v) 43 l (z + 1)) (bw (bw r 64 (8 * l + z) v) 63 l (z + 1)) := by
  obtain ⟨h1, h2, h3, h4⟩ := h
  generalize hs : bw (bw u 45 (l * 8 + z) v) 43 l (z + 1) = s'
  generalize ht : bw (bw r 64 (8 * l + z) v) 63 l (z + 1) = r'
  have ne : ∀ b, b ≠ 45 → b ≠ 43 → ∀ j, bi s' b j = bi u b j := fun b w1 w2 j => by rw [← hs, bi_ne w2, bi_ne w1]
  have nr : ∀ b, b ≠ 64 → b ≠ 63 → ∀ j, bi r' b j = bi r b j := fun b w1 w2 j => by rw [← ht, bi_ne w2, bi_ne w1]
  have e43 : ∀ k, 0 ≤ k → bi s' 43 k = if k = l then z + 1 else bi u 43 k := fun k k0 => by
    rw [← hs, bi_bw l0 k0 ⟨by omega, by omega⟩, bi_ne (by decide)]; simp only [true_and]
  have e63 : ∀ k, 0 ≤ k → bi r' 63 k = if k = l then z + 1 else bi r 63 k := fun k k0 => by
    rw [← ht, bi_bw l0 k0 ⟨by omega, by omega⟩, bi_ne (by decide)]; simp only [true_and]
  have e45 : ∀ k, 0 ≤ k → bi s' 45 k = if k = l * 8 + z then v else bi u 45 k := fun k k0 => by
    rw [← hs, bi_ne (by decide), bi_bw (by omega) k0 hv]; simp only [true_and]
  have e64 : ∀ k, 0 ≤ k → bi r' 64 k = if k = 8 * l + z then v else bi r 64 k := fun k k0 => by
    rw [← ht, bi_ne (by decide), bi_bw (by omega) k0 hv]; simp only [true_and]
  refine ⟨fun x x0 x1 => ?_, ?_, fun q q0 q1 => ?_, ?_⟩
  · simp only [ne 40 (by decide) (by decide), ne 41 (by decide) (by decide), ne 39 (by decide) (by decide), nr 65 (by decide) (by decide), nr 66 (by decide) (by decide), nr 60 (by decide) (by decide), nr 61 (by decide) (by decide)]
    exact h1 x x0 x1
  · rw [ne 7 (by decide) (by decide), nr 12 (by decide) (by decide)]; exact h2
  · rw [ne 7 (by decide) (by decide)] at q1
    obtain ⟨g1, g2, g3⟩ := h3 q q0 q1
    have b8 := hl q q0 q1
    rw [ne 44 (by decide) (by decide), nr 62 (by decide) (by decide), e43 q q0, e63 q q0]
    refine ⟨g1, ?_, fun k k0 k1 => ?_⟩
    · by_cases w : q = l
      · rw [if_pos w, if_pos w]
      · rw [if_neg w, if_neg w]; exact g2
    · rw [e64 _ (by omega), e45 _ (by omega)]
      by_cases w : q = l
      · rw [if_pos w] at k1
        by_cases w2 : k = z
        · rw [if_pos (by omega), if_pos (by omega)]
        · rw [if_neg (by omega), if_neg (by omega)]
          exact g3 k k0 (by rw [w, hz]; omega)
      · rw [if_neg w] at k1
        rw [if_neg (by omega), if_neg (by omega)]
        exact g3 k k0 k1
  · rw [ne 7 (by decide) (by decide)]
    simp only [ne 42 (by decide) (by decide), nr 69 (by decide) (by decide)]
    exact h4
theorem bEvR_ent (h : bEvR u r) (ho : 0 ≤ o ∧ o < 6) (hd : 0 ≤ bi u 7 13 ∧ bi u 7 13 < 6) (fr : bi u 41 o = 0 ∧ ∀ y, 0 ≤ y → y < 8 → bi u 39 (o * 8 + y) = -1) (ht : bFl 60 (8 * o) (8 * o + 8) 0 (bw (bw (bw r 69 (bi u 7 13) o) 65 o 1) 66 o 0) r') : bEvR (bEvEnt u o) r' := by
  obtain ⟨h1, h2, h3, h4⟩ := h
  obtain ⟨t1, t2, t3⟩ := ht
  unfold bEvEnt
  generalize hdd : bi u 7 13 = d at *
  generalize hs : bw (bw (bw u 40 o 1) 42 d o) 7 13 (d + 1) = s'
  have ne : ∀ b, b ≠ 40 → b ≠ 42 → b ≠ 7 → ∀ j, bi s' b j = bi u b j := fun b w1 w2 w3 j => by rw [← hs, bi_ne w3, bi_ne w2, bi_ne w1]
  have nr : ∀ b, b ≠ 60 → b ≠ 66 → b ≠ 65 → b ≠ 69 → ∀ j, bi r' b j = bi r b j := fun b w0 w1 w2 w3 j => by rw [t2 b j w0, bi_ne w1, bi_ne w2, bi_ne w3]
  have e13 : bi s' 7 13 = d + 1 := by rw [← hs]; exact bi_eq ⟨by omega, by omega⟩
  have e12 : bi s' 7 12 = bi u 7 12 := by rw [← hs, bi_nj (by decide) (by decide) (by decide), bi_ne (by decide), bi_ne (by decide)]
  have e40 : ∀ j, 0 ≤ j → bi s' 40 j = if j = o then 1 else bi u 40 j := fun j j0 => by
    rw [← hs, bi_ne (by decide), bi_ne (by decide), bi_bw ho.1 j0 (by decide)]; simp only [true_and]
  have e42 : ∀ j, 0 ≤ j → bi s' 42 j = if j = d then o else bi u 42 j := fun j j0 => by
    rw [← hs, bi_ne (by decide), bi_bw hd.1 j0 ⟨by omega, by omega⟩, bi_ne (by decide)]; simp only [true_and]
  have e65 : ∀ j, 0 ≤ j → bi r' 65 j = if j = o then 1 else bi r 65 j := fun j j0 => by
    rw [t2 65 j (by decide), bi_ne (by decide), bi_bw ho.1 j0 (by decide), bi_ne (by decide)]; simp only [true_and]
  have e66 : ∀ j, 0 ≤ j → bi r' 66 j = if j = o then 0 else bi r 66 j := fun j j0 => by
    rw [t2 66 j (by decide), bi_bw ho.1 j0 (by decide), bi_ne (by decide), bi_ne (by decide)]; simp only [true_and]
  have e69 : ∀ j, 0 ≤ j → bi r' 69 j = if j = d then o else bi r 69 j := fun j j0 => by
    rw [t2 69 j (by decide), bi_ne (by decide), bi_ne (by decide), bi_bw hd.1 j0 ⟨by omega, by omega⟩]; simp only [true_and]
  have e60 : ∀ j, 0 ≤ j → bi r' 60 j = if 8 * o ≤ j ∧ j < 8 * o + 8 then 0 else bi r 60 j := fun j j0 => by
    rw [t3 j j0, bi_ne (by decide), bi_ne (by decide), bi_ne (by decide)]
  refine ⟨fun x x0 x1 => ?_, ?_, ?_, fun i i0 i1 => ?_⟩
  · rw [e65 x x0, e40 x x0]
    simp only [ne 41 (by decide) (by decide) (by decide), ne 39 (by decide) (by decide) (by decide), nr 61 (by decide) (by decide) (by decide) (by decide)]
    rw [e66 x x0]
    by_cases w : x = o
    · rw [if_pos w, if_pos w, if_pos w]
      refine ⟨rfl, fun _ => ⟨by rw [w]; exact fr.1.symm, fun y y0 y1 => ?_⟩⟩
      rw [e60 _ (by omega), if_pos (by omega), w, fr.2 y y0 y1]
      exact Or.inl ⟨rfl, rfl⟩
    · rw [if_neg w, if_neg w, if_neg w]
      refine ⟨(h1 x x0 x1).1, fun z => ⟨((h1 x x0 x1).2 z).1, fun y y0 y1 => ?_⟩⟩
      rw [e60 _ (by omega), if_neg (by omega)]
      exact ((h1 x x0 x1).2 z).2 y y0 y1
  · rw [nr 12 (by decide) (by decide) (by decide) (by decide), e12]; exact h2
  · simp only [e12, ne 43 (by decide) (by decide) (by decide), ne 44 (by decide) (by decide) (by decide), ne 45 (by decide) (by decide) (by decide), nr 62 (by decide) (by decide) (by decide) (by decide), nr 63 (by decide) (by decide) (by decide) (by decide), nr 64 (by decide) (by decide) (by decide) (by decide)]
    exact h3
  · rw [e13] at i1
    rw [e69 i i0, e42 i i0]
    by_cases w : i = d
    · rw [if_pos w, if_pos w]
    · rw [if_neg w, if_neg w]; exact h4 i i0 (by omega)
theorem bEvR_pop (h : bEvR u r) (f0 : 0 ≤ f) (hm : bi u 40 f ≠ 0) (hd : 0 < bi u 7 13) : bEvR (bw (bw u 40 f 2) 7 13 (bi u 7 13 - 1)) (bw r 65 f 2) := by
  obtain ⟨h1, h2, h3, h4⟩ := h
  have dr : bRg (bi u 7 13) := bi_rg _ _ _
  generalize hdd : bi u 7 13 = d at *
  generalize hs : bw (bw u 40 f 2) 7 13 (d - 1) = s'
  have ne : ∀ b, b ≠ 40 → b ≠ 7 → ∀ j, bi s' b j = bi u b j := fun b w1 w3 j => by rw [← hs, bi_ne w3, bi_ne w1]
  have nr : ∀ b, b ≠ 65 → ∀ j, bi (bw r 65 f 2) b j = bi r b j := fun b w j => bi_ne w
  have e13 : bi s' 7 13 = d - 1 := by rw [← hs]; exact bi_eq ⟨by omega, by omega⟩
  have e12 : bi s' 7 12 = bi u 7 12 := by rw [← hs, bi_nj (by decide) (by decide) (by decide), bi_ne (by decide)]
  have e40 : ∀ j, 0 ≤ j → bi s' 40 j = if j = f then 2 else bi u 40 j := fun j j0 => by
    rw [← hs, bi_ne (by decide), bi_bw f0 j0 (by decide)]; simp only [true_and]
  refine ⟨fun x x0 x1 => ?_, ?_, ?_, ?_⟩
  · rw [e40 x x0, bi_bw f0 x0 (by decide)]
    simp only [ne 41 (by decide) (by decide), ne 39 (by decide) (by decide), nr 66 (by decide), nr 60 (by decide), nr 61 (by decide), true_and]
    by_cases w : x = f
    · rw [if_pos w, if_pos w]
      exact ⟨rfl, fun _ => (h1 x x0 x1).2 (by rw [w]; exact hm)⟩
    · rw [if_neg w, if_neg w]
      exact h1 x x0 x1
  · rw [nr 12 (by decide), e12]; exact h2
  · simp only [e12, ne 43 (by decide) (by decide), ne 44 (by decide) (by decide), ne 45 (by decide) (by decide), nr 62 (by decide), nr 63 (by decide), nr 64 (by decide)]
    exact h3
  · rw [e13]
    simp only [ne 42 (by decide) (by decide), nr 69 (by decide)]
    exact fun i i0 i1 => h4 i i0 (by omega)
end

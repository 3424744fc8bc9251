/-! BUILD, 11: what holds while time passes -/
/-- only the arrays S have changed -/
def zU (S : List Nat) (Z Y : bZs) : Prop := ∀ c, c ∉ S → ∀ j, Y.1 c j = Z.1 c j
/-- how many of n actions have begun, have ended -/
def bzNb (n : Nat) (Z : bZs) : Int := bCnp (fun a => decide (Z.1 143 a ≠ -1)) n
def bzNe (n : Nat) (Z : bZs) : Int := bCnp (fun a => decide (Z.1 142 a ≠ -1)) n
def bzJ1 (σ : bSt) (n : Nat) (Z : bZs) : Prop := ∀ a, 0 ≤ a → a < (n : Int) → (-1 ≤ Z.1 142 a ∧ Z.1 142 a ≤ 7) ∧ (Z.1 142 a ≠ -1 → Z.1 143 a ≠ -1) ∧ (Z.1 143 a ≠ -1 → Z.1 140 a ≠ 0 ∧ bzIn Z a (Z.1 105 a).toNat = true) ∧ (bzD Z a → Z.2.2.2 a = some (bzK σ Z a))
def bzJ2 (σ : bSt) (n : Nat) (Z : bZs) : Prop := ∀ a, 0 ≤ a → a < (n : Int) → (Z.1 147 a = 0 ∨ Z.1 147 a = 1) ∧ (-1 ≤ Z.1 148 a ∧ Z.1 148 a < 12) ∧ (Z.1 143 a = -1 → Z.1 145 a = -1 ∧ Z.1 146 a = -1 ∧ Z.1 147 a = 0 ∧ Z.1 148 a = -1) ∧ (Z.1 147 a ≠ 0 → Z.1 145 a = -1 ∧ Z.1 148 a = -1 ∧ (bzG Z a → bzV σ Z a ≠ -1)) ∧ (bzG Z a → Z.1 145 a ≠ -1 → Z.1 148 a ≠ -1) ∧ (-1 ≤ Z.1 145 a ∧ Z.1 145 a ≤ 2500 * bzNb n Z) ∧ (-1 ≤ Z.1 146 a ∧ Z.1 146 a ≤ 2500 * bzNb n Z) ∧ (bzG Z a → Z.1 145 a ≠ -1 ∨ Z.1 146 a ≠ -1) ∧ -1 ≤ Z.1 143 a ∧ Z.1 143 a ≤ 2500 * bzNb n Z
def bzJc (m : Nat) (L : List bKy) : Prop := L.Nodup ∧ L.length ≤ m ∧ ∀ K ∈ L, bKg K
def bzJ4 (n : Nat) (Z : bZs) : Prop := (0 ≤ Z.1 305 0 ∧ Z.1 305 0 ≤ 2500 * bzNb n Z) ∧ (Z.1 306 0 = 0 ∨ Z.1 306 0 = 1) ∧ (-1 ≤ Z.1 395 0 ∧ Z.1 395 0 < (n : Int)) ∧ (∀ w, 0 ≤ w → w < 12 → (-1 ≤ Z.1 137 w ∧ Z.1 137 w < 1000) ∧ (Z.1 138 w = 0 ∨ Z.1 138 w = 1)) ∧ (∀ x, 0 ≤ x → x < 1000 → (Z.1 134 x = 0 ∨ Z.1 134 x = 1) ∧ (Z.1 135 x = 0 ∨ Z.1 135 x = 1)) ∧ (0 ≤ Z.1 139 9 ∧ 0 ≤ Z.1 139 10 ∧ Z.1 139 9 + Z.1 139 10 ≤ 120 * bzNb n Z) ∧ 0 ≤ Z.1 139 11 ∧ Z.1 139 11 ≤ bzNe n Z ∧ ∀ x, x ≠ 9 → x ≠ 10 → x ≠ 11 → Z.1 139 x = 0
def bzI (σ : bSt) (n : Nat) (Z : bZs) : Prop := bzO σ n Z ∧ bzIk n Z ∧ bzJ1 σ n Z ∧ bzJ2 σ n Z ∧ (bzJc 24 Z.2.1 ∧ bzJc 40 Z.2.2.1) ∧ bzJ4 n Z
section
variable {σ : bSt} {Z Y X : bZs} {a b i v g : Int} {c n m : Nat} {S T : List Nat} {K : bKy} {L : List bKy}
theorem zU_refl : zU S Z Z := fun _ _ _ => rfl
theorem zU_trans (h : zU S Z Y) (k : zU S Y X) : zU S Z X := fun c hc j => (k c hc j).trans (h c hc j)
theorem zU_mono (h : zU S Z Y) (k : ∀ c ∈ S, c ∈ T) : zU T Z Y := fun c hc j => h c (fun w => hc (k c w)) j
theorem zU_w (hc : c ∈ S) : zU S Z (zw Z c i v) := fun c' hc' j => zw_a (fun e => hc' (e ▸ hc))
theorem bzNb_b : 0 ≤ bzNb n Z ∧ bzNb n Z ≤ n := bCn_b n
theorem bzNe_b : 0 ≤ bzNe n Z ∧ bzNe n Z ≤ n := bCn_b n
theorem bzNb_m (h : ∀ a, 0 ≤ a → a < (n : Int) → Y.1 143 a = Z.1 143 a) : bzNb n Y = bzNb n Z := bCn_x n fun k k0 k1 => by rw [h k k0 k1]
theorem bzNe_m (h : ∀ a, 0 ≤ a → a < (n : Int) → Y.1 142 a = Z.1 142 a) : bzNe n Y = bzNe n Z := bCn_x n fun k k0 k1 => by rw [h k k0 k1]
theorem bzNb_1 (a0 : 0 ≤ a) (a1 : a < (n : Int)) (h : ∀ b, b ≠ a → Y.1 143 b = Z.1 143 b) (hz : Z.1 143 a = -1) (hy : Y.1 143 a ≠ -1) : bzNb n Y = bzNb n Z + 1 :=
  bCn_a n a0 a1 (fun k _ _ kn => by rw [h k kn]) (decide_eq_false fun q => q hz) (decide_eq_true hy)
theorem bzNe_1 (a0 : 0 ≤ a) (a1 : a < (n : Int)) (h : ∀ b, b ≠ a → Y.1 142 b = Z.1 142 b) (hz : Z.1 142 a = -1) (hy : Y.1 142 a ≠ -1) : bzNe n Y = bzNe n Z + 1 :=
  bCn_a n a0 a1 (fun k _ _ kn => by rw [h k kn]) (decide_eq_false fun q => q hz) (decide_eq_true hy)
/-- inputs that are done -/
theorem bzIn_at : ∀ (m : Nat), bzIn Z a m = true ↔ ∀ i, 0 ≤ i → i < (m : Int) → Z.1 106 (40 * a + i) < 48 ∨ bzD Z (Z.1 106 (40 * a + i) - 100)
  | 0 => ⟨fun _ i i0 i1 => by omega, fun _ => rfl⟩
  | m + 1 => by
    have u : bzIn Z a (m + 1) = (bzIn Z a m && decide (Z.1 106 (40 * a + m) < 48 ∨ bzD Z (Z.1 106 (40 * a + m) - 100))) := rfl
    rw [u, Bool.and_eq_true, bzIn_at m, decide_eq_true_eq]
    constructor
    · rintro ⟨h1, h2⟩ i i0 i1
      by_cases e : i = m
      · rw [e]; exact h2
      · exact h1 i i0 (by omega)
    · intro h
      exact ⟨fun i i0 i1 => h i i0 (by omega), h m (by omega) (by omega)⟩
/-- contents, and what comes of them, are as they were -/
theorem bzC_m (e : ∀ i, 0 ≤ i → i < Z.1 105 b → Y.1 106 (40 * b + i) = Z.1 106 (40 * b + i) ∧ (Z.1 106 (40 * b + i) < 100 ∨ Y.1 112 (Z.1 106 (40 * b + i) - 100) = Z.1 112 (Z.1 106 (40 * b + i) - 100))) (i0 : 0 ≤ i) (i1 : i < Z.1 105 b) : bzC σ Y b i = bzC σ Z b i := by
  obtain ⟨e1, e2⟩ := e i i0 i1
  unfold bzC
  rw [e1]
  by_cases z : Z.1 106 (40 * b + i) < 100
  · rw [if_pos z, if_pos z]
  · rw [if_neg z, if_neg z]
    exact e2.resolve_left z
theorem bzK_m (e5 : ∀ c ∈ [101, 102, 103, 104, 105], Y.1 c b = Z.1 c b) (e : ∀ i, 0 ≤ i → i < Z.1 105 b → Y.1 106 (40 * b + i) = Z.1 106 (40 * b + i) ∧ (Z.1 106 (40 * b + i) < 100 ∨ Y.1 112 (Z.1 106 (40 * b + i) - 100) = Z.1 112 (Z.1 106 (40 * b + i) - 100))) : bzK σ Y b = bzK σ Z b ∧ bzV σ Y b = bzV σ Z b ∧ bzX σ Y b = bzX σ Z b ∧ bzF σ Y b = bzF σ Z b := by
  have cc : ∀ i : Nat, i < (Z.1 105 b).toNat → bzC σ Y b i = bzC σ Z b i := fun i hi => bzC_m e (by omega) (by omega)
  have hL : bzL σ Y b = bzL σ Z b := by
    unfold bzL
    rw [e5 105 (by decide)]
    exact List.map_congr_left fun k hk => cc k (List.mem_range.1 hk)
  have lk : (bLka σ (Z.1 104 b) (bzC σ Y b) (Z.1 105 b).toNat).1 = (bLka σ (Z.1 104 b) (bzC σ Z b) (Z.1 105 b).toNat).1 := by
    rw [bLkaS_e, bLkaS_e]
    exact bLkaS_x _ cc
  have hF : bzF σ Y b = bzF σ Z b := by
    unfold bzF bFnn
    rw [e5 101 (by decide), e5 104 (by decide), e5 105 (by decide), lk]
  have lk2 : ∀ m : Nat, m ≤ (Z.1 105 b).toNat → bLka σ (Z.1 104 b) (bzC σ Y b) m = bLka σ (Z.1 104 b) (bzC σ Z b) m := fun m => by
    induction m with
    | zero => intro _; rfl
    | succ m ih =>
      intro hm
      show ((bFol σ (Z.1 104 b) 48 (bzC σ Y b m) (bLka σ (Z.1 104 b) (bzC σ Y b) m).1).1, (bLka σ (Z.1 104 b) (bzC σ Y b) m).2 + (bFol σ (Z.1 104 b) 48 (bzC σ Y b m) (bLka σ (Z.1 104 b) (bzC σ Y b) m).1).2) = _
      rw [ih (by omega), cc m (by omega)]
      rfl
  refine ⟨?_, ?_, ?_, hF⟩
  · unfold bzK
    rw [e5 101 (by decide), e5 102 (by decide), e5 103 (by decide), hL, hF]
  · unfold bzV bGiv
    rw [e5 101 (by decide), e5 102 (by decide), e5 103 (by decide), e5 104 (by decide), e5 105 (by decide), bAcc_x _ cc, bGrt_x _ cc, lk2 _ (Nat.le_refl _)]
  · unfold bzX
    rw [hF, e5 104 (by decide)]
theorem bzPut_c (h : bzJc m L) (hm : 0 < m) (hK : bKg K) : bzJc m (bzPut m L K) := by
  obtain ⟨h1, h2, h3⟩ := h
  have rmK : K ∉ bzRm L K := fun q => by
    have := (List.mem_filter.1 q).2
    simp at this
  have rmS : (bzRm L K).Sublist L := List.filter_sublist
  unfold bzPut
  by_cases z : K ∉ L ∧ L.length = m
  · rw [if_pos z]
    refine ⟨?_, ?_, fun y hy => ?_⟩
    · rw [List.nodup_append]
      refine ⟨h1.sublist (List.tail_sublist L), by simp, fun y hy w hw => ?_⟩
      rw [List.mem_singleton.1 hw]
      exact fun e => z.1 (by rw [← e]; exact (List.tail_sublist L).subset hy)
    · rw [List.length_append, List.length_tail]
      show L.length - 1 + 1 ≤ m
      omega
    · rcases List.mem_append.1 hy with q | q
      · exact h3 y ((List.tail_sublist L).subset q)
      · rw [List.mem_singleton.1 q]; exact hK
  · rw [if_neg z]
    refine ⟨?_, ?_, fun y hy => ?_⟩
    · rw [List.nodup_append]
      refine ⟨h1.sublist rmS, by simp, fun y hy w hw => ?_⟩
      rw [List.mem_singleton.1 hw]
      exact fun e => rmK (by rw [e] at hy; exact hy)
    · rw [List.length_append]
      show (bzRm L K).length + 1 ≤ m
      by_cases q : K ∈ L
      · have : (bzRm L K).length < L.length := by
          unfold bzRm
          have hle := List.length_filter_le (fun y => !decide (y = K)) L
          have hne : (L.filter (fun y => !decide (y = K))).length ≠ L.length := fun e => by
            have := List.length_filter_eq_length_iff.1 e K q
            simp at this
          omega
        omega
      · have : L.length ≠ m := fun e => z ⟨q, e⟩
        have := rmS.length_le
        omega
    · rcases List.mem_append.1 hy with q | q
      · exact h3 y (rmS.subset q)
      · rw [List.mem_singleton.1 q]; exact hK
theorem bzRm_c (h : bzJc m L) (q : K ∈ L) : bzJc m (bzRm L K ++ [K]) := by
  have hm : 0 < m := by
    have := List.length_pos_of_mem q
    have := h.2.1
    omega
  have := bzPut_c h hm (h.2.2 K q)
  unfold bzPut at this
  rwa [if_neg (fun y => y.1 q)] at this
end

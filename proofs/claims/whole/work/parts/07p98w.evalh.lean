/-! RULES' EVALUATION, 17: a statement done by both -/
theorem bEvW_q {K vn vm kn wn km wm mo mk sz f W : Int} (hK : 0 ≤ K ∧ K ≤ 6) (Tn : bThg vn kn wn) (Tm : K ≠ 0 → K ≠ 3 → K ≠ 6 → bThg vm km wm) (hz : sz ≤ 8) (hmo : K = 1 → mo ≠ 1)
    (hW : W = if K = 1 then (if mo = 1 then 5 else if vm = -1 then 1 else -1) else if K = 2 then (if vn = -1 ∨ vm = -1 then 1 else if vn < 1000 ∧ vm < 1000 then -1 else 2) else if K = 4 then (if vn = -1 ∨ vm = -1 then 1 else if vn < 1000 ∨ ¬ vm < 1000 then 2 else if mk = f then (if sz < 8 then -1 else 4) else 3) else if K = 5 then (if vm = -1 then 1 else -1) else if K = 6 then (if vn = -1 then 1 else if vn < 1000 then -1 else 2) else -1) :
    (bRU K kn km → W = 1) ∧ (¬ bRU K kn km → (bRD K kn km → W = 2) ∧ (¬ bRD K kn km → (K = 4 → kn = 2 ∧ km = 1 ∧ (mk ≠ f → W = 3) ∧ (mk = f → sz = 8 → W = 4)) ∧ ((K = 4 → mk = f ∧ sz ≠ 8) → W = -1) ∧ (K = 2 → kn = 1 ∧ km = 1) ∧ (K = 6 → kn = 1))) := by
  unfold bRU bRD bThg at *
  have c : K = 0 ∨ K = 1 ∨ K = 2 ∨ K = 3 ∨ K = 4 ∨ K = 5 ∨ K = 6 := by omega
  rcases c with e | e | e | e | e | e | e
  · rw [if_neg (by omega), if_neg (by omega), if_neg (by omega), if_neg (by omega), if_neg (by omega)] at hW
    omega
  · have := Tm (by omega) (by omega) (by omega)
    rw [if_pos e, if_neg (hmo e)] at hW
    by_cases z : vm = -1
    · rw [if_pos z] at hW; omega
    · rw [if_neg z] at hW; omega
  · have := Tm (by omega) (by omega) (by omega)
    rw [if_neg (by omega), if_pos e] at hW
    by_cases z : vn = -1 ∨ vm = -1
    · rw [if_pos z] at hW; omega
    · rw [if_neg z] at hW
      by_cases z2 : vn < 1000 ∧ vm < 1000
      · rw [if_pos z2] at hW; omega
      · rw [if_neg z2] at hW; omega
  · rw [if_neg (by omega), if_neg (by omega), if_neg (by omega), if_neg (by omega), if_neg (by omega)] at hW
    omega
  · have := Tm (by omega) (by omega) (by omega)
    rw [if_neg (by omega), if_neg (by omega), if_pos e] at hW
    by_cases z : vn = -1 ∨ vm = -1
    · rw [if_pos z] at hW; omega
    · rw [if_neg z] at hW
      by_cases z2 : vn < 1000 ∨ ¬ vm < 1000
      · rw [if_pos z2] at hW; omega
      · rw [if_neg z2] at hW
        by_cases z3 : mk = f
        · rw [if_pos z3] at hW
          by_cases z4 : sz < 8
          · rw [if_pos z4] at hW; omega
          · rw [if_neg z4] at hW; omega
        · rw [if_neg z3] at hW; omega
  · have := Tm (by omega) (by omega) (by omega)
    rw [if_neg (by omega), if_neg (by omega), if_neg (by omega), if_pos e] at hW
    by_cases z : vm = -1
    · rw [if_pos z] at hW; omega
    · rw [if_neg z] at hW; omega
  · rw [if_neg (by omega), if_neg (by omega), if_neg (by omega), if_neg (by omega), if_pos e] at hW
    by_cases z : vn = -1
    · rw [if_pos z] at hW; omega
    · rw [if_neg z] at hW
      by_cases z2 : vn < 1000
      · rw [if_pos z2] at hW; omega
      · rw [if_neg z2] at hW; omega
def bRfK : List Nat := [60, 61, 62, 63, 64, 65, 66, 67, 68, 69]
/-- what the reference's evaluation leaves alone -/
def bRM (r r' : bSt) : Prop := r'.2 = r.2 ∧ bUn bRfK [7] r r'
section
variable {d : Nat} {s t u r r' r'' : bSt} {g : Int → bSt → Prop} {f x y k n m p v w o j l a i : Int}
theorem bRM_refl : bRM r r := ⟨rfl, bUn_refl⟩
theorem bRM_trans (h : bRM r r') (k : bRM r' r'') : bRM r r'' := ⟨k.1.trans h.1, bUn_trans h.2 k.2⟩
theorem bRM_w {b : Nat} (h : bRM r r') (hb : b % 256 ∈ bRfK) : bRM r (bw r' b i v) := ⟨h.1, bUn_w h.2 hb (by intro e; rw [e] at hb; revert hb; decide)⟩
theorem bRM_f (h : bRM r r') : bRM r (bw r' 12 7 v) := ⟨h.1, bUn_f h.2 (by decide) (by decide)⟩
theorem bRM_l {b : Nat} {lo hi : Int} (h : bRM r r') (q : bFl b lo hi v r' r'') (hb : b % 256 ∈ bRfK) : bRM r r'' := ⟨q.1.trans h.1, bUn_l h.2 q hb (by intro e; rw [e] at hb; revert hb; decide)⟩
theorem bw_bw {b : Nat} : bw (bw s b i v) b i w = bw s b i w := by
  show (bU (bU s.1 b i.toNat (bn v)) b i.toNat (bn w), s.2) = (bU s.1 b i.toNat (bn w), s.2)
  congr 1
  funext b' j'
  unfold bU
  by_cases q : b' = b ∧ j' = i.toNat
  · rw [if_pos q, if_pos q]
  · rw [if_neg q, if_neg q, if_neg q]
theorem bEvB_m (h : bEvB u r) (hu : ∀ b ∈ [34, 35, 36, 37, 38], ∀ j, bi s b j = bi u b j) (hr : bRM r r') : bEvB s r' := by
  have e := fun b (q : b % 256 ∉ bRfK) (q2 : b % 256 ≠ 12) j => hr.2.1 b q q2 j
  unfold bEvB
  simp only [hu 34 (by decide), hu 35 (by decide), hu 36 (by decide), hu 37 (by decide), hu 38 (by decide), e 58 (by decide) (by decide), e 59 (by decide) (by decide)]
  exact h
end

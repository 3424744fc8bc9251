/-! BUILD, 22: the model: those that end, those that begin, when the next one ends -/
section
variable {σ : bSt} {Z Y X : bZs} {a b g l i v w x : Int} {c n m k : Nat} {rk : Int → Nat}
theorem bzEnds_r : ∀ k : Nat, bzI σ n Z → k ≤ n → (∀ b : Int, (k : Int) ≤ b → ∀ c ∈ [140, 142, 143, 145, 146], (bzEnds σ g k Z).1 c b = Z.1 c b) ∧ (bzEnds σ g k Z).1 305 0 = Z.1 305 0 ∧ bzNe n Z ≤ bzNe n (bzEnds σ g k Z) ∧ bzNb n (bzEnds σ g k Z) = bzNb n Z
  | 0, _, _ => ⟨fun _ _ _ _ => rfl, rfl, Int.le_refl _, rfl⟩
  | k + 1, I, hk => by
    obtain ⟨h1, h2, h3, h4⟩ := bzEnds_r k I (by omega)
    have Ik := bzI_ends (g := g) I k (by omega)
    unfold bzEnds
    generalize bzEnds σ g k Z = W at *
    by_cases z : bzG W k ∧ (W.1 145 k = W.1 305 0 ∨ W.1 146 k = W.1 305 0)
    · rw [if_pos z]
      have fe := bzFin_fe (g := g) Ik z.1 (by omega) (by omega)
      have ne := bzNe_1 (n := n) (Y := bzFin σ g W k) (Z := W) (a := k) (by omega) (by omega) (fun b q => (fe.2.1 b q).1.2.1) z.1.2.2 (by rcases fe.2.2.1 with ⟨q, _⟩ | ⟨q, _⟩ <;> omega)
      refine ⟨fun b hb c hc => ?_, (fe.1 305 (by decide) 0).trans h2, by omega, ?_⟩
      · rw [← h1 b (by omega) c hc]
        by_cases y : c = 142
        · rw [y]; exact (fe.2.1 b (by omega)).1.2.1
        · exact fe.1 c (by simp only [List.mem_cons, List.not_mem_nil, or_false, not_or] at hc ⊢; omega) b
      · rw [← h4]; exact bzNb_m fun a _ _ => fe.1 143 (by decide) a
    · rw [if_neg z]
      exact ⟨fun b hb c hc => h1 b (by omega) c hc, h2, h3, h4⟩
/-- if one ends now, more have ended then -/
theorem bzEnds_1 (I : bzI σ n Z) (a0 : 0 ≤ a) (a1 : a < (n : Int)) (hg : bzG Z a) (he : Z.1 145 a = Z.1 305 0 ∨ Z.1 146 a = Z.1 305 0) : ∀ k : Nat, a < (k : Int) → k ≤ n → bzNe n Z + 1 ≤ bzNe n (bzEnds σ g k Z)
  | 0, h, _ => by omega
  | k + 1, h, hk => by
    have Ik := bzI_ends (g := g) I k (by omega)
    obtain ⟨h1, h2, h3, _⟩ := bzEnds_r (g := g) k I (by omega)
    by_cases e : a = k
    · unfold bzEnds
      generalize bzEnds σ g k Z = W at *
      have z : bzG W k ∧ (W.1 145 k = W.1 305 0 ∨ W.1 146 k = W.1 305 0) := by
        rw [← e]
        unfold bzG
        rw [h1 a (by omega) 140 (by decide), h1 a (by omega) 142 (by decide), h1 a (by omega) 143 (by decide), h1 a (by omega) 145 (by decide), h1 a (by omega) 146 (by decide), h2]
        exact ⟨hg, he⟩
      rw [if_pos z]
      have fe := bzFin_fe (g := g) Ik z.1 (by omega) (by omega)
      have ne := bzNe_1 (n := n) (Y := bzFin σ g W k) (Z := W) (a := k) (by omega) (by omega) (fun b q => (fe.2.1 b q).1.2.1) z.1.2.2 (by rcases fe.2.2.1 with ⟨q, _⟩ | ⟨q, _⟩ <;> omega)
      omega
    · have ih := bzEnds_1 I a0 a1 hg he k (by omega) (by omega)
      unfold bzEnds
      generalize bzEnds σ g k Z = W at *
      by_cases z : bzG W k ∧ (W.1 145 k = W.1 305 0 ∨ W.1 146 k = W.1 305 0)
      · rw [if_pos z]
        have fe := bzFin_fe (g := g) Ik z.1 (by omega) (by omega)
        have ne := bzNe_1 (n := n) (Y := bzFin σ g W k) (Z := W) (a := k) (by omega) (by omega) (fun b q => (fe.2.1 b q).1.2.1) z.1.2.2 (by rcases fe.2.2.1 with ⟨q, _⟩ | ⟨q, _⟩ <;> omega)
        omega
      · rw [if_neg z]; exact ih
/-- behind a cancelling none goes on -/
theorem bzCcl_n (σ : bSt) (n : Nat) : ∀ k : Nat, (∀ b : Int, (k : Int) ≤ b → ∀ c ∈ [140, 142, 143], (bzCcl k Z).1 c b = Z.1 c b) ∧ ∀ b : Int, 0 ≤ b → b < (k : Int) → ¬ bzG (bzCcl k Z) b
  | 0 => ⟨fun _ _ _ _ => rfl, fun b b0 b1 => by omega⟩
  | k + 1 => by
    obtain ⟨h1, h2⟩ := bzCcl_n σ n k
    unfold bzCcl
    generalize bzCcl k Z = W at *
    by_cases z : bzG W k
    · rw [if_pos z]
      have fe := bzLv_fe (σ := σ) (n := n) (Z := W) (a := k)
      have e : ∀ c ∈ [140, 143], ∀ b, (bzE (bzLv W k (-1)) k 7).1 c b = W.1 c b := fun c hc b => fe.1 c (by simp only [List.mem_cons, List.not_mem_nil, or_false, not_or] at hc ⊢; omega) b
      refine ⟨fun b hb c hc => ?_, fun b b0 b1 hg => ?_⟩
      · rw [← h1 b (by omega) c hc]
        by_cases y : c = 142
        · rw [y]; exact (fe.2.1 b (by omega)).1.2.1
        · exact e c (by simp only [List.mem_cons, List.not_mem_nil, or_false] at hc ⊢; omega) b
      · by_cases y : b = k
        · have := hg.2.2
          rw [y] at this
          rcases fe.2.2.1 with ⟨q, _⟩ | ⟨q, _⟩ <;> omega
        · refine h2 b b0 (by omega) ⟨?_, ?_, ?_⟩
          · rw [← e 140 (by decide)]; exact hg.1
          · rw [← e 143 (by decide)]; exact hg.2.1
          · rw [← (fe.2.1 b y).1.2.1]; exact hg.2.2
    · rw [if_neg z]
      refine ⟨fun b hb c hc => h1 b (by omega) c hc, fun b b0 b1 => ?_⟩
      by_cases y : b = k
      · rw [y]; exact z
      · exact h2 b b0 (by omega)
theorem bzSn_0 (h : ∀ b : Int, 0 ≤ b → b < (n : Int) → ¬ bzG Z b) : ∀ k : Nat, k ≤ n → bzSn Z k = -1
  | 0, _ => rfl
  | k + 1, hk => by
    unfold bzSn
    rw [if_neg (h k (by omega) (by omega))]
    exact bzSn_0 h k (by omega)
/-- the next end is one's end -/
theorem bzSn_at (I : bzI σ n Z) : ∀ k : Nat, k ≤ n → bzSn Z k = -1 ∧ (∀ b : Int, 0 ≤ b → b < (k : Int) → ¬ bzG Z b) ∨ (bzSn Z k ≠ -1 ∧ ∃ a : Int, 0 ≤ a ∧ a < (k : Int) ∧ bzG Z a ∧ (Z.1 145 a = bzSn Z k ∨ Z.1 146 a = bzSn Z k))
  | 0, _ => Or.inl ⟨rfl, fun b b0 b1 => by omega⟩
  | k + 1, hk => by
    have ih := bzSn_at I k (by omega)
    unfold bzSn
    generalize bzSn Z k = x at *
    by_cases z : bzG Z k
    · rw [if_pos z]
      have j := (I.2.2.2.1 k (by omega) (by omega)).2.2.2.2.2.2.2.1 z
      have own : bzSr (Z.1 145 k) (Z.1 146 k) ≠ -1 ∧ (Z.1 145 k = bzSr (Z.1 145 k) (Z.1 146 k) ∨ Z.1 146 k = bzSr (Z.1 145 k) (Z.1 146 k)) := by
        unfold bzSr
        by_cases y : Z.1 145 k = -1
        · rw [if_pos y]; exact ⟨by omega, Or.inr rfl⟩
        · rw [if_neg y]
          by_cases y2 : Z.1 146 k = -1
          · rw [if_pos y2]; exact ⟨y, Or.inl rfl⟩
          · rw [if_neg y2]; exact ⟨by omega, by omega⟩
      generalize bzSr (Z.1 145 k) (Z.1 146 k) = y at *
      have e : bzSr x y = if x = -1 then y else if y = -1 then x else min x y := rfl
      rw [e, if_neg own.1]
      refine Or.inr ?_
      rcases ih with ⟨q, _⟩ | ⟨q, a, a0, a1, a2, a3⟩
      · rw [if_pos q]
        exact ⟨own.1, k, by omega, by omega, z, own.2⟩
      · rw [if_neg q]
        by_cases le : x ≤ y
        · rw [show min x y = x by omega]
          exact ⟨q, a, a0, by omega, a2, a3⟩
        · rw [show min x y = y by omega]
          exact ⟨own.1, k, by omega, by omega, z, own.2⟩
    · rw [if_neg z]
      rcases ih with ⟨q, q2⟩ | ⟨q, a, a0, a1, a2, a3⟩
      · refine Or.inl ⟨q, fun b b0 b1 => ?_⟩
        by_cases y : b = k
        · rw [y]; exact z
        · exact q2 b b0 (by omega)
      · exact Or.inr ⟨q, a, a0, by omega, a2, a3⟩
/-- what begins keeps what holds -/
theorem bzI_st (I : bzI σ n Z) (hr : bzRn0 rk n Z) (rd : bzRd Z a) (cn : bzCn σ Z a) (a0 : 0 ≤ a) (a1 : a < (n : Int)) : bzI σ n (bzSt σ Z a) ∧ bzRn0 rk n (bzSt σ Z a) ∧ bzNb n (bzSt σ Z a) = bzNb n Z + 1 ∧ bzNe n Z ≤ bzNe n (bzSt σ Z a) ∧ (bzSt σ Z a).1 305 0 = Z.1 305 0 := by
  have se := bzSt_se I hr rd cn a0 a1
  have now := I.2.2.2.2.2.1
  have z142 : Z.1 142 a = -1 := Classical.byContradiction fun q => (I.2.2.1 a a0 a1).2.1 q rd.2.1
  refine ⟨bzI_se I rd a0 a1 se, fun b b0 b1 => by simp only [se.1 105 (by decide), se.1 106 (by decide)]; exact hr b b0 b1, bzNb_1 a0 a1 (fun b q => (se.2.1 b q).1 143 (by decide)) rd.2.1 (by rw [se.2.2.1]; omega), ?_, se.1 305 (by decide) 0⟩
  by_cases q : (bzSt σ Z a).1 142 a = -1
  · rw [bzNe_m (Y := bzSt σ Z a) (Z := Z) fun b _ _ => by
      by_cases y : b = a
      · rw [y, q, z142]
      · exact (se.2.1 b y).1 142 (by decide)]
    exact Int.le_refl _
  · rw [bzNe_1 a0 a1 (fun b q => (se.2.1 b q).1 142 (by decide)) z142 q]; omega
theorem bzI_bgs : ∀ (k : Nat) (Z : bZs), bzI σ n Z → bzRn0 rk n Z → bzI σ n (bzBgs σ n k Z) ∧ bzRn0 rk n (bzBgs σ n k Z) ∧ bzNe n Z ≤ bzNe n (bzBgs σ n k Z) ∧ (bzBgs σ n k Z).1 305 0 = Z.1 305 0
  | 0, Z, I, hr => ⟨I, hr, Int.le_refl _, rfl⟩
  | k + 1, Z, I, hr => by
    unfold bzBgs
    by_cases z : bzNx σ Z n = -1
    · rw [if_pos z]; exact ⟨I, hr, Int.le_refl _, rfl⟩
    · rw [if_neg z]
      have q := (bzNx_rg (σ := σ) (Z := Z) n).resolve_left z
      obtain ⟨i1, i2, i3, i4, i5⟩ := bzI_st I hr q.2.2.1 q.2.2.2 q.1 q.2.1
      obtain ⟨j1, j2, j3, j4⟩ := bzI_bgs k _ i1 i2
      exact ⟨j1, j2, by omega, j4.trans i5⟩
theorem bzI_bg (I : bzI σ n Z) (hr : bzRn0 rk n Z) : bzI σ n (bzBg σ n Z) ∧ bzRn0 rk n (bzBg σ n Z) ∧ bzNe n Z ≤ bzNe n (bzBg σ n Z) ∧ (bzBg σ n Z).1 305 0 = Z.1 305 0 := by
  unfold bzBg
  by_cases z : Z.1 306 0 = 0
  · rw [if_pos z]; exact bzI_bgs n Z I hr
  · rw [if_neg z]; exact ⟨I, hr, Int.le_refl _, rfl⟩
theorem bzRn0_ends (hr : bzRn0 rk n Z) (I : bzI σ n Z) : ∀ k : Nat, k ≤ n → bzRn0 rk n (bzEnds σ g k Z)
  | 0, _ => hr
  | k + 1, hk => by
    have ih := bzRn0_ends hr I k (by omega)
    have Ik := bzI_ends (g := g) I k (by omega)
    unfold bzEnds
    generalize bzEnds σ g k Z = W at *
    by_cases z : bzG W k ∧ (W.1 145 k = W.1 305 0 ∨ W.1 146 k = W.1 305 0)
    · rw [if_pos z]
      have fe := bzFin_fe (g := g) Ik z.1 (by omega) (by omega)
      intro b b0 b1
      simp only [fe.1 105 (by decide), fe.1 106 (by decide)]
      exact ih b b0 b1
    · rw [if_neg z]; exact ih
/-- the time is set on -/
theorem bzI_ti (I : bzI σ n Z) (hl : 0 ≤ l) (h : bzSn Z n ≠ -1) : bzI σ n (bzTi l Z (bzSn Z n)) ∧ ∃ a : Int, 0 ≤ a ∧ a < (n : Int) ∧ bzG Z a ∧ (Z.1 145 a = bzSn Z n ∨ Z.1 146 a = bzSn Z n) := by
  rcases bzSn_at I n (Nat.le_refl _) with ⟨q, _⟩ | ⟨_, a, a0, a1, a2, a3⟩
  · exact absurd q h
  · refine ⟨?_, a, a0, a1, a2, a3⟩
    have j := I.2.2.2.1 a a0 a1
    have now := I.2.2.2.2.2.1
    unfold bzTi
    have nv : 0 ≤ (if 0 < l ∧ l < bzSn Z n then l else bzSn Z n) ∧ (if 0 < l ∧ l < bzSn Z n then l else bzSn Z n) ≤ 2500 * bzNb n Z := by
      split <;> omega
    generalize (if 0 < l ∧ l < bzSn Z n then l else bzSn Z n) = t at *
    have e : ∀ c, c ≠ 305 → ∀ j, (zw Z 305 0 t).1 c j = Z.1 c j := fun c hc j => zw_a hc
    have u : zU [305] Z (zw Z 305 0 t) := zU_w (by decide)
    obtain ⟨O, Ik, J1, J2, C, J4⟩ := I
    obtain ⟨hO, m⟩ := bzEnv O u (by decide)
    have nb : bzNb n (zw Z 305 0 t) = bzNb n Z := bzNb_m fun b _ _ => e 143 (by decide) b
    have ne : bzNe n (zw Z 305 0 t) = bzNe n Z := bzNe_m fun b _ _ => e 142 (by decide) b
    refine ⟨hO, fun b b0 b1 K hK => ?_, fun b b0 b1 => ?_, fun b b0 b1 => ?_, C, ?_⟩
    · rw [e 101 (by decide), e 102 (by decide), e 103 (by decide), e 105 (by decide), e 112 (by decide)]
      exact Ik b b0 b1 K hK
    · obtain ⟨j1, j2, j3, j4⟩ := J1 b b0 b1
      rw [e 142 (by decide), e 143 (by decide), e 140 (by decide), e 105 (by decide), (m b).1]
      refine ⟨j1, j2, fun q => ⟨(j3 q).1, ?_⟩, fun q => j4 (by unfold bzD at q ⊢; rw [e 142 (by decide)] at q; exact q)⟩
      refine (bzIn_at _).2 fun i i0 i1 => ?_
      rcases (bzIn_at _).1 (j3 q).2 i i0 i1 with r | r
      · exact Or.inl r
      · exact Or.inr r
    · have j := J2 b b0 b1
      rw [nb, (m b).2.1]
      exact j
    · unfold bzJ4
      rw [nb, ne, zw_e]
      exact ⟨nv, J4.2⟩
end

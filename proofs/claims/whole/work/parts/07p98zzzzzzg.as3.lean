/-! ALL CASES, 3: what an action gives; build, test; all 49 -/
section
variable {d lvl : Nat} {σ σ0 s s0 r r' : bSt} {Z Y : bZs} {x y v a b i q g l : Int} {c k n N N' μ L : Nat} {rk : Int → Nat} {S : List Nat} {F : List Int} {G : bSt → Prop} {H : bHp}
theorem bw_same {b : Nat} (h : bi σ b i = v) : bw σ b i v = σ := by
  subst h
  have e : bU σ.1 b i.toNat (bn (bi σ b i)) = σ.1 := by
    rw [← bn_bi]
    funext a' k'
    unfold bU
    split
    · rename_i w
      rw [w.1, w.2]
    · rfl
  show (bU σ.1 b i.toNat (bn (bi σ b i)), σ.2) = σ
  rw [e]
/-- what is kept, whatever the class's count of actions -/
def bqYy (N μ : Nat) (σ : bSt) : Prop := bqZ N μ (bw σ 6 13 (bi σ 12 49))
theorem bqY_e (h : bAk σ) : bqYy N μ σ ↔ bqZ N μ σ := by
  unfold bqYy
  rw [bw_same h.1.1]
theorem bqY_a (u : bUn S F σ s) (hS : ∀ k ∈ [1, 3, 5, 14, 15, 16, 17, 18, 24, 101, 102, 103, 104, 105, 106, 110, 111, 112, 113, 114, 115, 121, 122, 123, 124, 125, 126, 127, 128, 129, 134, 135, 136, 137, 138, 139, 140, 142, 143, 144], k ∉ S) (hF : ∀ k ∈ [49, 68, 73, 87, 88, 95], k ∉ F) (ao : bAoth (bi σ 12 49) σ s) (h : bqYy N μ σ) : bqYy N μ s := by
  unfold bqYy at *
  have e49 : bi s 12 49 = bi σ 12 49 := u.2.1 49 (by decide) (hF 49 (by decide))
  rw [e49]
  obtain ⟨_, _, _, _, ⟨rk, n, Z, R⟩, _⟩ := id h
  have c49 := R.2.2.1.1
  have n120 := R.1.1.1.2.1
  have q49 : bi σ 12 49 = n := by rw [← c49, bi_ne (by decide)]
  have ne : ∀ (t : bSt) b j v, b ≠ 6 → bi (bw t 6 13 v) b j = bi t b j := fun t b j v hb => bi_ne hb
  have st : ∀ b, b % 256 ∉ S → b % 256 ≠ 12 → b ≠ 6 → ∀ v j, bi (bw s 6 13 v) b j = bi (bw σ 6 13 v) b j := fun b q1 q2 q3 v j => by rw [ne s b j v q3, ne σ b j v q3]; exact u.1 b q1 q2 j
  rw [q49] at ao ⊢
  refine bqZ_st (n := n) (σ := bw σ 6 13 n) (s := bw s 6 13 n) ⟨fun a a0 a1 => ⟨ao.2.1 a a0 (by omega), fun b hb j => ?_⟩, fun x hx => ?_, fun a a0 a1 => ⟨fun c hc => st c (hS _ ?_) ?_ ?_ _ _, fun i i0 i1 => st 106 (hS 106 (by decide)) (by decide) (by decide) _ _⟩, fun c hc => st c (hS _ ?_) ?_ ?_ _, fun k hk => ?_, ?_⟩ (by rw [bi_ne (by decide), q49]) (by rw [q49] at h; exact h)
  · have hb' : b % 256 ∈ [0, 4, 13, 22, 23] ∧ b ∉ bAd n ∧ b ≠ 6 := by
      unfold bqOb bAi bNe bKe at hb
      unfold bAd bAid
      simp only [List.mem_cons, List.not_mem_nil, or_false, not_or] at hb ⊢
      omega
    rw [ne s b j _ hb'.2.2, ne σ b j _ hb'.2.2]
    exact (ao.1 b hb'.1 hb'.2.1).1 j
  · by_cases w : bzTc x
    · have hb' : x % 256 ∈ [0, 4, 13, 22, 23] ∧ x ∉ bAd n ∧ x ≠ 6 := by
        unfold bzTc at w
        unfold bAd bAid
        simp only [List.mem_cons, List.not_mem_nil, or_false, not_or] at w ⊢
        omega
      obtain ⟨g1, g2, g3⟩ := ao.1 x hb'.1 hb'.2.1
      exact ⟨fun j => by rw [ne s x j _ hb'.2.2, ne σ x j _ hb'.2.2]; exact g1 j, g2, g3⟩
    · have hx' := hx.resolve_left w
      have hx2 : x % 256 ∈ [1, 3, 5, 14, 15, 16, 17, 18, 24] ∧ x % 256 ≠ 12 ∧ x ≠ 6 := by
        simp only [List.mem_cons, List.not_mem_nil, or_false] at hx' ⊢
        omega
      have nS : x % 256 ∉ S := hS _ (by
        have := hx2.1
        simp only [List.mem_cons, List.not_mem_nil, or_false] at this ⊢
        omega)
      exact ⟨st x nS hx2.2.1 hx2.2.2 _, u.2.2.2.1 x nS, u.2.2.2.2 x nS⟩
  · simp only [List.mem_cons, List.not_mem_nil, or_false] at hc ⊢; omega
  · simp only [List.mem_cons, List.not_mem_nil, or_false] at hc; omega
  · simp only [List.mem_cons, List.not_mem_nil, or_false] at hc; omega
  · simp only [List.mem_cons, List.not_mem_nil, or_false] at hc ⊢; omega
  · simp only [List.mem_cons, List.not_mem_nil, or_false] at hc; omega
  · simp only [List.mem_cons, List.not_mem_nil, or_false] at hc; omega
  · rw [bi_ne (by decide), bi_ne (by decide)]
    exact u.2.1 k (by simp only [List.mem_cons, List.not_mem_nil, or_false] at hk; omega) (hF k hk)
  · rw [bi_eq ⟨by omega, by omega⟩, bi_eq ⟨by omega, by omega⟩]
/-- room, and where it goes -/
def bqHx (c k : Nat) (σ : bSt) : Prop := (0 ≤ bi σ 12 49 ∧ bi σ 12 49 ≤ 120) ∧ bqH c k σ
theorem bmN_q (q0 : 0 ≤ q) (q1 : q ≤ 120) (h : ∀ a, 0 ≤ a → a ≠ q → br s 33 a = br σ 33 a) (m : (br σ 33 q).isSome → (br s 33 q).isSome) : bmN s = bmN σ + ((bSo s q - bSo σ q : Nat) : Int) := by
  have hc : ∀ k : Int, 0 ≤ k → k < ((121 : Nat) : Int) → k ≠ q → (fun a => (br s 33 a).isSome) k = (fun a => (br σ 33 a).isSome) k := fun k k0 _ hk => by
    show (br s 33 k).isSome = (br σ 33 k).isSome
    rw [h k k0 hk]
  unfold bmN bSo
  by_cases e1 : (br σ 33 q).isSome = true
  · have e2 := m e1
    rw [if_pos e2, if_pos e1, bCn_c (P := fun a => (br s 33 a).isSome) (Q := fun a => (br σ 33 a).isSome) 121 fun k k0 k1 => by
      by_cases hk : k = q
      · rw [hk, e1, e2]
      · exact hc k k0 k1 hk]
    omega
  · have e1' : (br σ 33 q).isSome = false := Bool.eq_false_iff.2 e1
    rw [if_neg e1]
    by_cases e2 : (br s 33 q).isSome = true
    · rw [if_pos e2, bCn_a (P := fun a => (br σ 33 a).isSome) (Q := fun a => (br s 33 a).isSome) (y := q) 121 q0 (by omega) (fun k k0 k1 hk => (hc k k0 k1 hk).symm) e1' e2]
      omega
    · rw [if_neg e2, bCn_c (P := fun a => (br s 33 a).isSome) (Q := fun a => (br σ 33 a).isSome) 121 fun k k0 k1 => by
        by_cases hk : k = q
        · rw [hk, e1', Bool.eq_false_iff.2 e2]
        · exact hc k k0 k1 hk]
      omega
theorem bqHx_a (u : bUn S F σ s) (h14 : 14 ∉ S) (hF : 49 ∉ F) (ao : bAoth (bi σ 12 49) σ s) (h : bqHx c k σ) : bqHx (c + 8 * (bSo s (bi σ 12 49) - bSo σ (bi σ 12 49))) (k + 252 * (bSo s (bi σ 12 49) - bSo σ (bi σ 12 49))) s := by
  obtain ⟨hq, h1, h2⟩ := h
  have e49 : bi s 12 49 = bi σ 12 49 := u.2.1 49 (by decide) hF
  have eN := bmN_q hq.1 hq.2 ao.2.1 ao.2.2
  have eS : bzSo s = bzSo σ := by
    unfold bzSo bzSm
    simp only [u.2.2.2.1 14 h14, u.2.2.2.1 270 h14]
  refine ⟨by rw [e49]; exact hq, ?_, ?_⟩
  · rw [eN, eS]; omega
  · rw [eN, eS]; omega
theorem bqY_in (h : bI9 (bqG N μ) bqH L N σ) : bI9 (bGa N (bqYy N μ)) bqHx L N σ := by
  obtain ⟨a1, a2, a3, ⟨b1, b2, b3, b4, b5, b6, b7, b8⟩, c, k, a5, a6, a7⟩ := h
  exact ⟨a1, a2, a3, ⟨b1, b2, b3, b4, b5, b6, b7, (bqY_e b6).2 b8⟩, c, k, a5, a6, b6.1.2, a7⟩
theorem bqY_out (h : bGa (N + 1) (bqYy N μ) s) : bqG (N + 1) μ s := by
  obtain ⟨b1, b2, b3, b4, b5, b6, b7, b8⟩ := h
  exact ⟨b1, b2, b3, b4, b5, b6, b7, bqZ_n ((bqY_e b6).1 b8) (Nat.le_succ _)⟩
theorem bqY_o (h : bqYy N μ σ) : bAo σ := by
  have k := bqZ_Ao h
  intro a a0 a1
  have := k a a0 (by rw [bi_ne (by decide)]; exact a1)
  rw [bi_ne (by unfold bKe; omega), bi_ne (by decide), bi_ne (by decide)] at this
  exact this
theorem bqY_26 (h : bqYy N μ σ) : bM26 σ := by
  have k : bM26 (bw σ 6 13 (bi σ 12 49)) := h.1.1
  unfold bM26 at *
  rw [bi_ne (by decide), bi_ne (by decide)] at k
  exact k
theorem c36 (hN : N ≤ 2000) (hμ : μ ≤ 1000 + σ.2.2.2.2.1) (h : bI9 (bqG N μ) bqH L N σ) : bK36 (bqJ L (N + 1)) σ := bKm36 (bqJ_l hμ (fun _ w => bqY_out w) fun _ _ _ _ w => w.2) (k36 (fun _ _ u ao => bqY_a u (by decide) (by decide) ao) (fun _ _ _ _ u ao => bqHx_a u (by decide) (by decide) ao) (Nat.le_trans hN (by decide)) (bqY_in h))
theorem c40 (hN : N ≤ 2000) (hμ : μ ≤ 1000 + σ.2.2.2.2.1) (h : bI9 (bqG N μ) bqH L N σ) : bK40 (bqJ L (N + 1)) σ := bKm40 (bqJ_l hμ (fun _ w => bqY_out w) fun _ _ _ _ w => w.2) (k40 (fun _ => bqY_o) (fun _ _ u ao => bqY_a u (by decide) (by decide) ao) (fun _ _ _ _ u ao => bqHx_a u (by decide) (by decide) ao) (Nat.le_trans hN (by decide)) (bqY_in h))
theorem c41 (hN : N ≤ 2000) (hμ : μ ≤ 1000 + σ.2.2.2.2.1) (h : bI9 (bqG N μ) bqH L N σ) : bK41 (bqJ L (N + 1)) σ := bKm41 (bqJ_l hμ (fun _ w => bqY_out w) fun _ _ _ _ w => w.2) (k41 (fun _ => bqY_26) (fun _ _ u ao => bqY_a u (by decide) (by decide) ao) (fun _ _ _ _ u ao => bqHx_a u (by decide) (by decide) ao) (Nat.le_trans hN (by decide)) (bqY_in h))
theorem c31 (hN : N ≤ 2000) (hμ : μ ≤ 1000 + σ.2.2.2.2.1) (h : bI9 (bqG N μ) bqH L N σ) : bK31 (bqJ L (N + 1)) σ := k31 h hN hμ
theorem c42 (hN : N ≤ 2000) (hμ : μ ≤ 1000 + σ.2.2.2.2.1) (h : bI9 (bqG N μ) bqH L N σ) : bK42 (bqJ L (N + 1)) σ := k42 h hN hμ
/-- every call keeps it -/
theorem bqJ_c (hN : N ≤ 2000) (h : bqJ L N σ) : bCas (bqJ L (N + 1)) σ := by
  obtain ⟨μ, hμ, h⟩ := h
  exact ⟨c0 hμ h, c1 hμ h, c2 hμ h, c3 hμ h, c4 hμ h, c5 hμ h, c6 hμ h, c7 hμ h, c8 hμ h, c9 hμ h, c10 hμ h, c11 hμ h, c12 hμ h, c13 hμ h, c14 hμ h, c15 hμ h, c16 hμ h, c17 hμ h, c18 hμ h, c19 hμ h, c20 hμ h, c21 hμ h, c22 hμ h, c23 hμ h, c24 hN hμ h, c25 hμ h, c26 hμ h, c27 hμ h, c28 hμ h, c29 hμ h, c30 hμ h, c31 hN hμ h, c32 hμ h, c33 hμ h, c34 hμ h, c35 hμ h, c36 hN hμ h, c37 hμ h, c38 hμ h, c39 hμ h, c40 hN hμ h, c41 hN hμ h, c42 hN hμ h, c43 hμ h, c44 hμ h, c45 hμ h, c46 hμ h, c47 hμ h, c48 hμ h⟩
end

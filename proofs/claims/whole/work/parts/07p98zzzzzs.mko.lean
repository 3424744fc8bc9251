/-! BUILD, 67: the reference looks, and finds -/
/-- what the reference knows of some targets when it has looked -/
def bqLk (P : Int → Bool) (x : Int) (t r : bSt) : Prop := (r.2 = t.2 ∧ bUn bLk2 [7] t r) ∧ (∀ y, 0 ≤ y → y < 4096 → bi r 99 y = -9) ∧ (∀ y, 0 ≤ y → bTgk r (y / 256) → bFx r y = 0 → bi r 94 y ≠ 0 → bi r 97 y = bNu r (y / 256) (y % 256) ∧ bi r 98 y = bVe r (y / 256) (y % 256)) ∧ (∀ y, 0 ≤ y → bTgk r (y / 256) → bi r 94 y ≠ 0 → ∀ k, 0 ≤ k → k < bi r 85 (y / 256) → bi r 86 (6 * (y / 256) + k) = 2 → bi r 94 (bNod r y k) ≠ 0) ∧
  (∀ t', 0 ≤ t' → t' < 16 → (P t' = true ↔ t' < bi r 12 22 ∧ bAnd (bShr x t') 1 = 1 ∧ bi r 95 (256 * t' + bi r 10 0) = 0)) ∧ ∀ t', 0 ≤ t' → t' < 16 → P t' = true → bFx r (256 * t' + bi r 10 0) = 0 ∧ bi r 94 (256 * t' + bi r 10 0) ≠ 0
section
variable {d lvl : Nat} {σ σ0 σr β s s0 s1 t r s' : bSt} {f : Int → bSt → Prop} {fv : bSt → Prop} {Z Z0 Y X Zs Zr T ZE W : bZs} {x y v a b k i q g l : Int} {n n0 m z0 N μ L : Nat} {rk : Int → Nat} {S : List Nat} {F : List Int} {P : Int → Bool} {Q : Int → Prop}
theorem bCfg (hL : bTl s) : 0 ≤ bi s 10 0 ∧ bi s 10 0 < 256 := by
  have e := hL.2.2.2
  have a0 := hL.2.2.1 0 (by decide) (by decide)
  have a1 := hL.2.2.1 1 (by decide) (by decide)
  have a2 := hL.2.2.1 2 (by decide) (by decide)
  have a3 := hL.2.2.1 3 (by decide) (by decide)
  omega
/-- it looks, and knows whether one is in error -/
theorem rLk (hF : bFi t) (hL : bTl t) (hT : bTg t) (hS : bRs t) (hN : ∀ t', bTgk t t' → bRn1 t t t') (Xm : bMs Q x) (hQ : ∀ t', 0 ≤ t' → t' < 16 → Q t' → bTgk t t') (hP : ∀ t', 0 ≤ t' → t' < 16 → (P t' = true ↔ Q t' ∧ bFx t (t' * 256 + bi t 10 0) = 0))
    (K0 : (∀ t', 0 ≤ t' → t' < 16 → Q t' → P t' = true) → ∀ r, bqLk P x t r → f 0 r) (K1 : (¬ ∀ t', 0 ≤ t' → t' < 16 → Q t' → P t' = true) → ∀ r, bqLk P x t r → f 1 r) : bWp (d + 6) 241 [.ref 12, .int (bn x)] t (bRv fun r => bWp (d + 6) 284 [.ref 12, .int (bn x)] r (bRn f)) := by
  have tc := hT.1
  have hc := bCfg hL
  have rx : bRg x := ⟨by have := Xm.1.1; omega, by have := Xm.1.2; omega⟩
  refine w241 hF hL hT hS hN rx fun r LK => ?_
  obtain ⟨l1, l2, l3, l4, l5⟩ := LK
  have ag : bPag t r := bmUn_pagR l2 (by decide) (by decide)
  have e10 : bi r 10 0 = bi t 10 0 := l2.1 10 (by decide) (by decide) 0
  have e22 : bi r 12 22 = bi t 12 22 := ag.2.2.1
  have en : ∀ y k, bNod r y k = bNod t y k := fun y k => by unfold bNod; rw [ag.1 87 (by decide), bBw_m ag]
  have Lr := bTl_un l2 (by decide) (by decide) hL
  have root : ∀ t', 0 ≤ t' → t' < 16 → Q t' → bi r 94 (256 * t' + bi t 10 0) ≠ 0 ∧ (bi r 95 (256 * t' + bi t 10 0) = 0 ↔ bFx t (t' * 256 + bi t 10 0) = 0) := fun t' t0 t1 q => by
    have tk := hQ t' t0 t1 q
    have h94 := l5 t' tk ((bMs_i Xm t0 t1).2 q)
    have e256 : (256 * t' + bi t 10 0) / 256 = t' := by omega
    have kd := (l4 (256 * t' + bi t 10 0) (by omega) (by rw [e256]; exact tk) h94).1.1
    refine ⟨h94, ?_⟩
    rw [kd, show t' * 256 + bi t 10 0 = 256 * t' + bi t 10 0 by omega]
    exact ⟨fun z => bFx_z hT (by omega) (by rw [e256]; exact tk) z, fun z => by rw [z]; rfl⟩
  have bq : bqLk P x t r := by
    refine ⟨⟨l1, l2⟩, l3, fun y y0 yt yE yn => ?_, fun y y0 yt yn k k0 k1 k2 => ?_, fun t' t0 t1 => ?_, fun t' t0 t1 tp => ?_⟩
    · rw [bFx_m ag] at yE
      have := (l4 y y0 ((bTgk_g ag).1 yt) yn).1.2.2 (by omega) (by omega) (by omega)
      rw [bNu_m ag, bVe_m ag]
      exact this
    · rw [ag.1 85 (by decide)] at k1
      rw [ag.1 86 (by decide)] at k2
      rw [en]
      exact (l4 y y0 ((bTgk_g ag).1 yt) yn).2 k k0 k1 k2
    · rw [hP t' t0 t1, e22, e10]
      constructor
      · rintro ⟨q, z⟩
        exact ⟨(hQ t' t0 t1 q).2, (bMs_i Xm t0 t1).2 q, (root t' t0 t1 q).2.2 z⟩
      · rintro ⟨_, q, z⟩
        have q := (bMs_i Xm t0 t1).1 q
        exact ⟨q, (root t' t0 t1 q).2.1 z⟩
    · obtain ⟨q, z⟩ := (hP t' t0 t1).1 tp
      rw [e10, bFx_m ag, show 256 * t' + bi t 10 0 = t' * 256 + bi t 10 0 by omega]
      refine ⟨z, ?_⟩
      rw [show t' * 256 + bi t 10 0 = 256 * t' + bi t 10 0 by omega]
      exact (root t' t0 t1 q).1
  refine r284 (d := d + 4) (Q := Q) Lr (by rw [e22]; exact ⟨tc.1, tc.2.1⟩) Xm (fun t' t0 t1 q => by rw [e22]; exact (hQ t' t0 t1 q).2) (fun t' t0 t1 q z => K1 (fun w => ?_) r bq) fun w => K0 (fun t' t0 t1 q => ?_) r bq
  · have := ((hP t' t0 t1).1 (w t' t0 t1 q)).2
    rw [e10] at z
    exact z ((root t' t0 t1 q).2.2 this)
  · have z := w t' t0 t1 q
    rw [e10] at z
    exact (hP t' t0 t1).2 ⟨q, (root t' t0 t1 q).2.1 z⟩
/-- it finds the actions -/
theorem rFd (hF : bFi t) (hL : bTl t) (hT : bTg t) (h4 : bR4 t) (Xm : bMs Q x) (LK : bqLk P x t r) (I0 : bmI0 rk z0 Zs) (I1 : bmI1 t [] rk z0 Zs) (R0 : ∀ a, 0 ≤ a → a < (z0 : Int) → (∀ b ∈ [101, 102, 103, 104, 105], bi t b a = Zs.1 b a) ∧ (∀ i, 0 ≤ i → i < Zs.1 105 a → bi t 106 (40 * a + i) = Zs.1 106 (40 * a + i))) (e49 : bi t 12 49 = z0) (R7 : ∀ a, 0 ≤ a → a < 120 → bi t 107 a = Zs.1 107 a ∧ Zs.1 109 a = 0)
    (K1 : ∀ r2 Z m rk, bmAl t (bmOd t P 16) Zs = some Z → bmI0 rk m Z → z0 ≤ m → bmR z0 (bmOd t P 16) Z m r r2 → f 1 r2) (K0 : bmAl t (bmOd t P 16) Zs = none → ∀ r2, bmRf z0 r r2 → bi r2 12 49 = z0 → f 0 r2) : bWp (d + 7) 283 [.ref 12, .int (bn x)] r (bRn f) := by
  obtain ⟨⟨l1, l2⟩, l3, l4, l5, l6, l7⟩ := LK
  have ag : bPag t r := bmUn_pagR l2 (by decide) (by decide)
  have e10 : bi r 10 0 = bi t 10 0 := l2.1 10 (by decide) (by decide) 0
  have e76 : ∀ j, bi r 76 j = bi t 76 j := l2.1 76 (by decide) (by decide)
  have rx : bRg x := ⟨by have := Xm.1.1; omega, by have := Xm.1.2; omega⟩
  have eO : bmOd r P 16 = bmOd t P 16 := bmOd_g ag e10 16
  have eA : ∀ V Z, bmAl r V Z = bmAl t V Z := bmAl_g ag e76
  refine r283 (d := d) (z0 := z0) (Zs := Zs) (rk := rk) (P := P) (bFi_un l2 (by decide) hF) (bTl_un l2 (by decide) (by decide) hL) (bTg_un l2 (by decide) (by decide) hT) (fun t' ht => by rw [ag.2.2.2]; exact h4 t' ((bTgk_g ag).1 ht)) l4 l5 rx (fun t' t0 t1 => ?_) l6 l7 I0 (bmI1_g ag e76 I1) (fun a a0 a1 => ⟨fun b hb => ?_, fun i i0 i1 => ?_⟩) (by rw [l2.2.1 49 (by decide) (by decide)]; exact e49) (fun a a0 a1 => by rw [l2.1 107 (by decide) (by decide)]; exact R7 a a0 a1) l3 (fun r2 Z m rk' a1 a2 a3 a4 a5 a6 a7 => ?_) fun hN r2 a1 a2 => ?_
  · by_cases q : Q t'
    · exact Or.inr ((bMs_i Xm t0 t1).2 q)
    · exact Or.inl ((bMs_i0 Xm t0 t1).2 q)
  · have := (R0 a a0 a1).1 b hb
    rw [← this]
    refine l2.1 b ?_ ?_ a
    · simp only [List.mem_cons, List.not_mem_nil, or_false] at hb
      rcases hb with rfl | rfl | rfl | rfl | rfl <;> decide
    · simp only [List.mem_cons, List.not_mem_nil, or_false] at hb
      omega
  · rw [l2.1 106 (by decide) (by decide)]; exact (R0 a a0 a1).2 i i0 i1
  · rw [eO, eA] at a1
    rw [eO] at a6
    exact K1 r2 Z m rk' a1 a2 a5 a6
  · rw [eO, eA] at hN
    exact K0 hN r2 a1 a2
end

/-! TESTS: the shards, in the reference -/
def bRf (σ s : bSt) : Prop := s.2 = σ.2 ∧ (∀ a, a ≠ 12 → a ≠ 151 → a ≠ 152 → ∀ j, bi s a j = bi σ a j) ∧ ∀ j, 0 ≤ j → j ≠ 111 → j ≠ 112 → bi s 12 j = bi σ 12 j
section
variable {d : Nat} {σ s r : bSt} {f : Int → bSt → Prop} {t c D cnt lk x y k T q z n : Int} {B : Int → Bool}
theorem bRf_refl : bRf σ σ := ⟨rfl, fun _ _ _ _ _ => rfl, fun _ _ _ _ => rfl⟩
theorem bRf_trans (h : bRf σ s) (k : bRf s r) : bRf σ r := ⟨k.1.trans h.1, fun a q1 q2 q3 j => (k.2.1 a q1 q2 q3 j).trans (h.2.1 a q1 q2 q3 j), fun j q1 q2 q3 => (k.2.2 j q1 q2 q3).trans (h.2.2 j q1 q2 q3)⟩
theorem bRf_1 {v : Int} : bRf σ (bw σ 12 111 v) := ⟨rfl, fun a q1 _ _ j => bi_ne q1, fun j j0 q1 q2 => bi_nj (by decide) j0 q1⟩
theorem bRf_2 {v : Int} : bRf σ (bw σ 12 112 v) := ⟨rfl, fun a q1 _ _ j => bi_ne q1, fun j j0 q1 q2 => bi_nj (by decide) j0 q2⟩
theorem bRf_3 {i v : Int} : bRf σ (bw σ 151 i v) := ⟨rfl, fun a _ q2 _ j => bi_ne q2, fun j _ _ _ => bi_ne (by decide)⟩
theorem bRf_4 {i v : Int} : bRf σ (bw σ 152 i v) := ⟨rfl, fun a _ _ q3 j => bi_ne q3, fun j _ _ _ => bi_ne (by decide)⟩
theorem bKbit_m {m : Int} (h : ∀ j, bi s 152 j = bi σ 152 j) : bKbit s m = bKbit σ m := by unfold bKbit; rw [h]
theorem bKbit_w {m p : Int} (m0 : 0 ≤ m) (p0 : 0 ≤ p) : bKbit (bw σ 152 (m / 32) (bOr (bi σ 152 (m / 32)) (bShl 1 (m % 32)))) p = (bKbit σ p || decide (p = m)) := by
  unfold bKbit
  have rg : bRg (bOr (bi σ 152 (m / 32)) (bShl 1 (m % 32))) := bRgI _
  by_cases e : p / 32 = m / 32
  · rw [e, bi_eq rg, b1_32o (by omega) (by omega) (by omega)]
    congr 1
    by_cases pe : p = m
    · rw [decide_eq_true pe, decide_eq_true (by omega)]
    · rw [decide_eq_false pe, decide_eq_false (by omega)]
  · rw [decide_eq_false (fun w => e (by rw [w])), Bool.or_false, bi_nj (by omega) (by omega) e]
theorem w305 (t0 : 0 ≤ t) (t1 : t < 16) (c0 : 0 ≤ c) (c1 : c < 1000) (n0 : 0 ≤ n) (n1 : n < 4) (hT : bi σ 12 111 = T) (T0 : 0 ≤ T ∧ T ≤ 100) (hD : bi σ 12 112 = D) (D0 : 0 ≤ D)
    (h0 : bi σ 93 t = 0 → ∀ s, bRf σ s → (∀ j, bi s 151 j = bi σ 151 j) → bi s 12 112 = D → bi s 12 111 = T + (if bKbit σ (4000 * t + 4 * c + n) then 0 else 1) → (∀ p, 0 ≤ p → bKbit s p = (bKbit σ p || decide (p = 4000 * t + 4 * c + n))) → f (if bSnd c n then 0 else 2) s)
    (h1 : bi σ 93 t ≠ 0 → ∀ s, bRf σ s → (∀ j, bi s 151 j = bi σ 151 j) → bi s 12 112 = (bLuk (bi σ 93 t) (bSnd c n) 3 D).2.2 → bi s 12 111 = T + (bLuk (bi σ 93 t) (bSnd c n) 3 D).2.1 → (∀ p, bKbit s p = bKbit σ p) → f (bLuk (bi σ 93 t) (bSnd c n) 3 D).1 s) : bWp (d + 1) 305 [.ref 12, .int (bn t), .int (bn c), .int (bn n)] σ (bRn f) := by
  have D1 : D < 2147483648 := by have := bi_rg σ 12 112; rw [hD] at this; exact this.2
  refine ⟨rfl, fun A hA => sq305_0 (bWp_mono _) hA ⟨by omega, by omega⟩ ⟨by omega, by omega⟩ ⟨by omega, by omega⟩ ⟨⟨by omega, by omega⟩, by omega, ?_⟩⟩
  have go : ∀ x : Int, (x = 0 ∨ x = 1) → decide (x = 1) = bSnd c n → A (10, [.ref 12, .int (bn t), .int (bn c), .int (bn n), .float 0, .float 0], [.int (bn x)], σ) := fun x hx xs => by
    have rx : bRg x := by rcases hx with e | e <;> rw [e] <;> decide
    refine sq305_10 (bWp_mono _) hA ⟨by omega, by omega⟩ ⟨by omega, by omega⟩ ⟨by omega, by omega⟩ rx ⟨⟨t0, t1⟩, fun z => ?_, fun z => ?_⟩
    · have K := h0 z
      generalize hm : 4000 * t + 4 * c + n = M at *
      have M0 : 0 ≤ M ∧ M < 64000 := by omega
      refine ⟨⟨by omega, by omega⟩, ⟨by omega, by omega⟩, ⟨by omega, by omega⟩, ⟨by omega, by omega⟩, M0.1, ⟨by omega, by omega⟩, ?_⟩
      rw [hT]
      have fin : ∀ v : Int, v = T + (if bKbit σ M then 0 else 1) → bRg v → bRg v ∧ (x = 0 → bRn f (.inl (some (.int (bn 2)))) (bw (bw σ 12 111 v) 152 (M / 32) (bOr (bi σ 152 (M / 32)) (bShl 1 (M % 32))))) ∧ (¬ x = 0 → bRn f (.inl (some (.int (bn 0)))) (bw (bw σ 12 111 v) 152 (M / 32) (bOr (bi σ 152 (M / 32)) (bShl 1 (M % 32))))) := fun v hv rv => by
        have Y := K (bw (bw σ 12 111 v) 152 (M / 32) (bOr (bi σ 152 (M / 32)) (bShl 1 (M % 32)))) (bRf_trans bRf_1 bRf_4) (fun j => by rw [bi_ne (by decide), bi_ne (by decide)]) (by rw [bi_ne (by decide), bi_nj (by decide) (by decide) (by decide)]; exact hD) (by rw [bi_ne (by decide), bi_eq rv]; exact hv) (fun p p0 => by
          have e1 : bi (bw σ 12 111 v) 152 (M / 32) = bi σ 152 (M / 32) := bi_ne (by decide)
          rw [← e1, bKbit_w M0.1 p0, bKbit_m (fun j => bi_ne (by decide))])
        rw [← xs] at Y
        refine ⟨rv, fun q => bRn_i (by decide) ?_, fun q => bRn_i (by decide) ?_⟩
        · rw [decide_eq_false (by omega), if_neg (by decide)] at Y; exact Y
        · rw [decide_eq_true (by omega), if_pos rfl] at Y; exact Y
      have bit := b1_32 (x := bi σ 152 (M / 32)) (k := M % 32) (by omega) (by omega)
      refine ⟨fun w => fin (T + 0) ?_ ⟨by omega, by omega⟩, fun w => fin (T + 1) ?_ ⟨by omega, by omega⟩⟩
      · have e : bKbit σ M = true := bit.1 w
        rw [e, if_pos rfl]
      · have e : bKbit σ M = false := by
          cases hb : bKbit σ M with
          | true => exact absurd (bit.2 hb) w
          | false => rfl
        rw [e, if_neg (by decide)]
    · have K := h1 z
      generalize hl : bi σ 93 t = lk at *
      have rlk : bRg lk := by rw [← hl]; exact bi_rg _ _ _
      have Lp : ∀ (m : Nat) (k : Int) (s : bSt) (T D : Int), k + m = 3 → 0 ≤ k → 0 ≤ T → T + m ≤ 110 → bRf σ s → (∀ j, bi s 151 j = bi σ 151 j) → (∀ p, bKbit s p = bKbit σ p) → bi s 12 111 = T → bi s 12 112 = D → 0 ≤ D → D < 2147483648 → (∀ s, bRf σ s → (∀ j, bi s 151 j = bi σ 151 j) → bi s 12 112 = (bLuk lk (bSnd c n) m D).2.2 → bi s 12 111 = T + (bLuk lk (bSnd c n) m D).2.1 → (∀ p, bKbit s p = bKbit σ p) → f (bLuk lk (bSnd c n) m D).1 s) → A (70, [.ref 12, .int (bn t), .int (bn c), .int (bn n), .int (bn x), .int (bn k)], [], s) := by
        intro m
        induction m with
        | zero =>
          intro k s T D hk k0 T0 T1 E e1 eK hT hD D0 D1 K
          refine sq305_70 (bWp_mono _) hA ⟨by omega, by omega⟩ rx ⟨by omega, by omega⟩ ⟨fun w => absurd w (by omega), fun _ => bRn_i (by decide) (K s E e1 hD ?_ eK)⟩
          show bi s 12 111 = T + 0
          rw [hT, Int.add_zero]
        | succ m ih =>
          intro k s T D hk k0 T0 T1 E e1 eK hT hD D0 D1 K
          have s93 : bi s 93 t = lk := (E.2.1 93 (by decide) (by decide) (by decide) t).trans hl
          refine sq305_70 (bWp_mono _) hA ⟨by omega, by omega⟩ rx ⟨by omega, by omega⟩ ⟨fun _ => ⟨by rw [hT]; exact ⟨by omega, by omega⟩, ?_⟩, fun w => absurd (show k < 3 by omega) w⟩
          have r := bDrw_rg (x := D)
          have rD : bRg (bDrw D) := ⟨Int.le_trans (by decide) r.1, r.2⟩
          have rD0 : bRg D := ⟨Int.le_trans (by decide) D0, D1⟩
          have hV : bLi (Int64.ofNat 1103515245 * bL (bi s 12 112) + Int64.ofNat 12345 - (Int64.ofNat 1103515245 * bL (bi s 12 112) + Int64.ofNat 12345) / Int64.ofNat 2147483648 * Int64.ofNat 2147483648) = bDrw D := bLi_eq rD (bDrw_r (by rw [hD]; exact bL_ti rD0) D0 D1)
          rw [hV, hT, s93]
          have E2 : bRf σ (bw (bw s 12 111 (T + 1)) 12 112 (bDrw D)) := bRf_trans E (bRf_trans bRf_1 bRf_2)
          have a1 : bi (bw (bw s 12 111 (T + 1)) 12 112 (bDrw D)) 12 111 = T + 1 := by rw [bi_nj (by decide) (by decide) (by decide), bi_eq ⟨by omega, by omega⟩]
          have a2 : bi (bw (bw s 12 111 (T + 1)) 12 112 (bDrw D)) 12 112 = bDrw D := bi_eq rD
          have a3 : ∀ j, bi (bw (bw s 12 111 (T + 1)) 12 112 (bDrw D)) 151 j = bi σ 151 j := fun j => by rw [bi_ne (by decide), bi_ne (by decide)]; exact e1 j
          have a4 : ∀ p, bKbit (bw (bw s 12 111 (T + 1)) 12 112 (bDrw D)) p = bKbit σ p := fun p => by rw [← eK p]; exact bKbit_m (fun j => by rw [bi_ne (by decide), bi_ne (by decide)])
          generalize bw (bw s 12 111 (T + 1)) 12 112 (bDrw D) = s2 at *
          unfold bLuk at K
          have on : bDrw D / 65536 % 10 < lk ∨ bSnd c n = false → bRg (k + 1) ∧ A (70, [.ref 12, .int (bn t), .int (bn c), .int (bn n), .int (bn x), .int (bn (k + 1))], [], s2) := fun w => by
            rw [if_pos w] at K
            exact ⟨⟨by omega, by omega⟩, ih (k + 1) s2 (T + 1) (bDrw D) (by omega) (by omega) (by omega) (by omega) E2 a3 a4 a1 a2 r.1 r.2 (fun s3 E3 b1 b2 b3 b4 => K s3 E3 b1 b2 (by rw [b3]; show _ = T + (_ + 1); omega) b4)⟩
          refine ⟨r.1, ⟨t0, t1⟩, fun w => on (Or.inl w), fun w => ⟨fun y => on (Or.inr (by rw [← xs]; exact decide_eq_false (by omega))), fun y => ?_⟩⟩
          have x1 : x = 1 := hx.resolve_left y
          rw [if_neg (fun v => v.elim w (fun q => by rw [← xs, decide_eq_true x1] at q; exact absurd q (by decide)))] at K
          have K2 := K s2 E2 a3 a2 (by rw [a1]) a4
          refine ⟨fun q => bRn_i (by decide) ?_, fun q => bRn_i (by decide) ?_⟩
          · rw [if_pos (by omega)] at K2; exact K2
          · rw [if_neg (by omega)] at K2; exact K2
      exact Lp 3 0 σ T D (by decide) (by decide) T0.1 (by omega) bRf_refl (fun _ => rfl) (fun _ => rfl) hT hD D0 D1 K
  refine ⟨fun y => go 0 (Or.inl rfl) ?_, fun y => go 1 (Or.inr rfl) ?_⟩
  · unfold bSnd
    rw [decide_eq_false (by decide), decide_eq_false (fun q => q y)]
  · unfold bSnd
    rw [decide_eq_true rfl, decide_eq_true y]
end

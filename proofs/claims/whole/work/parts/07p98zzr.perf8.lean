/-! WHAT AN ACTION GIVES, 8: the reference does a node now -/
/-- the paths that an item names -/
def bPi (σ : bSt) (x i : Int) : Int → Bool := if bi σ 86 (6 * (x / 256) + i) = 0 then fun p => decide (p = bi σ 87 (6 * (x / 256) + i)) else if bi σ 86 (6 * (x / 256) + i) = 2 then fun _ => false else bFd σ (bi σ 75 (x / 256)) (bi σ 87 (6 * (x / 256) + i)) (bi σ 88 (6 * (x / 256) + i))
def bPs (σ : bSt) (x : Int) : Nat → Int → Bool
  | 0 => fun _ => false
  | n + 1 => fun p => bPs σ x n p || bPi σ x n p
def bMh (σ : bSt) (y : Int) : Int := if bi σ 100 y = -5 then -1 else bi σ 100 y
def bDn (σ s : bSt) : Prop := s.2 = σ.2 ∧ bUn [119, 120] [70, 72] σ s
/-- the contents of a list lie in the reference's array -/
def bHc (σ s : bSt) (L : List Int) : Prop := ∀ i : Nat, i < L.length → bi s 119 i = bCof σ L i
section
variable {d : Nat} {σ s t : bSt} {f : Int → bSt → Prop} {fv : bSt → Prop} {ho p a op v x n i : Int} {F L K : List Int} {c : Int → Int} {m e : Nat} {P Q : Int → Bool}
theorem bOwn_s (h : bi σ 57 p ≠ 0) : bOwn σ p = p := by unfold bOwn; rw [if_neg h]
theorem bPs_ho (hT : bTg σ) (x0 : 0 ≤ x) (ht : bTgk σ (x / 256)) (h : bFx σ x = 0) : ∀ n : Nat, (n : Int) ≤ bi σ 85 (x / 256) → bPho σ (bi σ 75 (x / 256)) (bPs σ x n)
  | 0, _ => fun p _ _ w => absurd (show (false : Bool) = true from w) (by decide)
  | n + 1, hn => fun p p0 p1 w => by
    have w2 : (bPs σ x n p || bPi σ x n p) = true := w
    cases hb : bPs σ x n p with
    | true => exact bPs_ho hT x0 ht h n (by omega) p p0 p1 hb
    | false =>
      rw [hb, Bool.false_or] at w2
      have i0 := bItm_0 hT x0 ht h (i := n) (by omega) (by omega)
      have pk := (bIl_40 (G := fun _ => 0) hT x0 ht h).2.2.2.1
      unfold bPi at w2
      unfold bIf at i0
      by_cases k0 : bi σ 86 (6 * (x / 256) + n) = 0
      · rw [if_pos k0] at w2 i0
        have e := of_decide_eq_true w2
        rw [← e] at i0
        by_cases o : bOwn σ (p / 8) = bi σ 75 (x / 256)
        · exact o
        · rw [if_neg o] at i0; exact absurd i0 (by decide)
      · rw [if_neg k0] at w2
        by_cases k2 : bi σ 86 (6 * (x / 256) + n) = 2
        · rw [if_pos k2] at w2; exact absurd w2 (by decide)
        · rw [if_neg k2] at w2
          unfold bFd at w2
          rcases (of_decide_eq_true w2).1 with z | ⟨_, z⟩
          · rw [z]; exact bOwn_s pk
          · exact z
theorem bDn_refl : bDn σ σ := ⟨rfl, bUn_refl⟩
theorem bDn_trans (h : bDn σ s) (k : bDn s t) : bDn σ t := ⟨k.1.trans h.1, bUn_trans h.2 k.2⟩
theorem bDn_pag (h : bDn σ s) : bPag σ s := ⟨fun a ha i => h.2.1 a (by
    simp only [List.mem_cons, List.not_mem_nil, or_false] at ha ⊢
    omega) (by
    simp only [List.mem_cons, List.not_mem_nil, or_false] at ha
    omega) i, h.2.2.1 17 (by decide) (by decide), h.2.2.1 22 (by decide) (by decide), fun t => h.2.1 (bTi t) (by rw [bTi_m]; decide) (by rw [bTi_m]; decide) 4⟩
theorem bDn_w {j : Int} : bDn σ (bw σ 119 j v) := ⟨rfl, bUn_w bUn_refl (by decide) (by decide)⟩
theorem bDn_o (h : bRoq σ s) : bDn σ s := ⟨h.1, fun a q1 q2 i => h.2.1 a (fun w => q1 (List.mem_cons_of_mem _ w)) q2 i, h.2.2.1, fun a _ _ i => by unfold bj; rw [h.1], fun a _ i => by unfold br; rw [h.1], fun a _ => by rw [h.1]⟩
theorem bHc_0 : bHc σ s [] := fun i h => absurd h (Nat.not_lt_zero _)
theorem bHc_m (h : bHc σ s L) (e : ∀ j, bi t 119 j = bi s 119 j) : bHc σ t L := fun i hi => by rw [e]; exact h i hi
theorem bHc_w {j : Int} (h : bHc σ s L) (hj : (L.length : Int) ≤ j) : bHc σ (bw s 119 j v) L := fun i hi => by
  rw [bi_nj (by omega) (by omega) (by omega)]
  exact h i hi
theorem bCof_app {w : Int} (i : Nat) (hi : i ≤ L.length) : bCof σ (L ++ [w]) i = if i = L.length then (if w < 100 then bi σ 56 w else w - 100) else bCof σ L i := by
  unfold bCof
  rw [Int.toNat_natCast]
  by_cases e : i = L.length
  · rw [if_pos e, e, List.getD_eq_getElem?_getD, List.getElem?_append_right (Nat.le_refl _), Nat.sub_self]
    rfl
  · rw [if_neg e, List.getD_eq_getElem?_getD, List.getElem?_append_left (by omega), ← List.getD_eq_getElem?_getD]
theorem bHc_app {w : Int} (h : bHc σ s L) (hv : v = if w < 100 then bi σ 56 w else w - 100) (rv : bRg v) : bHc σ (bw s 119 (L.length : Int) v) (L ++ [w]) := fun i hi => by
  rw [List.length_append] at hi
  have hi2 : i < L.length + 1 := hi
  rw [bi_bw (by omega) (by omega) rv, bCof_app i (by omega)]
  by_cases e : i = L.length
  · rw [if_pos ⟨rfl, by omega⟩, if_pos e]; exact hv
  · rw [if_neg (fun q => e (by omega)), if_neg e]; exact h i (by omega)
/-- a path more in a set of paths -/
theorem bMk_st {A B : Int → Bool} {p : Int} (p0 : 0 ≤ p) (p1 : p < 48) (hb : B p = true) : bMk (fun k => A k || (B k && decide (k < p))) 48 ||| (Int64.ofNat 1 <<< (bL p &&& 63)) = bMk (fun k => A k || (B k && decide (k < p + 1))) 48 := by
  have := bMk_or (P := fun k => A k || (B k && decide (k < p))) p0 48
  rw [if_pos (show p < ((48 : Nat) : Int) by omega)] at this
  rw [← this]
  congr 1
  funext k
  by_cases e : k = p
  · rw [e, hb, decide_eq_true rfl, decide_eq_true (show p < p + 1 by omega), Bool.or_true, Bool.and_true, Bool.or_true]
  · rw [decide_eq_false e, Bool.or_false]
    by_cases l : k < p
    · rw [decide_eq_true l, decide_eq_true (show k < p + 1 by omega)]
    · rw [decide_eq_false l, decide_eq_false (show ¬ k < p + 1 by omega)]
theorem bMk_sf {A B : Int → Bool} {p : Int} (hb : B p = false) : bMk (fun k => A k || (B k && decide (k < p))) 48 ||| Int64.ofNat 0 = bMk (fun k => A k || (B k && decide (k < p + 1))) 48 := by
  rw [show ∀ y : Int64, y ||| Int64.ofNat 0 = y from fun _ => Int64.or_zero]
  congr 1
  funext k
  by_cases e : k = p
  · rw [e, hb, Bool.false_and, Bool.false_and]
  · by_cases l : k < p
    · rw [decide_eq_true l, decide_eq_true (show k < p + 1 by omega)]
    · rw [decide_eq_false l, decide_eq_false (show ¬ k < p + 1 by omega)]
theorem bMk_x {A B : Int → Bool} : ∀ n : Nat, (∀ k : Int, 0 ≤ k → k < (n : Int) → A k = B k) → bMk A n = bMk B n
  | 0, _ => rfl
  | n + 1, h => by
    unfold bMk
    rw [bMk_x n (fun k k0 k1 => h k k0 (by omega)), h n (by omega) (by omega)]
theorem bGl_le {P : Int → Bool} : ∀ (a b : Nat), a ≤ b → (bGl P a).length ≤ (bGl P b).length := fun a b hab => by
  induction b with
  | zero => rw [Nat.le_zero.1 hab]; exact Nat.le_refl _
  | succ b ihb =>
    by_cases e : a = b + 1
    · rw [e]; exact Nat.le_refl _
    · refine Nat.le_trans (ihb (by omega)) ?_
      show (bGl P b).length ≤ (bGl P b ++ _).length
      rw [List.length_append]
      exact Nat.le_add_right _ _
/-- the inputs of an item that is no target are its paths -/
theorem bIi_pi {M : Int → Int} (k2 : bi σ 86 (6 * (x / 256) + i) ≠ 2) (hw : bi σ 86 (6 * (x / 256) + i) = 0 → 0 ≤ bi σ 87 (6 * (x / 256) + i) ∧ bi σ 87 (6 * (x / 256) + i) < 48) : bIi σ M x i = bGl (bPi σ x i) 48 := by
  unfold bIi bPi
  by_cases k0 : bi σ 86 (6 * (x / 256) + i) = 0
  · rw [if_pos k0, if_pos k0]
    have z := hw k0
    generalize bi σ 87 (6 * (x / 256) + i) = w at *
    have := (bMk_1 ⟨w.toNat, by omega⟩).2
    rw [show (((⟨w.toNat, by omega⟩ : Fin 48).val : Nat) : Int) = w by show ((w.toNat : Nat) : Int) = w; omega] at this
    exact this.symm
  · rw [if_neg k0, if_neg k0, if_neg k2, if_neg k2]
end

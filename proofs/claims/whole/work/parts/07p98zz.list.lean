/-! ACTIONS, 2: their inputs as lists -/
/-- the paths of which P holds, rising -/
def bGl (P : Int → Bool) : Nat → List Int
  | 0 => []
  | n + 1 => bGl P n ++ if P n then [(n : Int)] else []
/-- an item's inputs; Ac: the actions of targets -/
def bIi (σ : bSt) (Ac : Int → Int) (x i : Int) : List Int := if bi σ 86 (6 * (x / 256) + i) = 0 then [bi σ 87 (6 * (x / 256) + i)] else if bi σ 86 (6 * (x / 256) + i) = 2 then [100 + Ac (bNod σ x i)] else bGl (bFd σ (bi σ 75 (x / 256)) (bi σ 87 (6 * (x / 256) + i)) (bi σ 88 (6 * (x / 256) + i))) 48
def bIl (σ : bSt) (Ac : Int → Int) (x : Int) : Nat → List Int
  | 0 => []
  | n + 1 => bIl σ Ac x n ++ bIi σ Ac x n
/-- an array holds a list from place o on -/
def bHl (s : bSt) (a : Nat) (o : Int) (L : List Int) : Prop := ∀ i : Nat, i < L.length → bi s a (o + i) = L.getD i 0
theorem bGl_len {P : Int → Bool} : ∀ n : Nat, ((bGl P n).length : Int) = bCnp P n
  | 0 => rfl
  | n + 1 => by
    unfold bGl bCnp
    rw [List.length_append, Int.natCast_add, bGl_len n]
    cases P n with
    | true => rw [if_pos rfl, if_pos rfl, Int.add_comm]; rfl
    | false => rw [if_neg (by decide), if_neg (by decide), Int.add_comm]; rfl
theorem bHl_0 {s : bSt} {a : Nat} {o : Int} : bHl s a o [] := fun i h => absurd h (Nat.not_lt_zero _)
theorem bHl_app {s : bSt} {a : Nat} {o v : Int} {L : List Int} (h : bHl s a o L) (o0 : 0 ≤ o) (hv : bRg v) : bHl (bw s a (o + L.length) v) a o (L ++ [v]) := fun i hi => by
  rw [List.length_append] at hi
  have hi2 : i < L.length + 1 := hi
  rw [bi_bw (by omega) (by omega) hv]
  by_cases e : i = L.length
  · rw [if_pos ⟨rfl, by omega⟩, e, List.getD_eq_getElem?_getD, List.getElem?_append_right (Nat.le_refl _), Nat.sub_self]
    rfl
  · rw [if_neg (fun q => e (by omega)), List.getD_eq_getElem?_getD, List.getElem?_append_left (by omega), ← List.getD_eq_getElem?_getD]
    exact h i (by omega)
theorem bHl_m {s r : bSt} {a : Nat} {o : Int} {L : List Int} (h : bHl s a o L) (e : ∀ j, bi r a j = bi s a j) : bHl r a o L := fun i hi => by rw [e]; exact h i hi
/-- two arrays that hold lists: alike where the lists are -/
theorem bHl_eq {s r : bSt} {a b : Nat} {o p : Int} {L M : List Int} (h : bHl s a o L) (k : bHl r b p M) (hl : L.length = M.length) : L = M ↔ ∀ i : Nat, i < L.length → bi s a (o + i) = bi r b (p + i) := by
  constructor
  · intro e i hi
    rw [h i hi, k i (by omega), e]
  · intro e
    refine List.ext_getElem hl fun i h1 h2 => ?_
    have := e i h1
    rw [h i h1, k i h2] at this
    rw [List.getD_eq_getElem?_getD, List.getD_eq_getElem?_getD, List.getElem?_eq_getElem h1, List.getElem?_eq_getElem h2] at this
    exact this
section
variable {σ s : bSt} {t x y i q c : Int} {F G : Int → Int}
theorem bIi_len (hT : bTg σ) (ht : bTgk σ (x / 256)) (i0 : 0 ≤ i) (i1 : i < bi σ 85 (x / 256)) : ((bIi σ F x i).length : Int) = if bi σ 86 (6 * (x / 256) + i) = 0 ∨ bi σ 86 (6 * (x / 256) + i) = 2 then 1 else bCnp (bFd σ (bi σ 75 (x / 256)) (bi σ 87 (6 * (x / 256) + i)) (bi σ 88 (6 * (x / 256) + i))) 48 := by
  unfold bIi
  by_cases k0 : bi σ 86 (6 * (x / 256) + i) = 0
  · rw [if_pos k0, if_pos (Or.inl k0)]; rfl
  · rw [if_neg k0]
    by_cases k2 : bi σ 86 (6 * (x / 256) + i) = 2
    · rw [if_pos k2, if_pos (Or.inr k2)]; rfl
    · rw [if_neg k2, if_neg (fun w => w.elim k0 k2), bGl_len]
/-- without an error there are at most 40 inputs -/
theorem bIl_40 (hT : bTg σ) (x0 : 0 ≤ x) (ht : bTgk σ (x / 256)) (h : bFx σ x = 0) : (bIl σ G x (bi σ 85 (x / 256)).toNat).length ≤ 40 ∧ (∀ n : Nat, (n : Int) ≤ bi σ 85 (x / 256) → (bIl σ G x n).length ≤ 40) ∧ (∀ k, 0 ≤ k → k < bi σ 85 (x / 256) → bi σ 86 (6 * (x / 256) + k) = 2 → bFx σ (bNod σ x k) = 0) ∧ bi σ 57 (bi σ 75 (x / 256)) ≠ 0 ∧ bNu σ (x / 256) (x % 256) ≠ -1 ∧ bVe σ (x / 256) (x % 256) ≠ -1 := by
  have ic := bIc_at hT ht
  rw [bFx_s hT x0 ht] at h
  unfold bF1 at h
  by_cases a1 : bi σ 57 (bi σ 75 (x / 256)) = 0
  · rw [if_pos a1] at h; exact absurd h (by decide)
  rw [if_neg a1] at h
  by_cases a2 : bNu σ (x / 256) (x % 256) = -1
  · rw [if_pos a2] at h; exact absurd h (by decide)
  rw [if_neg a2] at h
  by_cases a3 : bVe σ (x / 256) (x % 256) = -1
  · rw [if_pos a3] at h; exact absurd h (by decide)
  rw [if_neg a3] at h
  have L : ∀ (m n : Nat) (q : Int), (n : Int) + m = bi σ 85 (x / 256) → q = ((bIl σ G x n).length : Int) → bFiS σ (bFx σ) (x / 256) (x % 256) m n q = 0 → (∀ n' : Nat, n ≤ n' → (n' : Int) ≤ bi σ 85 (x / 256) → (bIl σ G x n').length ≤ 40) ∧ (bIl σ G x n).length ≤ 40 ∧ (∀ k, (n : Int) ≤ k → k < bi σ 85 (x / 256) → bi σ 86 (6 * (x / 256) + k) = 2 → bFx σ (bNod σ x k) = 0) := by
    intro m
    induction m with
    | zero =>
      intro n q hn hq h
      unfold bFiS at h
      have l40 : (bIl σ G x n).length ≤ 40 := by
        by_cases w : 40 < q
        · rw [if_pos w] at h; exact absurd h (by decide)
        · omega
      refine ⟨fun n' h1 h2 => ?_, l40, fun k k0 k1 => by omega⟩
      have e : n' = n := by omega
      rw [e]; exact l40
    | succ m ih =>
      intro n q hn hq h
      rw [bFiS_s] at h
      by_cases w : bIf σ (bFx σ) (x / 256) (x % 256) n = 0
      · rw [if_pos w] at h
        have e1 : ((bIl σ G x (n + 1)).length : Int) = q + if bi σ 86 (6 * (x / 256) + n) = 0 ∨ bi σ 86 (6 * (x / 256) + n) = 2 then 1 else bCnp (bFd σ (bi σ 75 (x / 256)) (bi σ 87 (6 * (x / 256) + n)) (bi σ 88 (6 * (x / 256) + n))) 48 := by
          show ((bIl σ G x n ++ bIi σ G x n).length : Int) = _
          rw [List.length_append, Int.natCast_add, bIi_len hT ht (by omega) (by omega), hq]
        obtain ⟨i1, i2, i3⟩ := ih (n + 1) _ (by omega) e1.symm h
        have le : (bIl σ G x n).length ≤ (bIl σ G x (n + 1)).length := by
          show _ ≤ (bIl σ G x n ++ bIi σ G x n).length
          rw [List.length_append]
          exact Nat.le_add_right _ _
        refine ⟨fun n' h1 h2 => ?_, Nat.le_trans le i2, fun k k0 k1 hK => ?_⟩
        · by_cases e : n' = n
          · rw [e]; exact Nat.le_trans le i2
          · exact i1 n' (by omega) h2
        · by_cases e : k = n
          · rw [e] at hK ⊢
            unfold bIf at w
            rw [if_neg (by omega), if_pos hK] at w
            by_cases z : bFx σ (bi σ 87 (6 * (x / 256) + n) * 256 + bBw σ (x / 256) (x % 256)) = 0
            · exact z
            · rw [if_neg z] at w
              exfalso
              have br := bBw_rg hT ht (c := x % 256) ⟨by omega, by omega⟩
              obtain ⟨⟨y0, _⟩, _⟩ := bNd_at hT ht (i := n) (by omega) (by omega) hK
              unfold bNod at y0
              omega
          · exact i3 k (by omega) k1 hK
      · rw [if_neg w] at h; exact absurd h w
  obtain ⟨l1, l2, l3⟩ := L (bi σ 85 (x / 256)).toNat 0 0 (by omega) rfl h
  exact ⟨l1 _ (Nat.zero_le _) (by omega), fun n hn => l1 n (Nat.zero_le _) hn, l3, a1, a2, a3⟩
theorem bIl_m (h : bPag σ s) (hT : bTg σ) (ht : bTgk σ (x / 256)) (e : ∀ k, 0 ≤ k → k < bi σ 85 (x / 256) → bi σ 86 (6 * (x / 256) + k) = 2 → G (bNod σ x k) = F (bNod σ x k)) : ∀ n : Nat, (n : Int) ≤ bi σ 85 (x / 256) → bIl s G x n = bIl σ F x n
  | 0, _ => rfl
  | n + 1, hn => by
    show bIl s G x n ++ bIi s G x n = bIl σ F x n ++ bIi σ F x n
    rw [bIl_m h hT ht e n (by omega)]
    congr 1
    unfold bIi
    have en : bNod s x n = bNod σ x n := by unfold bNod; rw [h.1 87 (by decide), bBw_m h]
    rw [h.1 86 (by decide), h.1 87 (by decide), h.1 75 (by decide), h.1 88 (by decide), bFd_p h, en]
    by_cases k0 : bi σ 86 (6 * (x / 256) + n) = 0
    · rw [if_pos k0, if_pos k0]
    · rw [if_neg k0, if_neg k0]
      by_cases k2 : bi σ 86 (6 * (x / 256) + n) = 2
      · rw [if_pos k2, if_pos k2, e n (by omega) (by omega) k2]
      · rw [if_neg k2, if_neg k2]
end
/-- a bit of a set of paths -/
theorem bMk_1 : ∀ W : Fin 48, bMk (fun p => decide (p = (W.val : Int))) 48 = (Int64.ofNat 1 <<< (bL (W.val : Int) &&& 63)) ∧ bGl (fun p => decide (p = (W.val : Int))) 48 = [(W.val : Int)] := by decide +kernel
theorem bMk_s : ∀ p : Fin 48, ((bL (p.val : Int) &&& 63).toBitVec.smod 64).toNat = p.val := by decide +kernel
theorem bNt_mk {P : Int → Bool} : ∀ (n k : Nat), k < n → n ≤ 63 → (bNt (bMk P n) / 2 ^ k) % 2 = if P k then 1 else 0
  | 0, k, h, _ => by omega
  | n + 1, k, h, hn => by
    have i1 := (bCn_pop (P := P) n (by omega)).1
    have e : bNt (bMk P (n + 1)) = bNt (bMk P n) + if P n then 2 ^ n else 0 := by
      show bNt (bif P n then bMk P n ||| (Int64.ofNat 1 <<< (bL n &&& 63)) else bMk P n) = _
      cases hP : P n with
      | false => rw [if_neg (by decide)]; rfl
      | true =>
        rw [if_pos rfl]
        show bNt (bMk P n ||| (Int64.ofNat 1 <<< (bL n &&& 63))) = _
        rw [bNt_or, bNt_1 ⟨n, by omega⟩, Nat.or_comm]
        have := Nat.two_pow_add_eq_or_of_lt i1 1
        rw [Nat.mul_one] at this
        rw [← this]
        exact Nat.add_comm _ _
    rw [e]
    by_cases hk : k = n
    · rw [hk]
      cases P n with
      | true => rw [if_pos rfl, if_pos rfl, Nat.add_div_right _ (Nat.two_pow_pos _), Nat.div_eq_of_lt i1]
      | false => rw [if_neg (by decide), if_neg (by decide), Nat.add_zero, Nat.div_eq_of_lt i1]
    · have ih := bNt_mk (P := P) n k (by omega) (by omega)
      rw [← ih]
      have d2 : ∃ m, (if P n then 2 ^ n else 0) = 2 ^ k * (2 * m) := by
        cases P n with
        | true =>
          refine ⟨2 ^ (n - k - 1), ?_⟩
          rw [if_pos rfl, ← Nat.pow_succ', ← Nat.pow_add]
          congr 1
          omega
        | false => exact ⟨0, by rw [if_neg (by decide)]; rfl⟩
      obtain ⟨m, em⟩ := d2
      rw [em, Nat.add_mul_div_left _ _ (Nat.two_pow_pos _), Nat.add_mul_mod_self_left]
theorem bMk_b {P : Int → Bool} (p : Nat) (hp : p < 48) : bCmp ((bMk P 48 >>> (bL (p : Int) &&& 63)) &&& (Int64.ofNat 1)) (Int64.ofNat 1) = 0 ↔ P p = true := by
  have lt := (bCn_pop (P := P) 48 (by decide)).1
  have nb := bNt_mk (P := P) 48 p hp (by decide)
  have e : bNt ((bMk P 48 >>> (bL (p : Int) &&& 63)) &&& (Int64.ofNat 1)) = if P p then 1 else 0 := by
    rw [bNt_and, ← nb]
    have e1 : bNt (bMk P 48 >>> (bL (p : Int) &&& 63)) = bNt (bMk P 48) / 2 ^ p := by
      show ((bMk P 48).toBitVec.sshiftRight' ((bL (p : Int) &&& 63).toBitVec.smod 64)).toNat = _
      unfold BitVec.sshiftRight'
      rw [bMk_s ⟨p, hp⟩, BitVec.sshiftRight_eq_of_msb_false]
      · rw [BitVec.toNat_ushiftRight, Nat.shiftRight_eq_div_pow]; rfl
      · refine BitVec.msb_eq_false_iff_two_mul_lt.2 ?_
        have : (bMk P 48).toBitVec.toNat < 2 ^ 48 := lt
        omega
    rw [e1]
    have := @Nat.and_one_is_mod (bNt (bMk P 48) / 2 ^ p)
    exact this
  cases hP : P p with
  | true =>
    rw [hP, if_pos rfl] at e
    have : (bMk P 48 >>> (bL (p : Int) &&& 63)) &&& (Int64.ofNat 1) = Int64.ofNat 1 := by
      refine Int64.toBitVec_inj.1 (BitVec.eq_of_toNat_eq ?_)
      exact e
    rw [this, bCmp_self]
    exact ⟨fun _ => rfl, fun _ => rfl⟩
  | false =>
    rw [hP, if_neg (by decide)] at e
    have : (bMk P 48 >>> (bL (p : Int) &&& 63)) &&& (Int64.ofNat 1) = Int64.ofNat 0 := by
      refine Int64.toBitVec_inj.1 (BitVec.eq_of_toNat_eq ?_)
      exact e
    rw [this]
    exact ⟨fun w => absurd w (by decide), fun w => absurd w (by decide)⟩

/-! WHAT AN ACTION GIVES: sums, what is looked at -/
theorem bOr_asc {a b c : Int64} : a ||| b ||| c = a ||| (b ||| c) := Int64.toBitVec_inj.1 (by simp only [Int64.toBitVec_or]; exact BitVec.or_assoc _ _ _)
theorem bOr_cm {a b : Int64} : a ||| b = b ||| a := Int64.toBitVec_inj.1 (by simp only [Int64.toBitVec_or]; exact BitVec.or_comm _ _)
theorem bOr_id {a : Int64} : a ||| a = a := Int64.toBitVec_inj.1 (by simp only [Int64.toBitVec_or]; exact BitVec.or_self)
theorem bMk_or {P : Int → Bool} {p : Int} (p0 : 0 ≤ p) : ∀ n : Nat, bMk (fun k => P k || decide (k = p)) n = if p < (n : Int) then bMk P n ||| (Int64.ofNat 1 <<< (bL p &&& 63)) else bMk P n
  | 0 => by rw [if_neg (by omega)]; rfl
  | n + 1 => by
    have ih := bMk_or (P := P) p0 n
    show (bif (P n || decide ((n : Int) = p)) then bMk (fun k => P k || decide (k = p)) n ||| (Int64.ofNat 1 <<< (bL n &&& 63)) else bMk (fun k => P k || decide (k = p)) n) = if p < ((n + 1 : Nat) : Int) then (bif P n then bMk P n ||| (Int64.ofNat 1 <<< (bL n &&& 63)) else bMk P n) ||| (Int64.ofNat 1 <<< (bL p &&& 63)) else (bif P n then bMk P n ||| (Int64.ofNat 1 <<< (bL n &&& 63)) else bMk P n)
    rw [ih]
    by_cases e : (n : Int) = p
    · rw [if_neg (show ¬ p < (n : Int) by omega), if_pos (show p < ((n + 1 : Nat) : Int) by omega), decide_eq_true e, Bool.or_true, ← e]
      cases P n with
      | true => show bMk P n ||| _ = bMk P n ||| _ ||| _; rw [bOr_asc, bOr_id]
      | false => rfl
    · rw [decide_eq_false e, Bool.or_false]
      by_cases l : p < (n : Int)
      · rw [if_pos l, if_pos (show p < ((n + 1 : Nat) : Int) by omega)]
        cases P n with
        | true => show bMk P n ||| _ ||| _ = bMk P n ||| _ ||| _; rw [bOr_asc, bOr_asc, bOr_cm (a := Int64.ofNat 1 <<< (bL p &&& 63))]
        | false => rfl
      · rw [if_neg l, if_neg (show ¬ p < ((n + 1 : Nat) : Int) by omega)]
/-- the sum by the operation -/
def bAcc (op : Int) (c : Int → Int) : Nat → Int
  | 0 => 0
  | n + 1 => bAcc op c n + if op = 0 then ((n : Int) + 1) * c n else if op = 1 then c n / 10 else if op = 4 ∨ op = 5 then c n else 0
def bGrt (c : Int → Int) : Nat → Int
  | 0 => 0
  | n + 1 => max (bGrt c n) (c n)
/-- what is seen at a path -/
def bSn (σ : bSt) (ho p : Int) : Int := if bi σ 12 68 = 0 ∨ bOwn σ (p / 8) = ho then bi σ 56 p else -1
/-- it was found already -/
def bFin2 (F : List Int) (p : Int) : Bool := F.any (fun w => decide (w / 1001 = p))
/-- what a content points to, followed; what is found, the contents seen -/
def bFol (σ : bSt) (ho : Int) : Nat → Int → List Int → List Int × Int
  | 0, _, F => (F, 0)
  | n + 1, a, F => if a < 500 then (F, 0) else if bFin2 F (a % 48) then (F, 0) else ((bFol σ ho n (max (bSn σ ho (a % 48)) 0) (F ++ [1001 * (a % 48) + bSn σ ho (a % 48) + 1])).1, max (bSn σ ho (a % 48)) 0 + (bFol σ ho n (max (bSn σ ho (a % 48)) 0) (F ++ [1001 * (a % 48) + bSn σ ho (a % 48) + 1])).2)
def bLka (σ : bSt) (ho : Int) (c : Int → Int) : Nat → List Int × Int
  | 0 => ([], 0)
  | n + 1 => ((bFol σ ho 48 (c n) (bLka σ ho c n).1).1, (bLka σ ho c n).2 + (bFol σ ho 48 (c n) (bLka σ ho c n).1).2)
/-- what is found is in order: no path twice -/
def bFok (F : List Int) : Prop := (∀ w ∈ F, 0 ≤ w ∧ w < 48048) ∧ (F.length : Int) = bCnp (bFin2 F) 48
/-- the content that comes; -1: it fails -/
def bGiv (σ : bSt) (op n ho : Int) (c : Int → Int) (m : Nat) : Int := if op = 4 then (if (n + bAcc op c m) % 7 = 0 then -1 else n % 1000) else if op = 5 then (n + bAcc op c m + (bLka σ ho c m).2) % 1000 else if op = 2 then (n + bAcc op c m + bGrt c m) % 1000 else if op = 3 then (n + bAcc op c m + m) % 1000 else (n + bAcc op c m) % 1000
section
variable {σ s : bSt} {ho p a op : Int} {F : List Int} {c : Int → Int} {m : Nat}
theorem bSn_rg (hF : bFi σ) (p0 : 0 ≤ p) (p1 : p < 48) : -1 ≤ bSn σ ho p ∧ bSn σ ho p < 1000 := by
  unfold bSn
  split
  · exact (hF.1 p p0 p1).2
  · decide
theorem bFin2_app {w q : Int} : bFin2 (F ++ [w]) q = (bFin2 F q || decide (w / 1001 = q)) := by
  unfold bFin2
  rw [List.any_append]
  simp
theorem bFok_0 : bFok [] := ⟨fun w h => absurd h List.not_mem_nil, by decide⟩
theorem bFok_app (hF : bFi σ) (p0 : 0 ≤ p) (p1 : p < 48) (h : bFok F) (nf : bFin2 F p = false) : bFok (F ++ [1001 * p + bSn σ ho p + 1]) ∧ F.length < 48 := by
  have r := bSn_rg (ho := ho) hF p0 p1
  have e : (1001 * p + bSn σ ho p + 1) / 1001 = p := by omega
  have c1 : bCnp (bFin2 (F ++ [1001 * p + bSn σ ho p + 1])) 48 = bCnp (bFin2 F) 48 + 1 := by
    refine bCn_a (y := p) 48 p0 p1 (fun k _ _ kn => ?_) nf ?_
    · rw [bFin2_app, e, decide_eq_false (fun z => kn z.symm), Bool.or_false]
    · rw [bFin2_app, e, decide_eq_true rfl, Bool.or_true]
  have b := bCn_b (P := bFin2 (F ++ [1001 * p + bSn σ ho p + 1])) 48
  have hl := h.2
  refine ⟨⟨fun w hw => ?_, ?_⟩, by omega⟩
  · rcases List.mem_append.1 hw with z | z
    · exact h.1 w z
    · rw [List.mem_singleton.1 z]; omega
  · rw [c1, List.length_append]
    have : ([1001 * p + bSn σ ho p + 1] : List Int).length = 1 := rfl
    omega
theorem bCnp_full {P : Int → Bool} : ∀ n : Nat, bCnp P n = n → ∀ k, 0 ≤ k → k < (n : Int) → P k = true
  | 0, _, k, k0, k1 => by omega
  | n + 1, h, k, k0, k1 => by
    have b := bCn_b (P := P) n
    have e : bCnp P (n + 1) = (if P n then 1 else 0) + bCnp P n := rfl
    rw [e] at h
    cases hb : P n with
    | true =>
      rw [hb, if_pos rfl] at h
      by_cases z : k = n
      · rw [z]; exact hb
      · exact bCnp_full n (by omega) k k0 (by omega)
    | false =>
      rw [hb, if_neg (by decide)] at h
      omega
/-- with all paths found nothing more is -/
theorem bFok_48 (h : bFok F) (hl : 48 ≤ F.length) (p0 : 0 ≤ p) (p1 : p < 48) : bFin2 F p = true := by
  have b := bCn_b (P := bFin2 F) 48
  have := h.2
  exact bCnp_full 48 (by omega) p p0 p1
theorem bFol_ok (hF : bFi σ) : ∀ (n : Nat) (a : Int) (F : List Int), bFok F → bFok (bFol σ ho n a F).1 ∧ F.length ≤ (bFol σ ho n a F).1.length ∧ 0 ≤ (bFol σ ho n a F).2 ∧ (bFol σ ho n a F).2 ≤ 1000 * (((bFol σ ho n a F).1.length : Int) - F.length)
  | 0, a, F, h => by
    unfold bFol
    exact ⟨h, Nat.le_refl _, Int.le_refl _, by simp⟩
  | n + 1, a, F, h => by
    unfold bFol
    by_cases w : a < 500
    · rw [if_pos w]; exact ⟨h, Nat.le_refl _, Int.le_refl _, by simp⟩
    · rw [if_neg w]
      by_cases w2 : bFin2 F (a % 48) = true
      · rw [if_pos w2]; exact ⟨h, Nat.le_refl _, Int.le_refl _, by simp⟩
      · rw [if_neg w2]
        have r := bSn_rg (ho := ho) (p := a % 48) hF (by omega) (by omega)
        obtain ⟨k1, k2⟩ := bFok_app (ho := ho) (p := a % 48) hF (by omega) (by omega) h (by simpa using w2)
        obtain ⟨g1, g2, g3, g4⟩ := bFol_ok hF n (max (bSn σ ho (a % 48)) 0) _ k1
        rw [List.length_append] at g2 g4
        have l1 : ([1001 * (a % 48) + bSn σ ho (a % 48) + 1] : List Int).length = 1 := rfl
        generalize bFol σ ho n (max (bSn σ ho (a % 48)) 0) (F ++ [1001 * (a % 48) + bSn σ ho (a % 48) + 1]) = R at *
        refine ⟨g1, by show F.length ≤ R.1.length; omega, by show 0 ≤ max (bSn σ ho (a % 48)) 0 + R.2; omega, ?_⟩
        show max (bSn σ ho (a % 48)) 0 + R.2 ≤ 1000 * ((R.1.length : Int) - F.length)
        omega
theorem bLka_ok (hF : bFi σ) : ∀ n : Nat, bFok (bLka σ ho c n).1 ∧ 0 ≤ (bLka σ ho c n).2 ∧ (bLka σ ho c n).2 ≤ 1000 * (bLka σ ho c n).1.length
  | 0 => ⟨bFok_0, by show (0 : Int) ≤ 0; decide, by show (0 : Int) ≤ 1000 * (([] : List Int).length : Int); decide⟩
  | n + 1 => by
    obtain ⟨h1, h2, h3⟩ := bLka_ok hF n
    obtain ⟨g1, g2, g3, g4⟩ := bFol_ok (ho := ho) hF 48 (c n) _ h1
    refine ⟨g1, ?_, ?_⟩
    · show 0 ≤ (bLka σ ho c n).2 + (bFol σ ho 48 (c n) (bLka σ ho c n).1).2
      omega
    · show (bLka σ ho c n).2 + (bFol σ ho 48 (c n) (bLka σ ho c n).1).2 ≤ 1000 * ((bFol σ ho 48 (c n) (bLka σ ho c n).1).1.length : Int)
      omega
theorem bFok_len (h : bFok F) : F.length ≤ 48 := by
  have b := bCn_b (P := bFin2 F) 48
  have := h.2
  omega
theorem bAcc_rg (hc : ∀ i, 0 ≤ i → i < (m : Int) → 0 ≤ c i ∧ c i < 1000) (hm : m ≤ 40) : ∀ n : Nat, n ≤ m → 0 ≤ bAcc op c n ∧ bAcc op c n ≤ 40000 * n
  | 0, _ => ⟨Int.le_refl _, Int.le_refl _⟩
  | n + 1, hn => by
    have ih := bAcc_rg hc hm n (by omega)
    have hcn := hc n (by omega) (by omega)
    unfold bAcc
    split
    · have h1 : 0 ≤ ((n : Int) + 1) * c n := Int.mul_nonneg (by omega) hcn.1
      have h2 : ((n : Int) + 1) * c n ≤ 40 * 999 := Int.mul_le_mul (by omega) (by omega) hcn.1 (by decide)
      omega
    split
    · omega
    split
    · omega
    · omega
theorem bGrt_rg (hc : ∀ i, 0 ≤ i → i < (m : Int) → 0 ≤ c i ∧ c i < 1000) : ∀ n : Nat, n ≤ m → 0 ≤ bGrt c n ∧ bGrt c n < 1000
  | 0, _ => by unfold bGrt; decide
  | n + 1, hn => by
    have ih := bGrt_rg hc n (by omega)
    have hcn := hc n (by omega) (by omega)
    unfold bGrt
    omega
end

/-! BUILD, 2: keys of entries; the contents that they give -/
/-- a key: operation, number, version, contents of inputs, what was found -/
abbrev bKy : Type := Int × Int × Int × List Int × List Int
/-- the model: the numbers of actions, of what runs, of workers, bytes and what is told; the caches' keys; what is kept -/
abbrev bZs : Type := (Nat → Int → Int) × List bKy × List bKy × (Int → Option bKy)
def zw (Z : bZs) (a : Nat) (i v : Int) : bZs := (fun a' i' => if a' = a ∧ i' = i then v else Z.1 a' i', Z.2)
theorem zw_e {Z : bZs} {a : Nat} {i v : Int} : (zw Z a i v).1 a i = v := if_pos ⟨rfl, rfl⟩
theorem zw_a {Z : bZs} {a b : Nat} {i j v : Int} (h : b ≠ a) : (zw Z a i v).1 b j = Z.1 b j := if_neg fun q => h q.1
theorem zw_i {Z : bZs} {a b : Nat} {i j v : Int} (h : j ≠ i) : (zw Z a i v).1 b j = Z.1 b j := if_neg fun q => h q.2
theorem zw_w {Z : bZs} {a b : Nat} {i j v : Int} : (zw Z a i v).1 b j = if b = a ∧ j = i then v else Z.1 b j := rfl
/-- the content of input i of action a -/
def bzC (σ : bSt) (Z : bZs) (a i : Int) : Int := if Z.1 106 (40 * a + i) < 100 then bi σ 56 (Z.1 106 (40 * a + i)) else Z.1 112 (Z.1 106 (40 * a + i) - 100)
def bzL (σ : bSt) (Z : bZs) (a : Int) : List Int := (List.range (Z.1 105 a).toNat).map (fun k : Nat => bzC σ Z a (k : Int))
def bzF (σ : bSt) (Z : bZs) (a : Int) : List Int := bFnn σ (Z.1 101 a) (Z.1 104 a) (bzC σ Z a) (Z.1 105 a).toNat
def bzK (σ : bSt) (Z : bZs) (a : Int) : bKy := (Z.1 101 a, Z.1 102 a, Z.1 103 a, bzL σ Z a, bzF σ Z a)
def bzV (σ : bSt) (Z : bZs) (a : Int) : Int := bGiv σ (Z.1 101 a) (Z.1 102 a + Z.1 103 a) (Z.1 104 a) (bzC σ Z a) (Z.1 105 a).toNat
def bzX (σ : bSt) (Z : bZs) (a : Int) : Int := bEls σ (Z.1 104 a) (bzF σ Z a)
/-- contents, out of their list -/
def bzLf (L : List Int) (i : Int) : Int := L.getD i.toNat 0
/-- the sum of what was seen -/
def bSsm : List Int → Int
  | [] => 0
  | w :: F => max (w % 1001 - 1) 0 + bSsm F
/-- the content that an entry gives -/
def bKv (K : bKy) : Int :=
  if K.1 = 4 then (if (K.2.1 + K.2.2.1 + bAcc K.1 (bzLf K.2.2.2.1) K.2.2.2.1.length) % 7 = 0 then -1 else (K.2.1 + K.2.2.1) % 1000)
  else if K.1 = 5 then (K.2.1 + K.2.2.1 + bAcc K.1 (bzLf K.2.2.2.1) K.2.2.2.1.length + bSsm K.2.2.2.2) % 1000
  else if K.1 = 2 then (K.2.1 + K.2.2.1 + bAcc K.1 (bzLf K.2.2.2.1) K.2.2.2.1.length + bGrt (bzLf K.2.2.2.1) K.2.2.2.1.length) % 1000
  else if K.1 = 3 then (K.2.1 + K.2.2.1 + bAcc K.1 (bzLf K.2.2.2.1) K.2.2.2.1.length + K.2.2.2.1.length) % 1000
  else (K.2.1 + K.2.2.1 + bAcc K.1 (bzLf K.2.2.2.1) K.2.2.2.1.length) % 1000
/-- what a content points to, followed, by any seeing S -/
def bFolS (S : Int → Int) : Nat → Int → List Int → List Int
  | 0, _, F => F
  | n + 1, a, F => if a < 500 then F else if bFin2 F (a % 48) then F else bFolS S n (max (S (a % 48)) 0) (F ++ [1001 * (a % 48) + S (a % 48) + 1])
def bLkaS (S : Int → Int) (c : Int → Int) : Nat → List Int
  | 0 => []
  | n + 1 => bFolS S 48 (c n) (bLkaS S c n)
/-- a key that came of some seeing -/
def bKok (K : bKy) : Prop := (K.1 ≠ 5 → K.2.2.2.2 = []) ∧ (K.1 = 5 → ∃ S : Int → Int, (∀ p, 0 ≤ p → p < 48 → -1 ≤ S p ∧ S p < 1000) ∧ K.2.2.2.2 = bLkaS S (bzLf K.2.2.2.1) K.2.2.2.1.length)
section
variable {σ s : bSt} {Z : bZs} {ho a op : Int} {F : List Int} {c e : Int → Int} {S T : Int → Int}
theorem bSsm_app : ∀ {F G : List Int}, bSsm (F ++ G) = bSsm F + bSsm G
  | [], G => by show bSsm G = 0 + bSsm G; omega
  | w :: F, G => by
    show max (w % 1001 - 1) 0 + bSsm (F ++ G) = max (w % 1001 - 1) 0 + bSsm F + bSsm G
    rw [bSsm_app (F := F) (G := G)]; omega
theorem bFolS_e : ∀ (n : Nat) (a : Int) (F : List Int), (bFol σ ho n a F).1 = bFolS (bSn σ ho) n a F
  | 0, _, _ => rfl
  | n + 1, a, F => by
    unfold bFol bFolS
    by_cases w : a < 500
    · rw [if_pos w, if_pos w]
    · rw [if_neg w, if_neg w]
      by_cases w2 : bFin2 F (a % 48) = true
      · rw [if_pos w2, if_pos w2]
      · rw [if_neg w2, if_neg w2]
        exact bFolS_e n _ _
theorem bLkaS_e : ∀ n : Nat, (bLka σ ho c n).1 = bLkaS (bSn σ ho) c n
  | 0 => rfl
  | n + 1 => by
    show (bFol σ ho 48 (c n) (bLka σ ho c n).1).1 = bFolS (bSn σ ho) 48 (c n) (bLkaS (bSn σ ho) c n)
    rw [bLkaS_e n, bFolS_e]
theorem bFol_sum (hF : bFi σ) : ∀ (n : Nat) (a : Int) (F : List Int), bSsm (bFol σ ho n a F).1 = bSsm F + (bFol σ ho n a F).2
  | 0, _, _ => (Int.add_zero _).symm
  | n + 1, a, F => by
    unfold bFol
    by_cases w : a < 500
    · rw [if_pos w]; exact (Int.add_zero _).symm
    · rw [if_neg w]
      by_cases w2 : bFin2 F (a % 48) = true
      · rw [if_pos w2]; exact (Int.add_zero _).symm
      · rw [if_neg w2]
        have ih := bFol_sum hF n (max (bSn σ ho (a % 48)) 0) (F ++ [1001 * (a % 48) + bSn σ ho (a % 48) + 1])
        have r := bSn_rg (ho := ho) (p := a % 48) hF (by omega) (by omega)
        have e : bSsm [1001 * (a % 48) + bSn σ ho (a % 48) + 1] = max ((1001 * (a % 48) + bSn σ ho (a % 48) + 1) % 1001 - 1) 0 + 0 := rfl
        rw [bSsm_app, e] at ih
        show bSsm (bFol σ ho n (max (bSn σ ho (a % 48)) 0) (F ++ [1001 * (a % 48) + bSn σ ho (a % 48) + 1])).1 = bSsm F + (max (bSn σ ho (a % 48)) 0 + (bFol σ ho n (max (bSn σ ho (a % 48)) 0) (F ++ [1001 * (a % 48) + bSn σ ho (a % 48) + 1])).2)
        rw [ih, show (1001 * (a % 48) + bSn σ ho (a % 48) + 1) % 1001 = bSn σ ho (a % 48) + 1 by omega, show bSn σ ho (a % 48) + 1 - 1 = bSn σ ho (a % 48) by omega]
        omega
theorem bLka_sum (hF : bFi σ) : ∀ n : Nat, bSsm (bLka σ ho c n).1 = (bLka σ ho c n).2
  | 0 => rfl
  | n + 1 => by
    show bSsm (bFol σ ho 48 (c n) (bLka σ ho c n).1).1 = (bLka σ ho c n).2 + (bFol σ ho 48 (c n) (bLka σ ho c n).1).2
    rw [bFol_sum hF, bLka_sum hF n]
theorem bAcc_x : ∀ n : Nat, (∀ i : Nat, i < n → c i = e i) → bAcc op c n = bAcc op e n
  | 0, _ => rfl
  | n + 1, h => by unfold bAcc; rw [bAcc_x n (fun i hi => h i (by omega)), h n (by omega)]
theorem bGrt_x : ∀ n : Nat, (∀ i : Nat, i < n → c i = e i) → bGrt c n = bGrt e n
  | 0, _ => rfl
  | n + 1, h => by unfold bGrt; rw [bGrt_x n (fun i hi => h i (by omega)), h n (by omega)]
theorem bLkaS_x : ∀ n : Nat, (∀ i : Nat, i < n → c i = e i) → bLkaS S c n = bLkaS S e n
  | 0, _ => rfl
  | n + 1, h => by unfold bLkaS; rw [bLkaS_x n (fun i hi => h i (by omega)), h n (by omega)]
theorem bzL_len : (bzL σ Z a).length = (Z.1 105 a).toNat := by unfold bzL; rw [List.length_map, List.length_range]
theorem bzL_at {i : Nat} (hi : i < (Z.1 105 a).toNat) : (bzL σ Z a).getD i 0 = bzC σ Z a i := by
  unfold bzL
  rw [List.getD_eq_getElem?_getD, List.getElem?_map, List.getElem?_range hi]
  rfl
theorem bzL_fn : ∀ i : Nat, i < (Z.1 105 a).toNat → bzC σ Z a i = bzLf (bzL σ Z a) i := fun i hi => by
  unfold bzLf
  rw [Int.toNat_natCast, bzL_at hi]
/-- an action gives what its key says -/
theorem bzV_k (hF : bFi σ) : bzV σ Z a = bKv (bzK σ Z a) := by
  unfold bzV bKv bGiv bzK
  rw [bzL_len, bAcc_x (e := bzLf (bzL σ Z a)) _ bzL_fn, bGrt_x (e := bzLf (bzL σ Z a)) _ bzL_fn]
  by_cases h4 : Z.1 101 a = 4
  · rw [if_pos h4, if_pos h4]
  · rw [if_neg h4, if_neg h4]
    by_cases h5 : Z.1 101 a = 5
    · rw [if_pos h5, if_pos h5, ← bLka_sum hF]
      unfold bzF bFnn
      rw [if_pos h5]
    · rw [if_neg h5, if_neg h5]
theorem bKok_z (hF : bFi σ) : bKok (bzK σ Z a) := by
  refine ⟨fun h => ?_, fun h => ⟨bSn σ (Z.1 104 a), fun p p0 p1 => bSn_rg hF p0 p1, ?_⟩⟩
  · show bzF σ Z a = []
    unfold bzF bFnn
    rw [if_neg (show ¬ Z.1 101 a = 5 from h)]
  · show bzF σ Z a = bLkaS _ _ (bzL σ Z a).length
    unfold bzF bFnn
    rw [if_pos (show Z.1 101 a = 5 from h), bLkaS_e, bzL_len]
    exact bLkaS_x _ bzL_fn
/-- what was found grows; of each thing found its path and what was seen -/
theorem bFolS_sub : ∀ (n : Nat) (a : Int) (F : List Int), ∃ G, bFolS S n a F = F ++ G
  | 0, _, F => ⟨[], (List.append_nil _).symm⟩
  | n + 1, a, F => by
    unfold bFolS
    by_cases w : a < 500
    · rw [if_pos w]; exact ⟨[], (List.append_nil _).symm⟩
    · rw [if_neg w]
      by_cases w2 : bFin2 F (a % 48) = true
      · rw [if_pos w2]; exact ⟨[], (List.append_nil _).symm⟩
      · rw [if_neg w2]
        obtain ⟨G, e⟩ := bFolS_sub n (max (S (a % 48)) 0) (F ++ [1001 * (a % 48) + S (a % 48) + 1])
        exact ⟨[1001 * (a % 48) + S (a % 48) + 1] ++ G, by rw [e, List.append_assoc]⟩
/-- if all that was found is seen so by T too, T finds the same -/
theorem bFolS_t (hS : ∀ p, 0 ≤ p → p < 48 → -1 ≤ S p ∧ S p < 1000) : ∀ (n : Nat) (a : Int) (F : List Int), (∀ w ∈ bFolS S n a F, T (w / 1001) = w % 1001 - 1) → bFolS T n a F = bFolS S n a F
  | 0, _, _, _ => rfl
  | n + 1, a, F, h => by
    unfold bFolS at h ⊢
    by_cases w : a < 500
    · rw [if_pos w, if_pos w]
    · rw [if_neg w] at h
      rw [if_neg w, if_neg w]
      by_cases w2 : bFin2 F (a % 48) = true
      · rw [if_pos w2, if_pos w2]
      · rw [if_neg w2] at h
        rw [if_neg w2, if_neg w2]
        obtain ⟨G, e⟩ := bFolS_sub (S := S) n (max (S (a % 48)) 0) (F ++ [1001 * (a % 48) + S (a % 48) + 1])
        have r := hS (a % 48) (by omega) (by omega)
        have k := h (1001 * (a % 48) + S (a % 48) + 1) (by rw [e]; exact List.mem_append_left _ (List.mem_append_right _ List.mem_cons_self))
        rw [show (1001 * (a % 48) + S (a % 48) + 1) / 1001 = a % 48 by omega, show (1001 * (a % 48) + S (a % 48) + 1) % 1001 - 1 = S (a % 48) by omega] at k
        rw [k]
        exact bFolS_t hS n _ _ h
theorem bLkaS_t (hS : ∀ p, 0 ≤ p → p < 48 → -1 ≤ S p ∧ S p < 1000) : ∀ n : Nat, (∀ w ∈ bLkaS S c n, T (w / 1001) = w % 1001 - 1) → bLkaS T c n = bLkaS S c n
  | 0, _ => rfl
  | n + 1, h => by
    have h2 : ∀ w ∈ bFolS S 48 (c n) (bLkaS S c n), T (w / 1001) = w % 1001 - 1 := h
    show bFolS T 48 (c n) (bLkaS T c n) = bFolS S 48 (c n) (bLkaS S c n)
    obtain ⟨G, e⟩ := bFolS_sub (S := S) 48 (c n) (bLkaS S c n)
    rw [bLkaS_t hS n (fun w hw => h2 w (by rw [e]; exact List.mem_append_left _ hw))]
    exact bFolS_t hS 48 _ _ h2
/-- all that S finds is what S sees -/
theorem bFolS_own (hS : ∀ p, 0 ≤ p → p < 48 → -1 ≤ S p ∧ S p < 1000) : ∀ (n : Nat) (a : Int) (F : List Int), (∀ w ∈ F, (0 ≤ w ∧ w < 48048) ∧ S (w / 1001) = w % 1001 - 1) → ∀ w ∈ bFolS S n a F, (0 ≤ w ∧ w < 48048) ∧ S (w / 1001) = w % 1001 - 1
  | 0, _, _, h => h
  | n + 1, a, F, h => by
    unfold bFolS
    by_cases w : a < 500
    · rw [if_pos w]; exact h
    · rw [if_neg w]
      by_cases w2 : bFin2 F (a % 48) = true
      · rw [if_pos w2]; exact h
      · rw [if_neg w2]
        refine bFolS_own hS n _ _ (fun y hy => ?_)
        rcases List.mem_append.1 hy with q | q
        · exact h y q
        · have r := hS (a % 48) (by omega) (by omega)
          rw [List.mem_singleton.1 q, show (1001 * (a % 48) + S (a % 48) + 1) / 1001 = a % 48 by omega, show (1001 * (a % 48) + S (a % 48) + 1) % 1001 - 1 = S (a % 48) by omega]
          exact ⟨by omega, rfl⟩
theorem bLkaS_own (hS : ∀ p, 0 ≤ p → p < 48 → -1 ≤ S p ∧ S p < 1000) : ∀ n : Nat, ∀ w ∈ bLkaS S c n, (0 ≤ w ∧ w < 48048) ∧ S (w / 1001) = w % 1001 - 1
  | 0 => fun w h => absurd h List.not_mem_nil
  | n + 1 => bFolS_own hS 48 (c n) _ (bLkaS_own hS n)
/-- an entry with the action's operation, number, version and contents fits it just if its key is the action's -/
theorem bzK_fit (hF : bFi σ) {K : bKy} (hK : bKok K) (e1 : K.1 = Z.1 101 a) (e2 : K.2.1 = Z.1 102 a) (e3 : K.2.2.1 = Z.1 103 a) (e4 : K.2.2.2.1 = bzL σ Z a) : (∀ w ∈ K.2.2.2.2, bSn σ (Z.1 104 a) (w / 1001) = w % 1001 - 1) ↔ K = bzK σ Z a := by
  obtain ⟨k1, k2⟩ := hK
  constructor
  · intro h
    have e5 : K.2.2.2.2 = bzF σ Z a := by
      unfold bzF bFnn
      by_cases o : K.1 = 5
      · obtain ⟨S, hS, e⟩ := k2 o
        rw [if_pos (e1 ▸ o), bLkaS_e]
        rw [e] at h
        rw [e, ← bLkaS_t hS _ h, e4, bzL_len]
        exact (bLkaS_x _ bzL_fn).symm
      · rw [if_neg (e1 ▸ o)]; exact k1 o
    obtain ⟨a1, a2, a3, a4, a5⟩ := K
    unfold bzK
    rw [← e1, ← e2, ← e3, ← e4, ← e5]
  · intro h
    rw [h]
    intro w hw
    have hw2 : w ∈ bzF σ Z a := hw
    unfold bzF bFnn at hw2
    by_cases o : Z.1 101 a = 5
    · rw [if_pos o, bLkaS_e] at hw2
      exact (bLkaS_own (fun p p0 p1 => bSn_rg hF p0 p1) _ w hw2).2
    · rw [if_neg o] at hw2
      exact absurd hw2 List.not_mem_nil
theorem bzF_ok (hF : bFi σ) : bFok (bzF σ Z a) := by
  unfold bzF bFnn
  by_cases o : Z.1 101 a = 5
  · rw [if_pos o]; exact (bLka_ok hF _).1
  · rw [if_neg o]; exact bFok_0
end

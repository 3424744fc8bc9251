/-! RULES' EVALUATION, 19: why it fails is the same on both sides -/
section
variable {d : Nat} {s t u r r1 : bSt} {g : Int → bSt → Prop} {f x y k n m p v w o j l a i K N M O z vm : Int}
theorem n218w (hf : 0 ≤ f ∧ f < 6) (m1 : bi u 40 f = 1) (R : bEvR u r) (ok : bEvOk u) (st : bStm K N M O) (eK : bi u 35 a = K) (eN : bi u 36 a = N) (eM : bi u 37 a = M) (eO : bi u 38 a = O) (hm : m = if K = 1 then 8 * O + M else if K = 0 then 8 * f else 8 * f + M) (hvm : vm = if K = 1 then bi u 39 (O * 8 + M) else bi u 39 (f * 8 + M)) (ev : bi u 39 (f * 8 + N) = v) (W1 : K = 1 → bi r 65 O = 2) :
    (bThg v (bi r 60 (8 * f + N)) (bi r 61 (8 * f + N)) ∧ -1 ≤ v ∧ v < 1000 + bi u 7 12) ∧ (K ≠ 0 → bThg vm (bi r 60 m) (bi r 61 m) ∧ -1 ≤ vm ∧ vm < 1000 + bi u 7 12) ∧
    (bi r 60 (8 * f + N) = 2 → (0 ≤ bi r 61 (8 * f + N) ∧ bi r 61 (8 * f + N) < bi u 7 12) ∧ bi r 61 (8 * f + N) = v - 1000 ∧ bi r 62 (bi r 61 (8 * f + N)) = bi u 44 (v - 1000) ∧ bi r 63 (bi r 61 (8 * f + N)) = bi u 43 (v - 1000) ∧ 0 ≤ bi u 43 (v - 1000) ∧ bi u 43 (v - 1000) ≤ 8) := by
  obtain ⟨s1, s2, s3, ⟨s4, s5, s6⟩⟩ := st
  have hMk : K ≠ 0 → 0 ≤ M ∧ M < 8 := fun w => by
    by_cases t : bTks K
    · exact s2 t
    · have := s5 t
      rw [if_neg w] at this
      omega
  obtain ⟨o1, o2, o3⟩ := ok
  have Tn : bThg v (bi r 60 (8 * f + N)) (bi r 61 (8 * f + N)) := by
    rw [← ev]
    exact ((R.1 f hf.1 hf.2).2 (by rw [m1]; decide)).2 N s1.1 s1.2
  have on := o1 (f * 8 + N) (by omega) (by omega)
  rw [ev] at on
  refine ⟨⟨Tn, on⟩, fun k0 => ?_, fun w => ?_⟩
  · have M8 := hMk k0
    by_cases k1 : K = 1
    · have O6 := s3 k1
      rw [if_pos k1] at hm hvm
      rw [hm, hvm]
      refine ⟨((R.1 O O6.1 O6.2).2 ?_).2 M M8.1 M8.2, o1 _ (by omega) (by omega)⟩
      rw [← (R.1 O O6.1 O6.2).1, W1 k1]; decide
    · rw [if_neg k1] at hm hvm
      rw [if_neg k0] at hm
      rw [hm, hvm]
      exact ⟨((R.1 f hf.1 hf.2).2 (by rw [m1]; decide)).2 M M8.1 M8.2, o1 _ (by omega) (by omega)⟩
  · have lr : (0 ≤ bi r 61 (8 * f + N) ∧ bi r 61 (8 * f + N) < bi u 7 12) ∧ bi r 61 (8 * f + N) = v - 1000 := by
      unfold bThg at Tn
      omega
    obtain ⟨⟨g1, g2⟩, g3⟩ := lr
    obtain ⟨t1, t2, _⟩ := R.2.2.1 _ g1 g2
    have t3 := o3 _ g1 g2
    rw [t1, t2]
    rw [← g3]
    exact ⟨⟨g1, g2⟩, rfl, rfl, rfl, t3⟩
/-- the same with why it fails -/
theorem n218v (hf : 0 ≤ f ∧ f < 6) (m1 : bi u 40 f = 1) (R : bEvR u r) (ok : bEvOk u) (st : bStm K N M O) (eK : bi u 35 a = K) (eN : bi u 36 a = N) (eM : bi u 37 a = M) (eO : bi u 38 a = O) (hm : m = if K = 1 then 8 * O + M else if K = 0 then 8 * f else 8 * f + M) (hvm : vm = if K = 1 then bi u 39 (O * 8 + M) else bi u 39 (f * 8 + M)) (ev : bi u 39 (f * 8 + N) = v) (W1 : K = 1 → bi r 65 O = 2) :
    (bRU K (bi r 60 (8 * f + N)) (bi r 60 m) → bEvWh u f a = 1) ∧ (¬ bRU K (bi r 60 (8 * f + N)) (bi r 60 m) → (bRD K (bi r 60 (8 * f + N)) (bi r 60 m) → bEvWh u f a = 2) ∧ (¬ bRD K (bi r 60 (8 * f + N)) (bi r 60 m) → (K = 4 → bi r 60 (8 * f + N) = 2 ∧ bi r 60 m = 1 ∧ (bi r 62 (bi r 61 (8 * f + N)) ≠ f → bEvWh u f a = 3) ∧ (bi r 62 (bi r 61 (8 * f + N)) = f → bi r 63 (bi r 61 (8 * f + N)) = 8 → bEvWh u f a = 4)) ∧ ((K = 4 → bi r 62 (bi r 61 (8 * f + N)) = f ∧ bi r 63 (bi r 61 (8 * f + N)) ≠ 8) → bEvWh u f a = -1) ∧ (K = 2 → bi r 60 (8 * f + N) = 1 ∧ bi r 60 m = 1) ∧ (K = 6 → bi r 60 (8 * f + N) = 1))) := by
  obtain ⟨⟨Tn, on⟩, Tm, ll⟩ := n218w hf m1 R ok st eK eN eM eO hm hvm ev W1
  have mO : K = 1 → bi u 40 O ≠ 1 := fun w => by
    rw [← (R.1 O (st.2.2.1 w).1 (st.2.2.1 w).2).1, W1 w]; decide
  have SZ : ∃ sz mk, sz ≤ 8 ∧ (bi r 60 (8 * f + N) = 2 → sz = bi u 43 (v - 1000) ∧ sz = bi r 63 (bi r 61 (8 * f + N)) ∧ mk = bi u 44 (v - 1000) ∧ mk = bi r 62 (bi r 61 (8 * f + N))) := by
    by_cases w : bi r 60 (8 * f + N) = 2
    · obtain ⟨a1, a2, a3, a4, a5, a6⟩ := ll w
      exact ⟨bi u 43 (v - 1000), bi u 44 (v - 1000), a6, fun _ => ⟨rfl, a4.symm, rfl, a3.symm⟩⟩
    · exact ⟨0, 0, by decide, fun z => absurd z w⟩
  obtain ⟨sz, mk, sz8, hsz⟩ := SZ
  have key := bEvW_q (W := bEvWh u f a) (mk := mk) (f := f) (mo := bi u 40 O) st.2.2.2.1 Tn (fun k0 _ _ => (Tm k0).1) sz8 mO (by
    unfold bEvWh bEvN bEvM
    rw [eK, eN, eM, eO, ev]
    by_cases k1 : K = 1
    · rw [if_pos k1, if_pos k1, hvm, if_pos k1]
    · rw [if_neg k1, if_neg k1]
      rw [if_neg k1] at hvm
      rw [hvm]
      by_cases k2 : K = 2
      · rw [if_pos k2, if_pos k2]
      · rw [if_neg k2, if_neg k2]
        by_cases k4 : K = 4
        · rw [if_pos k4, if_pos k4]
          rw [← hvm]
          by_cases c1 : v = -1 ∨ vm = -1
          · rw [if_pos c1, if_pos c1]
          · rw [if_neg c1, if_neg c1]
            by_cases c2 : v < 1000 ∨ ¬ vm < 1000
            · rw [if_pos c2, if_pos c2]
            · rw [if_neg c2, if_neg c2]
              have kn2 : bi r 60 (8 * f + N) = 2 := by
                clear hsz ll Tm mO
                unfold bThg at Tn; omega
              obtain ⟨e1, _, e2, _⟩ := hsz kn2
              rw [e1, e2]
        · rw [if_neg k4, if_neg k4])
  refine ⟨key.1, fun U => ⟨(key.2 U).1, fun D => ?_⟩⟩
  obtain ⟨q1, q2, q3, q4⟩ := (key.2 U).2 D
  refine ⟨fun k4 => ?_, fun z => q2 fun k4 => ?_, q3, q4⟩
  · obtain ⟨k2, k3, k5, k6⟩ := q1 k4
    obtain ⟨_, e1, _, e2⟩ := hsz k2
    rw [← e1, ← e2]
    exact ⟨k2, k3, k5, k6⟩
  · obtain ⟨k2, _⟩ := q1 k4
    obtain ⟨_, e1, _, e2⟩ := hsz k2
    rw [e1, e2]
    exact z k4
end

/-! RULES' EVALUATION, 18: a statement done by both, kind by kind -/
section
variable {d : Nat} {s t u r r1 : bSt} {g : Int → bSt → Prop} {f x y k n m p v w o j l a i N M z vm : Int}
theorem p218_0 (R1 : bEvR u r1) (hf : 0 ≤ f ∧ f < 6) (hN : 0 ≤ N ∧ N < 8) (n35 : bi u 35 a = 0) (n36 : bi u 36 a = N) (n37 : bi u 37 a = M) (hM : 0 ≤ M ∧ M < 1000) : bEvR (bEvPf u f a) (bw (bw r1 60 (8 * f + N) 1) 61 (8 * f + N) M) := by
  unfold bEvPf
  rw [n35, if_pos rfl, n36, n37]
  exact bEvR_gv R1 hf hN ⟨by omega, by omega⟩ (by decide) ⟨by omega, by omega⟩ (Or.inr (Or.inl ⟨hM, rfl, rfl⟩))
theorem p218_2 (R1 : bEvR u r1) (hf : 0 ≤ f ∧ f < 6) (hN : 0 ≤ N ∧ N < 8) (n35 : bi u 35 a = 2) (n36 : bi u 36 a = N) (nN : bEvN u f a = v) (nM : bEvM u f a = w) (hv : 0 ≤ v ∧ v < 1000) (hw : 0 ≤ w ∧ w < 1000) (kn : bi r1 60 (8 * f + N) = 1) : bEvR (bEvPf u f a) (bw r1 61 (8 * f + N) ((v + w) % 1000)) := by
  unfold bEvPf
  rw [n35, if_neg (by decide), if_neg (by decide), if_pos rfl, n36, nN, nM]
  have br : bRg ((v + w) % 1000) := ⟨by omega, by omega⟩
  refine bEvR_39 R1 hf hN br (fun b b0 b1 j => by rw [bi_ne b1]) (fun j j0 j1 => ⟨?_, ?_⟩) ?_
  · rw [bi_ne (by decide)]
  · rw [bi_nj (by omega) j0 j1]
  · rw [bi_eq br, bi_ne (by decide), kn]
    exact Or.inr (Or.inl ⟨⟨by omega, by omega⟩, rfl, rfl⟩)
theorem p218_3 (R1 : bEvR u r1) (hf : 0 ≤ f ∧ f < 6) (hN : 0 ≤ N ∧ N < 8) (n35 : bi u 35 a = 3) (n36 : bi u 36 a = N) (e12 : bi u 7 12 = l) (hl : 0 ≤ l ∧ l < 72) : bEvR (bEvPf u f a) (bw (bw (bw (bw (bw r1 62 l f) 63 l 0) 60 (8 * f + N) 2) 61 (8 * f + N) l) 12 7 (l + 1)) := by
  have R2 := bEvR_mk R1 (by rw [e12]; exact hl) (f := f) ⟨by omega, by omega⟩
  rw [e12] at R2
  unfold bEvPf
  rw [n35, if_neg (by decide), if_neg (by decide), if_neg (by decide), if_pos rfl, n36, e12]
  refine bEvR_39 R2 hf hN ⟨by omega, by omega⟩ (fun b b0 b1 j => bi_cg (by rw [bi_ne b1, bi_ne b0])) (fun j j0 j1 => ⟨?_, ?_⟩) ?_
  · refine bi_cg ?_
    rw [bi_ne (by decide), bi_nj (by omega) j0 j1]
  · refine bi_cg ?_
    rw [bi_nj (by omega) j0 j1, bi_ne (by decide)]
  · rw [bi_ne (by decide), bi_ne (by decide), bi_eq (by decide), bi_ne (by decide), bi_eq ⟨by omega, by omega⟩]
    exact Or.inr (Or.inr ⟨by omega, rfl, by omega⟩)
theorem p218_4 (R1 : bEvR u r1) (n35 : bi u 35 a = 4) (nN : bEvN u f a - 1000 = l) (nM : bEvM u f a = v) (hz : bi u 43 l = z) (z0 : 0 ≤ z ∧ z < 8) (hl : 0 ≤ l ∧ l < bi u 7 12) (hL : bi u 7 12 ≤ 72) (h8 : ∀ q, 0 ≤ q → q < bi u 7 12 → 0 ≤ bi u 43 q ∧ bi u 43 q ≤ 8) (hv : bRg v) : bEvR (bEvPf u f a) (bw (bw r1 64 (8 * l + z) v) 63 l (z + 1)) := by
  unfold bEvPf
  rw [n35, if_neg (by decide), if_neg (by decide), if_neg (by decide), if_neg (by decide), if_pos rfl, nN, nM, hz]
  exact bEvR_ps R1 hl.1 hz z0 h8 hv hL (by omega)
theorem p218_6 (R1 : bEvR u (bw r1 66 f (p + 1))) (hf : 0 ≤ f ∧ f < 6) (n35 : bi u 35 a = 6) (nN : bEvN u f a = v) (e41 : bi u 41 f = p + 1) (hp : 0 ≤ p ∧ p < 12) (hx : v = 0 ∧ x = 2 ∨ v ≠ 0 ∧ x = 1) : bEvR (bEvPf u f a) (bw r1 66 f (p + x)) := by
  unfold bEvPf
  rw [n35, if_neg (by decide), if_neg (by decide), if_neg (by decide), if_neg (by decide), if_neg (by decide), if_neg (by decide), nN, e41]
  have e : p + 1 + (if v = 0 then 1 else 0) = p + x := by
    by_cases z : v = 0
    · rw [if_pos z]; omega
    · rw [if_neg z]; omega
  rw [e]
  have := bEvR_41 (v := p + x) R1 hf.1 ⟨by omega, by omega⟩
  rwa [bw_bw] at this
end

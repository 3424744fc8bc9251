/-! BUILD, 15: the reference: a run or a fetching ends -/
/-- what comes of those that run, in the reference -/
def bzRw (σ : bSt) (n : Nat) (Z : bZs) (s : bSt) : Prop := ∀ a, 0 ≤ a → a < (n : Int) → bzG Z a → (bi s 130 a = (if bzV σ Z a = -1 then -5 else bzV σ Z a) ∧ bi s 131 a = (bzF σ Z a).length ∧ bHl s 132 (48 * a) (bzF σ Z a)) ∧ (Z.1 147 a = 0 → bi s 133 a = bzX σ Z a)
section
variable {d : Nat} {σ s t r : bSt} {f : Int → bSt → Prop} {fv : bSt → Prop} {Z Y : bZs} {a b g i j k x v w lo hi : Int} {n cap c e : Nat} {K : bKy} {P Q : List (Int × bKy)} {S : List Nat} {F : List Int}
theorem bw_id {b : Nat} (i : Int) : bw s b i (bi s b i) = s := by
  unfold bw bI
  have : bU s.1 b i.toNat (bn (bi s b i)) = s.1 := by
    funext a' k'
    unfold bU
    by_cases q : a' = b ∧ k' = i.toNat
    · rw [if_pos q, q.1, q.2]
      exact (bn_bi s b i).symm
    · rw [if_neg q]
  rw [this]
theorem zw_cm {c' : Nat} (h : c ≠ c') : zw (zw Z c i v) c' j w = zw (zw Z c' j w) c i v := by
  unfold zw
  congr 1
  funext a' k'
  show (if a' = c' ∧ k' = j then w else if a' = c ∧ k' = i then v else Z.1 a' k') = (if a' = c ∧ k' = i then v else if a' = c' ∧ k' = j then w else Z.1 a' k')
  by_cases p : a' = c ∧ k' = i
  · rw [if_pos p, if_pos p, if_neg (fun q => h (p.1.symm.trans q.1))]
  · rw [if_neg p, if_neg p]
theorem bzEnv (h : bzO σ n Z) (u : zU S Z Y) (hS : ∀ c ∈ [101, 102, 103, 104, 105, 106, 107, 112, 140, 141], c ∉ S) : bzO σ n Y ∧ ∀ a, bzK σ Y a = bzK σ Z a ∧ bzV σ Y a = bzV σ Z a ∧ bzX σ Y a = bzX σ Z a ∧ bzF σ Y a = bzF σ Z a :=
  ⟨bzO_m h u (fun c hc => hS c (by simp only [List.mem_cons, List.not_mem_nil, or_false] at hc ⊢; omega)) (fun b b0 b1 => by rw [u 112 (hS 112 (by decide))]; exact h.2.2.2 b b0 b1), fun a => bzK_m (fun c hc => u c (hS c (by simp only [List.mem_cons, List.not_mem_nil, or_false] at hc ⊢; omega)) a) (fun i _ _ => ⟨u 106 (hS 106 (by decide)) _, Or.inr (u 112 (hS 112 (by decide)) _)⟩)⟩
/-- an action's own content is none of its inputs' -/
theorem bzEnvH (h : bzO σ n Z) (a0 : 0 ≤ a) (a1 : a < (n : Int)) (hv : 0 ≤ bKv K ∧ bKv K < 1000) : bzO σ n (bzH Z a K) ∧ bzK σ (bzH Z a K) a = bzK σ Z a ∧ bzV σ (bzH Z a K) a = bzV σ Z a ∧ bzX σ (bzH Z a K) a = bzX σ Z a := by
  have e : ∀ c, c ≠ 112 → ∀ j, (bzH Z a K).1 c j = Z.1 c j := fun c hc j => (show (bzH Z a K).1 = (zw Z 112 a (bKv K)).1 from rfl) ▸ zw_a hc
  have o : bzO σ n (bzH Z a K) := bzO_m (S := [112]) h (fun c hc j => e c (fun q => hc (by rw [q]; decide)) j) (by decide) (fun b b0 b1 => by
    show 0 ≤ (zw Z 112 a (bKv K)).1 112 b ∧ (zw Z 112 a (bKv K)).1 112 b < 1000
    rw [zw_w]
    split
    · exact hv
    · exact h.2.2.2 b b0 b1)
  have m := bzK_m (σ := σ) (Z := Z) (Y := bzH Z a K) (b := a) (fun c hc => e c (by simp only [List.mem_cons, List.not_mem_nil, or_false] at hc; omega) a) (fun i i0 i1 => ⟨e 106 (by decide) _, by
    rcases (h.2.1.2 a a0 a1).2.2 i i0 i1 with q | q
    · exact Or.inl (by omega)
    · refine Or.inr ?_
      show (zw Z 112 a (bKv K)).1 112 _ = _
      exact zw_i (by omega)⟩)
  exact ⟨o, m.1, m.2.1, m.2.2.1⟩
/-- an entry is put near -/
theorem r270n (h : bzO σ n Z) (R : bzR0 σ n Z s) (C : bzJc 24 Z.2.1) (a0 : 0 ≤ a) (a1 : a < (n : Int)) (hw : Z.1 140 a ≠ 0) (hv : bzV σ Z a ≠ -1) (W : bzWl s a (bzK σ Z a)) (r73 : bi s 12 73 < 1800000) (k : ∀ t, bzR0 σ n (bzPn Z (bzK σ Z a)) t → bzRf s t → (∀ b, b ∉ bPuK → b ≠ 12 → b < 256 → ∀ j, bi t b j = bi s b j) → bi t 12 73 = bi s 12 73 + 1 → fv t) : bWp (d + 6) 270 [.ref 12, .int (bn a), .int (bn 0)] s (bRv fv) := by
  obtain ⟨E, Rk, Ry, ⟨r0, _⟩, ⟨P, p1, p2⟩, Q, q1, q2⟩ := R
  refine r270 (d := d) h E a0 a1 hw hv W (Or.inl ⟨rfl, rfl, rfl, rfl⟩) p2 (by have := C.2.1; rw [← p1, List.length_map] at this; exact this) ⟨r0, by omega⟩ fun t P' e2 U S c73 hm hP' => ?_
  have u : ∀ b, b ∉ bPuK → b ≠ 12 → b < 256 → ∀ j, bi t b j = bi s b j := fun b hb h12 h256 j => U.1 b (by rw [Nat.mod_eq_of_lt h256]; exact hb) (by rw [Nat.mod_eq_of_lt h256]; exact h12) j
  refine k t ⟨bPu_Re E U, bzRk_u Rk (fun b hb => ?_) rfl, ⟨fun b hb j j0 => ?_, ?_, ?_, ?_⟩, ⟨by omega, by omega⟩, ⟨P', by rw [hm, p1]; rfl, hP'⟩, Q, q1, bzSP_m q2 (fun k k0 k1 => S k (by omega) k1 (by omega)) (by omega)⟩ (bzRf_of e2 U (by decide) (by decide) (by decide)) u c73
  · unfold bRkK at hb; simp only [List.mem_cons, List.not_mem_nil, or_false] at hb
    exact u b (by unfold bPuK; simp only [List.mem_cons, List.not_mem_nil, or_false]; omega) (by omega) (by omega)
  · have hb2 := hb
    simp only [List.mem_cons, List.not_mem_nil, or_false] at hb2
    rw [u b (by unfold bPuK; simp only [List.mem_cons, List.not_mem_nil, or_false]; omega) (by omega) (by omega)]
    exact Ry.1 b hb j j0
  · exact (U.2.1 105 (by decide) (by decide)).trans Ry.2.1
  · exact (U.2.1 106 (by decide) (by decide)).trans Ry.2.2.1
  · exact (U.2.1 95 (by decide) (by decide)).trans Ry.2.2.2
/-- an entry is put far -/
theorem r270f (h : bzO σ n Z) (R : bzR0 σ n Z s) (C : bzJc 40 Z.2.2.1) (a0 : 0 ≤ a) (a1 : a < (n : Int)) (hw : Z.1 140 a ≠ 0) (hv : bzV σ Z a ≠ -1) (W : bzWl s a (bzK σ Z a)) (r73 : bi s 12 73 < 1800000) (k : ∀ t, bzR0 σ n (bzPf Z (bzK σ Z a)) t → bzRf s t → (∀ b, b ∉ bPuK → b ≠ 12 → b < 256 → ∀ j, bi t b j = bi s b j) → bi t 12 73 = bi s 12 73 + 1 → fv t) : bWp (d + 6) 270 [.ref 12, .int (bn a), .int (bn 1)] s (bRv fv) := by
  obtain ⟨E, Rk, Ry, ⟨r0, _⟩, ⟨P, p1, p2⟩, Q, q1, q2⟩ := R
  refine r270 (d := d) h E a0 a1 hw hv W (Or.inr ⟨rfl, rfl, rfl, rfl⟩) q2 (by have := C.2.1; rw [← q1, List.length_map] at this; exact this) ⟨r0, by omega⟩ fun t P' e2 U S c73 hm hP' => ?_
  have u : ∀ b, b ∉ bPuK → b ≠ 12 → b < 256 → ∀ j, bi t b j = bi s b j := fun b hb h12 h256 j => U.1 b (by rw [Nat.mod_eq_of_lt h256]; exact hb) (by rw [Nat.mod_eq_of_lt h256]; exact h12) j
  refine k t ⟨bPu_Re E U, bzRk_u Rk (fun b hb => ?_) rfl, ⟨fun b hb j j0 => ?_, ?_, ?_, ?_⟩, ⟨by omega, by omega⟩, ⟨P, p1, bzSP_m p2 (fun k k0 k1 => S k k0 (by omega) (by omega)) (by omega)⟩, P', by rw [hm, q1]; rfl, hP'⟩ (bzRf_of e2 U (by decide) (by decide) (by decide)) u c73
  · unfold bRkK at hb; simp only [List.mem_cons, List.not_mem_nil, or_false] at hb
    exact u b (by unfold bPuK; simp only [List.mem_cons, List.not_mem_nil, or_false]; omega) (by omega) (by omega)
  · have hb2 := hb
    simp only [List.mem_cons, List.not_mem_nil, or_false] at hb2
    rw [u b (by unfold bPuK; simp only [List.mem_cons, List.not_mem_nil, or_false]; omega) (by omega) (by omega)]
    exact Ry.1 b hb j j0
  · exact (U.2.1 105 (by decide) (by decide)).trans Ry.2.1
  · exact (U.2.1 106 (by decide) (by decide)).trans Ry.2.2.1
  · exact (U.2.1 95 (by decide) (by decide)).trans Ry.2.2.2
/-- it is done, and its entry near -/
theorem r_dn {A : bPt → Prop} (h : bzO σ n Z) (Ik : bzIk n Z) (C : bzJc 24 Z.2.1) (R : bzR0 σ n Z s) (a0 : 0 ≤ a) (a1 : a < (n : Int)) (hw : Z.1 140 a ≠ 0) (hv : bzV σ Z a ≠ -1) (W : bzWl s a (bzK σ Z a)) (hst : bRg v) (r73 : bi s 12 73 < 1800000) (k : ∀ t, bzR0 σ n (bzDn Z a v (bzK σ Z a)) t → bzRf s t → (∀ b ∈ [130, 131, 132, 133], ∀ j, bi t b j = bi s b j) → bi t 12 73 = bi s 12 73 + 1 → fv t) : bWp (d + 6) 295 [.ref 12, .int (bn a), .int (bn v)] s (bRv fun s9 => bWp (d + 6) 272 [.ref 12, .int (bn a)] s9 (bRv fun s11 => bWp (d + 6) 270 [.ref 12, .int (bn a), .int (bn 0)] s11 (bRv fv))) := by
  have n120 := h.2.1.1
  refine r295 (d := d + 5) R a0 (by omega) hst fun t1 R1 F1 u1 => ?_
  have zu1 : zU [142, 144] Z (bzE Z a v) := zU_trans (zU_w (by decide)) (zU_w (by decide))
  obtain ⟨h1, m1⟩ := bzEnv h zu1 (by decide)
  have W1 : bzWl t1 a (bzK σ (bzE Z a v) a) := by
    rw [(m1 a).1]
    exact bzWl_u W (fun b hb j => u1 b (by simp only [List.mem_cons, List.not_mem_nil, or_false] at hb; omega) (by simp only [List.mem_cons, List.not_mem_nil, or_false] at hb; omega) j)
  have Ik1 : bzIk n (bzE Z a v) := fun b b0 b1 K hK => by
    rw [zu1 101 (by decide), zu1 102 (by decide), zu1 103 (by decide), zu1 105 (by decide), zu1 112 (by decide)]
    exact Ik b b0 b1 K hK
  have hw1 : (bzE Z a v).1 140 a ≠ 0 := by rw [zu1 140 (by decide)]; exact hw
  have hv1 : bzV σ (bzE Z a v) a ≠ -1 := by rw [(m1 a).2.1]; exact hv
  refine r272 (d := d + 4) h1 Ik1 R1 a0 a1 hw1 hv1 W1 fun t2 R2 F2 u2 => ?_
  have gK := bzK_g h1 a0 a1 hw1 hv1
  obtain ⟨h2, m2, m3, _⟩ := bzEnvH h1 a0 a1 gK.2.2.2.2.2.2.2.2
  rw [(m1 a).1] at R2 m2 h2 m3 W1
  have e140 : (bzH (bzE Z a v) a (bzK σ Z a)).1 140 a = Z.1 140 a := by
    show (zw (bzE Z a v) 112 a (bKv (bzK σ Z a))).1 140 a = _
    rw [zw_a (by decide), zu1 140 (by decide)]
  have e2 : bzK σ (bzH (bzE Z a v) a (bzK σ Z a)) a = bzK σ Z a := m2
  refine r270n (d := d) h2 R2 C a0 a1 (by rw [e140]; exact hw) (by rw [m3]; exact hv1) (by
    rw [e2]
    exact bzWl_u W1 (fun b hb j => u2 b (by unfold bRkK; simp only [List.mem_cons, List.not_mem_nil, or_false] at hb ⊢; omega) (by simp only [List.mem_cons, List.not_mem_nil, or_false] at hb; omega) j)) (by rw [u2 12 (by decide) (by decide), u1 12 (by decide) (by decide)]; omega) fun t3 R3 F3 u3 c73 => ?_
  rw [e2] at R3
  refine k t3 R3 (bzRf_trans (bzRf_trans F1 F2) F3) (fun b hb j => ?_) (by rw [c73, u2 12 (by decide) (by decide), u1 12 (by decide) (by decide)])
  simp only [List.mem_cons, List.not_mem_nil, or_false] at hb
  rw [u3 b (by unfold bPuK; simp only [List.mem_cons, List.not_mem_nil, or_false]; omega) (by omega) (by omega), u2 b (by unfold bRkK; simp only [List.mem_cons, List.not_mem_nil, or_false]; omega) (by omega), u1 b (by omega) (by omega)]
end

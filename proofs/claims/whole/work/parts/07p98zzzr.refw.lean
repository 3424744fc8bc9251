/-! BUILD, 14: the reference writes, as the model does -/
def bReK : List Nat := [8, 19, 20, 21, 56, 57, 71, 72, 73, 74, 75, 77, 78, 80, 81, 82, 83, 84, 85, 86, 87, 88, 89, 90, 91, 101, 102, 103, 104, 105, 106, 107, 112, 136, 140, 141, 201]
def bRkK : List Nat := [110, 111, 113, 114, 115]
def bRyK : List Nat := [134, 135, 137, 138, 139, 142, 143, 144, 145, 146, 147, 148]
/-- what time's passing changes in the reference -/
def bRzK : List Nat := [110, 111, 112, 113, 114, 115, 119, 120, 121, 122, 123, 124, 125, 126, 127, 128, 129, 130, 131, 132, 133, 134, 135, 137, 138, 139, 142, 143, 144, 145, 146, 147, 148, 149, 150]
def bRzF : List Int := [70, 72, 73, 95, 105, 106]
def bzRf (s t : bSt) : Prop := t.2 = s.2 ∧ bUn bRzK bRzF s t ∧ ∀ a, 0 ≤ a → bi s 12 49 ≤ a → bi t 112 a = bi s 112 a ∧ bi t 114 a = bi s 114 a
section
variable {d : Nat} {σ s t r : bSt} {f : Int → bSt → Prop} {fv : bSt → Prop} {Z Y : bZs} {a i j k x v w lo hi : Int} {n cap c : Nat} {K : bKy} {P Q : List (Int × bKy)} {S : List Nat} {F : List Int}
theorem bzRf_refl : bzRf s s := ⟨rfl, bUn_refl, fun _ _ _ => ⟨rfl, rfl⟩⟩
theorem bzRf_trans (h : bzRf s t) (k : bzRf t r) : bzRf s r := ⟨k.1.trans h.1, bUn_trans h.2.1 k.2.1, fun a a0 a1 => by
  have e1 := h.2.2 a a0 a1
  have e2 := k.2.2 a a0 (by rw [h.2.1.2.1 49 (by decide) (by decide)]; exact a1)
  exact ⟨e2.1.trans e1.1, e2.2.trans e1.2⟩⟩
theorem bzRf_of (e : t.2 = s.2) (U : bUn S F s t) (hS : ∀ k ∈ S, k ∈ bRzK) (hF : ∀ k ∈ F, k ∈ bRzF) (h : ∀ k ∈ [112, 114], k ∉ S) : bzRf s t := ⟨e, bUn_mono U hS hF, fun a _ _ => ⟨U.1 112 (h 112 (by decide)) (by decide) a, U.1 114 (h 114 (by decide)) (by decide) a⟩⟩
theorem bzRf_w {b : Nat} (hb : b ∈ bRzK) (hb2 : b ≠ 112 ∧ b ≠ 114 := by decide) : bzRf s (bw s b i v) := by
  have hm : b % 256 = b := Nat.mod_eq_of_lt (by unfold bRzK at hb; simp only [List.mem_cons, List.not_mem_nil, or_false] at hb; omega)
  have h12 : b ≠ 12 := by unfold bRzK at hb; simp only [List.mem_cons, List.not_mem_nil, or_false] at hb; omega
  exact ⟨rfl, bUn_w bUn_refl (by rw [hm]; exact hb) (by rw [hm]; exact h12), fun a _ _ => ⟨bi_ne (Ne.symm hb2.1), bi_ne (Ne.symm hb2.2)⟩⟩
theorem bzRf_f (i0 : 0 ≤ i) (hi : i ∈ bRzF) : bzRf s (bw s 12 i v) := ⟨rfl, bUn_f bUn_refl i0 hi, fun a _ _ => ⟨bi_ne (by decide), bi_ne (by decide)⟩⟩
theorem bzA_u (E : bzA σ s) (U : bUn S F s t) (hS : ∀ k ∈ bReK, k ∉ S) (hF : ∀ k ∈ [17, 22, 49, 68, 87, 88], k ∉ F) : bzA σ t := by
  obtain ⟨e1, e2, e3, e4, e5⟩ := E
  have u : ∀ b ∈ bReK, ∀ j, bi t b j = bi s b j := fun b hb j => by
    have hm : b % 256 = b := Nat.mod_eq_of_lt (by unfold bReK at hb; simp only [List.mem_cons, List.not_mem_nil, or_false] at hb; omega)
    have h12 : b ≠ 12 := by unfold bReK at hb; simp only [List.mem_cons, List.not_mem_nil, or_false] at hb; omega
    exact U.1 b (by rw [hm]; exact hS b hb) (by rw [hm]; exact h12) j
  refine ⟨⟨fun b hb j => (u b ?_ j).trans (e1.1 b hb j), (U.2.1 17 (by decide) (hF 17 (by decide))).trans e1.2.1, (U.2.1 22 (by decide) (hF 22 (by decide))).trans e1.2.2.1, fun t => (U.1 (bTi t) (by rw [bTi_m]; exact hS 8 (by decide)) (by rw [bTi_m]; decide) 4).trans (e1.2.2.2 t)⟩, fun b hb j => (u b ?_ j).trans (e2 b hb j), (U.2.1 68 (by decide) (hF 68 (by decide))).trans e3, (U.2.1 87 (by decide) (hF 87 (by decide))).trans e4, (U.2.1 88 (by decide) (hF 88 (by decide))).trans e5⟩
  · unfold bReK
    simp only [List.mem_cons, List.not_mem_nil, or_false] at hb ⊢
    omega
  · unfold bReK
    simp only [List.mem_cons, List.not_mem_nil, or_false] at hb ⊢
    omega
theorem bzRe_u (E : bzRe σ n Z s) (U : bUn S F s t) (hS : ∀ k ∈ bReK, k ∉ S) (hF : ∀ k ∈ [17, 22, 49, 68, 87, 88], k ∉ F) : bzRe σ n Z t := by
  have u : ∀ b ∈ bReK, ∀ j, bi t b j = bi s b j := fun b hb j => by
    have hm : b % 256 = b := Nat.mod_eq_of_lt (by unfold bReK at hb; simp only [List.mem_cons, List.not_mem_nil, or_false] at hb; omega)
    have h12 : b ≠ 12 := by unfold bReK at hb; simp only [List.mem_cons, List.not_mem_nil, or_false] at hb; omega
    exact U.1 b (by rw [hm]; exact hS b hb) (by rw [hm]; exact h12) j
  refine ⟨bzA_u E.1 U hS hF, bFi_un U (fun k hk => hS k (by revert hk; unfold bReK; simp only [List.mem_cons, List.not_mem_nil, or_false]; omega)) E.2.1, (U.2.1 49 (by decide) (hF 49 (by decide))).trans E.2.2.1, fun a a0 a1 => ⟨fun b hb => (u b ?_ a).trans ((E.2.2.2 a a0 a1).1 b hb), fun i i0 i1 => (u 106 (by decide) _).trans ((E.2.2.2 a a0 a1).2 i i0 i1)⟩⟩
  unfold bReK
  simp only [List.mem_cons, List.not_mem_nil, or_false] at hb ⊢
  omega
theorem bzRe_z (E : bzRe σ n Z s) (u : zU S Z Y) (hS : ∀ c ∈ [101, 102, 103, 104, 105, 106, 107, 112, 140, 141], c ∉ S) : bzRe σ n Y s := by
  refine ⟨E.1, E.2.1, E.2.2.1, fun a a0 a1 => ⟨fun b hb => ?_, fun i i0 i1 => ?_⟩⟩
  · rw [u b (hS b (by simp only [List.mem_cons, List.not_mem_nil, or_false] at hb ⊢; omega))]
    exact (E.2.2.2 a a0 a1).1 b hb
  · rw [u 105 (hS 105 (by decide))] at i1
    rw [u 106 (hS 106 (by decide))]
    exact (E.2.2.2 a a0 a1).2 i i0 i1
theorem bzRk_u (R : bzRk n Z s) (e : ∀ b ∈ bRkK, ∀ j, bi t b j = bi s b j) (hk : Y.2.2.2 = Z.2.2.2) : bzRk n Y t := fun a a0 a1 => by
  obtain ⟨r1, r2⟩ := R a a0 a1
  rw [hk, e 110 (by decide), e 111 (by decide), e 114 (by decide)]
  refine ⟨r1, fun K hK => ?_⟩
  obtain ⟨q1, q2, q3, q4, q5⟩ := r2 K hK
  exact ⟨q1, q2, fun i hi => by rw [e 113 (by decide)]; exact q3 i hi, q4, fun i hi => by rw [e 115 (by decide)]; exact q5 i hi⟩
theorem bzRc_u (R : bzRc Z s) (e : ∀ b ∈ bPuK, ∀ j, bi t b j = bi s b j) (e73 : bi t 12 73 = bi s 12 73) (h1 : Y.2.1 = Z.2.1) (h2 : Y.2.2.1 = Z.2.2.1) : bzRc Y t := by
  have ss : ∀ k, bzSs s t k := fun k => ⟨fun b hb => e b (by simp only [List.mem_cons, List.not_mem_nil, or_false] at hb; unfold bPuK; simp only [List.mem_cons, List.not_mem_nil, or_false]; omega) k, fun _ _ _ => e 126 (by decide) _, fun _ _ _ => e 128 (by decide) _⟩
  obtain ⟨r1, ⟨P, p1, p2⟩, Q, q1, q2⟩ := R
  exact ⟨by rw [e73]; exact r1, ⟨P, by rw [h1]; exact p1, bzSP_m p2 (fun k _ _ => ss k) (by rw [e73]; exact Int.le_refl _)⟩, Q, by rw [h2]; exact q1, bzSP_m q2 (fun k _ _ => ss k) (by rw [e73]; exact Int.le_refl _)⟩
/-- a number is written on both -/
theorem bzR0_w (R : bzR0 σ n Z s) (hc : c ∈ bRyK) (i0 : 0 ≤ i) (hv : bRg v) : bzR0 σ n (zw Z c i v) (bw s c i v) := by
  obtain ⟨E, Rk, Ry, Rc⟩ := R
  have hl : c = 134 ∨ c = 135 ∨ c = 137 ∨ c = 138 ∨ c = 139 ∨ (142 ≤ c ∧ c ≤ 148) := by unfold bRyK at hc; simp only [List.mem_cons, List.not_mem_nil, or_false] at hc; omega
  have hm : c % 256 = c := Nat.mod_eq_of_lt (by omega)
  have U : bUn [c] [] s (bw s c i v) := bUn_w bUn_refl (by rw [hm]; exact List.mem_cons_self) (by omega)
  have st : ∀ b, b ≠ c → ∀ j, bi (bw s c i v) b j = bi s b j := fun b q j => bi_ne q
  refine ⟨bzRe_z (S := [c]) (bzRe_u E U (fun k hk => ?_) (fun _ _ => List.not_mem_nil)) (zU_w List.mem_cons_self) (fun k hk => ?_), bzRk_u Rk (fun b hb => st b ?_) rfl, ⟨fun b hb j j0 => ?_, ?_, ?_, ?_⟩, bzRc_u Rc (fun b hb => st b ?_) (st 12 (by omega) 73) rfl rfl⟩
  · unfold bReK at hk; simp only [List.mem_cons, List.not_mem_nil, or_false] at hk ⊢; omega
  · simp only [List.mem_cons, List.not_mem_nil, or_false] at hk ⊢; omega
  · unfold bRkK at hb; simp only [List.mem_cons, List.not_mem_nil, or_false] at hb; omega
  · rw [zw_w, bi_bw i0 j0 hv, Ry.1 b hb j j0]
  · rw [st 12 (by omega), zw_a (by omega)]; exact Ry.2.1
  · rw [st 12 (by omega), zw_a (by omega)]; exact Ry.2.2.1
  · rw [st 12 (by omega), zw_a (by omega)]; exact Ry.2.2.2
  · unfold bPuK at hb; simp only [List.mem_cons, List.not_mem_nil, or_false] at hb; omega
/-- a field is written on both -/
theorem bzR0_f (R : bzR0 σ n Z s) (hi : (i = 105 ∧ c = 305) ∨ (i = 106 ∧ c = 306) ∨ (i = 95 ∧ c = 395)) (hv : bRg v) : bzR0 σ n (zw Z c 0 v) (bw s 12 i v) := by
  obtain ⟨E, Rk, Ry, Rc⟩ := R
  have U : bUn [] [i] s (bw s 12 i v) := bUn_f bUn_refl (by omega) List.mem_cons_self
  have st : ∀ b, b ≠ 12 → ∀ j, bi (bw s 12 i v) b j = bi s b j := fun b q j => bi_ne q
  have sf : ∀ j, 0 ≤ j → j ≠ i → bi (bw s 12 i v) 12 j = bi s 12 j := fun j j0 q => bi_nj (by omega) j0 q
  refine ⟨bzRe_z (S := [c]) (bzRe_u E U (fun k hk => List.not_mem_nil) (fun k hk => ?_)) (zU_w List.mem_cons_self) (fun k hk => ?_), bzRk_u Rk (fun b hb => st b ?_) rfl, ⟨fun b hb j j0 => ?_, ?_, ?_, ?_⟩, bzRc_u Rc (fun b hb => st b ?_) (sf 73 (by decide) (by omega)) rfl rfl⟩
  · simp only [List.mem_cons, List.not_mem_nil, or_false] at hk ⊢; omega
  · simp only [List.mem_cons, List.not_mem_nil, or_false] at hk ⊢; omega
  · unfold bRkK at hb; simp only [List.mem_cons, List.not_mem_nil, or_false] at hb; omega
  · simp only [List.mem_cons, List.not_mem_nil, or_false] at hb
    rw [st b (by omega), zw_a (by omega)]
    exact Ry.1 b (by simp only [List.mem_cons, List.not_mem_nil, or_false]; omega) j j0
  · rcases hi with ⟨h1, h2⟩ | ⟨h1, h2⟩ | ⟨h1, h2⟩
    · rw [h1, h2, zw_e, bi_eq hv]
    · rw [h2, zw_a (by decide), sf 105 (by decide) (by omega)]; exact Ry.2.1
    · rw [h2, zw_a (by decide), sf 105 (by decide) (by omega)]; exact Ry.2.1
  · rcases hi with ⟨h1, h2⟩ | ⟨h1, h2⟩ | ⟨h1, h2⟩
    · rw [h2, zw_a (by decide), sf 106 (by decide) (by omega)]; exact Ry.2.2.1
    · rw [h1, h2, zw_e, bi_eq hv]
    · rw [h2, zw_a (by decide), sf 106 (by decide) (by omega)]; exact Ry.2.2.1
  · rcases hi with ⟨h1, h2⟩ | ⟨h1, h2⟩ | ⟨h1, h2⟩
    · rw [h2, zw_a (by decide), sf 95 (by decide) (by omega)]; exact Ry.2.2.2
    · rw [h2, zw_a (by decide), sf 95 (by decide) (by omega)]; exact Ry.2.2.2
    · rw [h1, h2, zw_e, bi_eq hv]
  · unfold bPuK at hb; simp only [List.mem_cons, List.not_mem_nil, or_false] at hb; omega
theorem bzWl_u (W : bzWl s a K) (e : ∀ b ∈ [130, 131, 132], ∀ j, bi t b j = bi s b j) : bzWl t a K :=
  ⟨by rw [e 130 (by decide)]; exact W.1, by rw [e 131 (by decide)]; exact W.2.1, fun i hi => by rw [e 132 (by decide)]; exact W.2.2 i hi⟩
/-- it becomes what it becomes -/
theorem r295 (R : bzR0 σ n Z s) (a0 : 0 ≤ a) (a1 : a < 120) (hv : bRg v) (k : ∀ t, bzR0 σ n (bzE Z a v) t → bzRf s t → (∀ b, b ≠ 142 → b ≠ 144 → ∀ j, bi t b j = bi s b j) → fv t) : bWp (d + 1) 295 [.ref 12, .int (bn a), .int (bn v)] s (bRv fv) := by
  refine ⟨rfl, fun A hA => sq295_0 (bWp_mono _) hA ⟨by omega, by omega⟩ hv ⟨⟨a0, a1⟩, ?_⟩⟩
  have e : bi s 12 105 = Z.1 305 0 := R.2.2.1.2.1
  have r1 := bzR0_w R (c := 142) (by decide) a0 hv
  have r2 := bzR0_w r1 (c := 144) (by decide) a0 (bi_rg s 12 105)
  rw [e] at r2 ⊢
  exact k _ r2 (bzRf_trans (bzRf_w (by decide)) (bzRf_w (by decide))) (fun b q1 q2 j => by rw [bi_ne q2, bi_ne q1])
/-- a run leaves its worker -/
theorem r291 (R : bzR0 σ n Z s) (a0 : 0 ≤ a) (a1 : a < 120) (hw : -1 ≤ Z.1 148 a ∧ Z.1 148 a < 12) (hv : bRg v) (k : ∀ t, bzR0 σ n (bzLv Z a v) t → bzRf s t → (∀ b, b ≠ 137 → b ≠ 138 → b ≠ 148 → ∀ j, bi t b j = bi s b j) → fv t) : bWp (d + 1) 291 [.ref 12, .int (bn a), .int (bn v)] s (bRv fv) := by
  have e : bi s 148 a = Z.1 148 a := R.2.2.1.1 148 (by decide) a a0
  refine ⟨rfl, fun A hA => sq291_0 (bWp_mono _) hA ⟨by omega, by omega⟩ hv ⟨⟨a0, a1⟩, ?_⟩⟩
  rw [e]
  unfold bzLv at k
  refine ⟨fun z => ?_, fun z => ⟨⟨by omega, by omega⟩, ?_⟩⟩
  · rw [if_pos z] at k
    exact k s R bzRf_refl (fun _ _ _ _ _ => rfl)
  · rw [if_neg z] at k
    have r1 := bzR0_w R (c := 138) (i := Z.1 148 a) (v := 0) (by decide) (by omega) (by decide)
    have r2 := bzR0_w r1 (c := 137) (i := Z.1 148 a) (v := v) (by decide) (by omega) hv
    have r3 := bzR0_w r2 (c := 148) (i := a) (v := -1) (by decide) a0 (by decide)
    exact k _ r3 (bzRf_trans (bzRf_trans (bzRf_w (by decide)) (bzRf_w (by decide))) (bzRf_w (by decide))) (fun b q1 q2 q3 j => by rw [bi_ne q3, bi_ne q1, bi_ne q2])
/-- it is kept -/
theorem r272 (h : bzO σ n Z) (Ik : bzIk n Z) (R : bzR0 σ n Z s) (a0 : 0 ≤ a) (a1 : a < (n : Int)) (hw : Z.1 140 a ≠ 0) (hv : bzV σ Z a ≠ -1) (W : bzWl s a (bzK σ Z a)) (k : ∀ t, bzR0 σ n (bzH Z a (bzK σ Z a)) t → bzRf s t → (∀ b, b ∉ bRkK → b ≠ 112 → ∀ j, bi t b j = bi s b j) → fv t) : bWp (d + 2) 272 [.ref 12, .int (bn a)] s (bRv fv) := by
  have n120 := h.2.1.1
  obtain ⟨o1, o2, o3⟩ := h.2.1.2 a a0 a1
  obtain ⟨E, Rk, Ry, Rc⟩ := R
  have gK := bzK_g h a0 a1 hw hv
  have ll := bKg_l gK
  have lc : (bzK σ Z a).2.2.2.1.length = (Z.1 105 a).toNat := bzL_len
  have vr := gK.2.2.2.2.2.2.2.2
  -- the model with the content
  have h' : bzO σ n (zw Z 112 a (bKv (bzK σ Z a))) := bzO_m h (zU_w (S := [112]) List.mem_cons_self) (by decide) (fun b b0 b1 => by
    rw [zw_w]
    split
    · exact vr
    · exact h.2.2.2 b b0 b1)
  have cc : ∀ i, 0 ≤ i → i < Z.1 105 a → bzC σ (zw Z 112 a (bKv (bzK σ Z a))) a i = bzC σ Z a i := fun i i0 i1 => by
    refine bzC_m (fun i i0 i1 => ⟨zw_a (by decide), ?_⟩) i0 i1
    rcases o3 i i0 i1 with q | q
    · exact Or.inl (by omega)
    · exact Or.inr (zw_i (by omega))
  refine ⟨rfl, fun A hA => sq272_0 (bWp_mono _) hA ⟨by omega, by omega⟩ ⟨⟨a0, by omega⟩, ⟨by omega, by omega⟩, ?_⟩⟩
  rw [W.1]
  let In : bSt → Prop := fun t => (∀ b, b ∉ bRkK → b ≠ 112 → ∀ j, bi t b j = bi s b j) ∧ t.2 = s.2 ∧ (∀ j, 0 ≤ j → bi t 112 j = if j = a then bKv (bzK σ Z a) else bi s 112 j) ∧ bi t 110 a = 1 ∧ bi t 111 a = 1 ∧ (∀ b, 0 ≤ b → b ≠ a → bi t 110 b = bi s 110 b ∧ bi t 111 b = bi s 111 b ∧ bi t 114 b = bi s 114 b) ∧ (∀ j, 0 ≤ j → ¬ (40 * a ≤ j ∧ j < 40 * a + 40) → bi t 113 j = bi s 113 j) ∧ ∀ j, 0 ≤ j → ¬ (48 * a ≤ j ∧ j < 48 * a + 48) → bi t 115 j = bi s 115 j
  have In0 : In (bw (bw (bw s 110 a 1) 111 a 1) 112 a (bKv (bzK σ Z a))) := by
    refine ⟨fun b hb h12 j => ?_, rfl, fun j j0 => ?_, ?_, ?_, fun b b0 bn => ⟨?_, ?_, ?_⟩, fun j _ _ => ?_, fun j _ _ => ?_⟩
    · rw [bi_ne h12, bi_ne (fun e => hb (by rw [e]; decide)), bi_ne (fun e => hb (by rw [e]; decide))]
    · rw [bi_bw a0 j0 ⟨by omega, by omega⟩, bi_ne (by decide), bi_ne (by decide)]
      simp only [true_and]
    · rw [bi_ne (by decide), bi_ne (by decide), bi_eq (by decide)]
    · rw [bi_ne (by decide), bi_eq (by decide)]
    · rw [bi_ne (by decide), bi_ne (by decide), bi_nj a0 b0 bn]
    · rw [bi_ne (by decide), bi_nj a0 b0 bn, bi_ne (by decide)]
    · rw [bi_ne (by decide), bi_ne (by decide), bi_ne (by decide)]
    · rw [bi_ne (by decide), bi_ne (by decide), bi_ne (by decide)]
    · rw [bi_ne (by decide), bi_ne (by decide), bi_ne (by decide)]
  have In_w : ∀ (t : bSt) (b : Nat) (i v : Int), In t → (b = 113 ∧ 40 * a ≤ i ∧ i < 40 * a + 40 ∨ b = 114 ∧ i = a ∨ b = 115 ∧ 48 * a ≤ i ∧ i < 48 * a + 48) → In (bw t b i v) := fun t b i v ⟨I1, I2, I3, I4, I5, I6, I7, I8⟩ hb => by
    have hb' : b ∈ bRkK := by rcases hb with ⟨q, _⟩ | ⟨q, _⟩ | ⟨q, _⟩ <;> rw [q] <;> decide
    refine ⟨fun b' hb2 h12 j => ?_, I2, fun j j0 => ?_, ?_, ?_, fun b' b0 bn => ⟨?_, ?_, ?_⟩, fun j j0 jn => ?_, fun j j0 jn => ?_⟩
    · rw [bi_ne (fun e => hb2 (by rw [e]; exact hb'))]; exact I1 b' hb2 h12 j
    · rw [bi_ne (by omega)]; exact I3 j j0
    · rw [bi_ne (by omega)]; exact I4
    · rw [bi_ne (by omega)]; exact I5
    · rw [bi_ne (by omega)]; exact (I6 b' b0 bn).1
    · rw [bi_ne (by omega)]; exact (I6 b' b0 bn).2.1
    · by_cases e : (114 : Nat) = b
      · rw [← e, bi_nj (by omega) b0 (by omega)]; exact (I6 b' b0 bn).2.2
      · rw [bi_ne e]; exact (I6 b' b0 bn).2.2
    · by_cases e : (113 : Nat) = b
      · rw [← e, bi_nj (by omega) j0 (by omega)]; exact I7 j j0 jn
      · rw [bi_ne e]; exact I7 j j0 jn
    · by_cases e : (115 : Nat) = b
      · rw [← e, bi_nj (by omega) j0 (by omega)]; exact I8 j j0 jn
      · rw [bi_ne e]; exact I8 j j0 jn
  have In_u : ∀ {t}, In t → bUn (112 :: bRkK) [] s t := fun {t} I => ⟨fun b q1 q2 j => by
    by_cases hb : b ∈ bRkK
    · have hm : b % 256 = b := Nat.mod_eq_of_lt (by unfold bRkK at hb; simp only [List.mem_cons, List.not_mem_nil, or_false] at hb; omega)
      rw [hm] at q1
      exact absurd (List.mem_cons_of_mem _ hb) q1
    · by_cases h12 : b = 112
      · rw [h12] at q1; exact absurd (by decide) q1
      · exact I.1 b hb h12 j, fun i _ _ => I.1 12 (by decide) (by decide) i, fun a _ _ i => by unfold bj; rw [I.2.1], fun a _ i => by unfold br; rw [I.2.1], fun a _ => by rw [I.2.1]⟩
  have In_E : ∀ {t}, In t → bzRe σ n (zw Z 112 a (bKv (bzK σ Z a))) t := fun {t} I => by
    have U := In_u I
    have u : ∀ b ∈ bReK, b ≠ 112 → ∀ j, bi t b j = bi s b j := fun b hb q j => I.1 b (by unfold bReK at hb; unfold bRkK; simp only [List.mem_cons, List.not_mem_nil, or_false] at hb ⊢; omega) q j
    obtain ⟨e1, e2, e3, e4, e5⟩ := E.1
    refine ⟨⟨⟨fun b hb j => (u b ?_ ?_ j).trans (e1.1 b hb j), (U.2.1 17 (by decide) List.not_mem_nil).trans e1.2.1, (U.2.1 22 (by decide) List.not_mem_nil).trans e1.2.2.1, fun t => (U.1 (bTi t) (by rw [bTi_m]; decide) (by rw [bTi_m]; decide) 4).trans (e1.2.2.2 t)⟩, fun b hb j => (u b ?_ ?_ j).trans (e2 b hb j), (U.2.1 68 (by decide) List.not_mem_nil).trans e3, (U.2.1 87 (by decide) List.not_mem_nil).trans e4, (U.2.1 88 (by decide) List.not_mem_nil).trans e5⟩, bFi_un U (by decide) E.2.1, (U.2.1 49 (by decide) List.not_mem_nil).trans E.2.2.1, fun b b0 b1 => ⟨fun c hc => ?_, fun i i0 i1 => ?_⟩⟩
    · unfold bReK; simp only [List.mem_cons, List.not_mem_nil, or_false] at hb ⊢; omega
    · simp only [List.mem_cons, List.not_mem_nil, or_false] at hb; omega
    · unfold bReK; simp only [List.mem_cons, List.not_mem_nil, or_false] at hb ⊢; omega
    · simp only [List.mem_cons, List.not_mem_nil, or_false] at hb; omega
    · by_cases q : c = 112
      · rw [q, I.2.2.1 b b0, zw_w]
        by_cases y : b = a
        · rw [if_pos y, if_pos ⟨rfl, y⟩]
        · rw [if_neg y, if_neg (fun z => y z.2)]
          exact (E.2.2.2 b b0 b1).1 112 (by decide)
      · rw [zw_a q, u c (by unfold bReK; simp only [List.mem_cons, List.not_mem_nil, or_false] at hc ⊢; omega) q]
        exact (E.2.2.2 b b0 b1).1 c hc
    · rw [zw_a (by decide)] at i1
      rw [zw_a (by decide), u 106 (by decide) (by decide)]
      exact (E.2.2.2 b b0 b1).2 i i0 i1
  -- the end: kept
  have fin : ∀ {t}, In t → bHl t 113 (40 * a) (bzK σ Z a).2.2.2.1 → bi t 114 a = (bzK σ Z a).2.2.2.2.length → bHl t 115 (48 * a) (bzK σ Z a).2.2.2.2 → fv t := fun {t} I H3 H4 H5 => by
    have EE := In_E I
    have u : ∀ b, b ∉ bRkK → b ≠ 112 → ∀ j, bi t b j = bi s b j := I.1
    refine k t ⟨?_, fun b b0 b1 => ?_, ⟨fun b hb j j0 => ?_, ?_, ?_, ?_⟩, bzRc_u (Y := bzH Z a (bzK σ Z a)) Rc (fun b hb j => u b ?_ ?_ j) (u 12 (by decide) (by decide) 73) rfl rfl⟩ ⟨I.2.1, bUn_mono (In_u I) (by decide) (by decide), fun b b0 b1 => by
      rw [E.2.2.1] at b1
      rw [I.2.2.1 b b0, if_neg (by omega), (I.2.2.2.2.2.1 b b0 (by omega)).2.2]
      exact ⟨rfl, rfl⟩⟩ I.1
    · exact EE
    · by_cases q : b = a
      · rw [q]
        refine ⟨fun y => ?_, fun K hK => ?_⟩
        · have : (bzH Z a (bzK σ Z a)).2.2.2 a = some (bzK σ Z a) := if_pos rfl
          rw [this] at y; cases y
        · have e2 : (bzH Z a (bzK σ Z a)).2.2.2 a = some (bzK σ Z a) := if_pos rfl
          rw [e2] at hK
          rw [← Option.some.inj hK]
          exact ⟨I.2.2.2.1, I.2.2.2.2.1, H3, H4, H5⟩
      · have e2 : (bzH Z a (bzK σ Z a)).2.2.2 b = Z.2.2.2 b := if_neg q
        obtain ⟨q1, q2, q3⟩ := I.2.2.2.2.2.1 b b0 q
        rw [e2, q1, q2, q3]
        obtain ⟨r1, r2⟩ := Rk b b0 b1
        refine ⟨r1, fun K hK => ?_⟩
        obtain ⟨g1, g2, g3, g4, g5⟩ := r2 K hK
        have lK := bKg_l (Ik b b0 b1 K hK).1
        exact ⟨g1, g2, fun i hi => by rw [I.2.2.2.2.2.2.1 _ (by omega) (by omega)]; exact g3 i hi, g4, fun i hi => by rw [I.2.2.2.2.2.2.2 _ (by omega) (by omega)]; exact g5 i hi⟩
    · have hb2 : b ∉ bRkK ∧ b ≠ 112 := by unfold bRkK; simp only [List.mem_cons, List.not_mem_nil, or_false] at hb ⊢; omega
      rw [u b hb2.1 hb2.2]
      show _ = (zw Z 112 a (bKv (bzK σ Z a))).1 b j
      rw [zw_a hb2.2]
      exact Ry.1 b hb j j0
    · rw [u 12 (by decide) (by decide)]
      show _ = (zw Z 112 a (bKv (bzK σ Z a))).1 305 0
      rw [zw_a (by decide)]; exact Ry.2.1
    · rw [u 12 (by decide) (by decide)]
      show _ = (zw Z 112 a (bKv (bzK σ Z a))).1 306 0
      rw [zw_a (by decide)]; exact Ry.2.2.1
    · rw [u 12 (by decide) (by decide)]
      show _ = (zw Z 112 a (bKv (bzK σ Z a))).1 395 0
      rw [zw_a (by decide)]; exact Ry.2.2.2
    · unfold bPuK at hb; unfold bRkK; simp only [List.mem_cons, List.not_mem_nil, or_false] at hb ⊢; omega
    · unfold bPuK at hb; simp only [List.mem_cons, List.not_mem_nil, or_false] at hb; omega
  have L2 : ∀ (m q : Nat) (t : bSt), q + m = (bzK σ Z a).2.2.2.2.length → In t → bHl t 113 (40 * a) (bzK σ Z a).2.2.2.1 → bi t 114 a = (bzK σ Z a).2.2.2.2.length → (∀ i : Nat, i < q → bi t 115 (48 * a + i) = (bzK σ Z a).2.2.2.2.getD i 0) → A (54, [.ref 12, .int (bn a), .int (bn q)], [], t) := by
    intro m
    induction m with
    | zero =>
      intro q t hq I H3 H4 H5
      have w131 : bi t 131 a = (bzK σ Z a).2.2.2.2.length := (I.1 131 (by decide) (by decide) a).trans W.2.1
      exact sq272_54 (bWp_mono _) hA ⟨by omega, by omega⟩ ⟨by omega, by omega⟩ ⟨⟨a0, by omega⟩, fun z => absurd z (by rw [w131]; omega), fun _ => fin I H3 H4 (fun i hi => H5 i (by omega))⟩
    | succ m ih =>
      intro q t hq I H3 H4 H5
      have w131 : bi t 131 a = (bzK σ Z a).2.2.2.2.length := (I.1 131 (by decide) (by decide) a).trans W.2.1
      have w132 : bi t 132 (48 * a + q) = (bzK σ Z a).2.2.2.2.getD q 0 := (I.1 132 (by decide) (by decide) _).trans (W.2.2 q (by omega))
      have nx := ih (q + 1) (bw t 115 (48 * a + q) (bi t 132 (48 * a + q))) (by omega) (In_w t 115 _ _ I (Or.inr (Or.inr ⟨rfl, by omega, by omega⟩))) (fun i hi => by rw [bi_ne (by decide)]; exact H3 i hi) (by rw [bi_ne (by decide)]; exact H4) (fun i hi => by
        rw [bi_bw (by omega) (by omega) (bi_rg _ _ _)]
        by_cases e : i = q
        · rw [if_pos ⟨rfl, by omega⟩, e]; exact w132
        · rw [if_neg (fun y => e (by omega))]; exact H5 i (by omega))
      rw [show ((q + 1 : Nat) : Int) = (q : Int) + 1 by omega] at nx
      exact sq272_54 (bWp_mono _) hA ⟨by omega, by omega⟩ ⟨by omega, by omega⟩ ⟨⟨a0, by omega⟩, fun _ => ⟨⟨by omega, by omega⟩, ⟨by omega, by omega⟩, ⟨by omega, by omega⟩, ⟨by omega, by omega⟩, nx⟩, fun z => absurd (show (q : Int) < bi t 131 a by rw [w131]; omega) z⟩
  have L1 : ∀ (m q : Nat) (t : bSt), (q : Int) + m = Z.1 105 a → In t → (∀ i : Nat, i < q → bi t 113 (40 * a + i) = bzC σ Z a i) → A (22, [.ref 12, .int (bn a), .int (bn (40 * a + q))], [], t) := by
    intro m
    induction m with
    | zero =>
      intro q t hq I H3
      have Et := In_E I
      have e105 : bi t 105 a = Z.1 105 a := (Et.2.2.2 a a0 a1).1 105 (by decide)
      have w131 : bi t 131 a = (bzK σ Z a).2.2.2.2.length := (I.1 131 (by decide) (by decide) a).trans W.2.1
      refine sq272_22 (bWp_mono _) hA ⟨by omega, by omega⟩ ⟨by omega, by omega⟩ ?_
      rw [e105]
      refine ⟨⟨by omega, by omega⟩, ⟨a0, by omega⟩, ⟨by omega, by omega⟩, fun z => absurd z (by omega), fun _ => ?_⟩
      refine L2 (bzK σ Z a).2.2.2.2.length 0 _ (by omega) (In_w t 114 _ _ I (Or.inr (Or.inl ⟨rfl, rfl⟩))) (fun i hi => ?_) (by rw [bi_eq (bi_rg _ _ _)]; exact w131) (fun i hi => absurd hi (Nat.not_lt_zero _))
      rw [bi_ne (by decide)]
      rw [lc] at hi
      rw [H3 i (by omega)]
      exact (bzL_at (by omega)).symm
    | succ m ih =>
      intro q t hq I H3
      have Et := In_E I
      have e105 : bi t 105 a = Z.1 105 a := (Et.2.2.2 a a0 a1).1 105 (by decide)
      have cr := bzC_rg h a0 a1 hw (i := q) (by omega) (by omega)
      have nx := ih (q + 1) (bw t 113 (40 * a + q) (bzC σ Z a q)) (by omega) (In_w t 113 _ _ I (Or.inl ⟨rfl, by omega, by omega⟩)) (fun i hi => by
        rw [bi_bw (by omega) (by omega) ⟨by omega, by omega⟩]
        by_cases e : i = q
        · rw [if_pos ⟨rfl, by omega⟩, e]
        · rw [if_neg (fun y => e (by omega))]; exact H3 i (by omega))
      rw [show 40 * a + ((q + 1 : Nat) : Int) = 40 * a + (q : Int) + 1 by omega] at nx
      have e106 := (Et.2.2.2 a a0 a1).2 q (by omega) (by rw [zw_a (by decide)]; omega)
      refine sq272_22 (bWp_mono _) hA ⟨by omega, by omega⟩ ⟨by omega, by omega⟩ ?_
      rw [e105, e106]
      refine ⟨⟨by omega, by omega⟩, ⟨a0, by omega⟩, ⟨by omega, by omega⟩, fun _ => ⟨⟨by omega, by omega⟩, r262 h' Et a0 a1 (by omega) (by rw [zw_a (by decide)]; omega) ?_⟩, fun z => absurd (show 40 * a + (q : Int) < 40 * a + Z.1 105 a by omega) z⟩
      rw [cc q (by omega) (by omega)]
      exact ⟨⟨by omega, by omega⟩, nx⟩
  have := L1 (Z.1 105 a).toNat 0 _ (by omega) In0 (fun i hi => absurd hi (Nat.not_lt_zero _))
  rw [show 40 * a + ((0 : Nat) : Int) = 40 * a by omega] at this
  exact this
end

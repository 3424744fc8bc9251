/-! ALL CASES, 2: the invariant, kept by each of the 49 cases -/
section
variable {d lvl : Nat} {σ σ0 s s0 r r' : bSt} {Z Y : bZs} {x y v a b i q g l : Int} {c k n N N' μ L : Nat} {rk : Int → Nat} {S : List Nat} {F : List Int} {G : bSt → Prop} {H : bHp}
def bqJ (L n : Nat) (σ : bSt) : Prop := ∃ μ, μ ≤ 1000 + σ.2.2.2.2.1 ∧ bI9 (bqG n μ) bqH L n σ
theorem bqG_n (h : bqG N μ s) (hN : N ≤ N') : bqG N' μ s := by
  obtain ⟨b1, b2, b3, b4, b5, b6, b7, b8⟩ := h
  exact ⟨b1, b2, b3, b4, ⟨b5.1, by have := b5.2; omega⟩, b6, b7, bqZ_n b8 hN⟩
/-- on to the next call -/
theorem bqJ_l (hμ : μ ≤ 1000 + σ.2.2.2.2.1) (hG : ∀ s, G s → bqG n μ s) (hH : ∀ c k s, G s → H c k s → bqH c k s) : ∀ s, bI9 G H L n s → bLe σ s → bqJ L n s := fun s ⟨a1, a2, a3, a4, c, k, a5, a6, a7⟩ le => ⟨μ, Nat.le_trans hμ (Nat.add_le_add_left le.1 _), a1, a2, a3, hG s a4, c, k, a5, a6, hH c k s a4 a7⟩
/-- rules aside, what is known between calls -/
def bqRr (N μ : Nat) (σ : bSt) : Prop := bPm N σ ∧ bAk σ ∧ bMr σ ∧ bqZ N μ σ
theorem bqRr_u (u : bUn S F σ s) (hS : ∀ k ∈ [0, 1, 3, 4, 5, 6, 13, 14, 15, 16, 17, 18, 22, 23, 24, 27, 30, 33, 101, 102, 103, 104, 105, 106, 110, 111, 112, 113, 114, 115, 121, 122, 123, 124, 125, 126, 127, 128, 129, 134, 135, 136, 137, 138, 139, 140, 142, 143, 144], k ∉ S) (hF : ∀ k ∈ [49, 68, 73, 87, 88, 95], k ∉ F) (h : bqRr N μ σ) : bqRr N μ s := by
  have m : ∀ T : List Nat, (∀ k ∈ T, k ∈ [0, 1, 3, 4, 5, 6, 13, 14, 15, 16, 17, 18, 22, 23, 24, 27, 30, 33, 101, 102, 103, 104, 105, 106, 110, 111, 112, 113, 114, 115, 121, 122, 123, 124, 125, 126, 127, 128, 129, 134, 135, 136, 137, 138, 139, 140, 142, 143, 144]) → ∀ k ∈ T, k ∉ S := fun T hT k hk => hS k (hT k hk)
  obtain ⟨b5, b6, b7, b8⟩ := h
  exact ⟨bPm_un u (hS 6 (by decide)) (hS 27 (by decide)) b5, bAk_un u (m _ (by decide)) (hF 49 (by decide)) b6, bMr_un u (hS 30 (by decide)) b7, bqZ_un u (m _ (by decide)) hF b8⟩
theorem bX_un (u : bUn S F σ s) (hS : ∀ k ∈ [7, 34, 35, 36, 37, 38, 39, 40, 41, 42, 43, 44, 45], k ∉ S) (h : bi σ 7 15 = -1 ∨ bXe σ) : bi s 7 15 = -1 ∨ bXe s := h.imp (fun w => by rw [u.1 7 (hS 7 (by decide)) (by decide)]; exact w) (fun w => bXe_un u hS w)
/-- where all stands -/
theorem bqG_1 (u : bUn S F σ s) (hT : bTg s) (hTs : bTst s) (hS1 : ∀ k ∈ [34, 35, 36, 37, 38, 58, 59], k ∉ S) (hS2 : ∀ k ∈ [7, 34, 35, 36, 37, 38, 39, 40, 41, 42, 43, 44, 45], k ∉ S) (hS : ∀ k ∈ [0, 4, 6, 13, 22, 23, 27, 30, 33, 101, 102, 103, 104, 105, 106], k ∉ S) (hF : 49 ∉ F) (hZ : bqZ N μ s) (h : bqG N μ σ) : bqG N μ s := by
  obtain ⟨b1, b2, b3, b4, b5, b6, b7, b8⟩ := h
  exact ⟨hT, hTs, bRs_un u hS1 b3, bX_un u hS2 b4, bPm_un u (hS 6 (by decide)) (hS 27 (by decide)) b5, bAk_un u (fun k hk => hS k (by simp only [List.mem_cons, List.not_mem_nil, or_false] at hk ⊢; omega)) hF b6, bMr_un u (hS 30 (by decide)) b7, hZ⟩
theorem bqG_f (u : bUn bSf [0, 17] σ s) (h : bqG N μ σ) : bqG N μ s := bqG_1 u (bTg_un u (by decide) (by decide) h.1) (bTst_un u (by decide) (by decide) h.2.1) (by decide) (by decide) (by decide) (by decide) (bqZ_un u (by decide) (by decide) h.2.2.2.2.2.2.2) h
theorem bqG_00 (u : bUn [] [0] σ s) (h : bqG N μ σ) : bqG N μ s := bqG_0 (Nat.le_refl _) u h
theorem bqG_z (h : bqG N μ σ) : bqZ N μ σ := h.2.2.2.2.2.2.2
theorem c0 (hμ : μ ≤ 1000 + σ.2.2.2.2.1) (h : bI9 (bqG N μ) bqH L N σ) : bK0 (bqJ L (N + 1)) σ := bKm0 (bqJ_l hμ (fun _ w => bqG_n w (Nat.le_succ _)) fun _ _ _ _ w => w) (k0 (fun _ _ => bqG_f) (fun _ _ _ _ u => bqH_un u (by decide)) h)
theorem c1 (hμ : μ ≤ 1000 + σ.2.2.2.2.1) (h : bI9 (bqG N μ) bqH L N σ) : bK1 (bqJ L (N + 1)) σ := bKm1 (bqJ_l hμ (fun _ w => bqG_n w (Nat.le_succ _)) fun _ _ _ _ w => w) (k1 (fun _ _ => bqG_f) (fun _ _ _ _ u => bqH_un u (by decide)) h)
theorem c2 (hμ : μ ≤ 1000 + σ.2.2.2.2.1) (h : bI9 (bqG N μ) bqH L N σ) : bK2 (bqJ L (N + 1)) σ := bKm2 (bqJ_l hμ (fun _ w => bqG_n w (Nat.le_succ _)) fun _ _ _ _ w => w) (k2 (fun _ _ => bqG_f) (fun _ _ _ _ u => bqH_un u (by decide)) h)
theorem c3 (hμ : μ ≤ 1000 + σ.2.2.2.2.1) (h : bI9 (bqG N μ) bqH L N σ) : bK3 (bqJ L (N + 1)) σ := bKm3 (bqJ_l hμ (fun _ w => bqG_n w (Nat.le_succ _)) fun _ _ _ _ w => w) (k3 (fun _ _ => bqG_f) (fun _ _ _ _ u => bqH_un u (by decide)) h)
theorem c4 (hμ : μ ≤ 1000 + σ.2.2.2.2.1) (h : bI9 (bqG N μ) bqH L N σ) : bK4 (bqJ L (N + 1)) σ := bKm4 (bqJ_l hμ (fun _ w => bqG_n w (Nat.le_succ _)) fun _ _ _ _ w => w) (k4 (fun _ _ => bqG_f) (fun _ _ _ _ u => bqH_un u (by decide)) h)
theorem c10 (hμ : μ ≤ 1000 + σ.2.2.2.2.1) (h : bI9 (bqG N μ) bqH L N σ) : bK10 (bqJ L (N + 1)) σ := bKm10 (bqJ_l hμ (fun _ w => bqG_n w (Nat.le_succ _)) fun _ _ _ _ w => w) (k10 (fun _ _ => bqG_f) (fun _ _ _ _ u => bqH_un u (by decide)) h)
theorem c11 (hμ : μ ≤ 1000 + σ.2.2.2.2.1) (h : bI9 (bqG N μ) bqH L N σ) : bK11 (bqJ L (N + 1)) σ := bKm11 (bqJ_l hμ (fun _ w => bqG_n w (Nat.le_succ _)) fun _ _ _ _ w => w) (k11 (fun _ _ => bqG_f) (fun _ _ _ _ u => bqH_un u (by decide)) h)
theorem c12 (hμ : μ ≤ 1000 + σ.2.2.2.2.1) (h : bI9 (bqG N μ) bqH L N σ) : bK12 (bqJ L (N + 1)) σ := bKm12 (bqJ_l hμ (fun _ w => bqG_n w (Nat.le_succ _)) fun _ _ _ _ w => w) (k12 (fun _ _ => bqG_f) (fun _ _ _ _ u => bqH_un u (by decide)) h)
/-- rules -/
theorem bqRr_s (u : bUn bSs [0] σ s) (h : bqRr N μ σ) : bqRr N μ s := bqRr_u u (by decide) (by decide) h
theorem bqRr_e (u : bUn bEvA [0, 7] σ s) (h : bqRr N μ σ) : bqRr N μ s := bqRr_u u (by decide) (by decide) h
theorem c5 (hμ : μ ≤ 1000 + σ.2.2.2.2.1) (h : bI9 (bqG N μ) bqH L N σ) : bK5 (bqJ L (N + 1)) σ := bKm5 (bqJ_l (G := bGs bXe (bqRr N μ)) hμ (fun s w => bqG_n (show bqG N μ s from w) (Nat.le_succ _)) fun _ _ _ _ w => w) (k5 (X := bXe) (R := bqRr N μ) (fun _ _ u => bXe_un u (by decide)) (fun _ _ => bqRr_s) (fun _ _ _ _ u => bqH_un u (by decide)) h)
theorem c6 (hμ : μ ≤ 1000 + σ.2.2.2.2.1) (h : bI9 (bqG N μ) bqH L N σ) : bK6 (bqJ L (N + 1)) σ := bKm6 (bqJ_l (G := bGs bXe (bqRr N μ)) hμ (fun s w => bqG_n (show bqG N μ s from w) (Nat.le_succ _)) fun _ _ _ _ w => w) (k6 (X := bXe) (R := bqRr N μ) (fun _ _ u => bXe_un u (by decide)) (fun _ _ => bqRr_s) (fun _ _ _ _ u => bqH_un u (by decide)) h)
theorem c7 (hμ : μ ≤ 1000 + σ.2.2.2.2.1) (h : bI9 (bqG N μ) bqH L N σ) : bK7 (bqJ L (N + 1)) σ := bKm7 (bqJ_l (G := bGs bXe (bqRr N μ)) hμ (fun s w => bqG_n (show bqG N μ s from w) (Nat.le_succ _)) fun _ _ _ _ w => w) (k7 (R := bqRr N μ) (fun _ _ => bqRr_e) (fun _ _ _ _ u => bqH_un u (by decide)) h)
theorem c8 (hμ : μ ≤ 1000 + σ.2.2.2.2.1) (h : bI9 (bqG N μ) bqH L N σ) : bK8 (bqJ L (N + 1)) σ := bKm8 (bqJ_l (G := bGs bXe (bqRr N μ)) hμ (fun s w => bqG_n (show bqG N μ s from w) (Nat.le_succ _)) fun _ _ _ _ w => w) (k8 (R := bqRr N μ) (fun _ _ => bqRr_e) (fun _ _ _ _ u => bqH_un u (by decide)) h)
theorem c9 (hμ : μ ≤ 1000 + σ.2.2.2.2.1) (h : bI9 (bqG N μ) bqH L N σ) : bK9 (bqJ L (N + 1)) σ := bKm9 (bqJ_l (G := bGs bXe (bqRr N μ)) hμ (fun s w => bqG_n (show bqG N μ s from w) (Nat.le_succ _)) fun _ _ _ _ w => w) (k9 (R := bqRr N μ) (fun _ _ => bqRr_e) (fun _ _ _ _ u => bqH_un u (by decide)) h)
/-- targets -/
def bqRt (N μ : Nat) (σ : bSt) : Prop := bRs σ ∧ (bi σ 7 15 = -1 ∨ bXe σ) ∧ bqRr N μ σ
def bqRu (N μ : Nat) (σ : bSt) : Prop := bTst σ ∧ bqRt N μ σ
theorem bqRt_b (u : bUn bSb bFb σ s) (h : bqRt N μ σ) : bqRt N μ s := ⟨bRs_un u (by decide) h.1, bX_un u (by decide) h.2.1, bqRr_u u (by decide) (by decide) h.2.2⟩
theorem bqRu_a (u : bUn bSa [0, 17] σ s) (h : bqRu N μ σ) : bqRu N μ s := ⟨bTst_un u (by decide) (by decide) h.1, bRs_un u (by decide) h.2.1, bX_un u (by decide) h.2.2.1, bqRr_u u (by decide) (by decide) h.2.2.2⟩
theorem c13 (hμ : μ ≤ 1000 + σ.2.2.2.2.1) (h : bI9 (bqG N μ) bqH L N σ) : bK13 (bqJ L (N + 1)) σ := bKm13 (bqJ_l (G := fun σ => bTg σ ∧ bTst σ ∧ bqRt N μ σ) hμ (fun s w => bqG_n (show bqG N μ s from w) (Nat.le_succ _)) fun _ _ _ _ w => w) (k13 (R := bqRt N μ) (fun _ _ => bqRt_b) (fun _ _ _ _ u => bqH_un u (by decide)) h)
theorem c14 (hμ : μ ≤ 1000 + σ.2.2.2.2.1) (h : bI9 (bqG N μ) bqH L N σ) : bK14 (bqJ L (N + 1)) σ := bKm14 (bqJ_l (G := fun σ => bTg σ ∧ bqRu N μ σ) hμ (fun s w => bqG_n (show bqG N μ s from w) (Nat.le_succ _)) fun _ _ _ _ w => w) (k14 (R := bqRu N μ) (fun _ _ => bqRu_a) (fun _ _ _ _ u => bqH_un u (by decide)) h)
theorem c15 (hμ : μ ≤ 1000 + σ.2.2.2.2.1) (h : bI9 (bqG N μ) bqH L N σ) : bK15 (bqJ L (N + 1)) σ := bKm15 (bqJ_l (G := fun σ => bTg σ ∧ bqRu N μ σ) hμ (fun s w => bqG_n (show bqG N μ s from w) (Nat.le_succ _)) fun _ _ _ _ w => w) (k15 (R := bqRu N μ) (fun _ _ => bqRu_a) (fun _ _ _ _ u => bqH_un u (by decide)) h)
theorem c16 (hμ : μ ≤ 1000 + σ.2.2.2.2.1) (h : bI9 (bqG N μ) bqH L N σ) : bK16 (bqJ L (N + 1)) σ := bKm16 (bqJ_l (G := fun σ => bTg σ ∧ bqRu N μ σ) hμ (fun s w => bqG_n (show bqG N μ s from w) (Nat.le_succ _)) fun _ _ _ _ w => w) (k16 (R := bqRu N μ) (fun _ _ => bqRu_a) (fun _ _ _ _ u => bqH_un u (by decide)) h)
theorem c17 (hμ : μ ≤ 1000 + σ.2.2.2.2.1) (h : bI9 (bqG N μ) bqH L N σ) : bK17 (bqJ L (N + 1)) σ := bKm17 (bqJ_l (G := fun σ => bTg σ ∧ bqRu N μ σ) hμ (fun s w => bqG_n (show bqG N μ s from w) (Nat.le_succ _)) fun _ _ _ _ w => w) (k17 (R := bqRu N μ) (fun _ _ => bqRu_a) (fun _ _ _ _ u => bqH_un u (by decide)) h)
theorem c18 (hμ : μ ≤ 1000 + σ.2.2.2.2.1) (h : bI9 (bqG N μ) bqH L N σ) : bK18 (bqJ L (N + 1)) σ := bKm18 (bqJ_l (G := fun σ => bTg σ ∧ bqRu N μ σ) hμ (fun s w => bqG_n (show bqG N μ s from w) (Nat.le_succ _)) fun _ _ _ _ w => w) (k18 (R := bqRu N μ) (fun _ _ => bqRu_a) (fun _ _ _ _ u => bqH_un u (by decide)) h)
theorem c19 (hμ : μ ≤ 1000 + σ.2.2.2.2.1) (h : bI9 (bqG N μ) bqH L N σ) : bK19 (bqJ L (N + 1)) σ := bKm19 (bqJ_l (G := fun σ => bTg σ ∧ bqRu N μ σ) hμ (fun s w => bqG_n (show bqG N μ s from w) (Nat.le_succ _)) fun _ _ _ _ w => w) (k19 (R := bqRu N μ) (fun _ _ => bqRu_a) (fun _ _ _ _ u => bqH_un u (by decide)) h)
theorem c20 (hμ : μ ≤ 1000 + σ.2.2.2.2.1) (h : bI9 (bqG N μ) bqH L N σ) : bK20 (bqJ L (N + 1)) σ := bKm20 (bqJ_l (G := fun σ => bTg σ ∧ bqRu N μ σ) hμ (fun s w => bqG_n (show bqG N μ s from w) (Nat.le_succ _)) fun _ _ _ _ w => w) (k20 (R := bqRu N μ) (fun _ _ => bqRu_a) (fun _ _ _ _ u => bqH_un u (by decide)) h)
theorem c21 (hμ : μ ≤ 1000 + σ.2.2.2.2.1) (h : bI9 (bqG N μ) bqH L N σ) : bK21 (bqJ L (N + 1)) σ := bKm21 (bqJ_l (G := fun σ => bTg σ ∧ bqRu N μ σ) hμ (fun s w => bqG_n (show bqG N μ s from w) (Nat.le_succ _)) fun _ _ _ _ w => w) (k21 (R := bqRu N μ) (fun _ _ => bqRu_a) (fun _ _ _ _ u => bqH_un u (by decide)) h)
theorem c22 (hμ : μ ≤ 1000 + σ.2.2.2.2.1) (h : bI9 (bqG N μ) bqH L N σ) : bK22 (bqJ L (N + 1)) σ := bKm22 (bqJ_l (G := fun σ => bTg σ ∧ bqRu N μ σ) hμ (fun s w => bqG_n (show bqG N μ s from w) (Nat.le_succ _)) fun _ _ _ _ w => w) (k22 (R := bqRu N μ) (fun _ _ => bqRu_a) (fun _ _ _ _ u => bqH_un u (by decide)) h)
theorem c23 (hμ : μ ≤ 1000 + σ.2.2.2.2.1) (h : bI9 (bqG N μ) bqH L N σ) : bK23 (bqJ L (N + 1)) σ := bKm23 (bqJ_l (G := fun σ => bTg σ ∧ bqRu N μ σ) hμ (fun s w => bqG_n (show bqG N μ s from w) (Nat.le_succ _)) fun _ _ _ _ w => w) (k23 (R := bqRu N μ) (fun _ _ => bqRu_a) (fun _ _ _ _ u => bqH_un u (by decide)) h)
/-- a plan -/
def bqRp (N μ : Nat) (σ : bSt) : Prop := bAk σ ∧ bMr σ ∧ bqZ N μ σ
theorem bqRp_p (u : bUn bPlK [0, 7] σ s) (e13 : bi s 6 13 = bi σ 6 13) (h : bqRp N μ σ) : bqRp N μ s := by
  obtain ⟨b6, b7, b8⟩ := h
  refine ⟨bAk_m b6 (fun b hb => u.1 b ?_ ?_) e13 (u.2.1 49 (by decide) (by decide)) (u.2.2.2.1 33 (by decide)) (fun a b hb => u.2.2.2.2 b ?_), bMr_un u (by decide) b7, ?_⟩
  · unfold bPlK
    simp only [List.mem_cons, List.not_mem_nil, or_false, not_or] at hb ⊢
    omega
  · simp only [List.mem_cons, List.not_mem_nil, or_false] at hb; omega
  · unfold bAd bAid at hb
    unfold bPlK
    simp only [List.mem_cons, List.not_mem_nil, or_false, not_or] at hb ⊢
    omega
  · obtain ⟨_, _, _, _, ⟨rk, n, Z, R⟩, _⟩ := id b8
    refine bqZ_st (n := n) ⟨fun a a0 a1 => ⟨u.2.2.2.1 33 (by decide) a, fun b hb => u.1 b ?_ ?_⟩, fun x hx => ?_, fun a a0 a1 => ⟨fun c hc => u.1 c ?_ ?_ a, fun i i0 i1 => u.1 106 (by decide) (by decide) _⟩, fun c hc => u.1 c ?_ ?_, fun k hk => u.2.1 k ?_ ?_, e13⟩ R.2.2.1.1 b8
    · unfold bqOb bAi bNe bKe at hb
      unfold bPlK
      simp only [List.mem_cons, List.not_mem_nil, or_false, not_or] at hb ⊢
      omega
    · unfold bqOb bAi bNe bKe at hb
      simp only [List.mem_cons, List.not_mem_nil, or_false] at hb
      omega
    · have hx' : x % 256 ∉ bPlK ∧ x % 256 ≠ 12 := by
        unfold bzTc at hx
        unfold bPlK
        simp only [List.mem_cons, List.not_mem_nil, or_false, not_or] at hx ⊢
        omega
      exact ⟨u.1 x hx'.1 hx'.2, u.2.2.2.1 x hx'.1, u.2.2.2.2 x hx'.1⟩
    · unfold bPlK
      simp only [List.mem_cons, List.not_mem_nil, or_false, not_or] at hc ⊢
      omega
    · simp only [List.mem_cons, List.not_mem_nil, or_false] at hc; omega
    · unfold bPlK
      simp only [List.mem_cons, List.not_mem_nil, or_false, not_or] at hc ⊢
      omega
    · simp only [List.mem_cons, List.not_mem_nil, or_false] at hc; omega
    · simp only [List.mem_cons, List.not_mem_nil, or_false] at hk; omega
    · simp only [List.mem_cons, List.not_mem_nil, or_false, not_or] at hk ⊢; omega
theorem c24 (hN : N ≤ 2000) (hμ : μ ≤ 1000 + σ.2.2.2.2.1) (h : bI9 (bqG N μ) bqH L N σ) : bK24 (bqJ L (N + 1)) σ := bKm24 (bqJ_l (G := bGp (N + 1) (bqRp N μ)) hμ (fun s ⟨w1, w2, w3, w4, w5, w6, w7, w8⟩ => ⟨w1, w2, w3, w4, w5, w6, w7, bqZ_n w8 (Nat.le_succ _)⟩) fun _ _ _ _ w => w) (k24g (R := bqRp N μ) (fun _ _ => bqRp_p) (fun _ _ _ _ u => bqH_un u (by decide)) (Nat.le_trans hN (by decide)) h)
theorem bqG_25 (u : bUn [16, 17, 136, 137] [0] σ s) (m : bM25 s) (m2 : ∀ j, 0 ≤ j → bi s 137 j = bi σ 137 j ∨ bi s 137 j = -1) (h : bqG N μ σ) : bqG N μ s := bqG_1 u (bTg_un u (by decide) (by decide) h.1) (bTst_un u (by decide) (by decide) h.2.1) (by decide) (by decide) (by decide) (by decide) (bqZ_25 u m m2 (bqG_z h)) h
theorem c25 (hμ : μ ≤ 1000 + σ.2.2.2.2.1) (h : bI9 (bqG N μ) bqH L N σ) : bK25 (bqJ L (N + 1)) σ := bKm25 (bqJ_l hμ (fun _ w => bqG_n w (Nat.le_succ _)) fun _ _ _ _ w => w) (k25g (fun _ w => (bqG_z w).1.2.1) (fun _ _ => bqG_25) (fun _ _ _ _ u => bqH_un u (by decide)) h)
theorem bqG_26 (u : bUn [3] [0, 68] σ s) (m : bM26 s) (h : bqG N μ σ) : bqG N μ s := bqG_1 u (bTg_un u (by decide) (by decide) h.1) (bTst_un u (by decide) (by decide) h.2.1) (by decide) (by decide) (by decide) (by decide) (bqZ_26 u m (bqG_z h)) h
theorem c26 (hμ : μ ≤ 1000 + σ.2.2.2.2.1) (h : bI9 (bqG N μ) bqH L N σ) : bK26 (bqJ L (N + 1)) σ := bKm26 (bqJ_l hμ (fun _ w => bqG_n w (Nat.le_succ _)) fun _ _ _ _ w => w) (k26 (fun _ w => (bqG_z w).1.1) (fun _ _ => bqG_26) (fun _ _ _ _ u => bqH_un u (by decide)) h)
theorem bqG_27 (u : bUn [5] [0, 87, 88] σ s) (o : ∀ i, 0 ≤ i → i ≠ 5 → i ≠ 6 → bi s 5 i = bi σ 5 i) (m : bM27 s) (h : bqG N μ σ) : bqG N μ s := bqG_1 u (bTg_un u (by decide) (by decide) h.1) (bTst_un u (by decide) (by decide) h.2.1) (by decide) (by decide) (by decide) (by decide) (bqZ_27 u o m (bqG_z h)) h
theorem c27 (hμ : μ ≤ 1000 + σ.2.2.2.2.1) (h : bI9 (bqG N μ) bqH L N σ) : bK27 (bqJ L (N + 1)) σ := bKm27 (bqJ_l hμ (fun _ w => bqG_n w (Nat.le_succ _)) fun _ _ _ _ w => w) (k27 (fun _ w => (bqG_z w).1.2.2.1) (fun _ _ => bqG_00) (fun _ _ => bqG_27) (fun _ _ _ _ u => bqH_un u (by decide)) (fun _ _ _ _ u _ => bqH_un u (by decide)) h)
theorem bqG_28 (u : bUn [15, 135] [0] σ s) (m : bM28 s) (o : ∀ i, bi s 15 i = bi σ 15 i) (h : bqG N μ σ) : bqG N μ s := bqG_1 u (bTg_un u (by decide) (by decide) h.1) (bTst_un u (by decide) (by decide) h.2.1) (by decide) (by decide) (by decide) (by decide) (bqZ_28 u m o (bqG_z h)) h
theorem c28 (hμ : μ ≤ 1000 + σ.2.2.2.2.1) (h : bI9 (bqG N μ) bqH L N σ) : bK28 (bqJ L (N + 1)) σ := bKm28 (bqJ_l hμ (fun _ w => bqG_n w (Nat.le_succ _)) fun _ _ _ _ w => w) (k28 (fun _ w => (bqG_z w).1.2.2.2.1) (fun _ _ => bqG_28) (fun _ _ _ _ u _ => bqH_un u (by decide)) h)
theorem bqG_29 (f : bFgt 1 0 32 σ s ∨ bFgt 257 32 80 σ s) (h : bqG N μ σ) : bqG N μ s := by
  have u : bUn [1, 121] [0] σ s := f.elim (fun f => f.1) fun f => f.1
  exact bqG_1 u (bTg_un u (by decide) (by decide) h.1) (bTst_un u (by decide) (by decide) h.2.1) (by decide) (by decide) (by decide) (by decide) (bqZ_29 f (bqG_z h)) h
theorem c29 (hμ : μ ≤ 1000 + σ.2.2.2.2.1) (h : bI9 (bqG N μ) bqH L N σ) : bK29 (bqJ L (N + 1)) σ := bKm29 (bqJ_l hμ (fun _ w => bqG_n w (Nat.le_succ _)) fun _ _ _ _ w => w) (k29 (fun _ w => bqZ_Ct (bqG_z w)) (fun _ _ => bqG_29) (fun _ _ _ s f => bqH_un (f.elim (fun f => f.1) fun f => f.1) (by decide)) h)
theorem c30 (hμ : μ ≤ 1000 + σ.2.2.2.2.1) (h : bI9 (bqG N μ) bqH L N σ) : bK30 (bqJ L (N + 1)) σ := bKm30 (bqJ_l hμ (fun _ w => bqG_n w (Nat.le_succ _)) fun _ _ _ _ w => w) (k30 (fun _ w => bqZ_Ct (bqG_z w)) (fun _ _ => bqG_00) (fun _ _ _ _ u => bqH_un u (by decide)) h)
theorem c32 (hμ : μ ≤ 1000 + σ.2.2.2.2.1) (h : bI9 (bqG N μ) bqH L N σ) : bK32 (bqJ L (N + 1)) σ := bKm32 (bqJ_l hμ (fun _ w => bqG_n w (Nat.le_succ _)) fun _ _ _ _ w => w) (k32 (fun _ w => (bqG_z w).2.1.1) (fun _ _ => bqG_00) (fun _ _ _ _ u => bqH_un u (by decide)) h)
theorem c33 (hμ : μ ≤ 1000 + σ.2.2.2.2.1) (h : bI9 (bqG N μ) bqH L N σ) : bK33 (bqJ L (N + 1)) σ := bKm33 (bqJ_l hμ (fun _ w => bqG_n w (Nat.le_succ _)) fun _ _ _ _ w => w) (k33 (fun _ w => (bqG_z w).2.1.2) (fun _ _ => bqG_00) (fun _ _ _ _ u => bqH_un u (by decide)) h)
theorem c34 (hμ : μ ≤ 1000 + σ.2.2.2.2.1) (h : bI9 (bqG N μ) bqH L N σ) : bK34 (bqJ L (N + 1)) σ := bKm34 (bqJ_l hμ (fun _ w => bqG_n w (Nat.le_succ _)) fun _ _ _ _ w => w) (k34 (fun _ w => (bqG_z w).2.2.1.2) (fun _ _ => bqG_00) (fun _ _ _ _ u => bqH_un u (by decide)) h)
theorem c35 (hμ : μ ≤ 1000 + σ.2.2.2.2.1) (h : bI9 (bqG N μ) bqH L N σ) : bK35 (bqJ L (N + 1)) σ := bKm35 (bqJ_l hμ (fun _ w => bqG_n w (Nat.le_succ _)) fun _ _ _ _ w => w) (k35 (fun _ w => w.2.2.2.2.2.1.1.1) (fun _ _ => bqG_00) (fun _ _ _ _ u => bqH_un u (by decide)) h)
theorem c37 (hμ : μ ≤ 1000 + σ.2.2.2.2.1) (h : bI9 (bqG N μ) bqH L N σ) : bK37 (bqJ L (N + 1)) σ := bKm37 (bqJ_l hμ (fun _ w => bqG_n w (Nat.le_succ _)) fun _ _ _ _ w => w) (k37 (fun _ w => (bqG_z w).2.2.1.1) (fun _ _ => bqG_00) (fun _ _ _ _ u => bqH_un u (by decide)) h)
theorem c38 (hμ : μ ≤ 1000 + σ.2.2.2.2.1) (h : bI9 (bqG N μ) bqH L N σ) : bK38 (bqJ L (N + 1)) σ := bKm38 (bqJ_l hμ (fun _ w => bqG_n w (Nat.le_succ _)) fun _ _ _ _ w => w) (k38 (fun _ w => (bqG_z w).2.2.1.1) (fun _ _ => bqG_00) (fun _ _ _ _ u => bqH_un u (by decide)) h)
theorem c39 (hμ : μ ≤ 1000 + σ.2.2.2.2.1) (h : bI9 (bqG N μ) bqH L N σ) : bK39 (bqJ L (N + 1)) σ := bKm39 (bqJ_l hμ (fun _ w => bqG_n w (Nat.le_succ _)) fun _ _ _ _ w => w) (k39 (fun _ w => (bqG_z w).2.2.1.1) (fun _ _ => bqG_00) (fun _ _ _ _ u => bqH_un u (by decide)) h)
theorem c43 (hμ : μ ≤ 1000 + σ.2.2.2.2.1) (h : bI9 (bqG N μ) bqH L N σ) : bK43 (bqJ L (N + 1)) σ := bKm43 (bqJ_l hμ (fun _ w => bqG_n w (Nat.le_succ _)) fun _ _ _ _ w => w) (k43 (fun _ w => ⟨w.1, w.2.1⟩) (fun _ _ => bqG_00) (fun _ _ _ _ u => bqH_un u (by decide)) h)
theorem c44 (hμ : μ ≤ 1000 + σ.2.2.2.2.1) (h : bI9 (bqG N μ) bqH L N σ) : bK44 (bqJ L (N + 1)) σ := bKm44 (bqJ_l hμ (fun _ w => bqG_n w (Nat.le_succ _)) fun _ _ _ _ w => w) (k44 (fun _ w => w.2.1) (fun _ _ => bqG_00) (fun _ _ _ _ u => bqH_un u (by decide)) h)
theorem bqG_45 (u : bUn [11] [0, 112] σ s) (m : bTst s) (h : bqG N μ σ) : bqG N μ s := bqG_1 u (bTg_un u (by decide) (by decide) h.1) m (by decide) (by decide) (by decide) (by decide) (bqZ_un u (by decide) (by decide) (bqG_z h)) h
theorem c45 (hμ : μ ≤ 1000 + σ.2.2.2.2.1) (h : bI9 (bqG N μ) bqH L N σ) : bK45 (bqJ L (N + 1)) σ := bKm45 (bqJ_l hμ (fun _ w => bqG_n w (Nat.le_succ _)) fun _ _ _ _ w => w) (k45 (fun _ w => w.2.1) (fun _ _ => bqG_45) (fun _ _ _ _ u => bqH_un u (by decide)) h)
theorem bqG_46 (u : bUn [51, 153] [0] σ s) (h : bqG N μ σ) : bqG N μ s := bqG_1 u (bTg_un u (by decide) (by decide) h.1) (bTst_un u (by decide) (by decide) h.2.1) (by decide) (by decide) (by decide) (by decide) (bqZ_un u (by decide) (by decide) (bqG_z h)) h
theorem c46 (hμ : μ ≤ 1000 + σ.2.2.2.2.1) (h : bI9 (bqG N μ) bqH L N σ) : bK46 (bqJ L (N + 1)) σ := bKm46 (bqJ_l hμ (fun _ w => bqG_n w (Nat.le_succ _)) fun _ _ _ _ w => w) (k46 (fun _ w => w.1) (fun _ _ => bqG_46) (fun _ _ _ _ u => bqH_un u (by decide)) h)
theorem c47 (hμ : μ ≤ 1000 + σ.2.2.2.2.1) (h : bI9 (bqG N μ) bqH L N σ) : bK47 (bqJ L (N + 1)) σ := bKm47 (bqJ_l hμ (fun _ w => bqG_n w (Nat.le_succ _)) fun _ _ _ _ w => w) (k47 (fun _ w => w.1) (fun _ _ => bqG_46) (fun _ _ _ _ u => bqH_un u (by decide)) h)
theorem c48 (hμ : μ ≤ 1000 + σ.2.2.2.2.1) (h : bI9 (bqG N μ) bqH L N σ) : bK48 (bqJ L (N + 1)) σ := bKm48 (bqJ_l hμ (fun _ w => bqG_n w (Nat.le_succ _)) fun _ _ _ _ w => w) (k48 (fun _ w => w.1) (fun _ _ => bqG_46) (fun _ _ _ _ u => bqH_un u (by decide)) h)
end

/-! THE PLAN, 3: errors are a function of what is kept -/
section
variable {d : Nat} {σ s : bSt} {f : Int → bSt → Prop} {fv : bSt → Prop} {F G : Int → Int} {t x y z v k c i q : Int}
/-- what a plan is read from -/
def bPag (σ s : bSt) : Prop := (∀ a ∈ [56, 57, 71, 72, 73, 74, 75, 77, 78, 80, 81, 82, 83, 84, 85, 86, 87, 88], ∀ i, bi s a i = bi σ a i) ∧ bi s 12 17 = bi σ 12 17 ∧ bi s 12 22 = bi σ 12 22 ∧ ∀ t, bi s (bTi t) 4 = bi σ (bTi t) 4
theorem bPag_refl : bPag σ σ := ⟨fun _ _ _ => rfl, rfl, rfl, fun _ => rfl⟩
theorem bNuS_m (h : bPag σ s) : ∀ (m : Nat) (k : Int), bNuS s t c m k = bNuS σ t c m k
  | 0, k => by
    unfold bNuS
    rw [h.1 78 (by decide), h.1 77 (by decide), h.2.2.2]
  | m + 1, k => by
    unfold bNuS
    rw [h.1 84 (by decide), h.1 84 (by decide), h.1 84 (by decide), bNuS_m h m (k + 1)]
theorem bVeS_m (h : bPag σ s) : ∀ (m : Nat) (k : Int), bVeS s y c m k = bVeS σ y c m k
  | 0, k => rfl
  | m + 1, k => by
    unfold bVeS
    rw [h.1 72 (by decide), h.1 73 (by decide), h.1 71 (by decide), h.1 74 (by decide), bVeS_m h m (k + 1)]
theorem bNu_m (h : bPag σ s) : bNu s t c = bNu σ t c := by
  unfold bNu
  rw [h.1 83 (by decide), bNuS_m h]
theorem bVe_m (h : bPag σ s) : bVe s t c = bVe σ t c := by
  unfold bVe
  rw [h.1 80 (by decide), h.2.1, bVeS_m h]
theorem bBw_m (h : bPag σ s) : bBw s t c = bBw σ t c := by
  unfold bBw
  rw [h.1 81 (by decide), h.1 82 (by decide)]
theorem bOwn_p (h : bPag σ s) : bOwn s x = bOwn σ x := by
  unfold bOwn
  rw [h.1 57 (by decide), h.1 57 (by decide)]
theorem bFd_p (h : bPag σ s) : bFd s x y z = bFd σ x y z := funext fun p => by
  unfold bFd
  rw [bOwn_p h, h.1 56 (by decide)]
theorem bIf_m (h : bPag σ s) : bIf s F t c i = bIf σ F t c i := by
  unfold bIf
  rw [h.1 86 (by decide), h.1 87 (by decide), h.1 75 (by decide), h.1 56 (by decide), bOwn_p h, bBw_m h]
theorem bFiS_m (h : bPag σ s) : ∀ (m : Nat) (i q : Int), bFiS s F t c m i q = bFiS σ F t c m i q
  | 0, i, q => rfl
  | m + 1, i, q => by
    rw [bFiS_s, bFiS_s, bIf_m h, h.1 86 (by decide), h.1 75 (by decide), h.1 87 (by decide), h.1 88 (by decide), bFd_p h, bFiS_m h m]
theorem bF1_m (h : bPag σ s) : bF1 s F x = bF1 σ F x := by
  unfold bF1
  rw [h.1 57 (by decide), h.1 75 (by decide), h.1 85 (by decide), bNu_m h, bVe_m h, bFiS_m h]
theorem bFau_m (h : bPag σ s) : ∀ n : Nat, bFau s n = bFau σ n
  | 0 => rfl
  | n + 1 => funext fun x => by
    show bF1 s (bFau s n) x = bF1 σ (bFau σ n) x
    rw [bF1_m h, bFau_m h n]
theorem bFx_m (h : bPag σ s) : bFx s x = bFx σ x := by
  unfold bFx
  rw [bFau_m h]
/-- the node of an item -/
def bNod (σ : bSt) (x i : Int) : Int := bi σ 87 (6 * (x / 256) + i) * 256 + bBw σ (x / 256) (x % 256)
theorem bNd_at (hT : bTg σ) (ht : bTgk σ (x / 256)) (i0 : 0 ≤ i) (i1 : i < bi σ 85 (x / 256)) (hK : bi σ 86 (6 * (x / 256) + i) = 2) : (0 ≤ bNod σ x i ∧ bNod σ x i / 256 < x / 256 ∧ bTgk σ (bNod σ x i / 256)) ∧ bNod σ x i / 256 = bi σ 87 (6 * (x / 256) + i) ∧ bNod σ x i % 256 = bBw σ (x / 256) (x % 256) := by
  obtain ⟨hD, it⟩ := bItm_at hT ht i0 i1
  have br := bBw_rg hT ht (c := x % 256) ⟨by omega, by omega⟩
  have ht2 := ht.2
  unfold bNod bTgk
  rcases it with ⟨w, _⟩ | ⟨w, _⟩ | ⟨w, w0, w1, e⟩
  · omega
  · omega
  · generalize bi σ 87 (6 * (x / 256) + i) = W at *
    generalize bBw σ (x / 256) (x % 256) = B at *
    refine ⟨⟨by omega, by omega, by omega, by omega⟩, by omega, by omega⟩
theorem bIf_c (hT : bTg σ) (ht : bTgk σ (x / 256)) (i0 : 0 ≤ i) (i1 : i < bi σ 85 (x / 256)) (h : ∀ k, 0 ≤ k → k < bi σ 85 (x / 256) → bi σ 86 (6 * (x / 256) + k) = 2 → F (bNod σ x k) = G (bNod σ x k)) : bIf σ F (x / 256) (x % 256) i = bIf σ G (x / 256) (x % 256) i := by
  unfold bIf
  by_cases k0 : bi σ 86 (6 * (x / 256) + i) = 0
  · rw [if_pos k0, if_pos k0]
  · rw [if_neg k0, if_neg k0]
    by_cases k1 : bi σ 86 (6 * (x / 256) + i) = 2
    · rw [if_pos k1, if_pos k1]
      have := h i i0 i1 k1
      unfold bNod at this
      rw [this]
    · rw [if_neg k1, if_neg k1]
theorem bFiS_c (hT : bTg σ) (ht : bTgk σ (x / 256)) (h : ∀ k, 0 ≤ k → k < bi σ 85 (x / 256) → bi σ 86 (6 * (x / 256) + k) = 2 → F (bNod σ x k) = G (bNod σ x k)) : ∀ (m : Nat) (i q : Int), 0 ≤ i → i + m = bi σ 85 (x / 256) → bFiS σ F (x / 256) (x % 256) m i q = bFiS σ G (x / 256) (x % 256) m i q
  | 0, i, q, _, _ => rfl
  | m + 1, i, q, i0, hi => by
    rw [bFiS_s, bFiS_s, bIf_c hT ht i0 (by omega) h, bFiS_c hT ht h m (i + 1) _ (by omega) (by omega)]
theorem bF1_c (hT : bTg σ) (ht : bTgk σ (x / 256)) (h : ∀ k, 0 ≤ k → k < bi σ 85 (x / 256) → bi σ 86 (6 * (x / 256) + k) = 2 → F (bNod σ x k) = G (bNod σ x k)) : bF1 σ F x = bF1 σ G x := by
  have ic := bIc_at hT ht
  unfold bF1
  rw [bFiS_c hT ht h _ 0 0 (by decide) (by omega)]
theorem bFau_e (hT : bTg σ) : ∀ (n m : Nat) (x : Int), 0 ≤ x → bTgk σ (x / 256) → x / 256 < n → x / 256 < m → bFau σ n x = bFau σ m x
  | 0, m, x, x0, ht, h1, h2 => by omega
  | n + 1, 0, x, x0, ht, h1, h2 => by omega
  | n + 1, m + 1, x, x0, ht, h1, h2 => by
    show bF1 σ (bFau σ n) x = bF1 σ (bFau σ m) x
    refine bF1_c hT ht fun k k0 k1 hK => ?_
    obtain ⟨⟨q1, q2, q3⟩, _⟩ := bNd_at hT ht k0 k1 hK
    exact bFau_e hT n m _ q1 q3 (by omega) (by omega)
theorem bFx_s (hT : bTg σ) (x0 : 0 ≤ x) (ht : bTgk σ (x / 256)) : bFx σ x = bF1 σ (bFx σ) x := by
  have e : (x / 256 + 1).toNat = (x / 256).toNat + 1 := by omega
  show bFau σ (x / 256 + 1).toNat x = _
  rw [e]
  show bF1 σ (bFau σ (x / 256).toNat) x = _
  refine bF1_c hT ht fun k k0 k1 hK => ?_
  obtain ⟨⟨q1, q2, q3⟩, _⟩ := bNd_at hT ht k0 k1 hK
  unfold bFx
  exact bFau_e hT _ _ _ q1 q3 (by omega) (by omega)
theorem bFx_rg (hT : bTg σ) (x0 : 0 ≤ x) (ht : bTgk σ (x / 256)) : 0 ≤ bFx σ x ∧ bFx σ x ≤ 32774 := by
  rw [bFx_s hT x0 ht]
  exact bF1_rg hT ht
end
theorem bCn_c {P Q : Int → Bool} : ∀ (n : Nat), (∀ k, 0 ≤ k → k < (n : Int) → P k = Q k) → bCnp P n = bCnp Q n
  | 0, _ => rfl
  | n + 1, h => by
    unfold bCnp
    rw [h n (by omega) (by omega), bCn_c n (fun k k0 k1 => h k k0 (by omega))]
theorem bCn_a {P Q : Int → Bool} {y : Int} : ∀ (n : Nat), 0 ≤ y → y < (n : Int) → (∀ k, 0 ≤ k → k < (n : Int) → k ≠ y → P k = Q k) → P y = false → Q y = true → bCnp Q n = bCnp P n + 1
  | 0, _, _, _, _, _ => by omega
  | n + 1, y0, y1, h, hP, hQ => by
    unfold bCnp
    by_cases e : y = n
    · rw [e] at hP hQ
      rw [hP, hQ, bCn_c (P := Q) (Q := P) n (fun k k0 k1 => (h k k0 (by omega) (by omega)).symm), if_pos rfl, if_neg (by decide)]
      omega
    · rw [bCn_a n y0 (by omega) (fun k k0 k1 k2 => h k k0 (by omega) k2) hP hQ, h n (by omega) (by omega) (by omega)]
      omega

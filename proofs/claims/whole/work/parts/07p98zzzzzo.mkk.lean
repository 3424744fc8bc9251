/-! BUILD, 63: what holds between calls -/
/-- no entry lies behind the number μ -/
def bqF (μ : Nat) (σ : bSt) : Prop := 1000 ≤ μ ∧ ∀ x, x % 256 ∈ [4, 22, 23] → μ ≤ x / 256 → σ.2.2.2.1 x = 0
/-- both caches, without what is free -/
def bqCh0 (s : bSt) (N F : List bKy) : Prop := (bi s 1 0 = N.length ∧ bzCr s 1 24 N) ∧ (bi s 257 0 = F.length ∧ bzCr s 257 40 F) ∧ ∀ i j : Nat, i < 24 → j < 40 → ∀ e, br s 14 i = some e → br s 270 j ≠ some e
/-- the model that both sides follow between calls -/
def bqR (σ : bSt) (rk : Int → Nat) (n : Nat) (Z : bZs) : Prop := (bmI0 rk n Z ∧ bzIk n Z ∧ bzJc 24 Z.2.1 ∧ bzJc 40 Z.2.2.1) ∧ ((∀ a, 0 ≤ a → a < (n : Int) → bmA Z σ a ∧ bqK Z σ a) ∧ bqCh0 σ Z.2.1 Z.2.2.1) ∧
  (bi σ 12 49 = n ∧ (∀ a, 0 ≤ a → a < (n : Int) → (∀ b ∈ [101, 102, 103, 104, 105, 112], bi σ b a = Z.1 b a) ∧ ∀ i, 0 ≤ i → i < Z.1 105 a → bi σ 106 (40 * a + i) = Z.1 106 (40 * a + i)) ∧ bzRk n Z σ ∧ bzRc Z σ) ∧ ∀ a, 0 ≤ a → a < 120 → (0 ≤ bi σ 112 a ∧ bi σ 112 a < 1000) ∧ 0 ≤ bi σ 114 a ∧ bi σ 114 a ≤ 48
/-- all of a build that is kept -/
def bqZ (N μ : Nat) (σ : bSt) : Prop := bqE σ ∧ (bM32 σ ∧ bM33 σ) ∧ (bAs σ ∧ bAq σ) ∧ bqF μ σ ∧ (∃ rk n Z, bqR σ rk n Z) ∧ bi σ 12 73 ≤ 400 * N
/-- all that holds between calls -/
def bqG (N μ : Nat) : bSt → Prop := bGa N (bqZ N μ)
/-- rooms -/
def bqH : bHp := fun c k σ => (c : Int) ≤ 8 * bmN σ + 3 * bzSo σ ∧ (k : Int) ≤ 252 * bmN σ + 97 * bzSo σ
/-- room goes with actions and entries alone -/
def bqN (σ r : bSt) : Prop := (r.2.2.2.2.1 : Int) + 8 * bmN σ + 3 * bzSo σ ≤ σ.2.2.2.2.1 + 8 * bmN r + 3 * bzSo r + 1 ∧ (r.2.2.2.2.2 : Int) + 252 * bmN σ + 97 * bzSo σ ≤ σ.2.2.2.2.2 + 252 * bmN r + 97 * bzSo r + 6
/-- what a build changes -/
def bqKs : List Nat := [0, 1, 4, 5, 6, 13, 14, 15, 17, 18, 22, 23, 24, 25, 26, 27, 28, 29, 30, 31, 32, 33, 60, 61, 62, 63, 64, 65, 66, 67, 68, 69, 94, 95, 96, 97, 98, 99, 101, 102, 103, 104, 105, 106, 107, 108, 109, 110, 111, 112, 113, 114, 115, 116, 117, 118, 119, 120, 121, 122, 123, 124, 125, 126, 127, 128, 129, 130, 131, 132, 133, 134, 135, 137, 138, 139, 140, 141, 142, 143, 144, 145, 146, 147, 148, 149, 150]
def bqFs : List Int := [0, 7, 49, 70, 72, 73, 95, 105, 106]
section
variable {d lvl : Nat} {σ σ0 σr β s s0 s1 t r s' : bSt} {Z Z0 Y X Zs Zr : bZs} {x y v a b k i q g l : Int} {n n0 m z0 B N μ L : Nat} {rk : Int → Nat} {S : List Nat} {F : List Int}
theorem bqCh_of (h : bqCh0 s Z.2.1 Z.2.2.1) (f : bqF μ s) (hμ : μ ≤ 1000 + s.2.2.2.2.1) : bzCh s Z.2.1 Z.2.2.1 := ⟨h.1, h.2.1, h.2.2, fun x hx hx2 => f.2 x hx (by omega)⟩
theorem bqF_of (h : bzFc s) : bqF (1000 + s.2.2.2.2.1) s := ⟨by omega, fun x hx hx2 => h x hx hx2⟩
theorem bmN_b : 0 ≤ bmN s := (bCn_b 121).1
theorem bzSo_b : 0 ≤ bzSo s := by
  have h1 := (bCn_b (P := fun i => (br s 14 i).isSome) 24).1
  have h2 := (bCn_b (P := fun i => (br s 270 i).isSome) 40).1
  show 0 ≤ bCnp (fun i => (br s 14 i).isSome) 24 + bCnp (fun i => (br s 270 i).isSome) 40
  omega
theorem bqFin (h : bI9 (bqG N μ) bqH L N σ) (T : bT68 σ s1) (X1 : bi s1 7 15 = -1 ∨ bXe s1) (u : bUn bqKs bqFs s1 r) (hP : bPm (N + 1) r) (hA : bAk r) (hMr : bMr r) (hZ : bqZ (N + 1) m r) (hN : bqN σ r) : bI9 (bqG (N + 1) m) bqH L (N + 1) r := by
  obtain ⟨a1, a2, a3, ⟨b1, b2, b3, b4, b5, b6, b7, b8⟩, c, k, a5, a6, a7, a8⟩ := h
  have u0 := bT68_un T
  have e22 : bi r 12 22 = bi σ 12 22 := (u.2.1 22 (by decide) (by decide)).trans (T.2.1 12 (by decide) (by decide) 22)
  have eT : bT r = bT σ := by unfold bT; rw [e22]
  have n1 := bmN_b (s := r)
  have n2 := bzSo_b (s := r)
  obtain ⟨N1, N2⟩ := hN
  refine ⟨((bMid_un u (by decide)).2.trans (bMid_un u0 (by decide)).2).trans a1, bFi_un u (by decide) (bFi_un u0 (by decide) a2), bTl_un u (by decide) (by decide) (bTl_un u0 (by decide) (by decide) a3), ⟨bTg_un u (by decide) (by decide) (bTg_68 T b1), bTst_un u (by decide) (by decide) (bTst_un u0 (by decide) (by decide) b2), bRs_un u (by decide) (bRs_un u0 (by decide) b3), X1.imp (fun w => ?_) (fun w => bXe_un u (by decide) w), hP, hA, hMr, hZ⟩, (8 * bmN r + 3 * bzSo r).toNat, (252 * bmN r + 97 * bzSo r).toNat, ?_, ?_, ?_, ?_⟩
  · rw [u.1 7 (by decide) (by decide)]; exact w
  · rw [eT]; omega
  · rw [eT]; omega
  · omega
  · omega
end

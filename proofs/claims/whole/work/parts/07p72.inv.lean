/-! WHAT HOLDS BETWEEN CALLS: the modules of what is kept, and what leaves them alone -/
/-- nothing has changed off the kinds S and the fields F of the reference -/
def bUn (S : List Nat) (F : List Int) (σ s : bSt) : Prop := (∀ a, a % 256 ∉ S → a % 256 ≠ 12 → ∀ i, bi s a i = bi σ a i) ∧ (∀ i, 0 ≤ i → i ∉ F → bi s 12 i = bi σ 12 i) ∧ (∀ a, a ≠ 154 → a % 256 ∉ S → ∀ i, bj s a i = bj σ a i) ∧ (∀ a, a % 256 ∉ S → ∀ i, br s a i = br σ a i) ∧ (∀ a, a % 256 ∉ S → s.2.2.2.1 a = σ.2.2.2.1 a)
theorem bUn_refl {S : List Nat} {F : List Int} {σ : bSt} : bUn S F σ σ := ⟨fun _ _ _ _ => rfl, fun _ _ _ => rfl, fun _ _ _ _ => rfl, fun _ _ _ => rfl, fun _ _ => rfl⟩
theorem bUn_trans {S : List Nat} {F : List Int} {σ s t : bSt} (h : bUn S F σ s) (k : bUn S F s t) : bUn S F σ t :=
  ⟨fun a q1 q2 i => (k.1 a q1 q2 i).trans (h.1 a q1 q2 i), fun i q1 q2 => (k.2.1 i q1 q2).trans (h.2.1 i q1 q2), fun a q1 q2 i => (k.2.2.1 a q1 q2 i).trans (h.2.2.1 a q1 q2 i), fun a q i => (k.2.2.2.1 a q i).trans (h.2.2.2.1 a q i), fun a q => (k.2.2.2.2 a q).trans (h.2.2.2.2 a q)⟩
theorem bUn_w {S : List Nat} {F : List Int} {σ s : bSt} {a : Nat} {i v : Int} (h : bUn S F σ s) (ha : a % 256 ∈ S) (h12 : a % 256 ≠ 12) : bUn S F σ (bw s a i v) :=
  bUn_trans h ⟨fun b q1 _ _ => bi_ne (fun e => q1 (e ▸ ha)), fun _ _ _ => bi_ne (fun e => h12 (by rw [← e])), fun _ _ _ _ => rfl, fun _ _ _ => rfl, fun _ _ => rfl⟩
theorem bUn_f {S : List Nat} {F : List Int} {σ s : bSt} {i v : Int} (h : bUn S F σ s) (hi : 0 ≤ i) (hF : i ∈ F) : bUn S F σ (bw s 12 i v) :=
  bUn_trans h ⟨fun b _ q2 _ => bi_ne (fun e => q2 (by rw [e])), fun j q1 q2 => bi_nj hi q1 (fun e => q2 (e ▸ hF)), fun _ _ _ _ => rfl, fun _ _ _ => rfl, fun _ _ => rfl⟩
theorem bUn_o {S : List Nat} {F : List Int} {σ s : bSt} {i : Int} {v : Int64} (h : bUn S F σ s) : bUn S F σ (bwj s 154 i v) :=
  bUn_trans h ⟨fun _ _ _ _ => rfl, fun _ _ _ => rfl, fun _ q1 _ _ => bj_ne q1, fun _ _ _ => rfl, fun _ _ => rfl⟩
theorem bUn_C {S : List Nat} {F : List Int} {σ s : bSt} {c k : Nat} (h : bUn S F σ s) : bUn S F σ (bC s c k) :=
  bUn_trans h ⟨fun _ _ _ _ => rfl, fun _ _ _ => rfl, fun _ _ _ _ => rfl, fun _ _ _ => rfl, fun _ _ => rfl⟩
theorem bUn_S {S : List Nat} {F : List Int} {σ s t : bSt} (h : bUn S F σ s) (k : bSm S s t) (h12 : 12 ∉ S) : bUn S F σ t :=
  bUn_trans h ⟨fun a q1 _ i => k.2 a q1 i, fun i _ _ => k.2 12 h12 i, fun _ _ _ _ => by unfold bj; rw [k.1], fun _ _ _ => by unfold br; rw [k.1], fun _ _ => by rw [k.1]⟩
theorem bUn_mono {S S' : List Nat} {F F' : List Int} {σ s : bSt} (h : bUn S F σ s) (hS : ∀ k ∈ S, k ∈ S') (hF : ∀ k ∈ F, k ∈ F') : bUn S' F' σ s :=
  ⟨fun a q1 q2 i => h.1 a (fun z => q1 (hS _ z)) q2 i, fun i q1 q2 => h.2.1 i q1 (fun z => q2 (hF _ z)), fun a q1 q2 i => h.2.2.1 a q1 (fun z => q2 (hS _ z)) i, fun a q i => h.2.2.2.1 a (fun z => q (hS _ z)) i, fun a q => h.2.2.2.2 a (fun z => q (hS _ z))⟩
/-- files -/
theorem bFi_un {S : List Nat} {F : List Int} {σ s : bSt} (h : bUn S F σ s) (hS : ∀ k ∈ [19, 20, 21, 56, 57, 201], k ∉ S) (hF : bFi σ) : bFi s := by
  have e : ∀ a ∈ [19, 20, 21, 56, 57, 201], ∀ i, bi s a i = bi σ a i := fun a ha i => h.1 a (by
    have := hS a ha
    rwa [Nat.mod_eq_of_lt (by simp at ha; omega)]) (by rw [Nat.mod_eq_of_lt (by simp at ha; omega)]; simp at ha; omega) i
  have o : ∀ d, bOwn s d = bOwn σ d := fun d => by unfold bOwn; rw [e 57 (by decide), e 57 (by decide)]
  obtain ⟨h1, h2, h3, h4, h5, h6⟩ := hF
  exact ⟨fun p q1 q2 => by rw [e 19 (by decide), e 56 (by decide)]; exact h1 p q1 q2, by rw [e 57 (by decide)]; exact h2, fun d q1 q2 => by rw [e 57 (by decide)]; exact h3 d q1 q2, fun d q1 q2 => by rw [e 20 (by decide), e 57 (by decide)]; exact h4 d q1 q2, fun d q1 q2 => by rw [e 21 (by decide), o]; exact h5 d q1 q2, fun d q1 q2 => by rw [e 201 (by decide)]; exact h6 d q1 q2⟩
/-- settings and toolchains -/
def bTl (σ : bSt) : Prop := (0 ≤ bi σ 12 17 ∧ bi σ 12 17 ≤ 8 ∧ bi σ 10 1 = bi σ 12 17) ∧
  (∀ k, 0 ≤ k → k < bi σ 12 17 → (bi σ 52 k = bi σ 71 k ∧ 0 ≤ bi σ 71 k ∧ bi σ 71 k < 3) ∧ (bi σ 53 k = bi σ 72 k ∧ -1 ≤ bi σ 72 k ∧ bi σ 72 k < 4) ∧ (bi σ 54 k = bi σ 73 k ∧ 0 ≤ bi σ 73 k ∧ bi σ 73 k < 4) ∧ (bi σ 55 k = bi σ 74 k ∧ 0 ≤ bi σ 74 k ∧ bi σ 74 k < 100)) ∧
  (∀ k, 0 ≤ k → k < 4 → 0 ≤ bi σ 70 k ∧ bi σ 70 k < 4) ∧ bi σ 10 0 = bi σ 70 0 + 4 * bi σ 70 1 + 16 * bi σ 70 2 + 64 * bi σ 70 3
theorem bTl_un {S : List Nat} {F : List Int} {σ s : bSt} (h : bUn S F σ s) (hS : ∀ k ∈ [10, 52, 53, 54, 55, 70, 71, 72, 73, 74], k ∉ S) (hF : 17 ∉ F) (hT : bTl σ) : bTl s := by
  have e : ∀ a ∈ [10, 52, 53, 54, 55, 70, 71, 72, 73, 74], ∀ i, bi s a i = bi σ a i := fun a ha i => h.1 a (by
    have := hS a ha
    rwa [Nat.mod_eq_of_lt (by simp at ha; omega)]) (by rw [Nat.mod_eq_of_lt (by simp at ha; omega)]; simp at ha; omega) i
  have e2 : bi s 12 17 = bi σ 12 17 := h.2.1 17 (by decide) hF
  unfold bTl
  simp only [e2, e 10 (by decide), e 52 (by decide), e 53 (by decide), e 54 (by decide), e 55 (by decide), e 70 (by decide), e 71 (by decide), e 72 (by decide), e 73 (by decide), e 74 (by decide)]
  exact hT
/-- all that is kept between calls; H is of what the simple calls leave alone -/
abbrev bHp : Type := Nat → Nat → bSt → Prop
def bT (σ : bSt) : Nat := (bi σ 12 22).toNat
def bI9 (G : bSt → Prop) (H : bHp) (L n : Nat) (σ : bSt) : Prop := bLen σ 200 = L ∧ bFi σ ∧ bTl σ ∧ G σ ∧ ∃ c k, σ.2.2.2.2.1 ≤ 400 + n + 5 * bT σ + c ∧ σ.2.2.2.2.2 ≤ 590000 + 6 * n + 96 * bT σ + k ∧ H c k σ
theorem bMid_un {S : List Nat} {F : List Int} {σ s : bSt} (h : bUn S F σ s) (hS : 200 ∉ S) : bMid σ s :=
  ⟨fun j => h.1 200 hS (by decide) j, by
    have e := h.2.2.1 200 (by decide) hS 0
    show (bj s 200 0).toInt.toNat = (bj σ 200 0).toInt.toNat
    rw [e]⟩

/-! WHAT THE SMALL METHODS DO: each spec ends in what its caller goes on with -/
theorem bTt {c t f : Prop} (hc : c) (h : t) : (c → t) ∧ (¬ c → f) := ⟨fun _ => h, fun q => absurd hc q⟩
theorem bFf {c t f : Prop} (hc : ¬ c) (h : f) : (c → t) ∧ (¬ c → f) := ⟨fun q => absurd q hc, fun _ => h⟩
theorem bSp {c t f : Prop} (h1 : c → t) (h2 : ¬ c → f) : (c → t) ∧ (¬ c → f) := ⟨h1, h2⟩
theorem bi_bw {σ : bSt} {a b : Nat} {i j v : Int} (hi : 0 ≤ i) (hj : 0 ≤ j) (hv : bRg v) : bi (bw σ a i v) b j = if b = a ∧ j = i then v else bi σ b j := by
  show (bU σ.1 a i.toNat (bn v) b j.toNat).toInt = _
  unfold bU
  by_cases h : b = a ∧ j = i
  · rw [if_pos h, if_pos ⟨h.1, by rw [h.2]⟩, bn_toInt hv]
  · rw [if_neg h, if_neg (fun q => h ⟨q.1, by omega⟩)]
    rfl
theorem bi_ne {σ : bSt} {a b : Nat} {i j v : Int} (h : b ≠ a) : bi (bw σ a i v) b j = bi σ b j := by
  show (bU σ.1 a i.toNat (bn v) b j.toNat).toInt = _
  unfold bU
  rw [if_neg (fun q => h q.1)]
  rfl
theorem bi_eq {σ : bSt} {a : Nat} {i v : Int} (hv : bRg v) : bi (bw σ a i v) a i = v := by
  show (bU σ.1 a i.toNat (bn v) a i.toNat).toInt = _
  unfold bU
  rw [if_pos ⟨rfl, rfl⟩, bn_toInt hv]
theorem bi_nj {σ : bSt} {a : Nat} {i j v : Int} (hi : 0 ≤ i) (hj : 0 ≤ j) (h : j ≠ i) : bi (bw σ a i v) a j = bi σ a j := by
  show (bU σ.1 a i.toNat (bn v) a j.toNat).toInt = _
  unfold bU
  rw [if_neg (fun q => h (by omega))]
  rfl
theorem bj_bw {σ : bSt} {a b : Nat} {i j v : Int} : bj (bw σ a i v) b j = bj σ b j := rfl
theorem bi_bC {σ : bSt} {c s b : Nat} {j : Int} : bi (bC σ c s) b j = bi σ b j := rfl
theorem bi_bwj {σ : bSt} {a b : Nat} {i j : Int} {v : Int64} : bi (bwj σ a i v) b j = bi σ b j := rfl
theorem bj_eq {σ : bSt} {a : Nat} {i : Int} {v : Int64} : bj (bwj σ a i v) a i = v := by
  show bU σ.2.1 a i.toNat v a i.toNat = v
  unfold bU
  rw [if_pos ⟨rfl, rfl⟩]
theorem bj_ne {σ : bSt} {a b : Nat} {i j : Int} {v : Int64} (h : b ≠ a) : bj (bwj σ a i v) b j = bj σ b j := by
  show bU σ.2.1 a i.toNat v b j.toNat = _
  unfold bU
  rw [if_neg (fun q => h q.1)]
  rfl
theorem bLen_of {σ : bSt} {id k n : Nat} (h : id % 256 = k) (hk : k ≠ 200) (e : (bnth bKT k (9, 0, 0)).2 = (n, 0)) : bLen σ id = n := by
  unfold bLen
  have h2 : Nat.beq id bScr = false := by
    rw [Bool.eq_false_iff]
    intro q
    have := Nat.eq_of_beq_eq_true q
    unfold bScr at this
    omega
  rw [h2, h, e]
  show n + 0 * (id / 256) = n
  omega
theorem bTy_of {id k t : Nat} (h : id % 256 = k) (e : (bnth bKT k (9, 0, 0)).1 = t) : bTy id = t := by
  unfold bTy
  rw [h, e]
section
variable {d : Nat} {σ : bSt} {f : Int → bSt → Prop} {fv : bSt → Prop} {g : Nat → bSt → Prop} {x y z b : Int} {a : Nat}
theorem w136 (hx : bRg x) (hb : bRg b) (hd : 6 ≤ d) (h1 : 0 ≤ x ∧ x < b → fv σ) (h2 : ¬ (0 ≤ x ∧ x < b) → g 0 (bC σ 1 6)) : bWp (d + 1) 136 [.int (bn x), .int (bn b)] σ (bRvx fv g) :=
  ⟨rfl, fun _ hA => sq136_0 (bWp_mono d) hA hx hb ⟨fun _ => ⟨by omega, h2 (by omega)⟩, fun _ => ⟨fun _ => h1 (by omega), fun _ => ⟨by omega, h2 (by omega)⟩⟩⟩⟩
theorem w137 (hx : bRg x) (hd : 6 ≤ d) (h1 : 0 ≤ x → fv σ) (h2 : ¬ 0 ≤ x → g 0 (bC σ 1 6)) : bWp (d + 1) 137 [.int (bn x)] σ (bRvx fv g) :=
  ⟨rfl, fun _ hA => sq137_0 (bWp_mono d) hA hx ⟨fun _ => ⟨by omega, h2 (by omega)⟩, fun _ => h1 (by omega)⟩⟩
theorem w138 (hx : bRg x) (hy : bRg y) (hz : bRg z) (hd : 6 ≤ d) (h1 : y ≤ x ∧ x ≤ z → fv σ) (h2 : ¬ (y ≤ x ∧ x ≤ z) → g 1 (bC σ 1 6)) : bWp (d + 1) 138 [.int (bn x), .int (bn y), .int (bn z)] σ (bRvx fv g) :=
  ⟨rfl, fun _ hA => sq138_0 (bWp_mono d) hA hx hy hz ⟨fun _ => ⟨by omega, h2 (by omega)⟩, fun _ => ⟨fun _ => ⟨by omega, h2 (by omega)⟩, fun _ => h1 (by omega)⟩⟩⟩
theorem w139 (hx : bRg x) (hd : 6 ≤ d) (h1 : x ≠ 0 → fv σ) (h2 : x = 0 → g 2 (bC σ 1 6)) : bWp (d + 1) 139 [.int (bn x)] σ (bRvx fv g) :=
  ⟨rfl, fun _ hA => sq139_0 (bWp_mono d) hA hx ⟨fun c => ⟨by omega, h2 c⟩, fun c => h1 c⟩⟩
theorem w140 {n : Nat} (hx : bRg x) (ht : bTy a = 0) (hl : bLen σ a = n) (hn : n ≤ 10000) (h1 : 0 ≤ x ∧ x < (n : Int) → f (bi σ a x) σ) (h2 : ¬ (0 ≤ x ∧ x < (n : Int)) → f (-1) σ) : bWp (d + 1) 140 [.ref a, .int (bn x)] σ (bRn f) :=
  ⟨rfl, fun _ hA => sq140_0 (bWp_mono d) hA hx ⟨fun _ => bRn_i (by decide) (h2 (by omega)), fun _ => ⟨by rw [ht]; decide, by rw [hl]; omega, fun q => ⟨ht, ⟨by omega, q⟩, bRn_i (bi_rg _ _ _) (h1 (by rw [hl] at q; omega))⟩, fun q => bRn_i (by decide) (h2 (by rw [hl] at q; omega))⟩⟩⟩
theorem w140i {n : Nat} (ht : bTy a = 0) (hl : bLen σ a = n) (hn : n ≤ 10000) (h0 : 0 ≤ x) (hx : x < (n : Int)) (h1 : f (bi σ a x) σ) : bWp (d + 1) 140 [.ref a, .int (bn x)] σ (bRn f) :=
  w140 ⟨by omega, by omega⟩ ht hl hn (fun _ => h1) (fun q => absurd ⟨h0, hx⟩ q)
theorem w141 {n : Nat} (hx : bRg x) (hy : bRg y) (ht : bTy a = 0) (hw : a % 256 < 200) (hl : bLen σ a = n) (hn : n ≤ 10000) (h1 : 0 ≤ x ∧ x < (n : Int) → fv (bw σ a x y)) (h2 : ¬ (0 ≤ x ∧ x < (n : Int)) → fv σ) : bWp (d + 1) 141 [.ref a, .int (bn x), .int (bn y)] σ (bRv fv) :=
  ⟨rfl, fun _ hA => sq141_0 (bWp_mono d) hA hx hy ⟨fun _ => h2 (by omega), fun _ => ⟨by rw [ht]; decide, by rw [hl]; omega, fun q => ⟨ht, ⟨by omega, q⟩, hw, h1 (by rw [hl] at q; omega)⟩, fun q => h2 (by rw [hl] at q; omega)⟩⟩⟩
theorem w141i {n : Nat} (hy : bRg y) (ht : bTy a = 0) (hw : a % 256 < 200) (hl : bLen σ a = n) (hn : n ≤ 10000) (h0 : 0 ≤ x) (hx : x < (n : Int)) (h1 : fv (bw σ a x y)) : bWp (d + 1) 141 [.ref a, .int (bn x), .int (bn y)] σ (bRv fv) :=
  w141 ⟨by omega, by omega⟩ hy ht hw hl hn (fun _ => h1) (fun q => absurd ⟨h0, hx⟩ q)
theorem w196 (h : f (bi σ 12 0) σ) : bWp (d + 1) 196 [.ref 12] σ (bRn f) := ⟨rfl, fun _ hA => sq196_0 (bWp_mono d) hA (bRn_i (bi_rg _ _ _) h)⟩
theorem w197 (hx : bRg x) (h0 : x = 0 → f 0 (bw σ 12 0 x)) (h1 : x ≠ 0 → f 1 (bw σ 12 0 x)) : bWp (d + 1) 197 [.ref 12, .int (bn x)] σ (bRn f) :=
  ⟨rfl, fun _ hA => sq197_0 (bWp_mono d) hA hx ⟨fun c => bRn_i (by decide) (h0 c), fun c => bRn_i (by decide) (h1 c)⟩⟩
theorem w198 (hx : bRg x) (h : f x (bw σ 12 0 0)) : bWp (d + 1) 198 [.ref 12, .int (bn x)] σ (bRn f) := ⟨rfl, fun _ hA => sq198_0 (bWp_mono d) hA hx (bRn_i hx h)⟩
theorem w199 (hx : bRg x) (hy : bRg y) (hz : bRg z) (h1 : y ≤ x ∧ x ≤ z → f 1 σ) (h0 : ¬ (y ≤ x ∧ x ≤ z) → f 0 σ) : bWp (d + 1) 199 [.int (bn x), .int (bn y), .int (bn z)] σ (bRn f) :=
  ⟨rfl, fun _ hA => sq199_0 (bWp_mono d) hA hx hy hz ⟨fun _ => bRn_i (by decide) (h0 (by omega)), fun _ => ⟨fun _ => bRn_i (by decide) (h0 (by omega)), fun _ => bRn_i (by decide) (h1 (by omega))⟩⟩⟩
theorem w200 (hx : bRg x) (h1 : 0 ≤ x ∧ x < 48 → f 1 σ) (h0 : ¬ (0 ≤ x ∧ x < 48) → f 0 σ) : bWp (d + 2) 200 [.int (bn x)] σ (bRn f) :=
  ⟨rfl, fun _ hA => sq200_0 (bWp_mono _) hA hx (w199 hx (by decide) (by decide) (fun q => ⟨by decide, bRn_i (by decide) (h1 (by omega))⟩) (fun q => ⟨by decide, bRn_i (by decide) (h0 (by omega))⟩))⟩
theorem w201 (hx : bRg x) (h1 : 0 ≤ x ∧ x < 6 → f 1 σ) (h0 : ¬ (0 ≤ x ∧ x < 6) → f 0 σ) : bWp (d + 2) 201 [.int (bn x)] σ (bRn f) :=
  ⟨rfl, fun _ hA => sq201_0 (bWp_mono _) hA hx (w199 hx (by decide) (by decide) (fun q => ⟨by decide, bRn_i (by decide) (h1 (by omega))⟩) (fun q => ⟨by decide, bRn_i (by decide) (h0 (by omega))⟩))⟩
theorem w359 (hx : bRg x) (hy : bRg y) (h : f (max x y) σ) : bWp (d + 1) 359 [.int (bn x), .int (bn y)] σ (bRn f) :=
  ⟨rfl, fun _ hA => sq359_0 (bWp_mono d) hA hx hy ⟨fun _ => bRn_i hy (by rwa [Int.max_eq_right (by omega)] at h), fun _ => bRn_i hx (by rwa [Int.max_eq_left (by omega)] at h)⟩⟩
theorem w360 (hx : bRg x) (hy : bRg y) (h : f (min x y) σ) : bWp (d + 1) 360 [.int (bn x), .int (bn y)] σ (bRn f) :=
  ⟨rfl, fun _ hA => sq360_0 (bWp_mono d) hA hx hy ⟨fun _ => bRn_i hy (by rwa [Int.min_eq_right (by omega)] at h), fun _ => bRn_i hx (by rwa [Int.min_eq_left (by omega)] at h)⟩⟩
end

/-! FILES AND PACKAGES -/
def bSm (S : List Nat) (σ σ' : bSt) : Prop := σ'.2 = σ.2 ∧ ∀ a, a % 256 ∉ S → ∀ i, bi σ' a i = bi σ a i
theorem bSm_refl {S : List Nat} {σ : bSt} : bSm S σ σ := ⟨rfl, fun _ _ _ => rfl⟩
theorem bSm_trans {S : List Nat} {σ σ' σ'' : bSt} (h : bSm S σ σ') (k : bSm S σ' σ'') : bSm S σ σ'' := ⟨k.1.trans h.1, fun a ha i => (k.2 a ha i).trans (h.2 a ha i)⟩
theorem bSm_bw {S : List Nat} {σ : bSt} {a : Nat} {i v : Int} (h : a % 256 ∈ S) : bSm S σ (bw σ a i v) := ⟨rfl, fun b hb _ => bi_ne (fun e => hb (e ▸ h))⟩
theorem bSm_mono {S S' : List Nat} {σ σ' : bSt} (h : bSm S σ σ') (hs : ∀ k ∈ S, k ∈ S') : bSm S' σ σ' := ⟨h.1, fun a ha i => h.2 a (fun q => ha (hs _ q)) i⟩
def bPa (d : Int) : Int := if d < 3 then 0 else if d < 5 then 1 else 2
/-- the package to which a directory belongs -/
def bOwn (σ : bSt) (d : Int) : Int := if bi σ 57 d = 0 then (if bi σ 57 (bPa d) = 0 then 0 else bPa d) else d
def bPr (σ : bSt) : Prop := ∀ d, 0 ≤ d → d < 6 → bi σ 201 d = bPa d
def bFi (σ : bSt) : Prop := (∀ p, 0 ≤ p → p < 48 → bi σ 19 p = bi σ 56 p ∧ -1 ≤ bi σ 56 p ∧ bi σ 56 p < 1000) ∧ bi σ 57 0 = 1 ∧ (∀ d, 0 ≤ d → d < 6 → bi σ 57 d = 0 ∨ bi σ 57 d = 1) ∧ (∀ d, 1 ≤ d → d < 6 → bi σ 20 d = bi σ 57 d) ∧ (∀ d, 0 ≤ d → d < 6 → bi σ 21 d = bOwn σ d) ∧ bPr σ
def bMk (P : Int → Bool) : Nat → Int64
  | 0 => Int64.ofNat 0
  | n + 1 => bif P n then bMk P n ||| (Int64.ofNat 1 <<< (bL n &&& 63)) else bMk P n
def bFd (σ : bSt) (dir names deep p : Int) : Bool := decide ((p / 8 = dir ∨ deep ≠ 0 ∧ bOwn σ (p / 8) = dir) ∧ bi σ 56 p ≠ -1 ∧ bAnd (bShr names (p % 8)) 1 = 1)
section
variable {d : Nat} {σ : bSt} {f : Int → bSt → Prop} {fj : Int64 → bSt → Prop} {fv : bSt → Prop} {g : Nat → bSt → Prop} {p c x v : Int}
theorem w197z (h : f 0 (bw σ 12 0 0)) : bWp (d + 1) 197 [.ref 12, .int (bn 0)] σ (bRn f) := w197 (by decide) (fun _ => h) (fun q => absurd rfl q)
theorem w197n (hx : bRg x) (h0 : x ≠ 0) (h : f 1 (bw σ 12 0 x)) : bWp (d + 1) 197 [.ref 12, .int (bn x)] σ (bRn f) := w197 hx (fun q => absurd q h0) (fun _ => h)
theorem w31i (h0 : 0 ≤ p) (h1 : p < 48) (h : f (bi σ 19 p) σ) : bWp (d + 1) 31 [.ref 3, .int (bn p)] σ (bRn f) :=
  ⟨rfl, fun _ hA => sq31_0 (bWp_mono _) hA ⟨by omega, by omega⟩ (bFf (by omega) (bTt h1 ⟨⟨h0, h1⟩, bRn_i (bi_rg _ _ _) h⟩))⟩
theorem w31o (hp : bRg p) (h1 : ¬ (0 ≤ p ∧ p < 48)) (h : f (-1) σ) : bWp (d + 1) 31 [.ref 3, .int (bn p)] σ (bRn f) :=
  ⟨rfl, fun _ hA => sq31_0 (bWp_mono _) hA hp ⟨fun _ => bRn_i (by decide) h, fun _ => bFf (by omega) (bRn_i (by decide) h)⟩⟩
theorem w32 (h0 : 0 ≤ p) (h1 : p < 48) (hc : bRg c) (h : f (bi σ 19 p) (bw σ 19 p c)) : bWp (d + 2) 32 [.ref 3, .int (bn p), .int (bn c)] σ (bRn f) :=
  ⟨rfl, fun _ hA => sq32_0 (bWp_mono _) hA ⟨by omega, by omega⟩ hc (w31i h0 h1 (w141i (n := 48) hc rfl (by decide) rfl (by decide) h0 h1 (bRn_i (bi_rg _ _ _) h)))⟩
def bPk (σ : bSt) (x : Int) : Int := if x = 0 then 1 else if bi σ 20 x = 0 then 0 else 1
theorem w33 (h0 : 0 ≤ x) (h1 : x < 6) (h : f (bPk σ x) σ) : bWp (d + 1) 33 [.ref 3, .int (bn x)] σ (bRn f) := by
  refine ⟨rfl, fun _ hA => sq33_0 (bWp_mono _) hA ⟨by omega, by omega⟩ ?_⟩
  unfold bPk at h
  refine ⟨fun c => bRn_i (by decide) (by rwa [if_pos c] at h), fun c => bTt (by omega) (bTt h1 ⟨⟨h0, h1⟩, fun e => bRn_i (by decide) (by rwa [if_neg c, if_pos e] at h), fun e => bRn_i (by decide) (by rwa [if_neg c, if_neg e] at h)⟩)⟩
theorem bPa_lt {x : Int} (h0 : 1 ≤ x) (h1 : x < 6) : 0 ≤ bPa x ∧ bPa x < x := by
  unfold bPa
  split <;> (try split) <;> omega
theorem bPa_pa {x : Int} (h0 : 0 ≤ x) (h1 : x < 6) : bPa (bPa x) = 0 := by
  unfold bPa
  split <;> (try split) <;> (try split) <;> omega
theorem w34 (hP : bPr σ) (h0 : 1 ≤ x) (h1 : x < 6) (hv : v = 0 ∨ v = 1) (h21 : bi σ 21 0 = 0)
    (h : ∀ s, bSm [21] (bw σ 20 x v) s → bi s 21 0 = 0 → (∀ e, 1 ≤ e → e < 6 → bi s 21 e = if bPk s e = 0 then (if bPk s (bPa e) = 0 then 0 else bPa e) else e) → f (bPk σ x) s) : bWp (d + 2) 34 [.ref 3, .int (bn x), .int (bn v)] σ (bRn f) := by
  have hr : bRg v := by rcases hv with rfl | rfl <;> decide
  refine ⟨rfl, fun A hA => sq34_0 (bWp_mono _) hA ⟨by omega, by omega⟩ hr (w33 (by omega) h1 (bTt (by omega) (bTt h1 ⟨⟨by omega, h1⟩, hv, ?_⟩)))⟩
  have hb01 : bPk σ x = 0 ∨ bPk σ x = 1 := by
    unfold bPk
    split
    · exact Or.inr rfl
    · split
      · exact Or.inl rfl
      · exact Or.inr rfl
  have hb : bRg (bPk σ x) := by rcases hb01 with e | e <;> rw [e] <;> decide
  have L : ∀ (m : Nat) (n : Int) (s : bSt) (v1 v2 : Value), n + m = 6 → 1 ≤ n → bSm [21] (bw σ 20 x v) s → bi s 21 0 = 0 → (∀ e, 1 ≤ e → e < n → bi s 21 e = if bPk s e = 0 then (if bPk s (bPa e) = 0 then 0 else bPa e) else e) → A (18, [.ref 3, v1, v2, .int (bn (bPk σ x)), .int (bn n)], [], s) := by
    intro m
    induction m with
    | zero =>
      intro n s v1 v2 hn h3 hs hz he
      exact sq34_18 (bWp_mono _) hA hb ⟨by omega, by omega⟩ (bFf (by omega) ⟨hb01, bRn_i hb (h s hs hz fun e q1 q2 => he e q1 (by omega))⟩)
    | succ m ih =>
      intro n s v1 v2 hn h3 hs hz he
      have pk : ∀ (w : Int) (e : Int), bPk (bw s 21 n w) e = bPk s e := fun w e => by
        unfold bPk
        rw [bi_ne (by decide)]
      have stp : ∀ w : Int, bRg w → w = (if bPk s n = 0 then (if bPk s (bPa n) = 0 then 0 else bPa n) else n) → A (18, [.ref 3, v1, v2, .int (bn (bPk σ x)), .int (bn (n + 1))], [], bw s 21 n w) := by
        intro w hw hwe
        refine ih (n + 1) _ v1 v2 (by omega) (by omega) (bSm_trans hs (bSm_bw (by decide))) (by rw [bi_nj (by omega) (by omega) (by omega)]; exact hz) fun e q1 q2 => ?_
        rw [pk, pk, bi_bw (by omega) (by omega) hw]
        by_cases q : e = n
        · rw [if_pos ⟨rfl, q⟩, q, hwe]
        · rw [if_neg (fun z => q z.2)]
          exact he e q1 (by omega)
      have hpa := bPa_lt h3 (by omega : n < 6)
      have hP2 : bi s 201 n = bPa n := by
        rw [hs.2 201 (by decide), bi_ne (by decide)]
        exact hP n (by omega) (by omega)
      refine sq34_18 (bWp_mono _) hA hb ⟨by omega, by omega⟩ (bTt (by omega) (w33 (by omega) (by omega) ⟨fun e => ?_, fun e => ?_⟩))
      · refine w140i (n := 6) rfl rfl (by decide) (by omega) (by omega) ?_
        rw [hP2]
        refine w140i (n := 6) rfl rfl (by decide) hpa.1 (by omega) (w141i (n := 6) (bi_rg _ _ _) rfl (by decide) rfl (by decide) (by omega) (by omega) ⟨⟨by omega, by omega⟩, stp _ (bi_rg _ _ _) ?_⟩)
        rw [if_pos e]
        by_cases q : bPa n = 0
        · rw [q, hz]
          split <;> rfl
        · rw [he _ (by omega) (by omega), bPa_pa (by omega) (by omega)]
          split
          · split <;> rfl
          · rfl
      · refine w141i (n := 6) ⟨by omega, by omega⟩ rfl (by decide) rfl (by decide) (by omega) (by omega) ⟨⟨by omega, by omega⟩, stp _ ⟨by omega, by omega⟩ ?_⟩
        rw [if_neg e]
  exact L 5 1 _ _ _ (by decide) (by decide) bSm_refl (by rw [bi_ne (by decide)]; exact h21) (fun e q1 q2 => by omega)
theorem w35 (h0 : 0 ≤ p) (h1 : p < 48) (h : f (bi σ 21 (p / 8)) σ) : bWp (d + 1) 35 [.ref 3, .int (bn p)] σ (bRn f) := by
  refine ⟨rfl, fun _ hA => sq35_0 (bWp_mono _) hA ⟨by omega, by omega⟩ ?_⟩
  rw [bShr_3 h0 (by omega)]
  exact bFf (by omega) (bTt (by omega) ⟨⟨by omega, by omega⟩, bRn_i (bi_rg _ _ _) h⟩)
theorem w36 (hF : bFi σ) (h0 : 0 ≤ x) (h1 : x < 6) (hx : bi σ 57 x = 1) (h2 : 0 ≤ p) (h3 : p < 256) (hc : bRg c) (h : fj (bMk (bFd σ x p c) 48) σ) : bWp (d + 2) 36 [.ref 3, .int (bn x), .int (bn p), .int (bn c)] σ (bRj fj) := by
  refine ⟨rfl, fun A hA => sq36_0 (bWp_mono _) hA ⟨by omega, by omega⟩ ⟨by omega, by omega⟩ hc ?_⟩
  have hr1 : bRg x := ⟨by omega, by omega⟩
  have hr2 : bRg p := ⟨by omega, by omega⟩
  have L : ∀ (m n : Nat) (v7 : Value), n + m = 48 → A (4, [.ref 3, .int (bn x), .int (bn p), .int (bn c), .long (bMk (bFd σ x p c) n), .float 0, .int (bn n), v7], [], σ) := by
    intro m
    induction m with
    | zero =>
      intro n v7 hn
      have e : n = 48 := by omega
      subst e
      exact sq36_4 (bWp_mono _) hA hr1 hr2 hc ⟨by omega, by omega⟩ (bFf (by omega) h)
    | succ m ih =>
      intro n v7 hn
      obtain ⟨hf, -, -, -, ho, -⟩ := hF
      have hfn := hf n (by omega) (by omega)
      have hin : ∀ t0 : Int, bRg t0 → (t0 = x ↔ ((n : Int) / 8 = x ∨ c ≠ 0 ∧ bOwn σ ((n : Int) / 8) = x)) → A (16, [.ref 3, .int (bn x), .int (bn p), .int (bn c), .long (bMk (bFd σ x p c) n), .float 0, .int (bn n), v7], [.int (bn t0)], σ) := by
        intro t0 ht0 hiff
        have e8 : ((n : Int) + 1) = ((n + 1 : Nat) : Int) := by omega
        have no : ∀ w, ¬ (((n : Int) / 8 = x ∨ c ≠ 0 ∧ bOwn σ ((n : Int) / 8) = x) ∧ bi σ 56 n ≠ -1 ∧ bAnd (bShr p ((n : Int) % 8)) 1 = 1) → A (4, [.ref 3, .int (bn x), .int (bn p), .int (bn c), .long (bMk (bFd σ x p c) n), .float 0, .int (bn ((n : Int) + 1)), w], [], σ) := by
          intro w hw
          have := ih (n + 1) w (by omega)
          rw [show bMk (bFd σ x p c) (n + 1) = bMk (bFd σ x p c) n from by
            show (bif bFd σ x p c n then _ else _) = _
            rw [show bFd σ x p c n = false from decide_eq_false hw]; rfl] at this
          rw [e8]
          exact this
        refine sq36_16 (bWp_mono _) hA hr1 hr2 hc ⟨by omega, by omega⟩ ht0 ?_
        rw [bAnd_7 (by omega) (by omega)]
        refine ⟨fun q => ⟨fun q2 => w31i (by omega) (by omega) ⟨fun q3 => ⟨⟨by omega, by omega⟩, no _ (fun z => z.2.1 (by rw [← hfn.1]; exact q3))⟩, fun q3 => ⟨⟨by omega, by omega⟩, ?_⟩⟩, fun q2 => ⟨⟨by omega, by omega⟩, no _ (fun z => q2 z.2.2)⟩⟩, fun q => ⟨⟨by omega, by omega⟩, no _ (fun z => q (hiff.mpr z.1))⟩⟩
        have := ih (n + 1) (.int (bn 1)) (by omega)
        rw [show bMk (bFd σ x p c) (n + 1) = bMk (bFd σ x p c) n ||| (Int64.ofNat 1 <<< (bL n &&& 63)) from by
          show (bif bFd σ x p c n then _ else _) = _
          rw [show bFd σ x p c n = true from decide_eq_true ⟨hiff.mp q, by rw [← hfn.1]; exact q3, q2⟩]; rfl] at this
        rw [e8]
        exact this
      refine sq36_4 (bWp_mono _) hA hr1 hr2 hc ⟨by omega, by omega⟩ (bTt (by omega) ⟨fun q => ?_, fun q => w35 (by omega) (by omega) ?_⟩)
      · rw [bShr_3 (by omega) (by omega)]
        exact hin _ ⟨by omega, by omega⟩ ⟨fun z => Or.inl z, fun z => z.elim id (fun y => absurd q y.1)⟩
      · refine hin _ (bi_rg _ _ _) ?_
        rw [ho _ (by omega) (by omega)]
        refine ⟨fun z => Or.inr ⟨q, z⟩, fun z => z.elim (fun y => ?_) (fun y => y.2)⟩
        unfold bOwn
        rw [y, hx, if_neg (by decide)]
  exact L 48 0 _ rfl
theorem w205 (hx : bRg x) (h : f (bPa x) σ) : bWp (d + 1) 205 [.int (bn x)] σ (bRn f) := by
  unfold bPa at h
  refine ⟨rfl, fun _ hA => sq205_0 (bWp_mono _) hA hx ⟨fun q => bRn_i (by decide) (by rwa [if_pos q] at h), fun q => ⟨fun q2 => bRn_i (by decide) (by rwa [if_neg q, if_pos q2] at h), fun q2 => bRn_i (by decide) (by rwa [if_neg q, if_neg q2] at h)⟩⟩⟩
theorem w206 (hF : bFi σ) (h0 : 0 ≤ x) (h1 : x < 6) (h : f (bOwn σ x) σ) : bWp (d + 2) 206 [.ref 12, .int (bn x)] σ (bRn f) := by
  refine ⟨rfl, fun A hA => sq206_0 (bWp_mono _) hA ⟨by omega, by omega⟩ ?_⟩
  have st : ∀ (y : Int) (v : Value), 0 ≤ y → y < 6 → bi σ 57 y ≠ 0 → f y σ → A (2, [.ref 12, v, .int (bn y)], [], σ) := fun y v q0 q1 q2 q3 =>
    sq206_2 (bWp_mono _) hA ⟨by omega, by omega⟩ ⟨⟨q0, q1⟩, bFf q2 (bRn_i ⟨by omega, by omega⟩ q3)⟩
  have up : ∀ (y : Int) (v : Value), 0 ≤ y → y < 6 → bi σ 57 y = 0 → (∀ w, A (2, [.ref 12, w, .int (bn (bPa y))], [], σ)) → A (2, [.ref 12, v, .int (bn y)], [], σ) := fun y v q0 q1 q2 q3 =>
    sq206_2 (bWp_mono _) hA ⟨by omega, by omega⟩ ⟨⟨q0, q1⟩, bTt q2 (w205 ⟨by omega, by omega⟩ (q3 _))⟩
  have hz : bi σ 57 0 ≠ 0 := by rw [hF.2.1]; decide
  unfold bOwn at h
  by_cases q : bi σ 57 x = 0
  · rw [if_pos q] at h
    have hx1 : 1 ≤ x := by
      refine Classical.byContradiction fun z => hz ?_
      rw [show (0 : Int) = x by omega]
      rw [show x = 0 by omega] at q ⊢
      exact q
    have hp := bPa_lt hx1 h1
    refine up x _ h0 h1 q fun w => ?_
    by_cases q2 : bi σ 57 (bPa x) = 0
    · rw [if_pos q2] at h
      refine up _ _ hp.1 (by omega) q2 fun w2 => ?_
      rw [bPa_pa h0 h1]
      exact st 0 _ (by decide) (by decide) hz h
    · rw [if_neg q2] at h
      exact st _ _ hp.1 (by omega) q2 h
  · rw [if_neg q] at h
    exact st x _ h0 h1 q h
theorem w208 (hF : bFi σ) (h0 : 0 ≤ v) (h1 : v < 48) (hx : bRg x) (hp : bRg p) (hc : bRg c) (h : f (bif bFd σ x p c v then 1 else 0) σ) : bWp (d + 3) 208 [.ref 12, .int (bn x), .int (bn p), .int (bn c), .int (bn v)] σ (bRn f) := by
  have hin : 0 ≤ v ∧ v < 48 := ⟨h0, h1⟩
  have yes : ((v / 8 = x ∨ c ≠ 0 ∧ bOwn σ (v / 8) = x) ∧ bi σ 56 v ≠ -1 ∧ bAnd (bShr p (v % 8)) 1 = 1) → f 1 σ := fun q => by
    rwa [show bFd σ x p c v = true from decide_eq_true q] at h
  have no : ¬ ((v / 8 = x ∨ c ≠ 0 ∧ bOwn σ (v / 8) = x) ∧ bi σ 56 v ≠ -1 ∧ bAnd (bShr p (v % 8)) 1 = 1) → f 0 σ := fun q => by
    rwa [show bFd σ x p c v = false from decide_eq_false q] at h
  refine ⟨rfl, fun A hA => sq208_0 (bWp_mono _) hA hx hp hc ⟨by omega, by omega⟩ ⟨h0, ⟨fun q => ⟨hin, fun q1 => bRn_i (by decide) (no (fun z => z.2.1 q1)), fun q1 => ⟨fun q2 => bRn_i (by decide) (yes ⟨Or.inl q, q1, q2⟩), fun q2 => bRn_i (by decide) (no (fun z => q2 z.2.2))⟩⟩, fun q => ⟨fun q4 => ⟨hin, fun q1 => bRn_i (by decide) (no (fun z => z.2.1 q1)), fun q1 => ⟨fun q2 => bRn_i (by decide) (no (fun z => z.1.elim q (fun y => y.1 q4))), fun q2 => bRn_i (by decide) (no (fun z => q2 z.2.2))⟩⟩, fun q4 => w206 hF (by omega) (by omega) ⟨fun q5 => ⟨hin, fun q1 => bRn_i (by decide) (no (fun z => z.2.1 q1)), fun q1 => ⟨fun q2 => bRn_i (by decide) (yes ⟨Or.inr ⟨q4, q5⟩, q1, q2⟩), fun q2 => bRn_i (by decide) (no (fun z => q2 z.2.2))⟩⟩, fun q5 => ⟨hin, fun q1 => bRn_i (by decide) (no (fun z => z.2.1 q1)), fun q1 => ⟨fun q2 => bRn_i (by decide) (no (fun z => z.1.elim q (fun y => q5 y.2))), fun q2 => bRn_i (by decide) (no (fun z => q2 z.2.2))⟩⟩⟩⟩⟩⟩⟩
end

/-! THE CASES OF FILES AND PACKAGES, 2 -/
section
variable {d : Nat} {σ : bSt} {f : Int → bSt → Prop} {fj : Int64 → bSt → Prop} {fv : bSt → Prop} {g : Nat → bSt → Prop} {p c x v : Int}
theorem bFi_put {s : bSt} (hF : bFi σ) (hc : -1 ≤ c ∧ c < 1000) (u : bUn [19, 56] [0] σ s) (e19 : ∀ r, 0 ≤ r → bi s 19 r = if r = p then c else bi σ 19 r) (e56 : ∀ r, 0 ≤ r → bi s 56 r = if r = p then c else bi σ 56 r) : bFi s := by
  obtain ⟨b1, b2, b3, b4, b5, b6⟩ := hF
  have e : ∀ a : Nat, a ∈ [57, 20, 21, 201] → ∀ i, bi s a i = bi σ a i := fun a ha i => u.1 a (by simp at ha ⊢; omega) (by simp at ha; omega) i
  have o : ∀ d, bOwn s d = bOwn σ d := fun d => by unfold bOwn; rw [e 57 (by decide), e 57 (by decide)]
  refine ⟨fun r r1 r2 => ?_, by rw [e 57 (by decide)]; exact b2, fun r r1 r2 => by rw [e 57 (by decide)]; exact b3 r r1 r2, fun r r1 r2 => by rw [e 57 (by decide), e 20 (by decide)]; exact b4 r r1 r2, fun r r1 r2 => by rw [e 21 (by decide), o]; exact b5 r r1 r2, fun r r1 r2 => by rw [e 201 (by decide)]; exact b6 r r1 r2⟩
  rw [e19 r r1, e56 r r1]
  by_cases z : r = p
  · rw [if_pos z, if_pos z]
    omega
  · rw [if_neg z, if_neg z]
    exact b1 r r1 r2
theorem w145 (hP : bPr σ) (h21 : bi σ 21 0 = 0) (hp : bRg p) (hv : v = 0 ∨ v = 1) (hd : 6 ≤ d) (h1 : ¬ (0 ≤ p ∧ p < 6) → g 0 (bC σ 1 6)) (h2 : p = 0 → g 2 (bC σ 1 6))
    (h0 : 1 ≤ p ∧ p < 6 → ∀ s, bSm [21] (bw σ 20 p v) s → bi s 21 0 = 0 → (∀ e, 1 ≤ e → e < 6 → bi s 21 e = if bPk s e = 0 then (if bPk s (bPa e) = 0 then 0 else bPa e) else e) → f (bPk σ p) s) : bWp (d + 3) 145 [.ref 11, .int (bn p), .int (bn v)] σ (bRnx f g) := by
  have hb : bPk σ p = 0 ∨ bPk σ p = 1 := by
    unfold bPk
    split
    · exact Or.inr rfl
    · split
      · exact Or.inl rfl
      · exact Or.inr rfl
  refine ⟨rfl, fun A hA => sq145_0 (bWp_mono _) hA hp (b01_rg hv) (w136 hp (by decide) (by omega) (fun q => ⟨fun e => w139 (by decide) (by omega) (fun z => absurd rfl z) (fun _ => h2 e), fun e => w139 (by decide) (by omega) (fun _ => w34 hP (by omega) q.2 hv h21 fun s a1 a2 a3 => ⟨hb, bRnx_i (b01_rg hb) (h0 ⟨by omega, q.2⟩ s a1 a2 a3)⟩) (fun z => absurd z (by decide))⟩) h1)⟩
theorem w204 (hF : bFi σ) (hp : bRg p) (hv : v = 0 ∨ v = 1) (h1 : ¬ (0 ≤ p ∧ p < 6) → f 0 (bw σ 12 0 1)) (h2 : p = 0 → f 0 (bw σ 12 0 2)) (h0 : 1 ≤ p ∧ p < 6 → f (bi σ 57 p) (bw (bw σ 12 0 0) 57 p v)) : bWp (d + 3) 204 [.ref 12, .int (bn p), .int (bn v)] σ (bRn f) :=
  ⟨rfl, fun A hA => sq204_0 (bWp_mono _) hA hp (b01_rg hv) (w201 hp (fun q => bFf (by decide) ⟨fun e => w197n (by decide) (by decide) (bFf (by decide) (bRn_i (by decide) (h2 e))), fun e => w197z (bTt rfl ⟨q, hv, by rw [bi_ne (by decide)]; exact hF.2.2.1 p q.1 q.2, bRn_i (bi_rg _ _ _) (by rw [bi_ne (by decide)]; exact h0 ⟨by omega, q.2⟩)⟩)⟩) (fun q => bTt rfl (w197n (by decide) (by decide) (bFf (by decide) (bRn_i (by decide) (h1 q))))))⟩
theorem w147 (hF : bFi σ) (hx : bRg x) (hp : bRg p) (hv : v = 0 ∨ v = 1) (hd : 6 ≤ d) (h1 : ¬ (0 ≤ x ∧ x < 6) → g 0 (bC σ 1 6)) (h2 : 0 ≤ x ∧ x < 6 → ¬ (0 ≤ p ∧ p ≤ 255) → g 1 (bC σ 1 6)) (h3 : 0 ≤ x ∧ x < 6 → 0 ≤ p ∧ p ≤ 255 → bi σ 57 x = 0 → g 2 (bC σ 1 6))
    (h0 : 0 ≤ x ∧ x < 6 → 0 ≤ p ∧ p ≤ 255 → bi σ 57 x ≠ 0 → fj (bMk (bFd σ x p v) 48) σ) : bWp (d + 3) 147 [.ref 11, .int (bn x), .int (bn p), .int (bn v)] σ (bRjx fj g) := by
  refine ⟨rfl, fun A hA => sq147_0 (bWp_mono _) hA hx hp (b01_rg hv) (w136 hx (by decide) (by omega) (fun q => w138 hp (by decide) (by decide) (by omega) (fun q2 => w33 q.1 q.2 ?_) (fun q2 => h2 q q2)) h1)⟩
  have e : bPk σ x = bi σ 57 x := by
    unfold bPk
    by_cases z : x = 0
    · rw [if_pos z, z]
      exact hF.2.1.symm
    · have := hF.2.2.2.1 x (by omega) q.2
      have h01 := hF.2.2.1 x q.1 q.2
      rw [if_neg z, this]
      split <;> omega
  rw [e]
  exact w139 (bi_rg _ _ _) (by omega) (fun z => w36 hF q.1 q.2 (by have := hF.2.2.1 x q.1 q.2; omega) q2.1 (by omega) (b01_rg hv) (h0 q q2 z)) (fun z => h3 q q2 z)
theorem bFd_f {x p v r : Int} : bFd (bw σ 12 0 x) p v r = bFd σ p v r := by
  funext q
  unfold bFd bOwn
  rw [bi_ne (by decide), bi_ne (by decide), bi_ne (by decide)]
theorem w209 (hF : bFi σ) (hx : bRg x) (hp : bRg p) (hv : v = 0 ∨ v = 1) (h1 : ¬ (0 ≤ x ∧ x < 6) → fj (Int64.ofNat 0) (bw σ 12 0 1)) (h2 : 0 ≤ x ∧ x < 6 → ¬ (0 ≤ p ∧ p ≤ 255) → fj (Int64.ofNat 0) (bw σ 12 0 2)) (h3 : 0 ≤ x ∧ x < 6 → 0 ≤ p ∧ p ≤ 255 → bi σ 57 x = 0 → fj (Int64.ofNat 0) (bw σ 12 0 3))
    (h0 : 0 ≤ x ∧ x < 6 → 0 ≤ p ∧ p ≤ 255 → bi σ 57 x ≠ 0 → fj (bMk (bFd σ x p v) 48) (bw σ 12 0 0)) : bWp (d + 4) 209 [.ref 12, .int (bn x), .int (bn p), .int (bn v)] σ (bRj fj) := by
  have hr := b01_rg hv
  refine ⟨rfl, fun A hA => sq209_0 (bWp_mono _) hA hx hp hr (w201 hx (fun q => bFf (by decide) (w199 hp (by decide) (by decide) (fun q2 => bFf (by decide) ⟨q, fun e => w197n (by decide) (by decide) (bFf (by decide) (h3 q q2 e)), fun e => w197z (bTt rfl ?_)⟩) (fun q2 => bTt rfl (w197n (by decide) (by decide) (bFf (by decide) (h2 q q2)))))) (fun q => bTt rfl (w197n (by decide) (by decide) (bFf (by decide) (h1 q)))))⟩
  have hF' : bFi (bw σ 12 0 0) := bFi_un (S := []) (F := [0]) (bUn_f bUn_refl (by decide) (by decide)) (by decide) hF
  have K : ∀ (m k : Nat), k + m = 48 → A (29, [.ref 12, .int (bn x), .int (bn p), .int (bn v), .long (bMk (bFd σ x p v) k), .float 0, .int (bn k)], [], bw σ 12 0 0) := by
    intro m
    induction m with
    | zero =>
      intro k hk
      have e2 : k = 48 := by omega
      subst e2
      exact sq209_29 (bWp_mono _) hA hx hp hr ⟨by omega, by omega⟩ (bFf (by omega) (h0 q q2 e))
    | succ m ih =>
      intro k hk
      have e8 : ((k : Int) + 1) = ((k + 1 : Nat) : Int) := by omega
      have ihk := ih (k + 1) (by omega)
      refine sq209_29 (bWp_mono _) hA hx hp hr ⟨by omega, by omega⟩ (bTt (by omega) (w208 hF' (by omega) (by omega) hx hp hr ?_))
      rw [bFd_f]
      cases hb : bFd σ x p v k with
      | true =>
        refine bFf (by decide) ⟨⟨by omega, by omega⟩, ?_⟩
        rw [e8]
        rwa [show bMk (bFd σ x p v) (k + 1) = bMk (bFd σ x p v) k ||| (Int64.ofNat 1 <<< (bL k &&& 63)) from by
          show (bif bFd σ x p v k then _ else _) = _
          rw [hb]; rfl] at ihk
      | false =>
        refine bTt rfl ⟨⟨by omega, by omega⟩, ?_⟩
        rw [e8, show bMk (bFd σ x p v) k ||| Int64.ofNat 0 = bMk (bFd σ x p v) k from Int64.or_zero]
        rwa [show bMk (bFd σ x p v) (k + 1) = bMk (bFd σ x p v) k from by
          show (bif bFd σ x p v k then _ else _) = _
          rw [hb]; rfl] at ihk
  exact K 48 0 rfl
variable {G : bSt → Prop} {H : bHp} {L n : Nat}
theorem k1 (hG : ∀ σ s, bUn bSf [0, 17] σ s → G σ → G s) (hH : ∀ c k σ s, bUn bSf [0, 17] σ s → H c k σ → H c k s) (h : bI9 G H L n σ) : bK1 (bI9 G H L (n + 1)) σ := by
  refine wk1 fun p hp => w144 hp (by decide) (fun q => ?_) (fun q => ?_)
  · exact ⟨bMid_C, w203 hp (fun _ => ⟨bi_eq (by decide), fun z => absurd z (by decide), bI9_no hG hH h⟩) (fun z => absurd z q)⟩
  · have u1 : bUn [19, 56] [0] σ (bwj (bw σ 19 p (-1)) 154 0 (bL (bi σ 19 p))) := bUn_o (bUn_w bUn_refl (by decide) (by decide))
    have u2 : bUn [19, 56] [0] σ (bw (bw (bwj (bw σ 19 p (-1)) 154 0 (bL (bi σ 19 p))) 12 0 0) 56 p (-1)) := bUn_w (bUn_f u1 (by decide) (by decide)) (by decide) (by decide)
    refine ⟨bMid_un u1 (by decide), w203 hp (fun z => absurd q z) (fun _ => ⟨?_, fun _ => ?_, ?_⟩)⟩
    · rw [bi_ne (by decide)]
      exact bi_eq (by decide)
    · show bj (bwj (bw σ 19 p (-1)) 154 0 (bL (bi σ 19 p))) 154 0 = bL (bi (bw σ 19 p (-1)) 56 p)
      rw [bj_eq, bi_ne (by decide), (h.2.1.1 p q.1 q.2).1]
    · refine bI9_step hG hH h (bUn_mono u2 (by decide) (by decide)) (bFi_put (p := p) (c := -1) h.2.1 (by decide) u2 (fun r r1 => ?_) (fun r r1 => ?_)) (bTl_un u2 (by decide) (by decide) h.2.2.1) (Nat.le_succ _) (Nat.le_add_right _ _)
      · rw [bi_ne (by decide), bi_ne (by decide), bi_bwj, bi_bw q.1 r1 (by decide)]
        simp only [true_and]
      · rw [bi_bw q.1 r1 (by decide), bi_ne (by decide), bi_bwj, bi_ne (by decide)]
        simp only [true_and]
theorem k3 (hG : ∀ σ s, bUn bSf [0, 17] σ s → G σ → G s) (hH : ∀ c k σ s, bUn bSf [0, 17] σ s → H c k σ → H c k s) (h : bI9 G H L n σ) : bK3 (bI9 G H L (n + 1)) σ := by
  have hFo : ∀ s, bUn [] [0] σ s → bFi s := fun s u => bFi_un u (by decide) h.2.1
  refine wk3 fun p hp => w146 hp (by decide) (fun q => ?_) (fun q => ?_)
  · exact ⟨bMid_C, w207 (hFo _ (bUn_C bUn_refl)) hp (fun _ => ⟨bi_eq (by decide), fun z => absurd z (by decide), bI9_no hG hH h⟩) (fun z => absurd z q)⟩
  · have u1 : bUn [] [0] σ (bwj σ 154 0 (bL (bi σ 21 (p / 8)))) := bUn_o bUn_refl
    refine ⟨bMid_un u1 (by decide), w207 (hFo _ u1) hp (fun z => absurd q z) (fun _ => ⟨bi_eq (by decide), fun _ => ?_, bI9_un hG hH h (bUn_f u1 (by decide) (by decide)) (Nat.le_succ _) (Nat.le_add_right _ _)⟩)⟩
    show bj (bwj σ 154 0 (bL (bi σ 21 (p / 8)))) 154 0 = bL (bOwn σ (p / 8))
    rw [bj_eq, h.2.1.2.2.2.2.1 (p / 8) (by omega) (by omega)]
theorem k4 (hG : ∀ σ s, bUn bSf [0, 17] σ s → G σ → G s) (hH : ∀ c k σ s, bUn bSf [0, 17] σ s → H c k σ → H c k s) (h : bI9 G H L n σ) : bK4 (bI9 G H L (n + 1)) σ := by
  have hFo : ∀ s, bUn [] [0] σ s → bFi s := fun s u => bFi_un u (by decide) h.2.1
  have uC : bUn [] [0] σ (bC σ 1 6) := bUn_C bUn_refl
  refine wk4 fun x p v hx hp hv => w147 h.2.1 hx hp hv (by decide) (fun q => ?_) (fun q q2 => ?_) (fun q q2 q3 => ?_) (fun q q2 q3 => ?_)
  · exact ⟨bMid_C, w209 (hFo _ uC) hx hp hv (fun _ => ⟨bi_eq (by decide), fun z => absurd z (by decide), bI9_no hG hH h⟩) (fun z => absurd z q) (fun z => absurd z q) (fun z => absurd z q)⟩
  · exact ⟨bMid_C, w209 (hFo _ uC) hx hp hv (fun z => absurd q z) (fun _ _ => ⟨bi_eq (by decide), fun z => absurd z (by decide), bI9_no hG hH h⟩) (fun _ z => absurd z q2) (fun _ z => absurd z q2)⟩
  · exact ⟨bMid_C, w209 (hFo _ uC) hx hp hv (fun z => absurd q z) (fun _ z => absurd q2 z) (fun _ _ _ => ⟨bi_eq (by decide), fun z => absurd z (by decide), bI9_no hG hH h⟩) (fun _ _ z => absurd q3 z)⟩
  · have u1 : bUn [] [0] σ (bwj σ 154 0 (bMk (bFd σ x p v) 48)) := bUn_o bUn_refl
    refine ⟨bMid_un u1 (by decide), w209 (hFo _ u1) hx hp hv (fun z => absurd q z) (fun _ z => absurd q2 z) (fun _ _ z => absurd z q3) (fun _ _ _ => ⟨bi_eq (by decide), fun _ => ?_, bI9_un hG hH h (bUn_f u1 (by decide) (by decide)) (Nat.le_succ _) (Nat.le_add_right _ _)⟩)⟩
    show bj (bwj σ 154 0 (bMk (bFd σ x p v) 48)) 154 0 = bMk (bFd σ x p v) 48
    exact bj_eq
theorem k2 (hG : ∀ σ s, bUn bSf [0, 17] σ s → G σ → G s) (hH : ∀ c k σ s, bUn bSf [0, 17] σ s → H c k σ → H c k s) (h : bI9 G H L n σ) : bK2 (bI9 G H L (n + 1)) σ := by
  have hFo : ∀ s, bUn [] [0] σ s → bFi s := fun s u => bFi_un u (by decide) h.2.1
  have uC : bUn [] [0] σ (bC σ 1 6) := bUn_C bUn_refl
  obtain ⟨b1, b2, b3, b4, b5, b6⟩ := h.2.1
  have h210 : bi σ 21 0 = 0 := by
    rw [b5 0 (by decide) (by decide)]
    unfold bOwn
    rw [if_neg (by rw [b2]; decide)]
  refine wk2 fun p v hp hv => w145 b6 h210 hp hv (by decide) (fun q => ?_) (fun q => ?_) (fun q s a1 a2 a3 => ?_)
  · exact ⟨bMid_C, w204 (hFo _ uC) hp hv (fun _ => ⟨bi_eq (by decide), fun z => absurd z (by decide), bI9_no hG hH h⟩) (fun z => absurd z (by omega)) (fun z => absurd z (by omega))⟩
  · exact ⟨bMid_C, w204 (hFo _ uC) hp hv (fun z => absurd z (by omega)) (fun _ => ⟨bi_eq (by decide), fun z => absurd z (by decide), bI9_no hG hH h⟩) (fun z => absurd z (by omega))⟩
  · have hr := b01_rg hv
    have u0 : bUn [20, 21, 57] [0] σ s := bUn_S (bUn_w bUn_refl (by decide) (by decide)) ⟨a1.1, fun a ha i => a1.2 a (fun z => ha (by simp at z ⊢; omega)) i⟩ (by decide)
    have epk : bPk σ p = bi σ 57 p := by
      unfold bPk
      have := b3 p (by omega) q.2
      rw [if_neg (by omega), b4 p q.1 q.2]
      split <;> omega
    have ef : ∀ e, 0 ≤ e → e < 6 → (bPk s e = 0 ↔ (if e = p then v else bi σ 57 e) = 0) := by
      intro e q1 q2
      unfold bPk
      by_cases z : e = 0
      · rw [if_pos z, if_neg (by omega), z, b2]
      · have hx : (if 20 = 20 ∧ e = p then v else bi σ 20 e) = (if e = p then v else bi σ 57 e) := by
          simp only [true_and]
          split
          · rfl
          · exact b4 e (by omega) q2
        rw [if_neg z, a1.2 20 (by decide), bi_bw (by omega) q1 hr, hx]
        by_cases y : (if e = p then v else bi σ 57 e) = 0
        · rw [if_pos y]
          exact ⟨fun _ => y, fun _ => rfl⟩
        · rw [if_neg y]
          exact ⟨fun t => absurd t (by decide), fun t => absurd t y⟩
    generalize hval : (if bPk σ p = 0 then Int64.ofNat 0 else Int64.ofNat 1) = val
    have u1 : bUn [20, 21, 57] [0] σ (bwj s 154 0 val) := bUn_o u0
    have hs57 : ∀ i, bi s 57 i = bi σ 57 i := fun i => by rw [a1.2 57 (by decide), bi_ne (by decide)]
    have hF1 : bi (bwj s 154 0 val) 57 p = 0 ∨ bi (bwj s 154 0 val) 57 p = 1 := by
      show bi s 57 p = 0 ∨ bi s 57 p = 1
      rw [hs57]
      exact b3 p (by omega) q.2
    have u2 : bUn [20, 21, 57] [0] σ (bw (bw (bwj s 154 0 val) 12 0 0) 57 p v) := bUn_w (bUn_f u1 (by decide) (by decide)) (by decide) (by decide)
    refine ⟨bMid_un u1 (by decide), ⟨rfl, fun A hA => sq204_0 (bWp_mono _) hA hp (b01_rg hv) (w201 hp (fun q' => bFf (by decide) (bFf (by omega) (w197z (bTt rfl ⟨q', hv, by rw [bi_ne (by decide)]; exact hF1, bRn_i (bi_rg _ _ _) ?_⟩)))) (fun z => absurd ⟨by omega, q.2⟩ z))⟩⟩
    refine ⟨?_, fun _ => ?_, bI9_step hG hH h (bUn_mono u2 (by decide) (by decide)) ?_ (bTl_un u2 (by decide) (by decide) h.2.2.1) ?_ ?_⟩
    · rw [bi_ne (by decide)]
      exact bi_eq (by decide)
    · show bj (bwj s 154 0 val) 154 0 = _
      rw [bj_eq, bi_ne (by decide)]
      show val = if bi s 57 p = 0 then _ else _
      rw [hs57, ← epk, ← hval]
    · have e57 : ∀ e, 0 ≤ e → bi (bw (bw (bwj s 154 0 val) 12 0 0) 57 p v) 57 e = if e = p then v else bi σ 57 e := fun e q1 => by
        rw [bi_bw (by omega) q1 hr, bi_ne (by decide), bi_bwj, hs57]
        simp only [true_and]
      have eo : ∀ a : Nat, a ≠ 57 → a ≠ 12 → ∀ i, bi (bw (bw (bwj s 154 0 val) 12 0 0) 57 p v) a i = bi s a i := fun a q1 q2 i => by rw [bi_ne q1, bi_ne q2, bi_bwj]
      refine ⟨fun r r1 r2 => ?_, ?_, fun r r1 r2 => ?_, fun r r1 r2 => ?_, fun r r1 r2 => ?_, fun r r1 r2 => ?_⟩
      · rw [eo 19 (by decide) (by decide), eo 56 (by decide) (by decide), a1.2 19 (by decide), a1.2 56 (by decide), bi_ne (by decide), bi_ne (by decide)]
        exact b1 r r1 r2
      · rw [e57 0 (by decide), if_neg (by omega)]
        exact b2
      · rw [e57 r r1]
        split
        · exact hv
        · exact b3 r r1 r2
      · rw [e57 r (by omega), eo 20 (by decide) (by decide), a1.2 20 (by decide), bi_bw (by omega) (by omega) hr]
        simp only [true_and]
        split
        · rfl
        · exact b4 r r1 r2
      · rw [eo 21 (by decide) (by decide)]
        unfold bOwn
        by_cases z : r = 0
        · rw [z, a2, e57 0 (by decide), if_neg (show ¬ (0 : Int) = p by omega), b2, if_neg (by decide)]
        · have hpa := bPa_lt (by omega : 1 ≤ r) r2
          rw [a3 r (by omega) r2, e57 r r1, e57 _ hpa.1]
          have k1 := ef r r1 r2
          have k2 := ef (bPa r) hpa.1 (by omega)
          by_cases y1 : bPk s r = 0
          · rw [if_pos y1, if_pos (k1.mp y1)]
            by_cases y2 : bPk s (bPa r) = 0
            · rw [if_pos y2, if_pos (k2.mp y2)]
            · rw [if_neg y2, if_neg (fun t => y2 (k2.mpr t))]
          · rw [if_neg y1, if_neg (fun t => y1 (k1.mpr t))]
      · rw [eo 201 (by decide) (by decide), a1.2 201 (by decide), bi_ne (by decide)]
        exact b6 r r1 r2
    · show s.2.2.2.2.1 ≤ _
      rw [a1.1]
      exact Nat.le_succ _
    · show s.2.2.2.2.2 ≤ _
      rw [a1.1]
      exact Nat.le_add_right _ _
end

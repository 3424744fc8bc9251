/-! BUILD, 36: the class: bytes are brought here -/
/-- while bytes are brought -/
def bzBc (σ : bSt) (n : Nat) (Z : bZs) (s : bSt) (N F : List bKy) (Y : bZs) (t : bSt) : Prop := (zU [134, 139] Z Y ∧ Y.2 = Z.2) ∧ bzK0 s t ∧ bzCG σ n Y t ∧ bzCh t N F ∧ (Z.1 139 9 ≤ Y.1 139 9 ∧ Z.1 139 10 ≤ Y.1 139 10) ∧ (Y.1 139 9 - Z.1 139 9) + (Y.1 139 10 - Z.1 139 10) + bzPh Y n ≤ 120
section
variable {d : Nat} {σ s t r u : bSt} {f : Int → bSt → Prop} {fa : Nat → bSt → Prop} {fv : bSt → Prop} {a b g i j k x y v w p : Int} {c e e0 q m n z : Nat} {K M : bKy} {L N F : List bKy} {Z Y X W : bZs} {S : List Nat} {T U : Int → Bool} {rk : Int → Nat}
/-- a write to the stack -/
theorem bzBc_w {b : Nat} (h : bzBc σ n Z s N F Y t) (hb : b = 25 ∨ b = 26) (hN : ∀ K ∈ N, bKl K) (hF : ∀ K ∈ F, bKl K) : bzBc σ n Z s N F Y (bw t b i v) := by
  obtain ⟨h1, h2, h3, h4, h5⟩ := h
  refine ⟨h1, bzKf_trans h2 (bzKf_w (Or.inl (bzTb_s (by rcases hb with rfl | rfl <;> decide)))), bzCG_s h3 (fun c hc j => bi_ne (fun e => ?_)), bzCh_w h4 (by omega) (by omega) ?_ hN hF, h5⟩
  · rw [e] at hc
    rcases hb with rfl | rfl <;> revert hc <;> decide
  · rcases hb with rfl | rfl <;> decide
theorem w62 (O : bzOz σ n Z) (hO : bzOo n Z) (hr : bzRn0 rk n Z) (As : ∀ b, 0 ≤ b → b < (n : Int) → bzAs σ Z s b) (D8 : ∀ b, 0 ≤ b → b < (n : Int) → bzD Z b → bi s (bNe b) 8 = Z.1 112 b ∧ Z.1 140 b ≠ 0 ∧ bzIn Z b (Z.1 105 b).toNat = true) (a0 : 0 ≤ a) (a1 : a < (n : Int)) (hin : bzIn Z a (Z.1 105 a).toNat = true) (hw : Z.1 140 a ≠ 0) (G : bzCG σ n Z s) (C : bzCh s N F) (hN : ∀ K ∈ N, bKl K) (hF : ∀ K ∈ F, bKl K) (h9 : (0 ≤ Z.1 139 9 ∧ Z.1 139 9 ≤ 20000) ∧ 0 ≤ Z.1 139 10 ∧ Z.1 139 10 ≤ 20000)
    (h : ∀ t, bzK0 s t → bzCG σ n (bzB σ 17 Z a).1 t → bzCh t N F → f (bzB σ 17 Z a).2 t) : bWp (d + 3) 62 [.ref 5, .int (bn a)] s (bRn f) := by
  have n120 := O.1.1
  have ra : bRg a := ⟨by omega, by omega⟩
  refine ⟨rfl, fun A hA => sq62_0 (bWp_mono _) hA ra (w141i (n := 17) ra rfl (by decide) rfl (by decide) (by decide) (by decide) (w141i (n := 17) (by decide) rfl (by decide) rfl (by decide) (by decide) (by decide) ?_))⟩
  have W1 : ∀ (b : Nat) (t : bSt) (i v : Int) (Q : bSt → Prop), (b = 25 ∨ b = 26) → 0 ≤ i → i < 17 → bRg v → Q (bw t b i v) → bWp (d + 2) 141 [.ref b, .int (bn i), .int (bn v)] t (bRv Q) := fun b t i v Q hb i0 i1 hv hQ => by
    rcases hb with rfl | rfl
    · exact w141i (n := 17) hv rfl (by decide) rfl (by decide) i0 i1 hQ
    · exact w141i (n := 17) hv rfl (by decide) rfl (by decide) i0 i1 hQ
  have P : ∀ (f : Nat) (b : Int) (dd : Nat) (Y : bZs) (t : bSt) (ad st : Int) (v5 v6 v7 : Value), rk b + dd ≤ 15 → rk b < f → 0 ≤ b → b < (n : Int) → bzIn Z b (Z.1 105 b).toNat = true → Z.1 140 b ≠ 0 → bzBc σ n Z s N F Y t → bi t 25 dd = b → bi t 26 dd = 0 → (0 ≤ ad ∧ ad ≤ 20 * (Y.1 139 9 - Z.1 139 9)) → (0 ≤ st ∧ st ≤ 40 * dd + 41 * (Y.1 139 9 - Z.1 139 9)) →
      (∀ t' st' v5 v6 v7, bzBc σ n Z s N F (bzB σ f Y b).1 t' → (∀ i : Int, 0 ≤ i → i ≤ dd → bi t' 25 i = bi t 25 i) → (∀ i : Int, 0 ≤ i → i < dd → bi t' 26 i = bi t 26 i) → bi t' 26 dd = Z.1 105 b → (0 ≤ st' ∧ st' ≤ st + Z.1 105 b + 41 * ((bzB σ f Y b).1.1 139 9 - Y.1 139 9)) → A (16, [.ref 5, .int (bn a), .int (bn (ad + (bzB σ f Y b).2)), .int (bn ((dd : Int) + 1)), .int (bn st'), v5, v6, v7], [], t')) →
      A (16, [.ref 5, .int (bn a), .int (bn ad), .int (bn ((dd : Int) + 1)), .int (bn st), v5, v6, v7], [], t) := by
    intro f
    induction f with
    | zero => intro b dd Y t ad st v5 v6 v7 _ h0; omega
    | succ f ihf =>
      intro b dd Y t ad st v5 v6 v7 hd hf b0 b1 hin hw Cu hs hp had hst K
      have o := O.1.2 b b0 b1
      have ow := O.2 b b0 b1 hw
      have eY := Cu.1.1
      have OY := bzOz_u O eY
      have hrY := bzRn0_u hr eY
      have wY : Y.1 140 b ≠ 0 := by rw [eY 140 (by decide)]; exact hw
      have e105 : Y.1 105 b = Z.1 105 b := eY 105 (by decide) b
      have BE := fun (k : Nat) (hk : (k : Int) ≤ Y.1 105 b) => (bzB_e f Y b OY hrY b0 b1 wY).2 k hk
      have uB : bzB σ (f + 1) Y b = bzBp σ (bzB σ f) b (Y.1 105 b).toNat Y := rfl
      rw [uB] at K
      have Lp : ∀ (m p : Nat) (t2 : bSt) (st2 : Int) (v5 v6 v7 : Value), ((p + m : Nat) : Int) = Y.1 105 b → bzBc σ n Z s N F (bzBp σ (bzB σ f) b p Y).1 t2 → (∀ i : Int, 0 ≤ i → i ≤ dd → bi t2 25 i = bi t 25 i) → (∀ i : Int, 0 ≤ i → i < dd → bi t2 26 i = bi t 26 i) → bi t2 26 dd = p → (0 ≤ st2 ∧ st2 ≤ st + p + 41 * ((bzBp σ (bzB σ f) b p Y).1.1 139 9 - Y.1 139 9)) → A (16, [.ref 5, .int (bn a), .int (bn (ad + (bzBp σ (bzB σ f) b p Y).2)), .int (bn ((dd : Int) + 1)), .int (bn st2), v5, v6, v7], [], t2) := by
        intro m
        induction m with
        | zero =>
          intro p t2 st2 v5 v6 v7 hm C2 hs2 hp2 hpp hst2
          have ep : (Y.1 105 b).toNat = p := by omega
          rw [ep] at K
          exact K t2 st2 v5 v6 v7 C2 hs2 hp2 (by rw [hpp]; omega) ⟨hst2.1, by omega⟩
        | succ m ih =>
          intro p t2 st2 v5 v6 v7 hm C2 hs2 hp2 hpp hst2
          have nx := ih (p + 1)
          have be1 := BE (p + 1) (by omega)
          have uP : bzBp σ (bzB σ f) b (p + 1) Y = (fun r : bZs × Int =>
            if Y.1 106 (40 * b + p) < 100 then r
            else if r.1.1 134 (Y.1 112 (Y.1 106 (40 * b + p) - 100)) ≠ 0 then r
            else if bi σ 12 87 ≠ 0 ∧ r.1.1 135 (Y.1 112 (Y.1 106 (40 * b + p) - 100)) ≠ 0 then (zw (zw r.1 134 (Y.1 112 (Y.1 106 (40 * b + p) - 100)) 1) 139 10 (r.1.1 139 10 + 1), r.2)
            else (fun q : bZs × Int => (zw (zw q.1 134 (Y.1 112 (Y.1 106 (40 * b + p) - 100)) 1) 139 9 (q.1.1 139 9 + 1), r.2 + q.2 + bzDu σ Y (Y.1 106 (40 * b + p) - 100))) (bzB σ f r.1 (Y.1 106 (40 * b + p) - 100))) (bzBp σ (bzB σ f) b p Y) := rfl
          have be := BE p (by omega)
          rw [uP] at nx be1
          generalize bzBp σ (bzB σ f) b p Y = r at *
          obtain ⟨rY, rx⟩ := r
          dsimp only at nx be1 be C2 hst2 ⊢
          obtain ⟨x1, x2, x3, x4, x5, x6, x7⟩ := be
          have c9 := C2.2.2.2.2
          have phb := bzPh_b (Z := rY) (m := n)
          have g24 : ∀ x, 0 ≤ x → x < 12 → bi t2 24 x = rY.1 139 x := fun x => C2.2.2.1.2.1 (139, 24, 12) (by decide) x
          have fr := bzK0_a (a := b) C2.2.1 (by omega)
          have As1 := As b b0 b1
          have b1t : bi t2 (bAi b) 1 = Z.1 105 b := by rw [fr.1 _ List.mem_cons_self]; exact As1.2.1.2
          have inp : bi t2 (bAi b + 13) p = Z.1 106 (40 * b + p) := by rw [fr.1 _ (by simp)]; exact As1.2.2.1 p (by omega) (by omega)
          have oi := o.2.2 p (by omega) (by omega)
          have e106 : Y.1 106 (40 * b + p) = Z.1 106 (40 * b + p) := eY 106 (by decide) _
          have di := (bzIn_at _).1 hin p (by omega) (by omega)
          have rki := (hr b b0 b1).2 p (by omega) (by omega)
          have l3 : bRg ((dd : Int) + 1) := ⟨by omega, by omega⟩
          have e25 : bi t2 25 ((dd : Int) + 1 - 1) = b := by rw [show (dd : Int) + 1 - 1 = dd by omega, hs2 _ (by omega) (Int.le_refl _)]; exact hs
          have e26 : bi t2 26 ((dd : Int) + 1 - 1) = p := by rw [show (dd : Int) + 1 - 1 = dd by omega]; exact hpp
          refine sq62_16 (bWp_mono _) hA ⟨by omega, by omega⟩ l3 ⟨by omega, by omega⟩ ⟨fun _ => ⟨fun _ => ⟨⟨by omega, by omega⟩, w140i (n := 17) rfl rfl (by decide) (by omega) (by omega) ?_⟩, fun y => absurd (show (0 : Int) < (dd : Int) + 1 by omega) y⟩, fun y => absurd (show st2 < 100000 by omega) y⟩
          rw [e25]
          refine w89 (by rw [fr.2]; exact As1.1) b0 (by omega) (w140i (n := 17) rfl rfl (by decide) (by omega) (by omega) ⟨bAi_0, ?_⟩)
          rw [e26]
          refine ⟨fun _ => ⟨⟨by omega, by omega⟩, W1 26 t2 _ _ _ (Or.inr rfl) (by omega) (by omega) ⟨by omega, by omega⟩ ?_⟩, fun y => absurd (by rw [b1t]; omega) y⟩
          rw [show (dd : Int) + 1 - 1 = dd by omega]
          have C3 := bzBc_w (i := dd) (v := (p : Int) + 1) C2 (Or.inr rfl) hN hF
          have s3 : ∀ i : Int, 0 ≤ i → i ≤ dd → bi (bw t2 26 dd ((p : Int) + 1)) 25 i = bi t 25 i := fun i i0 i1 => by rw [bi_ne (by decide)]; exact hs2 i i0 i1
          have p3 : ∀ i : Int, 0 ≤ i → i < dd → bi (bw t2 26 dd ((p : Int) + 1)) 26 i = bi t 26 i := fun i i0 i1 => by
            rw [bi_bw (by omega) i0 ⟨by omega, by omega⟩, if_neg (fun y => by omega)]; exact hp2 i i0 i1
          have pp3 : bi (bw t2 26 dd ((p : Int) + 1)) 26 dd = ((p + 1 : Nat) : Int) := by
            rw [bi_bw (by omega) (by omega) ⟨by omega, by omega⟩, if_pos ⟨rfl, rfl⟩]; omega
          have b3 : bi (bw t2 26 dd ((p : Int) + 1)) (bAi b) 1 = Z.1 105 b := by rw [bi_ne (by unfold bAi; omega)]; exact b1t
          have i3 : bi (bw t2 26 dd ((p : Int) + 1)) (bAi b + 13) p = Z.1 106 (40 * b + p) := by rw [bi_ne (by unfold bAi; omega)]; exact inp
          generalize bw t2 26 dd ((p : Int) + 1) = t3 at *
          refine w5 (d := d + 1) bAi_0 (by omega) (by rw [b3]; omega) (by rw [b3]; omega) (by rw [i3]; omega) ?_
          rw [i3]
          have nx := fun t2 st2 v5 v6 v7 => nx t2 st2 v5 v6 v7 (by omega)
          rw [e106] at nx be1
          have tl : st2 + 1 ≤ 40 * ((dd : Int) + 1) + 41 * (rY.1 139 9 - Z.1 139 9) := by omega
          generalize Z.1 106 (40 * b + p) = w at *
          by_cases q1 : w < 100
          · rw [if_pos q1] at nx
            dsimp only at nx
            rw [if_pos q1]
            exact ⟨fun _ => ⟨⟨by omega, by omega⟩, nx t3 _ _ _ _ C3 s3 p3 pp3 ⟨by omega, by omega⟩⟩, fun y => absurd rfl y⟩
          rw [if_neg q1] at nx be1 ⊢
          have w100 : 100 ≤ w ∧ w < 100 + b := oi.resolve_left (by omega)
          have dn : bzD Z (w - 100) := di.resolve_left (by omega)
          obtain ⟨k8, k140, kin⟩ := D8 (w - 100) (by omega) (by omega) dn
          have e112 : Y.1 112 (w - 100) = Z.1 112 (w - 100) := eY 112 (by decide) _
          have cr := hO (w - 100) (by omega) (by omega)
          have eDu : bzDu σ Y (w - 100) = bzDu σ Z (w - 100) := by unfold bzDu; rw [eY 107 (by decide)]
          have du := (O.2 (w - 100) (by omega) (by omega) k140).2.2.2.2.1
          rw [e112, eDu] at nx be1
          have As2 := As (w - 100) (by omega) (by omega)
          have fr2 : ∀ t, bzBc σ n Z s N F rY t → br t 33 (w - 100) = some (bAi (w - 100)) ∧ bi t (bNe (w - 100)) 8 = Z.1 112 (w - 100) := fun t Ct => by
            have := bzK0_a (a := w - 100) Ct.2.1 (by omega)
            exact ⟨by rw [this.2]; exact As2.1, by rw [this.1 _ (by simp [bzTa])]; exact k8⟩
          refine ⟨fun y => absurd y (by omega), fun _ => w89 (fr2 t3 C3).1 (by omega) (by omega) ⟨bAi_0, ?_⟩⟩
          rw [bAi_n, (fr2 t3 C3).2]
          have e15 : bi t3 15 (Z.1 112 (w - 100)) = rY.1 134 (Z.1 112 (w - 100)) := C3.2.2.1.2.1 (134, 15, 1000) (by decide) _ cr.1 cr.2
          have e271 : bi t3 271 (Z.1 112 (w - 100)) = rY.1 135 (Z.1 112 (w - 100)) := C3.2.2.1.2.1 (135, 271, 1000) (by decide) _ cr.1 cr.2
          refine ⟨bNe_4 _, w20 (d := d + 1) (Or.inl rfl) cr.1 cr.2 ?_⟩
          rw [show 1 + 14 = 15 from rfl, e15]
          by_cases q2 : rY.1 134 (Z.1 112 (w - 100)) = 0
          · have q2' : ¬ rY.1 134 (Z.1 112 (w - 100)) ≠ 0 := fun y => y q2
            rw [if_neg q2'] at nx be1
            rw [if_pos q2]
            refine ⟨fun _ => ?_, fun y => absurd rfl y⟩
            -- it runs again
            have push : (¬ (bi σ 12 87 ≠ 0 ∧ rY.1 135 (Z.1 112 (w - 100)) ≠ 0)) → ∀ v5 v6 v7, bWp (d + 2) 141 [.ref 25, .int (bn ((dd : Int) + 1)), .int (bn (w - 100))] t3 (bRv (fun s31 => bWp (d + 2) 141 [.ref 26, .int (bn ((dd : Int) + 1)), .int (bn 0)] s31 (bRv (fun s33 => (bRg ((dd : Int) + 1 + 1) ∧ (bRg (st2 + 1) ∧ A (16, [.ref 5, .int (bn a), .int (bn (ad + rx)), .int (bn ((dd : Int) + 1 + 1)), .int (bn (st2 + 1)), v5, v6, v7], [], s33))))))) := fun q3 v5 v6 v7 => by
              rw [if_neg q3] at nx be1
              dsimp only at nx be1
              refine W1 25 t3 _ _ _ (Or.inl rfl) (by omega) (by omega) ⟨by omega, by omega⟩ (W1 26 _ _ _ _ (Or.inr rfl) (by omega) (by omega) (by decide) ⟨⟨by omega, by omega⟩, ⟨by omega, by omega⟩, ?_⟩)
              have C4 := bzBc_w (i := (dd : Int) + 1) (v := 0) (bzBc_w (i := (dd : Int) + 1) (v := w - 100) C3 (Or.inl rfl) hN hF) (Or.inr rfl) hN hF
              have s4 : ∀ i : Int, 0 ≤ i → bi (bw (bw t3 25 ((dd : Int) + 1) (w - 100)) 26 ((dd : Int) + 1) 0) 25 i = if i = (dd : Int) + 1 then w - 100 else bi t3 25 i := fun i i0 => by
                rw [bi_ne (by decide), bi_bw (by omega) i0 ⟨by omega, by omega⟩]
                simp only [true_and]
              have p4 : ∀ i : Int, 0 ≤ i → bi (bw (bw t3 25 ((dd : Int) + 1) (w - 100)) 26 ((dd : Int) + 1) 0) 26 i = if i = (dd : Int) + 1 then 0 else bi t3 26 i := fun i i0 => by
                rw [bi_bw (by omega) i0 (by decide), bi_ne (by decide)]
                simp only [true_and]
              generalize bw (bw t3 25 ((dd : Int) + 1) (w - 100)) 26 ((dd : Int) + 1) 0 = t4 at *
              have e1 : ((dd + 1 : Nat) : Int) = (dd : Int) + 1 := by omega
              have sub := ihf (w - 100) (dd + 1) rY t4 (ad + rx) (st2 + 1) v5 v6 v7 (by omega) (by omega) (by omega) (by omega) kin k140 C4
              rw [e1] at sub
              refine sub (by rw [s4 _ (by omega), if_pos rfl]) (by rw [p4 _ (by omega), if_pos rfl]) ⟨by omega, by omega⟩ ⟨by omega, tl⟩ fun t5 st5 v5 v6 v7 C5 s5 p5 pp5 h5 => ?_
              have xc := (bzB_e f rY (w - 100) (bzOz_u O C2.1.1) (bzRn0_u hr C2.1.1) (by omega) (by omega) (by rw [C2.1.1 140 (by decide)]; exact k140)).1
              generalize bzB σ f rY (w - 100) = Q at *
              obtain ⟨QY, qx⟩ := Q
              dsimp only at *
              obtain ⟨z1, z2, z3, z4, z5, z6, z7⟩ := xc
              have phq := bzPh_b (Z := QY) (m := n)
              have c95 := C5.2.2.2.2
              have o2 := (O.1.2 (w - 100) (by omega) (by omega)).1
              have fr5 := bzK0_a (a := w - 100) C5.2.1 (by omega)
              have k5 : bi t5 (bNe (w - 100)) 8 = Z.1 112 (w - 100) := by rw [fr5.1 _ (by simp [bzTa])]; exact k8
              have d5 : bi t5 (bAi (w - 100)) 7 = bzDu σ Z (w - 100) := by rw [fr5.1 _ List.mem_cons_self]; exact (As2.2.2.2.2.2 k140).2.1
              have b15 : bi t5 (bAi (w - 100)) 1 = Z.1 105 (w - 100) := by rw [fr5.1 _ List.mem_cons_self]; exact As2.2.1.2
              have e25 : bi t5 25 ((dd : Int) + 1 + 1 - 1) = w - 100 := by rw [show (dd : Int) + 1 + 1 - 1 = (dd : Int) + 1 by omega, s5 _ (by omega) (Int.le_refl _), s4 _ (by omega), if_pos rfl]
              have e26 : bi t5 26 ((dd : Int) + 1 + 1 - 1) = Z.1 105 (w - 100) := by rw [show (dd : Int) + 1 + 1 - 1 = (dd : Int) + 1 by omega]; exact pp5
              have g24 : bi t5 24 9 = QY.1 139 9 := C5.2.2.1.2.1 (139, 24, 12) (by decide) 9 (by decide) (by decide)
              refine sq62_16 (bWp_mono _) hA ⟨by omega, by omega⟩ ⟨by omega, by omega⟩ ⟨by omega, by omega⟩ ⟨fun _ => ⟨fun _ => ⟨⟨by omega, by omega⟩, w140i (n := 17) rfl rfl (by decide) (by omega) (by omega) ?_⟩, fun y => absurd (show (0 : Int) < (dd : Int) + 1 + 1 by omega) y⟩, fun y => absurd (show st5 < 100000 by omega) y⟩
              rw [e25]
              refine w89 (by rw [fr5.2]; exact As2.1) (by omega) (by omega) (w140i (n := 17) rfl rfl (by decide) (by omega) (by omega) ⟨bAi_0, ?_⟩)
              rw [e26, b15, bAi_n, k5]
              refine ⟨fun y => absurd y (Int.lt_irrefl _), fun _ => ⟨⟨by omega, by omega⟩, fun _ => ⟨bNe_4 _, w21 (d := d + 1) (Or.inl rfl) (by omega) cr.2 (fun y => by omega) fun _ => ?_⟩, fun y => absurd (show (0 : Int) < (dd : Int) + 1 + 1 + -1 by omega) y⟩⟩
              have g24b : bi (bw t5 15 (Z.1 112 (w - 100)) 1) 24 9 = QY.1 139 9 := by rw [bi_ne (by decide)]; exact g24
              refine w54 (d := d + 1) (by decide) (by decide) (by decide) (by rw [g24b]; exact ⟨by omega, by omega⟩) ?_
              rw [show 1 + 14 = 15 from rfl, g24b]
              have d6 : bi (bw (bw t5 15 (Z.1 112 (w - 100)) 1) 24 9 (QY.1 139 9 + 1)) (bAi (w - 100)) 7 = bzDu σ Z (w - 100) := by
                rw [bi_ne (by unfold bAi; omega), bi_ne (by unfold bAi; omega)]; exact d5
              rw [d6]
              refine ⟨⟨by omega, by omega⟩, ⟨by omega, by omega⟩, ?_⟩
              obtain ⟨y1, y2, y3, y4, y5, y6, y7⟩ := be1
              have n9 : (zw (zw QY 134 (Z.1 112 (w - 100)) 1) 139 9 (QY.1 139 9 + 1)).1 139 9 = QY.1 139 9 + 1 := zw_e
              have n10 : (zw (zw QY 134 (Z.1 112 (w - 100)) 1) 139 9 (QY.1 139 9 + 1)).1 139 10 = QY.1 139 10 := by rw [zw_i (by decide), zw_a (by decide)]
              have C6 : bzBc σ n Z s N F (zw (zw QY 134 (Z.1 112 (w - 100)) 1) 139 9 (QY.1 139 9 + 1)) (bw (bw t5 15 (Z.1 112 (w - 100)) 1) 24 9 (QY.1 139 9 + 1)) := by
                obtain ⟨⟨c1, c2⟩, c3, c4, c5, c6, c7⟩ := C5
                have pot := y7 n (by omega)
                refine ⟨⟨zU_trans c1 (zU_trans (zU_w (by decide)) (zU_w (by decide))), c2⟩, bzKf_trans c3 (bzKf_trans (bzKf_w (Or.inl (bzTb_s (by decide)))) (bzKf_w (Or.inl (bzTb_s (by decide))))), bzCG_w (bzCG_w c4 (b := 15) (mx := 1000) (by decide) cr.1 (by decide)) (b := 24) (mx := 12) (by decide) (by decide) ⟨by omega, by omega⟩, bzCh_w (bzCh_w c5 (by decide) (by decide) (by decide) hN hF) (by decide) (by decide) (by decide) hN hF, ⟨by omega, by omega⟩, ?_⟩
                rw [n9, n10] at pot ⊢
                have c9Y := Cu.2.2.2.2
                omega
              have s6 : ∀ i : Int, 0 ≤ i → i ≤ dd → bi (bw (bw t5 15 (Z.1 112 (w - 100)) 1) 24 9 (QY.1 139 9 + 1)) 25 i = bi t 25 i := fun i i0 i1 => by
                rw [bi_ne (by decide), bi_ne (by decide), s5 i i0 (by omega), s4 i i0, if_neg (by omega)]; exact s3 i i0 i1
              have p6 : ∀ i : Int, 0 ≤ i → i < dd → bi (bw (bw t5 15 (Z.1 112 (w - 100)) 1) 24 9 (QY.1 139 9 + 1)) 26 i = bi t 26 i := fun i i0 i1 => by
                rw [bi_ne (by decide), bi_ne (by decide), p5 i i0 (by omega), p4 i i0, if_neg (by omega)]; exact p3 i i0 i1
              have pp6 : bi (bw (bw t5 15 (Z.1 112 (w - 100)) 1) 24 9 (QY.1 139 9 + 1)) 26 dd = ((p + 1 : Nat) : Int) := by
                rw [bi_ne (by decide), bi_ne (by decide), p5 dd (by omega) (by omega), p4 dd (by omega), if_neg (by omega)]; exact pp3
              have fin := nx _ (st5 + 1) (.ref (bAi (w - 100))) (.int (bn (Z.1 105 (w - 100)))) v7 C6 s6 p6 pp6 ⟨by omega, by rw [n9]; omega⟩
              rw [show ad + (rx + qx + bzDu σ Z (w - 100)) = ad + rx + qx + bzDu σ Z (w - 100) by omega] at fin
              rw [show (dd : Int) + 1 + 1 + -1 = (dd : Int) + 1 by omega]
              exact fin
            have e55 : bi t3 5 5 = bi σ 12 87 := C3.2.2.1.1.2.1
            rw [e55]
            refine ⟨fun q3 => push (fun y => y.1 q3) _ _ _, fun q3 => w89 (fr2 t3 C3).1 (by omega) (by omega) ⟨bAi_0, ?_⟩⟩
            rw [bAi_n, (fr2 t3 C3).2]
            refine ⟨bNe_4 _, w20 (d := d + 1) (Or.inr rfl) cr.1 cr.2 ?_⟩
            rw [show 257 + 14 = 271 from rfl, e271]
            by_cases q4 : rY.1 135 (Z.1 112 (w - 100)) = 0
            · rw [if_pos q4]
              exact ⟨fun _ => push (fun y => y.2 q4) _ _ _, fun y => absurd rfl y⟩
            · rw [if_neg q4]
              rw [if_pos ⟨q3, q4⟩] at nx be1
              dsimp only at nx be1
              obtain ⟨y1, y2, y3, y4, y5, y6, y7⟩ := be1
              refine ⟨fun y => absurd y (by decide), fun _ => w89 (fr2 t3 C3).1 (by omega) (by omega) ⟨bAi_0, ?_⟩⟩
              rw [bAi_n, (fr2 t3 C3).2]
              refine ⟨bNe_4 _, w21 (d := d + 1) (Or.inl rfl) (by omega) cr.2 (fun y => by omega) fun _ => ?_⟩
              have g24c : bi t3 24 10 = rY.1 139 10 := C3.2.2.1.2.1 (139, 24, 12) (by decide) 10 (by decide) (by decide)
              have g24b : bi (bw t3 15 (Z.1 112 (w - 100)) 1) 24 10 = rY.1 139 10 := by rw [bi_ne (by decide)]; exact g24c
              refine w54 (d := d + 1) (by decide) (by decide) (by decide) (by rw [g24b]; exact ⟨by omega, by omega⟩) ?_
              rw [show 1 + 14 = 15 from rfl, g24b]
              have n9 : (zw (zw rY 134 (Z.1 112 (w - 100)) 1) 139 10 (rY.1 139 10 + 1)).1 139 9 = rY.1 139 9 := by rw [zw_i (by decide), zw_a (by decide)]
              have n10 : (zw (zw rY 134 (Z.1 112 (w - 100)) 1) 139 10 (rY.1 139 10 + 1)).1 139 10 = rY.1 139 10 + 1 := zw_e
              have C6 : bzBc σ n Z s N F (zw (zw rY 134 (Z.1 112 (w - 100)) 1) 139 10 (rY.1 139 10 + 1)) (bw (bw t3 15 (Z.1 112 (w - 100)) 1) 24 10 (rY.1 139 10 + 1)) := by
                obtain ⟨⟨c1, c2⟩, c3, c4, c5, c6, c7⟩ := C3
                have pot := y7 n (by omega)
                refine ⟨⟨zU_trans c1 (zU_trans (zU_w (by decide)) (zU_w (by decide))), c2⟩, bzKf_trans c3 (bzKf_trans (bzKf_w (Or.inl (bzTb_s (by decide)))) (bzKf_w (Or.inl (bzTb_s (by decide))))), bzCG_w (bzCG_w c4 (b := 15) (mx := 1000) (by decide) cr.1 (by decide)) (b := 24) (mx := 12) (by decide) (by decide) ⟨by omega, by omega⟩, bzCh_w (bzCh_w c5 (by decide) (by decide) (by decide) hN hF) (by decide) (by decide) (by decide) hN hF, ⟨by omega, by omega⟩, ?_⟩
                rw [n9, n10] at pot ⊢
                have c9Y := Cu.2.2.2.2
                omega
              exact ⟨⟨by omega, by omega⟩, nx _ (st2 + 1) _ _ _ C6 (fun i i0 i1 => by rw [bi_ne (by decide), bi_ne (by decide)]; exact s3 i i0 i1) (fun i i0 i1 => by rw [bi_ne (by decide), bi_ne (by decide)]; exact p3 i i0 i1) (by rw [bi_ne (by decide), bi_ne (by decide)]; exact pp3) ⟨by omega, by rw [n9]; omega⟩⟩
          · have q2' : rY.1 134 (Z.1 112 (w - 100)) ≠ 0 := q2
            rw [if_pos q2'] at nx
            dsimp only at nx
            rw [if_neg q2]
            exact ⟨fun y => absurd y (by decide), fun _ => ⟨⟨by omega, by omega⟩, nx t3 _ _ _ _ C3 s3 p3 pp3 ⟨by omega, by omega⟩⟩⟩
      have := Lp (Y.1 105 b).toNat 0 t st v5 v6 v7 (by omega) Cu (fun _ _ _ => rfl) (fun _ _ _ => rfl) hp ⟨hst.1, by show st ≤ st + ((0 : Nat) : Int) + 41 * (Y.1 139 9 - Y.1 139 9); omega⟩
      have e0 : ad + (bzBp σ (bzB σ f) b 0 Y).2 = ad := by show ad + 0 = ad; omega
      rw [e0] at this
      exact this
  have ph := bzPh_b (Z := Z) (m := n)
  have C0 : bzBc σ n Z s N F Z (bw (bw s 25 0 a) 26 0 0) := bzBc_w (bzBc_w ⟨⟨zU_refl, rfl⟩, bzKf_refl, G, C, ⟨Int.le_refl _, Int.le_refl _⟩, by omega⟩ (Or.inl rfl) hN hF) (Or.inr rfl) hN hF
  have r15 := (hr a a0 a1).1
  refine P 17 a 0 Z _ 0 0 _ _ _ (by omega) (by omega) a0 a1 hin hw C0 (by rw [bi_ne (by decide), bi_bw (by decide) (by decide) ra]; exact if_pos ⟨rfl, rfl⟩) (by rw [bi_bw (by decide) (by decide) (by decide)]; exact if_pos ⟨rfl, rfl⟩) ⟨by omega, by omega⟩ ⟨by omega, by omega⟩ fun t' st' v5 v6 v7 C1 s1 p1 pp1 h1 => ?_
  have xc := (bzB_e 17 Z a O hr a0 a1 hw).1
  generalize bzB σ 17 Z a = Q at *
  obtain ⟨QY, qx⟩ := Q
  dsimp only at *
  obtain ⟨z1, z2, z3, z4, z5, z6, z7⟩ := xc
  have phq := bzPh_b (Z := QY) (m := n)
  have c95 := C1.2.2.2.2
  have o2 := (O.1.2 a a0 a1).1
  have ra0 : bi t' 25 (((0 : Nat) : Int) + 1 - 1) = a := by
    have := s1 0 (by decide) (by decide)
    rw [show ((0 : Nat) : Int) + 1 - 1 = 0 by decide, this, bi_ne (by decide), bi_bw (by decide) (by decide) ra]
    exact if_pos ⟨rfl, rfl⟩
  have fr := bzK0_a (a := a) C1.2.1 (by omega)
  have b1t : bi t' (bAi a) 1 = Z.1 105 a := by rw [fr.1 _ List.mem_cons_self]; exact (As a a0 a1).2.1.2
  have e26 : bi t' 26 (((0 : Nat) : Int) + 1 - 1) = Z.1 105 a := pp1
  refine sq62_16 (bWp_mono _) hA ⟨by omega, by omega⟩ (by decide) ⟨by omega, by omega⟩ ⟨fun _ => ⟨fun _ => ⟨by decide, w140i (n := 17) rfl rfl (by decide) (by decide) (by decide) ?_⟩, fun y => absurd (by decide) y⟩, fun y => absurd (show st' < 100000 by omega) y⟩
  rw [ra0]
  refine w89 (by rw [fr.2]; exact (As a a0 a1).1) a0 (by omega) (w140i (n := 17) rfl rfl (by decide) (by decide) (by decide) ⟨bAi_0, ?_⟩)
  rw [e26, b1t]
  refine ⟨fun y => absurd y (Int.lt_irrefl _), fun _ => ⟨by decide, fun y => absurd y (by decide), fun _ => ⟨⟨by omega, by omega⟩, ?_⟩⟩⟩
  rw [show (0 : Int) + qx = qx by omega]
  refine sq62_16 (bWp_mono _) hA ⟨by omega, by omega⟩ (by decide) ⟨by omega, by omega⟩ ⟨fun _ => ⟨fun y => absurd y (by decide), fun _ => bRn_i ⟨by omega, by omega⟩ (h t' C1.2.1 C1.2.2.1 C1.2.2.2.1)⟩, fun y => absurd (show st' + 1 < 100000 by omega) y⟩
end

/-! BUILD, 16: the reference: an end, as a whole -/
section
variable {d : Nat} {σ s t r : bSt} {f : Int → bSt → Prop} {fv : bSt → Prop} {Z Y : bZs} {a b g i j k x v w h lo hi : Int} {n cap c e : Nat} {K : bKy} {P Q : List (Int × bKy)} {S : List Nat} {F : List Int}
theorem r298 (I : bzI σ n Z) (R : bzR0 σ n Z s) (Rw : bzRw σ n Z s) (a0 : 0 ≤ a) (a1 : a < (n : Int)) (hg : bzG Z a) (g0 : bRg g) (r73 : bi s 12 73 < 1700000) (k : ∀ t, bzR0 σ n (bzFin σ g Z a) t → bzRw σ n (bzFin σ g Z a) t → bzRf s t → bi t 12 73 ≤ bi s 12 73 + 2 → fv t) : bWp (d + 7) 298 [.ref 12, .int (bn a), .int (bn g)] s (bRv fv) := by
  have n120 := I.1.2.1.1
  have O := I.1
  have o := O.2.1.2 a a0 a1
  have J2a := I.2.2.2.1 a a0 a1
  have J4 := I.2.2.2.2.2
  have nb := bzNe_b (n := n) (Z := Z)
  have fe := bzFin_fe (g := g) I hg a0 a1
  obtain ⟨w1, w2⟩ := Rw a a0 a1 hg
  -- what comes of the others
  have oth : ∀ t, (∀ b ∈ [130, 131, 132, 133], ∀ j, bi t b j = bi s b j) → bzRw σ n (bzFin σ g Z a) t := fun t u b b0 b1 hb => by
    have e1 : ∀ c, c ∉ [112, 134, 135, 137, 138, 139, 142, 144, 148, 306, 395] → ∀ j, (bzFin σ g Z a).1 c j = Z.1 c j := fun c hc j => fe.1 c hc j
    have ne : b ≠ a := fun y => by
      have := hb.2.2
      rw [y] at this
      rcases fe.2.2.1 with ⟨q, _⟩ | ⟨q, _⟩ <;> omega
    have gZ : bzG Z b := ⟨by rw [← e1 140 (by decide) b]; exact hb.1, by rw [← e1 143 (by decide) b]; exact hb.2.1, by rw [← (fe.2.1 b ne).1.2.1]; exact hb.2.2⟩
    obtain ⟨m1, m2, m3, m4⟩ := bzFe_K fe I hg b0 b1 gZ.2.1
    obtain ⟨q1, q2⟩ := Rw b b0 b1 gZ
    rw [m2, m3, m4, e1 147 (by decide), u 130 (by decide), u 131 (by decide), u 133 (by decide)]
    exact ⟨⟨q1.1, q1.2.1, fun i hi => by rw [u 132 (by decide)]; exact q1.2.2 i hi⟩, q2⟩
  refine ⟨rfl, fun A hA => sq298_0 (bWp_mono _) hA ⟨by omega, by omega⟩ g0 ⟨⟨a0, by omega⟩, ?_⟩⟩
  rw [R.2.2.1.1 145 (by decide) a a0, R.2.2.1.2.1]
  have e147 : bi s 147 a = Z.1 147 a := R.2.2.1.1 147 (by decide) a a0
  have e103 : bi s 103 a = Z.1 103 a := (R.1.2.2.2 a a0 a1).1 103 (by decide)
  by_cases ft : Z.1 147 a = 0
  · -- a run
    have go : ∀ h v : Int, (h = 1 ∧ v = Z.1 103 a ∧ Z.1 145 a = Z.1 305 0 ∨ h = 0 ∧ v = -1 ∧ Z.1 145 a ≠ Z.1 305 0) → bWp (d + 6) 291 [.ref 12, .int (bn a), .int (bn v)] s (bRv (fun s3 => (((bi s3 133 a) = 0 → A (52, [.ref 12, .int (bn a), .int (bn g), .int (bn h), .float 0], [.int (bn 0), .int (bn (bi s3 139 11)), .int (bn 11), .ref 139], s3)) ∧ (¬ (bi s3 133 a) = 0 → A (52, [.ref 12, .int (bn a), .int (bn g), .int (bn h), .float 0], [.int (bn 1), .int (bn (bi s3 139 11)), .int (bn 11), .ref 139], s3))))) := fun h v hh => by
      have eFin : bzFin σ g Z a = if bzV σ Z a = -1 then bzFl g (bzQ σ Z a v) a else bzRn σ (bzQ σ Z a v) a h (bzX σ Z a) (bzK σ Z a) := by
        unfold bzFin
        rw [if_neg (fun y => y ft)]
        rcases hh with ⟨q1, q2, q3⟩ | ⟨q1, q2, q3⟩
        · rw [if_pos q3, q1, q2]
        · rw [if_neg q3, q1, q2]
      have vr : -1 ≤ v ∧ v < 1000 := by omega
      refine r291 (d := d + 5) R a0 (by omega) J2a.2.1 ⟨by omega, by omega⟩ fun t1 R1 F1 u1 => ?_
      obtain ⟨q1, q2, q3, q4, q5, q6⟩ := bzQ_e (σ := σ) (Z := Z) (a := a) (v := v) vr
      have e139 : bi t1 139 11 = Z.1 139 11 := (u1 139 (by decide) (by decide) (by decide) 11).trans (R.2.2.1.1 139 (by decide) 11 (by decide))
      have e133 : bi t1 133 a = bzX σ Z a := (u1 133 (by decide) (by decide) (by decide) a).trans (w2 ft)
      have e130 : bi t1 130 a = if bzV σ Z a = -1 then -5 else bzV σ Z a := (u1 130 (by decide) (by decide) (by decide) a).trans w1.1
      have x01 := bzX_01 (σ := σ) (Z := Z) (a := a)
      have vg := bzV_rg O a0 a1 hg.1
      have hh2 : h = 0 ∨ h = 1 := by omega
      have tl := J4.2.2.2.2.2.2
      rw [e139, e133]
      -- with what was looked at
      have nx : A (52, [.ref 12, .int (bn a), .int (bn g), .int (bn h), .float 0], [.int (bn (bzX σ Z a)), .int (bn (Z.1 139 11)), .int (bn 11), .ref 139], t1) := by
        have R2 : bzR0 σ n (bzQ σ Z a v) (bw t1 139 11 (Z.1 139 11 + bzX σ Z a)) := by
          have e : (bzLv Z a v).1 139 11 = Z.1 139 11 := by
            unfold bzLv
            by_cases z : Z.1 148 a = -1
            · rw [if_pos z]
            · rw [if_neg z, zw_a (by decide), zw_a (by decide), zw_a (by decide)]
          exact bzR0_w R1 (c := 139) (by decide) (by decide) ⟨by omega, by omega⟩
        have F2 : bzRf s (bw t1 139 11 (Z.1 139 11 + bzX σ Z a)) := bzRf_trans F1 (bzRf_w (by decide))
        have u2 : ∀ b ∈ [130, 131, 132, 133], ∀ j, bi (bw t1 139 11 (Z.1 139 11 + bzX σ Z a)) b j = bi s b j := fun b hb j => by
          simp only [List.mem_cons, List.not_mem_nil, or_false] at hb
          rw [bi_ne (by omega)]
          exact u1 b (by omega) (by omega) (by omega) j
        have c73 : bi (bw t1 139 11 (Z.1 139 11 + bzX σ Z a)) 12 73 = bi s 12 73 := by
          rw [bi_ne (by decide)]; exact u1 12 (by decide) (by decide) (by decide) 73
        obtain ⟨hQ, mQ⟩ := bzEnv (S := [137, 138, 139, 148]) O q1 (by decide)
        obtain ⟨mK, mV, mX, mF⟩ := mQ a
        refine sq298_52 (bWp_mono _) hA ⟨by omega, by omega⟩ g0 (by rcases hh2 with y | y <;> rw [y] <;> decide) (by rcases x01 with y | y <;> rw [y] <;> decide) ⟨by omega, by omega⟩ (by decide) ⟨⟨by omega, by omega⟩, by decide, ⟨a0, by omega⟩, ?_⟩
        rw [e130]
        generalize bw t1 139 11 (Z.1 139 11 + bzX σ Z a) = t2 at *
        refine ⟨fun z => ?_, fun z => ?_⟩
        · -- it fails
          have hv : bzV σ Z a = -1 := by
            by_cases y : bzV σ Z a = -1
            · exact y
            · rw [if_neg y] at z; omega
          rw [if_pos hv] at eFin
          refine r295 (d := d + 5) R2 a0 (by omega) (by decide) fun t3 R3 F3 u3 => ?_
          have fin : ∀ t4, bzR0 σ n (bzFl g (bzQ σ Z a v) a) t4 → bzRf t3 t4 → (∀ b ∈ [130, 131, 132, 133], ∀ j, bi t4 b j = bi t3 b j) → bi t4 12 73 = bi t3 12 73 → bRv fv (.inl none) t4 := fun t4 R4 F4 u4 c4 => by
            rw [← eFin] at R4
            refine k t4 R4 (oth t4 fun b hb j => ?_) (bzRf_trans (bzRf_trans F2 F3) F4) (by rw [c4, u3 12 (by decide) (by decide), c73]; omega)
            rw [u4 b hb, u3 b (by simp only [List.mem_cons, List.not_mem_nil, or_false] at hb; omega) (by simp only [List.mem_cons, List.not_mem_nil, or_false] at hb; omega)]
            exact u2 b hb j
          have e95 : bi t3 12 95 = (bzQ σ Z a v).1 395 0 := by
            rw [R3.2.2.1.2.2.2]; unfold bzE; rw [zw_a (by decide), zw_a (by decide)]
          have e106 : bi t3 12 106 = (bzQ σ Z a v).1 306 0 := by
            rw [R3.2.2.1.2.2.1]; unfold bzE; rw [zw_a (by decide), zw_a (by decide)]
          have b01 : (bzQ σ Z a v).1 306 0 = 0 ∨ (bzQ σ Z a v).1 306 0 = 1 := by rw [q1 306 (by decide)]; exact J4.2.1
          unfold bzFl at fin
          -- the two writes
          have wr : ∀ (p q : Int), (p = a ∧ (bzQ σ Z a v).1 395 0 = -1 ∨ p = bi t3 12 95 ∧ (bzQ σ Z a v).1 395 0 ≠ -1) → (q = 1 ∧ (g = 0 ∨ (bzQ σ Z a v).1 306 0 = 1) ∨ q = 0 ∧ g ≠ 0 ∧ (bzQ σ Z a v).1 306 0 = 0) → bRv fv (.inl none) (bw (bw t3 12 95 p) 12 106 q) := fun p q hp hq => by
            have Rp : bzR0 σ n (if (bzQ σ Z a v).1 395 0 = -1 then zw (bzE (bzQ σ Z a v) a 5) 395 0 a else bzE (bzQ σ Z a v) a 5) (bw t3 12 95 p) := by
              rcases hp with ⟨y1, y2⟩ | ⟨y1, y2⟩
              · rw [if_pos y2, y1]
                exact bzR0_f R3 (Or.inr (Or.inr ⟨rfl, rfl⟩)) ⟨by omega, by omega⟩
              · rw [if_neg y2, y1, bw_id]
                exact R3
            have e6 : bi (bw t3 12 95 p) 12 106 = (bzQ σ Z a v).1 306 0 := by rw [bi_nj (by decide) (by decide) (by decide)]; exact e106
            refine fin _ ?_ (bzRf_trans (bzRf_f (by decide) (by decide)) (bzRf_f (by decide) (by decide))) (fun b hb j => ?_) ?_
            · by_cases yg : g = 0
              · rw [if_pos yg]
                have : q = 1 := by omega
                rw [this]
                exact bzR0_f Rp (Or.inr (Or.inl ⟨rfl, rfl⟩)) (by decide)
              · rw [if_neg yg]
                have : q = bi (bw t3 12 95 p) 12 106 := by rw [e6]; omega
                rw [this, bw_id]
                exact Rp
            · simp only [List.mem_cons, List.not_mem_nil, or_false] at hb
              rw [bi_ne (by omega), bi_ne (by omega)]
            · rw [bi_nj (by decide) (by decide) (by decide), bi_nj (by decide) (by decide) (by decide)]
          rw [e95, e106]
          refine ⟨fun y => ⟨fun y2 => ⟨fun y3 => wr _ _ (Or.inl ⟨rfl, y⟩) (Or.inl ⟨rfl, Or.inl y3⟩), fun y3 => wr _ _ (Or.inl ⟨rfl, y⟩) (Or.inr ⟨rfl, y3, y2⟩)⟩, fun y2 => wr _ _ (Or.inl ⟨rfl, y⟩) (Or.inl ⟨rfl, Or.inr (b01.resolve_left y2)⟩)⟩, fun y => ?_⟩
          rw [← e95]
          exact ⟨fun y2 => ⟨fun y3 => wr _ _ (Or.inr ⟨rfl, y⟩) (Or.inl ⟨rfl, Or.inl y3⟩), fun y3 => wr _ _ (Or.inr ⟨rfl, y⟩) (Or.inr ⟨rfl, y3, y2⟩)⟩, fun y2 => wr _ _ (Or.inr ⟨rfl, y⟩) (Or.inl ⟨rfl, Or.inr (b01.resolve_left y2)⟩)⟩
        · -- it is done
          have hv : bzV σ Z a ≠ -1 := fun y => by rw [if_pos y] at z; exact z rfl
          rw [if_neg hv] at eFin
          have W0 : bzWl t2 a (bzK σ (bzQ σ Z a v) a) := by
            rw [mK]
            refine ⟨?_, (u2 131 (by decide) _).trans w1.2.1, fun i hi => (u2 132 (by decide) _).trans (w1.2.2 i hi)⟩
            rw [u2 130 (by decide), w1.1, if_neg hv]
            exact bzV_k O.1.1
          have Ik : bzIk n (bzQ σ Z a v) := fun b b0 b1 K hK => by
            rw [q3] at hK
            rw [q1 101 (by decide), q1 102 (by decide), q1 103 (by decide), q1 105 (by decide), q1 112 (by decide)]
            exact I.2.1 b b0 b1 K hK
          have C1 : bzJc 24 (bzQ σ Z a v).2.1 := by rw [q3]; exact I.2.2.2.2.1.1
          have hwQ : (bzQ σ Z a v).1 140 a ≠ 0 := by rw [q1 140 (by decide)]; exact hg.1
          have gK := bzK_g O a0 a1 hg.1 hv
          have kv : bzV σ Z a = bKv (bzK σ Z a) := bzV_k O.1.1
          -- the rest, done as st
          have dn : ∀ st : Int, (h = 1 ∧ st = 3 ∨ h = 0 ∧ st = 4) → A (92, [.ref 12, .int (bn a), .int (bn g), .int (bn h), .float 0], [.int (bn st), .int (bn a), .ref 12], t2) := fun st hst => by
            refine sq298_92 (bWp_mono _) hA ⟨by omega, by omega⟩ (by rcases hh2 with y | y <;> rw [y] <;> decide) ⟨by omega, by omega⟩ ⟨by omega, by omega⟩ ?_
            refine r_dn (A := A) (d := d) hQ Ik C1 R2 a0 a1 hwQ (by rw [mV]; exact hv) W0 ⟨by omega, by omega⟩ (by rw [c73]; omega) fun t5 R5 F5 u5 c5 => ?_
            rw [mK] at R5
            have e87 : bi t5 12 87 = bi σ 12 87 := R5.1.1.2.2.2.1
            have v130 : bi t5 130 a = bKv (bzK σ Z a) := by rw [u5 130 (by decide), u2 130 (by decide), w1.1, if_neg hv, kv]
            have v133 : bi t5 133 a = bzX σ Z a := by rw [u5 133 (by decide), u2 133 (by decide)]; exact w2 ft
            rw [e87, v130, v133]
            have fin : ∀ t6, bzR0 σ n (bzRn σ (bzQ σ Z a v) a h (bzX σ Z a) (bzK σ Z a)) t6 → bzRf t5 t6 → (∀ b ∈ [130, 131, 132, 133], ∀ j, bi t6 b j = bi t5 b j) → bi t6 12 73 ≤ bi t5 12 73 + 1 → bRv fv (.inl none) t6 := fun t6 R6 F6 u6 c6 => by
              rw [← eFin] at R6
              exact k t6 R6 (oth t6 fun b hb j => by rw [u6 b hb, u5 b hb]; exact u2 b hb j) (bzRf_trans (bzRf_trans F2 F5) F6) (by omega)
            unfold bzRn at fin
            have vr2 := gK.2.2.2.2.2.2.2.2
            have same : ∀ b ∈ [130, 131, 132, 133], ∀ j, bi t5 b j = bi t5 b j := fun _ _ _ => rfl
            have w134 : ∀ (t : bSt) (c : Nat) (x : Int), (c = 134 ∨ c = 135) → ∀ b ∈ [130, 131, 132, 133], ∀ j, bi (bw t c x 1) b j = bi t b j := fun t c x hc b hb j => by
              simp only [List.mem_cons, List.not_mem_nil, or_false] at hb
              exact bi_ne (by omega)
            -- not far
            have nf : ¬ (bi σ 12 87 ≠ 0 ∧ bzX σ Z a = 0) → (h = 0 → bRv fv (.inl none) t5) ∧ (¬ h = 0 → bRv fv (.inl none) (bw t5 134 (bKv (bzK σ Z a)) 1)) := fun y => by
              rw [if_neg y] at fin
              refine ⟨fun y0 => ?_, fun y0 => ?_⟩
              · rw [if_neg (by omega)] at fin
                rw [show st = 4 by omega] at R5
                exact fin t5 R5 bzRf_refl same (by omega)
              · rw [if_pos (by omega)] at fin
                rw [show st = 3 by omega] at R5
                exact fin _ (bzR0_w R5 (c := 134) (by decide) vr2.1 (by decide)) (bzRf_w (by decide)) (w134 t5 134 _ (Or.inl rfl)) (by rw [bi_ne (by decide)]; omega)
            refine ⟨fun y => ?_, fun y => ⟨⟨a0, by omega⟩, fun y2 => ?_, fun y2 => ?_⟩⟩
            · have n1 := nf (fun z => z.1 y)
              exact ⟨n1.1, fun y0 => ⟨⟨a0, by omega⟩, vr2, n1.2 y0⟩⟩
            · -- far, too
              rw [if_pos ⟨y, y2⟩] at fin
              have D := bzDn_e (Z := bzQ σ Z a v) (a := a) (v := st) (K := bzK σ Z a)
              have hD := bzEnvH hQ a0 a1 (K := bzK σ Z a) vr2
              -- the key is still the action's
              have zD : zU [142, 144] (bzH (bzQ σ Z a v) a (bzK σ Z a)) (bzDn (bzQ σ Z a v) a st (bzK σ Z a)) := fun c hc j => by
                show (zw (zw (zw (bzQ σ Z a v) 142 a st) 144 a ((bzQ σ Z a v).1 305 0)) 112 a (bKv (bzK σ Z a))).1 c j = (zw (bzQ σ Z a v) 112 a (bKv (bzK σ Z a))).1 c j
                simp only [List.mem_cons, List.not_mem_nil, or_false, not_or] at hc
                have sw : ∀ X Y : bZs, X.1 c j = Y.1 c j → (zw X 112 a (bKv (bzK σ Z a))).1 c j = (zw Y 112 a (bKv (bzK σ Z a))).1 c j := fun X Y e => by rw [zw_w, zw_w, e]
                exact sw _ _ (by rw [zw_a hc.2, zw_a hc.1])
              obtain ⟨hDn, mDn⟩ := bzEnv hD.1 zD (by decide)
              have eKD : bzK σ (bzDn (bzQ σ Z a v) a st (bzK σ Z a)) a = bzK σ Z a := by rw [(mDn a).1, hD.2.1, mK]
              have eVD : bzV σ (bzDn (bzQ σ Z a v) a st (bzK σ Z a)) a ≠ -1 := by rw [(mDn a).2.1, hD.2.2.1, mV]; exact hv
              refine r270f (d := d) hDn R5 (by rw [D.2.2.2.2.2.2, q3]; exact I.2.2.2.2.1.2) a0 a1 (by rw [D.1 140 (by decide)]; exact hwQ) eVD (by
                rw [eKD]
                exact ⟨v130, by rw [u5 131 (by decide), u2 131 (by decide)]; exact w1.2.1, fun i hi => by rw [u5 132 (by decide), u2 132 (by decide)]; exact w1.2.2 i hi⟩) (by rw [c5, c73]; omega) fun t6 R6 F6 u6 c6 => ?_
              rw [eKD] at R6
              have u6b : ∀ b ∈ [130, 131, 132, 133], ∀ j, bi t6 b j = bi t5 b j := fun b hb j => u6 b (by unfold bPuK; simp only [List.mem_cons, List.not_mem_nil, or_false] at hb ⊢; omega) (by simp only [List.mem_cons, List.not_mem_nil, or_false] at hb; omega) (by simp only [List.mem_cons, List.not_mem_nil, or_false] at hb; omega) j
              rw [u6b 130 (by decide), v130]
              refine ⟨vr2, fun y0 => ?_, fun y0 => ?_⟩
              · rw [if_neg (by omega)] at fin
                rw [show st = 4 by omega] at R6
                exact fin _ (bzR0_w R6 (c := 135) (by decide) vr2.1 (by decide)) (bzRf_trans F6 (bzRf_w (by decide))) (fun b hb j => by rw [w134 t6 135 _ (Or.inr rfl) b hb]; exact u6b b hb j) (by rw [bi_ne (by decide)]; omega)
              · rw [if_pos (by omega)] at fin
                rw [show st = 3 by omega] at R6
                exact fin _ (bzR0_w (bzR0_w R6 (c := 135) (by decide) vr2.1 (by decide)) (c := 134) (by decide) vr2.1 (by decide)) (bzRf_trans (bzRf_trans F6 (bzRf_w (by decide))) (bzRf_w (by decide))) (fun b hb j => by rw [w134 _ 134 _ (Or.inl rfl) b hb, w134 t6 135 _ (Or.inr rfl) b hb]; exact u6b b hb j) (by rw [bi_ne (by decide), bi_ne (by decide)]; omega)
            · have n1 := nf (fun z => y2 z.2)
              exact ⟨n1.1, fun y0 => ⟨vr2, n1.2 y0⟩⟩
          exact ⟨fun y => dn 4 (Or.inr ⟨y, rfl⟩), fun y => dn 3 (Or.inl ⟨hh2.resolve_left y, rfl⟩)⟩
      refine ⟨fun y => by rwa [y] at nx, fun y => by rwa [x01.resolve_left y] at nx⟩
    refine ⟨fun z => ?_, fun z => ?_⟩
    · refine sq298_10 (bWp_mono _) hA ⟨by omega, by omega⟩ g0 (by decide) ⟨⟨a0, by omega⟩, ?_⟩
      rw [e147]
      refine ⟨fun _ => ⟨fun y => absurd y (by decide), fun _ => ?_⟩, fun y => absurd ft y⟩
      rw [e103]
      exact go 1 _ (Or.inl ⟨rfl, rfl, z⟩)
    · refine sq298_10 (bWp_mono _) hA ⟨by omega, by omega⟩ g0 (by decide) ⟨⟨a0, by omega⟩, ?_⟩
      rw [e147]
      exact ⟨fun _ => ⟨fun _ => go 0 _ (Or.inr ⟨rfl, rfl, z⟩), fun y => absurd rfl y⟩, fun y => absurd ft y⟩
  · -- a fetching
    have hv := (J2a.2.2.2.1 ft).2.2 hg
    have eFin : bzFin σ g Z a = bzDn Z a 2 (bzK σ Z a) := by unfold bzFin; rw [if_pos ft]
    have go : ∀ t0 : Int, bRg t0 → A (10, [.ref 12, .int (bn a), .int (bn g), .float 0, .float 0], [.int (bn t0)], s) := fun t0 rt => by
      refine sq298_10 (bWp_mono _) hA ⟨by omega, by omega⟩ g0 rt ⟨⟨a0, by omega⟩, ?_⟩
      rw [e147]
      refine ⟨fun y => absurd y ft, fun _ => r_dn (A := A) (d := d) O I.2.1 I.2.2.2.2.1.1 R a0 a1 hg.1 hv ⟨by rw [w1.1, if_neg hv]; exact bzV_k O.1.1, w1.2.1, w1.2.2⟩ (by decide) (by omega) fun t R5 F5 u5 c5 => ?_⟩
      rw [← eFin] at R5
      exact k t R5 (oth t u5) F5 (by omega)
    exact ⟨fun _ => go 1 (by decide), fun _ => go 0 (by decide)⟩
end

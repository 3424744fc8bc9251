/-! BUILD, 18: the reference brings bytes -/
section
variable {d lvl : Nat} {σ s t r : bSt} {f : Int → bSt → Prop} {fv : bSt → Prop} {Z Y : bZs} {a b g i j k x v w : Int} {n c : Nat} {rk : Int → Nat} {A : bPt → Prop} {v1 : Value}
/-- scratch is written -/
theorem bzR0_n {c : Nat} (R : bzR0 σ n Z s) (hc : c ∈ [119, 120, 130, 131, 132, 133, 149, 150]) : bzR0 σ n Z (bw s c i v) := by
  obtain ⟨E, Rk, Ry, Rc⟩ := R
  have hl : c = 119 ∨ c = 120 ∨ (130 ≤ c ∧ c ≤ 133) ∨ c = 149 ∨ c = 150 := by simp only [List.mem_cons, List.not_mem_nil, or_false] at hc; omega
  have hm : c % 256 = c := Nat.mod_eq_of_lt (by omega)
  have U : bUn [c] [] s (bw s c i v) := bUn_w bUn_refl (by rw [hm]; exact List.mem_cons_self) (by omega)
  have st : ∀ b, b ≠ c → ∀ j, bi (bw s c i v) b j = bi s b j := fun b q j => bi_ne q
  refine ⟨bzRe_u E U (fun k hk => ?_) (fun _ _ => List.not_mem_nil), bzRk_u Rk (fun b hb => st b ?_) rfl, ⟨fun b hb j j0 => ?_, ?_, ?_, ?_⟩, bzRc_u Rc (fun b hb => st b ?_) (st 12 (by omega) 73) rfl rfl⟩
  · unfold bReK at hk; simp only [List.mem_cons, List.not_mem_nil, or_false] at hk ⊢; omega
  · unfold bRkK at hb; simp only [List.mem_cons, List.not_mem_nil, or_false] at hb; omega
  · rw [st b (by simp only [List.mem_cons, List.not_mem_nil, or_false] at hb; omega)]; exact Ry.1 b hb j j0
  · rw [st 12 (by omega)]; exact Ry.2.1
  · rw [st 12 (by omega)]; exact Ry.2.2.1
  · rw [st 12 (by omega)]; exact Ry.2.2.2
  · unfold bPuK at hb; simp only [List.mem_cons, List.not_mem_nil, or_false] at hb; omega
theorem bzO_u (h : bzO σ n Z) (u : zU [134, 139] Z Y) : bzO σ n Y := (bzEnv h u (by decide)).1
theorem r297L (hA : bClosed lvl bm297 (bWp (d + 1)) (bRn f) A) (hu : bUnl v1 = v1) : ∀ (F : Nat) (Z : bZs) (a x top : Int) (s : bSt) (v4 v5 v6 v7 : Value), bzO σ n Z → bzRn0 rk n Z → bzR0 σ n Z s → 0 ≤ a → a < (n : Int) → Z.1 140 a ≠ 0 → rk a < F → 0 ≤ top → top + rk a ≤ 100 → (0 ≤ Z.1 139 9 ∧ 0 ≤ Z.1 139 10 ∧ Z.1 139 9 + Z.1 139 10 + bzPh Z n ≤ 20000) → 0 ≤ x → x ≤ 20 * Z.1 139 9 → bi s 149 top = a → bi s 150 top = 0 →
    (∀ t v4 v5 v6 v7, bzR0 σ n (bzB σ F Z a).1 t → bzRf s t → (∀ j, 0 ≤ j → j < top → bi t 149 j = bi s 149 j ∧ bi t 150 j = bi s 150 j) → bi t 149 top = a → bi t 150 top = Z.1 105 a → (∀ b, b ∉ [134, 139, 149, 150] → ∀ j, bi t b j = bi s b j) → A (14, [.ref 12, v1, .int (bn (x + (bzB σ F Z a).2)), .int (bn top), v4, v5, v6, v7], [], t)) → A (14, [.ref 12, v1, .int (bn x), .int (bn top), v4, v5, v6, v7], [], s) := by
  intro F
  induction F with
  | zero => intro Z a x top s v4 v5 v6 v7 _ _ _ _ _ _ h; exact absurd h (Nat.not_lt_zero _)
  | succ F ih =>
    intro Z a x top s v4 v5 v6 v7 h hr R a0 a1 w hrk top0 top1 pot x0 x1 c9 c5 K
    have n120 := h.2.1.1
    obtain ⟨o1, o2, o3⟩ := h.2.1.2 a a0 a1
    have Oz : bzOz σ n Z := ⟨h.2.1, h.2.2.1⟩
    have BB := fun k hk => (bzB_e (rk := rk) F Z a Oz hr a0 a1 w).2 k hk
    have L : ∀ (m k : Nat) (t : bSt) (v4 v5 v6 v7 : Value), (k : Int) + m = Z.1 105 a → bzR0 σ n (bzBp σ (bzB σ F) a k Z).1 t → bzRf s t → (∀ j, 0 ≤ j → j < top → bi t 149 j = bi s 149 j ∧ bi t 150 j = bi s 150 j) → bi t 149 top = a → bi t 150 top = k → (∀ b, b ∉ [134, 139, 149, 150] → ∀ j, bi t b j = bi s b j) → A (14, [.ref 12, v1, .int (bn (x + (bzBp σ (bzB σ F) a k Z).2)), .int (bn top), v4, v5, v6, v7], [], t) := by
      intro m
      induction m with
      | zero =>
        intro k t v4 v5 v6 v7 hk Rt Ft ch t9 t5 ut
        have ek : (Z.1 105 a).toNat = k := by omega
        have e : bzB σ (F + 1) Z a = bzBp σ (bzB σ F) a (Z.1 105 a).toNat Z := rfl
        rw [e, ek] at K
        exact K t v4 v5 v6 v7 Rt Ft ch t9 (by rw [t5]; omega) ut
      | succ m ihm =>
        intro k t v4 v5 v6 v7 hk Rt Ft ch t9 t5 ut
        have bk := BB k (by omega)
        have bk1 := BB (k + 1) (by omega)
        have nx := ihm (k + 1)
        rw [show ((k + 1 : Nat) : Int) = (k : Int) + 1 by omega] at nx
        have uB : bzBp σ (bzB σ F) a (k + 1) Z = (fun r : bZs × Int =>
            if Z.1 106 (40 * a + k) < 100 then r
            else if r.1.1 134 (Z.1 112 (Z.1 106 (40 * a + k) - 100)) ≠ 0 then r
            else if bi σ 12 87 ≠ 0 ∧ r.1.1 135 (Z.1 112 (Z.1 106 (40 * a + k) - 100)) ≠ 0 then (zw (zw r.1 134 (Z.1 112 (Z.1 106 (40 * a + k) - 100)) 1) 139 10 (r.1.1 139 10 + 1), r.2)
            else (fun q : bZs × Int => (zw (zw q.1 134 (Z.1 112 (Z.1 106 (40 * a + k) - 100)) 1) 139 9 (q.1.1 139 9 + 1), r.2 + q.2 + bzDu σ Z (Z.1 106 (40 * a + k) - 100))) (bzB σ F r.1 (Z.1 106 (40 * a + k) - 100))) (bzBp σ (bzB σ F) a k Z) := rfl
        rw [uB] at nx bk1
        generalize bzBp σ (bzB σ F) a k Z = r at *
        dsimp only at nx bk1
        obtain ⟨k1, k2, k3, k4, k5, k6, k7⟩ := bk
        have kn := k7 n (by omega)
        have ph := bzPh_b (Z := r.1) (m := n)
        have hY := bzO_u h k1
        have rx : bRg (x + r.2) := ⟨by omega, by omega⟩
        have q150 : bi (bw t 150 top ((k : Int) + 1)) 150 top = (k : Int) + 1 := bi_eq ⟨by omega, by omega⟩
        have Et := Rt.1.2.2.2
        have e105 : bi t 105 a = Z.1 105 a := by rw [(Et a a0 a1).1 105 (by decide)]; exact k1 105 (by decide) a
        have e106 : bi t 106 (40 * a + k) = Z.1 106 (40 * a + k) := by
          rw [(Et a a0 a1).2 k (by omega) (by rw [k1 105 (by decide)]; omega)]; exact k1 106 (by decide) _
        have e87 : bi t 12 87 = bi σ 12 87 := Rt.1.1.2.2.2.1
        refine sq297_14 (bWp_mono _) hA rx ⟨by omega, by omega⟩ ⟨fun z => absurd z (by omega), fun _ => ?_⟩
        rw [t9, t5, e105, e106, e87]
        -- the place moved on
        have R1 : bzR0 σ n r.1 (bw t 150 top ((k : Int) + 1)) := bzR0_n Rt (by decide)
        have F1 : bzRf s (bw t 150 top ((k : Int) + 1)) := bzRf_trans Ft (bzRf_w (by decide))
        have ch1 : ∀ j, 0 ≤ j → j < top → bi (bw t 150 top ((k : Int) + 1)) 149 j = bi s 149 j ∧ bi (bw t 150 top ((k : Int) + 1)) 150 j = bi s 150 j := fun j j0 j1 => ⟨by rw [bi_ne (by decide)]; exact (ch j j0 j1).1, by rw [bi_nj top0 j0 (by omega)]; exact (ch j j0 j1).2⟩
        have t91 : bi (bw t 150 top ((k : Int) + 1)) 149 top = a := by rw [bi_ne (by decide)]; exact t9
        have ut1 : ∀ b, b ∉ [134, 139, 149, 150] → ∀ j, bi (bw t 150 top ((k : Int) + 1)) b j = bi s b j := fun b hb j => by
          rw [bi_ne (fun e => hb (by rw [e]; decide))]; exact ut b hb j
        refine ⟨⟨top0, by omega⟩, ⟨a0, by omega⟩, fun _ => ⟨⟨by omega, by omega⟩, ⟨by omega, by omega⟩, ⟨by omega, by omega⟩, ⟨by omega, by omega⟩, fun c1 => ?_, fun c1 => ?_⟩, fun z => absurd (show (k : Int) < Z.1 105 a by omega) z⟩
        · rw [if_pos c1] at nx
          exact nx _ _ _ _ _ (by omega) R1 F1 ch1 t91 q150 ut1
        · have hb := (o3 k (by omega) (by omega)).resolve_left (by omega)
          have iw := (h.2.2.1 a a0 a1 w).2.1 k (by omega) (by omega) hb.1
          have rki := (hr a a0 a1).2 k (by omega) (by omega) hb.1
          have cr := h.2.2.2 (Z.1 106 (40 * a + k) - 100) (by omega) (by omega)
          rw [if_neg c1] at nx bk1
          have e112 : bi t 112 (Z.1 106 (40 * a + k) - 100) = Z.1 112 (Z.1 106 (40 * a + k) - 100) := by
            rw [(Et _ (by omega) (by omega)).1 112 (by decide)]; exact k1 112 (by decide) _
          generalize hin : Z.1 106 (40 * a + k) - 100 = b at *
          have e134 : bi t 134 (Z.1 112 b) = r.1.1 134 (Z.1 112 b) := Rt.2.2.1.1 134 (by decide) _ cr.1
          have e135 : bi t 135 (Z.1 112 b) = r.1.1 135 (Z.1 112 b) := Rt.2.2.1.1 135 (by decide) _ cr.1
          have e1390 : bi t 139 10 = r.1.1 139 10 := Rt.2.2.1.1 139 (by decide) _ (by decide)
          rw [e112, e134, e135, e1390]
          refine ⟨⟨by omega, by omega⟩, ⟨by omega, by omega⟩, cr, fun c2 => ?_, fun c2 => ?_⟩
          · rw [if_neg (fun y => y c2)] at nx bk1
            -- it is run again
            have push : ¬ (bi σ 12 87 ≠ 0 ∧ r.1.1 135 (Z.1 112 b) ≠ 0) → ∀ v4 v5 v6 v7, bRg (top + 1) ∧ (0 ≤ top + 1 ∧ top + 1 < 128) ∧ A (14, [.ref 12, v1, .int (bn (x + r.2)), .int (bn (top + 1)), v4, v5, v6, v7], [], bw (bw (bw t 150 top ((k : Int) + 1)) 149 (top + 1) b) 150 (top + 1) 0) := fun c3 v4 v5 v6 v7 => by
              rw [if_neg c3] at nx bk1
              have R2 : bzR0 σ n r.1 (bw (bw (bw t 150 top ((k : Int) + 1)) 149 (top + 1) b) 150 (top + 1) 0) := bzR0_n (bzR0_n R1 (by decide)) (by decide)
              have F2 : bzRf s (bw (bw (bw t 150 top ((k : Int) + 1)) 149 (top + 1) b) 150 (top + 1) 0) := bzRf_trans (bzRf_trans F1 (bzRf_w (by decide))) (bzRf_w (by decide))
              refine ⟨⟨by omega, by omega⟩, ⟨by omega, by omega⟩, ih r.1 b (x + r.2) (top + 1) _ v4 v5 v6 v7 hY (bzRn0_u hr k1) R2 (by omega) (by omega) (by rw [k1 140 (by decide)]; exact iw) (by omega) (by omega) (by omega) ⟨by omega, by omega, by omega⟩ (by omega) (by omega) (by rw [bi_ne (by decide), bi_eq ⟨by omega, by omega⟩]) (bi_eq (by decide)) fun t2 v4 v5 v6 v7 R3 F3 ch3 t93 t53 u3 => ?_⟩
              -- back out of it
              have bq := (bzB_e (rk := rk) F r.1 b ⟨hY.2.1, hY.2.2.1⟩ (bzRn0_u hr k1) (by omega) (by omega) (by rw [k1 140 (by decide)]; exact iw)).1
              generalize bzB σ F r.1 b = q at *
              obtain ⟨b1, b2, b3, b4, b5, b6, b7⟩ := bq
              have bn7 := b7 n (by omega)
              have phq := bzPh_b (Z := q.1) (m := n)
              have E2 := R3.1.2.2.2 b (by omega) (by omega)
              have f105 : bi t2 105 b = Z.1 105 b := by rw [E2.1 105 (by decide), b1 105 (by decide)]; exact k1 105 (by decide) b
              have f112 : bi t2 112 b = Z.1 112 b := by rw [E2.1 112 (by decide), b1 112 (by decide)]; exact k1 112 (by decide) b
              have f107 : bi t2 107 b = Z.1 107 b := by rw [E2.1 107 (by decide), b1 107 (by decide)]; exact k1 107 (by decide) b
              have f90 : bi t2 90 (Z.1 107 b) = bzDu σ Z b := R3.1.1.2.1 90 (by decide) _
              have f9 : bi t2 139 9 = q.1.1 139 9 := R3.2.2.1.1 139 (by decide) 9 (by decide)
              obtain ⟨_, _, fi, _, du, _⟩ := h.2.2.1 b (by omega) (by omega) iw
              have k105 : r.1.1 105 b = Z.1 105 b := k1 105 (by decide) b
              refine sq297_14 (bWp_mono _) hA ⟨by omega, by omega⟩ ⟨by omega, by omega⟩ ⟨fun z => absurd z (by omega), fun _ => ?_⟩
              rw [t93, t53, f105, f112, f107, f90, f9, k105]
              refine ⟨⟨by omega, by omega⟩, ⟨by omega, by omega⟩, fun z => absurd z (Int.lt_irrefl _), fun _ => ⟨fun _ => ⟨cr, fi, ⟨by omega, by omega⟩, ⟨by omega, by omega⟩, ⟨by omega, by omega⟩, ?_⟩, fun z => absurd (show (0 : Int) < top + 1 by omega) z⟩⟩
              rw [hu, show top + 1 + -1 = top by omega, show x + r.2 + q.2 + bzDu σ Z b = x + (r.2 + q.2 + bzDu σ Z b) by omega]
              have R4 : bzR0 σ n (zw (zw q.1 134 (Z.1 112 b) 1) 139 9 (q.1.1 139 9 + 1)) (bw (bw t2 134 (Z.1 112 b) 1) 139 9 (q.1.1 139 9 + 1)) := bzR0_w (bzR0_w R3 (by decide) cr.1 (by decide)) (by decide) (by decide) ⟨by omega, by omega⟩
              refine nx _ _ _ _ _ (by omega) R4 (bzRf_trans (bzRf_trans (bzRf_trans F2 F3) (bzRf_w (by decide))) (bzRf_w (by decide))) (fun j j0 j1 => ?_) ?_ ?_ (fun c hc j => ?_)
              · obtain ⟨g1, g2⟩ := ch3 j j0 (by omega)
                rw [bi_ne (by decide), bi_ne (by decide), bi_ne (by decide), bi_ne (by decide), g1, g2]
                exact ⟨by rw [bi_ne (by decide), bi_nj (by omega) j0 (by omega)]; exact (ch1 j j0 j1).1, by rw [bi_nj (by omega) j0 (by omega), bi_ne (by decide)]; exact (ch1 j j0 j1).2⟩
              · rw [bi_ne (by decide), bi_ne (by decide), (ch3 top top0 (by omega)).1, bi_ne (by decide), bi_nj (by omega) top0 (by omega)]; exact t91
              · rw [bi_ne (by decide), bi_ne (by decide), (ch3 top top0 (by omega)).2, bi_nj (by omega) top0 (by omega), bi_ne (by decide)]; exact q150
              · have hc2 := hc
                simp only [List.mem_cons, List.not_mem_nil, or_false, not_or] at hc2
                rw [bi_ne (by omega), bi_ne (by omega), u3 c hc, bi_ne (by omega), bi_ne (by omega)]
                exact ut1 c hc j
            refine ⟨fun z => push (fun y => y.1 z) _ _ _ _, fun z => ⟨fun z2 => push (fun y => y.2 z2) _ _ _ _, fun z2 => ?_⟩⟩
            rw [if_pos ⟨z, z2⟩] at nx bk1
            have R4 : bzR0 σ n (zw (zw r.1 134 (Z.1 112 b) 1) 139 10 (r.1.1 139 10 + 1)) (bw (bw (bw t 150 top ((k : Int) + 1)) 134 (Z.1 112 b) 1) 139 10 (r.1.1 139 10 + 1)) := bzR0_w (bzR0_w R1 (by decide) cr.1 (by decide)) (by decide) (by decide) ⟨by omega, by omega⟩
            refine ⟨⟨by omega, by omega⟩, nx _ _ _ _ _ (by omega) R4 (bzRf_trans (bzRf_trans F1 (bzRf_w (by decide))) (bzRf_w (by decide))) (fun j j0 j1 => ?_) ?_ ?_ (fun c hc j => ?_)⟩
            · rw [bi_ne (by decide), bi_ne (by decide), bi_ne (by decide), bi_ne (by decide)]; exact ch1 j j0 j1
            · rw [bi_ne (by decide), bi_ne (by decide)]; exact t91
            · rw [bi_ne (by decide), bi_ne (by decide)]; exact q150
            · have hc2 := hc
              simp only [List.mem_cons, List.not_mem_nil, or_false, not_or] at hc2
              rw [bi_ne (by omega), bi_ne (by omega)]
              exact ut1 c hc j
          · rw [if_pos c2] at nx
            exact nx _ _ _ _ _ (by omega) R1 F1 ch1 t91 q150 ut1
    have := L (Z.1 105 a).toNat 0 s v4 v5 v6 v7 (by omega) R bzRf_refl (fun _ _ _ => ⟨rfl, rfl⟩) c9 c5 (fun _ _ _ => rfl)
    rw [show x + (bzBp σ (bzB σ F) a 0 Z).2 = x from Int.add_zero x] at this
    exact this
theorem r297 (h : bzO σ n Z) (hr : bzRn0 rk n Z) (R : bzR0 σ n Z s) (a0 : 0 ≤ a) (a1 : a < (n : Int)) (w : Z.1 140 a ≠ 0) (pot : 0 ≤ Z.1 139 9 ∧ 0 ≤ Z.1 139 10 ∧ Z.1 139 9 + Z.1 139 10 + bzPh Z n ≤ 20000) (k : ∀ t, bzR0 σ n (bzB σ 17 Z a).1 t → bzRf s t → (∀ b, b ∉ [134, 139, 149, 150] → ∀ j, bi t b j = bi s b j) → f (bzB σ 17 Z a).2 t) : bWp (d + 2) 297 [.ref 12, .int (bn a)] s (bRn f) := by
  have n120 := h.2.1.1
  have rka := (hr a a0 a1).1
  refine ⟨rfl, fun A hA => sq297_0 (bWp_mono _) hA ⟨by omega, by omega⟩ ?_⟩
  refine r297L (d := d) (rk := rk) (v1 := .int (bn a)) hA rfl 17 Z a 0 0 _ _ _ _ _ h hr (bzR0_n (bzR0_n R (by decide)) (by decide)) a0 a1 w (by omega) (Int.le_refl _) (by omega) pot (Int.le_refl _) (by omega) (by rw [bi_ne (by decide), bi_eq ⟨by omega, by omega⟩]) (bi_eq (by decide)) fun t v4 v5 v6 v7 R1 F1 _ t9 t5 u1 => ?_
  have bq := (bzB_e (rk := rk) 17 Z a ⟨h.2.1, h.2.2.1⟩ hr a0 a1 w).1
  obtain ⟨b1, b2, b3, b4, b5, b6, b7⟩ := bq
  have bn7 := b7 n (by omega)
  have phq := bzPh_b (Z := (bzB σ 17 Z a).1) (m := n)
  have kk := k t R1 (bzRf_trans (bzRf_trans (bzRf_w (by decide)) (bzRf_w (by decide))) F1) (fun b hb j => by
    have hb2 := hb
    simp only [List.mem_cons, List.not_mem_nil, or_false, not_or] at hb2
    rw [u1 b hb, bi_ne (by omega), bi_ne (by omega)])
  generalize bzB σ 17 Z a = q at *
  have e105 : bi t 105 a = Z.1 105 a := by rw [(R1.1.2.2.2 a a0 a1).1 105 (by decide)]; exact b1 105 (by decide) a
  rw [Int.zero_add]
  refine sq297_14 (bWp_mono _) hA ⟨by omega, by omega⟩ (by decide) ⟨fun z => absurd z (by decide), fun _ => ?_⟩
  rw [t9, t5, e105]
  refine ⟨by decide, ⟨a0, by omega⟩, fun z => absurd z (Int.lt_irrefl _), fun _ => ⟨fun z => absurd z (by decide), fun _ => ⟨by decide, ?_⟩⟩⟩
  exact sq297_14 (bWp_mono _) hA ⟨by omega, by omega⟩ (by decide) ⟨fun _ => bRn_i ⟨by omega, by omega⟩ kk, fun z => absurd (by decide) z⟩
end

/-! RULES' EVALUATION, 20: a statement done by the reference against the class's step -/
section
variable {d : Nat} {s t u r r' : bSt} {g : Int → bSt → Prop} {f x y k n m p v w o j l a i : Int}
theorem w218s (I : bEvI u) (B : bEvB u r) (R : bEvR u r) (hd : 0 < bi u 7 13) (hft : bEvTp u = f) (q : bi u 41 f < bi u 34 f)
    (hE : bi u 35 (f * 12 + bi u 41 f) = 1 → bi u 40 (bi u 38 (f * 12 + bi u 41 f)) = 0 → g (bi u 38 (f * 12 + bi u 41 f)) r)
    (hP : ¬ (bi u 35 (f * 12 + bi u 41 f) = 1 ∧ bi u 40 (bi u 38 (f * 12 + bi u 41 f)) = 0) → bEvWh u f (f * 12 + bi u 41 f) = -1 → ∀ r', bRM r r' → bEvR (bEvPf (bw (bw u 7 14 (-1)) 41 f (bi u 41 f + 1)) f (f * 12 + bi u 41 f)) r' → g (-1) r')
    (hF : ¬ (bi u 35 (f * 12 + bi u 41 f) = 1 ∧ bi u 40 (bi u 38 (f * 12 + bi u 41 f)) = 0) → bEvWh u f (f * 12 + bi u 41 f) ≠ -1 → ∀ c, bRg c → g (-1) (bw (bw (bw r 65 f 3) 67 f (bEvWh u f (f * 12 + bi u 41 f))) 68 f c)) : bWp (d + 2) 218 [.ref 12, .int (bn f)] r (bRn g) := by
  obtain ⟨hf, m1⟩ := bEvI_tp I hd
  rw [hft] at hf m1
  have I3 := I.2.2.1
  obtain ⟨⟨z0, z1⟩, zs⟩ := I.1 f hf.1 hf.2
  obtain ⟨⟨p0, p1⟩, _⟩ := I3 f hf.1 hf.2
  have st := zs _ p0 q
  have e66 : bi r 66 f = bi u 41 f := ((R.1 f hf.1 hf.2).2 (by rw [m1]; decide)).1
  obtain ⟨b1, b2, b3, b4⟩ := (B f hf.1 hf.2).2 _ p0 q
  have ok := I.2.1
  have hl := bEvI_hl I hf.1 hf.2 q
  have R41 : ∀ v, bRg v → bEvR (bw (bw u 7 14 (-1)) 41 f v) (bw r 66 f v) := fun v hv => bEvR_41 (bEvR_14 R) hf.1 hv
  clear I B zs
  generalize hp : bi u 41 f = p at *
  generalize ha : f * 12 + p = a at *
  generalize eK : bi u 35 a = K at *
  generalize eN : bi u 36 a = N at *
  generalize eM : bi u 37 a = M at *
  generalize eO : bi u 38 a = O at *
  have V := fun w => n218v (m := if K = 1 then 8 * O + M else if K = 0 then 8 * f else 8 * f + M) (vm := if K = 1 then bi u 39 (O * 8 + M) else bi u 39 (f * 8 + M)) hf m1 R ok st eK eN eM eO rfl rfl rfl w
  have Wf := fun w => n218w (m := if K = 1 then 8 * O + M else if K = 0 then 8 * f else 8 * f + M) (vm := if K = 1 then bi u 39 (O * 8 + M) else bi u 39 (f * 8 + M)) hf m1 R ok st eK eN eM eO rfl rfl rfl w
  have mO : K = 1 → bi r 65 O = bi u 40 O := fun w => (R.1 O (st.2.2.1 w).1 (st.2.2.1 w).2).1
  have o40 : K = 1 → 0 ≤ bi u 40 O ∧ bi u 40 O ≤ 2 := fun w => (I3 O (st.2.2.1 w).1 (st.2.2.1 w).2).2
  have m0 : K = 1 → (if K = 1 then 8 * O + M else if K = 0 then 8 * f else 8 * f + M) = 8 * O + M := fun w => if_pos w
  have m2 : K = 0 → (if K = 1 then 8 * O + M else if K = 0 then 8 * f else 8 * f + M) = 8 * f := fun w => by rw [if_neg (by omega), if_pos w]
  have m3 : K ≠ 0 → K ≠ 1 → (if K = 1 then 8 * O + M else if K = 0 then 8 * f else 8 * f + M) = 8 * f + M := fun w w1 => by rw [if_neg w1, if_neg w]
  have v1 : K = 1 → (if K = 1 then bi u 39 (O * 8 + M) else bi u 39 (f * 8 + M)) = bi u 39 (O * 8 + M) := fun w => if_pos w
  have v2 : K ≠ 1 → (if K = 1 then bi u 39 (O * 8 + M) else bi u 39 (f * 8 + M)) = bi u 39 (f * 8 + M) := fun w => if_neg w
  generalize hm : (if K = 1 then 8 * O + M else if K = 0 then 8 * f else 8 * f + M) = m at *
  generalize hvm : (if K = 1 then bi u 39 (O * 8 + M) else bi u 39 (f * 8 + M)) = vm at *
  clear hm hvm I3
  have hM0 : K = 0 → 0 ≤ M ∧ M < 1000 := fun w => by
    have := st.2.2.2.2.1 (fun t => by rcases t with t | t | t | t <;> omega)
    rw [if_pos w] at this
    omega
  have nlf : (K = 1 → bi r 65 O = 2) → ¬ (K = 1 ∧ bi u 40 O = 0) := fun w t => by
    have := w t.1
    rw [mO t.1, t.2] at this
    exact absurd this (by decide)
  have hL0 := ok.2.1
  have pr : p < 12 := Int.lt_of_lt_of_le q z1
  have bp : bRg (p + 1) := by
    clear V Wf
    exact ⟨by omega, by omega⟩
  refine w218 (a := 4 * (12 * f + p)) (K := K) (N := N) (M := M) (O := O) (n := 8 * f + N) (m := m) hf (by rw [e66]; exact ⟨p0, pr⟩) (by rw [e66]) b1 b2 b3 b4 st rfl m0 m2 m3
    (fun w z => hE w (by rw [← mO w]; exact z)) (fun w z => ?_) (fun w z0 z1 z2 => ?_) (fun w => ?_) (fun w x hx => ?_) (fun w U D F4 x hx => ?_)
  · have e1 : bi u 40 O = 1 := by rw [← mO w]; exact z
    have w5 : bEvWh u f a = 5 := by unfold bEvWh; rw [eK, eO, if_pos w, if_pos e1]
    have := hF (fun t => by rw [t.2] at e1; exact absurd e1 (by decide)) (by rw [w5]; decide) O (eO ▸ bi_rg _ _ _)
    rwa [w5] at this
  · exfalso
    have := o40 w
    rw [mO w] at z0 z1 z2
    clear V Wf
    omega
  · obtain ⟨⟨Tn, on⟩, Tm, ll⟩ := Wf w
    refine ⟨fun t => ⟨(ll t).1.1, Int.lt_of_lt_of_le (ll t).1.2 hL0.2⟩, ?_⟩
    clear V Wf Tm ll
    unfold bThg at Tn
    rcases Tn with ⟨_, e⟩ | ⟨_, e, _⟩ | ⟨_, e, _⟩ <;> rw [e] <;> decide
  · obtain ⟨W1, W2⟩ := V w
    have fin : bEvWh u f a = x → x ≠ -1 → g (-1) (bw (bw (bw r 65 f 3) 67 f x) 68 f (-1)) := fun e x1 => by
      have := hF (nlf w) (by rw [e]; exact x1) (-1) (by decide)
      rwa [e] at this
    rcases hx with ⟨uu, e⟩ | ⟨uu, ⟨dd, e⟩ | ⟨dd, ⟨k4, mm, e⟩ | ⟨k4, mm, e8, e⟩⟩⟩
    · exact fin (by rw [W1 uu, e]) (by rw [e]; decide)
    · exact fin (by rw [(W2 uu).1 dd, e]) (by rw [e]; decide)
    · exact fin (by rw [(((W2 uu).2 dd).1 k4).2.2.1 mm, e]) (by rw [e]; decide)
    · exact fin (by rw [(((W2 uu).2 dd).1 k4).2.2.2 mm e8, e]) (by rw [e]; decide)
  · obtain ⟨W1, W2⟩ := V w
    obtain ⟨⟨Tn, on⟩, Tm, ll⟩ := Wf w
    obtain ⟨W4, W5, W6, W7⟩ := (W2 U).2 D
    have G := hP (nlf w) (W5 F4)
    have o3 := ok.2.2
    have h16 : K ≠ 6 → x = 1 := fun z => by
      rcases hx with ⟨h, _⟩ | ⟨_, h⟩
      · exact absurd h z
      · exact h
    clear V Wf W1 W2 W5 hP hF hE U D nlf o40 mO
    generalize hs : bw (bw u 7 14 (-1)) 41 f (p + 1) = u1 at G
    have ne : ∀ b, b ≠ 7 → b ≠ 41 → ∀ j, bi u1 b j = bi u b j := fun b w1 w2 j => by rw [← hs, bi_ne w2, bi_ne w1]
    have e12 : bi u1 7 12 = bi u 7 12 := by rw [← hs, bi_ne (by decide), bi_nj (by decide) (by decide) (by decide)]
    have e41 : bi u1 41 f = p + 1 := by rw [← hs]; exact bi_eq bp
    have R1 : bEvR u1 (bw r 66 f (p + 1)) := by rw [← hs]; exact R41 _ bp
    have n35 : bi u1 35 a = K := by rw [ne 35 (by decide) (by decide), eK]
    have n36 : bi u1 36 a = N := by rw [ne 36 (by decide) (by decide), eN]
    have n37 : bi u1 37 a = M := by rw [ne 37 (by decide) (by decide), eM]
    have n38 : bi u1 38 a = O := by rw [ne 38 (by decide) (by decide), eO]
    have nN : bEvN u1 f a = bi u 39 (f * 8 + N) := by unfold bEvN; rw [n36, ne 39 (by decide) (by decide)]
    have nM : bEvM u1 f a = bi u 39 (f * 8 + M) := by unfold bEvM; rw [n37, ne 39 (by decide) (by decide)]
    have add : K = 2 → (bi r 61 (8 * f + N) = bi u 39 (f * 8 + N) ∧ 0 ≤ bi u 39 (f * 8 + N) ∧ bi u 39 (f * 8 + N) < 1000) ∧ bi r 61 m = vm ∧ 0 ≤ vm ∧ vm < 1000 := fun k => by
      obtain ⟨kn, km⟩ := W6 k
      have t := (Tm (by rw [k]; decide)).1
      unfold bThg at Tn t
      clear W4 W7 ll F4 Tm
      omega
    have psh : K = 4 → ((0 ≤ bi r 61 (8 * f + N) ∧ bi r 61 (8 * f + N) < bi u 7 12) ∧ bi r 61 (8 * f + N) = bi u 39 (f * 8 + N) - 1000 ∧ bi r 63 (bi r 61 (8 * f + N)) = bi u 43 (bi u 39 (f * 8 + N) - 1000) ∧ 0 ≤ bi u 43 (bi u 39 (f * 8 + N) - 1000) ∧ bi u 43 (bi u 39 (f * 8 + N) - 1000) < 8) ∧ bi r 61 m = vm := fun k => by
      obtain ⟨kn, km, _, _⟩ := W4 k
      obtain ⟨f1, f2⟩ := F4 k
      obtain ⟨l1, l2, l3, l4, l5, l6⟩ := ll kn
      have t := (Tm (by rw [k]; decide)).1
      rw [l4] at f2
      refine ⟨⟨l1, l2, l4, l5, Int.lt_iff_le_and_ne.2 ⟨l6, f2⟩⟩, ?_⟩
      unfold bThg at t
      clear W4 W6 W7 ll F4 Tm add
      omega
    have whn : K = 6 → bi r 61 (8 * f + N) = bi u 39 (f * 8 + N) := fun k => by
      have kn := W7 k
      unfold bThg at Tn
      clear W4 W6 W7 ll F4 Tm add psh
      omega
    have W66 := W6
    rw [e66]
    clear W4 W7 ll F4 Tn on
    refine ⟨fun k => ?_, fun k => ?_, fun k => ?_, fun k => ?_, fun k => ?_, fun k => ?_, fun k => ?_, fun k => ?_, fun k => ?_⟩
    · obtain ⟨⟨a1, a2⟩, a3, a4⟩ := add k
      rw [a1, a3]; exact ⟨a2, a4⟩
    · rw [R.2.1]
      exact ⟨hL0.1, hl⟩
    · obtain ⟨⟨a1, a2, a3, a4⟩, a5⟩ := psh k
      rw [a3]
      exact ⟨⟨a1.1, Int.lt_of_lt_of_le a1.2 hL0.2⟩, a4⟩
    · rw [h16 (by rw [k]; decide)]
      exact G _ (bRM_w (bRM_w (bRM_w bRM_refl (by decide)) (by decide)) (by decide)) (p218_0 R1 hf st.1 (n35.trans k) n36 n37 (hM0 k))
    · have k6 : K ≠ 6 := by rcases k with k | k <;> rw [k] <;> decide
      have k0 : K ≠ 0 := by rcases k with k | k <;> rw [k] <;> decide
      rw [h16 k6]
      obtain ⟨t, t1, t2⟩ := Tm k0
      refine G _ (bRM_w (bRM_w (bRM_w bRM_refl (by decide)) (by decide)) (by decide)) ?_
      have ev : bEvPf u1 f a = bw u1 39 (f * 8 + N) vm := by
        unfold bEvPf
        rw [n35, n36, n37, n38, nM]
        rcases k with k | k
        · rw [if_neg (by rw [k]; decide), if_pos k, v1 k, ne 39 (by decide) (by decide)]
        · rw [if_neg (by rw [k]; decide), if_neg (by rw [k]; decide), if_neg (by rw [k]; decide), if_neg (by rw [k]; decide), if_neg (by rw [k]; decide), if_pos k, v2 (by rw [k]; decide)]
      rw [ev]
      exact bEvR_gv R1 hf st.1 ⟨by clear add psh whn; omega, by clear add psh whn; omega⟩ (bi_rg _ _ _) (bi_rg _ _ _) t
    · rw [h16 (by rw [k]; decide)]
      obtain ⟨⟨a1, a2⟩, a3, a4⟩ := add k
      rw [a1, a3]
      exact G _ (bRM_w (bRM_w bRM_refl (by decide)) (by decide)) (p218_2 R1 hf st.1 (n35.trans k) n36 nN (nM.trans (v2 (by rw [k]; decide)).symm) a2 a4 (by rw [bi_ne (by decide)]; exact (W66 k).1))
    · rw [h16 (by rw [k]; decide), R.2.1]
      exact G _ (bRM_f (bRM_w (bRM_w (bRM_w (bRM_w (bRM_w bRM_refl (by decide)) (by decide)) (by decide)) (by decide)) (by decide))) (p218_3 R1 hf st.1 (n35.trans k) n36 e12 ⟨hL0.1, hl⟩)
    · rw [h16 (by rw [k]; decide)]
      obtain ⟨⟨a1, a2, a3, a4⟩, a5⟩ := psh k
      rw [a3, a5]
      refine G _ (bRM_w (bRM_w (bRM_w bRM_refl (by decide)) (by decide)) (by decide)) (p218_4 R1 (n35.trans k) (by rw [nN]; exact a2.symm) (nM.trans (v2 (by rw [k]; decide)).symm) (by rw [ne 43 (by decide) (by decide), a2]) a4 (by rw [e12]; exact a1) (by rw [e12]; exact hL0.2) (fun q q0 q1 => by rw [ne 43 (by decide) (by decide)]; exact o3 q q0 (by rw [← e12]; exact q1)) (a5 ▸ bi_rg _ _ _))
    · refine G _ (bRM_w bRM_refl (by decide)) (p218_6 R1 hf (n35.trans k) nN e41 ⟨p0, pr⟩ ?_)
      rw [whn k] at hx
      clear add psh whn
      rcases hx with ⟨_, h1, h2⟩ | ⟨h1, h2⟩
      · exact Or.inl ⟨h1, h2⟩
      · exact Or.inr ⟨fun z => h1 ⟨k, z⟩, h2⟩
end

/-! BUILD, 34: the class: those that end now, as a loop -/
section
variable {d : Nat} {σ s t r u : bSt} {f : Int → bSt → Prop} {fa : Nat → bSt → Prop} {fv : bSt → Prop} {a b g i j k x y v w p : Int} {c e e0 q m n z : Nat} {K M : bKy} {L N F : List bKy} {Z Y X W : bZs} {S : List Nat} {T U : Int → Bool}
theorem w52 (I : bzI σ n Z) (R : bzCC σ n Z s) (g0 : bRg g) (h : ∀ t, bzCC σ n (bzEnds σ g n Z) t → (∀ b, 0 ≤ b → b < (n : Int) → bi t (bAi b) 13 = bi s (bAi b) 13) → fv t) : bWp (d + 7) 52 [.ref 5, .int (bn g)] s (bRv fv) := by
  have n120 := I.1.2.1.1
  refine ⟨rfl, fun A hA => sq52_0 (bWp_mono _) hA g0 ?_⟩
  have Lp : ∀ (m k : Nat) (t : bSt) (v3 : Value), k + m = n → bzCC σ n (bzEnds σ g k Z) t → (∀ b, 0 ≤ b → b < (n : Int) → bi t (bAi b) 13 = bi s (bAi b) 13) → A (2, [.ref 5, .int (bn g), .int (bn k), v3], [], t) := by
    intro m
    induction m with
    | zero =>
      intro k t v2 hk Rt H13
      have ek : k = n := by omega
      subst ek
      exact sq52_2 (bWp_mono _) hA g0 ⟨by omega, by omega⟩ ⟨fun y => absurd y (by rw [Rt.2.1.1.1]; omega), fun _ => h t Rt H13⟩
    | succ m ih =>
      intro k t v2 hk Rt H13
      have k1 : (k : Int) < (n : Int) := by omega
      have Ik := bzI_ends (g := g) I k (by omega)
      have nx := fun t v2 => ih (k + 1) t v2 (by omega)
      have uC : bzEnds σ g (k + 1) Z = if bzG (bzEnds σ g k Z) k ∧ ((bzEnds σ g k Z).1 145 k = (bzEnds σ g k Z).1 305 0 ∨ (bzEnds σ g k Z).1 146 k = (bzEnds σ g k Z).1 305 0) then bzFin σ g (bzEnds σ g k Z) k else bzEnds σ g k Z := rfl
      rw [show ((k + 1 : Nat) : Int) = (k : Int) + 1 by omega, uC] at nx
      generalize bzEnds σ g k Z = W at *
      obtain ⟨As, Ad⟩ := Rt.2.2.2 k (by omega) k1
      obtain ⟨hN, hF⟩ := bzN_l Ik
      have k2 : (k : Int) ≤ 120 := by omega
      have j := Ik.2.2.2.1 k (by omega) k1
      have nw := Ik.2.2.2.2.2.1
      have nbz := bzNb_b (n := n) (Z := W)
      have e59 : bi t 5 9 = W.1 305 0 := Rt.2.1.2.2 (305, 9) (by decide)
      have rk : bRg ((k : Int) + 1) := ⟨by omega, by omega⟩
      refine sq52_2 (bWp_mono _) hA g0 ⟨by omega, by omega⟩ ⟨fun _ => w89r As (by omega) (by omega) ⟨bAi_0, ?_⟩, fun y => absurd (by rw [Rt.2.1.1.1]; omega) y⟩
      rw [e59, Ad.2.1.1, Ad.2.1.2.1, Ad.2.1.2.2, bAi_n]
      have fe := fun hg => bzFin_fe (g := g) Ik hg (by omega : 0 ≤ (k : Int)) k1
      by_cases hg : bzG W k
      · by_cases h7 : W.1 147 k = 0
        · -- a run
          rw [if_neg (fun y => y.2 h7), if_pos ⟨hg, h7⟩, if_pos ⟨hg, h7⟩]
          have nv : ∀ x, -1 ≤ x → (bzNv x = W.1 305 0 ↔ x = W.1 305 0) := fun x hx => by
            unfold bzNv
            split <;> omega
          rw [nv _ j.2.2.2.2.2.1.1, nv _ j.2.2.2.2.2.2.1.1]
          have run : ∀ x, (x = if W.1 145 k = W.1 305 0 then 1 else 0) → (W.1 145 k = W.1 305 0 ∨ W.1 146 k = W.1 305 0) → A (48, [.ref 5, .int (bn g), .int (bn k), .ref (bAi k)], [.int (bn x), .ref (bAi k), .ref 5], t) := fun x hx hc => by
            rw [if_pos ⟨hg, hc⟩] at nx
            have x01 : x = 0 ∨ x = 1 := by rw [hx]; split <;> omega
            have F := fe hg
            have uF : bzFin σ g W k = if bzV σ W k = -1 then bzFl g (bzQ σ W k (if x = 1 then W.1 103 k else -1)) k else bzRn σ (bzQ σ W k (if x = 1 then W.1 103 k else -1)) k x (bzX σ W k) (bzK σ W k) := by
              unfold bzFin
              rw [if_neg (fun y => y h7)]
              by_cases c1 : W.1 145 k = W.1 305 0
              · rw [if_pos c1] at hx
                rw [if_pos c1, hx, if_pos rfl]
              · rw [if_neg c1] at hx
                rw [if_neg c1, hx, if_neg (show ¬ (0 : Int) = 1 by decide)]
            rw [uF] at F nx
            have q305 : ∀ v, (bzQ σ W k v).1 305 0 = W.1 305 0 ∧ (bzQ σ W k v).1 395 0 = W.1 395 0 ∧ (bzQ σ W k v).1 306 0 = W.1 306 0 ∧ (bzQ σ W k v).2 = W.2 := fun v => by
              unfold bzQ
              rw [zw_a (by decide), zw_a (by decide), zw_a (by decide)]
              exact ⟨bzLv_e.1 305 (by decide) (by decide) (by decide) 0, bzLv_e.1 395 (by decide) (by decide) (by decide) 0, bzLv_e.1 306 (by decide) (by decide) (by decide) 0, bzLv_e.2⟩
            refine sq52_48 (bWp_mono _) hA g0 ⟨by omega, by omega⟩ (by omega) (w53 (d := d) Ik Rt hg (by omega) k1 x01 (fun hv u t2 F1 E G2 C2 => ⟨bAi_0, ?_⟩) fun hv u t2 r F1 E F2 G2 C2 => ⟨bAi_0, ?_⟩)
            · -- it fails
              rw [if_pos hv] at F nx
              have e10 : bi t2 (bAi k) 10 = 5 := by rw [E.2.2.1 10 (by decide), if_pos rfl]
              obtain ⟨q1, q2, q3, q4⟩ := q305 (if x = 1 then W.1 103 k else -1)
              generalize bzQ σ W k (if x = 1 then W.1 103 k else -1) = V at *
              have e58 : bi t2 5 8 = W.1 395 0 := by rw [G2.2.2 (395, 8) (by decide)]; exact q2
              have e510 : bi t2 5 10 = W.1 306 0 := by rw [G2.2.2 (306, 10) (by decide)]; exact q3
              have s01 := Ik.2.2.2.2.2.2.1
              have o1 : bOr (W.1 306 0) 1 = 1 := by rcases s01 with w | w <;> rw [w] <;> decide
              have o0 : bOr (W.1 306 0) 0 = W.1 306 0 := by rcases s01 with w | w <;> rw [w] <;> decide
              have E142 : (bzFl g V k).1 142 k = 5 ∧ (bzFl g V k).1 144 k = W.1 305 0 ∧ (bzFl g V k).2 = V.2 := by
                have fl := bzFl_e (g := g) (Z := V) (a := k)
                refine ⟨?_, ?_, fl.2.1⟩
                · rw [fl.1 142 (by decide)]; unfold bzE; rw [zw_a (by decide), zw_e]
                · rw [fl.1 144 (by decide)]; unfold bzE; rw [zw_e]; exact q1
              -- the end, with the two numbers told
              have fin : ∀ (r : bSt), bzK0 t2 r → bzCG σ n (bzFl g V k) r → bzCh r W.2.1 W.2.2.1 → bRg ((k : Int) + 1) ∧ A (2, [.ref 5, .int (bn g), .int (bn ((k : Int) + 1)), .ref (bAi k)], [], r) := fun r F2 Gr Cr => by
                refine (fun q => ⟨rk, nx r _ q.1 fun b b0 b1 => (q.2 b b0 b1).trans (H13 b b0 b1)⟩) (bzCC_e (r := r) Ik Rt hg (by omega) k1 F (v := W.1 305 0) E142.2.1 F1 (by rw [E142.1]; exact E) F2 Gr ?_)
                rw [E142.2.2, q4]; exact Cr
              have GE : bzCG σ n (bzE V k 5) t2 := bzCG_z G2 (zU_trans (zU_w (S := [142, 144]) (by decide)) (zU_w (by decide))) (by decide)
              have V395 : V.1 395 0 = W.1 395 0 := q2
              have fl : bzFl g V k = if g = 0 then zw (if V.1 395 0 = -1 then zw (bzE V k 5) 395 0 k else bzE V k 5) 306 0 1 else if V.1 395 0 = -1 then zw (bzE V k 5) 395 0 k else bzE V k 5 := rfl
              rw [fl, V395] at fin
              have K1 : ∀ s v w, bzK0 s (bw (bw s 5 8 v) 5 10 w) := fun s v w => bzKf_trans (bzKf_w (Or.inl (bzTb_s (by decide)))) (bzKf_w (Or.inl (bzTb_s (by decide))))
              have C3 : ∀ v w, bzCh (bw (bw t2 5 8 v) 5 10 w) W.2.1 W.2.2.1 := fun v w => bzCh_w (bzCh_w C2 (by decide) (by decide) (by decide) hN hF) (by decide) (by decide) (by decide) hN hF
              rw [e10, e58, e510, o1, o0]
              have s2 : ∀ v, bw (bw t2 5 8 v) 5 10 (W.1 306 0) = bw t2 5 8 v := fun v => by
                have : bi (bw t2 5 8 v) 5 10 = W.1 306 0 := by
                  rw [← e510]
                  show (if 5 = 5 ∧ (10 : Int).toNat = (8 : Int).toNat then (bn v) else t2.1 5 (10 : Int).toNat).toInt = _
                  rw [if_neg (by decide)]
                  rfl
                rw [← this]; exact bw_id _
              have s1 : bw t2 5 8 (W.1 395 0) = t2 := by rw [← e58]; exact bw_id _
              refine ⟨fun _ => ⟨fun z => ⟨fun zg => ⟨Or.inr rfl, fin _ (K1 _ _ _) ?_ (C3 _ _)⟩, fun zg => ⟨s01, fin _ (K1 _ _ _) ?_ (C3 _ _)⟩⟩, fun z => ⟨fun zg => ⟨Or.inr rfl, fin _ (K1 _ _ _) ?_ (C3 _ _)⟩, fun zg => ⟨s01, fin _ (K1 _ _ _) ?_ (C3 _ _)⟩⟩⟩, fun y => absurd rfl y⟩
              · rw [if_pos zg, if_pos z]
                exact bzCG_q (bzCG_q GE (o := 8) (by decide) ⟨by omega, by omega⟩) (o := 10) (by decide) (by decide)
              · rw [if_neg zg, if_pos z, s2]
                exact bzCG_q GE (o := 8) (by decide) ⟨by omega, by omega⟩
              · rw [if_pos zg, if_neg z, s1]
                exact bzCG_q GE (o := 10) (by decide) (by decide)
              · rw [if_neg zg, if_neg z, s2, s1]
                exact GE
            · -- it gives a content
              rw [if_neg hv] at F nx
              have e10 : bi r (bAi k) 10 = if x = 1 then 3 else 4 := by
                rw [(bzK0_a F2 k2).1 _ List.mem_cons_self, E.2.2.1 10 (by decide), if_pos rfl]
              rw [e10]
              refine ⟨fun y => by split at y <;> omega, fun _ => (fun q : _ ∧ (∀ b : Int, 0 ≤ b → b < (n : Int) → bi r (bAi b) 13 = bi t (bAi b) 13) => ⟨rk, nx r _ q.1 fun b b0 b1 => (q.2 b b0 b1).trans (H13 b b0 b1)⟩) ?_⟩
              have v4 : (bzRn σ (bzQ σ W k (if x = 1 then W.1 103 k else -1)) k x (bzX σ W k) (bzK σ W k)).1 142 k = (if x = 1 then 3 else 4) ∧ (bzRn σ (bzQ σ W k (if x = 1 then W.1 103 k else -1)) k x (bzX σ W k) (bzK σ W k)).1 144 k = W.1 305 0 := by
                obtain ⟨q1, _, _, _⟩ := q305 (if x = 1 then W.1 103 k else -1)
                generalize bzQ σ W k (if x = 1 then W.1 103 k else -1) = V at *
                have dn : ∀ st, (bzDn V k st (bzK σ W k)).1 142 k = st ∧ (bzDn V k st (bzK σ W k)).1 144 k = W.1 305 0 := fun st => by
                  refine ⟨(bzDn_e (Z := V) (a := k) (v := st) (K := bzK σ W k)).2.2.1, ?_⟩
                  have e0 : (zw (bzE V k st) 112 k (bKv (bzK σ W k))).1 144 k = (bzE V k st).1 144 k := zw_a (by decide)
                  have e : (bzDn V k st (bzK σ W k)).1 144 k = (bzE V k st).1 144 k := e0
                  rw [e]
                  unfold bzE
                  rw [zw_e]
                  exact q1
                have pf : ∀ (X : bZs) c j, (bzPf X (bzK σ W k)).1 c j = X.1 c j := fun _ _ _ => rfl
                unfold bzRn
                by_cases c1 : bi σ 12 87 ≠ 0 ∧ bzX σ W k = 0
                · rw [if_pos c1]
                  by_cases c2 : x = 1
                  · rw [if_pos c2, if_pos c2, zw_a (by decide), zw_a (by decide), zw_a (by decide), zw_a (by decide), pf, pf]; exact dn 3
                  · rw [if_neg c2, if_neg c2, zw_a (by decide), zw_a (by decide), pf, pf]; exact dn 4
                · rw [if_neg c1]
                  by_cases c2 : x = 1
                  · rw [if_pos c2, if_pos c2, zw_a (by decide), zw_a (by decide)]; exact dn 3
                  · rw [if_neg c2, if_neg c2]; exact dn 4
              exact bzCC_e Ik Rt hg (by omega) k1 F (v := W.1 305 0) v4.2 F1 (by rw [v4.1]; exact E) F2 G2 C2
          refine ⟨fun y => absurd y (by omega), fun _ => ⟨fun y => ⟨fun _ => run 1 (by rw [if_pos y]) (Or.inl y), fun z => absurd y z⟩, fun y => ⟨fun y2 => ⟨fun z => absurd z y, fun _ => run 0 (by rw [if_neg y]) (Or.inr y2)⟩, fun y2 => ⟨rk, ?_⟩⟩⟩⟩
          rw [if_neg (fun z => by rcases z.2 with w | w; exact y w; exact y2 w)] at nx
          exact nx t _ Rt H13
        · -- a fetching
          rw [if_pos ⟨hg, h7⟩, if_neg (fun y => h7 y.2), if_neg (fun y => h7 y.2)]
          have j4 := j.2.2.2.1 h7
          refine ⟨fun y => ?_, fun y => ⟨fun z => absurd z (by omega), fun _ => ⟨fun z => absurd z (by omega), fun _ => ⟨rk, ?_⟩⟩⟩⟩
          · rw [if_pos ⟨hg, Or.inr y⟩] at nx
            have F := fe hg
            have uF : bzFin σ g W k = bzDn W k 2 (bzK σ W k) := by unfold bzFin; rw [if_pos h7]
            rw [uF] at F nx
            have Tn := Ad.2.2.2.2.1 (Ad.2.2.2.2.2.1 hg.2.1)
            have x01 := bzX_01 (σ := σ) (Z := W) (a := k)
            have l := bzKl_z (σ := σ) Ik.1.1.1 Ik.1.2.1 (by omega : 0 ≤ (k : Int)) k1
            refine w13 (d := d + 3) (by decide) (by decide) ⟨by omega, by omega⟩ (fun _ => by rw [Tn.2.2.2]; exact x01) fun t2 E => ?_
            have n3 : ∀ y ∈ [bNe k, bNe k + 18, bNe k + 19], ∀ j, bi t2 y j = bi t y j := fun y hy j => E.2.1 y (by
              unfold bAi bNe at *
              simp only [List.mem_cons, List.not_mem_nil, or_false] at hy
              omega) (by
              unfold bNe bKe at *
              simp only [List.mem_cons, List.not_mem_nil, or_false, not_or] at hy ⊢
              omega) j
            have K3 : bzEk t2 (bNe k) (bzK σ W k) := bzEk_m Tn.2.1 (fun j _ => n3 _ (by simp) j) (fun j _ _ => n3 _ (by simp) j) (fun j _ _ => n3 _ (by simp) j) ⟨l.1, l.2.1⟩
            refine w17n (d := d + 2) (bzEd_ch E k2 Rt.2.2.1 hN hF) hN hF Ik.2.2.2.2.1.1.1 (bNe_4 k) (bNe_lt k2) K3 l (by rw [n3 _ (by simp), Tn.2.2.2]; exact x01) fun t4 B4 C4 => (fun q : _ ∧ (∀ b : Int, 0 ≤ b → b < (n : Int) → bi t4 (bAi b) 13 = bi t (bAi b) 13) => ⟨rk, nx t4 _ q.1 fun b b0 b1 => (q.2 b b0 b1).trans (H13 b b0 b1)⟩) ?_
            obtain ⟨d1, _, d3, _, _, d6, d7⟩ := bzDn_e (Z := W) (a := k) (v := 2) (K := bzK σ W k)
            refine bzCC_e Ik Rt hg (by omega) k1 F (v := W.1 305 0) ?_ bzKf_refl (by rw [d3]; exact E) (bzKf_cf B4) (bzCf_cg B4 (bzCG_z (bzEd_cg E Rt.2.1) d1 (by decide))) (by rw [d6, d7]; exact C4)
            have e0 : (zw (bzE W k 2) 112 k (bKv (bzK σ W k))).1 144 k = (bzE W k 2).1 144 k := zw_a (by decide)
            have e : (bzDn W k 2 (bzK σ W k)).1 144 k = (bzE W k 2).1 144 k := e0
            rw [e]
            unfold bzE
            exact zw_e
          · rw [if_neg (fun z => by rcases z.2 with w | w; omega; exact y w)] at nx
            exact nx t _ Rt H13
      · rw [if_neg (fun y => hg y.1), if_neg (fun y => hg y.1), if_neg (fun y => hg y.1)]
        rw [if_neg (fun y => hg y.1)] at nx
        exact ⟨fun y => absurd y (by omega), fun _ => ⟨fun y => absurd y (by omega), fun _ => ⟨fun y => absurd y (by omega), fun _ => ⟨rk, nx t _ Rt H13⟩⟩⟩⟩
  exact Lp n 0 s _ (by omega) R fun _ _ _ => rfl
end

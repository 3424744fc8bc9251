/-! THE PLAN, 9: the reference's error of a configured target, as a whole -/
def bLkK : List Nat := [60, 61, 62, 63, 64, 65, 66, 67, 68, 69, 96, 97, 98]
/-- what is known behind: nothing of other targets has changed; its cause, its number and version -/
def bEr1 (σ : bSt) (x v : Int) (s : bSt) : Prop := s.2 = σ.2 ∧ bUn bLkK [7] σ s ∧ (∀ a ∈ [96, 97, 98], ∀ y, 0 ≤ y → y ≠ x → bi s a y = bi σ a y) ∧ bi s 96 x = (if v % 8 = 6 then v / 8 else bi σ 96 x) ∧ (v ≠ 1 → v ≠ 2 → v ≠ 3 → bi s 97 x = bNu σ (x / 256) (x % 256) ∧ bi s 98 x = bVe σ (x / 256) (x % 256))
section
variable {d : Nat} {σ s t u e r r' : bSt} {f : Int → bSt → Prop} {fv : bSt → Prop} {F : Int → Int} {x y k n m p v w o j l a i t c q : Int}
theorem bLk_pag (h : bUn bLkK [7] σ s) : bPag σ s :=
  ⟨fun a ha i => h.1 a (by
    simp only [List.mem_cons, List.not_mem_nil, or_false] at ha
    rcases ha with rfl | rfl | rfl | rfl | rfl | rfl | rfl | rfl | rfl | rfl | rfl | rfl | rfl | rfl | rfl | rfl | rfl | rfl <;> decide) (by
    simp only [List.mem_cons, List.not_mem_nil, or_false] at ha
    rcases ha with rfl | rfl | rfl | rfl | rfl | rfl | rfl | rfl | rfl | rfl | rfl | rfl | rfl | rfl | rfl | rfl | rfl | rfl <;> decide) i, h.2.1 17 (by decide) (by decide), h.2.1 22 (by decide) (by decide), fun t => h.1 (bTi t) (by rw [bTi_m]; decide) (by rw [bTi_m]; decide) 4⟩
theorem bRM_lk (h : bRM σ s) : bUn bLkK [7] σ s := bUn_mono h.2 (by decide) (by decide)
theorem w242 (hF : bFi σ) (hL : bTl σ) (hT : bTg σ) (hS : bRs σ) (hN : ∀ t, bTgk σ t → bRn1 σ σ t) (hx : 0 ≤ x) (ht : bTgk σ (x / 256)) (hE : ∀ k, 0 ≤ k → k < bi σ 85 (x / 256) → bi σ 86 (6 * (x / 256) + k) = 2 → (bi σ 95 (bNod σ x k) = 0 ↔ F (bNod σ x k) = 0)) (h : ∀ s, bEr1 σ x (bF1 σ F x) s → f (bF1 σ F x % 8) s) : bWp (d + 5) 242 [.ref 12, .int (bn x)] σ (bRn f) := by
  have tc := hT.1.2.1
  have ht1 := ht.1
  have ht2 := ht.2
  have ic := bIc_at hT ht
  obtain ⟨_, d1, d2⟩ := bDir_at hT ht
  have TG := hT.2.2.2 _ ht.1 ht.2
  have hc : 0 ≤ x % 256 ∧ x % 256 < 256 := by omega
  have cn := TG.2.2.2.2.2.2.2.2.2.2.2.1.2
  have hn1 := hN _ ht
  refine ⟨rfl, fun A hA => sq242_0 (bWp_mono _) hA ⟨by omega, by omega⟩ ⟨hx, ⟨by omega, by omega⟩, ⟨d1, d2⟩, fun w => bRn_i (by decide) ?_, fun w => ⟨⟨by omega, by omega⟩, ?_⟩⟩⟩
  · have e : bF1 σ F x = 1 := by unfold bF1; rw [if_pos w]
    have := h σ ⟨rfl, bUn_refl, fun _ _ _ _ _ => rfl, by rw [e]; rfl, fun z => absurd e z⟩
    rwa [e] at this
  have f1 : bF1 σ F x = if bNu σ (x / 256) (x % 256) = -1 then 2 else if bVe σ (x / 256) (x % 256) = -1 then 3 else bFiS σ F (x / 256) (x % 256) (bi σ 85 (x / 256)).toNat 0 0 := by unfold bF1; rw [if_neg w]
  generalize hv : bF1 σ F x = v at *
  -- the items, behind number and version
  have c243 : ∀ s, s.2 = σ.2 → bUn bLkK [7] σ s → (∀ a ∈ [96, 97, 98], ∀ y, 0 ≤ y → y ≠ x → bi s a y = bi σ a y) → bi s 96 x = bi σ 96 x → bi s 97 x = bNu σ (x / 256) (x % 256) → bi s 98 x = bVe σ (x / 256) (x % 256) → bNu σ (x / 256) (x % 256) ≠ -1 → bVe σ (x / 256) (x % 256) ≠ -1 → bWp (d + 4) 243 [.ref 12, .int (bn x)] s (bRn fun r5 s3 => bRn f (.inl (some (.int (bn r5)))) s3) := by
    intro s s2 M o96 e96 e97 e98 nu ve
    have ag := bLk_pag M
    have uM : bUn bLkK [7] σ s := M
    have vv : v = bFiS σ F (x / 256) (x % 256) (bi σ 85 (x / 256)).toNat 0 0 := by rw [f1, if_neg nu, if_neg ve]
    have vr := bFiS_rg (F := F) hT ht hc (bi σ 85 (x / 256)).toNat 0 0 (by decide) (by omega)
    have hTs : bTg s := bTg_un M (by decide) (by decide) hT
    refine w243 (F := F) (bFi_un M (by decide) hF) hTs hx ⟨ht1, by rw [ag.2.2.1]; exact ht2⟩ (fun k k0 k1 hK => ?_) ?_
    · rw [ag.1 85 (by decide)] at k1
      rw [ag.1 86 (by decide)] at hK
      have en : bNod s x k = bNod σ x k := by unfold bNod; rw [ag.1 87 (by decide), bBw_m ag]
      rw [en, M.1 95 (by decide) (by decide)]
      exact hE k k0 k1 hK
    · rw [bFiS_m ag, ag.1 85 (by decide), ← vv]
      refine bRn_i ⟨by omega, by omega⟩ (h _ ?_)
      unfold bCau
      by_cases z : v % 8 = 6
      · rw [if_pos z]
        have ne : ∀ a, a ≠ 96 → ∀ y, bi (bw s 96 x (v / 8)) a y = bi s a y := fun a q y => bi_ne q
        refine ⟨s2, bUn_trans M (bUn_w bUn_refl (by decide) (by decide)), fun a ha y y0 yx => ?_, ?_, fun _ _ _ => ⟨by rw [ne 97 (by decide)]; exact e97, by rw [ne 98 (by decide)]; exact e98⟩⟩
        · by_cases e : a = 96
          · rw [e, bi_nj hx y0 yx, ← e]; exact o96 a ha y y0 yx
          · rw [ne a e]; exact o96 a ha y y0 yx
        · rw [if_pos z, bi_eq ⟨by omega, by omega⟩]
      · rw [if_neg z]
        exact ⟨s2, M, o96, by rw [if_neg z]; exact e96, fun _ _ _ => ⟨e97, e98⟩⟩
  have nv := bNr_n hT ht (c := x % 256) (m := (bi σ 83 (x / 256)).toNat) 0 (by decide) (by omega)
  have vb := bVe_rg hL (t := x / 256) (c := x % 256)
  have tl := hL.1
  -- behind the number
  have c110 : ∀ (s : bSt) (l4 : Int) (v5 v6 v7 : Value), bRM σ s → (if l4 = -9 then bi σ 77 (x / 256) else l4) = bNu σ (x / 256) (x % 256) → bRg l4 → bNu σ (x / 256) (x % 256) ≠ -1 → A (110, [.ref 12, .int (bn x), .int (bn (x / 256)), .int (bn (x % 256)), .int (bn l4), v5, v6, v7], [], s) := by
    intro s l4 v5 v6 v7 M el rl nu
    have M0 := bRM_lk M
    have nur : bRg (bNu σ (x / 256) (x % 256)) := by
      rw [← el]
      by_cases z : l4 = -9
      · rw [if_pos z]; exact bi_rg _ _ _
      · rw [if_neg z]; exact rl
    -- the state with number and version 0
    have s97 : ∀ {u : Int}, u = bNu σ (x / 256) (x % 256) → ∀ {w : Int}, bRg w → (bw (bw s 97 x u) 98 x w).2 = σ.2 ∧ bUn bLkK [7] σ (bw (bw s 97 x u) 98 x w) ∧ (∀ a ∈ [96, 97, 98], ∀ y, 0 ≤ y → y ≠ x → bi (bw (bw s 97 x u) 98 x w) a y = bi σ a y) ∧ bi (bw (bw s 97 x u) 98 x w) 96 x = bi σ 96 x ∧ bi (bw (bw s 97 x u) 98 x w) 97 x = bNu σ (x / 256) (x % 256) ∧ bi (bw (bw s 97 x u) 98 x w) 98 x = w := fun {u} hu {w} hw => by
      have k96 : ∀ a ∈ [96, 97, 98], ∀ y, bi s a y = bi σ a y := fun a ha y => M.2.1 a (by
        simp only [List.mem_cons, List.not_mem_nil, or_false] at ha
        rcases ha with rfl | rfl | rfl <;> decide) (by
        simp only [List.mem_cons, List.not_mem_nil, or_false] at ha
        rcases ha with rfl | rfl | rfl <;> decide) y
      refine ⟨M.1, bUn_w (bUn_w M0 (by decide) (by decide)) (by decide) (by decide), fun a ha y y0 yx => ?_, ?_, ?_, ?_⟩
      · rw [← k96 a ha]
        simp only [List.mem_cons, List.not_mem_nil, or_false] at ha
        rcases ha with rfl | rfl | rfl
        · rw [bi_ne (by decide), bi_ne (by decide)]
        · rw [bi_ne (by decide), bi_nj hx y0 yx]
        · rw [bi_nj hx y0 yx, bi_ne (by decide)]
      · rw [bi_ne (by decide), bi_ne (by decide), k96 96 (by decide)]
      · rw [bi_ne (by decide), hu, bi_eq nur]
      · exact bi_eq hw
    have ag := bLk_pag M0
    -- behind that, the version
    have ver : ∀ (u : Int) (v4 v7 : Value), u = bNu σ (x / 256) (x % 256) → bi σ 80 (x / 256) ≠ -1 → A (141, [.ref 12, .int (bn x), .int (bn (x / 256)), .int (bn (x % 256)), v4, .int (bn (-1)), .int (bn (bi σ 12 17 - 1)), v7], [], bw (bw s 97 x u) 98 x 0) := by
      intro u v4 v7 hu h80
      obtain ⟨q1, q2, q3, q4, q5, q6⟩ := s97 hu (w := 0) (by decide)
      have agw := bLk_pag q2
      have eV : bVe σ (x / 256) (x % 256) = bVeS σ (bi σ 80 (x / 256)) (x % 256) (bi σ 12 17).toNat 0 := by unfold bVe; rw [if_neg h80]
      have Lv : ∀ (m n : Nat) (v4 v7 : Value), (m : Int) + n = bi σ 12 17 → A (141, [.ref 12, .int (bn x), .int (bn (x / 256)), .int (bn (x % 256)), v4, .int (bn (bVrk σ (bi σ 80 (x / 256)) (x % 256) n m)), .int (bn ((m : Int) - 1)), v7], [], bw (bw s 97 x u) 98 x 0) := by
        intro m
        induction m with
        | zero =>
          intro n v4 v7 hn
          have en : n = (bi σ 12 17).toNat := by omega
          obtain ⟨a1, a2⟩ := bVr_n (σ := σ) (y := bi σ 80 (x / 256)) (c := x % 256) (m := n) 0 (by decide)
          rw [en] at a1 a2 ⊢
          have a3 : bVrk σ (bi σ 80 (x / 256)) (x % 256) (bi σ 12 17).toNat 0 = -1 ∨ 0 ≤ bVrk σ (bi σ 80 (x / 256)) (x % 256) (bi σ 12 17).toNat 0 ∧ bVrk σ (bi σ 80 (x / 256)) (x % 256) (bi σ 12 17).toNat 0 < 8 := a2.imp id (fun z => ⟨z.1, by omega⟩)
          rw [← eV] at a1
          show A (141, [.ref 12, .int (bn x), .int (bn (x / 256)), .int (bn (x % 256)), v4, .int (bn (bVrk σ (bi σ 80 (x / 256)) (x % 256) (bi σ 12 17).toNat 0)), .int (bn (0 - 1)), v7], [], bw (bw s 97 x u) 98 x 0)
          generalize bVrk σ (bi σ 80 (x / 256)) (x % 256) (bi σ 12 17).toNat 0 = R at *
          refine sq242_141 (bWp_mono _) hA ⟨by omega, by omega⟩ ⟨by omega, by omega⟩ ⟨by omega, by omega⟩ ⟨by omega, by omega⟩ (by decide) ⟨fun _ => ⟨fun z => ?_, fun z => ⟨by omega, ⟨by omega, by omega⟩, ?_⟩⟩, fun z => absurd (by decide) z⟩
          · rw [if_pos z] at a1
            have v3 : v = 3 := by rw [f1, if_neg nu, if_pos a1]
            have := h _ ⟨q1, q2, q3, by rw [v3]; exact q4, fun _ _ z3 => absurd v3 z3⟩
            rw [v3] at this
            exact bRn_i (by decide) this
          · rw [if_neg z] at a1
            have e74 : bi (bw (bw s 97 x u) 98 x 0) 74 R = bi σ 74 R := agw.1 74 (by decide) R
            rw [e74, bw_bw, ← a1]
            obtain ⟨p1, p2, p3, p4, p5, p6⟩ := s97 hu (w := bVe σ (x / 256) (x % 256)) ⟨by omega, by omega⟩
            have g74 := (hL.2.1 R (by omega) (by omega)).2.2.2
            exact c243 _ p1 p2 p3 p4 p5 p6 nu (by rw [a1]; omega)
        | succ m ihm =>
          intro n v4 v7 hn
          have em : ((m + 1 : Nat) : Int) - 1 = m := by omega
          rw [em]
          obtain ⟨⟨a1, a2, a3⟩, ⟨b1, b2, b3⟩, ⟨c1, c2, c3⟩, ⟨d1', d2', d3'⟩⟩ := hL.2.1 m (by omega) (by omega)
          have rr := (bVr_n (σ := σ) (y := bi σ 80 (x / 256)) (c := x % 256) (m := n) ((m + 1 : Nat) : Int) (by omega)).2
          have rr2 : bRg (bVrk σ (bi σ 80 (x / 256)) (x % 256) n ((m + 1 : Nat) : Int)) := by
            rcases rr with z | z
            · rw [z]; decide
            · exact ⟨by omega, by omega⟩
          have nx := ihm (n + 1)
          unfold bVrk at nx
          rw [show (m : Int) + 1 = ((m + 1 : Nat) : Int) by omega] at nx
          refine sq242_141 (bWp_mono _) hA ⟨by omega, by omega⟩ ⟨by omega, by omega⟩ ⟨by omega, by omega⟩ rr2 ⟨by omega, by omega⟩ ⟨fun z => absurd z (by omega), fun _ => ⟨⟨by omega, by omega⟩, ⟨by omega, by omega⟩, ?_⟩⟩
          rw [agw.1 71 (by decide), agw.1 80 (by decide), agw.1 72 (by decide), show (m : Int) + -1 = (m : Int) - 1 by omega]
          have no : ∀ v4 v7 : Value, ¬ ((bi σ 72 m = -1 ∨ bVi (x % 256) (bi σ 72 m) = bi σ 73 m) ∧ bi σ 71 m = bi σ 80 (x / 256)) → bRg ((m : Int) - 1) ∧ A (141, [.ref 12, .int (bn x), .int (bn (x / 256)), .int (bn (x % 256)), v4, .int (bn (bVrk σ (bi σ 80 (x / 256)) (x % 256) n ((m + 1 : Nat) : Int))), .int (bn ((m : Int) - 1)), v7], [], bw (bw s 97 x u) 98 x 0) := fun v4 v7 z => by
            have := nx v4 v7 (by omega)
            rw [if_neg z] at this
            exact ⟨⟨by omega, by omega⟩, this⟩
          have yes : ∀ v4 v7 : Value, ((bi σ 72 m = -1 ∨ bVi (x % 256) (bi σ 72 m) = bi σ 73 m) ∧ bi σ 71 m = bi σ 80 (x / 256)) → bRg ((m : Int) - 1) ∧ A (141, [.ref 12, .int (bn x), .int (bn (x / 256)), .int (bn (x % 256)), v4, .int (bn m), .int (bn ((m : Int) - 1)), v7], [], bw (bw s 97 x u) 98 x 0) := fun v4 v7 z => by
            have := nx v4 v7 (by omega)
            rw [if_pos z] at this
            exact ⟨⟨by omega, by omega⟩, this⟩
          refine ⟨fun z => ⟨fun z2 => yes _ _ ⟨Or.inl z2, z⟩, fun z2 => w239 hc.1 hc.2 (by omega) b3 ?_⟩, fun z => no _ _ fun z2 => z z2.2⟩
          rw [agw.1 73 (by decide)]
          exact ⟨fun z3 => yes _ _ ⟨Or.inr z3, z⟩, fun z3 => no _ _ fun z4 => z4.1.elim z2 z3⟩
      have := Lv (bi σ 12 17).toNat 0 v4 v7 (by omega)
      rw [show (((bi σ 12 17).toNat : Nat) : Int) = bi σ 12 17 by omega] at this
      exact this
    have fin : ∀ (u : Int), u = bNu σ (x / 256) (x % 256) → bi σ 80 (x / 256) = -1 → bWp (d + 4) 243 [.ref 12, .int (bn x)] (bw (bw s 97 x u) 98 x 0) (bRn fun r5 s3 => bRn f (.inl (some (.int (bn r5)))) s3) := fun u hu h80 => by
      obtain ⟨q1, q2, q3, q4, q5, q6⟩ := s97 hu (w := 0) (by decide)
      have e0 : bVe σ (x / 256) (x % 256) = 0 := by unfold bVe; rw [if_pos h80]
      exact c243 _ q1 q2 q3 q4 q5 (q6.trans e0.symm) nu (by rw [e0]; decide)
    refine sq242_110 (bWp_mono _) hA ⟨by omega, by omega⟩ ⟨by omega, by omega⟩ ⟨by omega, by omega⟩ rl ⟨fun z => ⟨⟨by omega, by omega⟩, ⟨by omega, by omega⟩, ?_⟩, fun z => ⟨⟨by omega, by omega⟩, ⟨by omega, by omega⟩, ?_⟩⟩
    · rw [if_pos z] at el
      rw [ag.1 80 (by decide), ag.1 77 (by decide), ag.2.1]
      exact ⟨fun q => fin _ el q, fun q => ⟨⟨by omega, by omega⟩, ver _ _ _ el q⟩⟩
    · rw [if_neg z] at el
      rw [ag.1 80 (by decide), ag.2.1]
      exact ⟨fun q => fin _ el q, fun q => ⟨⟨by omega, by omega⟩, ver _ _ _ el q⟩⟩
  -- the conditions
  have L : ∀ (m n : Nat) (v6 v7 : Value), (m : Int) + n = bi σ 83 (x / 256) → A (27, [.ref 12, .int (bn x), .int (bn (x / 256)), .int (bn (x % 256)), .int (bn (bNr σ (x / 256) (x % 256) n m)), .int (bn ((m : Int) - 1)), v6, v7], [], σ) := by
    intro m
    induction m with
    | zero =>
      intro n v6 v7 hn
      have en : n = (bi σ 83 (x / 256)).toNat := by omega
      show A (27, [.ref 12, .int (bn x), .int (bn (x / 256)), .int (bn (x % 256)), .int (bn (bNr σ (x / 256) (x % 256) n 0)), .int (bn (0 - 1)), v6, v7], [], σ)
      rw [en]
      obtain ⟨n1, n2⟩ := nv
      have eNu : bNu σ (x / 256) (x % 256) = bNuS σ (x / 256) (x % 256) (bi σ 83 (x / 256)).toNat 0 := rfl
      rw [← eNu] at n1
      generalize bNr σ (x / 256) (x % 256) (bi σ 83 (x / 256)).toNat 0 = R at *
      have rR : bRg R := by
        rcases n2 with z | z
        · rw [z]; decide
        · exact ⟨by omega, by omega⟩
      refine sq242_27 (bWp_mono _) hA ⟨by omega, by omega⟩ ⟨by omega, by omega⟩ ⟨by omega, by omega⟩ rR (by decide) ⟨fun _ => ⟨fun z => ⟨⟨by omega, by omega⟩, fun q => ?_, fun q => ?_⟩, fun z => ?_⟩, fun z => absurd (by decide) z⟩
      · rw [if_pos z, if_pos q] at n1
        refine c110 σ R _ _ _ bRM_refl (by rw [if_pos z, n1]) rR ?_
        rw [n1]
        have := TG.2.2.1.2
        omega
      · rw [if_pos z, if_neg q] at n1
        obtain ⟨u, hu, hy, h4⟩ := hn1.2.1 q
        have rl := TG.2.2.2.1
        refine w214u hu hS fun s M D => ?_
        have ag := bLk_pag (bRM_lk M)
        rw [ag.1 78 (by decide)]
        have e79 : bi s 79 (x / 256) = bi σ 79 (x / 256) := M.2.1 79 (by decide) (by decide) _
        rw [e79]
        have hu6 := hu.1
        have Dy := D _ hy.1 hy.2
        rw [h4] at n1
        refine ⟨⟨by omega, by omega⟩, ⟨by omega, by omega⟩, hu6, fun z5 => ⟨⟨by omega, by omega⟩, fun z6 => ?_, fun z6 => ?_⟩, fun z5 => ?_⟩
        · rcases Dy with ⟨_, g2, g3⟩ | ⟨g1, _⟩
          · have h49 := hn1.2.2
            rw [h4] at h49
            refine c110 s _ _ _ _ M ?_ (bi_rg _ _ _) (by rw [n1]; exact g3)
            rw [g2, if_neg (by omega)]
            exact n1.symm
          · exact absurd ⟨z5, z6⟩ g1
        · rcases Dy with ⟨g1, _⟩ | ⟨_, g2⟩
          · exact absurd g1.2 z6
          · have v2 : v = 2 := by rw [f1, if_pos (by rw [n1]; exact g2)]
            have M0 := bRM_lk M
            have k96 : ∀ a ∈ [96, 97, 98], ∀ y, bi s a y = bi σ a y := fun a ha y => M.2.1 a (by
              simp only [List.mem_cons, List.not_mem_nil, or_false] at ha
              rcases ha with rfl | rfl | rfl <;> decide) (by
              simp only [List.mem_cons, List.not_mem_nil, or_false] at ha
              rcases ha with rfl | rfl | rfl <;> decide) y
            have := h s ⟨M.1, M0, fun a ha y _ _ => k96 a ha y, by rw [v2]; exact k96 96 (by decide) x, fun _ z3 => absurd v2 z3⟩
            rw [v2] at this
            exact bRn_i (by decide) this
        · rcases Dy with ⟨g1, _⟩ | ⟨_, g2⟩
          · exact absurd g1.1 z5
          · have v2 : v = 2 := by rw [f1, if_pos (by rw [n1]; exact g2)]
            have M0 := bRM_lk M
            have k96 : ∀ a ∈ [96, 97, 98], ∀ y, bi s a y = bi σ a y := fun a ha y => M.2.1 a (by
              simp only [List.mem_cons, List.not_mem_nil, or_false] at ha
              rcases ha with rfl | rfl | rfl <;> decide) (by
              simp only [List.mem_cons, List.not_mem_nil, or_false] at ha
              rcases ha with rfl | rfl | rfl <;> decide) y
            have := h s ⟨M.1, M0, fun a ha y _ _ => k96 a ha y, by rw [v2]; exact k96 96 (by decide) x, fun _ z3 => absurd v2 z3⟩
            rw [v2] at this
            exact bRn_i (by decide) this
      · rw [if_neg z] at n1
        refine c110 σ R _ _ _ bRM_refl (by rw [if_neg z, n1]) rR ?_
        rw [n1]; omega
    | succ m ihm =>
      intro n v6 v7 hn
      have em : ((m + 1 : Nat) : Int) - 1 = m := by omega
      rw [em]
      obtain ⟨_, s0, v0, z0, z1⟩ := bCnd_at hT ht (k := m) (by omega) (show (m : Int) < bi σ 83 (x / 256) by omega)
      have rr := bNr_n hT ht (c := x % 256) (m := n) ((m + 1 : Nat) : Int) (by omega) (by omega)
      have rR : bRg (bNr σ (x / 256) (x % 256) n ((m + 1 : Nat) : Int)) := by
        rcases rr.2 with z | z
        · rw [z]; decide
        · exact ⟨by omega, by omega⟩
      have nx := ihm (n + 1)
      unfold bNr at nx
      rw [show (m : Int) + 1 = ((m + 1 : Nat) : Int) by omega] at nx
      refine sq242_27 (bWp_mono _) hA ⟨by omega, by omega⟩ ⟨by omega, by omega⟩ ⟨by omega, by omega⟩ rR ⟨by omega, by omega⟩ ⟨fun z => absurd z (by omega), fun _ => ⟨⟨by omega, by omega⟩, ⟨by omega, by omega⟩, ⟨by omega, by omega⟩, ⟨by omega, by omega⟩, ?_⟩⟩
      rw [show 3 * (4 * (x / 256) + (m : Int)) = 12 * (x / 256) + 3 * m by omega]
      refine w239 hc.1 hc.2 s0.1 s0.2 ⟨⟨by omega, by omega⟩, ⟨by omega, by omega⟩, ?_⟩
      rw [show 12 * (x / 256) + 3 * (m : Int) + 1 = 12 * (x / 256) + (3 * m + 1) by omega, show 12 * (x / 256) + 3 * (m : Int) + 2 = 12 * (x / 256) + (3 * m + 2) by omega, show (m : Int) + -1 = (m : Int) - 1 by omega]
      refine ⟨fun z => ⟨⟨by omega, by omega⟩, ⟨by omega, by omega⟩, ⟨by omega, by omega⟩, ?_⟩, fun z => ⟨⟨by omega, by omega⟩, ?_⟩⟩
      · have := nx (.int (bn (12 * (x / 256) + 3 * m))) v7 (by omega)
        rw [if_pos z] at this
        exact this
      · have := nx (.int (bn (12 * (x / 256) + 3 * m))) v7 (by omega)
        rw [if_neg z] at this
        exact this
  have := L (bi σ 83 (x / 256)).toNat 0 (.float 0) (.float 0) (by omega)
  rw [show (((bi σ 83 (x / 256)).toNat : Nat) : Int) = bi σ 83 (x / 256) by omega] at this
  exact this
end

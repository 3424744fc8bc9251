/-! BUILD, 10: the reference puts an entry into a cache, from the start -/
section
variable {d : Nat} {σ s t : bSt} {f : Int → bSt → Prop} {fv : bSt → Prop} {Z : bZs} {a i j k x v lo hi : Int} {n cap : Nat} {K : bKy} {P Q : List (Int × bKy)}
theorem bSP_one (h : P.Pairwise (fun p q => bi s 121 p.1 < bi s 121 q.1)) {K' : bKy} (h1 : (k, K') ∈ P) (h2 : (k, K) ∈ P) : K' = K := by
  induction P with
  | nil => exact absurd h1 List.not_mem_nil
  | cons r P ih =>
    rw [List.pairwise_cons] at h
    rcases List.mem_cons.1 h1 with z1 | z1
    · rcases List.mem_cons.1 h2 with z2 | z2
      · rw [← z2] at z1; exact congrArg Prod.snd z1
      · have := h.1 _ z2
        rw [← z1] at this
        exact absurd this (Int.lt_irrefl _)
    · rcases List.mem_cons.1 h2 with z2 | z2
      · have := h.1 _ z1
        rw [← z2] at this
        exact absurd this (Int.lt_irrefl _)
      · exact ih h.2 z1 z2
theorem r270 (h : bzO σ n Z) (E : bzRe σ n Z s) (a0 : 0 ≤ a) (a1 : a < (n : Int)) (w : Z.1 140 a ≠ 0) (hv : bzV σ Z a ≠ -1) (W : bzWl s a (bzK σ Z a)) (hx : (x = 0 ∧ lo = 0 ∧ hi = 32 ∧ cap = 24) ∨ (x = 1 ∧ lo = 32 ∧ hi = 80 ∧ cap = 40)) (hP : bzSP lo hi P s) (hl : P.length ≤ cap) (r73 : 0 ≤ bi s 12 73 ∧ bi s 12 73 < 2000000)
    (k : ∀ t P', t.2 = s.2 → bUn bPuK [73] s t → (∀ k, 0 ≤ k → k < 80 → ¬ (lo ≤ k ∧ k < hi) → bzSs s t k) → bi t 12 73 = bi s 12 73 + 1 → P'.map (fun p : Int × bKy => p.2) = bzPut cap (P.map (fun p => p.2)) (bzK σ Z a) → bzSP lo hi P' t → fv t) : bWp (d + 6) 270 [.ref 12, .int (bn a), .int (bn x)] s (bRv fv) := by
  have n120 := h.2.1.1
  obtain ⟨o1, o2, o3⟩ := h.2.1.2 a a0 a1
  have E1 := E.2.2.2 a a0 a1
  have gK := bzK_g h a0 a1 w hv
  have ll := bKg_l gK
  have bounds : 0 ≤ lo ∧ lo ≤ hi ∧ hi ≤ 80 ∧ (x = 0 ∨ x = 1) ∧ ((cap : Int) < hi - lo) := by omega
  obtain ⟨p1, p2, p3, p4, p5⟩ := hP
  refine ⟨rfl, fun A hA => ?_⟩
  -- a free slot is sought
  have Fr : ∀ (m : Nat) (j : Int) (s1 : bSt) (P1 : List (Int × bKy)) (v2 v3 v6 v7 : Value), j + m = hi → lo ≤ j → bzSP lo hi P1 s1 → bzK σ Z a ∉ P1.map (fun p => p.2) → bzRe σ n Z s1 → bzWl s1 a (bzK σ Z a) → s1.2 = s.2 → bUn bPuK [73] s s1 → (∀ k, 0 ≤ k → k < 80 → ¬ (lo ≤ k ∧ k < hi) → bzSs s s1 k) → bi s1 12 73 = bi s 12 73 → (∃ q, j ≤ q ∧ q < hi ∧ bi s1 121 q = 0) → P1.map (fun p : Int × bKy => p.2) ++ [bzK σ Z a] = bzPut cap (P.map (fun p => p.2)) (bzK σ Z a) → bUnl v3 = v3 → A (133, [.ref 12, .int (bn a), v2, v3, .int (bn (-1)), .int (bn j), v6, v7], [], s1) := by
    intro m
    induction m with
    | zero =>
      intro j s1 P1 v2 v3 v6 v7 hj j0 hP1 nk E1 W1 e2 U S c73 ⟨q, q0, q1, _⟩ _ _
      omega
    | succ m ih =>
      intro j s1 P1 v2 v3 v6 v7 hj j0 hP1 nk E1 W1 e2 U S c73 ⟨q, q0, q1, qz⟩ hPut hu
      refine sq270_133 (bWp_mono _) hA ⟨by omega, by omega⟩ (by decide) ⟨by omega, by omega⟩ ⟨fun _ => ⟨⟨by omega, by omega⟩, fun z => ⟨⟨by omega, by omega⟩, ?_⟩, fun z => ⟨⟨by omega, by omega⟩, ?_⟩⟩, fun z => absurd rfl z⟩
      · refine r270w (d := d) hA h E1 a0 a1 w hv W1 (by omega) (by omega) (by omega) ⟨by omega, by omega⟩ fun t e3 U3 S3 t73 t121 hK => ?_
        have ne : ∀ p ∈ P1, p.1 ≠ j := fun p hp e => by
          have := (hP1.1 p hp).2.1.1
          rw [e, z] at this
          exact absurd this (by decide)
        refine k t (P1 ++ [(j, bzK σ Z a)]) (e3.trans e2) (bUn_trans U U3) (fun k k0 k1 kn => bzSs_trans (S k k0 k1 kn) (S3 k k0 k1 (fun e => kn (by omega)))) (by omega) (by rw [List.map_append]; exact hPut) ?_
        refine bzSP_put hP1 (List.Sublist.refl _) (fun p hp _ => hp) (fun p hp => ⟨ne p hp, fun e => nk (List.mem_map.2 ⟨p, hp, e⟩)⟩) ⟨j0, by omega⟩ (fun k k0 k1 kn => S3 k (by omega) (by omega) kn) (by omega) (by omega) hK gK (by omega)
      · rw [hu]
        have := ih (j + 1) s1 P1 v2 v3 v6 v7 (by omega) (by omega) hP1 nk E1 W1 e2 U S c73 ⟨q, by
          by_cases e : q = j
          · rw [e] at qz; exact absurd qz z
          · omega, q1, qz⟩ hPut hu
        exact this
  -- there is a free one
  have free : ∀ (s1 : bSt) (P1 : List (Int × bKy)), bzSP lo hi P1 s1 → P1.length ≤ cap → ∃ q, lo ≤ q ∧ q < hi ∧ bi s1 121 q = 0 := fun s1 P1 h1 hl1 => by
    refine Classical.byContradiction fun nq => ?_
    have all : ∀ q, lo ≤ q → q < hi → 0 < bi s1 121 q := fun q q0 q1 => by
      have := h1.2.2.2.1 q q0 q1
      by_cases z : bi s1 121 q = 0
      · exact absurd ⟨q, q0, q1, z⟩ nq
      · omega
    have nm := bNum_P h1 (m := (hi - lo).toNat) (by omega)
    have full : ∀ m : Nat, lo + m ≤ hi → bNum s1 lo m = m := fun m => by
      induction m with
      | zero => intro _; rfl
      | succ m ih =>
        intro hm
        unfold bNum
        rw [ih (by omega), if_pos (all _ (by omega) (by omega))]
        omega
    rw [full _ (by omega)] at nm
    omega
  -- the slot of the key is sought
  have Lp : ∀ (m : Nat) (j b : Int) (v6 v7 : Value), j + m = hi → lo ≤ j → ((b = -1 ∧ ∀ p ∈ P, p.2 = bzK σ Z a → j ≤ p.1) ∨ ((b, bzK σ Z a) ∈ P ∧ lo ≤ b ∧ b < j)) → A (10, [.ref 12, .int (bn a), .int (bn x), .int (bn lo), .int (bn b), .int (bn j), v6, v7], [], s) := by
    intro m
    induction m with
    | zero =>
      intro j b v6 v7 hj j0 D
      have rb : bRg b := by rcases D with ⟨q, _⟩ | ⟨_, q⟩ <;> exact ⟨by omega, by omega⟩
      -- with the slot found, or none
      have fin : ∀ t0 : Int, bRg t0 → t0 = hi - lo → A (17, [.ref 12, .int (bn a), .int (bn x), .int (bn lo), .int (bn b), .int (bn j), v6, v7], [.int (bn t0), .int (bn lo), .int (bn j)], s) := fun t0 rt ht => by
        refine sq270_17 (bWp_mono _) hA ⟨by omega, by omega⟩ ⟨by omega, by omega⟩ ⟨by omega, by omega⟩ rb ⟨by omega, by omega⟩ rt ⟨by omega, by omega⟩ ⟨by omega, by omega⟩ ⟨⟨by omega, by omega⟩, fun z => absurd z (by omega), fun _ => ⟨fun z => ?_, fun z => ?_⟩⟩
        · -- none
          have nk : bzK σ Z a ∉ P.map (fun p => p.2) := fun m => by
            obtain ⟨p, hp, e⟩ := List.mem_map.1 m
            rcases D with ⟨_, D⟩ | ⟨_, q⟩
            · have := D p hp e
              have := (p1 p hp).1
              omega
            · omega
          have nm := bNum_P ⟨p1, p2, p3, p4, p5⟩ (m := (hi - lo).toNat) (by omega)
          rw [z]
          refine w269 (by omega) ?_
          have num : (if x = 0 then bNum s 0 32 else bNum s 32 48) = P.length := by
            rw [← nm]
            rcases hx with ⟨q1, q2, q3, _⟩ | ⟨q1, q2, q3, _⟩
            · rw [if_pos q1, q2, q3]; rfl
            · rw [if_neg (by omega), q2, q3]; rfl
          rw [num]
          -- not full: the first free slot
          have nf : ¬ (P.length : Int) = cap → ∀ v2 v6 v7 : Value, A (133, [.ref 12, .int (bn a), v2, .int (bn lo), .int (bn (-1)), .int (bn lo), v6, v7], [], s) := fun q v2 v6 v7 => by
            refine Fr (hi - lo).toNat lo s P v2 _ v6 v7 (by omega) (Int.le_refl _) ⟨p1, p2, p3, p4, p5⟩ nk E W rfl bUn_refl (fun _ _ _ _ => bzSs_refl) rfl (free s P ⟨p1, p2, p3, p4, p5⟩ hl) ?_ rfl
            unfold bzPut
            rw [if_neg (fun y => q (by have := y.2; rw [List.length_map] at this; omega))]
            congr 1
            unfold bzRm
            exact (List.filter_eq_self.2 (fun y hy => by
              show (!decide (y = bzK σ Z a)) = true
              rw [decide_eq_false (fun e => nk (by rw [← e]; exact hy))]
              rfl)).symm
          -- full: the earliest goes
          have fl : (P.length : Int) = cap → ∀ v7 : Value, A (94, [.ref 12, .int (bn a), .int (bn x), .int (bn lo), .int (bn (-1)), .int (bn (-1)), .int (bn lo), v7], [], s) := fun q v7 => by
            match hPe : P with
            | [] =>
              rw [List.length_nil] at q
              omega
            | p0 :: P1 =>
              have m0 := (p1 p0 List.mem_cons_self).1
              have hEv := bzSP_ev ⟨p1, p2, p3, p4, p5⟩ bounds.1
              rw [List.pairwise_cons] at p2
              have S1 : ∀ k, 0 ≤ k → k < 80 → ¬ (lo ≤ k ∧ k < hi) → bzSs s (bw s 121 p0.1 0) k := fun k k0 k1 kn => ⟨fun b hb => by
                by_cases e : b = 121
                · rw [e]; exact bi_nj (by omega) k0 (fun e => kn (by omega))
                · exact bi_ne e, fun _ _ _ => bi_ne (by decide), fun _ _ _ => bi_ne (by decide)⟩
              have U1 : bUn bPuK [73] s (bw s 121 p0.1 0) := bUn_pw bUn_refl (by decide) (by decide)
              have sto : ∀ j0' v6 : Int, bRg j0' → ∀ v7 : Value, A (133, [.ref 12, .int (bn a), .int (bn x), .int (bn lo), .int (bn (-1)), .int (bn lo), .int (bn j0'), v7], [], bw s 121 p0.1 0) := fun j0' _ _ v7 => by
                refine Fr (hi - lo).toNat lo (bw s 121 p0.1 0) P1 _ _ _ v7 (by omega) (Int.le_refl _) hEv (fun m => nk (by rw [List.map_cons]; exact List.mem_cons_of_mem _ m)) (bPu_Re E U1) (bPu_Wl W U1) rfl U1 S1 (bi_ne (by decide)) ⟨p0.1, m0.1, m0.2, bi_eq (by decide)⟩ ?_ rfl
                unfold bzPut
                rw [if_pos ⟨nk, by rw [List.length_map]; omega⟩]
                rfl
              have Mn : ∀ (m : Nat) (j b : Int) (v7 : Value), j + m = hi → lo ≤ j → (b = p0.1 ∧ b < j ∨ j ≤ p0.1 ∧ (b = -1 ∨ lo ≤ b ∧ b < j ∧ bi s 121 p0.1 < bi s 121 b)) → A (94, [.ref 12, .int (bn a), .int (bn x), .int (bn lo), .int (bn (-1)), .int (bn b), .int (bn j), v7], [], s) := by
                intro m
                induction m with
                | zero =>
                  intro j b v7 hj j0 D
                  have rb2 : bRg b := by rcases D with ⟨q, _⟩ | ⟨_, q | q⟩ <;> exact ⟨by omega, by omega⟩
                  have eb : b = p0.1 := by omega
                  have last : ∀ t0 : Int, bRg t0 → t0 = hi - lo → A (101, [.ref 12, .int (bn a), .int (bn x), .int (bn lo), .int (bn (-1)), .int (bn b), .int (bn j), v7], [.int (bn t0), .int (bn lo), .int (bn j)], s) := fun t0 rt ht => by
                    refine sq270_101 (bWp_mono _) hA ⟨by omega, by omega⟩ ⟨by omega, by omega⟩ ⟨by omega, by omega⟩ (by decide) rb2 ⟨by omega, by omega⟩ rt ⟨by omega, by omega⟩ ⟨by omega, by omega⟩ ⟨⟨by omega, by omega⟩, fun z => absurd z (by omega), fun _ => ⟨by omega, ?_⟩⟩
                    rw [eb]
                    exact sto j 0 ⟨by omega, by omega⟩ v7
                  exact sq270_94 (bWp_mono _) hA ⟨by omega, by omega⟩ ⟨by omega, by omega⟩ ⟨by omega, by omega⟩ (by decide) rb2 ⟨by omega, by omega⟩ ⟨fun y => last 32 (by decide) (by omega), fun y => last 48 (by decide) (by omega)⟩
                | succ m ih =>
                  intro j b v7 hj j0 D
                  have rb2 : bRg b := by rcases D with ⟨q, _⟩ | ⟨_, q | q⟩ <;> exact ⟨by omega, by omega⟩
                  have step : ∀ t0 : Int, bRg t0 → t0 = hi - lo → A (101, [.ref 12, .int (bn a), .int (bn x), .int (bn lo), .int (bn (-1)), .int (bn b), .int (bn j), v7], [.int (bn t0), .int (bn lo), .int (bn j)], s) := fun t0 rt ht => by
                    have other : 0 < bi s 121 j → j ≠ p0.1 → bi s 121 p0.1 < bi s 121 j := fun y e => by
                      obtain ⟨p, hp, ep⟩ := p5 j j0 (by omega) y
                      rcases List.mem_cons.1 hp with r | r
                      · rw [r] at ep; exact absurd ep.symm e
                      · have := p2.1 p r
                        rw [ep] at this
                        exact this
                    have mine : 0 < bi s 121 p0.1 := (p1 p0 List.mem_cons_self).2.1.1
                    refine sq270_101 (bWp_mono _) hA ⟨by omega, by omega⟩ ⟨by omega, by omega⟩ ⟨by omega, by omega⟩ (by decide) rb2 ⟨by omega, by omega⟩ rt ⟨by omega, by omega⟩ ⟨by omega, by omega⟩ ⟨⟨by omega, by omega⟩, fun _ => ⟨⟨by omega, by omega⟩, fun y => ⟨fun bm => ⟨⟨by omega, by omega⟩, ih (j + 1) j v7 (by omega) (by omega) ?_⟩, fun bm => ⟨by omega, fun c => ⟨⟨by omega, by omega⟩, ih (j + 1) j v7 (by omega) (by omega) ?_⟩, fun c => ⟨⟨by omega, by omega⟩, ih (j + 1) b v7 (by omega) (by omega) ?_⟩⟩⟩, fun y => ⟨⟨by omega, by omega⟩, ih (j + 1) b v7 (by omega) (by omega) ?_⟩⟩, fun y => absurd (show j < lo + t0 by omega) y⟩
                    · by_cases e : j = p0.1
                      · exact Or.inl ⟨e, by omega⟩
                      · exact Or.inr ⟨by omega, Or.inr ⟨j0, by omega, other y e⟩⟩
                    · by_cases e : j = p0.1
                      · exact Or.inl ⟨e, by omega⟩
                      · have := other y e
                        rcases D with ⟨D1, D2⟩ | ⟨D1, D2⟩
                        · rw [D1] at c; omega
                        · exact Or.inr ⟨by omega, Or.inr ⟨j0, by omega, this⟩⟩
                    · by_cases e : j = p0.1
                      · rcases D with ⟨D1, D2⟩ | ⟨D1, D2 | D2⟩
                        · omega
                        · exact absurd D2 bm
                        · rw [e] at c; omega
                      · rcases D with ⟨D1, D2⟩ | ⟨D1, D2 | D2⟩
                        · exact Or.inl ⟨D1, by omega⟩
                        · exact absurd D2 bm
                        · exact Or.inr ⟨by omega, Or.inr ⟨D2.1, by omega, D2.2.2⟩⟩
                    · have e : j ≠ p0.1 := fun e => y (by rw [e]; exact mine)
                      rcases D with ⟨D1, D2⟩ | ⟨D1, D2 | D2⟩
                      · exact Or.inl ⟨D1, by omega⟩
                      · exact Or.inr ⟨by omega, Or.inl D2⟩
                      · exact Or.inr ⟨by omega, Or.inr ⟨D2.1, by omega, D2.2.2⟩⟩
                  exact sq270_94 (bWp_mono _) hA ⟨by omega, by omega⟩ ⟨by omega, by omega⟩ ⟨by omega, by omega⟩ (by decide) rb2 ⟨by omega, by omega⟩ ⟨fun y => step 32 (by decide) (by omega), fun y => step 48 (by decide) (by omega)⟩
              exact Mn (hi - lo).toNat lo (-1) v7 (by omega) (Int.le_refl _) (Or.inr ⟨m0.1, Or.inl rfl⟩)
          exact ⟨fun y => ⟨fun c => fl (by omega) _, fun c => nf (by omega) _ _ _⟩, fun y => ⟨fun c => fl (by omega) _, fun c => nf (by omega) _ _ _⟩⟩
        · -- its own
          have Db : (b, bzK σ Z a) ∈ P ∧ lo ≤ b ∧ b < j := by
            rcases D with ⟨q, _⟩ | D
            · exact absurd q z
            · exact D
          have sl := (p1 _ Db.1).1
          refine r270w (d := d) hA h E a0 a1 w hv W (by omega) (by omega) (by omega) ⟨by omega, by omega⟩ fun t e3 U3 S3 t73 t121 hK => ?_
          refine k t (P.filter (fun p => !decide (p.2 = bzK σ Z a)) ++ [(b, bzK σ Z a)]) e3 U3 (fun k k0 k1 kn => S3 k k0 k1 (fun e => kn (by omega))) t73 ?_ ?_
          · rw [List.map_append, bzRm_P]
            unfold bzPut
            rw [if_neg (fun y => y.1 (List.mem_map.2 ⟨_, Db.1, rfl⟩))]
            rfl
          · refine bzSP_put ⟨p1, p2, p3, p4, p5⟩ List.filter_sublist (fun p hp e => List.mem_filter.2 ⟨hp, ?_⟩) (fun p hp => ?_) ⟨Db.2.1, by omega⟩ (fun k k0 k1 kn => S3 k (by omega) (by omega) kn) t121 t73 hK gK r73.1
            · show (!decide (p.2 = bzK σ Z a)) = true
              rw [decide_eq_false (fun e2 => e (congrArg Prod.fst (bNd_u p3 hp Db.1 e2)))]
              rfl
            · obtain ⟨m1, m2⟩ := List.mem_filter.1 hp
              have m3 : ¬ p.2 = bzK σ Z a := fun e => by
                rw [decide_eq_true e] at m2
                exact absurd m2 (by decide)
              exact ⟨fun e => m3 (bSP_one p2 (k := b) (by rw [← e]; exact m1) Db.1), m3⟩
      exact sq270_10 (bWp_mono _) hA ⟨by omega, by omega⟩ ⟨by omega, by omega⟩ ⟨by omega, by omega⟩ rb ⟨by omega, by omega⟩ ⟨fun y => fin 32 (by decide) (by omega), fun y => fin 48 (by decide) (by omega)⟩
    | succ m ih =>
      intro j b v6 v7 hj j0 D
      have rb : bRg b := by rcases D with ⟨q, _⟩ | ⟨_, q⟩ <;> exact ⟨by omega, by omega⟩
      have no : (j, bzK σ Z a) ∉ P → ∀ v6 v7, bRg (j + 1) ∧ A (10, [.ref 12, .int (bn a), .int (bn x), .int (bn lo), .int (bn b), .int (bn (j + 1)), v6, v7], [], s) := fun q v6 v7 => ⟨⟨by omega, by omega⟩, ih (j + 1) b v6 v7 (by omega) (by omega) (D.imp (fun ⟨e, D⟩ => ⟨e, fun p hp e2 => by
        have := D p hp e2
        have : p.1 ≠ j := fun e3 => q (by rw [← e3, ← e2]; exact hp)
        omega⟩) (fun ⟨D, e⟩ => ⟨D, e.1, by omega⟩))⟩
      have n39 : (j, bzK σ Z a) ∉ P → ∀ q : Int, bRg q → A (39, [.ref 12, .int (bn a), .int (bn x), .int (bn lo), .int (bn b), .int (bn j), .int (bn 0), .int (bn q)], [], s) := fun nq q rq =>
        sq270_39 (bWp_mono _) hA ⟨by omega, by omega⟩ ⟨by omega, by omega⟩ ⟨by omega, by omega⟩ rb ⟨by omega, by omega⟩ (by decide) rq ⟨fun _ => ⟨fun _ => no nq _ _, fun z => absurd rfl z⟩, fun z => absurd rfl z⟩
      have go : ∀ t0 : Int, bRg t0 → t0 = hi - lo → A (17, [.ref 12, .int (bn a), .int (bn x), .int (bn lo), .int (bn b), .int (bn j), v6, v7], [.int (bn t0), .int (bn lo), .int (bn j)], s) := fun t0 rt ht => by
        refine sq270_17 (bWp_mono _) hA ⟨by omega, by omega⟩ ⟨by omega, by omega⟩ ⟨by omega, by omega⟩ rb ⟨by omega, by omega⟩ rt ⟨by omega, by omega⟩ ⟨by omega, by omega⟩ ⟨⟨by omega, by omega⟩, fun _ => ?_, fun z => absurd (show j < lo + t0 by omega) z⟩
        by_cases st : 0 < bi s 121 j
        · obtain ⟨⟨j', K'⟩, hp, e⟩ := p5 j j0 (by omega) st
          have e : j' = j := e
          subst e
          have pp := p1 _ hp
          have gK' : bKg K' := pp.2.2.2
          have SK : bzSk s j' K' := pp.2.2.1
          have ll' := bKg_l gK'
          refine r265 (d := d + 3) h E a0 a1 (by omega) (by omega) (fun _ => ⟨SK, ll'.1⟩) ?_
          by_cases mt : bzMt σ Z a K'
          · rw [if_pos ⟨st, mt⟩, SK.2.2.2.2.2.1, W.2.1]
            refine ⟨fun z => absurd z (by decide), fun _ => ⟨⟨by omega, by omega⟩, ⟨a0, by omega⟩, fun le => ?_, fun le => n39 (fun hm => le ?_) 0 (by decide)⟩⟩
            · have L3 : ∀ (m3 q : Nat), q + m3 = K'.2.2.2.2.length → (∀ i : Nat, i < q → K'.2.2.2.2.getD i 0 = (bzK σ Z a).2.2.2.2.getD i 0) → A (39, [.ref 12, .int (bn a), .int (bn x), .int (bn lo), .int (bn b), .int (bn j'), .int (bn 1), .int (bn q)], [], s) := by
                intro m3
                induction m3 with
                | zero =>
                  intro q hq DD
                  have e5 : K'.2.2.2.2 = (bzK σ Z a).2.2.2.2 := bLeq (by omega) (fun i hi => DD i (by omega))
                  have KK : K' = bzK σ Z a := by
                    obtain ⟨c1, c2, c3, c4, c5⟩ := K'
                    obtain ⟨m1, m2, m3, m4⟩ := mt
                    have m1 : c1 = Z.1 101 a := m1
                    have m2 : c2 = Z.1 102 a := m2
                    have m3 : c3 = Z.1 103 a := m3
                    have m4 : c4 = bzL σ Z a := m4
                    have e5 : c5 = bzF σ Z a := e5
                    rw [m1, m2, m3, m4, e5]
                    rfl
                  refine sq270_39 (bWp_mono _) hA ⟨by omega, by omega⟩ ⟨by omega, by omega⟩ ⟨by omega, by omega⟩ rb ⟨by omega, by omega⟩ (by decide) ⟨by omega, by omega⟩ ⟨fun z => absurd z (by decide), fun _ => ⟨⟨a0, by omega⟩, fun z => absurd z (by rw [W.2.1]; omega), fun _ => ⟨fun z => absurd z (by decide), fun _ => ⟨⟨by omega, by omega⟩, ih (j' + 1) j' _ _ (by omega) (by omega) (Or.inr ⟨by rw [← KK]; exact hp, j0, by omega⟩)⟩⟩⟩⟩
                | succ m3 ih3 =>
                  intro q hq DD
                  refine sq270_39 (bWp_mono _) hA ⟨by omega, by omega⟩ ⟨by omega, by omega⟩ ⟨by omega, by omega⟩ rb ⟨by omega, by omega⟩ (by decide) ⟨by omega, by omega⟩ ⟨fun z => absurd z (by decide), fun _ => ⟨⟨a0, by omega⟩, fun _ => ⟨⟨by omega, by omega⟩, ⟨by omega, by omega⟩, ⟨by omega, by omega⟩, ⟨by omega, by omega⟩, ⟨by omega, by omega⟩, ⟨by omega, by omega⟩, ?_⟩, fun z => absurd (show (q : Int) < bi s 131 a by rw [W.2.1]; omega) z⟩⟩
                  rw [SK.2.2.2.2.2.2.1 q (by omega), W.2.2 q (by omega)]
                  refine ⟨fun y => ⟨⟨by omega, by omega⟩, ?_⟩, fun y => ⟨⟨by omega, by omega⟩, n39 (fun hm => y (by rw [bSP_one p2 hp hm])) _ ⟨by omega, by omega⟩⟩⟩
                  have := ih3 (q + 1) (by omega) (fun i hi => by
                    by_cases e : i = q
                    · rw [e]; exact y
                    · exact DD i (by omega))
                  rw [show ((q + 1 : Nat) : Int) = (q : Int) + 1 by omega] at this
                  exact this
              exact L3 K'.2.2.2.2.length 0 (by omega) (fun i hi => by omega)
            · rw [bSP_one p2 hp hm]
          · rw [if_neg fun z => mt z.2]
            refine ⟨fun _ => n39 (fun hm => mt ?_) 0 (by decide), fun z => absurd rfl z⟩
            rw [bSP_one p2 hp hm]
            exact ⟨rfl, rfl, rfl, rfl⟩
        · have q : (j, bzK σ Z a) ∉ P := fun hm => st (p1 _ hm).2.1.1
          refine r265 (K := bzK σ Z a) (d := d + 3) h E a0 a1 (by omega) (by omega) (fun z => absurd z st) ?_
          rw [if_neg fun z => st z.1]
          exact ⟨fun _ => n39 q 0 (by decide), fun z => absurd rfl z⟩
      exact sq270_10 (bWp_mono _) hA ⟨by omega, by omega⟩ ⟨by omega, by omega⟩ ⟨by omega, by omega⟩ rb ⟨by omega, by omega⟩ ⟨fun y => go 32 (by decide) (by omega), fun y => go 48 (by decide) (by omega)⟩
  refine sq270_0 (bWp_mono _) hA ⟨by omega, by omega⟩ ⟨by omega, by omega⟩ ⟨fun y => ?_, fun y => ?_⟩
  · have := Lp (hi - lo).toNat lo (-1) (.float 0) (.float 0) (by omega) (Int.le_refl _) (Or.inl ⟨rfl, fun p hp _ => (p1 p hp).1.1⟩)
    rw [show lo = 0 by omega] at this
    exact this
  · have := Lp (hi - lo).toNat lo (-1) (.float 0) (.float 0) (by omega) (Int.le_refl _) (Or.inl ⟨rfl, fun p hp _ => (p1 p hp).1.1⟩)
    rw [show lo = 32 by omega] at this
    exact this
end

/-! THE PLAN, 10: the reference looks at some targets and all below them -/
def bLk2 : List Nat := [60, 61, 62, 63, 64, 65, 66, 67, 68, 69, 94, 95, 96, 97, 98, 99]
/-- what the reference knows of a configured target that it has looked at -/
def bLkd (σ s : bSt) (x : Int) : Prop := bi s 95 x = bFx σ x % 8 ∧ bi s 96 x = (if bFx σ x % 8 = 6 then bFx σ x / 8 else -1) ∧ (bFx σ x ≠ 1 → bFx σ x ≠ 2 → bFx σ x ≠ 3 → bi s 97 x = bNu σ (x / 256) (x % 256) ∧ bi s 98 x = bVe σ (x / 256) (x % 256))
/-- it has looked, at those of set m -/
def bLook (m : Int) (σ s : bSt) : Prop := s.2 = σ.2 ∧ bUn bLk2 [7] σ s ∧ (∀ x, 0 ≤ x → x < 4096 → bi s 99 x = -9) ∧ (∀ x, 0 ≤ x → bTgk σ (x / 256) → bi s 94 x ≠ 0 → bLkd σ s x ∧ ∀ k, 0 ≤ k → k < bi σ 85 (x / 256) → bi σ 86 (6 * (x / 256) + k) = 2 → bi s 94 (bNod σ x k) ≠ 0) ∧ ∀ t, bTgk σ t → bAnd (bShr m t) 1 = 1 → bi s 94 (256 * t + bi σ 10 0) ≠ 0
section
variable {d : Nat} {σ s t u e r r' : bSt} {f : Int → bSt → Prop} {fv : bSt → Prop} {F : Int → Int} {x y k n m p v w o j l a i t c q : Int}
theorem bLk2_pag (h : bUn bLk2 [7] σ s) : bPag σ s :=
  ⟨fun a ha i => h.1 a (by
    simp only [List.mem_cons, List.not_mem_nil, or_false] at ha
    rcases ha with rfl | rfl | rfl | rfl | rfl | rfl | rfl | rfl | rfl | rfl | rfl | rfl | rfl | rfl | rfl | rfl | rfl | rfl <;> decide) (by
    simp only [List.mem_cons, List.not_mem_nil, or_false] at ha
    rcases ha with rfl | rfl | rfl | rfl | rfl | rfl | rfl | rfl | rfl | rfl | rfl | rfl | rfl | rfl | rfl | rfl | rfl | rfl <;> decide) i, h.2.1 17 (by decide) (by decide), h.2.1 22 (by decide) (by decide), fun t => h.1 (bTi t) (by rw [bTi_m]; decide) (by rw [bTi_m]; decide) 4⟩
theorem bFx_z (hT : bTg σ) (x0 : 0 ≤ x) (ht : bTgk σ (x / 256)) (h : bFx σ x % 8 = 0) : bFx σ x = 0 := by
  have ic := bIc_at hT ht
  rw [bFx_s hT x0 ht] at h ⊢
  have L : ∀ (m : Nat) (i q : Int), 0 ≤ i → i + m = bi σ 85 (x / 256) → bFiS σ (bFx σ) (x / 256) (x % 256) m i q % 8 = 0 → bFiS σ (bFx σ) (x / 256) (x % 256) m i q = 0 := by
    intro m
    induction m with
    | zero =>
      intro i q i0 hi h
      unfold bFiS at h ⊢
      by_cases w : 40 < q
      · rw [if_pos w] at h; exact absurd h (by decide)
      · rw [if_neg w]
    | succ m ih =>
      intro i q i0 hi h
      rw [bFiS_s] at h ⊢
      by_cases w : bIf σ (bFx σ) (x / 256) (x % 256) i = 0
      · rw [if_pos w] at h ⊢
        exact ih (i + 1) _ (by omega) (by omega) h
      · rw [if_neg w] at h
        exfalso
        unfold bIf at h w
        by_cases k0 : bi σ 86 (6 * (x / 256) + i) = 0
        · rw [if_pos k0] at h w
          split at h
          · split at h
            · exact absurd h (by decide)
            · rename_i q1 q2
              rw [if_pos q1, if_neg q2] at w
              exact w rfl
          · exact absurd h (by decide)
        · rw [if_neg k0] at h w
          by_cases k2 : bi σ 86 (6 * (x / 256) + i) = 2
          · rw [if_pos k2] at h w
            by_cases z : bFx σ (bi σ 87 (6 * (x / 256) + i) * 256 + bBw σ (x / 256) (x % 256)) = 0
            · rw [if_pos z] at w; exact absurd rfl w
            · rw [if_neg z] at h; omega
          · rw [if_neg k2] at w; exact absurd rfl w
  unfold bF1 at h ⊢
  by_cases a1 : bi σ 57 (bi σ 75 (x / 256)) = 0
  · rw [if_pos a1] at h; exact absurd h (by decide)
  rw [if_neg a1] at h ⊢
  by_cases a2 : bNu σ (x / 256) (x % 256) = -1
  · rw [if_pos a2] at h; exact absurd h (by decide)
  rw [if_neg a2] at h ⊢
  by_cases a3 : bVe σ (x / 256) (x % 256) = -1
  · rw [if_pos a3] at h; exact absurd h (by decide)
  rw [if_neg a3] at h ⊢
  exact L _ 0 0 (by decide) (by omega) h
theorem w241 (hF : bFi σ) (hL : bTl σ) (hT : bTg σ) (hS : bRs σ) (hN : ∀ t, bTgk σ t → bRn1 σ σ t) (hm : bRg m) (h : ∀ s, bLook m σ s → fv s) : bWp (d + 6) 241 [.ref 12, .int (bn m)] σ (bRv fv) := by
  have tc := hT.1
  have c0 : 0 ≤ bi σ 10 0 ∧ bi σ 10 0 < 256 := by
    have e := hL.2.2.2
    have a0 := hL.2.2.1 0 (by decide) (by decide)
    have a1 := hL.2.2.1 1 (by decide) (by decide)
    have a2 := hL.2.2.1 2 (by decide) (by decide)
    have a3 := hL.2.2.1 3 (by decide) (by decide)
    omega
  refine ⟨rfl, fun A hA => sq241_0 (bWp_mono _) hA hm (w238 hL ?_)⟩
  have mod : ∀ {s}, bUn bLk2 [7] σ s → bFi s ∧ bTl s ∧ bTg s ∧ bRs s := fun {s} u => ⟨bFi_un u (by decide) hF, bTl_un u (by decide) (by decide) hL, bTg_un u (by decide) (by decide) hT, bRs_un u (by decide) hS⟩
  -- what is needed is closed
  let Cl : bSt → Int → Prop := fun s x => bi s 94 x ≠ 0 → ∀ k, 0 ≤ k → k < bi σ 85 (x / 256) → bi σ 86 (6 * (x / 256) + k) = 2 → bi s 94 (bNod σ x k) ≠ 0
  let Ro : bSt → Prop := fun s => ∀ t, bTgk σ t → bAnd (bShr m t) 1 = 1 → bi s 94 (256 * t + bi σ 10 0) ≠ 0
  -- third loop: the errors
  have L3 : ∀ (n : Nat) (x : Int) (s : bSt) (v1 v2 v4 : Value), x + n = 256 * bi σ 12 22 → 0 ≤ x → s.2 = σ.2 → bUn bLk2 [7] σ s → (∀ x, 0 ≤ x → x < 4096 → bi s 99 x = -9) → (∀ x, 0 ≤ x → bTgk σ (x / 256) → Cl s x) → Ro s → (∀ y, 0 ≤ y → y < x → bi s 94 y ≠ 0 → bLkd σ s y) → A (90, [.ref 12, v1, v2, .int (bn x), v4], [], s) := by
    intro n
    induction n with
    | zero =>
      intro x s v1 v2 v4 hx x0 s2 M a99 cl ro ld
      have ag := bLk2_pag M
      refine sq241_90 (bWp_mono _) hA ⟨by omega, by omega⟩ ?_
      rw [ag.2.2.1]
      refine ⟨⟨by omega, by omega⟩, fun w => absurd w (by omega), fun _ => h s ⟨s2, M, a99, fun y y0 yt w => ⟨ld y y0 (by have := yt.2; omega) w, cl y y0 yt w⟩, ro⟩⟩
    | succ n ih =>
      intro x s v1 v2 v4 hx x0 s2 M a99 cl ro ld
      have ag := bLk2_pag M
      have xt : bTgk σ (x / 256) := ⟨by omega, by omega⟩
      refine sq241_90 (bWp_mono _) hA ⟨by omega, by omega⟩ ?_
      rw [ag.2.2.1]
      refine ⟨⟨by omega, by omega⟩, fun _ => ⟨⟨by omega, by omega⟩, fun w => ⟨⟨by omega, by omega⟩, ?_⟩, fun w => ?_⟩, fun w => absurd (show x < 256 * bi σ 12 22 by omega) w⟩
      · refine ih (x + 1) s _ _ _ (by omega) (by omega) s2 M a99 cl ro (fun y y0 y1 z => ?_)
        by_cases e : y = x
        · rw [e] at z; exact absurd w z
        · exact ld y y0 (by omega) z
      · generalize hs1 : bw s 96 x (-1) = s1
        have M1 : bUn bLk2 [7] σ s1 := by rw [← hs1]; exact bUn_w M (by decide) (by decide)
        have ag1 := bLk2_pag M1
        obtain ⟨m1, m2, m3, m4⟩ := mod M1
        have ne1 : ∀ a, a ≠ 96 → ∀ j, bi s1 a j = bi s a j := fun a q j => by rw [← hs1, bi_ne q]
        have n96 : ∀ y, 0 ≤ y → y ≠ x → bi s1 96 y = bi s 96 y := fun y y0 yx => by rw [← hs1, bi_nj x0 y0 yx]
        have x96 : bi s1 96 x = -1 := by rw [← hs1, bi_eq (by decide)]
        have h4 : ∀ t, bTgk s1 t → bRn1 s1 s1 t := fun t ht => by
          have := hN t ⟨ht.1, by rw [← ag1.2.2.1]; exact ht.2⟩
          have e79 : bi s1 79 t = bi σ 79 t := M1.1 79 (by decide) (by decide) t
          unfold bRn1 at this ⊢
          rw [ag1.1 78 (by decide), e79, ag1.2.2.2]
          refine ⟨this.1, fun q => ?_, this.2.2⟩
          obtain ⟨u, hu, hy, h4⟩ := this.2.1 q
          exact ⟨u, bEvRun_m hu (fun b hb j => M1.1 b (by revert hb; simp only [List.mem_cons, List.not_mem_nil, or_false]; rintro (rfl | rfl | rfl | rfl | rfl) <;> decide) (by revert hb; simp only [List.mem_cons, List.not_mem_nil, or_false]; rintro (rfl | rfl | rfl | rfl | rfl) <;> decide) j), hy, h4⟩
        refine w242 (F := bFx σ) m1 m2 m3 m4 h4 x0 ⟨xt.1, by rw [ag1.2.2.1]; exact xt.2⟩ (fun k k0 k1 hK => ?_) fun s3 E => ⟨⟨by omega, by omega⟩, ?_⟩
        · rw [ag1.1 85 (by decide)] at k1
          rw [ag1.1 86 (by decide)] at hK
          have en : bNod s1 x k = bNod σ x k := by unfold bNod; rw [ag1.1 87 (by decide), bBw_m ag1]
          obtain ⟨⟨y0, y1, y2⟩, _⟩ := bNd_at hT xt k0 k1 hK
          have ldy := ld (bNod σ x k) y0 (by omega) (cl x x0 xt w k k0 k1 hK)
          rw [en, ne1 95 (by decide), ldy.1]
          exact ⟨fun z => bFx_z hT y0 y2 z, fun z => by rw [z]; rfl⟩
        · rw [bF1_m ag1, ← bFx_s hT x0 xt] at E ⊢
          obtain ⟨E1, E2, E3, E4, E5⟩ := E
          have M3 : bUn bLk2 [7] σ (bw s3 95 x (bFx σ x % 8)) := bUn_w (bUn_trans M1 (bUn_mono E2 (by decide) (by decide))) (by decide) (by decide)
          have ne3 : ∀ a, a ≠ 95 → ∀ j, bi (bw s3 95 x (bFx σ x % 8)) a j = bi s3 a j := fun a q j => bi_ne q
          have k94 : ∀ j, bi (bw s3 95 x (bFx σ x % 8)) 94 j = bi s 94 j := fun j => by rw [ne3 94 (by decide), E2.1 94 (by decide) (by decide), ne1 94 (by decide)]
          have k99 : ∀ j, bi (bw s3 95 x (bFx σ x % 8)) 99 j = bi s 99 j := fun j => by rw [ne3 99 (by decide), E2.1 99 (by decide) (by decide), ne1 99 (by decide)]
          refine ih (x + 1) _ _ _ _ (by omega) (by omega) (by show s3.2 = _; rw [E1, ← hs1]; exact s2) M3 (fun y y0 y1 => by rw [k99]; exact a99 y y0 y1) (fun y y0 yt z k k0 k1 hK => ?_) (fun t ht z => by rw [k94]; exact ro t ht z) (fun y y0 y1 z => ?_)
          · rw [k94] at z ⊢
            exact cl y y0 yt z k k0 k1 hK
          · rw [k94] at z
            unfold bLkd
            rw [ne3 96 (by decide), ne3 97 (by decide), ne3 98 (by decide)]
            by_cases e : y = x
            · rw [e, bi_eq ⟨by omega, by omega⟩, E4, x96]
              refine ⟨rfl, rfl, fun z1 z2 z3 => ?_⟩
              rw [(E5 z1 z2 z3).1, (E5 z1 z2 z3).2, bNu_m ag1, bVe_m ag1]
              exact ⟨rfl, rfl⟩
            · obtain ⟨l1, l2, l3⟩ := ld y y0 (by omega) z
              rw [bi_nj x0 y0 e, E2.1 95 (by decide) (by decide), ne1 95 (by decide), E3 96 (by decide) y y0 e, E3 97 (by decide) y y0 e, E3 98 (by decide) y y0 e, n96 y y0 e, ne1 97 (by decide), ne1 98 (by decide)]
              exact ⟨l1, l2, l3⟩
  -- second loop: what is below is needed too
  have L2 : ∀ (n : Nat) (s : bSt) (v1 v2 v4 : Value), (n : Int) ≤ 256 * bi σ 12 22 → s.2 = σ.2 → bUn bLk2 [7] σ s → (∀ x, 0 ≤ x → x < 4096 → bi s 99 x = -9) → (∀ x, (n : Int) ≤ x → bTgk σ (x / 256) → Cl s x) → Ro s → A (43, [.ref 12, v1, v2, .int (bn ((n : Int) - 1)), v4], [], s) := by
    intro n
    induction n with
    | zero =>
      intro s v1 v2 v4 hn s2 M a99 cl ro
      exact sq241_43 (bWp_mono _) hA (by decide) ⟨fun _ => L3 (256 * bi σ 12 22).toNat 0 s _ _ _ (by omega) (by decide) s2 M a99 (fun x x0 xt => cl x (by omega) xt) ro (fun y y0 y1 => by omega), fun w => absurd (by decide) w⟩
    | succ n ih =>
      intro s v1 v2 v4 hn s2 M a99 cl ro
      have en : ((n + 1 : Nat) : Int) - 1 = n := by omega
      rw [en]
      have xt : bTgk σ ((n : Int) / 256) := ⟨by omega, by omega⟩
      have ic := bIc_at hT xt
      refine sq241_43 (bWp_mono _) hA ⟨by omega, by omega⟩ ⟨fun w => absurd w (by omega), fun _ => ⟨by omega, ⟨by omega, by omega⟩, ?_⟩⟩
      have I : ∀ (m : Nat) (i : Int) (s : bSt), i + m = bi σ 85 ((n : Int) / 256) → 0 ≤ i → s.2 = σ.2 → bUn bLk2 [7] σ s → (∀ x, 0 ≤ x → x < 4096 → bi s 99 x = -9) → (∀ x, ((n + 1 : Nat) : Int) ≤ x → bTgk σ (x / 256) → Cl s x) → Ro s → (bi s 94 n ≠ 0 → ∀ k, 0 ≤ k → k < i → bi σ 86 (6 * ((n : Int) / 256) + k) = 2 → bi s 94 (bNod σ n k) ≠ 0) → A (51, [.ref 12, v1, v2, .int (bn n), .int (bn (6 * ((n : Int) / 256) + i))], [], s) := by
        intro m
        induction m with
        | zero =>
          intro i s hi i0 s2 M a99 cl ro pr
          have ag := bLk2_pag M
          have nx : ∀ v2', A (43, [.ref 12, v1, v2', .int (bn ((n : Int) - 1)), .int (bn (6 * ((n : Int) / 256) + i))], [], s) := fun v2' => ih s v1 v2' _ (by omega) s2 M a99 (fun x x0 xt2 => by
            by_cases e : x = n
            · rw [e]; exact fun w k k0 k1 => pr w k k0 (by omega)
            · exact cl x (by omega) xt2) ro
          refine sq241_51 (bWp_mono _) hA ⟨by omega, by omega⟩ ⟨by omega, by omega⟩ ⟨⟨by omega, by omega⟩, fun w => ⟨⟨by omega, by omega⟩, nx _⟩, fun w => ⟨by omega, ⟨by omega, by omega⟩, ⟨by omega, by omega⟩, ?_⟩⟩
          rw [ag.1 85 (by decide)]
          exact ⟨⟨by omega, by omega⟩, fun z => absurd z (by omega), fun _ => ⟨⟨by omega, by omega⟩, nx _⟩⟩
        | succ m ihm =>
          intro i s hi i0 s2 M a99 cl ro pr
          have ag := bLk2_pag M
          obtain ⟨m1, m2, m3, m4⟩ := mod M
          refine sq241_51 (bWp_mono _) hA ⟨by omega, by omega⟩ ⟨by omega, by omega⟩ ⟨⟨by omega, by omega⟩, fun w => ⟨⟨by omega, by omega⟩, ?_⟩, fun w => ⟨by omega, ⟨by omega, by omega⟩, ⟨by omega, by omega⟩, ?_⟩⟩
          · exact ih s v1 _ _ (by omega) s2 M a99 (fun x x0 xt2 => by
              by_cases e : x = n
              · rw [e]; exact fun z => absurd w z
              · exact cl x (by omega) xt2) ro
          · rw [ag.1 85 (by decide)]
            refine ⟨⟨by omega, by omega⟩, fun _ => ⟨⟨by omega, by omega⟩, fun hK => ?_, fun hK => ?_⟩, fun z => absurd (show 6 * ((n : Int) / 256) + i < 6 * ((n : Int) / 256) + bi σ 85 ((n : Int) / 256) by omega) z⟩
            · have hK2 : bi σ 86 (6 * ((n : Int) / 256) + i) = 2 := by rw [← ag.1 86 (by decide)]; exact hK
              obtain ⟨⟨y0, y1, y2⟩, _⟩ := bNd_at hT xt i0 (show i < bi σ 85 ((n : Int) / 256) by omega) hK2
              have y22 := y2.2
              have eN : bNod s n i = bNod σ n i := by unfold bNod; rw [ag.1 87 (by decide), bBw_m ag]
              refine w240 m3 (by omega) ⟨xt.1, by rw [ag.2.2.1]; exact xt.2⟩ i0 (by rw [ag.1 85 (by decide)]; omega) hK ?_
              rw [eN]
              refine ⟨⟨y0, by omega⟩, ⟨by omega, by omega⟩, ?_⟩
              rw [show 6 * ((n : Int) / 256) + i + 1 = 6 * ((n : Int) / 256) + (i + 1) by omega]
              generalize hy : bNod σ n i = y at *
              have mono : ∀ z, 0 ≤ z → bi s 94 z ≠ 0 → bi (bw s 94 y 1) 94 z ≠ 0 := fun z z0 q => by
                rw [bi_bw y0 z0 (by decide)]
                by_cases e : z = y
                · rw [if_pos ⟨rfl, e⟩]; decide
                · rw [if_neg (fun q => e q.2)]; exact q
              have back : ∀ z, 0 ≤ z → z ≠ y → bi (bw s 94 y 1) 94 z = bi s 94 z := fun z z0 q => bi_nj y0 z0 q
              refine ihm (i + 1) _ (by omega) (by omega) s2 (bUn_w M (by decide) (by decide)) (fun x x0 x1 => by rw [bi_ne (by decide)]; exact a99 x x0 x1) (fun x x0 xt2 q k k0 k1 hk => ?_) (fun t ht q => mono _ (by have := ht.1; omega) (ro t ht q)) (fun q k k0 k1 hk => ?_)
              · rw [back x (by omega) (by omega)] at q
                obtain ⟨⟨u0, _⟩, _⟩ := bNd_at hT xt2 k0 k1 hk
                exact mono _ u0 (cl x x0 xt2 q k k0 k1 hk)
              · rw [back _ (by omega) (by omega)] at q
                by_cases e : k = i
                · rw [e, hy, bi_eq (by decide)]; decide
                · obtain ⟨⟨u0, _⟩, _⟩ := bNd_at hT xt k0 (show k < bi σ 85 ((n : Int) / 256) by omega) hk
                  exact mono _ u0 (pr q k k0 (by omega) hk)
            · have hK2 : bi σ 86 (6 * ((n : Int) / 256) + i) ≠ 2 := by rw [← ag.1 86 (by decide)]; exact hK
              refine ⟨⟨by omega, by omega⟩, ?_⟩
              rw [show 6 * ((n : Int) / 256) + i + 1 = 6 * ((n : Int) / 256) + (i + 1) by omega]
              refine ihm (i + 1) s (by omega) (by omega) s2 M a99 cl ro (fun q k k0 k1 hk => ?_)
              by_cases e : k = i
              · rw [e] at hk; exact absurd hk hK2
              · exact pr q k k0 (by omega) hk
      have := I (bi σ 85 ((n : Int) / 256)).toNat 0 s (by omega) (by decide) s2 M a99 (fun x x0 xt2 => cl x x0 xt2) ro (fun _ k k0 k1 => by omega)
      rw [Int.add_zero] at this
      exact this
  -- first loop: the roots
  have L1 : ∀ (n : Nat) (x : Int) (s : bSt) (v4 : Value), x + n = 4096 → 0 ≤ x → s.2 = σ.2 → bUn bLk2 [7] σ s → (∀ y, 0 ≤ y → y < x → bi s 99 y = -9 ∧ (bAnd (bShr m (y / 256)) 1 = 1 → y % 256 = bi σ 10 0 → bi s 94 y ≠ 0)) → A (5, [.ref 12, .int (bn m), .int (bn (bi σ 10 0)), .int (bn x), v4], [], s) := by
    intro n
    induction n with
    | zero =>
      intro x s v4 hx x0 s2 M D
      have ag := bLk2_pag M
      refine sq241_5 (bWp_mono _) hA hm ⟨by omega, by omega⟩ ⟨by omega, by omega⟩ ⟨fun w => absurd w (by omega), fun _ => ?_⟩
      rw [ag.2.2.1]
      refine ⟨⟨by omega, by omega⟩, ⟨by omega, by omega⟩, ?_⟩
      have := L2 (256 * bi σ 12 22).toNat s (.int (bn m)) (.int (bn (bi σ 10 0))) v4 (by omega) s2 M (fun y y0 y1 => (D y y0 (by omega)).1) (fun y y0 yt => by have := yt.2; omega) (fun t ht z => by
        have h1 := ht.1; have h2 := ht.2
        exact (D (256 * t + bi σ 10 0) (by omega) (by omega)).2 (by rw [show (256 * t + bi σ 10 0) / 256 = t by omega]; exact z) (by omega))
      rw [show (((256 * bi σ 12 22).toNat : Nat) : Int) = 256 * bi σ 12 22 by omega] at this
      exact this
    | succ n ih =>
      intro x s v4 hx x0 s2 M D
      have x4 : x < 4096 := by omega
      have go : ∀ b : Int, (b = 0 ∨ b = 1) → (bAnd (bShr m (x / 256)) 1 = 1 → x % 256 = bi σ 10 0 → b ≠ 0) → A (5, [.ref 12, .int (bn m), .int (bn (bi σ 10 0)), .int (bn (x + 1)), v4], [], bw (bw s 94 x b) 99 x (-9)) := fun b hb h2 => by
        have rb : bRg b := by rcases hb with e | e <;> rw [e] <;> decide
        refine ih (x + 1) _ _ (by omega) (by omega) s2 (bUn_w (bUn_w M (by decide) (by decide)) (by decide) (by decide)) (fun y y0 y1 => ?_)
        rw [bi_bw x0 y0 (by decide), bi_ne (by decide), bi_ne (by decide), bi_bw x0 y0 rb]
        by_cases e : y = x
        · rw [if_pos ⟨rfl, e⟩, if_pos ⟨rfl, e⟩, e]
          exact ⟨rfl, h2⟩
        · rw [if_neg (fun q => e q.2), if_neg (fun q => e q.2)]
          exact D y y0 (by omega)
      exact sq241_5 (bWp_mono _) hA hm ⟨by omega, by omega⟩ ⟨by omega, by omega⟩ ⟨fun _ => ⟨x0, fun w => ⟨fun w2 => ⟨⟨x0, x4⟩, ⟨by omega, by omega⟩, go 1 (Or.inr rfl) (fun _ _ => by decide)⟩, fun w2 => ⟨⟨x0, x4⟩, ⟨by omega, by omega⟩, go 0 (Or.inl rfl) (fun _ z => absurd z w2)⟩⟩, fun w => ⟨⟨x0, x4⟩, ⟨by omega, by omega⟩, go 0 (Or.inl rfl) (fun z => absurd z w)⟩⟩, fun w => absurd x4 w⟩
  exact L1 4096 0 σ _ (by decide) (by decide) rfl bUn_refl (fun y y0 y1 => by omega)
end

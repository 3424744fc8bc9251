/-! WHAT AN ACTION GIVES, 5: the class makes all anew -/
/-- what comes of a node from nothing, M what comes of all -/
def bGkf (σ : bSt) (M : Int → Int) (x : Int) : Prop := (bFx σ x ≠ 0 ∧ M x = -1) ∨ (bFx σ x = 0 ∧ ((∃ k, 0 ≤ k ∧ k < bi σ 85 (x / 256) ∧ bi σ 86 (6 * (x / 256) + k) = 2 ∧ M (bNod σ x k) = -1) ∧ M x = -1 ∨
  (∀ k, 0 ≤ k → k < bi σ 85 (x / 256) → bi σ 86 (6 * (x / 256) + k) = 2 → M (bNod σ x k) ≠ -1) ∧ M x = bGiv σ (bi σ 76 (x / 256)) (bNu σ (x / 256) (x % 256) + bVe σ (x / 256) (x % 256)) (bi σ 75 (x / 256)) (bCof σ (bIl σ M x (bi σ 85 (x / 256)).toNat)) (bIl σ M x (bi σ 85 (x / 256)).toNat).length))
section
variable {d : Nat} {σ s t r : bSt} {f : Int → bSt → Prop} {fv : bSt → Prop} {fa : Nat → bSt → Prop} {q x y v i op nu ve ho : Int} {L : List Int} {P : Int → Bool} {M N G : Int → Int}
theorem bGkf_c (hT : bTg σ) (ht : bTgk σ (x / 256)) (h : bGkf σ M x) (e0 : N x = M x) (e : ∀ k, 0 ≤ k → k < bi σ 85 (x / 256) → bi σ 86 (6 * (x / 256) + k) = 2 → N (bNod σ x k) = M (bNod σ x k)) : bGkf σ N x := by
  have ic := bIc_at hT ht
  have eL : bIl σ N x (bi σ 85 (x / 256)).toNat = bIl σ M x (bi σ 85 (x / 256)).toNat := bIl_m bPag_refl hT ht e _ (by omega)
  unfold bGkf at h ⊢
  rw [e0, eL]
  refine h.imp id (fun ⟨a, b⟩ => ⟨a, b.imp (fun ⟨⟨k, k0, k1, k2, k3⟩, c⟩ => ⟨⟨k, k0, k1, k2, by rw [e k k0 k1 k2]; exact k3⟩, c⟩) (fun ⟨c1, c2⟩ => ⟨fun k k0 k1 k2 => by rw [e k k0 k1 k2]; exact c1 k k0 k1 k2, c2⟩)⟩)
theorem bGkf_u (h : bGkf σ M x) (k : bGkf σ N x) (hT : bTg σ) (ht : bTgk σ (x / 256)) (e : bFx σ x = 0 → ∀ k, 0 ≤ k → k < bi σ 85 (x / 256) → bi σ 86 (6 * (x / 256) + k) = 2 → N (bNod σ x k) = M (bNod σ x k)) : M x = N x := by
  have ic := bIc_at hT ht
  rcases h with ⟨a1, a2⟩ | ⟨a1, h⟩
  · rcases k with ⟨b1, b2⟩ | ⟨b1, _⟩
    · rw [a2, b2]
    · exact absurd b1 a1
  · have eL : bIl σ N x (bi σ 85 (x / 256)).toNat = bIl σ M x (bi σ 85 (x / 256)).toNat := bIl_m bPag_refl hT ht (e a1) _ (by omega)
    rcases k with ⟨b1, b2⟩ | ⟨b1, k⟩
    · exact absurd a1 b1
    · rw [eL] at k
      rcases h with ⟨⟨j, j0, j1, j2, j3⟩, h⟩ | ⟨hn, h⟩
      · rcases k with ⟨_, k⟩ | ⟨kn, _⟩
        · rw [h, k]
        · exact absurd (by rw [e a1 j j0 j1 j2]; exact j3) (kn j j0 j1 j2)
      · rcases k with ⟨⟨j, j0, j1, j2, j3⟩, k⟩ | ⟨kn, k⟩
        · exact absurd (by rw [← e a1 j j0 j1 j2]; exact j3) (hn j j0 j1 j2)
        · rw [h, k]
/-- without an error no item has one -/
theorem bItm_0 (hT : bTg σ) (x0 : 0 ≤ x) (ht : bTgk σ (x / 256)) (h : bFx σ x = 0) (i0 : 0 ≤ i) (i1 : i < bi σ 85 (x / 256)) : bIf σ (bFx σ) (x / 256) (x % 256) i = 0 := by
  have ic := bIc_at hT ht
  rw [bFx_s hT x0 ht] at h
  unfold bF1 at h
  by_cases a1 : bi σ 57 (bi σ 75 (x / 256)) = 0
  · rw [if_pos a1] at h; exact absurd h (by decide)
  rw [if_neg a1] at h
  by_cases a2 : bNu σ (x / 256) (x % 256) = -1
  · rw [if_pos a2] at h; exact absurd h (by decide)
  rw [if_neg a2] at h
  by_cases a3 : bVe σ (x / 256) (x % 256) = -1
  · rw [if_pos a3] at h; exact absurd h (by decide)
  rw [if_neg a3] at h
  have L : ∀ (m : Nat) (j q : Int), 0 ≤ j → j + m = bi σ 85 (x / 256) → bFiS σ (bFx σ) (x / 256) (x % 256) m j q = 0 → j ≤ i → bIf σ (bFx σ) (x / 256) (x % 256) i = 0 := by
    intro m
    induction m with
    | zero => intro j q j0 hj h hi; omega
    | succ m ih =>
      intro j q j0 hj h hi
      rw [bFiS_s] at h
      by_cases w : bIf σ (bFx σ) (x / 256) (x % 256) j = 0
      · rw [if_pos w] at h
        by_cases e : i = j
        · rw [e]; exact w
        · exact ih (j + 1) _ (by omega) (by omega) h (by omega)
      · rw [if_neg w] at h; exact absurd h w
  exact L (bi σ 85 (x / 256)).toNat 0 0 (by decide) (by omega) h i0
theorem bGl_m {P : Int → Bool} {w : Int} : ∀ n : Nat, w ∈ bGl P n → (0 ≤ w ∧ w < (n : Int)) ∧ P w = true
  | 0, h => absurd h List.not_mem_nil
  | n + 1, h => by
    have e : bGl P (n + 1) = bGl P n ++ if P n then [(n : Int)] else [] := rfl
    rw [e] at h
    rcases List.mem_append.1 h with z | z
    · have := bGl_m n z; exact ⟨by omega, this.2⟩
    · cases hb : P n with
      | true => rw [hb, if_pos rfl] at z; rw [List.mem_singleton.1 z]; exact ⟨by omega, hb⟩
      | false => rw [hb, if_neg (by decide)] at z; exact absurd z List.not_mem_nil
theorem bIl_ok (hF : bFi σ) (hT : bTg σ) (x0 : 0 ≤ x) (ht : bTgk σ (x / 256)) (h : bFx σ x = 0) (hG : ∀ k, 0 ≤ k → k < bi σ 85 (x / 256) → bi σ 86 (6 * (x / 256) + k) = 2 → 0 ≤ G (bNod σ x k) ∧ G (bNod σ x k) < 1000) : ∀ n : Nat, (n : Int) ≤ bi σ 85 (x / 256) → bLok σ (bIl σ G x n)
  | 0, _ => fun w hw => absurd hw List.not_mem_nil
  | n + 1, hn => fun w hw => by
    have e : bIl σ G x (n + 1) = bIl σ G x n ++ bIi σ G x n := rfl
    rw [e] at hw
    rcases List.mem_append.1 hw with z | z
    · exact bIl_ok hF hT x0 ht h hG n (by omega) w z
    · have i0 := bItm_0 hT x0 ht h (i := n) (by omega) (by omega)
      obtain ⟨hD, it⟩ := bItm_at hT ht (i := n) (by omega) (by omega)
      unfold bIi at z
      unfold bIf at i0
      by_cases k0 : bi σ 86 (6 * (x / 256) + n) = 0
      · rw [if_pos k0] at z i0
        rw [List.mem_singleton.1 z]
        have pw : 0 ≤ bi σ 87 (6 * (x / 256) + n) ∧ bi σ 87 (6 * (x / 256) + n) < 48 := by
          rcases it with ⟨_, a, b, _⟩ | ⟨a, _⟩ | ⟨a, _⟩
          · exact ⟨a, b⟩
          · omega
          · omega
        have b := (hF.1 _ pw.1 pw.2).2.1
        by_cases o : bOwn σ (bi σ 87 (6 * (x / 256) + n) / 8) = bi σ 75 (x / 256)
        · rw [if_pos o] at i0
          by_cases o2 : bi σ 56 (bi σ 87 (6 * (x / 256) + n)) = -1
          · rw [if_pos o2] at i0; exact absurd i0 (by decide)
          · exact Or.inl ⟨pw.1, pw.2, by omega⟩
        · rw [if_neg o] at i0; exact absurd i0 (by decide)
      · rw [if_neg k0] at z
        by_cases k2 : bi σ 86 (6 * (x / 256) + n) = 2
        · rw [if_pos k2] at z
          rw [List.mem_singleton.1 z]
          have := hG n (by omega) (by omega) k2
          exact Or.inr (by omega)
        · rw [if_neg k2] at z
          obtain ⟨a, b⟩ := bGl_m 48 z
          unfold bFd at b
          have b2 := of_decide_eq_true b
          have := (hF.1 w a.1 (by omega)).2.1
          exact Or.inl ⟨a.1, by omega, by have := b2.2.1; omega⟩
theorem w84 {t : Int} (hF : bFi σ) (hL : bTl σ) (hT : bTg σ) (h4 : bR4 σ) (hM : bMks σ) (hr : bRg (bi σ 6 10 + 1)) (hA : bAk σ) (hsb : bi σ 3 3 = bi σ 12 68 ∧ (bi σ 12 68 = 0 ∨ bi σ 12 68 = 1)) (h30 : ∀ y, 0 ≤ y → y < 4096 → -1 ≤ bi σ 30 y ∧ bi σ 30 y < 1000) (ht : bTgk σ t)
    (h : ∀ s0 s, bWk σ s0 → bi s0 6 10 = bi σ 6 10 + 1 → bi s0 6 13 = bi σ 6 13 → bCew (bi σ 12 49) s0 s → (∀ y, 0 ≤ y → y < 4096 → -1 ≤ bi s 30 y ∧ bi s 30 y < 1000) → bIno s (bi s 6 11) (t * 256 + bi σ 10 0) → (∀ y, bIno s (bi s 6 11) y → (0 ≤ y ∧ bTgk σ (y / 256)) ∧ bGkf σ (bMd s) y ∧ ∀ k, 0 ≤ k → k < bi σ 85 (y / 256) → bi σ 86 (6 * (y / 256) + k) = 2 → bIno s (bi s 6 11) (bNod σ y k)) → f (bi s 30 (t * 256 + bi σ 10 0)) s) : bWp (d + 6) 84 [.ref 6, .int (bn t)] σ (bRn f) := by
  have tc := hT.1.2.1
  have ht1 := ht.1
  have ht2 := ht.2
  have hc : 0 ≤ bi σ 10 0 ∧ bi σ 10 0 < 256 := by
    have e := hL.2.2.2
    have a0 := hL.2.2.1 0 (by decide) (by decide)
    have a1 := hL.2.2.1 1 (by decide) (by decide)
    have a2 := hL.2.2.1 2 (by decide) (by decide)
    have a3 := hL.2.2.1 3 (by decide) (by decide)
    omega
  have q0 := hA.1
  have hx : 0 ≤ t * 256 + bi σ 10 0 ∧ (t * 256 + bi σ 10 0) / 256 = t := by omega
  refine ⟨rfl, fun A hA' => sq84_0 (bWp_mono _) hA' ⟨by omega, by omega⟩ (w70 hr ?_)⟩
  have W0 := bWk_0 hM hr
  have e0 : bi (bw (bw σ 6 10 (bi σ 6 10 + 1)) 6 11 0) 6 10 = bi σ 6 10 + 1 := by rw [bi_nj (by decide) (by decide) (by decide), bi_eq hr]
  have e013 : bi (bw (bw σ 6 10 (bi σ 6 10 + 1)) 6 11 0) 6 13 = bi σ 6 13 := by rw [bi_nj (by decide) (by decide) (by decide), bi_nj (by decide) (by decide) (by decide)]
  generalize bw (bw σ 6 10 (bi σ 6 10 + 1)) 6 11 0 = s0 at *
  have c0 : bi s0 10 0 = bi σ 10 0 := W0.1.2 10 (by decide) 0
  refine w69 ⟨ht1, by omega⟩ (by rw [c0]; exact hc) ?_
  rw [c0]
  refine w71 hF hL hT h4 W0 hx.1 (by rw [hx.2]; exact ht) fun s W E I => ?_
  have e13 : bi s 6 13 = bi σ 6 13 := E.1.2.trans e013
  have kk := h s
  have AkS := bAk_w hA W.1 e13
  have s49 : bi s 12 49 = bi σ 12 49 := W.1.2 12 (by decide) 49
  have s30 : ∀ j, bi s 30 j = bi σ 30 j := fun j => W.1.2 30 (by decide) j
  have agW := bWk_pag W.1
  have O := W.2.1
  have vb := bVn_b (s := s)
  have cnt := W.2.2.2
  generalize hq : bi σ 12 49 = q at *
  have Lp : ∀ (m : Nat) (l : Int) (u : bSt) (v3 v4 : Value), l + m = bi s 6 11 → 0 ≤ l → bCew q s u → (∀ y, 0 ≤ y → y < 4096 → -1 ≤ bi u 30 y ∧ bi u 30 y < 1000) → (∀ i, 0 ≤ i → i < l → bGkf σ (bMd u) (bi s 28 i)) → A (9, [.ref 6, .int (bn t), .int (bn l), v3, v4], [], u) := by
    intro m
    induction m with
    | zero =>
      intro l u v3 v4 hl l0 C R D
      have uu := bCe_un C
      have u11 : bi u 6 11 = bi s 6 11 := uu.1 6 (by decide) (by decide) 11
      have u28 : ∀ j, bi u 28 j = bi s 28 j := uu.1 28 (by decide) (by decide)
      have u10 : bi u 10 0 = bi σ 10 0 := (uu.1 10 (by decide) (by decide) 0).trans (W.1.2 10 (by decide) 0)
      have ino : ∀ {y n}, bIno s n y ↔ bIno u n y := fun {y n} => ⟨fun w => bIno_e w (Int.le_refl _) (fun i _ _ => u28 i), fun w => bIno_e w (Int.le_refl _) (fun i _ _ => (u28 i).symm)⟩
      refine sq84_9 (bWp_mono _) hA' ⟨by omega, by omega⟩ ⟨by omega, by omega⟩ ⟨fun w => absurd w (by rw [u11]; omega), fun _ => w69 ⟨ht1, by omega⟩ (by rw [u10]; exact hc) ?_⟩
      rw [u10]
      refine w140i (n := 4096) rfl rfl (by decide) hx.1 (by omega) (bRn_i (bi_rg _ _ _) (kk u W (E.1.1.trans e0) e13 C R (by rw [u11]; exact ino.1 I) fun y hy => ?_))
      rw [u11] at hy ⊢
      obtain ⟨i, i0, i1, i2⟩ := ino.2 hy
      obtain ⟨o1, o2, o3, o4⟩ := O.2.2 i i0 i1
      have dk := D i i0 (by omega)
      rw [i2] at o1 o4 dk
      exact ⟨o1, dk, fun k k0 k1 hK => ino.1 (bIno_e (o4 k k0 k1 hK) (by omega) (fun _ _ _ => rfl))⟩
    | succ m ih =>
      intro l u v3 v4 hl l0 C R D
      have uu := bCe_un C
      have u11 : bi u 6 11 = bi s 6 11 := uu.1 6 (by decide) (by decide) 11
      have u28 : ∀ j, bi u 28 j = bi s 28 j := uu.1 28 (by decide) (by decide)
      have u29 : ∀ j, bi u 29 j = bi s 29 j := uu.1 29 (by decide) (by decide)
      have u13 : bi u 6 13 = q := by rw [uu.1 6 (by decide) (by decide), e13, q0.1]
      have agu : bPag σ u := bPag_t agW (bCe_pag C)
      obtain ⟨⟨x0, xt⟩, xv, x29, xk⟩ := O.2.2 l l0 (by omega)
      generalize hxx : bi s 28 l = x at *
      have xt2 := xt.2
      have ic := bIc_at hT xt
      have wu : bUn bWkK [] σ s := bUn_S bUn_refl W.1 (by decide)
      have Fu := bFi_un uu (by decide) (bFi_un wu (by decide) hF)
      have Lu := bTl_un uu (by decide) (by decide) (bTl_un wu (by decide) (by decide) hL)
      have Tu := bTg_un uu (by decide) (by decide) (bTg_un wu (by decide) (by decide) hT)
      have AkU := bAk_e AkS s49 C
      have nok : ∀ k, 0 ≤ k → k < bi σ 85 (x / 256) → bi σ 86 (6 * (x / 256) + k) = 2 → 0 ≤ bNod σ x k ∧ bNod σ x k ≠ x := fun k k0 k1 hK => by
        obtain ⟨⟨y0, y1, _⟩, _⟩ := bNd_at hT xt k0 k1 hK
        exact ⟨y0, fun e => by rw [e] at y1; omega⟩
      -- what is made is put down
      have put : ∀ (u' : bSt) (v : Int) (v3 v4 : Value), bCew q s u' → (∀ j, bi u' 30 j = bi u 30 j) → (-1 ≤ v ∧ v < 1000) → bGkf σ (bMd (bw u' 30 x v)) x → bRg (l + 1) ∧ A (9, [.ref 6, .int (bn t), .int (bn (l + 1)), v3, v4], [], bw u' 30 x v) := by
        intro u' v v3 v4 C' e30 hv ck
        have e2 : ∀ j, 0 ≤ j → bi (bw u' 30 x v) 30 j = if j = x then v else bi u 30 j := fun j j0 => by
          rw [bi_bw x0 j0 ⟨by omega, by omega⟩, e30]; simp only [true_and]
        have e2m : ∀ j, 0 ≤ j → bMd (bw u' 30 x v) j = if j = x then v else bMd u j := e2
        refine ⟨⟨by omega, by omega⟩, ih (l + 1) _ _ _ (by omega) (by omega) (bCe_trans C' (bCe_w C'.2.2.1)) (fun y y0 y1 => ?_) (fun i i0 i1 => ?_)⟩
        · rw [e2 y y0]
          by_cases e : y = x
          · rw [if_pos e]; exact hv
          · rw [if_neg e]; exact R y y0 y1
        · by_cases el : i = l
          · rw [el, hxx]; exact ck
          · have dk := D i i0 (by omega)
            obtain ⟨⟨y0, yt⟩, _, _, yk⟩ := O.2.2 i i0 (by omega)
            by_cases pr : ∃ j, 0 ≤ j ∧ j < l ∧ bi s 28 j = x
            · obtain ⟨j, j0, j1, j2⟩ := pr
              have dx := D j j0 j1
              rw [j2] at dx
              have ev : bi u 30 x = bi (bw u' 30 x v) 30 x := bGkf_u dx ck hT xt (fun _ k k0 k1 hK => by rw [e2 _ (nok k k0 k1 hK).1, if_neg (nok k k0 k1 hK).2])
              have all : ∀ j, 0 ≤ j → bi (bw u' 30 x v) 30 j = bi u 30 j := fun j j0 => by
                by_cases e : j = x
                · rw [e, ← ev]
                · rw [e2 j j0, if_neg e]
              exact bGkf_c hT yt dk (all _ y0) (fun k k0 k1 hK => all _ (bNd_at hT yt k0 k1 hK).1.1)
            · refine bGkf_c hT yt dk ?_ (fun k k0 k1 hK => ?_)
              · rw [e2m _ y0, if_neg (fun e => pr ⟨i, i0, by omega, e⟩)]
              · obtain ⟨j, j0, j1, j2⟩ := yk k k0 k1 hK
                rw [e2m _ (bNd_at hT yt k0 k1 hK).1.1, if_neg (fun e => pr ⟨j, j0, by omega, j2.trans e⟩)]
      have sto : ∀ {u' : bSt} {v : Int} {fv : bSt → Prop}, bRg v → fv (bw u' 30 x v) → bWp (d + 5) 141 [.ref 30, .int (bn x), .int (bn v)] u' (bRv fv) := fun hv k => w141i (n := 4096) hv rfl (by decide) rfl (by decide) x0 (by omega) k
      refine sq84_9 (bWp_mono _) hA' ⟨by omega, by omega⟩ ⟨by omega, by omega⟩ ⟨fun _ => w140i (n := 4096) rfl rfl (by decide) l0 (by omega) ?_, fun w => absurd (show l < bi u 6 11 by rw [u11]; omega) w⟩
      rw [u28, hxx]
      refine w140i (n := 4096) rfl rfl (by decide) x0 (by omega) ?_
      rw [u29, x29]
      refine ⟨fun z => ?_, fun z => sto (by decide) (put u (-1) _ _ C (fun _ => rfl) (by decide) (Or.inl ⟨z, bi_eq (by decide)⟩))⟩
      have tk3 : ∀ t, bTgk u t → bTgk σ t := fun t h => ⟨h.1, by rw [← agu.2.2.1]; exact h.2⟩
      refine w86 Fu Lu Tu (fun t h => by rw [agu.2.2.2]; exact h4 t (tk3 t h)) u13 (by omega) C.2.2.1 R x0 ⟨xt.1, by rw [agu.2.2.1]; exact xt.2⟩ (by rw [bFx_m agu]; exact z) (fun ⟨k, k0, k1, k2, k3⟩ s2 C2 Z2 => ?_) (fun nk s2 C2 Z2 H2 => ?_)
      · rw [agu.1 85 (by decide)] at k1
        rw [agu.1 86 (by decide)] at k2
        have en : bNod u x k = bNod σ x k := by unfold bNod; rw [agu.1 87 (by decide), bBw_m agu]
        rw [en] at k3
        have e30 : ∀ j, bi s2 30 j = bi u 30 j := (bCd_un C2).1 30 (by decide) (by decide)
        refine ⟨fun _ => sto (by decide) (put s2 (-1) _ _ (bCe_trans C (bCe_of C2)) e30 (by decide) (Or.inr ⟨z, Or.inl ⟨⟨k, k0, k1, k2, ?_⟩, bi_eq (by decide)⟩⟩)), fun w => absurd rfl w⟩
        show bi (bw s2 30 x (-1)) 30 (bNod σ x k) = -1
        rw [bi_nj x0 (nok k k0 k1 k2).1 (nok k k0 k1 k2).2, e30]
        exact k3
      · have e30 : ∀ j, bi s2 30 j = bi u 30 j := (bCd_un C2).1 30 (by decide) (by decide)
        have C3 := bCe_trans C (bCe_of C2)
        have Ak2 := bAk_e AkS s49 C3
        have un3 := bCe_un C3
        have e613 : bi s2 6 13 = q := by rw [un3.1 6 (by decide) (by decide), e13, q0.1]
        have e76 : bi u 76 (x / 256) = bi σ 76 (x / 256) := (uu.1 76 (by decide) (by decide) _).trans (W.1.2 76 (by decide) _)
        rw [e76, agu.1 75 (by decide), agu.1 85 (by decide), bNu_m agu, bVe_m agu] at H2
        have en : ∀ k, bNod u x k = bNod σ x k := fun k => by unfold bNod; rw [agu.1 87 (by decide), bBw_m agu]
        have nk2 : ∀ k, 0 ≤ k → k < bi σ 85 (x / 256) → bi σ 86 (6 * (x / 256) + k) = 2 → bi u 30 (bNod σ x k) ≠ -1 := fun k k0 k1 hK => by
          rw [← en]
          exact nk k k0 (by rw [agu.1 85 (by decide)]; exact k1) (by rw [agu.1 86 (by decide)]; exact hK)
        have eL : ∀ v, bIl u (bMd u) x (bi σ 85 (x / 256)).toNat = bIl σ (bMd (bw s2 30 x v)) x (bi σ 85 (x / 256)).toNat := fun v => bIl_m agu hT xt (fun k k0 k1 hK => by
          show bi u 30 (bNod σ x k) = bi (bw s2 30 x v) 30 (bNod σ x k)
          rw [bi_nj x0 (nok k k0 k1 hK).1 (nok k k0 k1 hK).2, e30]) _ (by omega)
        have nkv : ∀ v k, 0 ≤ k → k < bi σ 85 (x / 256) → bi σ 86 (6 * (x / 256) + k) = 2 → bMd (bw s2 30 x v) (bNod σ x k) ≠ -1 := fun v k k0 k1 hK => by
          show bi (bw s2 30 x v) 30 (bNod σ x k) ≠ -1
          rw [bi_nj x0 (nok k k0 k1 hK).1 (nok k k0 k1 hK).2, e30]
          exact nk2 k k0 k1 hK
        have Fs2 := bFi_un un3 (by decide) (bFi_un wu (by decide) hF)
        have ag3 : bPag σ s2 := bPag_t agW (bCe_pag C3)
        have s68 : bi s2 12 68 = bi σ 12 68 := (un3.2.1 68 (by decide) (by decide)).trans (W.1.2 12 (by decide) 68)
        have s33 : bi s2 3 3 = bi σ 3 3 := (un3.1 3 (by decide) (by decide) 3).trans (W.1.2 3 (by decide) 3)
        have uL : bIl u (bMd u) x (bi σ 85 (x / 256)).toNat = bIl σ (bMd u) x (bi σ 85 (x / 256)).toNat := bIl_m agu hT xt (fun _ _ _ _ => rfl) _ (by omega)
        obtain ⟨l40, _, _, _, nuN, veN⟩ := bIl_40 (G := bMd u) hT x0 xt z
        have lok : bLok σ (bIl u (bMd u) x (bi σ 85 (x / 256)).toNat) := by
          rw [uL]
          refine bIl_ok hF hT x0 xt z (fun k k0 k1 hK => ?_) _ (by omega)
          have nn := nk2 k k0 k1 hK
          obtain ⟨⟨y0, y1, y2⟩, _⟩ := bNd_at hT xt k0 k1 hK
          have r := R _ y0 (by have := y2.2; omega)
          show 0 ≤ bi u 30 (bNod σ x k) ∧ bi u 30 (bNod σ x k) < 1000
          omega
        have lok2 : bLok s2 (bIl u (bMd u) x (bi σ 85 (x / 256)).toNat) := fun w hw => by rw [ag3.1 56 (by decide)]; exact lok w hw
        have cof : bCof s2 (bIl u (bMd u) x (bi σ 85 (x / 256)).toNat) = bCof σ (bIl u (bMd u) x (bi σ 85 (x / 256)).toNat) := funext fun i => by unfold bCof; rw [ag3.1 56 (by decide)]
        have TG := hT.2.2.2 _ xt.1 xt.2
        have nr := bNuS_rg (c := x % 256) hT xt (h4 _ xt) (bi σ 83 (x / 256)).toNat 0 (by decide) (by have := TG.2.2.2.2.2.2.2.2.2.2.2.1.2; omega)
        have vr := bVe_rg hL (t := x / 256) (c := x % 256)
        have eNu : bNu σ (x / 256) (x % 256) = bNuS σ (x / 256) (x % 256) (bi σ 83 (x / 256)).toNat 0 := rfl
        refine ⟨fun w => absurd w (by decide), fun _ => ?_⟩
        refine w87z e613 (by omega) (by omega) Z2 (w85 Fs2 ⟨by rw [s33, s68]; exact hsb.1, by rw [s68]; exact hsb.2⟩ Z2 C2.2.2.1 H2 (by rw [uL]; exact l40) lok2 (by omega) fun s3 C4 Z3 => ?_)
        rw [cof, bGiv_m ag3 s68]
        have C5 := bCe_trans C3 (bCe_of C4)
        have f30 : ∀ j, bi s3 30 j = bi u 30 j := fun j => ((bCd_un C4).1 30 (by decide) (by decide) j).trans (e30 j)
        have rg := bGiv_rg (op := bi σ 76 (x / 256)) (ho := bi σ 75 (x / 256)) (c := bCof σ (bIl u (bMd u) x (bi σ 85 (x / 256)).toNat)) (m := (bIl u (bMd u) x (bi σ 85 (x / 256)).toNat).length) (n := bNu σ (x / 256) (x % 256) + bVe σ (x / 256) (x % 256)) hF (by omega) (fun i i0 i1 => (bLok_at hF lok i0 i1).2) (by rw [uL]; exact l40)
        generalize hv : bGiv σ (bi σ 76 (x / 256)) (bNu σ (x / 256) (x % 256) + bVe σ (x / 256) (x % 256)) (bi σ 75 (x / 256)) (bCof σ (bIl u (bMd u) x (bi σ 85 (x / 256)).toNat)) (bIl u (bMd u) x (bi σ 85 (x / 256)).toNat).length = v at *
        have eL3 : bIl u (bMd u) x (bi σ 85 (x / 256)).toNat = bIl σ (bMd (bw s3 30 x v)) x (bi σ 85 (x / 256)).toNat := bIl_m agu hT xt (fun k k0 k1 hK => by
          show bi u 30 (bNod σ x k) = bi (bw s3 30 x v) 30 (bNod σ x k)
          rw [bi_nj x0 (nok k k0 k1 hK).1 (nok k k0 k1 hK).2, f30]) _ (by omega)
        refine sto ⟨by omega, by omega⟩ (put s3 v _ _ C5 f30 rg (Or.inr ⟨z, Or.inr ⟨fun k k0 k1 hK => ?_, ?_⟩⟩))
        · show bi (bw s3 30 x v) 30 (bNod σ x k) ≠ -1
          rw [bi_nj x0 (nok k k0 k1 hK).1 (nok k k0 k1 hK).2, f30]
          exact nk2 k k0 k1 hK
        · rw [← eL3, hv]
          exact bi_eq ⟨by omega, by omega⟩
  exact Lp (bi s 6 11).toNat 0 s _ _ (by omega) (by decide) (bCe_refl (AkS.2.2.2 q (by omega) (by omega))) (fun y y0 y1 => by rw [s30]; exact h30 y y0 y1) (fun i i0 i1 => by omega)
end

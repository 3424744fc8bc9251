/-! ACTIONS, 3: the candidate is described -/
def bCdK : List Nat := [0, 4, 13, 22, 23, 33]
/-- the candidate holds operation, number, version, home and inputs -/
def bHas (s : bSt) (q op nu ve ho : Int) (L : List Int) : Prop := bi s (bAi q) 0 = ho ∧ bi s (bAi q) 1 = L.length ∧ bHl s (bAi q + 13) 0 L ∧ bi s (bNe q) 0 = op ∧ bi s (bNe q) 1 = nu ∧ bi s (bNe q) 2 = ve
section
variable {d : Nat} {σ s t r : bSt} {f : Int → bSt → Prop} {fv : bSt → Prop} {fa : Nat → bSt → Prop} {q x y v i op nu ve ho : Int} {L : List Int} {P : Int → Bool}
theorem bCd_un (h : bCd q σ s) : bUn bCdK [] σ s := by
  have g : ∀ a, a % 256 ∉ bCdK → a % 256 ∉ [0, 13, 4, 22, 23] ∧ a ≠ 33 := fun a ha => by
    unfold bCdK at ha
    simp only [List.mem_cons, List.not_mem_nil, or_false, not_or] at ha ⊢
    omega
  exact ⟨fun a q1 _ i => (bCd_i h (g a q1).1 (g a q1).2).1 i, fun i _ _ => (bCd_i h (b := 12) (by decide) (by decide)).1 i, fun a _ q1 i => (bCd_i h (g a q1).1 (g a q1).2).2.1 i, fun a q1 i => (bCd_i h (g a q1).1 (g a q1).2).2.2.1 i, fun a q1 => (bCd_i h (g a q1).1 (g a q1).2).2.2.2⟩
theorem bCd_pag (h : bCd q σ s) : bPag σ s := by
  have u := bCd_un h
  exact ⟨fun a ha i => u.1 a (by
    simp only [List.mem_cons, List.not_mem_nil, or_false] at ha
    rcases ha with rfl | rfl | rfl | rfl | rfl | rfl | rfl | rfl | rfl | rfl | rfl | rfl | rfl | rfl | rfl | rfl | rfl | rfl <;> decide) (by
    simp only [List.mem_cons, List.not_mem_nil, or_false] at ha
    rcases ha with rfl | rfl | rfl | rfl | rfl | rfl | rfl | rfl | rfl | rfl | rfl | rfl | rfl | rfl | rfl | rfl | rfl | rfl <;> decide) i, u.2.1 17 (by decide) (by decide), u.2.1 22 (by decide) (by decide), fun t => u.1 (bTi t) (by rw [bTi_m]; decide) (by rw [bTi_m]; decide) 4⟩
theorem bAi_m : bAi q % 256 = 0 ∧ bNe q % 256 = 4 ∧ (bAi q + 13) % 256 = 13 ∧ bAi q / 256 = q.toNat + 1 := by unfold bAi bNe; omega
theorem bAi_l (s : bSt) : bLen s (bAi q + 13) = 40 ∧ bTy (bAi q + 13) = 0 := ⟨bLen_of (k := 13) (by unfold bAi; omega) (by decide) rfl, bTy_of (k := 13) (by unfold bAi; omega) rfl⟩
theorem w2 (hz : br σ 33 q = some (bAi q)) (A1 : bAm1 σ q) (h : bHas σ q op nu ve ho L) (hl : L.length < 40) (hv : bRg v) (k : ∀ s, bCd q σ s → br s 33 q = some (bAi q) → bHas s q op nu ve ho (L ++ [v]) → fv s) : bWp (d + 2) 2 [.ref (bAi q), .int (bn v)] σ (bRv fv) := by
  obtain ⟨h0, h1, h2, h3, h4, h5⟩ := h
  obtain ⟨m0, m1, m2, m3⟩ := bAi_m (q := q)
  refine ⟨rfl, fun A hA => sq2_0 (bWp_mono _) hA m0 hv ?_⟩
  rw [show 256 * (1 * (bAi q / 256) + 0) + 13 = bAi q + 13 by unfold bAi; omega, h1]
  refine w141i (n := 40) hv (bAi_l σ).2 (by omega) (bAi_l σ).1 (by decide) (by omega) (by omega) ?_
  have e1 : bi (bw σ (bAi q + 13) (L.length : Int) v) (bAi q) 1 = L.length := by rw [bi_ne (by omega)]; exact h1
  rw [e1]
  have c1 : bCd q σ (bw σ (bAi q + 13) (L.length : Int) v) := bCd_w hz (by simp) (fun w => absurd w (by omega)) (by omega) A1
  have hz1 : br (bw σ (bAi q + 13) (L.length : Int) v) 33 q = some (bAi q) := hz
  have c2 := bCd_w (σ := bw σ (bAi q + 13) (L.length : Int) v) (b := bAi q) (i := 1) (v := (L.length : Int) + 1) hz1 (by simp) (fun _ => Or.inr rfl) (by decide) c1.2.2.1
  refine ⟨⟨by omega, by omega⟩, k _ (bCd_trans c1 c2) hz ⟨?_, ?_, ?_, ?_, ?_, ?_⟩⟩
  · rw [bi_nj (by decide) (by decide) (by decide), bi_ne (by omega)]; exact h0
  · rw [bi_eq ⟨by omega, by omega⟩, List.length_append]; rfl
  · refine bHl_m (s := bw σ (bAi q + 13) (L.length : Int) v) ?_ (fun j => bi_ne (by omega))
    have := bHl_app h2 (Int.le_refl _) hv
    rwa [Int.zero_add] at this
  · rw [bi_ne (by unfold bNe bAi; omega), bi_ne (by unfold bNe bAi; omega)]; exact h3
  · rw [bi_ne (by unfold bNe bAi; omega), bi_ne (by unfold bNe bAi; omega)]; exact h4
  · rw [bi_ne (by unfold bNe bAi; omega), bi_ne (by unfold bNe bAi; omega)]; exact h5
theorem w3 (hz : br σ 33 q = some (bAi q)) (A1 : bAm1 σ q) (h : bHas σ q op nu ve ho L) (hl : (L.length : Int) + bCnp P 48 ≤ 40) (k : ∀ s, bCd q σ s → br s 33 q = some (bAi q) → bHas s q op nu ve ho (L ++ bGl P 48) → fv s) : bWp (d + 3) 3 [.ref (bAi q), .long (bMk P 48)] σ (bRv fv) := by
  obtain ⟨m0, m1, m2, m3⟩ := bAi_m (q := q)
  refine ⟨rfl, fun A hA => sq3_0 (bWp_mono _) hA m0 ?_⟩
  have Lp : ∀ (m n : Nat) (s : bSt), n + m = 48 → bCd q σ s → br s 33 q = some (bAi q) → bHas s q op nu ve ho (L ++ bGl P n) → A (2, [.ref (bAi q), .long (bMk P 48), .float 0, .int (bn n)], [], s) := by
    intro m
    induction m with
    | zero =>
      intro n s hn C Z HS
      have e : n = 48 := by omega
      subst e
      exact sq3_2 (bWp_mono _) hA (by decide) ⟨fun w => absurd w (by decide), fun _ => k s C Z HS⟩
    | succ m ih =>
      intro n s hn C Z HS
      refine sq3_2 (bWp_mono _) hA ⟨by omega, by omega⟩ ⟨fun _ => ?_, fun w => absurd (show (n : Int) < 48 by omega) w⟩
      have nx := ih (n + 1)
      rw [show ((n + 1 : Nat) : Int) = (n : Int) + 1 by omega] at nx
      refine ⟨fun w => ⟨m0, ?_⟩, fun w => ⟨⟨by omega, by omega⟩, ?_⟩⟩
      · have hp := (bMk_b (P := P) n (by omega)).1 w
        have mono : ∀ (a b : Nat), a ≤ b → bCnp P a ≤ bCnp P b := fun a b hab => by
          induction b with
          | zero => rw [Nat.le_zero.1 hab]; exact Int.le_refl _
          | succ b ihb =>
            by_cases e : a = b + 1
            · rw [e]; exact Int.le_refl _
            · have := ihb (by omega)
              have eb : bCnp P (b + 1) = (if P b then 1 else 0) + bCnp P b := rfl
              rw [eb]
              by_cases hb : P b = true
              · rw [if_pos hb]; omega
              · rw [if_neg hb]; omega
        have c1 := mono (n + 1) 48 (by omega)
        have ce : bCnp P (n + 1) = 1 + bCnp P n := by show (if P n then 1 else 0) + bCnp P n = _; rw [hp, if_pos rfl]
        refine w2 Z C.2.2.1 HS ?_ ⟨by omega, by omega⟩ fun s2 C2 Z2 HS2 => ⟨⟨by omega, by omega⟩, ?_⟩
        · rw [List.length_append]
          have := bGl_len (P := P) n
          omega
        · refine nx s2 (by omega) (bCd_trans C C2) Z2 ?_
          show bHas s2 q op nu ve ho (L ++ (bGl P n ++ if P n then [(n : Int)] else []))
          rw [hp, if_pos rfl, ← List.append_assoc]
          exact HS2
      · refine nx s (by omega) C Z ?_
        have hp : P n = false := by
          cases hP : P n with
          | true => exact absurd ((bMk_b (P := P) n (by omega)).2 hP) w
          | false => rfl
        show bHas s q op nu ve ho (L ++ (bGl P n ++ if P n then [(n : Int)] else []))
        rw [hp, if_neg (by decide), List.append_nil]
        exact HS
  exact Lp 48 0 σ (by decide) (bCd_refl A1) hz (by show bHas σ q op nu ve ho (L ++ []); rw [List.append_nil]; exact h)
theorem w38 {e : Nat} (he : e % 256 = 4) (hv : bRg v) (hx : bRg x) (hy : bRg y) (k : fv (bw (bw (bw σ e 0 v) e 1 x) e 2 y)) : bWp (d + 1) 38 [.ref e, .int (bn v), .int (bn x), .int (bn y)] σ (bRv fv) :=
  ⟨rfl, fun _ hA => sq38_0 (bWp_mono _) hA he hv hx hy k⟩
theorem w1 {t : Int} (hT : bTg σ) (ht : bTgk σ t) (hz : br σ 33 q = some (bAi q)) (A1 : bAm1 σ q) (hx : bRg x) (hy : bRg y) (k : ∀ s, bCd q σ s → br s 33 q = some (bAi q) → bHas s q (bi σ 76 t) x y (bi σ 75 t) [] → fv s) : bWp (d + 2) 1 [.ref (bAi q), .ref (bTi t), .int (bn x), .int (bn y)] σ (bRv fv) := by
  obtain ⟨m0, m1, m2, m3⟩ := bAi_m (q := q)
  have TG := hT.2.2.2 t ht.1 ht.2
  have tm := bTi_m (t := t)
  have nt : bTi t ≠ bAi q := fun w => by rw [w] at tm; omega
  have en : 256 * (2 * (bAi q / 256) + 0) + 4 = bNe q := by rw [m3]; unfold bNe; omega
  have na : bNe q ≠ bAi q := fun w => by rw [w] at m1; omega
  refine ⟨rfl, fun A hA => sq1_0 (bWp_mono _) hA m0 tm hx hy ?_⟩
  rw [en]
  have eT : bi (bw (bw σ (bAi q) 0 (bi σ (bTi t) 0)) (bAi q) 1 0) (bTi t) 1 = bi σ (bTi t) 1 := by rw [bi_ne nt, bi_ne nt]
  rw [eT, TG.1.1, TG.2.1.1]
  have r1 : ∀ (s : bSt) (b : Nat) (i v : Int), br (bw s b i v) 33 q = br s 33 q := fun _ _ _ _ => rfl
  have st : ∀ (s : bSt) (b : Nat) (i v : Int), b ∈ [bAi q, bAi q + 13, bNe q] → (b = bAi q → i = 0 ∨ i = 1) → 0 ≤ i → br s 33 q = some (bAi q) → bAm1 s q → bCd q s (bw s b i v) := fun s b i v h1 h2 h3 h4 h5 => bCd_w h4 h1 h2 h3 h5
  have ma : bAi q ∈ [bAi q, bAi q + 13, bNe q] := List.mem_cons_self
  have mn : bNe q ∈ [bAi q, bAi q + 13, bNe q] := List.mem_cons_of_mem _ (List.mem_cons_of_mem _ List.mem_cons_self)
  have c1 := st σ (bAi q) 0 (bi σ 75 t) ma (fun _ => Or.inl rfl) (Int.le_refl _) hz A1
  have c2 := st (bw σ (bAi q) 0 (bi σ 75 t)) (bAi q) 1 0 ma (fun _ => Or.inr rfl) (by decide) (by rw [r1]; exact hz) c1.2.2.1
  have hz2 : br (bw (bw σ (bAi q) 0 (bi σ 75 t)) (bAi q) 1 0) 33 q = some (bAi q) := by rw [r1, r1]; exact hz
  generalize hs : bw (bw σ (bAi q) 0 (bi σ 75 t)) (bAi q) 1 0 = s2 at *
  have c3 := st s2 (bNe q) 0 (bi σ 76 t) mn (fun w => absurd w na) (Int.le_refl _) hz2 c2.2.2.1
  have c4 := st (bw s2 (bNe q) 0 (bi σ 76 t)) (bNe q) 1 x mn (fun w => absurd w na) (by decide) (by rw [r1]; exact hz2) c3.2.2.1
  have c5 := st (bw (bw s2 (bNe q) 0 (bi σ 76 t)) (bNe q) 1 x) (bNe q) 2 y mn (fun w => absurd w na) (by decide) (by rw [r1, r1]; exact hz2) c4.2.2.1
  have ne : bAi q ≠ bNe q := fun w => by rw [w] at m0; omega
  refine ⟨m1, w38 m1 (bi_rg _ _ _) hx hy (k _ (bCd_trans (bCd_trans (bCd_trans (bCd_trans c1 c2) c3) c4) c5) (by rw [r1, r1, r1]; exact hz2) ⟨?_, ?_, bHl_0, ?_, ?_, ?_⟩)⟩
  · rw [bi_ne ne, bi_ne ne, bi_ne ne, ← hs, bi_nj (by decide) (by decide) (by decide), bi_eq (bi_rg _ _ _)]
  · rw [bi_ne ne, bi_ne ne, bi_ne ne, ← hs, bi_eq (by decide)]; rfl
  · rw [bi_nj (by decide) (by decide) (by decide), bi_nj (by decide) (by decide) (by decide), bi_eq (bi_rg _ _ _)]
  · rw [bi_nj (by decide) (by decide) (by decide), bi_eq hx]
  · rw [bi_eq hy]
end

/-! BUILD, 51: the class marks what is wanted -/
/-- those of V are wanted, and how they are run -/
def bmWt (n : Nat) (M : Int → Int) (V : List Int) (s t : bSt) : Prop := t.2 = s.2 ∧ (∀ b, (∀ a, 0 ≤ a → a < (n : Int) → b ≠ bAi a) → ∀ j, bi t b j = bi s b j) ∧ ∀ a, 0 ≤ a → a < (n : Int) → (¬ (∃ y ∈ V, M y = a) → ∀ j, 0 ≤ j → bi t (bAi a) j = bi s (bAi a) j) ∧
  ((∃ y ∈ V, M y = a) → (∀ j, 0 ≤ j → (j < 5 ∨ 8 < j) → bi t (bAi a) j = bi s (bAi a) j) ∧ bi t (bAi a) 5 = 1 ∧ bi t (bAi a) 6 = bi s 89 (bmFs M a V) ∧ bi t (bAi a) 7 = bi s 90 (bmFs M a V) ∧ bi t (bAi a) 8 = bi s 91 (bmFs M a V))
section
variable {d lvl : Nat} {σ s s0 t r s' : bSt} {f : Int → bSt → Prop} {fv : bSt → Prop} {A : bPt → Prop} {x y v a b k i q c : Int} {n n0 m z : Nat} {M : Int → Int} {V W : List Int}
theorem w7 (hT : bTg s) (tk : bTgk s c) (h : fv (bw (bw (bw s (bAi a) 6 (bi s 89 c)) (bAi a) 7 (bi s 90 c)) (bAi a) 8 (bi s 91 c))) : bWp (d + 1) 7 [.ref (bAi a), .ref (bTi c)] s (bRv fv) := by
  obtain ⟨_, _, _, _, _, _, g8, g9, g10, _⟩ := hT.2.2.2 c tk.1 tk.2
  have ne : bTi c ≠ bAi a := by unfold bTi bAi; omega
  refine ⟨rfl, fun A hA => sq7_0 (bWp_mono _) hA bAi_0 bTi_m ?_⟩
  rw [bi_ne ne, bi_ne ne, bi_ne ne, g8.1, g9.1, g10.1]
  exact ⟨g10.2, h⟩
theorem w81 (hn : bi s 6 13 = n) (n120 : n ≤ 120) (hA : ∀ a, 0 ≤ a → a < (n : Int) → br s 33 a = some (bAi a) ∧ bi s (bAi a) 5 = 0) (hT : bTg s) (hO : bOl s = V) (hlen : 0 ≤ bi s 6 11 ∧ bi s 6 11 ≤ 4096) (hV : ∀ y ∈ V, 0 ≤ y ∧ bTgk s (y / 256) ∧ (0 ≤ M y ∧ M y < (n : Int)) ∧ bi s 30 y = M y) (h : ∀ t, bmWt n M V s t → fv t) : bWp (d + 2) 81 [.ref 6] s (bRv fv) := by
  have tc := hT.1
  have olen : V.length = (bi s 6 11).toNat := by rw [← hO]; unfold bOl; rw [List.length_map, List.length_range]
  refine ⟨rfl, fun A hA' => sq81_0 (bWp_mono _) hA' ?_⟩
  have Lp : ∀ (W U : List Int) (t : bSt) (v2 v3 : Value), V = U ++ W → bmWt n M U s t → A (2, [.ref 6, .int (bn U.length), v2, v3], [], t) := by
    intro W
    induction W with
    | nil =>
      intro U t v2 v3 hU F
      rw [List.append_nil] at hU
      have e6 : bi t 6 11 = bi s 6 11 := F.2.1 6 (fun a _ _ e => by unfold bAi at e; omega) 11
      rw [← hU] at F ⊢
      exact sq81_2 (bWp_mono _) hA' ⟨by omega, by omega⟩ ⟨fun w => absurd w (by rw [e6]; omega), fun _ => h t F⟩
    | cons y W ih =>
      intro U t v2 v3 hU F
      have nx := ih (U ++ [y])
      have lenU : U.length + 1 ≤ V.length := by rw [hU, List.length_append, List.length_cons]; omega
      obtain ⟨F1, F2, F3⟩ := F
      have low : ∀ b, (b < 256 ∨ b % 256 ≠ 0) → ∀ j, bi t b j = bi s b j := fun b hb => F2 b fun a _ _ e => by unfold bAi at e; omega
      have at28 : bi s 28 U.length = y := by
        have h1 : (bOl s)[U.length]? = some y := by rw [hO, hU, List.getElem?_append_right (Nat.le_refl _), Nat.sub_self]; rfl
        unfold bOl at h1
        rw [List.getElem?_map, List.getElem?_range (by omega)] at h1
        exact Option.some.inj h1
      have ym : y ∈ V := by rw [hU]; exact List.mem_append_right _ List.mem_cons_self
      obtain ⟨y0, tk, my, m30⟩ := hV y ym
      have tk2 := tk.2
      have r33 : br t 33 (M y) = some (bAi (M y)) := by
        have := (hA (M y) my.1 my.2).1
        unfold br at this ⊢
        rw [F1]; exact this
      have rU : bRg ((U.length : Int) + 1) := ⟨by omega, by omega⟩
      have go : ∀ t2 v2 v3, bmWt n M (U ++ [y]) s t2 → bRg ((U.length : Int) + 1) ∧ A (2, [.ref 6, .int (bn ((U.length : Int) + 1)), v2, v3], [], t2) := fun t2 v2 v3 F => by
        have := nx t2 v2 v3 (by rw [hU, List.append_assoc]; rfl) F
        rw [List.length_append] at this
        exact ⟨rU, this⟩
      have fa := fun a => bmFs_a (M := M) (a := a) (V := U) (W := [y])
      have ex : ∀ a, (∃ z ∈ U ++ [y], M z = a) ↔ (∃ z ∈ U, M z = a) ∨ M y = a := fun a => by
        constructor
        · rintro ⟨z, hz, e⟩
          rcases List.mem_append.1 hz with q | q
          · exact Or.inl ⟨z, q, e⟩
          · rw [List.mem_singleton.1 q] at e; exact Or.inr e
        · rintro (⟨z, hz, e⟩ | e)
          · exact ⟨z, List.mem_append_left _ hz, e⟩
          · exact ⟨y, List.mem_append_right _ List.mem_cons_self, e⟩
      refine sq81_2 (bWp_mono _) hA' ⟨by omega, by omega⟩ ⟨fun _ => w140i (n := 4096) rfl rfl (by decide) (by omega) (by omega) ?_, fun w => absurd (by rw [low 6 (by decide)]; omega) w⟩
      rw [low 28 (by decide), at28]
      refine w140i (n := 4096) rfl rfl (by decide) y0 (by omega) ?_
      rw [low 30 (by decide), m30]
      refine w89 r33 my.1 (by omega) ⟨bAi_0, fun z => ?_, fun z => ?_⟩
      · -- wanted for the first time
        have nU : ¬ ∃ u ∈ U, M u = M y := fun q => by
          have := ((F3 (M y) my.1 my.2).2 q).2.1
          omega
        have same := (F3 (M y) my.1 my.2).1 nU
        have u1 : bUn [0] [] s (bw t (bAi (M y)) 5 1) := ⟨fun b q1 _ j => by
          rw [bi_ne (by intro e; rw [e] at q1; exact q1 (by rw [bAi_0]; decide))]
          exact low b (Or.inr fun e => q1 (by rw [e]; decide)) j, fun j _ _ => by rw [bi_ne (by unfold bAi; omega)]; exact low 12 (by decide) j, fun b _ _ j => by unfold bj; rw [show (bw t (bAi (M y)) 5 1).2 = t.2 from rfl, F1], fun b _ j => by unfold br; rw [show (bw t (bAi (M y)) 5 1).2 = t.2 from rfl, F1], fun b _ => by rw [show (bw t (bAi (M y)) 5 1).2 = t.2 from rfl, F1]⟩
        have T1 := bTg_un u1 (by decide) (by decide) hT
        have tk1 : bTgk (bw t (bAi (M y)) 5 1) (y / 256) := ⟨tk.1, by rw [u1.2.1 22 (by decide) (by decide)]; exact tk.2⟩
        have e89 : ∀ b ∈ [89, 90, 91], ∀ j, bi (bw t (bAi (M y)) 5 1) b j = bi s b j := fun b hb j => by
          simp only [List.mem_cons, List.not_mem_nil, or_false] at hb
          rw [bi_ne (by unfold bAi; omega)]
          exact low b (Or.inl (by omega)) j
        rw [bShr_8 y0 (by omega)]
        refine w120 (T1.2.1 _ tk1.1 tk1.2) tk.1 (by omega) (w7 (d := d) T1 tk1 ?_)
        rw [e89 89 (by decide), e89 90 (by decide), e89 91 (by decide)]
        obtain ⟨_, _, _, _, _, _, g8, g9, g10, _⟩ := hT.2.2.2 _ tk.1 tk.2
        refine go _ _ _ ⟨F1, fun b hb j => ?_, fun a a0 a1 => ?_⟩
        · have := hb (M y) my.1 my.2
          rw [bi_ne this, bi_ne this, bi_ne this, bi_ne this]
          exact F2 b hb j
        · by_cases e : a = M y
          · have ev : ∀ j, 0 ≤ j → bi (bw (bw (bw (bw t (bAi (M y)) 5 1) (bAi (M y)) 6 (bi s 89 (y / 256))) (bAi (M y)) 7 (bi s 90 (y / 256))) (bAi (M y)) 8 (bi s 91 (y / 256))) (bAi (M y)) j = if j = 8 then bi s 91 (y / 256) else if j = 7 then bi s 90 (y / 256) else if j = 6 then bi s 89 (y / 256) else if j = 5 then 1 else bi s (bAi (M y)) j := fun j j0 => by
              rw [bi_bw (by decide) j0 (bi_rg _ _ _), bi_bw (by decide) j0 (bi_rg _ _ _), bi_bw (by decide) j0 (bi_rg _ _ _), bi_bw (by decide) j0 (by decide), same j j0]
              simp only [true_and]
            have fy : bmFs M (M y) (U ++ [y]) = y / 256 := by
              rw [(fa (M y)).2 nU]
              show (if M y = M y then y / 256 else 0) = _
              rw [if_pos rfl]
            rw [e]
            refine ⟨fun q => absurd ((ex _).2 (Or.inr rfl)) q, fun _ => ⟨fun j j0 j1 => ?_, ?_, ?_, ?_, ?_⟩⟩
            · rw [ev j j0, if_neg (by omega), if_neg (by omega), if_neg (by omega), if_neg (by omega)]
            · rw [ev 5 (by decide), if_neg (by decide), if_neg (by decide), if_neg (by decide), if_pos rfl]
            · rw [ev 6 (by decide), if_neg (by decide), if_neg (by decide), if_pos rfl, fy]
            · rw [ev 7 (by decide), if_neg (by decide), if_pos rfl, fy]
            · rw [ev 8 (by decide), if_pos rfl, fy]
          · have na : bAi a ≠ bAi (M y) := by unfold bAi; omega
            have g := F3 a a0 a1
            simp only [bi_ne na]
            refine ⟨fun q => g.1 fun w => q ((ex a).2 (Or.inl w)), fun q => ?_⟩
            have q2 : ∃ z ∈ U, M z = a := ((ex a).1 q).resolve_right (fun w => e w.symm)
            rw [(fa a).1 q2]
            exact g.2 q2
      · -- wanted already
        have iU : ∃ u ∈ U, M u = M y := Classical.byContradiction fun q => z (by
          rw [(F3 (M y) my.1 my.2).1 q 5 (by decide)]
          exact (hA (M y) my.1 my.2).2)
        refine go t _ _ ⟨F1, F2, fun a a0 a1 => ?_⟩
        have g := F3 a a0 a1
        have q3 : (∃ z ∈ U ++ [y], M z = a) ↔ ∃ z ∈ U, M z = a := (ex a).trans ⟨fun w => by
          rcases w with w | w
          · exact w
          · rw [← w]; exact iU, Or.inl⟩
        refine ⟨fun q => g.1 fun w => q (q3.2 w), fun q => ?_⟩
        have q2 := q3.1 q
        rw [(fa a).1 q2]
        exact g.2 q2
  have := Lp V [] s (.float 0) (.float 0) (by rw [List.nil_append]) ⟨rfl, fun _ _ _ => rfl, fun a _ _ => ⟨fun _ _ _ => rfl, fun ⟨z, hz, _⟩ => absurd hz List.not_mem_nil⟩⟩
  exact this
end

/-! ACTIONS: where they lie; the candidate -/
def bAi (a : Int) : Nat := 256 * (a.toNat + 1)
/-- the ids of action q and of its entries -/
def bAd (q : Int) : List Nat := bAid (q.toNat + 1)
/-- an action as it was made: wanted by none, done never -/
def bFre (s : bSt) (q : Int) : Prop := bi s (bAi q) 5 = 0 ∧ (∀ j, 10 ≤ j → j < 15 → bi s (bAi q) j = -1) ∧ (∀ j, 15 ≤ j → j < 18 → bi s (bAi q) j = 2147483647)
/-- the entry that was kept -/
def bKe (q : Int) : Nat := 512 * (q.toNat + 1) + 260
/-- the entry of now -/
def bNe (q : Int) : Nat := 512 * (q.toNat + 1) + 4
/-- a place where no action is: none was made there, or it is as it was made -/
def bAm1 (s : bSt) (q : Int) : Prop := (br s 33 q = none ∧ ∀ b ∈ bAd q, s.2.2.2.1 b = 0) ∨ (br s 33 q = some (bAi q) ∧ bFre s q ∧ bi s (bKe q) 5 = 0 ∧ bi s (bKe q) 8 = -1 ∧ bi s (bKe q) 0 = -1)
def bSo (s : bSt) (q : Int) : Nat := if (br s 33 q).isSome then 1 else 0
/-- nothing has changed but the candidate at place q -/
def bCd (q : Int) (σ s : bSt) : Prop := bKp (33 :: bAd q) σ s ∧ (∀ a, 0 ≤ a → a ≠ q → br s 33 a = br σ 33 a) ∧ bAm1 s q ∧ ((br σ 33 q).isSome → (br s 33 q).isSome) ∧ s.2.2.2.2.1 + 8 * bSo σ q ≤ σ.2.2.2.2.1 + 8 * bSo s q ∧ s.2.2.2.2.2 + 252 * bSo σ q ≤ σ.2.2.2.2.2 + 252 * bSo s q
section
variable {d : Nat} {σ s t r : bSt} {f : Int → bSt → Prop} {fv : bSt → Prop} {fa : Nat → bSt → Prop} {q x y v i : Int}
theorem bCd_refl (h : bAm1 σ q) : bCd q σ σ := ⟨bKp_refl, fun _ _ _ => rfl, h, id, Nat.le_refl _, Nat.le_refl _⟩
theorem bCd_trans (h : bCd q σ s) (k : bCd q s t) : bCd q σ t :=
  ⟨bKp_trans h.1 k.1, fun a a0 a1 => (k.2.1 a a0 a1).trans (h.2.1 a a0 a1), k.2.2.1, fun w => k.2.2.2.1 (h.2.2.2.1 w), by have := h.2.2.2.2.1; have := k.2.2.2.2.1; omega, by have := h.2.2.2.2.2; have := k.2.2.2.2.2; omega⟩
theorem bAd_m {b : Nat} (h : b ∈ bAd q) : b % 256 ∈ [0, 13, 4, 22, 23] := by
  unfold bAd bAid at h
  simp only [List.mem_cons, List.not_mem_nil, or_false] at h ⊢
  omega
theorem bAd_33 : 33 ∉ bAd q := fun h => by
  have := bAd_m h
  revert this
  decide
/-- cells off the candidate -/
theorem bCd_i (h : bCd q σ s) {b : Nat} (hb : b % 256 ∉ [0, 13, 4, 22, 23]) (h33 : b ≠ 33) : (∀ j, bi s b j = bi σ b j) ∧ (∀ j, bj s b j = bj σ b j) ∧ (∀ j, br s b j = br σ b j) ∧ s.2.2.2.1 b = σ.2.2.2.1 b :=
  h.1 b fun w => by
    rcases List.mem_cons.1 w with e | e
    · exact h33 e
    · exact hb (bAd_m e)
/-- a cell of the candidate that doesn't matter -/
theorem bCd_w {b : Nat} (hz : br σ 33 q = some (bAi q)) (hb : b ∈ [bAi q, bAi q + 13, bNe q]) (h5 : b = bAi q → i = 0 ∨ i = 1) (i0 : 0 ≤ i) (h : bAm1 σ q) : bCd q σ (bw σ b i v) := by
  have m : b ∈ bAd q := by
    unfold bAd bAid bAi bNe at *
    simp only [List.mem_cons, List.not_mem_nil, or_false] at hb ⊢
    omega
  have ne : ∀ a, a ≠ b → ∀ j, bi (bw σ b i v) a j = bi σ a j := fun a w j => bi_ne w
  refine ⟨bKw bKp_refl (List.mem_cons_of_mem _ m), fun _ _ _ => rfl, ?_, id, Nat.le_refl _, Nat.le_refl _⟩
  rcases h with ⟨h, _⟩ | ⟨h1, ⟨g1, g2, g3⟩, g5, g6⟩
  · rw [hz] at h; exact absurd h (by intro z; cases z)
  · have kb : bKe q ≠ b := by
      unfold bAi bNe bKe at *
      simp only [List.mem_cons, List.not_mem_nil, or_false] at hb
      omega
    refine Or.inr ⟨h1, ⟨?_, fun j j0 j1 => ?_, fun j j0 j1 => ?_⟩, by rw [ne _ kb]; exact g5, by rw [ne _ kb]; exact g6.1, by rw [ne _ kb]; exact g6.2⟩
    · by_cases e : bAi q = b
      · rw [e, bi_nj i0 (by decide) (by have := h5 e.symm; omega), ← e]; exact g1
      · rw [ne _ e]; exact g1
    · by_cases e : bAi q = b
      · rw [e, bi_nj i0 (by omega) (by have := h5 e.symm; omega), ← e]; exact g2 j j0 j1
      · rw [ne _ e]; exact g2 j j0 j1
    · by_cases e : bAi q = b
      · rw [e, bi_nj i0 (by omega) (by have := h5 e.symm; omega), ← e]; exact g3 j j0 j1
      · rw [ne _ e]; exact g3 j j0 j1
theorem w87 (hq : bi σ 6 13 = q) (q0 : 0 ≤ q) (q1 : q ≤ 120) (h : bAm1 σ q) (k : ∀ s, bCd q σ s → br s 33 q = some (bAi q) → fa (bAi q) s) : bWp (d + 3) 87 [.ref 6] σ (bRa fa) := by
  refine ⟨rfl, fun A hA => sq87_0 (bWp_mono _) hA ?_⟩
  rw [hq]
  refine ⟨fun w => absurd w (by omega), fun _ => ⟨fun _ => ⟨⟨q0, by omega⟩, fun hn => ?_, fun z3 hz => ?_⟩, fun w => absurd (show q < 121 by omega) w⟩⟩
  · rcases h with ⟨_, hm⟩ | ⟨h1, _⟩
    · have e0 : 256 * (q.toNat + 1) + 0 = 256 * (q.toNat + 1) := Nat.add_zero _
      rw [e0]
      have md : 256 * (q.toNat + 1) ∈ bAd q := by unfold bAd bAid; exact List.mem_cons_self
      refine ⟨hm _ md, by omega, w0 (q := q.toNat + 1) (fun b hb hne => ?_) fun s K C F V _ E => ⟨F, ?_, ?_⟩⟩
      · rw [mk_bNew, if_neg hne]; exact hm b hb
      · have e6 : bi s 6 13 = q := by
          rw [(K 6 (fun w => by have := bAd_m (q := q) w; revert this; decide)).1, bi_nN (by omega)]
          exact hq
        rw [e6]; exact ⟨q0, by omega⟩
      · have e6 : bi s 6 13 = q := by
          rw [(K 6 (fun w => by have := bAd_m (q := q) w; revert this; decide)).1, bi_nN (by omega)]
          exact hq
        rw [e6]
        have K0 : bKp (33 :: bAd q) σ s := bKp_trans (bKN bKp_refl (List.mem_cons_of_mem _ md)) (bKp_mono K (fun a ha => List.mem_cons_of_mem _ ha))
        have eb : ∀ a, 0 ≤ a → br (bwr s 33 q (some (256 * (q.toNat + 1)))) 33 a = if a = q then some (256 * (q.toNat + 1)) else br s 33 a := fun a a0 => by
          rw [br_bwr q0 a0]; simp only [true_and]
        have s33 : ∀ a, br s 33 a = br σ 33 a := fun a => by
          rw [(K 33 (fun w => bAd_33 (q := q) w)).2.2.1, br_bNew, if_neg (by omega)]
        have so1 : bSo (bwr s 33 q (some (256 * (q.toNat + 1)))) q = 1 := by unfold bSo; rw [eb q q0, if_pos rfl]; rfl
        have so0 : bSo σ q = 0 := by unfold bSo; rw [hn]; rfl
        refine k _ ⟨bKr K0 List.mem_cons_self, fun a a0 a1 => by rw [eb a a0, if_neg a1, s33], Or.inr ⟨by rw [eb q q0, if_pos rfl]; rfl, ⟨?_, fun j j0 j1 => ?_, fun j j0 j1 => ?_⟩, ?_, ?_, ?_⟩, fun _ => by rw [eb q q0, if_pos rfl]; rfl, ?_, ?_⟩ (by rw [eb q q0, if_pos rfl]; rfl)
        · rw [bi_bwr]
          show bi s (256 * (q.toNat + 1)) 5 = 0
          rw [V 5 (by decide), if_neg (by decide), if_neg (by decide), bi_bNew, if_pos rfl]
        · rw [bi_bwr]
          show bi s (256 * (q.toNat + 1)) j = -1
          rw [V j (by omega), if_pos ⟨j0, j1⟩]
        · rw [bi_bwr]
          show bi s (256 * (q.toNat + 1)) j = _
          rw [V j (by omega), if_neg (by omega), if_pos ⟨j0, j1⟩]
        · rw [bi_bwr]
          show bi s (512 * (q.toNat + 1) + 260) 5 = 0
          rw [(E _ (Or.inr rfl)).1 5 (by decide)]
          rfl
        · rw [bi_bwr]
          show bi s (512 * (q.toNat + 1) + 260) 8 = -1
          rw [(E _ (Or.inr rfl)).1 8 (by decide)]
          rfl
        · rw [bi_bwr]
          show bi s (512 * (q.toNat + 1) + 260) 0 = -1
          rw [(E _ (Or.inr rfl)).1 0 (by decide)]
          rfl
        · rw [so1, so0]
          have := C.1
          show s.2.2.2.2.1 + 0 ≤ _
          have e : (bNew σ (256 * (q.toNat + 1)) 1 18).2.2.2.2.1 = σ.2.2.2.2.1 + 1 := rfl
          rw [e] at this
          omega
        · rw [so1, so0]
          have := C.2
          show s.2.2.2.2.2 + 0 ≤ _
          have e : (bNew σ (256 * (q.toNat + 1)) 1 18).2.2.2.2.2 = σ.2.2.2.2.2 + 18 := rfl
          rw [e] at this
          omega
    · rw [hn] at h1; exact absurd h1 (by intro z; cases z)
  · rcases h with ⟨h1, _⟩ | ⟨h1, h2⟩
    · rw [hz] at h1; exact absurd h1 (by intro z; cases z)
    · have e : z3 = bAi q := by rw [hz] at h1; cases h1; rfl
      rw [e]
      exact k σ (bCd_refl (Or.inr ⟨h1, h2⟩)) h1
end

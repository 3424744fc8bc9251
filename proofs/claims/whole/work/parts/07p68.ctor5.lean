/-! WHAT IS MADE, 5: Buildmill itself (printed by gen10.py) -/
def bLc1 : List Nat := [11, 3, 19, 20, 21]
def bLc3 : List Nat := [11, 7, 34, 35, 36, 37, 38, 39, 40, 41, 42, 43, 44, 45]
def bLc5 : List Nat := [11, 10, 52, 53, 54, 55]
def bLc7 : List Nat := [11, 9, 50, 8, 46, 47, 48, 49, 51]
def bLc9 : List Nat := [11, 6, 27, 28, 29, 30, 31, 32, 33, 0, 13, 4, 22, 23, 260, 278, 279]
def bLcB : List Nat := [11, 5, 1, 14, 15, 257, 270, 271, 2, 16, 17, 18, 24, 25, 26]
def bLcA : List Nat := bLc1 ++ bLc3 ++ bLc5 ++ bLc7 ++ bLc9 ++ bLcB
def bCz (s : bSt) : Prop :=
  ((∀ j, 0 ≤ j → j < 48 → bi s 19 j = -1) ∧ (∀ j, bi s 20 j = 0) ∧ (∀ j, bi s 21 j = 0) ∧ bi s 3 3 = 1) ∧
  ((∀ a, 34 ≤ a → a < 46 → ∀ j, bi s a j = 0) ∧ (∀ j, 0 ≤ j → bi s 7 j = if j = 15 then -1 else if j = 14 then -1 else 0)) ∧
  ((∀ a, 52 ≤ a → a < 56 → ∀ j, bi s a j = 0) ∧ (∀ j, bi s 10 j = 0)) ∧
  ((∀ j, bi s 9 j = 0) ∧ (∀ j, br s 50 j = none) ∧ (∀ j, bi s 51 j = 0) ∧ bTa0 s 0 0 0 0) ∧
  ((∀ j, bi s 6 j = 0) ∧ (∀ a, 27 ≤ a → a < 33 → ∀ j, bi s a j = 0) ∧ (∀ j, br s 33 j = none) ∧ bAc0 s 0) ∧
  ((∀ j, 0 ≤ j → bi s 5 j = if j = 8 then -1 else if j = 6 then 2 else if j = 5 then 1 else 0) ∧ (∀ a ∈ [1, 257, 15, 271, 18, 24, 25, 26], ∀ j, bi s a j = 0) ∧ (∀ j, br s 14 j = none) ∧ (∀ j, br s 270 j = none) ∧ (∀ j, 0 ≤ j → j < 3 → bi s 16 j = 1) ∧ (∀ j, 0 ≤ j → j < 12 → bi s 17 j = -1)) ∧
  (∀ j, bi s 11 j = 0) ∧ bj s 11 7 = Int64.ofNat 1
section
variable {d : Nat} {σ : bSt} {fv : bSt → Prop}
theorem w135 (hm : ∀ b ∈ bLcA, b ≠ 11 → σ.2.2.2.1 b = 0) (hz : ∀ j, bi σ 11 j = 0)
    (h : ∀ s, bKp bLcA σ s → bCo σ s 80 20400 → s.2.2.2.1 11 = 2 → bCz s → fv s) : bWp (d + 4) 135 [.retAddr 11] σ (bRv fv) := by
  refine ⟨rfl, fun A hA => sq135_0 (bWp_mono _) hA ⟨hm 3 (by decide) (by decide), ?_⟩⟩
  refine w30 ?_ ?_ ?_ fun s1 a1 a2 a3 a4 a5 a6 a7 => ?_
  · rw [mk_bNew, if_neg (by decide)]; exact hm 19 (by decide) (by decide)
  · rw [mk_bNew, if_neg (by decide)]; exact hm 20 (by decide) (by decide)
  · rw [mk_bNew, if_neg (by decide)]; exact hm 21 (by decide) (by decide)
  have T1 : bKp bLc1 σ s1 := bKp_trans (bKN bKp_refl (by decide)) (bKp_mono a1 (by decide))
  have C1 : bCo σ s1 4 64 := bCo_add (c := 1) (k := 4) ⟨Nat.le_refl _, Nat.le_refl _⟩ a2 (by decide) (by decide)
  have Z1 : ∀ j, bi s1 11 j = 0 := fun j => by rw [(a1 11 (by decide)).1, bi_nN (by decide)]; exact hz j
  have M1 : ∀ b ∈ bLcA, b ∉ bLc1 → s1.2.2.2.1 b = 0 := fun b h1 h2 => by rw [(T1 b h2).2.2.2]; exact hm b h1 (fun e => h2 (e ▸ by decide))
  refine ⟨a3, by rw [mk_bwr]; exact M1 7 (by decide) (by decide), w90 (fun a q1 q2 => ?_) fun s3 b1 b2 b3 b4 b5 => ?_⟩
  · rw [mk_bNew, if_neg (by omega), mk_bwr]
    exact M1 a (by simp [bLcA, bLc1, bLc3]; omega) (by simp [bLc1]; omega)
  have T3 : bKp bLc3 s1 s3 := bKp_trans (bKN (bKr bKp_refl (by decide)) (by decide)) (bKp_mono b1 (by decide))
  have C3 : bCo σ s3 17 1176 := bCo_add C1 (bCo_add (s := bNew (bwr s1 11 0 (some 3)) 7 1 16) (c := 1) (k := 16) ⟨Nat.le_refl _, Nat.le_refl _⟩ b2 (by decide) (by decide) : bCo s1 s3 13 1112) (by decide) (by decide)
  have Z3 : ∀ j, bi s3 11 j = 0 := fun j => by rw [(b1 11 (by decide)).1, bi_nN (by decide), bi_bwr]; exact Z1 j
  have M3 : ∀ b ∈ bLcA, b ∉ bLc1 → b ∉ bLc3 → s3.2.2.2.1 b = 0 := fun b h1 h2 h3 => by rw [(T3 b h3).2.2.2]; exact M1 b h1 h2
  refine ⟨b3, by rw [mk_bwr]; exact M3 10 (by decide) (by decide) (by decide), w128 (fun a q1 q2 => ?_) fun s5 c1 c2 c3 c4 c5 => ?_⟩
  · rw [mk_bNew, if_neg (by omega), mk_bwr]
    exact M3 a (by simp [bLcA, bLc5]; omega) (by simp [bLc1]; omega) (by simp [bLc3]; omega)
  have T5 : bKp bLc5 s3 s5 := bKp_trans (bKN (bKr bKp_refl (by decide)) (by decide)) (bKp_mono c1 (by decide))
  have C5 : bCo σ s5 22 1214 := bCo_add C3 (bCo_add (s := bNew (bwr s3 11 1 (some 7)) 10 1 6) (c := 1) (k := 6) ⟨Nat.le_refl _, Nat.le_refl _⟩ c2 (by decide) (by decide) : bCo s3 s5 5 38) (by decide) (by decide)
  have Z5 : ∀ j, bi s5 11 j = 0 := fun j => by rw [(c1 11 (by decide)).1, bi_nN (by decide), bi_bwr]; exact Z3 j
  have M5 : ∀ b ∈ bLcA, b ∉ bLc1 → b ∉ bLc3 → b ∉ bLc5 → s5.2.2.2.1 b = 0 := fun b h1 h2 h3 h4 => by rw [(T5 b h4).2.2.2]; exact M3 b h1 h2 h3
  refine ⟨c3, by rw [mk_bwr]; exact M5 9 (by decide) (by decide) (by decide) (by decide), w119 (fun b hb => ?_) fun s7 d1 d2 d3 d4 d5 d6 d7 => ?_⟩
  · have key : b = 50 ∨ b = 8 ∨ b = 46 ∨ b = 47 ∨ b = 48 ∨ b = 49 ∨ b = 51 := by simpa using hb
    rw [mk_bNew, if_neg (by omega), mk_bwr]
    rcases key with rfl | rfl | rfl | rfl | rfl | rfl | rfl <;> exact M5 _ (by decide) (by decide) (by decide) (by decide)
  have T7 : bKp bLc7 s5 s7 := bKp_trans (bKN (bKr bKp_refl (by decide)) (by decide)) (bKp_mono d1 (by decide))
  have C7 : bCo σ s7 30 1346 := bCo_add C5 (bCo_add (s := bNew (bwr s5 11 2 (some 10)) 9 1 4) (c := 1) (k := 4) ⟨Nat.le_refl _, Nat.le_refl _⟩ d2 (by decide) (by decide) : bCo s5 s7 8 132) (by decide) (by decide)
  have Z7 : ∀ j, bi s7 11 j = 0 := fun j => by rw [(d1 11 (by decide)).1, bi_nN (by decide), bi_bwr]; exact Z5 j
  have M7 : ∀ b ∈ bLcA, b ∉ bLc1 → b ∉ bLc3 → b ∉ bLc5 → b ∉ bLc7 → s7.2.2.2.1 b = 0 := fun b h1 h2 h3 h4 h5 => by rw [(T7 b h5).2.2.2]; exact M5 b h1 h2 h3 h4
  have R7 : ∀ k : Int, (k = 0 ∨ k = 1 ∨ k = 2 ∨ k = 3) → (br (bNew (bwr s7 11 3 (some 9)) 6 1 16) 11 k).isSome = true := by
    intro k hk
    rw [br_bNew, if_neg (by decide), br_bwr (by decide) (by omega)]
    by_cases e3 : k = 3
    · rw [if_pos ⟨rfl, e3⟩]; rfl
    · rw [if_neg (fun z => e3 z.2), (d1 11 (by decide)).2.2.1, br_bNew, if_neg (by decide), br_bwr (by decide) (by omega)]
      by_cases e2 : k = 2
      · rw [if_pos ⟨rfl, e2⟩]; rfl
      · rw [if_neg (fun z => e2 z.2), (c1 11 (by decide)).2.2.1, br_bNew, if_neg (by decide), br_bwr (by decide) (by omega)]
        by_cases e1 : k = 1
        · rw [if_pos ⟨rfl, e1⟩]; rfl
        · rw [if_neg (fun z => e1 z.2), (b1 11 (by decide)).2.2.1, br_bNew, if_neg (by decide), br_bwr (by decide) (by omega), if_pos ⟨rfl, by omega⟩]; rfl
  refine ⟨d3, by rw [mk_bwr]; exact M7 6 (by decide) (by decide) (by decide) (by decide) (by decide), R7 0 (by decide), R7 1 (by decide), R7 2 (by decide), R7 3 (by decide), w67 (fun b hb => ?_) fun s9 e1 e2 e3 e4 e5 e6 e7 => ?_⟩
  · have key : b = 27 ∨ b = 28 ∨ b = 29 ∨ b = 30 ∨ b = 31 ∨ b = 32 ∨ b = 33 ∨ b = 0 ∨ b = 13 ∨ b = 4 ∨ b = 22 ∨ b = 23 ∨ b = 260 ∨ b = 278 ∨ b = 279 := by simpa using hb
    rw [mk_bNew, if_neg (by omega), mk_bwr]
    rcases key with rfl | rfl | rfl | rfl | rfl | rfl | rfl | rfl | rfl | rfl | rfl | rfl | rfl | rfl | rfl <;> exact M7 _ (by decide) (by decide) (by decide) (by decide) (by decide)
  have T9 : bKp bLc9 s7 s9 := bKp_trans (bKN (bKr bKp_refl (by decide)) (by decide)) (bKp_mono e1 (by decide))
  have C9 : bCo σ s9 46 18151 := bCo_add C7 (bCo_add (s := bNew (bwr s7 11 3 (some 9)) 6 1 16) (c := 1) (k := 16) ⟨Nat.le_refl _, Nat.le_refl _⟩ e2 (by decide) (by decide) : bCo s7 s9 16 16805) (by decide) (by decide)
  have Z9 : ∀ j, bi s9 11 j = 0 := fun j => by rw [(e1 11 (by decide)).1, bi_nN (by decide), bi_bwr]; exact Z7 j
  have M9 : ∀ b ∈ bLcA, b ∉ bLc1 → b ∉ bLc3 → b ∉ bLc5 → b ∉ bLc7 → b ∉ bLc9 → s9.2.2.2.1 b = 0 := fun b h1 h2 h3 h4 h5 h6 => by rw [(T9 b h6).2.2.2]; exact M7 b h1 h2 h3 h4 h5
  have R9 : ∀ k : Int, (k = 0 ∨ k = 1 ∨ k = 2 ∨ k = 3 ∨ k = 4) → (br (bNew (bwr s9 11 4 (some 6)) 5 1 13) 11 k).isSome = true := by
    intro k hk
    rw [br_bNew, if_neg (by decide), br_bwr (by decide) (by omega)]
    by_cases e4 : k = 4
    · rw [if_pos ⟨rfl, e4⟩]; rfl
    · rw [if_neg (fun z => e4 z.2), (e1 11 (by decide)).2.2.1]
      exact R7 k (by omega)
  refine ⟨e3, by rw [mk_bwr]; exact M9 5 (by decide) (by decide) (by decide) (by decide) (by decide) (by decide), R9 0 (by decide), R9 4 (by decide), w45 (fun b hb => ?_) fun sB f1 f2 f3 f4 f5 f6 f7 f8 f9 => ?_⟩
  · have key : b = 1 ∨ b = 14 ∨ b = 15 ∨ b = 257 ∨ b = 270 ∨ b = 271 ∨ b = 2 ∨ b = 16 ∨ b = 17 ∨ b = 18 ∨ b = 24 ∨ b = 25 ∨ b = 26 := by simpa using hb
    rw [mk_bNew, if_neg (by omega), mk_bwr]
    rcases key with rfl | rfl | rfl | rfl | rfl | rfl | rfl | rfl | rfl | rfl | rfl | rfl | rfl <;> exact M9 _ (by decide) (by decide) (by decide) (by decide) (by decide) (by decide)
  have TB : bKp bLcB s9 sB := bKp_trans (bKN (bKr bKp_refl (by decide)) (by decide)) (bKp_mono f1 (by decide))
  have CB : bCo σ sB 60 20326 := bCo_add C9 (bCo_add (s := bNew (bwr s9 11 4 (some 6)) 5 1 13) (c := 1) (k := 13) ⟨Nat.le_refl _, Nat.le_refl _⟩ f2 (by decide) (by decide) : bCo s9 sB 14 2175) (by decide) (by decide)
  have ZB : ∀ j, bi sB 11 j = 0 := fun j => by rw [(f1 11 (by decide)).1, bi_nN (by decide), bi_bwr]; exact Z9 j
  have RB : ∀ k : Int, (k = 0 ∨ k = 1 ∨ k = 2 ∨ k = 3 ∨ k = 4 ∨ k = 5) → (br (bwj (bwr sB 11 5 (some 5)) 11 7 (Int64.ofNat 1)) 11 k).isSome = true := by
    intro k hk
    show (br (bwr sB 11 5 (some 5)) 11 k).isSome = true
    rw [br_bwr (by decide) (by omega)]
    by_cases e5 : k = 5
    · rw [if_pos ⟨rfl, e5⟩]; rfl
    · rw [if_neg (fun z => e5 z.2), (f1 11 (by decide)).2.2.1]
      exact R9 k (by omega)
  refine ⟨f3, ⟨RB 0 (by decide), RB 1 (by decide), RB 2 (by decide), RB 3 (by decide), RB 4 (by decide), RB 5 (by decide), trivial⟩, ?_⟩
  have TF : bKp bLc1 sB (bA (bwj (bwr sB 11 5 (some 5)) 11 7 (Int64.ofNat 1)) 11 2) := bKA (bKj (bKr bKp_refl (by decide)) (by decide)) (by decide)
  have m1 : ∀ b ∈ bLc1, b ∈ bLcA := by decide
  have m3 : ∀ b ∈ bLc3, b ∈ bLcA := by decide
  have m5 : ∀ b ∈ bLc5, b ∈ bLcA := by decide
  have m7 : ∀ b ∈ bLc7, b ∈ bLcA := by decide
  have m9 : ∀ b ∈ bLc9, b ∈ bLcA := by decide
  have mB : ∀ b ∈ bLcB, b ∈ bLcA := by decide
  have u0 : ∀ b : Nat, b ≠ 11 → (∀ j, bi (bA (bwj (bwr sB 11 5 (some 5)) 11 7 (Int64.ofNat 1)) 11 2) b j = bi sB b j) ∧ (∀ j, bj (bA (bwj (bwr sB 11 5 (some 5)) 11 7 (Int64.ofNat 1)) 11 2) b j = bj sB b j) ∧ (∀ j, br (bA (bwj (bwr sB 11 5 (some 5)) 11 7 (Int64.ofNat 1)) 11 2) b j = br sB b j) := fun b hb => ⟨fun j => rfl, fun j => bj_ne hb, fun j => br_ne hb⟩
  have u9 : ∀ b : Nat, b ∉ bLcB → _ := fun b hb => TB b hb
  have v7 : ∀ b : Nat, b ∉ bLcB → b ∉ bLc9 → (∀ j, bi sB b j = bi s7 b j) ∧ (∀ j, bj sB b j = bj s7 b j) ∧ (∀ j, br sB b j = br s7 b j) := fun b hb hc => ⟨fun j => ((TB b hb).1 j).trans ((T9 b hc).1 j), fun j => ((TB b hb).2.1 j).trans ((T9 b hc).2.1 j), fun j => ((TB b hb).2.2.1 j).trans ((T9 b hc).2.2.1 j)⟩
  have v5 : ∀ b : Nat, b ∉ bLcB → b ∉ bLc9 → b ∉ bLc7 → ∀ j, bi sB b j = bi s5 b j := fun b hb hc hd j => ((v7 b hb hc).1 j).trans ((T7 b hd).1 j)
  have v3 : ∀ b : Nat, b ∉ bLcB → b ∉ bLc9 → b ∉ bLc7 → b ∉ bLc5 → ∀ j, bi sB b j = bi s3 b j := fun b hb hc hd he j => (v5 b hb hc hd j).trans ((T5 b he).1 j)
  have v1 : ∀ b : Nat, b ∉ bLcB → b ∉ bLc9 → b ∉ bLc7 → b ∉ bLc5 → b ∉ bLc3 → ∀ j, bi sB b j = bi s1 b j := fun b hb hc hd he hf j => (v3 b hb hc hd he j).trans ((T3 b hf).1 j)
  refine h _ (bKp_trans (bKp_trans (bKp_trans (bKp_trans (bKp_trans (bKp_trans (bKp_mono T1 m1) (bKp_mono T3 m3)) (bKp_mono T5 m5)) (bKp_mono T7 m7)) (bKp_mono T9 m9)) (bKp_mono TB mB)) (bKp_mono TF m1)) ?_ (by rw [mk_bA, if_pos rfl]) ?_
  · exact bCo_add (t := bA _ _ _) CB (c' := 0) (k' := 0) ⟨Nat.le_refl _, Nat.le_refl _⟩ (by decide) (by decide)
  refine ⟨⟨?_, ?_, ?_, ?_⟩, ⟨?_, ?_⟩, ⟨?_, ?_⟩, ⟨?_, ?_, ?_, ?_⟩, ⟨?_, ?_, ?_, ?_⟩, ⟨?_, ?_, ?_, ?_, ?_, ?_⟩, ZB, ?_⟩
  · exact fun j q1 q2 => (v1 19 (by decide) (by decide) (by decide) (by decide) (by decide) j).trans (a4 j q1 q2)
  · exact fun j => (v1 20 (by decide) (by decide) (by decide) (by decide) (by decide) j).trans (a5 j)
  · exact fun j => (v1 21 (by decide) (by decide) (by decide) (by decide) (by decide) j).trans (a6 j)
  · exact (v1 3 (by decide) (by decide) (by decide) (by decide) (by decide) 3).trans a7
  · exact fun a q1 q2 j => (v3 a (by simp [bLcB]; omega) (by simp [bLc9]; omega) (by simp [bLc7]; omega) (by simp [bLc5]; omega) j).trans (b4 a q1 q2 j)
  · exact fun j q => ((v3 7 (by decide) (by decide) (by decide) (by decide) j).trans (b5 j q)).trans (by rw [bi_bNew, if_pos rfl])
  · exact fun a q1 q2 j => (v5 a (by simp [bLcB]; omega) (by simp [bLc9]; omega) (by simp [bLc7]; omega) j).trans (c4 a q1 q2 j)
  · exact fun j => ((v5 10 (by decide) (by decide) (by decide) j).trans (c5 j)).trans (by rw [bi_bNew, if_pos rfl])
  · exact fun j => (((v7 9 (by decide) (by decide)).1 j).trans (d4 j)).trans (by rw [bi_bNew, if_pos rfl])
  · exact fun j => ((u0 50 (by decide)).2.2 j).trans (((v7 50 (by decide) (by decide)).2.2 j).trans (d5 j))
  · exact fun j => ((v7 51 (by decide) (by decide)).1 j).trans (d6 j)
  · exact ⟨fun j q => ((v7 8 (by decide) (by decide)).1 j).trans (d7.1 j q), fun j => ((v7 46 (by decide) (by decide)).1 j).trans (d7.2.1 j), fun j => ((v7 47 (by decide) (by decide)).1 j).trans (d7.2.2.1 j), fun j q1 q2 => ((v7 48 (by decide) (by decide)).1 j).trans (d7.2.2.2.1 j q1 q2), fun j => ((u0 49 (by decide)).2.1 j).trans (((v7 49 (by decide) (by decide)).2.1 j).trans (d7.2.2.2.2 j))⟩
  · exact fun j => ((TB 6 (by decide)).1 j).trans ((e4 j).trans (by rw [bi_bNew, if_pos rfl]))
  · exact fun a q1 q2 j => ((TB a (by simp [bLcB]; omega)).1 j).trans (e5 a q1 q2 j)
  · exact fun j => ((u0 33 (by decide)).2.2 j).trans (((TB 33 (by decide)).2.2.1 j).trans (e6 j))
  · refine ⟨fun j q => ((TB 0 (by decide)).1 j).trans (e7.1 j q), fun j => ((TB 13 (by decide)).1 j).trans (e7.2.1 j), fun e he => ?_⟩
    have k := e7.2.2 e he
    rcases he with rfl | rfl
    · exact ⟨fun j q => ((TB 4 (by decide)).1 j).trans (k.1 j q), fun j => ((TB 22 (by decide)).1 j).trans (k.2.1 j), fun j => ((TB 23 (by decide)).1 j).trans (k.2.2 j)⟩
    · exact ⟨fun j q => ((TB 260 (by decide)).1 j).trans (k.1 j q), fun j => ((TB 278 (by decide)).1 j).trans (k.2.1 j), fun j => ((TB 279 (by decide)).1 j).trans (k.2.2 j)⟩
  · exact fun j q => (f4 j q).trans (by rw [bi_bNew, if_pos rfl])
  · exact fun a ha j => f5 a ha j
  · exact fun j => ((u0 14 (by decide)).2.2 j).trans (f6 j)
  · exact fun j => ((u0 270 (by decide)).2.2 j).trans (f7 j)
  · exact fun j q1 q2 => f8 j q1 q2
  · exact fun j q1 q2 => f9 j q1 q2
  · show bj (bwj (bwr sB 11 5 (some 5)) 11 7 (Int64.ofNat 1)) 11 7 = _
    exact bj_eq
end

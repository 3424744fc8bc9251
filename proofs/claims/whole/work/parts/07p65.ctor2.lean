/-! WHAT IS MADE, 2: actions, targets, caches, the crew, and the whole class -/
section
variable {d : Nat} {σ : bSt} {fv : bSt → Prop}
/-- the ids of an action, with its two entries -/
def bAid (q : Nat) : List Nat := [256 * q, 256 * q + 13, 512 * q + 4, 512 * q + 22, 512 * q + 23, 512 * q + 260, 512 * q + 278, 512 * q + 279]
theorem w0 {q : Nat} (hm : ∀ b ∈ bAid q, b ≠ 256 * q → σ.2.2.2.1 b = 0)
    (h : ∀ s, bKp (bAid q) σ s → bCo σ s 7 234 → s.2.2.2.1 (256 * q) = 2 → (∀ j, 0 ≤ j → bi s (256 * q) j = if 10 ≤ j ∧ j < 15 then -1 else if 15 ≤ j ∧ j < 18 then 2147483647 else bi σ (256 * q) j) → (∀ j, bi s (256 * q + 13) j = 0) →
      (∀ e, e = 512 * q + 4 ∨ e = 512 * q + 260 → (∀ j, 0 ≤ j → bi s e j = if j = 8 then -1 else if j = 0 then -1 else 0) ∧ (∀ j, bi s (e + 18) j = 0) ∧ (∀ j, bi s (e + 19) j = 0)) → fv s) : bWp (d + 2) 0 [.retAddr (256 * q)] σ (bRv fv) := by
  have e0 : 256 * q / 256 = q := by omega
  have tt := fun A (hA : bClosed (d + 2) bm0 (bWp (d + 1)) (bRv fv) A) => sq0_0 (σ := σ) (a0 := 256 * q) (bWp_mono (d + 1)) hA (by omega)
  refine ⟨rfl, fun A hA => tt A hA ?_⟩
  rw [e0]
  have i1 : 256 * (1 * q + 0) + 13 = 256 * q + 13 := by omega
  have i2 : 256 * (2 * q + 0) + 4 = 512 * q + 4 := by omega
  have i3 : 256 * (2 * q + 1) + 4 = 512 * q + 260 := by omega
  rw [i1, i2, i3]
  have hl : ∀ s : bSt, bLen s (256 * q + 13) = 40 := fun s => bLen_of (k := 13) (by omega) (by decide) rfl
  have x1 : 256 * (1 * ((512 * q + 4) / 256) + 0) + 22 = 512 * q + 22 := by omega
  have x2 : 256 * (1 * ((512 * q + 4) / 256) + 0) + 23 = 512 * q + 23 := by omega
  have x3 : 256 * (1 * ((512 * q + 260) / 256) + 0) + 22 = 512 * q + 278 := by omega
  have x4 : 256 * (1 * ((512 * q + 260) / 256) + 0) + 23 = 512 * q + 279 := by omega
  have m1 := hm (256 * q + 13) (by simp [bAid]) (by omega)
  have m2 := hm (512 * q + 4) (by simp [bAid]) (by omega)
  have m3 := hm (512 * q + 22) (by simp [bAid]) (by omega)
  have m4 := hm (512 * q + 23) (by simp [bAid]) (by omega)
  have m5 := hm (512 * q + 260) (by simp [bAid]) (by omega)
  have m6 := hm (512 * q + 278) (by simp [bAid]) (by omega)
  have m7 := hm (512 * q + 279) (by simp [bAid]) (by omega)
  refine ⟨m1, by rw [hl]; rfl, by omega, by rw [hl]; decide, ?_, by omega, w37 (e := 512 * q + 4) (by omega) ?_ ?_ fun s a1 a2 a3 a4 a5 a6 => ⟨a3, ?_, by omega, w37 (e := 512 * q + 260) (by omega) ?_ ?_ fun t b1 b2 b3 b4 b5 b6 => ⟨b3, ⟨?_, ?_, ?_, trivial⟩, h _ ?_ ?_ ?_ ?_ ?_ ?_⟩⟩⟩
  · rw [mk_bwr, mk_bNew, if_neg (by omega)]
    exact m2
  · rw [x1, mk_bNew, if_neg (by omega), mk_bwr, mk_bNew, if_neg (by omega)]
    exact m3
  · rw [x2, mk_bNew, if_neg (by omega), mk_bwr, mk_bNew, if_neg (by omega)]
    exact m4
  all_goals rw [x1, x2] at a1
  all_goals rw [x1] at a5
  all_goals rw [x2] at a6
  · rw [mk_bwr, (a1 _ (by simp)).2.2.2, mk_bNew, if_neg (by omega), mk_bwr, mk_bNew, if_neg (by omega)]
    exact m5
  · rw [x3, mk_bNew, if_neg (by omega), mk_bwr, (a1 _ (by simp <;> omega)).2.2.2, mk_bNew, if_neg (by omega), mk_bwr, mk_bNew, if_neg (by omega)]
    exact m6
  · rw [x4, mk_bNew, if_neg (by omega), mk_bwr, (a1 _ (by simp <;> omega)).2.2.2, mk_bNew, if_neg (by omega), mk_bwr, mk_bNew, if_neg (by omega)]
    exact m7
  all_goals rw [x3, x4] at b1
  all_goals rw [x3] at b5
  all_goals rw [x4] at b6
  · show (br (bwr t (256 * q) 4 (some (512 * q + 260))) (256 * q) 2).isSome = true
    rw [br_bwr (by decide) (by decide), if_neg (fun z => absurd z.2 (by decide)), (b1 _ (by simp <;> omega)).2.2.1, br_bNew, if_neg (by omega), br_bwr (by decide) (by decide), if_neg (fun z => absurd z.2 (by decide)), (a1 _ (by simp <;> omega)).2.2.1, br_bNew, if_neg (by omega), br_bwr (by decide) (by decide), if_pos ⟨rfl, rfl⟩]
    rfl
  · show (br (bwr t (256 * q) 4 (some (512 * q + 260))) (256 * q) 3).isSome = true
    rw [br_bwr (by decide) (by decide), if_neg (fun z => absurd z.2 (by decide)), (b1 _ (by simp <;> omega)).2.2.1, br_bNew, if_neg (by omega), br_bwr (by decide) (by decide), if_pos ⟨rfl, rfl⟩]
    rfl
  · show (br (bwr t (256 * q) 4 (some (512 * q + 260))) (256 * q) 4).isSome = true
    rw [br_bwr (by decide) (by decide), if_pos ⟨rfl, rfl⟩]
    rfl
  · have ka : ∀ a ∈ [512 * q + 4, 512 * q + 22, 512 * q + 23], a ∈ bAid q := by intro a ha; simp [bAid] at ha ⊢; omega
    have kb : ∀ a ∈ [512 * q + 260, 512 * q + 278, 512 * q + 279], a ∈ bAid q := by intro a ha; simp [bAid] at ha ⊢; omega
    have z0 : 256 * q ∈ bAid q := by simp [bAid]
    exact bKA (bKw (bKw (bKw (bKw (bKw (bKw (bKw (bKw (bKr (bKp_trans (bKN (bKr (bKp_trans (bKN (bKr (bKN bKp_refl (by simp [bAid])) z0) (by simp [bAid])) (bKp_mono a1 ka)) z0) (by simp [bAid])) (bKp_mono b1 kb)) z0) z0) z0) z0) z0) z0) z0) z0) z0) z0
  · have c1 : bCo σ (bNew (bwr (bNew σ (256 * q + 13) 2 (bLen σ (256 * q + 13))) (256 * q) 2 (some (256 * q + 13))) (512 * q + 4) 1 9) 2 49 := ⟨Nat.le_refl _, by show σ.2.2.2.2.2 + bLen _ _ + 9 ≤ _; rw [hl]; omega⟩
    have c2 : bCo s (bNew (bwr s (256 * q) 3 (some (512 * q + 4))) (512 * q + 260) 1 9) 1 9 := ⟨Nat.le_refl _, Nat.le_refl _⟩
    exact bCo_add (bCo_add (bCo_add (bCo_add c1 a2 (Nat.le_refl _) (Nat.le_refl _)) c2 (Nat.le_refl _) (Nat.le_refl _)) b2 (Nat.le_refl _) (Nat.le_refl _)) (t := bA _ _ _) ⟨Nat.le_refl _, Nat.le_refl _⟩ (c' := 0) (k' := 0) (by decide) (by decide)
  · rw [mk_bA, if_pos rfl]
  · intro j q1
    show bi (bw (bw (bw (bw (bw (bw (bw (bw (bwr t (256 * q) 4 (some (512 * q + 260))) (256 * q) 10 (-1)) (256 * q) 11 (-1)) (256 * q) 12 (-1)) (256 * q) 13 (-1)) (256 * q) 14 (-1)) (256 * q) 15 2147483647) (256 * q) 16 2147483647) (256 * q) 17 2147483647) (256 * q) j = _
    rw [bi_bw (by decide) q1 (by decide), bi_bw (by decide) q1 (by decide), bi_bw (by decide) q1 (by decide), bi_bw (by decide) q1 (by decide), bi_bw (by decide) q1 (by decide), bi_bw (by decide) q1 (by decide), bi_bw (by decide) q1 (by decide), bi_bw (by decide) q1 (by decide)]
    have base : bi (bwr t (256 * q) 4 (some (512 * q + 260))) (256 * q) j = bi σ (256 * q) j := by
      rw [bi_bwr, (b1 _ (by simp <;> omega)).1, bi_bNew, if_neg (by omega), bi_bwr, (a1 _ (by simp <;> omega)).1, bi_bNew, if_neg (by omega), bi_bwr, bi_bNew, if_neg (by omega)]
    rw [base]
    simp only [true_and]
    repeat' split
    all_goals first | rfl | omega
  · intro j
    show bi (bw (bw (bw (bw (bw (bw (bw (bw (bwr t (256 * q) 4 (some (512 * q + 260))) (256 * q) 10 (-1)) (256 * q) 11 (-1)) (256 * q) 12 (-1)) (256 * q) 13 (-1)) (256 * q) 14 (-1)) (256 * q) 15 2147483647) (256 * q) 16 2147483647) (256 * q) 17 2147483647) (256 * q + 13) j = _
    rw [bi_ne (by omega), bi_ne (by omega), bi_ne (by omega), bi_ne (by omega), bi_ne (by omega), bi_ne (by omega), bi_ne (by omega), bi_ne (by omega), bi_bwr, (b1 _ (by simp <;> omega)).1, bi_bNew, if_neg (by omega), bi_bwr, (a1 _ (by simp <;> omega)).1, bi_bNew, if_neg (by omega), bi_bwr, bi_bNew, if_pos rfl]
  · have fin : ∀ b j, b ≠ 256 * q → bi (bA (bw (bw (bw (bw (bw (bw (bw (bw (bwr t (256 * q) 4 (some (512 * q + 260))) (256 * q) 10 (-1)) (256 * q) 11 (-1)) (256 * q) 12 (-1)) (256 * q) 13 (-1)) (256 * q) 14 (-1)) (256 * q) 15 2147483647) (256 * q) 16 2147483647) (256 * q) 17 2147483647) (256 * q) 2) b j = bi t b j := by
      intro b j hb
      show bi (bw (bw (bw (bw (bw (bw (bw (bw (bwr t (256 * q) 4 (some (512 * q + 260))) (256 * q) 10 (-1)) (256 * q) 11 (-1)) (256 * q) 12 (-1)) (256 * q) 13 (-1)) (256 * q) 14 (-1)) (256 * q) 15 2147483647) (256 * q) 16 2147483647) (256 * q) 17 2147483647) b j = _
      rw [bi_ne hb, bi_ne hb, bi_ne hb, bi_ne hb, bi_ne hb, bi_ne hb, bi_ne hb, bi_ne hb]
      rfl
    have mid : ∀ b j, b ≠ 512 * q + 260 → b ∉ [512 * q + 260, 512 * q + 278, 512 * q + 279] → bi t b j = bi s b j := by
      intro b j h1 h2
      rw [(b1 b h2).1, bi_bNew, if_neg h1]
      rfl
    intro e he
    rcases he with rfl | rfl
    · refine ⟨fun j q1 => ?_, fun j => ?_, fun j => ?_⟩
      · rw [fin _ _ (by omega), mid _ _ (by omega) (by simp), a4 j q1]
        repeat' split
        · rfl
        · rfl
        · rw [bi_bNew, if_pos rfl]
      · rw [show 512 * q + 4 + 18 = 512 * q + 22 by omega, fin _ _ (by omega), mid _ _ (by omega) (by simp), a5 j]
      · rw [show 512 * q + 4 + 19 = 512 * q + 23 by omega, fin _ _ (by omega), mid _ _ (by omega) (by simp), a6 j]
    · refine ⟨fun j q1 => ?_, fun j => ?_, fun j => ?_⟩
      · rw [fin _ _ (by omega), b4 j q1]
        repeat' split
        · rfl
        · rfl
        · rw [bi_bNew, if_pos rfl]
      · rw [show 512 * q + 260 + 18 = 512 * q + 278 by omega, fin _ _ (by omega), b5 j]
      · rw [show 512 * q + 260 + 19 = 512 * q + 279 by omega, fin _ _ (by omega), b6 j]
end

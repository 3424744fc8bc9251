/-! WHAT IS MADE, 3: targets, caches, the crew, the whole class -/
section
variable {d : Nat} {σ : bSt} {fv : bSt → Prop}
def bTid (q : Nat) : List Nat := [256 * q + 8, 256 * q + 46, 256 * q + 47, 256 * q + 48, 256 * q + 49]
theorem w109 {q : Nat} {x y z : Int} (hx : bRg x) (hy : bRg y) (hz : bRg z) (hm : ∀ b ∈ bTid q, b ≠ 256 * q + 8 → σ.2.2.2.1 b = 0)
    (h : ∀ s, bKp (bTid q) σ s → bCo σ s 4 77 → s.2.2.2.1 (256 * q + 8) = 2 → (∀ j, 0 ≤ j → bi s (256 * q + 8) j = if j = 2 then z else if j = 1 then y else if j = 0 then x else if j = 9 then 1 else if j = 6 then 255 else if 3 ≤ j ∧ j < 6 then -1 else bi σ (256 * q + 8) j) →
      (∀ j, bi s (256 * q + 46) j = 0) → (∀ j, bi s (256 * q + 47) j = 0) → (∀ j, 0 ≤ j → j < 4 → bi s (256 * q + 48) j = -1) → (∀ j, bj s (256 * q + 49) j = 0) → fv s) : bWp (d + 2) 109 [.retAddr (256 * q + 8), .int (bn x), .int (bn y), .int (bn z)] σ (bRv fv) := by
  have e0 : (256 * q + 8) / 256 = q := by omega
  have tt := fun A (hA : bClosed (d + 2) bm109 (bWp (d + 1)) (bRv fv) A) => sq109_0 (σ := σ) (a0 := 256 * q + 8) (bWp_mono (d + 1)) hA (by omega) hx hy hz
  refine ⟨rfl, fun A hA => tt A hA ?_⟩
  rw [e0]
  have i1 : 256 * (1 * q + 0) + 46 = 256 * q + 46 := by omega
  have i2 : 256 * (1 * q + 0) + 47 = 256 * q + 47 := by omega
  have i3 : 256 * (1 * q + 0) + 48 = 256 * q + 48 := by omega
  have i4 : 256 * (1 * q + 0) + 49 = 256 * q + 49 := by omega
  rw [i1, i2, i3, i4]
  have l1 : ∀ s : bSt, bLen s (256 * q + 46) = 6 := fun s => bLen_of (k := 46) (by omega) (by decide) rfl
  have l2 : ∀ s : bSt, bLen s (256 * q + 47) = 4 := fun s => bLen_of (k := 47) (by omega) (by decide) rfl
  have l3 : ∀ s : bSt, bLen s (256 * q + 48) = 4 := fun s => bLen_of (k := 48) (by omega) (by decide) rfl
  have l4 : ∀ s : bSt, bLen s (256 * q + 49) = 63 := fun s => bLen_of (k := 49) (by omega) (by decide) rfl
  have m1 := hm (256 * q + 46) (by simp [bTid]) (by omega)
  have m2 := hm (256 * q + 47) (by simp [bTid]) (by omega)
  have m3 := hm (256 * q + 48) (by simp [bTid]) (by omega)
  have m4 := hm (256 * q + 49) (by simp [bTid]) (by omega)
  refine ⟨m1, by rw [l1]; rfl, by omega, by rw [l1]; decide, ?_, by rw [l2]; rfl, by omega, by rw [l2]; decide, fun s1 e1 => ⟨?_, by rw [l3]; rfl, by omega, by rw [l3]; decide, ?_, by rw [l4]; rfl, by omega, by rw [l4]; decide, fun s2 e2 => ⟨?_, w361 (N := 4) (by decide) (bTy_of (k := 48) (by omega) rfl) (by omega) l3 (by decide) fun s a1 a2 a3 => ⟨bAll_of a1 ⟨?_, ?_, ?_, ?_, trivial⟩, h _ ?_ ?_ ?_ ?_ ?_ ?_ a3 ?_⟩⟩⟩⟩
  · rw [mk_bwr, mk_bNew, if_neg (by omega)]
    exact m2
  · rw [mk_bwr, e1, mk_bNew, if_neg (by omega), mk_bwr, mk_bNew, if_neg (by omega)]
    exact m3
  · rw [mk_bwr, mk_bNew, if_neg (by omega), mk_bwr, e1, mk_bNew, if_neg (by omega), mk_bwr, mk_bNew, if_neg (by omega)]
    exact m4
  · show (br (bwr s2 (256 * q + 8) 18 (some (256 * q + 49))) (256 * q + 8) 17).isSome = true
    rw [br_bwr (by decide) (by decide), if_neg (fun z => absurd z.2 (by decide)), e2, br_bNew, if_neg (by omega), br_bwr (by decide) (by decide), if_pos ⟨rfl, rfl⟩]
    rfl
  · show (br (bwr s2 (256 * q + 8) 18 (some (256 * q + 49))) (256 * q + 8) 15).isSome = true
    rw [br_bwr (by decide) (by decide), if_neg (fun z => absurd z.2 (by decide)), e2, br_bNew, if_neg (by omega), br_bwr (by decide) (by decide), if_neg (fun z => absurd z.2 (by decide)), br_bNew, if_neg (by omega), br_bwr (by decide) (by decide), if_neg (fun z => absurd z.2 (by decide)), e1, br_bNew, if_neg (by omega), br_bwr (by decide) (by decide), if_pos ⟨rfl, rfl⟩]
    rfl
  · show (br (bwr s2 (256 * q + 8) 18 (some (256 * q + 49))) (256 * q + 8) 16).isSome = true
    rw [br_bwr (by decide) (by decide), if_neg (fun z => absurd z.2 (by decide)), e2, br_bNew, if_neg (by omega), br_bwr (by decide) (by decide), if_neg (fun z => absurd z.2 (by decide)), br_bNew, if_neg (by omega), br_bwr (by decide) (by decide), if_pos ⟨rfl, rfl⟩]
    rfl
  · show (br (bwr s2 (256 * q + 8) 18 (some (256 * q + 49))) (256 * q + 8) 17).isSome = true
    rw [br_bwr (by decide) (by decide), if_neg (fun z => absurd z.2 (by decide)), e2, br_bNew, if_neg (by omega), br_bwr (by decide) (by decide), if_pos ⟨rfl, rfl⟩]
    rfl
  · show (br (bwr s2 (256 * q + 8) 18 (some (256 * q + 49))) (256 * q + 8) 18).isSome = true
    rw [br_bwr (by decide) (by decide), if_pos ⟨rfl, rfl⟩]
    rfl
  · have z0 : 256 * q + 8 ∈ bTid q := by simp [bTid]
    have k1 : bKp (bTid q) σ s1 := by
      rw [e1]
      exact bKN (bKr (bKN (bKw (bKw (bKw (bKw (bKw bKp_refl z0) z0) z0) z0) z0) (by simp [bTid])) z0) (by simp [bTid])
    have k2 : bKp (bTid q) σ s2 := by
      rw [e2]
      exact bKN (bKr (bKN (bKr k1 z0) (by simp [bTid])) z0) (by simp [bTid])
    exact bKA (bKs (bKw (bKw (bKw (bKr k2 z0) z0) z0) z0) (by simp [bTid]) a1 a2) z0
  · refine bCo_of (t := s) (s := bw (bw (bw (bwr s2 (256 * q + 8) 18 (some (256 * q + 49))) (256 * q + 8) 0 x) (256 * q + 8) 1 y) (256 * q + 8) 2 z) a1 ?_
    show bCo σ s2 4 77
    rw [e2]
    refine ⟨?_, ?_⟩
    · show s1.2.2.2.2.1 + 1 + 1 ≤ _
      rw [e1]
      exact Nat.le_refl _
    · show s1.2.2.2.2.2 + bLen _ _ + bLen _ _ ≤ _
      rw [l3, l4, e1]
      show σ.2.2.2.2.2 + bLen _ _ + bLen _ _ + 4 + 63 ≤ _
      rw [l1, l2]
      omega
  · rw [mk_bA, if_pos rfl]
  · intro j q1
    show bi s (256 * q + 8) j = _
    rw [a2 _ _ (by omega), bi_bw (by decide) q1 hz, bi_bw (by decide) q1 hy, bi_bw (by decide) q1 hx, bi_bwr, e2, bi_nN (by omega), bi_bwr, bi_nN (by omega), bi_bwr, e1, bi_nN (by omega), bi_bwr, bi_nN (by omega), bi_bw (by decide) q1 (by decide), bi_bw (by decide) q1 (by decide), bi_bw (by decide) q1 (by decide), bi_bw (by decide) q1 (by decide), bi_bw (by decide) q1 (by decide)]
    simp only [true_and]
    repeat' split
    all_goals first | rfl | omega
  · intro j
    show bi s (256 * q + 46) j = 0
    rw [a2 _ _ (by omega), bi_ne (by omega), bi_ne (by omega), bi_ne (by omega), bi_bwr, e2, bi_bNew, if_neg (by omega), bi_bwr, bi_bNew, if_neg (by omega), bi_bwr, e1, bi_bNew, if_neg (by omega), bi_bwr, bi_bNew, if_pos rfl]
  · intro j
    show bi s (256 * q + 47) j = 0
    rw [a2 _ _ (by omega), bi_ne (by omega), bi_ne (by omega), bi_ne (by omega), bi_bwr, e2, bi_bNew, if_neg (by omega), bi_bwr, bi_bNew, if_neg (by omega), bi_bwr, e1, bi_bNew, if_pos rfl]
  · intro j
    show s.2.1 (256 * q + 49) j.toNat = 0
    rw [a1]
    show bj s2 (256 * q + 49) j = 0
    rw [e2, bj_bNew, if_pos rfl]
theorem w15 {q : Nat} {x : Int} (hx : x = 24 + 16 * (q : Int)) (hq : q < 2) (hm : ∀ b ∈ [256 * q + 14, 256 * q + 15], σ.2.2.2.1 b = 0)
    (h : ∀ s, bKp [256 * q + 1, 256 * q + 14, 256 * q + 15] σ s → bCo σ s 2 1040 → s.2.2.2.1 (256 * q + 1) = 2 → (∀ j, bi s (256 * q + 1) j = bi σ (256 * q + 1) j) → (∀ j, bi s (256 * q + 15) j = 0) → (∀ j, br s (256 * q + 14) j = none) → fv s) : bWp (d + 1) 15 [.retAddr (256 * q + 1), .int (bn x)] σ (bRv fv) := by
  have hq2 : q = 0 ∨ q = 1 := by omega
  rcases hq2 with rfl | rfl
  · have hx' : x = 24 := by omega
    subst hx'
    refine ⟨rfl, fun A hA => sq15_0 (a0 := 1) (bWp_mono _) hA (by decide) (by decide) ⟨hm 15 (by decide), rfl, by decide, by show 1000 ≤ 10000; decide, bTt (by decide) ⟨hm 14 (by decide), rfl, by decide, by show 24 ≤ 10000; decide, fun s2 e2 => ?_⟩⟩⟩
    subst e2
    refine ⟨⟨rfl, rfl, trivial⟩, h _ ?_ ⟨Nat.le_refl _, ?_⟩ rfl (fun j => rfl) (fun j => rfl) (fun j => rfl)⟩
    · exact bKA (bKr (bKN (bKr (bKN bKp_refl (by decide)) (by decide)) (by decide)) (by decide)) (by decide)
    · show σ.2.2.2.2.2 + 1000 + 24 ≤ _
      omega
  · have hx' : x = 40 := by omega
    subst hx'
    refine ⟨rfl, fun A hA => sq15_0 (a0 := 257) (bWp_mono _) hA (by decide) (by decide) ⟨hm 271 (by decide), rfl, by decide, by show 1000 ≤ 10000; decide, bTt (by decide) ⟨hm 270 (by decide), rfl, by decide, by show 40 ≤ 10000; decide, fun s2 e2 => ?_⟩⟩⟩
    subst e2
    refine ⟨⟨rfl, rfl, trivial⟩, h _ ?_ ⟨Nat.le_refl _, ?_⟩ rfl (fun j => rfl) (fun j => rfl) (fun j => rfl)⟩
    · exact bKA (bKr (bKN (bKr (bKN bKp_refl (by decide)) (by decide)) (by decide)) (by decide)) (by decide)
    · show σ.2.2.2.2.2 + 1000 + 40 ≤ _
      omega
theorem w23 (h16 : σ.2.2.2.1 16 = 0) (h17 : σ.2.2.2.1 17 = 0) (h18 : σ.2.2.2.1 18 = 0)
    (h : ∀ s, bKp [2, 16, 17, 18] σ s → bCo σ s 3 27 → s.2.2.2.1 2 = 2 → (∀ j, 0 ≤ j → j < 3 → bi s 16 j = 1) → (∀ j, 0 ≤ j → j < 12 → bi s 17 j = -1) → (∀ j, bi s 18 j = 0) → fv s) : bWp (d + 2) 23 [.retAddr 2] σ (bRv fv) := by
  refine ⟨rfl, fun A hA => sq23_0 (bWp_mono _) hA ⟨h16, h17, h18, rfl, w361 (N := 3) (by decide) rfl (by decide) (fun _ => rfl) (by decide) fun s a1 a2 a3 => ⟨?_, w361 (N := 12) (by decide) rfl (by decide) (fun _ => rfl) (by decide) fun t b1 b2 b3 => ⟨bAll_of (b1.trans a1) ⟨rfl, rfl, rfl, trivial⟩, h _ ?_ ?_ ?_ (fun j q1 q2 => (b2 16 j (by decide)).trans (a3 j q1 q2)) b3 (fun j => ((b2 18 j (by decide)).trans (a2 18 j (by decide))).trans rfl)⟩⟩⟩⟩
  · unfold br
    rw [a1]
    rfl
  · exact bKA (bKs (bKs (bKr (bKN (bKr (bKN (bKr (bKN bKp_refl (by decide)) (by decide)) (by decide)) (by decide)) (by decide)) (by decide)) (by decide) a1 a2) (by decide) b1 b2) (by decide)
  · exact ⟨by show t.2.2.2.2.1 ≤ _; rw [b1, a1]; exact Nat.le_refl _, by show t.2.2.2.2.2 ≤ _; rw [b1, a1]; show σ.2.2.2.2.2 + 3 + 12 + 12 ≤ _; omega⟩
  · rw [mk_bA, if_pos rfl]
end

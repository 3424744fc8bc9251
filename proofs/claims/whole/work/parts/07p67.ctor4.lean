/-! WHAT IS MADE, 4: the whole class -/
theorem ce_bNew {σ : bSt} {a x n : Nat} : (bNew σ a x n).2.2.2.2.1 = σ.2.2.2.2.1 + 1 := rfl
theorem sl_bNew {σ : bSt} {a x n : Nat} : (bNew σ a x n).2.2.2.2.2 = σ.2.2.2.2.2 + n := rfl
theorem cs_bwr {σ : bSt} {a : Nat} {i : Int} {v : Option Nat} : (bwr σ a i v).2.2.2.2 = σ.2.2.2.2 := rfl
theorem cs_bwj {σ : bSt} {a : Nat} {i : Int} {v : Int64} : (bwj σ a i v).2.2.2.2 = σ.2.2.2.2 := rfl
theorem cs_bw {σ : bSt} {a : Nat} {i v : Int} : (bw σ a i v).2.2.2.2 = σ.2.2.2.2 := rfl
theorem cs_bA {σ : bSt} {a x : Nat} : (bA σ a x).2.2.2.2 = σ.2.2.2.2 := rfl
section
variable {d : Nat} {σ : bSt} {fv : bSt → Prop}
def bTa0 (s : bSt) (q : Nat) (x y z : Int) : Prop := (∀ j, 0 ≤ j → bi s (256 * q + 8) j = if j = 2 then z else if j = 1 then y else if j = 0 then x else if j = 9 then 1 else if j = 6 then 255 else if 3 ≤ j ∧ j < 6 then -1 else 0) ∧ (∀ j, bi s (256 * q + 46) j = 0) ∧ (∀ j, bi s (256 * q + 47) j = 0) ∧ (∀ j, 0 ≤ j → j < 4 → bi s (256 * q + 48) j = -1) ∧ (∀ j, bj s (256 * q + 49) j = 0)
theorem w119 (hm : ∀ b ∈ [50, 8, 46, 47, 48, 49, 51], σ.2.2.2.1 b = 0)
    (h : ∀ s, bKp [9, 50, 8, 46, 47, 48, 49, 51] σ s → bCo σ s 7 128 → s.2.2.2.1 9 = 2 → (∀ j, bi s 9 j = bi σ 9 j) → (∀ j, br s 50 j = none) → (∀ j, bi s 51 j = 0) → bTa0 s 0 0 0 0 → fv s) : bWp (d + 3) 119 [.retAddr 9] σ (bRv fv) := by
  refine ⟨rfl, fun A hA => sq119_0 (bWp_mono _) hA ⟨hm 50 (by decide), hm 8 (by decide), w109 (q := 0) (by decide) (by decide) (by decide) (fun b hb hne => ?_) fun s a1 a2 a3 a4 a5 a6 a7 a8 => ⟨a3, ?_, ⟨?_, rfl, rfl, trivial⟩, h _ ?_ ?_ rfl ?_ ?_ ?_ ?_⟩⟩⟩
  · rw [mk_bNew, if_neg hne, mk_bwr, mk_bNew, if_neg (by simp [bTid] at hb; omega)]
    exact hm b (by simp [bTid] at hb ⊢; omega)
  · rw [mk_bwr, (a1 51 (by decide)).2.2.2]
    exact hm 51 (by decide)
  · show (br s 9 1).isSome = true
    rw [(a1 9 (by decide)).2.2.1]
    rfl
  · exact bKA (bKr (bKN (bKr (bKp_trans (bKN (bKr (bKN bKp_refl (by decide)) (by decide)) (by decide)) (bKp_mono a1 (by decide))) (by decide)) (by decide)) (by decide)) (by decide)
  · exact ⟨by have := a2.1; show s.2.2.2.2.1 + 1 ≤ _; change s.2.2.2.2.1 ≤ σ.2.2.2.2.1 + 1 + 1 + 4 at this; omega, by have := a2.2; show s.2.2.2.2.2 + 16 ≤ _; change s.2.2.2.2.2 ≤ σ.2.2.2.2.2 + 16 + 19 + 77 at this; omega⟩
  · intro j
    show bi s 9 j = _
    rw [(a1 9 (by decide)).1]
    rfl
  · intro j
    show br s 50 j = none
    rw [(a1 50 (by decide)).2.2.1]
    rfl
  · intro j
    rfl
  · refine ⟨fun j q => ?_, fun j => a5 j, fun j => a6 j, fun j => a7 j, fun j => a8 j⟩
    exact (a4 j q).trans (by rw [bi_bNew, if_pos rfl])
def bAc0 (s : bSt) (q : Nat) : Prop := (∀ j, 0 ≤ j → bi s (256 * q) j = if 10 ≤ j ∧ j < 15 then -1 else if 15 ≤ j ∧ j < 18 then 2147483647 else 0) ∧ (∀ j, bi s (256 * q + 13) j = 0) ∧
  (∀ e, e = 512 * q + 4 ∨ e = 512 * q + 260 → (∀ j, 0 ≤ j → bi s e j = if j = 8 then -1 else if j = 0 then -1 else 0) ∧ (∀ j, bi s (e + 18) j = 0) ∧ (∀ j, bi s (e + 19) j = 0))
theorem bNum67 (u v a b c e f : Nat) (ha : a = 4096) (hb : b = 16) (hc : c = 121) (he : e = 18) (hf : f = 234) (h : u ≤ v + a + a + a + a + b + b + c + e + f) : u ≤ v + 16789 := by omega
theorem w67 (hm : ∀ b ∈ [27, 28, 29, 30, 31, 32, 33, 0, 13, 4, 22, 23, 260, 278, 279], σ.2.2.2.1 b = 0)
    (h : ∀ s, bKp [6, 27, 28, 29, 30, 31, 32, 33, 0, 13, 4, 22, 23, 260, 278, 279] σ s → bCo σ s 15 16789 → s.2.2.2.1 6 = 2 → (∀ j, bi s 6 j = bi σ 6 j) → (∀ a, 27 ≤ a → a < 33 → ∀ j, bi s a j = 0) → (∀ j, br s 33 j = none) → bAc0 s 0 → fv s) : bWp (d + 3) 67 [.retAddr 6, .ref 3, .ref 7, .ref 10, .ref 9] σ (bRv fv) := by
  refine ⟨rfl, fun A hA => sq67_0 (bWp_mono _) hA ⟨hm 27 (by decide), hm 28 (by decide), hm 29 (by decide), hm 30 (by decide), hm 31 (by decide), hm 32 (by decide), hm 33 (by decide), hm 0 (by decide), w0 (q := 0) (fun b hb hne => ?_) fun s a1 a2 a3 a4 a5 a6 => ⟨a3, ⟨rfl, rfl, rfl, rfl, ?_, ?_, ?_, ?_, ?_, ?_, ?_, rfl, trivial⟩, h _ ?_ ?_ rfl ?_ ?_ ?_ ?_⟩⟩⟩
  · have key : b = 13 ∨ b = 4 ∨ b = 22 ∨ b = 23 ∨ b = 260 ∨ b = 278 ∨ b = 279 := by simp [bAid] at hb; omega
    rcases key with rfl | rfl | rfl | rfl | rfl | rfl | rfl <;> exact hm _ (by decide)
  · show (br s 6 4).isSome = true
    rw [(a1 6 (by decide)).2.2.1]
    rfl
  · show (br s 6 5).isSome = true
    rw [(a1 6 (by decide)).2.2.1]
    rfl
  · show (br s 6 6).isSome = true
    rw [(a1 6 (by decide)).2.2.1]
    rfl
  · show (br s 6 7).isSome = true
    rw [(a1 6 (by decide)).2.2.1]
    rfl
  · show (br s 6 8).isSome = true
    rw [(a1 6 (by decide)).2.2.1]
    rfl
  · show (br s 6 9).isSome = true
    rw [(a1 6 (by decide)).2.2.1]
    rfl
  · show (br s 6 14).isSome = true
    rw [(a1 6 (by decide)).2.2.1]
    rfl
  · exact bKA (bKr (bKr (bKr (bKr (bKr (bKp_trans (bKN (bKr (bKN (bKr (bKN (bKr (bKN (bKr (bKN (bKr (bKN (bKr (bKN (bKr (bKN bKp_refl (by decide)) (by decide)) (by decide)) (by decide)) (by decide)) (by decide)) (by decide)) (by decide)) (by decide)) (by decide)) (by decide)) (by decide)) (by decide)) (by decide)) (by decide)) (bKp_mono a1 (by decide))) (by decide)) (by decide)) (by decide)) (by decide)) (by decide)) (by decide)
  · refine ⟨?_, ?_⟩
    · have h1 := a2.1
      repeat first | rw [ce_bNew] at h1 | rw [cs_bwr] at h1
      rw [cs_bA]
      repeat rw [cs_bwr]
      omega
    · have h1 := a2.2
      repeat first | rw [sl_bNew] at h1 | rw [cs_bwr] at h1
      rw [cs_bA]
      repeat rw [cs_bwr]
      exact bNum67 _ _ 4096 16 121 18 234 rfl rfl rfl rfl rfl h1
  · intro j
    show bi s 6 j = _
    rw [(a1 6 (by decide)).1]
    rfl
  · intro a q1 q2 j
    have key : a = 27 ∨ a = 28 ∨ a = 29 ∨ a = 30 ∨ a = 31 ∨ a = 32 := by omega
    show bi s a j = 0
    rcases key with rfl | rfl | rfl | rfl | rfl | rfl
    · rw [(a1 27 (by decide)).1]; rfl
    · rw [(a1 28 (by decide)).1]; rfl
    · rw [(a1 29 (by decide)).1]; rfl
    · rw [(a1 30 (by decide)).1]; rfl
    · rw [(a1 31 (by decide)).1]; rfl
    · rw [(a1 32 (by decide)).1]; rfl
  · intro j
    show br s 33 j = none
    rw [(a1 33 (by decide)).2.2.1]
    rfl
  · refine ⟨fun j q => ?_, fun j => a5 j, fun e he => a6 e he⟩
    exact (a4 j q).trans (by rw [bi_bNew, if_pos rfl])
theorem w45 (hm : ∀ b ∈ [1, 14, 15, 257, 270, 271, 2, 16, 17, 18, 24, 25, 26], σ.2.2.2.1 b = 0)
    (h : ∀ s, bKp [5, 1, 14, 15, 257, 270, 271, 2, 16, 17, 18, 24, 25, 26] σ s → bCo σ s 13 2162 → s.2.2.2.1 5 = 2 → (∀ j, 0 ≤ j → bi s 5 j = if j = 8 then -1 else if j = 6 then 2 else if j = 5 then 1 else bi σ 5 j) → (∀ a ∈ [1, 257, 15, 271, 18, 24, 25, 26], ∀ j, bi s a j = 0) → (∀ j, br s 14 j = none) → (∀ j, br s 270 j = none) → (∀ j, 0 ≤ j → j < 3 → bi s 16 j = 1) → (∀ j, 0 ≤ j → j < 12 → bi s 17 j = -1) → fv s) : bWp (d + 3) 45 [.retAddr 5, .ref 3, .ref 6] σ (bRv fv) := by
  refine ⟨rfl, fun A hA => sq45_0 (bWp_mono _) hA ⟨hm 1 (by decide), w15 (q := 0) rfl (by decide) (fun b hb => ?_) fun s a1 a2 a3 a4 a5 a6 => ⟨a3, ?_, w15 (q := 1) rfl (by decide) (fun b hb => ?_) fun t b1 b2 b3 b4 b5 b6 => ⟨b3, ?_, w23 ?_ ?_ ?_ fun u c1 c2 c3 c4 c5 c6 => ⟨c3, ?_, ?_, ?_, ⟨?_, ?_, ?_, ?_, ?_, ?_, ?_, ?_, trivial⟩, h _ ?_ ?_ rfl ?_ ?_ ?_ ?_ ?_ ?_⟩⟩⟩⟩⟩
  · have key : b = 14 ∨ b = 15 := by simp at hb; omega
    rcases key with rfl | rfl <;> exact hm _ (by decide)
  · rw [mk_bwr, (a1 257 (by decide)).2.2.2]
    exact hm 257 (by decide)
  · have key : b = 270 ∨ b = 271 := by simp at hb; omega
    rcases key with rfl | rfl
    · rw [mk_bNew, if_neg (by decide), mk_bwr, (a1 270 (by decide)).2.2.2]; exact hm 270 (by decide)
    · rw [mk_bNew, if_neg (by decide), mk_bwr, (a1 271 (by decide)).2.2.2]; exact hm 271 (by decide)
  · rw [mk_bwr, (b1 2 (by decide)).2.2.2, mk_bNew, if_neg (by decide), mk_bwr, (a1 2 (by decide)).2.2.2]
    exact hm 2 (by decide)
  · rw [mk_bNew, if_neg (by decide), mk_bwr, (b1 16 (by decide)).2.2.2, mk_bNew, if_neg (by decide), mk_bwr, (a1 16 (by decide)).2.2.2]
    exact hm 16 (by decide)
  · rw [mk_bNew, if_neg (by decide), mk_bwr, (b1 17 (by decide)).2.2.2, mk_bNew, if_neg (by decide), mk_bwr, (a1 17 (by decide)).2.2.2]
    exact hm 17 (by decide)
  · rw [mk_bNew, if_neg (by decide), mk_bwr, (b1 18 (by decide)).2.2.2, mk_bNew, if_neg (by decide), mk_bwr, (a1 18 (by decide)).2.2.2]
    exact hm 18 (by decide)
  · rw [mk_bw, mk_bw, mk_bwr, (c1 24 (by decide)).2.2.2, mk_bNew, if_neg (by decide), mk_bwr, (b1 24 (by decide)).2.2.2, mk_bNew, if_neg (by decide), mk_bwr, (a1 24 (by decide)).2.2.2]
    exact hm 24 (by decide)
  · rw [mk_bw, mk_bwr, mk_bNew, if_neg (by decide), mk_bw, mk_bw, mk_bwr, (c1 25 (by decide)).2.2.2, mk_bNew, if_neg (by decide), mk_bwr, (b1 25 (by decide)).2.2.2, mk_bNew, if_neg (by decide), mk_bwr, (a1 25 (by decide)).2.2.2]
    exact hm 25 (by decide)
  · rw [mk_bwr, mk_bNew, if_neg (by decide), mk_bw, mk_bwr, mk_bNew, if_neg (by decide), mk_bw, mk_bw, mk_bwr, (c1 26 (by decide)).2.2.2, mk_bNew, if_neg (by decide), mk_bwr, (b1 26 (by decide)).2.2.2, mk_bNew, if_neg (by decide), mk_bwr, (a1 26 (by decide)).2.2.2]
    exact hm 26 (by decide)
  · rfl
  · rfl
  · show (br u 5 2).isSome = true
    rw [(c1 5 (by decide)).2.2.1]
    show (br t 5 2).isSome = true
    rw [(b1 5 (by decide)).2.2.1]
    rfl
  · show (br u 5 3).isSome = true
    rw [(c1 5 (by decide)).2.2.1]
    rfl
  · rfl
  · rfl
  · rfl
  · rfl
  · exact bKA (bKr (bKr (bKr (bKN (bKr (bKN (bKw (bKr (bKN (bKw (bKw (bKr (bKp_trans (bKN (bKr (bKp_trans (bKN (bKr (bKp_trans (bKN bKp_refl (by decide)) (bKp_mono a1 (by decide))) (by decide)) (by decide)) (bKp_mono b1 (by decide))) (by decide)) (by decide)) (bKp_mono c1 (by decide))) (by decide)) (by decide)) (by decide)) (by decide)) (by decide)) (by decide)) (by decide)) (by decide)) (by decide)) (by decide)) (by decide)) (by decide)) (by decide)
  · refine ⟨?_, ?_⟩
    · have h1 := a2.1
      have h2 := b2.1
      have h3 := c2.1
      change s.2.2.2.2.1 ≤ σ.2.2.2.2.1 + 1 + 2 at h1
      change t.2.2.2.2.1 ≤ s.2.2.2.2.1 + 1 + 2 at h2
      change u.2.2.2.2.1 ≤ t.2.2.2.2.1 + 1 + 3 at h3
      show u.2.2.2.2.1 + 1 + 1 + 1 ≤ _
      omega
    · have h1 := a2.2
      have h2 := b2.2
      have h3 := c2.2
      change s.2.2.2.2.2 ≤ σ.2.2.2.2.2 + 3 + 1040 at h1
      change t.2.2.2.2.2 ≤ s.2.2.2.2.2 + 3 + 1040 at h2
      change u.2.2.2.2.2 ≤ t.2.2.2.2.2 + 3 + 27 at h3
      show u.2.2.2.2.2 + 12 + 17 + 17 ≤ _
      omega
  · intro j q
    show bi (bNew (bwr (bNew (bw (bwr (bNew (bw (bw (bwr u 5 4 (some 2)) 5 5 1) 5 6 2) 24 2 12) 5 7 (some 24)) 5 8 (-1)) 25 2 17) 5 11 (some 25)) 26 2 17) 5 j = _
    rw [bi_nN (by decide), bi_bwr, bi_nN (by decide), bi_bw (by decide) q (by decide), bi_bwr, bi_nN (by decide), bi_bw (by decide) q (by decide), bi_bw (by decide) q (by decide), bi_bwr, (c1 5 (by decide)).1, bi_nN (by decide), bi_bwr, (b1 5 (by decide)).1, bi_nN (by decide), bi_bwr, (a1 5 (by decide)).1, bi_nN (by decide)]
    simp only [true_and]
  · intro a ha j
    have hu : ∀ b : Nat, b ∉ [2, 16, 17, 18] → b ≠ 2 → bi u b j = bi t b j := fun b h1 h2 => by rw [(c1 b h1).1, bi_nN h2, bi_bwr]
    have ht : ∀ b : Nat, b ∉ [257, 270, 271] → b ≠ 257 → bi t b j = bi s b j := fun b h1 h2 => by rw [(b1 b h1).1, bi_nN h2, bi_bwr]
    have key : a = 1 ∨ a = 257 ∨ a = 15 ∨ a = 271 ∨ a = 18 ∨ a = 24 ∨ a = 25 ∨ a = 26 := by simpa using ha
    rcases key with rfl | rfl | rfl | rfl | rfl | rfl | rfl | rfl
    · show bi u 1 j = 0
      rw [hu 1 (by decide) (by decide), ht 1 (by decide) (by decide), a4]
      rfl
    · show bi u 257 j = 0
      rw [hu 257 (by decide) (by decide), b4]
      rfl
    · show bi u 15 j = 0
      rw [hu 15 (by decide) (by decide), ht 15 (by decide) (by decide)]
      exact a5 j
    · show bi u 271 j = 0
      rw [hu 271 (by decide) (by decide)]
      exact b5 j
    · exact c6 j
    · rfl
    · rfl
    · rfl
  · intro j
    show br u 14 j = none
    rw [(c1 14 (by decide)).2.2.1]
    show br t 14 j = none
    rw [(b1 14 (by decide)).2.2.1]
    exact a6 j
  · intro j
    show br u 270 j = none
    rw [(c1 270 (by decide)).2.2.1]
    exact b6 j
  · exact fun j q1 q2 => c4 j q1 q2
  · exact fun j q1 q2 => c5 j q1 q2
end

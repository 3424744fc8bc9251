/-! THE START, 1: what the reference is made from, anew -/
def bRzg (σ0 s : bSt) : Prop := (∀ a i, (¬ a = 56 ∧ ¬ a = 57 ∧ ¬ a = 12 ∧ ¬ a = 136 ∧ ¬ a = 137 ∧ ¬ a = 151) → bi s a i = bi σ0 a i) ∧ (∀ i, 0 ≤ i → i < 48 → bi s 56 i = -1) ∧ (∀ i, 0 ≤ i → i < 6 → bi s 57 i = if i = 0 then 1 else 0) ∧ (∀ i, 0 ≤ i → bi s 12 i = if i = 68 then 1 else if i = 87 then 1 else if i = 88 then 2 else if i = 95 then -1 else if i = 112 then 1 else bi σ0 12 i) ∧ (∀ i, 0 ≤ i → i < 3 → bi s 136 i = 1) ∧ (∀ i, 0 ≤ i → i < 12 → bi s 137 i = -1) ∧ (∀ i, 0 ≤ i → i < 64 → bi s 151 i = -1) ∧ (∀ a i, bj s a i = bj σ0 a i) ∧ (∀ a, a ≠ 12 → a < 56 ∨ 154 ≤ a → (∀ i, br s a i = br σ0 a i) ∧ s.2.2.2.1 a = σ0.2.2.2.1 a) ∧ s.2.2.2.1 12 = 2 ∧ s.2.2.2.2.1 = σ0.2.2.2.2.1 + 98 ∧ s.2.2.2.2.2 ≤ σ0.2.2.2.2.2 + 564480
theorem w195tg {d : Nat} {fv : bSt → Prop} {A : bPt → Prop} {σ0 s8 : bSt} (hA : bClosed (d + 1) bm195 (bWp d) (bRv fv) A) (T : bT9 σ0 s8 98) (hz : ∀ a, 56 ≤ a → a < 154 → (∀ j, bi σ0 a j = 0) ∧ (∀ j, bj σ0 a j = 0)) (h : ∀ s : bSt, bRzg σ0 s → fv s) : A (396, [.retAddr 12, .int (bn 0)], [], s8) := by
  obtain ⟨h1, h2, h3, h4, h5, h6, h7⟩ := T
  have hS : ∀ (s : bSt) (k : Nat), s.2 = s8.2 → k ∈ bRfs → (br s 12 (k : Int)).isSome = true := fun s k hs hk => by
    unfold br
    rw [hs]
    exact h5 k hk
  have z57 : ∀ j, bi s8 57 j = 0 := fun j => by rw [h1]; exact (hz 57 (by decide) (by decide)).1 j
  refine bLoopF (P := fun n s => A (396, [.retAddr 12, .int (bn n)], [], s)) (σ1 := s8) (a := 56) (N := 48) (v := -1) (by decide) (fun n s hn hs k => sq195_396 (bWp_mono _) hA ⟨by omega, by omega⟩ (bTt (by omega) ⟨hS s 1 hs (by decide), ⟨by omega, by omega⟩, ⟨by omega, by omega⟩, k⟩)) (fun s a1 a2 a3 => sq195_396 (bWp_mono _) hA (by decide) (bFf (by decide) ⟨hS s 2 a1 (by decide), ?_⟩))
  generalize eq9 : (bw (bw (bw (bw s 57 0 1) 12 68 1) 12 87 1) 12 88 2) = s9
  have b1 : s9.2 = s8.2 := by rw [← eq9]; exact a1
  refine bLoopF (P := fun n s => A (422, [.retAddr 12, .int (bn n)], [], s)) (σ1 := s9) (a := 136) (N := 3) (v := 1) (by decide) (fun n s hn hs k => sq195_422 (bWp_mono _) hA ⟨by omega, by omega⟩ (bTt (by omega) ⟨hS s 91 (hs.trans b1) (by decide), ⟨by omega, by omega⟩, ⟨by omega, by omega⟩, k⟩)) (fun t b2 b3 b4 => sq195_422 (bWp_mono _) hA (by decide) (bFf (by decide) ?_))
  refine bLoopF (P := fun n s => A (434, [.retAddr 12, .int (bn n)], [], s)) (σ1 := t) (a := 137) (N := 12) (v := -1) (by decide) (fun n s hn hs k => sq195_434 (bWp_mono _) hA ⟨by omega, by omega⟩ (bTt (by omega) ⟨hS s 92 ((hs.trans b2).trans b1) (by decide), ⟨by omega, by omega⟩, ⟨by omega, by omega⟩, k⟩)) (fun u c2 c3 c4 => sq195_434 (bWp_mono _) hA (by decide) (bFf (by decide) ?_))
  refine bLoopF (P := fun n s => A (446, [.retAddr 12, .int (bn n)], [], s)) (σ1 := u) (a := 151) (N := 64) (v := -1) (by decide) (fun n s hn hs k => sq195_446 (bWp_mono _) hA ⟨by omega, by omega⟩ (bTt (by omega) ⟨hS s 109 (((hs.trans c2).trans b2).trans b1) (by decide), ⟨by omega, by omega⟩, ⟨by omega, by omega⟩, k⟩)) (fun w d2 d3 d4 => sq195_446 (bWp_mono _) hA (by decide) (bFf (by decide) ⟨?_, ?_⟩))
  · have e2 : w.2 = s8.2 := ((d2.trans c2).trans b2).trans b1
    have key : ∀ l : List Nat, (∀ k ∈ l, k ∈ bRfs) → bAll (bw (bw w 12 95 (-1)) 12 112 1) 12 l := by
      intro l
      induction l with
      | nil => exact fun _ => trivial
      | cons k l ih => exact fun hk => ⟨hS w k e2 (hk k List.mem_cons_self), ih fun q hq => hk q (List.mem_cons_of_mem _ hq)⟩
    exact key _ (fun k hk => hk)
  · have e2 : w.2 = s8.2 := ((d2.trans c2).trans b2).trans b1
    have e3 : (bA (bw (bw w 12 95 (-1)) 12 112 1) 12 2).2 = (s8.2.1, s8.2.2.1, bF s8.2.2.2.1 12 2, s8.2.2.2.2) := by
      show (w.2.1, w.2.2.1, bF w.2.2.2.1 12 2, w.2.2.2.2) = _
      rw [e2]
    have hb : ∀ b j, bi (bA (bw (bw w 12 95 (-1)) 12 112 1) 12 2) b j = bi (bw (bw w 12 95 (-1)) 12 112 1) b j := fun _ _ => rfl
    have h9 : ∀ b j, b ≠ 57 → b ≠ 12 → bi s9 b j = bi s b j := fun b j q1 q2 => by rw [← eq9, bi_ne q2, bi_ne q2, bi_ne q2, bi_ne q1]
    refine h _ ⟨fun a i q => ?_, fun i q1 q2 => ?_, fun i q1 q2 => ?_, fun i q1 => ?_, fun i q1 q2 => ?_, fun i q1 q2 => ?_, fun i q1 q2 => ?_, fun a i => ?_, fun a qn q => ⟨fun i => ?_, ?_⟩, ?_, ?_, ?_⟩
    · rw [hb, bi_ne q.2.2.1, bi_ne q.2.2.1, d3 a i q.2.2.2.2.2, c3 a i q.2.2.2.2.1, b3 a i q.2.2.2.1, h9 a i q.2.1 q.2.2.1, a2 a i q.1, h1]
    · rw [hb, bi_ne (by decide), bi_ne (by decide), d3 _ _ (by decide), c3 _ _ (by decide), b3 _ _ (by decide), h9 _ _ (by decide) (by decide)]
      exact a3 i q1 q2
    · rw [hb, bi_ne (by decide), bi_ne (by decide), d3 _ _ (by decide), c3 _ _ (by decide), b3 _ _ (by decide), ← eq9, bi_ne (by decide), bi_ne (by decide), bi_ne (by decide), bi_bw (by decide) q1 (by decide), a2 _ _ (by decide), z57]
      by_cases e : i = 0
      · rw [if_pos ⟨rfl, e⟩, if_pos e]
      · rw [if_neg (fun z => e z.2), if_neg e]
    · rw [hb, bi_bw (by decide) q1 (by decide), bi_bw (by decide) q1 (by decide), d3 _ _ (by decide), c3 _ _ (by decide), b3 _ _ (by decide), ← eq9, bi_bw (by decide) q1 (by decide), bi_bw (by decide) q1 (by decide), bi_bw (by decide) q1 (by decide), bi_ne (by decide), a2 _ _ (by decide), h1]
      repeat' split
      all_goals first | rfl | omega
    · rw [hb, bi_ne (by decide), bi_ne (by decide), d3 _ _ (by decide), c3 _ _ (by decide)]
      exact b4 i q1 q2
    · rw [hb, bi_ne (by decide), bi_ne (by decide), d3 _ _ (by decide)]
      exact c4 i q1 q2
    · rw [hb, bi_ne (by decide), bi_ne (by decide)]
      exact d4 i q1 q2
    · unfold bj
      rw [e3]
      exact h2 a i
    · unfold br
      rw [e3]
      exact h3 a (by omega) (by omega) i
    · rw [e3]
      show (if a = 12 then 2 else s8.2.2.2.1 a) = _
      rw [if_neg (by omega)]
      exact h4 a (by omega)
    · rw [e3]
      rfl
    · rw [e3]
      exact h6
    · rw [e3]
      exact h7
section
variable {d : Nat} {fv : bSt → Prop}
theorem w195g {σ0 : bSt} (hz : ∀ a, 56 ≤ a → a < 154 → (∀ j, bi σ0 a j = 0) ∧ (∀ j, bj σ0 a j = 0)) (hm : ∀ a, 56 ≤ a → a < 154 → σ0.2.2.2.1 a = 0)
    (h : ∀ s : bSt, bRzg σ0 s → fv s) : bWp (d + 1) 195 [.retAddr 12] σ0 (bRv fv) := by
  refine ⟨rfl, fun A hA => ?_⟩
  show A (0, [.retAddr 12, .float 0], [], σ0)
  have T0 : bT9 σ0 σ0 0 := ⟨fun _ _ => rfl, fun _ _ => rfl, fun _ _ _ _ => rfl, fun _ _ => rfl, fun q hq => absurd hq List.not_mem_nil, rfl, Nat.le_refl _⟩
  have T1 := bT9_step (k := 1) (id := 56) (len := 48) T0 hz (by decide) rfl rfl (by decide)
  have T2 := bT9_step (k := 2) (id := 57) (len := 6) T1 hz (by decide) rfl rfl (by decide)
  have T3 := bT9_step (k := 3) (id := 58) (len := 6) T2 hz (by decide) rfl rfl (by decide)
  have T4 := bT9_step (k := 4) (id := 59) (len := 288) T3 hz (by decide) rfl rfl (by decide)
  have T5 := bT9_step (k := 5) (id := 60) (len := 48) T4 hz (by decide) rfl rfl (by decide)
  have T6 := bT9_step (k := 6) (id := 61) (len := 48) T5 hz (by decide) rfl rfl (by decide)
  have T7 := bT9_step (k := 8) (id := 62) (len := 96) T6 hz (by decide) rfl rfl (by decide)
  have T8 := bT9_step (k := 9) (id := 63) (len := 96) T7 hz (by decide) rfl rfl (by decide)
  refine sq195_0 (bWp_mono _) hA ⟨bT9_mk T0 hm (id := 56) rfl (by decide), bT9_mk T1 hm (id := 57) rfl (by decide), bT9_mk T2 hm (id := 58) rfl (by decide), bT9_mk T3 hm (id := 59) rfl (by decide), bT9_mk T4 hm (id := 60) rfl (by decide), bT9_mk T5 hm (id := 61) rfl (by decide), bT9_mk T6 hm (id := 62) rfl (by decide), bT9_mk T7 hm (id := 63) rfl (by decide), ?_⟩
  have T9 := bT9_step (k := 10) (id := 64) (len := 768) T8 hz (by decide) rfl rfl (by decide)
  have T10 := bT9_step (k := 11) (id := 65) (len := 6) T9 hz (by decide) rfl rfl (by decide)
  have T11 := bT9_step (k := 12) (id := 66) (len := 6) T10 hz (by decide) rfl rfl (by decide)
  have T12 := bT9_step (k := 13) (id := 67) (len := 6) T11 hz (by decide) rfl rfl (by decide)
  have T13 := bT9_step (k := 14) (id := 68) (len := 6) T12 hz (by decide) rfl rfl (by decide)
  have T14 := bT9_step (k := 15) (id := 69) (len := 8) T13 hz (by decide) rfl rfl (by decide)
  have T15 := bT9_step (k := 16) (id := 70) (len := 4) T14 hz (by decide) rfl rfl (by decide)
  have T16 := bT9_step (k := 18) (id := 71) (len := 8) T15 hz (by decide) rfl rfl (by decide)
  refine sq195_34 (bWp_mono _) hA ⟨bT9_mk T8 hm (id := 64) rfl (by decide), bT9_mk T9 hm (id := 65) rfl (by decide), bT9_mk T10 hm (id := 66) rfl (by decide), bT9_mk T11 hm (id := 67) rfl (by decide), bT9_mk T12 hm (id := 68) rfl (by decide), bT9_mk T13 hm (id := 69) rfl (by decide), bT9_mk T14 hm (id := 70) rfl (by decide), bT9_mk T15 hm (id := 71) rfl (by decide), ?_⟩
  have T17 := bT9_step (k := 19) (id := 72) (len := 8) T16 hz (by decide) rfl rfl (by decide)
  have T18 := bT9_step (k := 20) (id := 73) (len := 8) T17 hz (by decide) rfl rfl (by decide)
  have T19 := bT9_step (k := 21) (id := 74) (len := 8) T18 hz (by decide) rfl rfl (by decide)
  have T20 := bT9_step (k := 23) (id := 75) (len := 16) T19 hz (by decide) rfl rfl (by decide)
  have T21 := bT9_step (k := 24) (id := 76) (len := 16) T20 hz (by decide) rfl rfl (by decide)
  have T22 := bT9_step (k := 25) (id := 77) (len := 16) T21 hz (by decide) rfl rfl (by decide)
  have T23 := bT9_step (k := 26) (id := 78) (len := 16) T22 hz (by decide) rfl rfl (by decide)
  have T24 := bT9_step (k := 27) (id := 79) (len := 16) T23 hz (by decide) rfl rfl (by decide)
  refine sq195_66 (bWp_mono _) hA ⟨bT9_mk T16 hm (id := 72) rfl (by decide), bT9_mk T17 hm (id := 73) rfl (by decide), bT9_mk T18 hm (id := 74) rfl (by decide), bT9_mk T19 hm (id := 75) rfl (by decide), bT9_mk T20 hm (id := 76) rfl (by decide), bT9_mk T21 hm (id := 77) rfl (by decide), bT9_mk T22 hm (id := 78) rfl (by decide), bT9_mk T23 hm (id := 79) rfl (by decide), ?_⟩
  have T25 := bT9_step (k := 28) (id := 80) (len := 16) T24 hz (by decide) rfl rfl (by decide)
  have T26 := bT9_step (k := 29) (id := 81) (len := 16) T25 hz (by decide) rfl rfl (by decide)
  have T27 := bT9_step (k := 30) (id := 82) (len := 16) T26 hz (by decide) rfl rfl (by decide)
  have T28 := bT9_step (k := 31) (id := 83) (len := 16) T27 hz (by decide) rfl rfl (by decide)
  have T29 := bT9_step (k := 32) (id := 84) (len := 192) T28 hz (by decide) rfl rfl (by decide)
  have T30 := bT9_step (k := 33) (id := 85) (len := 16) T29 hz (by decide) rfl rfl (by decide)
  have T31 := bT9_step (k := 34) (id := 86) (len := 96) T30 hz (by decide) rfl rfl (by decide)
  have T32 := bT9_step (k := 35) (id := 87) (len := 96) T31 hz (by decide) rfl rfl (by decide)
  refine sq195_98 (bWp_mono _) hA ⟨bT9_mk T24 hm (id := 80) rfl (by decide), bT9_mk T25 hm (id := 81) rfl (by decide), bT9_mk T26 hm (id := 82) rfl (by decide), bT9_mk T27 hm (id := 83) rfl (by decide), bT9_mk T28 hm (id := 84) rfl (by decide), bT9_mk T29 hm (id := 85) rfl (by decide), bT9_mk T30 hm (id := 86) rfl (by decide), bT9_mk T31 hm (id := 87) rfl (by decide), ?_⟩
  have T33 := bT9_step (k := 36) (id := 88) (len := 96) T32 hz (by decide) rfl rfl (by decide)
  have T34 := bT9_step (k := 37) (id := 89) (len := 16) T33 hz (by decide) rfl rfl (by decide)
  have T35 := bT9_step (k := 38) (id := 90) (len := 16) T34 hz (by decide) rfl rfl (by decide)
  have T36 := bT9_step (k := 39) (id := 91) (len := 16) T35 hz (by decide) rfl rfl (by decide)
  have T37 := bT9_step (k := 40) (id := 92) (len := 16) T36 hz (by decide) rfl rfl (by decide)
  have T38 := bT9_step (k := 41) (id := 93) (len := 16) T37 hz (by decide) rfl rfl (by decide)
  have T39 := bT9_step (k := 42) (id := 94) (len := 4096) T38 hz (by decide) rfl rfl (by decide)
  have T40 := bT9_step (k := 43) (id := 95) (len := 4096) T39 hz (by decide) rfl rfl (by decide)
  refine sq195_130 (bWp_mono _) hA ⟨bT9_mk T32 hm (id := 88) rfl (by decide), bT9_mk T33 hm (id := 89) rfl (by decide), bT9_mk T34 hm (id := 90) rfl (by decide), bT9_mk T35 hm (id := 91) rfl (by decide), bT9_mk T36 hm (id := 92) rfl (by decide), bT9_mk T37 hm (id := 93) rfl (by decide), bT9_mk T38 hm (id := 94) rfl (by decide), bT9_mk T39 hm (id := 95) rfl (by decide), ?_⟩
  have T41 := bT9_step (k := 44) (id := 96) (len := 4096) T40 hz (by decide) rfl rfl (by decide)
  have T42 := bT9_step (k := 45) (id := 97) (len := 4096) T41 hz (by decide) rfl rfl (by decide)
  have T43 := bT9_step (k := 46) (id := 98) (len := 4096) T42 hz (by decide) rfl rfl (by decide)
  have T44 := bT9_step (k := 47) (id := 99) (len := 4096) T43 hz (by decide) rfl rfl (by decide)
  have T45 := bT9_step (k := 48) (id := 100) (len := 4096) T44 hz (by decide) rfl rfl (by decide)
  have T46 := bT9_step (k := 50) (id := 101) (len := 120) T45 hz (by decide) rfl rfl (by decide)
  have T47 := bT9_step (k := 51) (id := 102) (len := 120) T46 hz (by decide) rfl rfl (by decide)
  have T48 := bT9_step (k := 52) (id := 103) (len := 120) T47 hz (by decide) rfl rfl (by decide)
  refine sq195_162 (bWp_mono _) hA ⟨bT9_mk T40 hm (id := 96) rfl (by decide), bT9_mk T41 hm (id := 97) rfl (by decide), bT9_mk T42 hm (id := 98) rfl (by decide), bT9_mk T43 hm (id := 99) rfl (by decide), bT9_mk T44 hm (id := 100) rfl (by decide), bT9_mk T45 hm (id := 101) rfl (by decide), bT9_mk T46 hm (id := 102) rfl (by decide), bT9_mk T47 hm (id := 103) rfl (by decide), ?_⟩
  have T49 := bT9_step (k := 53) (id := 104) (len := 120) T48 hz (by decide) rfl rfl (by decide)
  have T50 := bT9_step (k := 54) (id := 105) (len := 120) T49 hz (by decide) rfl rfl (by decide)
  have T51 := bT9_step (k := 55) (id := 106) (len := 4800) T50 hz (by decide) rfl rfl (by decide)
  have T52 := bT9_step (k := 56) (id := 107) (len := 120) T51 hz (by decide) rfl rfl (by decide)
  have T53 := bT9_step (k := 57) (id := 108) (len := 120) T52 hz (by decide) rfl rfl (by decide)
  have T54 := bT9_step (k := 58) (id := 109) (len := 120) T53 hz (by decide) rfl rfl (by decide)
  have T55 := bT9_step (k := 59) (id := 110) (len := 120) T54 hz (by decide) rfl rfl (by decide)
  have T56 := bT9_step (k := 60) (id := 111) (len := 120) T55 hz (by decide) rfl rfl (by decide)
  refine sq195_194 (bWp_mono _) hA ⟨bT9_mk T48 hm (id := 104) rfl (by decide), bT9_mk T49 hm (id := 105) rfl (by decide), bT9_mk T50 hm (id := 106) rfl (by decide), bT9_mk T51 hm (id := 107) rfl (by decide), bT9_mk T52 hm (id := 108) rfl (by decide), bT9_mk T53 hm (id := 109) rfl (by decide), bT9_mk T54 hm (id := 110) rfl (by decide), bT9_mk T55 hm (id := 111) rfl (by decide), ?_⟩
  have T57 := bT9_step (k := 61) (id := 112) (len := 120) T56 hz (by decide) rfl rfl (by decide)
  have T58 := bT9_step (k := 62) (id := 113) (len := 4800) T57 hz (by decide) rfl rfl (by decide)
  have T59 := bT9_step (k := 63) (id := 114) (len := 120) T58 hz (by decide) rfl rfl (by decide)
  have T60 := bT9_step (k := 64) (id := 115) (len := 5760) T59 hz (by decide) rfl rfl (by decide)
  have T61 := bT9_step (k := 65) (id := 116) (len := 64) T60 hz (by decide) rfl rfl (by decide)
  have T62 := bT9_step (k := 66) (id := 117) (len := 64) T61 hz (by decide) rfl rfl (by decide)
  have T63 := bT9_step (k := 67) (id := 118) (len := 64) T62 hz (by decide) rfl rfl (by decide)
  have T64 := bT9_step (k := 69) (id := 119) (len := 64) T63 hz (by decide) rfl rfl (by decide)
  refine sq195_226 (bWp_mono _) hA ⟨bT9_mk T56 hm (id := 112) rfl (by decide), bT9_mk T57 hm (id := 113) rfl (by decide), bT9_mk T58 hm (id := 114) rfl (by decide), bT9_mk T59 hm (id := 115) rfl (by decide), bT9_mk T60 hm (id := 116) rfl (by decide), bT9_mk T61 hm (id := 117) rfl (by decide), bT9_mk T62 hm (id := 118) rfl (by decide), bT9_mk T63 hm (id := 119) rfl (by decide), ?_⟩
  have T65 := bT9_step (k := 71) (id := 120) (len := 48) T64 hz (by decide) rfl rfl (by decide)
  have T66 := bT9_step (k := 74) (id := 121) (len := 80) T65 hz (by decide) rfl rfl (by decide)
  have T67 := bT9_step (k := 75) (id := 122) (len := 80) T66 hz (by decide) rfl rfl (by decide)
  have T68 := bT9_step (k := 76) (id := 123) (len := 80) T67 hz (by decide) rfl rfl (by decide)
  have T69 := bT9_step (k := 77) (id := 124) (len := 80) T68 hz (by decide) rfl rfl (by decide)
  have T70 := bT9_step (k := 78) (id := 125) (len := 80) T69 hz (by decide) rfl rfl (by decide)
  have T71 := bT9_step (k := 79) (id := 126) (len := 3200) T70 hz (by decide) rfl rfl (by decide)
  have T72 := bT9_step (k := 80) (id := 127) (len := 80) T71 hz (by decide) rfl rfl (by decide)
  refine sq195_258 (bWp_mono _) hA ⟨bT9_mk T64 hm (id := 120) rfl (by decide), bT9_mk T65 hm (id := 121) rfl (by decide), bT9_mk T66 hm (id := 122) rfl (by decide), bT9_mk T67 hm (id := 123) rfl (by decide), bT9_mk T68 hm (id := 124) rfl (by decide), bT9_mk T69 hm (id := 125) rfl (by decide), bT9_mk T70 hm (id := 126) rfl (by decide), bT9_mk T71 hm (id := 127) rfl (by decide), ?_⟩
  have T73 := bT9_step (k := 81) (id := 128) (len := 3840) T72 hz (by decide) rfl rfl (by decide)
  have T74 := bT9_step (k := 82) (id := 129) (len := 80) T73 hz (by decide) rfl rfl (by decide)
  have T75 := bT9_step (k := 83) (id := 130) (len := 120) T74 hz (by decide) rfl rfl (by decide)
  have T76 := bT9_step (k := 84) (id := 131) (len := 120) T75 hz (by decide) rfl rfl (by decide)
  have T77 := bT9_step (k := 85) (id := 132) (len := 5760) T76 hz (by decide) rfl rfl (by decide)
  have T78 := bT9_step (k := 86) (id := 133) (len := 120) T77 hz (by decide) rfl rfl (by decide)
  have T79 := bT9_step (k := 89) (id := 134) (len := 1000) T78 hz (by decide) rfl rfl (by decide)
  have T80 := bT9_step (k := 90) (id := 135) (len := 1000) T79 hz (by decide) rfl rfl (by decide)
  refine sq195_290 (bWp_mono _) hA ⟨bT9_mk T72 hm (id := 128) rfl (by decide), bT9_mk T73 hm (id := 129) rfl (by decide), bT9_mk T74 hm (id := 130) rfl (by decide), bT9_mk T75 hm (id := 131) rfl (by decide), bT9_mk T76 hm (id := 132) rfl (by decide), bT9_mk T77 hm (id := 133) rfl (by decide), bT9_mk T78 hm (id := 134) rfl (by decide), bT9_mk T79 hm (id := 135) rfl (by decide), ?_⟩
  have T81 := bT9_step (k := 91) (id := 136) (len := 3) T80 hz (by decide) rfl rfl (by decide)
  have T82 := bT9_step (k := 92) (id := 137) (len := 12) T81 hz (by decide) rfl rfl (by decide)
  have T83 := bT9_step (k := 93) (id := 138) (len := 12) T82 hz (by decide) rfl rfl (by decide)
  have T84 := bT9_step (k := 94) (id := 139) (len := 12) T83 hz (by decide) rfl rfl (by decide)
  have T85 := bT9_step (k := 96) (id := 140) (len := 120) T84 hz (by decide) rfl rfl (by decide)
  have T86 := bT9_step (k := 97) (id := 141) (len := 120) T85 hz (by decide) rfl rfl (by decide)
  have T87 := bT9_step (k := 98) (id := 142) (len := 120) T86 hz (by decide) rfl rfl (by decide)
  have T88 := bT9_step (k := 99) (id := 143) (len := 120) T87 hz (by decide) rfl rfl (by decide)
  have T89 := bT9_step (k := 100) (id := 144) (len := 120) T88 hz (by decide) rfl rfl (by decide)
  have T90 := bT9_step (k := 101) (id := 145) (len := 120) T89 hz (by decide) rfl rfl (by decide)
  have T91 := bT9_step (k := 102) (id := 146) (len := 120) T90 hz (by decide) rfl rfl (by decide)
  have T92 := bT9_step (k := 103) (id := 147) (len := 120) T91 hz (by decide) rfl rfl (by decide)
  have T93 := bT9_step (k := 104) (id := 148) (len := 120) T92 hz (by decide) rfl rfl (by decide)
  have T94 := bT9_step (k := 107) (id := 149) (len := 128) T93 hz (by decide) rfl rfl (by decide)
  have T95 := bT9_step (k := 108) (id := 150) (len := 128) T94 hz (by decide) rfl rfl (by decide)
  have T96 := bT9_step (k := 109) (id := 151) (len := 64) T95 hz (by decide) rfl rfl (by decide)
  have T97 := bT9_step (k := 110) (id := 152) (len := 2048) T96 hz (by decide) rfl rfl (by decide)
  have T98 := bT9_step (k := 113) (id := 153) (len := 16) T97 hz (by decide) rfl rfl (by decide)
  refine sq195_322 (bWp_mono _) hA ⟨bT9_mk T80 hm (id := 136) rfl (by decide), bT9_mk T81 hm (id := 137) rfl (by decide), bT9_mk T82 hm (id := 138) rfl (by decide), bT9_mk T83 hm (id := 139) rfl (by decide), bT9_mk T84 hm (id := 140) rfl (by decide), bT9_mk T85 hm (id := 141) rfl (by decide), bT9_mk T86 hm (id := 142) rfl (by decide), bT9_mk T87 hm (id := 143) rfl (by decide), bT9_mk T88 hm (id := 144) rfl (by decide), bT9_mk T89 hm (id := 145) rfl (by decide), bT9_mk T90 hm (id := 146) rfl (by decide), fun s1 e1 => ?_⟩
  subst e1
  refine ⟨bT9_mk T91 hm (id := 147) rfl (by decide), bT9_mk T92 hm (id := 148) rfl (by decide), bT9_mk T93 hm (id := 149) rfl (by decide), bT9_mk T94 hm (id := 150) rfl (by decide), bT9_mk T95 hm (id := 151) rfl (by decide), bT9_mk T96 hm (id := 152) rfl (by decide), bT9_mk T97 hm (id := 153) rfl (by decide), ?_⟩
  exact w195tg hA T98 hz h
end

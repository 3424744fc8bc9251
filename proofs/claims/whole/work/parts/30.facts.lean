def bCp : List (Nat × Nat) := [(2, 15), (5, 222), (5, 234), (5, 230), (6, 120), (6, 31), (6, 5), (6, 23), (5, 202), (5, 206), (6, 51), (6, 99), (6, 179), (6, 47), (7, 6), (2, 203), (6, 69), (6, 65), (6, 77), (3, 78), (5, 174), (6, 15), (5, 170), (2, 222), (5, 150), (6, 151), (6, 155), (6, 159), (6, 170), (6, 87), (1, 36), (3, 195), (3, 191), (3, 239), (3, 235), (4, 15), (4, 27), (2, 21), (5, 226), (7, 17), (6, 125), (6, 130), (6, 136), (6, 73), (6, 55), (2, 197), (5, 185), (5, 193), (6, 10), (6, 27), (6, 38), (6, 174), (6, 43), (6, 83), (6, 91), (6, 95), (6, 103), (6, 107), (6, 111), (6, 116), (6, 140), (6, 147), (6, 164), (6, 185), (6, 207), (6, 211), (6, 215), (2, 8), (5, 62), (5, 79), (5, 75), (5, 83), (5, 87), (5, 99), (5, 107), (5, 117), (5, 126), (5, 132), (5, 71), (5, 189), (5, 210), (6, 19), (6, 189), (6, 226), (7, 36), (7, 40), (5, 214), (5, 218), (6, 0), (5, 198), (1, 62), (4, 39), (4, 44), (4, 61), (4, 50), (4, 77), (5, 67), (4, 132), (4, 143), (4, 118), (4, 98), (4, 81), (4, 86), (4, 90), (4, 94), (4, 102), (4, 106), (4, 110), (4, 114), (1, 151), (4, 229), (5, 14), (5, 94), (4, 217), (5, 32), (5, 44), (5, 112), (5, 103), (7, 62), (1, 144), (4, 206), (4, 195), (7, 107), (7, 125), (7, 129), (7, 97), (7, 101), (7, 114), (1, 117), (4, 157), (4, 160), (4, 154), (4, 171), (4, 183), (5, 121), (1, 28), (3, 106), (4, 128), (3, 172), (3, 216), (4, 4), (3, 198), (4, 64), (3, 103), (3, 205), (3, 213), (4, 11), (4, 22), (4, 35), (4, 57), (4, 73), (4, 125), (4, 139), (4, 150), (4, 167), (4, 179), (4, 191), (4, 202), (4, 213), (4, 225), (4, 236), (5, 3), (5, 10), (5, 21), (5, 28), (5, 40), (5, 51), (5, 58), (5, 146), (3, 70), (5, 159), (5, 166), (3, 74), (3, 82), (5, 181), (6, 196), (3, 86), (6, 203), (3, 90), (6, 222), (6, 233), (7, 2), (7, 13), (7, 25), (7, 32), (7, 49), (7, 54), (7, 58), (7, 66), (7, 78), (3, 94), (7, 85), (7, 93), (7, 121), (7, 136), (7, 141), (9, 9), (9, 23), (9, 218), (9, 19), (9, 16), (9, 34), (9, 13), (9, 27), (9, 31), (9, 45), (9, 42), (9, 38), (9, 53), (9, 49), (9, 60), (9, 63), (9, 57), (9, 67), (9, 75), (9, 79), (9, 87), (9, 91), (9, 83), (9, 71), (9, 95), (9, 99), (9, 103), (9, 107), (9, 111), (9, 123), (9, 115), (9, 119), (9, 127), (9, 135), (9, 131), (9, 139), (9, 143), (9, 147), (9, 151), (9, 155), (9, 159), (9, 163), (9, 175), (9, 182), (9, 179), (9, 171), (9, 186), (9, 190), (9, 167), (9, 206), (9, 210), (9, 202), (9, 194), (9, 198), (10, 62), (10, 66), (9, 214), (9, 226), (9, 222), (9, 230), (9, 234), (10, 18), (10, 14), (10, 6), (10, 10), (10, 142), (10, 102), (9, 238), (10, 2), (10, 110), (10, 138), (10, 146), (10, 158), (10, 38), (10, 106), (10, 134), (10, 98), (10, 22), (10, 26), (10, 30), (10, 34), (10, 42), (10, 46), (10, 150), (10, 74), (10, 126), (10, 86), (10, 58), (10, 54), (10, 50), (10, 70), (10, 78), (10, 82), (10, 169), (10, 118), (10, 114), (10, 122), (10, 130), (10, 154), (10, 94), (10, 162), (10, 166), (10, 90), (10, 173), (10, 177), (10, 185), (10, 181), (10, 189), (10, 193), (10, 197), (10, 205), (10, 209), (10, 213), (10, 221), (10, 217), (10, 229), (10, 225), (10, 233), (3, 97), (3, 201), (3, 208), (4, 7), (4, 18), (4, 31), (4, 53), (4, 69), (4, 121), (4, 135), (4, 146), (4, 163), (4, 175), (4, 187), (4, 198), (4, 209), (4, 221), (4, 232), (4, 239), (5, 6), (5, 17), (5, 24), (5, 36), (5, 47), (5, 54), (5, 142), (5, 155), (5, 162), (5, 177), (6, 192), (6, 199), (6, 218), (6, 229), (6, 238), (7, 9), (7, 21), (7, 28), (7, 45), (7, 74), (7, 81), (7, 89), (7, 117), (7, 132), (99, 0), (5, 136), (6, 34), (6, 58), (1, 40)]
noncomputable def bMfB (n : Nat) : Bool := plainFor (bYt n).1 && bHokM (bMt n) && (decide ((bMt n).2.1 = []) || decide ((bYt n).1.cls = "BuildmillLaw")) && Nat.ble (bMt n).2.2 24 && ((!Nat.blt n 314 && !Nat.blt 357 n) || decide ((bMt n).2.1 = [])) && (!decide ((bYt n).1.name = "<init>") || decide ((bYt n).2.2 = none)) && bThB n (bMt n) && Nat.beq (bRow (bMt n) 0).1 0
theorem bMfB_spec {n : Nat} {q : Nat × Nat} (h1 : bWat q = some (bCw n)) (h : bMfB n = true) : bMf n ∧ bThB n (bMt n) = true ∧ (bRow (bMt n) 0).1 = 0 := by
  unfold bMfB at h
  simp only [Bool.and_eq_true, Bool.or_eq_true, decide_eq_true_eq, Nat.ble_eq, Nat.beq_eq, Bool.not_eq_true', Nat.blt_eq] at h
  obtain ⟨⟨⟨⟨⟨⟨⟨h2, h3⟩, h4⟩, h5⟩, h6⟩, h7⟩, h8⟩, h9⟩ := h
  refine ⟨⟨bWat_mem h1, h2, h3, h4, h5, fun hn => ?_, fun hn => ?_⟩, h8, h9⟩
  · rcases h6 with ⟨z1, z2⟩ | z
    · exfalso
      have z1' : ¬ n < 314 := fun w => by rw [show Nat.blt n 314 = true from Nat.ble_eq.mpr w] at z1; cases z1
      have z2' : ¬ 357 < n := fun w => by rw [show Nat.blt 357 n = true from Nat.ble_eq.mpr w] at z2; cases z2
      omega
    · exact z
  · rcases h7 with z | z
    · rw [decide_eq_false_iff_not] at z
      exact absurd hn z
    · exact z
theorem bg_wk : ∀ k, k < 3 → Cond.classLink "BuildmillLaw" (bIxE k) (bExn k) ∈ lw_tbl ∧ Cond.castable (bExn k) (bExn k) ∈ lw_tbl
  | 0, _ => ⟨bWat_mem (q := (3, 98)) (of_decide_eq_true (by decide +kernel)), bWat_mem (q := (3, 109)) (of_decide_eq_true (by decide +kernel))⟩
  | 1, _ => ⟨bWat_mem (q := (3, 99)) (of_decide_eq_true (by decide +kernel)), bWat_mem (q := (3, 175)) (of_decide_eq_true (by decide +kernel))⟩
  | 2, _ => ⟨bWat_mem (q := (3, 209)) (of_decide_eq_true (by decide +kernel)), bWat_mem (q := (3, 219)) (of_decide_eq_true (by decide +kernel))⟩
  | k + 3, h => absurd h (by omega)
theorem bg_at : ∀ E, E < 3 → ((vx_at0 "Buildmill" (61 + 3 * E) (bExn E) bSup).all fun w => decide (w ∈ lw_tbl) && bMv w && vx_ot w) = true
  | 0, _ => by decide +kernel
  | 1, _ => by decide +kernel
  | 2, _ => by decide +kernel
  | k + 3, h => absurd h (by omega)
theorem bg_th : ∀ E, E < 3 → Cond.classLink "Buildmill" (59 + 3 * E) (bExn E) ∈ lw_tbl ∧ Cond.initialized (bExn E) ∈ lw_tbl
  | 0, _ => ⟨bWat_mem (q := (3, 107)) (of_decide_eq_true (by decide +kernel)), bWat_mem (q := (1, 18)) (of_decide_eq_true (by decide +kernel))⟩
  | 1, _ => ⟨bWat_mem (q := (3, 173)) (of_decide_eq_true (by decide +kernel)), bWat_mem (q := (1, 19)) (of_decide_eq_true (by decide +kernel))⟩
  | 2, _ => ⟨bWat_mem (q := (3, 217)) (of_decide_eq_true (by decide +kernel)), bWat_mem (q := (1, 20)) (of_decide_eq_true (by decide +kernel))⟩
  | k + 3, h => absurd h (by omega)
def bIns : List (Nat × Nat) := [(2, 12), (2, 200), (2, 219), (1, 33), (2, 18), (2, 194), (2, 5), (1, 59), (1, 148), (1, 141), (1, 114), (1, 25), (7, 138)]
theorem bg_ins0 : ((List.range 13).all fun ci => decide (bWat (bnth bIns ci (0, 9999)) = some (Cond.instantiable (bCn ci) (bNf ci)))) = true := by decide +kernel
theorem bg_ins : ∀ ci, ci < 13 → Cond.instantiable (bCn ci) (bNf ci) ∈ lw_tbl := fun ci hci => bWat_mem (of_decide_eq_true (List.all_eq_true.mp bg_ins0 ci (List.mem_range.mpr hci)))
theorem bg_arr : Cond.arrayClass .int ∈ lw_tbl ∧ Cond.arrayClass .boolean ∈ lw_tbl ∧ Cond.arrayClass .long ∈ lw_tbl := ⟨bWat_mem (q := (1, 56)) (of_decide_eq_true (by decide +kernel)), bWat_mem (q := (1, 57)) (of_decide_eq_true (by decide +kernel)), bWat_mem (q := (1, 228)) (of_decide_eq_true (by decide +kernel))⟩
theorem bg_ov : ∀ ci, ci = 0 ∨ ci = 4 ∨ ci = 8 → Cond.arrayOver (.object (bCn ci)) ∈ lw_tbl := by
  intro ci h
  rcases h with rfl | rfl | rfl
  · exact bWat_mem (q := (2, 11)) (of_decide_eq_true (by decide +kernel))
  · exact bWat_mem (q := (2, 206)) (of_decide_eq_true (by decide +kernel))
  · exact bWat_mem (q := (1, 147)) (of_decide_eq_true (by decide +kernel))
theorem bg_st : Cond.laysStatic Bundle.tN "UNASSIGNED_STACK" Bundle.steD ∈ lw_tbl ∧ Cond.laysStatic Bundle.tN "SUPPRESSED_SENTINEL" Bundle.listD ∈ lw_tbl ∧ Cond.laysStatic "Buildmill$Disk" "PARENTS" "[I" ∈ lw_tbl ∧ Cond.initialized Bundle.tN ∈ lw_tbl ∧ Cond.initialized "Buildmill$Disk" ∈ lw_tbl :=
  ⟨bWat_mem (q := (3, 134)) (of_decide_eq_true (by decide +kernel)), bWat_mem (q := (3, 136)) (of_decide_eq_true (by decide +kernel)), bWat_mem (q := (4, 1)) (of_decide_eq_true (by decide +kernel)), bWat_mem (q := (1, 15)) (of_decide_eq_true (by decide +kernel)), bWat_mem (q := (1, 2)) (of_decide_eq_true (by decide +kernel))⟩
theorem bg_7 : bThB 357 (bMt 357) = true ∧ (bRow (bMt 357) 0).1 = 0 ∧ (bMt 357).2.1 = [] ∧ (bMt 357).2.2 = 8 := ⟨by decide +kernel, by decide +kernel, by decide +kernel, by decide +kernel⟩
theorem bg_8 : bYt 357 = (⟨"BuildmillLaw", "law", "([I)Z"⟩, code, ret) := rfl

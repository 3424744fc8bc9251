/-! ACTIONS, 4: a node is described -/
section
variable {d : Nat} {σ s t r : bSt} {f : Int → bSt → Prop} {fv : bSt → Prop} {fa : Nat → bSt → Prop} {q x y v i op nu ve ho : Int} {L : List Int} {P : Int → Bool}
/-- what an item's target has made, by the class -/
def bMd (σ : bSt) (y : Int) : Int := bi σ 30 y
theorem w86 (hF : bFi σ) (hL : bTl σ) (hT : bTg σ) (h4 : bR4 σ) (hq : bi σ 6 13 = q) (q0 : 0 ≤ q ∧ q ≤ 120) (A1 : bAm1 σ q) (hM : ∀ y, 0 ≤ y → y < 4096 → -1 ≤ bi σ 30 y ∧ bi σ 30 y < 1000) (x0 : 0 ≤ x) (ht : bTgk σ (x / 256)) (hE : bFx σ x = 0)
    (h0 : (∃ k, 0 ≤ k ∧ k < bi σ 85 (x / 256) ∧ bi σ 86 (6 * (x / 256) + k) = 2 ∧ bi σ 30 (bNod σ x k) = -1) → ∀ s, bCd q σ s → br s 33 q = some (bAi q) → f 0 s)
    (h1 : (∀ k, 0 ≤ k → k < bi σ 85 (x / 256) → bi σ 86 (6 * (x / 256) + k) = 2 → bi σ 30 (bNod σ x k) ≠ -1) → ∀ s, bCd q σ s → br s 33 q = some (bAi q) → bHas s q (bi σ 76 (x / 256)) (bNu σ (x / 256) (x % 256)) (bVe σ (x / 256) (x % 256)) (bi σ 75 (x / 256)) (bIl σ (bMd σ) x (bi σ 85 (x / 256)).toNat) → f 1 s) : bWp (d + 5) 86 [.ref 6, .int (bn x)] σ (bRn f) := by
  have tc := hT.1
  have ht1 := ht.1
  have ht2 := ht.2
  have ic := bIc_at hT ht
  have dr := bDir_at hT ht
  have x8 : bShr x 8 = x / 256 := bShr_8 x0 (by omega)
  have x255 : bAnd x 255 = x % 256 := bAnd_255 x0 (by omega)
  have hc : 0 ≤ x % 256 ∧ x % 256 < 256 := by omega
  obtain ⟨l40, l40n, e40, pk, nuN, veN⟩ := bIl_40 (G := bMd σ) hT x0 ht hE
  have TG := hT.2.2.2 _ ht.1 ht.2
  have cn := TG.2.2.2.2.2.2.2.2.2.2.2.1.2
  have nr := bNuS_rg (c := x % 256) hT ht (h4 _ ht) (bi σ 83 (x / 256)).toNat 0 (by decide) (by omega)
  have vr := bVe_rg hL (t := x / 256) (c := x % 256)
  have p1 : bi σ 57 (bi σ 75 (x / 256)) = 1 := (hF.2.2.1 _ dr.2.1 dr.2.2).resolve_left pk
  obtain ⟨m0, m1, m2, m3⟩ := bAi_m (q := q)
  have mod : ∀ {s}, bCd q σ s → bFi s ∧ bTl s ∧ bTg s ∧ bTgk s (x / 256) ∧ bPag σ s := fun {s} C => by
    have u := bCd_un C
    have ag := bCd_pag C
    exact ⟨bFi_un u (by decide) hF, bTl_un u (by decide) (by decide) hL, bTg_un u (by decide) (by decide) hT, ⟨ht.1, by rw [ag.2.2.1]; exact ht.2⟩, ag⟩
  refine ⟨rfl, fun A hA => sq86_0 (bWp_mono _) hA ⟨by omega, by omega⟩ ?_⟩
  rw [x8, x255]
  refine w120 (hT.2.1 _ ht.1 ht.2) ht.1 (by omega) (w87 hq q0.1 q0.2 A1 fun s1 C1 Z1 => ⟨bTi_m, ?_⟩)
  obtain ⟨f1, l1, t1, k1, ag1⟩ := mod C1
  refine w116 t1 k1 hc (by rw [ag1.2.2.2]; exact h4 _ ht) ?_
  rw [bNu_m ag1]
  refine w75 l1 t1 k1 ⟨x0, by omega⟩ ⟨m0, ?_⟩
  rw [bVe_m ag1]
  have nur : bRg (bNu σ (x / 256) (x % 256)) := by
    have e : bNu σ (x / 256) (x % 256) = bNuS σ (x / 256) (x % 256) (bi σ 83 (x / 256)).toNat 0 := rfl
    rw [e]; exact ⟨by omega, by omega⟩
  refine w1 t1 k1 Z1 C1.2.2.1 nur ⟨by omega, by omega⟩ fun s2 C2 Z2 H2 => ?_
  rw [(bCd_un C1).1 76 (by decide) (by decide), (bCd_un C1).1 75 (by decide) (by decide)] at H2
  have Lp : ∀ (m n : Nat) (s : bSt) (v5 v6 : Value), (n : Int) + m = bi σ 85 (x / 256) → bCd q σ s → br s 33 q = some (bAi q) → bHas s q (bi σ 76 (x / 256)) (bNu σ (x / 256) (x % 256)) (bVe σ (x / 256) (x % 256)) (bi σ 75 (x / 256)) (bIl σ (bMd σ) x n) → (∀ k, 0 ≤ k → k < (n : Int) → bi σ 86 (6 * (x / 256) + k) = 2 → bi σ 30 (bNod σ x k) ≠ -1) → A (24, [.ref 6, .int (bn x), .ref (bTi (x / 256)), .ref (bAi q), .int (bn n), v5, v6], [], s) := by
    intro m
    induction m with
    | zero =>
      intro n s v5 v6 hn C Z HS D
      obtain ⟨f2, l2, t2, k2, ag2⟩ := mod C
      have e : n = (bi σ 85 (x / 256)).toNat := by omega
      have g13 : bi s (bTi (x / 256)) 13 = bi σ 85 (x / 256) := ((bCd_un C).1 _ (by rw [bTi_m]; decide) (by rw [bTi_m]; decide) 13).trans ic.1
      refine sq86_24 (bWp_mono _) hA ⟨by omega, by omega⟩ ⟨by omega, by omega⟩ ⟨bTi_m, fun w => absurd w (by rw [g13]; omega), fun _ => bRn_i (by decide) (h1 (fun k k0 k1 => D k k0 (by omega)) s C Z (by rw [← e]; exact HS))⟩
    | succ m ih =>
      intro n s v5 v6 hn C Z HS D
      obtain ⟨f2, l2, t2, k2, ag2⟩ := mod C
      have hn2 : (n : Int) < bi σ 85 (x / 256) := by omega
      have g13 : bi s (bTi (x / 256)) 13 = bi σ 85 (x / 256) := ((bCd_un C).1 _ (by rw [bTi_m]; decide) (by rw [bTi_m]; decide) 13).trans ic.1
      have l38 : bi s (bTi (x / 256) + 38) n = bi σ (bTi (x / 256) + 38) n := (bCd_un C).1 _ (by rw [show (bTi (x / 256) + 38) % 256 = 46 by have := bTi_m (t := x / 256); omega]; decide) (by have := bTi_m (t := x / 256); omega) n
      have hn85 : (n : Int) < bi s 85 (x / 256) := by rw [ag2.1 85 (by decide)]; exact hn2
      have nlen := l40n (n + 1) (by omega)
      have eIl : bIl σ (bMd σ) x (n + 1) = bIl σ (bMd σ) x n ++ bIi σ (bMd σ) x n := rfl
      have s30 : ∀ j, bi s 30 j = bi σ 30 j := (bCd_un C).1 30 (by decide) (by decide)
      have nx := ih (n + 1)
      rw [show ((n + 1 : Nat) : Int) = (n : Int) + 1 by omega] at nx
      refine sq86_24 (bWp_mono _) hA ⟨by omega, by omega⟩ ⟨by omega, by omega⟩ ⟨bTi_m, fun _ => ?_, fun w => absurd (by rw [g13]; exact hn2) w⟩
      refine w112 g13 (by omega) (by omega) ic.2.2 (w73 t2 k2 ⟨x0, by omega⟩ (by omega) hn85 ?_)
      rw [ag2.1 86 (by decide), ag2.1 87 (by decide), bBw_m ag2, l38]
      obtain ⟨hD, it⟩ := bItm_at hT ht (i := n) (by omega) hn2
      have Dk : (bi σ 86 (6 * (x / 256) + n) = 2 → bi σ 30 (bNod σ x n) ≠ -1) → ∀ k, 0 ≤ k → k < (n : Int) + 1 → bi σ 86 (6 * (x / 256) + k) = 2 → bi σ 30 (bNod σ x k) ≠ -1 := fun h k k0 k1 hK => by
        by_cases e : k = n
        · rw [e] at hK ⊢; exact h hK
        · exact D k k0 (by omega) hK
      rcases it with ⟨w, w0, w1, e⟩ | ⟨w, w0, w1, e⟩ | ⟨w, w0, w1, e⟩
      · have eI : bIi σ (bMd σ) x n = [bi σ 87 (6 * (x / 256) + n)] := by unfold bIi; rw [if_pos w]
        rw [e, if_neg (by omega)]
        refine ⟨fun _ => ⟨fun _ => ⟨m0, ?_⟩, fun z => absurd rfl z⟩, fun z => absurd (show bi σ 87 (6 * (x / 256) + n) < 1000 by omega) z⟩
        obtain ⟨W, hW⟩ := bFinN (n := 48) w0 w1
        rw [hW, ← (bMk_1 W).1]
        refine w3 (P := fun p => decide (p = (W.val : Int))) Z C.2.2.1 HS ?_ fun s3 C3 Z3 H3 => ⟨⟨by omega, by omega⟩, ?_⟩
        · rw [eIl, eI, List.length_append] at nlen
          have := bGl_len (P := fun p => decide (p = (W.val : Int))) 48
          rw [(bMk_1 W).2] at this
          rw [← this]
          have l1 : ([bi σ 87 (6 * (x / 256) + n)] : List Int).length = 1 := rfl
          have l2 : (([(W.val : Int)] : List Int).length : Int) = 1 := rfl
          omega
        · refine nx s3 _ _ (by omega) (bCd_trans C C3) Z3 ?_ (Dk fun z => by omega)
          rw [eIl, eI, hW, ← (bMk_1 W).2]
          exact H3
      · have eI : bIi σ (bMd σ) x n = bGl (bFd σ (bi σ 75 (x / 256)) (bi σ 87 (6 * (x / 256) + n)) (bi σ 88 (6 * (x / 256) + n))) 48 := by unfold bIi; rw [if_neg (by omega), if_neg (by omega)]
        rw [if_neg (by omega)]
        refine ⟨fun z => absurd z (by omega), fun _ => ?_⟩
        rw [← l38]
        refine w77 f2 t2 k2 (by rw [ag2.1 57 (by decide), ag2.1 75 (by decide)]; exact p1) (by omega) hn85 (by rw [ag2.1 86 (by decide)]; exact w) ⟨m0, ?_⟩
        rw [ag2.1 75 (by decide), ag2.1 87 (by decide), ag2.1 88 (by decide), bFd_p ag2]
        refine w3 Z C.2.2.1 HS ?_ fun s3 C3 Z3 H3 => ⟨⟨by omega, by omega⟩, ?_⟩
        · rw [eIl, eI, List.length_append] at nlen
          have := bGl_len (P := bFd σ (bi σ 75 (x / 256)) (bi σ 87 (6 * (x / 256) + n)) (bi σ 88 (6 * (x / 256) + n))) 48
          omega
        · refine nx s3 _ _ (by omega) (bCd_trans C C3) Z3 ?_ (Dk fun z => by omega)
          rw [eIl, eI]
          exact H3
      · have eI : bIi σ (bMd σ) x n = [100 + bi σ 30 (bNod σ x n)] := by unfold bIi; rw [if_neg (by omega), if_pos w]; rfl
        obtain ⟨⟨y0, y1, y2⟩, _⟩ := bNd_at hT ht (i := n) (by omega) hn2 w
        have y22 := y2.2
        have my := hM _ y0 (by omega)
        rw [e, if_pos w, show bi σ 87 (6 * (x / 256) + (n : Int)) * 256 + bBw σ (x / 256) (x % 256) = bNod σ x n from rfl]
        refine ⟨fun _ => ?_, fun z => absurd (show 100 + bi σ 87 (6 * (x / 256) + n) < 1000 by omega) z⟩
        refine ⟨fun z => absurd z (by omega), fun _ => w140i (n := 4096) rfl rfl (by decide) y0 (by omega) ?_⟩
        rw [s30]
        refine ⟨fun z => bRn_i (by decide) (h0 ⟨n, by omega, hn2, w, z⟩ s C Z), fun z => w140i (n := 4096) rfl rfl (by decide) y0 (by omega) ?_⟩
        rw [s30]
        refine ⟨⟨by omega, by omega⟩, m0, w2 Z C.2.2.1 HS ?_ ⟨by omega, by omega⟩ fun s3 C3 Z3 H3 => ⟨⟨by omega, by omega⟩, ?_⟩⟩
        · rw [eIl, eI, List.length_append] at nlen
          have l1 : ([100 + bi σ 30 (bNod σ x n)] : List Int).length = 1 := rfl
          omega
        · refine nx s3 _ _ (by omega) (bCd_trans C C3) Z3 ?_ (Dk fun _ => z)
          rw [eIl, eI]
          exact H3
  exact Lp (bi σ 85 (x / 256)).toNat 0 s2 _ _ (by omega) (bCd_trans C1 C2) Z2 H2 (fun k k0 k1 => by omega)
/-- the class's action a, as its object has it, is operation, number, version, home and inputs -/
def bSam (s : bSt) (a op nu ve ho : Int) (L : List Int) : Prop := bi s (bNe a) 0 = op ∧ bi s (bNe a) 1 = nu ∧ bi s (bNe a) 2 = ve ∧ bi s (bAi a) 1 = L.length ∧ (op = 5 → bi s (bAi a) 0 = ho) ∧ bHl s (bAi a + 13) 0 L
theorem w6 {a : Int} (ha : 0 ≤ bi σ (bAi a) 1 ∧ bi σ (bAi a) 1 ≤ 40) (H : bHas σ q op nu ve ho L) (h1 : bSam σ a op nu ve ho L → f 1 σ) (h0 : ¬ bSam σ a op nu ve ho L → f 0 σ) : bWp (d + 2) 6 [.ref (bAi a), .ref (bAi q)] σ (bRn f) := by
  obtain ⟨m0, m1, m2, m3⟩ := bAi_m (q := q)
  obtain ⟨n0, n1, n2, n3⟩ := bAi_m (q := a)
  have ea : 256 * (2 * (bAi a / 256) + 0) + 4 = bNe a := by rw [n3]; unfold bNe; omega
  have eq : 256 * (2 * (bAi q / 256) + 0) + 4 = bNe q := by rw [m3]; unfold bNe; omega
  have fa : 256 * (1 * (bAi a / 256) + 0) + 13 = bAi a + 13 := by rw [n3]; unfold bAi; omega
  have fq : 256 * (1 * (bAi q / 256) + 0) + 13 = bAi q + 13 := by rw [m3]; unfold bAi; omega
  obtain ⟨g0, g1, g2, g3, g4, g5⟩ := H
  refine ⟨rfl, fun A hA => sq6_0 (bWp_mono _) hA n0 m0 ?_⟩
  rw [ea, eq, g3, g4, g5, g0, g1]
  have bad : ¬ bSam σ a op nu ve ho L → A (42, [.ref (bAi a), .ref (bAi q), .int (bn 0), .int (bn 0)], [], σ) := fun w =>
    sq6_42 (bWp_mono _) hA (by decide) (by decide) ⟨fun _ => ⟨Or.inl rfl, bRn_i (by decide) (h0 w)⟩, fun z => absurd rfl z⟩
  refine ⟨n1, m1, fun c1 => ⟨fun c2 => ⟨fun c3 => ⟨fun c4 => ?_, fun c => bad fun w => c w.2.2.2.1⟩, fun c => bad fun w => c w.2.2.1⟩, fun c => bad fun w => c w.2.1⟩, fun c => bad fun w => c w.1⟩
  have good : (op = 5 → bi σ (bAi a) 0 = ho) → A (42, [.ref (bAi a), .ref (bAi q), .int (bn 1), .int (bn 0)], [], σ) := fun c5 => by
    have Lp : ∀ (m n : Nat), n + m = L.length → (∀ i : Nat, i < n → bi σ (bAi a + 13) (0 + i) = bi σ (bAi q + 13) (0 + i)) → A (42, [.ref (bAi a), .ref (bAi q), .int (bn 1), .int (bn n)], [], σ) := by
      intro m
      induction m with
      | zero =>
        intro n hn D
        refine sq6_42 (bWp_mono _) hA (by decide) ⟨by omega, by omega⟩ ⟨fun z => absurd z (by decide), fun _ => ⟨n0, fun w => absurd w (by rw [c4]; omega), fun _ => ⟨Or.inr rfl, bRn_i (by decide) (h1 ⟨c1, c2, c3, c4, c5, fun i hi => ?_⟩)⟩⟩⟩
        rw [D i (by omega)]
        exact g2 i hi
      | succ m ih =>
        intro n hn D
        refine sq6_42 (bWp_mono _) hA (by decide) ⟨by omega, by omega⟩ ⟨fun z => absurd z (by decide), fun _ => ⟨n0, fun _ => ?_, fun w => absurd (by rw [c4]; omega) w⟩⟩
        rw [fa]
        refine w140i (n := 40) (bAi_l σ).2 (bAi_l σ).1 (by decide) (by omega) (by omega) ⟨m0, ?_⟩
        rw [fq]
        refine w140i (n := 40) (bAi_l σ).2 (bAi_l σ).1 (by decide) (by omega) (by omega) ⟨fun c => ⟨⟨by omega, by omega⟩, ?_⟩, fun c => ⟨⟨by omega, by omega⟩, ?_⟩⟩
        · have nx := ih (n + 1) (by omega) (fun i hi => by
            by_cases e : i = n
            · rw [e, Int.zero_add]; exact c
            · exact D i (by omega))
          rw [show ((n + 1 : Nat) : Int) = (n : Int) + 1 by omega] at nx
          exact nx
        · refine sq6_42 (bWp_mono _) hA (by decide) ⟨by omega, by omega⟩ ⟨fun _ => ⟨Or.inl rfl, bRn_i (by decide) (h0 fun w => c ?_)⟩, fun z => absurd rfl z⟩
          have e1 := w.2.2.2.2.2 n (by omega)
          have e2 := g2 n (by omega)
          rw [Int.zero_add] at e1 e2
          rw [e1, e2]
    exact Lp L.length 0 (by omega) (fun i hi => by omega)
  exact ⟨fun o5 => ⟨fun c => good fun _ => c, fun c => bad fun w => c (w.2.2.2.2.1 (c1.symm.trans o5))⟩, fun o5 => good fun w => absurd (c1.trans w) o5⟩
end

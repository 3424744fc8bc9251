/-! ACTIONS, 7: the reference lays inputs and looks for an action -/
def bMa (σ : bSt) (y : Int) : Int := bi σ 99 y
section
variable {d : Nat} {σ s t r : bSt} {f : Int → bSt → Prop} {fv : bSt → Prop} {q x y v i op nu ve ho k : Int} {L : List Int} {P : Int → Bool}
theorem bHl_w {a : Nat} {o j : Int} (h : bHl s a o L) (o0 : 0 ≤ o) (hj : o + L.length ≤ j) : bHl (bw s a j v) a o L := fun i hi => by
  rw [bi_nj (by omega) (by omega) (by omega)]
  exact h i hi
theorem w245 (hF : bFi σ) (hT : bTg σ) (x0 : 0 ≤ x) (ht : bTgk σ (x / 256)) (hE : bFx σ x = 0) (hM : ∀ y, 0 ≤ y → y < 4096 → -9 ≤ bi σ 99 y ∧ bi σ 99 y < 1000)
    (h0 : (∃ k, 0 ≤ k ∧ k < bi σ 85 (x / 256) ∧ bi σ 86 (6 * (x / 256) + k) = 2 ∧ bi σ 99 (bNod σ x k) < 0) → ∀ s, bSm [116] σ s → f (-1) s)
    (h1 : (∀ k, 0 ≤ k → k < bi σ 85 (x / 256) → bi σ 86 (6 * (x / 256) + k) = 2 → 0 ≤ bi σ 99 (bNod σ x k)) → ∀ s, bSm [116] σ s → bHl s 116 0 (bIl σ (bMa σ) x (bi σ 85 (x / 256)).toNat) → f ((bIl σ (bMa σ) x (bi σ 85 (x / 256)).toNat).length : Int) s) : bWp (d + 4) 245 [.ref 12, .int (bn x)] σ (bRn f) := by
  have tc := hT.1
  have ht1 := ht.1
  have ht2 := ht.2
  have ic := bIc_at hT ht
  have dr := bDir_at hT ht
  obtain ⟨l40, l40n, e40, pk, nuN, veN⟩ := bIl_40 (G := bMa σ) hT x0 ht hE
  have mod : ∀ {s}, bSm [116] σ s → bFi s ∧ bTg s ∧ bTgk s (x / 256) ∧ bPag σ s := fun {s} M => by
    have u : bUn [116] [] σ s := bUn_S bUn_refl M (by decide)
    refine ⟨bFi_un u (by decide) hF, bTg_un u (by decide) (by decide) hT, ⟨ht1, by rw [M.2 12 (by decide)]; exact ht2⟩, ⟨fun a ha i => M.2 a (by
      simp only [List.mem_cons, List.not_mem_nil, or_false] at ha
      rcases ha with rfl | rfl | rfl | rfl | rfl | rfl | rfl | rfl | rfl | rfl | rfl | rfl | rfl | rfl | rfl | rfl | rfl | rfl <;> decide) i, M.2 12 (by decide) 17, M.2 12 (by decide) 22, fun t => M.2 (bTi t) (by rw [bTi_m]; decide) 4⟩⟩
  refine ⟨rfl, fun A hA => sq245_0 (bWp_mono _) hA ⟨by omega, by omega⟩ ⟨x0, ⟨by omega, by omega⟩, ?_⟩⟩
  have Lp : ∀ (m n : Nat) (s : bSt) (fl : Int) (v6 : Value), (n : Int) + m = bi σ 85 (x / 256) → bSm [116] σ s → bHl s 116 0 (bIl σ (bMa σ) x n) → (fl = 1 ∧ (∀ k, 0 ≤ k → k < (n : Int) → bi σ 86 (6 * (x / 256) + k) = 2 → 0 ≤ bi σ 99 (bNod σ x k)) ∨ fl = 0 ∧ ∃ k, 0 ≤ k ∧ k < (n : Int) ∧ bi σ 86 (6 * (x / 256) + k) = 2 ∧ bi σ 99 (bNod σ x k) < 0) → A (12, [.ref 12, .int (bn x), .int (bn (x / 256)), .int (bn (bIl σ (bMa σ) x n).length), .int (bn fl), .int (bn (6 * (x / 256) + n)), v6], [], s) := by
    intro m
    induction m with
    | zero =>
      intro n s fl v6 hn M HL FL
      have e : n = (bi σ 85 (x / 256)).toNat := by omega
      have ln := l40n n (by omega)
      obtain ⟨f2, t2, k2, ag⟩ := mod M
      refine sq245_12 (bWp_mono _) hA ⟨by omega, by omega⟩ ⟨by omega, by omega⟩ ⟨by omega, by omega⟩ (by rcases FL with ⟨w, _⟩ | ⟨w, _⟩ <;> rw [w] <;> decide) ⟨by omega, by omega⟩ ?_
      rw [ag.1 85 (by decide)]
      refine ⟨⟨by omega, by omega⟩, ⟨by omega, by omega⟩, ⟨by omega, by omega⟩, fun w => absurd w (by omega), fun _ => ⟨fun w => ?_, fun w => ?_⟩⟩
      · rcases FL with ⟨z, _⟩ | ⟨_, k, k0, k1, k2, k3⟩
        · omega
        · exact bRn_i (by decide) (h0 ⟨k, k0, by omega, k2, k3⟩ s M)
      · rcases FL with ⟨_, D⟩ | ⟨z, _⟩
        · rw [e] at HL D ln ⊢
          exact bRn_i ⟨by omega, by omega⟩ (h1 (fun k k0 k1 => D k k0 (by omega)) s M HL)
        · exact absurd z w
    | succ m ih =>
      intro n s fl v6 hn M HL FL
      have hn2 : (n : Int) < bi σ 85 (x / 256) := by omega
      have ln := l40n n (by omega)
      have ln1 := l40n (n + 1) (by omega)
      have eIl : bIl σ (bMa σ) x (n + 1) = bIl σ (bMa σ) x n ++ bIi σ (bMa σ) x n := rfl
      obtain ⟨f2, t2, k2, ag⟩ := mod M
      have hfl : bRg fl := by rcases FL with ⟨w, _⟩ | ⟨w, _⟩ <;> rw [w] <;> decide
      have nx := ih (n + 1)
      rw [show ((n + 1 : Nat) : Int) = (n : Int) + 1 by omega] at nx
      rw [show 6 * (x / 256) + ((n : Int) + 1) = 6 * (x / 256) + n + 1 by omega] at nx
      obtain ⟨hD, it⟩ := bItm_at hT ht (i := n) (by omega) hn2
      -- the flag stays where the item is no target
      have FLs : bi σ 86 (6 * (x / 256) + n) ≠ 2 → (fl = 1 ∧ (∀ k, 0 ≤ k → k < (n : Int) + 1 → bi σ 86 (6 * (x / 256) + k) = 2 → 0 ≤ bi σ 99 (bNod σ x k)) ∨ fl = 0 ∧ ∃ k, 0 ≤ k ∧ k < (n : Int) + 1 ∧ bi σ 86 (6 * (x / 256) + k) = 2 ∧ bi σ 99 (bNod σ x k) < 0) := fun w => FL.imp (fun ⟨a, D⟩ => ⟨a, fun k k0 k1 hK => by
        by_cases e : k = n
        · rw [e] at hK; exact absurd hK w
        · exact D k k0 (by omega) hK⟩) (fun ⟨a, k, k0, k1, k2⟩ => ⟨a, k, k0, by omega, k2⟩)
      refine sq245_12 (bWp_mono _) hA ⟨by omega, by omega⟩ ⟨by omega, by omega⟩ ⟨by omega, by omega⟩ hfl ⟨by omega, by omega⟩ ?_
      rw [ag.1 85 (by decide), ag.1 86 (by decide)]
      refine ⟨⟨by omega, by omega⟩, ⟨by omega, by omega⟩, ⟨by omega, by omega⟩, fun _ => ⟨⟨by omega, by omega⟩, fun w => ?_, fun w => ⟨fun w2 => ?_, fun w2 => ?_⟩⟩, fun z => absurd (show 6 * (x / 256) + (n : Int) < 6 * (x / 256) + bi σ 85 (x / 256) by omega) z⟩
      · -- a glob
        have eI : bIi σ (bMa σ) x n = bGl (bFd σ (bi σ 75 (x / 256)) (bi σ 87 (6 * (x / 256) + n)) (bi σ 88 (6 * (x / 256) + n))) 48 := by unfold bIi; rw [if_neg (by omega), if_neg (by omega)]
        generalize hP : bFd σ (bi σ 75 (x / 256)) (bi σ 87 (6 * (x / 256) + n)) (bi σ 88 (6 * (x / 256) + n)) = P at *
        rw [eI] at eIl
        have mono : ∀ (a b : Nat), a ≤ b → (bGl P a).length ≤ (bGl P b).length := fun a b hab => by
          induction b with
          | zero => rw [Nat.le_zero.1 hab]; exact Nat.le_refl _
          | succ b ihb =>
            by_cases e : a = b + 1
            · rw [e]; exact Nat.le_refl _
            · refine Nat.le_trans (ihb (by omega)) ?_
              show (bGl P b).length ≤ (bGl P b ++ _).length
              rw [List.length_append]
              exact Nat.le_add_right _ _
        rw [eIl, List.length_append] at ln1
        have K : ∀ (k p : Nat) (s : bSt), p + k = 48 → bSm [116] σ s → bHl s 116 0 (bIl σ (bMa σ) x n ++ bGl P p) → A (30, [.ref 12, .int (bn x), .int (bn (x / 256)), .int (bn ((bIl σ (bMa σ) x n ++ bGl P p).length : Int)), .int (bn fl), .int (bn (6 * (x / 256) + n)), .int (bn p)], [], s) := by
          intro k
          induction k with
          | zero =>
            intro p s hp M HL
            have e48 : p = 48 := by omega
            subst e48
            rw [← eIl] at HL ⊢
            have l2 : (bIl σ (bMa σ) x (n + 1)).length ≤ 40 := by rw [eIl, List.length_append]; exact ln1
            exact sq245_30 (bWp_mono _) hA ⟨by omega, by omega⟩ ⟨by omega, by omega⟩ ⟨by omega, by omega⟩ hfl ⟨by omega, by omega⟩ (by decide) ⟨fun z => absurd z (by decide), fun _ => ⟨⟨by omega, by omega⟩, nx s fl _ (by omega) M HL (FLs (by omega))⟩⟩
          | succ k ihk =>
            intro p s hp M HL
            have lp := mono p 48 (by omega)
            have lp1 := mono (p + 1) 48 (by omega)
            obtain ⟨f3, t3, k3, ag3⟩ := mod M
            have M2 : bSm [116] σ (bw s 116 ((bIl σ (bMa σ) x n ++ bGl P p).length : Int) p) := bSm_trans M (bSm_bw (by decide))
            have F2 := (mod M2).1
            have ag4 := (mod M2).2.2.2
            have ll : (bIl σ (bMa σ) x n ++ bGl P p).length = (bIl σ (bMa σ) x n).length + (bGl P p).length := List.length_append
            refine sq245_30 (bWp_mono _) hA ⟨by omega, by omega⟩ ⟨by omega, by omega⟩ ⟨by omega, by omega⟩ hfl ⟨by omega, by omega⟩ ⟨by omega, by omega⟩ ⟨fun _ => ⟨⟨by omega, by omega⟩, ⟨by omega, by omega⟩, ⟨by omega, by omega⟩, ?_⟩, fun z => absurd (show (p : Int) < 48 by omega) z⟩
            rw [ag3.1 75 (by decide), ag3.1 87 (by decide), ag3.1 88 (by decide)]
            refine w208 F2 (by omega) (by omega) (bi_rg _ _ _) (bi_rg _ _ _) (bi_rg _ _ _) ?_
            rw [bFd_p ag4, hP]
            have ny := ihk (p + 1)
            rw [show ((p + 1 : Nat) : Int) = (p : Int) + 1 by omega] at ny
            have eg : bGl P (p + 1) = bGl P p ++ if P p then [(p : Int)] else [] := rfl
            cases hb : P p with
            | true =>
              rw [hb, if_pos rfl] at eg
              rw [eg, ← List.append_assoc] at ny
              have h2 := bHl_app (v := p) HL (Int.le_refl _) ⟨by omega, by omega⟩
              rw [Int.zero_add] at h2
              have l3 : ((bIl σ (bMa σ) x n ++ bGl P p) ++ [(p : Int)]).length = (bIl σ (bMa σ) x n ++ bGl P p).length + 1 := by rw [List.length_append]; rfl
              have := ny _ (by omega) M2 h2
              rw [l3, show (((bIl σ (bMa σ) x n ++ bGl P p).length + 1 : Nat) : Int) = ((bIl σ (bMa σ) x n ++ bGl P p).length : Int) + 1 by omega] at this
              exact ⟨fun z => absurd z (by decide), fun _ => ⟨⟨by omega, by omega⟩, ⟨by omega, by omega⟩, this⟩⟩
            | false =>
              rw [hb, if_neg (by decide), List.append_nil] at eg
              rw [eg] at ny
              have := ny _ (by omega) M2 (bHl_w HL (Int.le_refl _) (by omega))
              refine ⟨fun _ => ⟨⟨by omega, by omega⟩, ⟨by omega, by omega⟩, ?_⟩, fun z => absurd rfl z⟩
              rw [Int.add_zero]
              exact this
        have := K 48 0 s (by decide) M (by show bHl s 116 0 (_ ++ []); rw [List.append_nil]; exact HL)
        rw [show bIl σ (bMa σ) x n ++ bGl P 0 = bIl σ (bMa σ) x n from List.append_nil _] at this
        exact this
      · -- a target
        have eI : bIi σ (bMa σ) x n = [100 + bi σ 99 (bNod σ x n)] := by unfold bIi; rw [if_neg (by omega), if_pos w2]; rfl
        obtain ⟨⟨y0, y1, y2⟩, _⟩ := bNd_at hT ht (i := n) (by omega) hn2 w2
        have y22 := y2.2
        have my := hM _ y0 (by omega)
        have en : bNod s x n = bNod σ x n := by unfold bNod; rw [ag.1 87 (by decide), bBw_m ag]
        have e99 : ∀ j, bi s 99 j = bi σ 99 j := M.2 99 (by decide)
        refine w240 t2 x0 k2 (by omega) (by rw [ag.1 85 (by decide)]; exact hn2) (by rw [ag.1 86 (by decide)]; exact w2) ?_
        rw [en, e99]
        refine ⟨⟨y0, by omega⟩, ?_⟩
        generalize hv : bi σ 99 (bNod σ x n) = v at *
        have l1 : (bIl σ (bMa σ) x (n + 1)).length = (bIl σ (bMa σ) x n).length + 1 := by rw [eIl, eI, List.length_append]; rfl
        have go : ∀ fl' : Int, (fl' = 1 ∧ (∀ k, 0 ≤ k → k < (n : Int) + 1 → bi σ 86 (6 * (x / 256) + k) = 2 → 0 ≤ bi σ 99 (bNod σ x k)) ∨ fl' = 0 ∧ ∃ k, 0 ≤ k ∧ k < (n : Int) + 1 ∧ bi σ 86 (6 * (x / 256) + k) = 2 ∧ bi σ 99 (bNod σ x k) < 0) → A (12, [.ref 12, .int (bn x), .int (bn (x / 256)), .int (bn (((bIl σ (bMa σ) x n).length : Int) + 1)), .int (bn fl'), .int (bn (6 * (x / 256) + n + 1)), .int (bn v)], [], bw s 116 ((bIl σ (bMa σ) x n).length : Int) (100 + v)) := fun fl' hf => by
          have h2 := bHl_app (v := 100 + v) HL (Int.le_refl _) ⟨by omega, by omega⟩
          rw [Int.zero_add] at h2
          have := nx (bw s 116 ((bIl σ (bMa σ) x n).length : Int) (100 + v)) fl' (.int (bn v)) (by omega) (bSm_trans M (bSm_bw (by decide))) (by rw [eIl, eI]; exact h2) hf
          rw [l1, show (((bIl σ (bMa σ) x n).length + 1 : Nat) : Int) = ((bIl σ (bMa σ) x n).length : Int) + 1 by omega] at this
          exact this
        have e86 : bi s 86 (6 * (x / 256) + n) = 2 := by rw [ag.1 86 (by decide)]; exact w2
        refine sq245_78 (bWp_mono _) hA ⟨by omega, by omega⟩ ⟨by omega, by omega⟩ ⟨by omega, by omega⟩ hfl ⟨by omega, by omega⟩ ⟨by omega, by omega⟩ ?_
        rw [e86]
        refine ⟨fun z => ⟨⟨by omega, by omega⟩, fun _ => ⟨⟨by omega, by omega⟩, ⟨by omega, by omega⟩, ⟨by omega, by omega⟩, ⟨by omega, by omega⟩, go 0 ?_⟩, fun q => absurd rfl q⟩, fun z => ⟨fun q => ⟨⟨by omega, by omega⟩, fun _ => ⟨⟨by omega, by omega⟩, ⟨by omega, by omega⟩, ⟨by omega, by omega⟩, ⟨by omega, by omega⟩, go 0 ?_⟩, fun q => absurd rfl q⟩, fun q => ⟨⟨by omega, by omega⟩, fun _ => ⟨⟨by omega, by omega⟩, ⟨by omega, by omega⟩, ⟨by omega, by omega⟩, ⟨by omega, by omega⟩, go 1 ?_⟩, fun q => absurd rfl q⟩⟩⟩
        · rcases FL with ⟨a, _⟩ | ⟨_, k, k0, k1, k2⟩
          · omega
          · exact Or.inr ⟨rfl, k, k0, by omega, k2⟩
        · exact Or.inr ⟨rfl, n, by omega, by omega, w2, by rw [hv]; exact q⟩
        · rcases FL with ⟨_, D⟩ | ⟨a, _⟩
          · refine Or.inl ⟨rfl, fun k k0 k1 hK => ?_⟩
            by_cases e : k = n
            · rw [e, hv]; omega
            · exact D k k0 (by omega) hK
          · exact absurd a z
      · -- a path
        have w0 : bi σ 86 (6 * (x / 256) + n) = 0 := by
          rcases it with ⟨a, _⟩ | ⟨a, _⟩ | ⟨a, _⟩
          · exact a
          · exact absurd a w
          · exact absurd a w2
        have pw : 0 ≤ bi σ 87 (6 * (x / 256) + n) ∧ bi σ 87 (6 * (x / 256) + n) < 48 := by
          rcases it with ⟨_, a, b, _⟩ | ⟨a, _⟩ | ⟨a, _⟩
          · exact ⟨a, b⟩
          · omega
          · omega
        have eI : bIi σ (bMa σ) x n = [bi σ 87 (6 * (x / 256) + n)] := by unfold bIi; rw [if_pos w0]
        have l1 : (bIl σ (bMa σ) x (n + 1)).length = (bIl σ (bMa σ) x n).length + 1 := by rw [eIl, eI, List.length_append]; rfl
        have go : ∀ fl' : Int, fl' = fl → A (12, [.ref 12, .int (bn x), .int (bn (x / 256)), .int (bn (((bIl σ (bMa σ) x n).length : Int) + 1)), .int (bn fl'), .int (bn (6 * (x / 256) + n + 1)), .int (bn 0)], [], bw s 116 ((bIl σ (bMa σ) x n).length : Int) (bi σ 87 (6 * (x / 256) + n))) := fun fl' hf => by
          have h2 := bHl_app (v := bi σ 87 (6 * (x / 256) + n)) HL (Int.le_refl _) (bi_rg _ _ _)
          rw [Int.zero_add] at h2
          have := nx (bw s 116 ((bIl σ (bMa σ) x n).length : Int) (bi σ 87 (6 * (x / 256) + n))) fl (.int (bn 0)) (by omega) (bSm_trans M (bSm_bw (by decide))) (by rw [eIl, eI]; exact h2) (FLs w2)
          rw [l1, show (((bIl σ (bMa σ) x n).length + 1 : Nat) : Int) = ((bIl σ (bMa σ) x n).length : Int) + 1 by omega] at this
          rw [hf]
          exact this
        have e86 : bi s 86 (6 * (x / 256) + n) = 0 := by rw [ag.1 86 (by decide)]; exact w0
        refine sq245_78 (bWp_mono _) hA ⟨by omega, by omega⟩ ⟨by omega, by omega⟩ ⟨by omega, by omega⟩ hfl ⟨by omega, by omega⟩ (by decide) ?_
        rw [e86, ag.1 87 (by decide)]
        refine ⟨fun z => ⟨⟨by omega, by omega⟩, fun q => absurd q (by decide), fun _ => ⟨⟨by omega, by omega⟩, ⟨by omega, by omega⟩, ⟨by omega, by omega⟩, go 0 z.symm⟩⟩, fun z => ⟨fun q => absurd q (by decide), fun q => ⟨⟨by omega, by omega⟩, fun q => absurd q (by decide), fun _ => ⟨⟨by omega, by omega⟩, ⟨by omega, by omega⟩, ⟨by omega, by omega⟩, go 1 ?_⟩⟩⟩⟩
        rcases FL with ⟨a, _⟩ | ⟨a, _⟩
        · exact a.symm
        · exact absurd a z
  have := Lp (bi σ 85 (x / 256)).toNat 0 σ 1 (.float 0) (by omega) bSm_refl bHl_0 (Or.inl ⟨rfl, fun k k0 k1 => by omega⟩)
  rw [show 6 * (x / 256) + ((0 : Nat) : Int) = 6 * (x / 256) by omega] at this
  exact this
/-- the one action that is so; none: -1 -/
theorem w246 (hA : bAk σ) (x0 : 0 ≤ x) (ht : bTgk σ (x / 256)) (tc : bi σ 12 22 ≤ 16) (hl : L.length ≤ 40) (HL : bHl σ 116 0 L) (h1 : ∀ a, 0 ≤ a → a < bi σ 12 49 → bSar σ a (bi σ 76 (x / 256)) (bi σ 97 x) (bi σ 98 x) (bi σ 75 (x / 256)) L → f a σ) (h0 : (∀ a, 0 ≤ a → a < bi σ 12 49 → ¬ bSar σ a (bi σ 76 (x / 256)) (bi σ 97 x) (bi σ 98 x) (bi σ 75 (x / 256)) L) → f (-1) σ) : bWp (d + 1) 246 [.ref 12, .int (bn x), .int (bn (L.length : Int))] σ (bRn f) := by
  have ht1 := ht.1
  have ht2 := ht.2
  have q0 := hA.1
  refine ⟨rfl, fun A hA' => sq246_0 (bWp_mono _) hA' ⟨by omega, by omega⟩ ⟨by omega, by omega⟩ ⟨x0, ?_⟩⟩
  have Lp : ∀ (m : Nat) (l fd : Int) (v6 v7 : Value), l + m = bi σ 12 49 → 0 ≤ l → ((0 ≤ fd ∧ fd < l) ∧ bSar σ fd (bi σ 76 (x / 256)) (bi σ 97 x) (bi σ 98 x) (bi σ 75 (x / 256)) L ∨ fd = -1 ∧ ∀ a, 0 ≤ a → a < l → ¬ bSar σ a (bi σ 76 (x / 256)) (bi σ 97 x) (bi σ 98 x) (bi σ 75 (x / 256)) L) → A (8, [.ref 12, .int (bn x), .int (bn (L.length : Int)), .int (bn (x / 256)), .int (bn fd), .int (bn l), v6, v7], [], σ) := by
    intro m
    induction m with
    | zero =>
      intro l fd v6 v7 hl2 l0 D
      refine sq246_8 (bWp_mono _) hA' ⟨by omega, by omega⟩ ⟨by omega, by omega⟩ ⟨by omega, by omega⟩ (by rcases D with ⟨w, _⟩ | ⟨w, _⟩; exact ⟨by omega, by omega⟩; rw [w]; decide) ⟨by omega, by omega⟩ ⟨fun w => absurd w (by omega), fun _ => ?_⟩
      rcases D with ⟨⟨w0, w1⟩, w2⟩ | ⟨w, D⟩
      · exact bRn_i ⟨by omega, by omega⟩ (h1 fd w0 (by omega) w2)
      · rw [w]; exact bRn_i (by decide) (h0 fun a a0 a1 => D a a0 (by omega))
    | succ m ih =>
      intro l fd v6 v7 hl2 l0 D
      have rfd : bRg fd := by
        rcases D with ⟨w, _⟩ | ⟨w, _⟩
        · exact ⟨by omega, by omega⟩
        · rw [w]; decide
      -- it is not this one
      have no : ¬ bSar σ l (bi σ 76 (x / 256)) (bi σ 97 x) (bi σ 98 x) (bi σ 75 (x / 256)) L → ∀ v6 v7, bRg (l + 1) ∧ A (8, [.ref 12, .int (bn x), .int (bn (L.length : Int)), .int (bn (x / 256)), .int (bn fd), .int (bn (l + 1)), v6, v7], [], σ) := fun w v6 v7 => ⟨⟨by omega, by omega⟩, ih (l + 1) fd v6 v7 (by omega) (by omega) (D.imp (fun ⟨⟨a, b⟩, c⟩ => ⟨⟨a, by omega⟩, c⟩) (fun ⟨a, b⟩ => ⟨a, fun c c0 c1 => by
        by_cases e : c = l
        · rw [e]; exact w
        · exact b c c0 (by omega)⟩))⟩
      have yes : bSar σ l (bi σ 76 (x / 256)) (bi σ 97 x) (bi σ 98 x) (bi σ 75 (x / 256)) L → ∀ v6 v7, bRg (l + 1) ∧ A (8, [.ref 12, .int (bn x), .int (bn (L.length : Int)), .int (bn (x / 256)), .int (bn l), .int (bn (l + 1)), v6, v7], [], σ) := fun w v6 v7 => ⟨⟨by omega, by omega⟩, ih (l + 1) l v6 v7 (by omega) (by omega) (Or.inl ⟨⟨l0, by omega⟩, w⟩)⟩
      have bad : ¬ bSar σ l (bi σ 76 (x / 256)) (bi σ 97 x) (bi σ 98 x) (bi σ 75 (x / 256)) L → ∀ j : Int, bRg j → A (66, [.ref 12, .int (bn x), .int (bn (L.length : Int)), .int (bn (x / 256)), .int (bn fd), .int (bn l), .int (bn 0), .int (bn j)], [], σ) := fun w j hj =>
        sq246_66 (bWp_mono _) hA' ⟨by omega, by omega⟩ ⟨by omega, by omega⟩ ⟨by omega, by omega⟩ rfd ⟨by omega, by omega⟩ (by decide) hj ⟨fun _ => ⟨fun _ => ⟨fun _ => no w _ _, fun z => absurd rfl z⟩, fun z => absurd rfl z⟩, fun _ => ⟨fun _ => no w _ _, fun z => absurd rfl z⟩⟩
      refine sq246_8 (bWp_mono _) hA' ⟨by omega, by omega⟩ ⟨by omega, by omega⟩ ⟨by omega, by omega⟩ rfd ⟨by omega, by omega⟩ ⟨fun _ => ⟨⟨by omega, by omega⟩, ⟨by omega, by omega⟩, fun c1 => ⟨⟨by omega, by omega⟩, fun c2 => ⟨fun c3 => ⟨fun c4 => ?_, fun c => bad (fun w => c w.2.2.2.1) 0 (by decide)⟩, fun c => bad (fun w => c w.2.2.1) 0 (by decide)⟩, fun c => bad (fun w => c w.2.1) 0 (by decide)⟩, fun c => bad (fun w => c w.1) 0 (by decide)⟩, fun w => absurd (show l < bi σ 12 49 by omega) w⟩
      have good : (bi σ 76 (x / 256) = 5 → bi σ 104 l = bi σ 75 (x / 256)) → A (66, [.ref 12, .int (bn x), .int (bn (L.length : Int)), .int (bn (x / 256)), .int (bn fd), .int (bn l), .int (bn 1), .int (bn 0)], [], σ) := fun c5 => by
        have Lj : ∀ (k j : Nat), j + k = L.length → (∀ i : Nat, i < j → bi σ 106 (40 * l + i) = L.getD i 0) → A (66, [.ref 12, .int (bn x), .int (bn (L.length : Int)), .int (bn (x / 256)), .int (bn fd), .int (bn l), .int (bn 1), .int (bn j)], [], σ) := by
          intro k
          induction k with
          | zero =>
            intro j hj Dj
            have w : bSar σ l (bi σ 76 (x / 256)) (bi σ 97 x) (bi σ 98 x) (bi σ 75 (x / 256)) L := ⟨c1, c2, c3, c4, c5, fun i hi => Dj i (by omega)⟩
            exact sq246_66 (bWp_mono _) hA' ⟨by omega, by omega⟩ ⟨by omega, by omega⟩ ⟨by omega, by omega⟩ rfd ⟨by omega, by omega⟩ (by decide) ⟨by omega, by omega⟩ ⟨fun z => absurd z (by omega), fun _ => ⟨fun z => absurd z (by decide), fun _ => yes w _ _⟩⟩
          | succ k ihk =>
            intro j hj Dj
            refine sq246_66 (bWp_mono _) hA' ⟨by omega, by omega⟩ ⟨by omega, by omega⟩ ⟨by omega, by omega⟩ rfd ⟨by omega, by omega⟩ (by decide) ⟨by omega, by omega⟩ ⟨fun _ => ⟨fun z => absurd z (by decide), fun _ => ⟨⟨by omega, by omega⟩, ⟨by omega, by omega⟩, ⟨by omega, by omega⟩, ⟨by omega, by omega⟩, fun e => ⟨⟨by omega, by omega⟩, ?_⟩, fun e => ⟨⟨by omega, by omega⟩, bad (fun w => e ?_) _ ⟨by omega, by omega⟩⟩⟩⟩, fun z => absurd (show (j : Int) < L.length by omega) z⟩
            · have := ihk (j + 1) (by omega) (fun i hi => by
                by_cases ei : i = j
                · have hx := HL j (by omega)
                  rw [Int.zero_add] at hx
                  rw [ei, e, hx]
                · exact Dj i (by omega))
              rw [show ((j + 1 : Nat) : Int) = (j : Int) + 1 by omega] at this
              exact this
            · have hx := HL j (by omega)
              rw [Int.zero_add] at hx
              rw [w.2.2.2.2.2 j (by omega), hx]
        exact Lj L.length 0 (by omega) (fun i hi => by omega)
      exact ⟨fun o5 => ⟨fun c => good fun _ => c, fun c => bad (fun w => c (w.2.2.2.2.1 o5)) 0 (by decide)⟩, fun o5 => good fun w => absurd w o5⟩
  exact Lp (bi σ 12 49).toNat 0 (-1) _ _ (by omega) (by decide) (Or.inr ⟨rfl, fun a a0 a1 => by omega⟩)
end

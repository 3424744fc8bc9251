/-! WHAT AN ACTION GIVES, 9: the reference does a node now, as a whole -/
section
variable {d : Nat} {σ s t : bSt} {f : Int → bSt → Prop} {fv : bSt → Prop} {ho p a op v x n i : Int} {F L K : List Int} {c : Int → Int} {m e : Nat} {P Q : Int → Bool}
theorem w264 (hF : bFi σ) (hT : bTg σ) (x0 : 0 ≤ x) (ht : bTgk σ (x / 256)) (hE : bFx σ x = 0) (hnu : bi σ 97 x = bNu σ (x / 256) (x % 256)) (hve : bi σ 98 x = bVe σ (x / 256) (x % 256)) (nr : 0 ≤ bNu σ (x / 256) (x % 256) + bVe σ (x / 256) (x % 256) ∧ bNu σ (x / 256) (x % 256) + bVe σ (x / 256) (x % 256) < 2000)
    (hM : ∀ k, 0 ≤ k → k < bi σ 85 (x / 256) → bi σ 86 (6 * (x / 256) + k) = 2 → bi σ 100 (bNod σ x k) = -5 ∨ 0 ≤ bi σ 100 (bNod σ x k) ∧ bi σ 100 (bNod σ x k) < 1000)
    (h0 : (∃ k, 0 ≤ k ∧ k < bi σ 85 (x / 256) ∧ bi σ 86 (6 * (x / 256) + k) = 2 ∧ bi σ 100 (bNod σ x k) = -5) → ∀ s, bDn σ s → f (-5) s)
    (h1 : (∀ k, 0 ≤ k → k < bi σ 85 (x / 256) → bi σ 86 (6 * (x / 256) + k) = 2 → bi σ 100 (bNod σ x k) ≠ -5) → ∀ v, v = bGiv σ (bi σ 76 (x / 256)) (bNu σ (x / 256) (x % 256) + bVe σ (x / 256) (x % 256)) (bi σ 75 (x / 256)) (bCof σ (bIl σ (bMh σ) x (bi σ 85 (x / 256)).toNat)) (bIl σ (bMh σ) x (bi σ 85 (x / 256)).toNat).length → ∀ s, bDn σ s → f (if v = -1 then -5 else v) s) : bWp (d + 7) 264 [.ref 12, .int (bn x)] σ (bRn f) := by
  have tc := hT.1.2.1
  have ht1 := ht.1
  have ht2 := ht.2
  have ic := bIc_at hT ht
  have dr := bDir_at hT ht
  have TG := hT.2.2.2 _ ht.1 ht.2
  obtain ⟨l40, l40n, e40, pk, nuN, veN⟩ := bIl_40 (G := bMh σ) hT x0 ht hE
  have mod : ∀ {s}, bDn σ s → bFi s ∧ bTg s ∧ bTgk s (x / 256) ∧ bPag σ s := fun {s} M => by
    refine ⟨bFi_un M.2 (by decide) hF, bTg_un M.2 (by decide) (by decide) hT, ⟨ht1, by rw [M.2.2.1 22 (by decide) (by decide)]; exact ht2⟩, bDn_pag M⟩
  refine ⟨rfl, fun A hA => sq264_0 (bWp_mono _) hA ⟨by omega, by omega⟩ ⟨x0, ⟨by omega, by omega⟩, ?_⟩⟩
  have Lp : ∀ (m n : Nat) (s : bSt) (fl : Int) (v8 v9 : Value), (n : Int) + m = bi σ 85 (x / 256) → bDn σ s → (fl = 1 ∧ (∀ k, 0 ≤ k → k < (n : Int) → bi σ 86 (6 * (x / 256) + k) = 2 → bi σ 100 (bNod σ x k) ≠ -5) ∧ bHc σ s (bIl σ (bMh σ) x n) ∨ fl = 0 ∧ ∃ k, 0 ≤ k ∧ k < (n : Int) ∧ bi σ 86 (6 * (x / 256) + k) = 2 ∧ bi σ 100 (bNod σ x k) = -5) → A (14, [.ref 12, .int (bn x), .int (bn (x / 256)), .int (bn (bIl σ (bMh σ) x n).length), .long (bMk (bPs σ x n) 48), .float 0, .int (bn fl), .int (bn (6 * (x / 256) + n)), v8, v9], [], s) := by
    intro m
    induction m with
    | zero =>
      intro n s fl v8 v9 hn M FL
      have e : n = (bi σ 85 (x / 256)).toNat := by omega
      have ln := l40n n (by omega)
      obtain ⟨f2, t2, k2, ag⟩ := mod M
      refine sq264_14 (bWp_mono _) hA ⟨by omega, by omega⟩ ⟨by omega, by omega⟩ ⟨by omega, by omega⟩ (by rcases FL with ⟨w, _⟩ | ⟨w, _⟩ <;> rw [w] <;> decide) ⟨by omega, by omega⟩ ?_
      rw [ag.1 85 (by decide)]
      refine ⟨⟨by omega, by omega⟩, ⟨by omega, by omega⟩, ⟨by omega, by omega⟩, fun w => absurd w (by omega), fun _ => ⟨fun w => ?_, fun w => ⟨⟨by omega, by omega⟩, ?_⟩⟩⟩
      · rcases FL with ⟨z, _⟩ | ⟨_, k, k0, k1, k2, k3⟩
        · omega
        · exact bRn_i (by decide) (h0 ⟨k, k0, by omega, k2, k3⟩ s M)
      · rcases FL with ⟨_, D, HL⟩ | ⟨z, _⟩
        · have e97 : bi s 97 x = bi σ 97 x := M.2.1 97 (by decide) (by decide) x
          have e98 : bi s 98 x = bi σ 98 x := M.2.1 98 (by decide) (by decide) x
          have e76 : bi s 76 (x / 256) = bi σ 76 (x / 256) := M.2.1 76 (by decide) (by decide) _
          have e68 : bi s 12 68 = bi σ 12 68 := M.2.2.1 68 (by decide) (by decide)
          rw [e97, e98, hnu, hve, e76, ag.1 75 (by decide)]
          have Dn : ∀ k, 0 ≤ k → k < bi σ 85 (x / 256) → bi σ 86 (6 * (x / 256) + k) = 2 → bi σ 100 (bNod σ x k) ≠ -5 := fun k k0 k1 => D k k0 (by omega)
          have lok : bLok σ (bIl σ (bMh σ) x n) := bIl_ok hF hT x0 ht hE (fun k k0 k1 hK => by
            have := hM k k0 k1 hK
            have d5 := Dn k k0 k1 hK
            unfold bMh
            rw [if_neg d5]
            omega) n (by omega)
          have rg := bGiv_rg (op := bi σ 76 (x / 256)) (ho := bi σ 75 (x / 256)) (c := bCof σ (bIl σ (bMh σ) x n)) (m := (bIl σ (bMh σ) x n).length) (n := bNu σ (x / 256) (x % 256) + bVe σ (x / 256) (x % 256)) hF nr.1 (fun i i0 i1 => (bLok_at hF lok i0 i1).2) ln
          have pho : bPho s (bi σ 75 (x / 256)) (bPs σ x n) := fun p p0 p1 w => by rw [bOwn_p ag]; exact bPs_ho hT x0 ht hE n (by omega) p p0 p1 w
          refine ⟨⟨by omega, by omega⟩, w259 f2 pho ⟨by omega, by omega⟩ TG.2.1.2.1 (by have := TG.2.1.2.2; omega) nr ln (fun i i0 i1 => ⟨?_, (bLok_at hF lok i0 i1).2⟩) fun s' M' _ => ?_⟩
          · have := HL i.toNat (by omega)
            rw [show ((i.toNat : Nat) : Int) = i by omega] at this
            exact this
          · rw [bGiv_m ag e68]
            have M2 := bDn_trans M (bDn_o M')
            rw [e] at rg ⊢
            exact bRn_i (by split <;> exact ⟨by omega, by omega⟩) (h1 Dn _ rfl s' M2)
        · exact absurd z w
    | succ m ih =>
      intro n s fl v8 v9 hn M FL
      have hn2 : (n : Int) < bi σ 85 (x / 256) := by omega
      have ln := l40n n (by omega)
      have ln1 := l40n (n + 1) (by omega)
      have eIl : bIl σ (bMh σ) x (n + 1) = bIl σ (bMh σ) x n ++ bIi σ (bMh σ) x n := rfl
      obtain ⟨f2, t2, k2, ag⟩ := mod M
      have hfl : bRg fl := by rcases FL with ⟨w, _⟩ | ⟨w, _⟩ <;> rw [w] <;> decide
      have nx := ih (n + 1)
      rw [show ((n + 1 : Nat) : Int) = (n : Int) + 1 by omega] at nx
      rw [show 6 * (x / 256) + ((n : Int) + 1) = 6 * (x / 256) + n + 1 by omega] at nx
      obtain ⟨hD, it⟩ := bItm_at hT ht (i := n) (by omega) hn2
      refine sq264_14 (bWp_mono _) hA ⟨by omega, by omega⟩ ⟨by omega, by omega⟩ ⟨by omega, by omega⟩ hfl ⟨by omega, by omega⟩ ?_
      rw [ag.1 85 (by decide)]
      refine ⟨⟨by omega, by omega⟩, ⟨by omega, by omega⟩, ⟨by omega, by omega⟩, fun _ => ?_, fun z => absurd (show 6 * (x / 256) + (n : Int) < 6 * (x / 256) + bi σ 85 (x / 256) by omega) z⟩
      by_cases w2 : bi σ 86 (6 * (x / 256) + n) = 2
      · -- a target
        have eI : bIi σ (bMh σ) x n = [100 + bMh σ (bNod σ x n)] := by unfold bIi; rw [if_neg (by omega), if_pos w2]
        obtain ⟨⟨y0, y1, y2⟩, _⟩ := bNd_at hT ht (i := n) (by omega) hn2 w2
        have y22 := y2.2
        have my := hM n (by omega) hn2 w2
        have en : bNod s x n = bNod σ x n := by unfold bNod; rw [ag.1 87 (by decide), bBw_m ag]
        have e100 : ∀ j, bi s 100 j = bi σ 100 j := M.2.1 100 (by decide) (by decide)
        have l1 : (bIl σ (bMh σ) x (n + 1)).length = (bIl σ (bMh σ) x n).length + 1 := by rw [eIl, eI, List.length_append]; rfl
        have eP : bMk (bPs σ x (n + 1)) 48 = bMk (bPs σ x n) 48 := by
          congr 1
          funext p
          show (bPs σ x n p || bPi σ x n p) = bPs σ x n p
          unfold bPi
          rw [if_neg (by omega), if_pos w2, Bool.or_false]
        rw [eP, l1, show (((bIl σ (bMh σ) x n).length + 1 : Nat) : Int) = ((bIl σ (bMh σ) x n).length : Int) + 1 by omega] at nx
        refine sq264_26 (bWp_mono _) hA ⟨by omega, by omega⟩ ⟨by omega, by omega⟩ ⟨by omega, by omega⟩ hfl ⟨by omega, by omega⟩ (by decide) ⟨fun _ => ⟨⟨by omega, by omega⟩, fun _ => ?_, fun q => absurd (by rw [ag.1 86 (by decide)]; exact w2) q⟩, fun q => absurd (by decide) q⟩
        refine sq264_98 (bWp_mono _) hA ⟨by omega, by omega⟩ ⟨by omega, by omega⟩ ⟨by omega, by omega⟩ hfl ⟨by omega, by omega⟩ ⟨⟨by omega, by omega⟩, fun _ => ?_, fun q => absurd (by rw [ag.1 86 (by decide)]; exact w2) q⟩
        refine w240 t2 x0 k2 (by omega) (by rw [ag.1 85 (by decide)]; exact hn2) (by rw [ag.1 86 (by decide)]; exact w2) ?_
        rw [en, e100]
        have M2 : bDn σ (bw s 119 ((bIl σ (bMh σ) x n).length : Int) (bi σ 100 (bNod σ x n))) := bDn_trans M bDn_w
        have b0 : bi σ 100 (bNod σ x n) = -5 → A (14, [.ref 12, .int (bn x), .int (bn (x / 256)), .int (bn (((bIl σ (bMh σ) x n).length : Int) + 1)), .long (bMk (bPs σ x n) 48), .float 0, .int (bn 0), .int (bn (6 * (x / 256) + n + 1)), .int (bn 0), v9], [], bw s 119 ((bIl σ (bMh σ) x n).length : Int) (bi σ 100 (bNod σ x n))) := fun q =>
          nx _ 0 _ _ (by omega) M2 (Or.inr ⟨rfl, n, by omega, by omega, w2, q⟩)
        refine ⟨⟨y0, by omega⟩, ⟨by omega, by omega⟩, fun z => ?_, fun z => ⟨fun q => ⟨⟨by omega, by omega⟩, ⟨by omega, by omega⟩, b0 q⟩, fun q => ⟨⟨by omega, by omega⟩, ⟨by omega, by omega⟩, nx _ 1 _ _ (by omega) M2 ?_⟩⟩⟩
        · refine ⟨⟨by omega, by omega⟩, ⟨by omega, by omega⟩, nx _ 0 _ _ (by omega) M2 ?_⟩
          rcases FL with ⟨a, _⟩ | ⟨_, k, k0, k1, k2⟩
          · omega
          · exact Or.inr ⟨rfl, k, k0, by omega, k2⟩
        · rcases FL with ⟨_, D, HL⟩ | ⟨a, _⟩
          · refine Or.inl ⟨rfl, fun k k0 k1 hK => ?_, ?_⟩
            · by_cases e : k = n
              · rw [e]; exact q
              · exact D k k0 (by omega) hK
            · rw [eIl, eI]
              have em : bMh σ (bNod σ x n) = bi σ 100 (bNod σ x n) := by unfold bMh; rw [if_neg q]
              refine bHc_app HL ?_ (bi_rg _ _ _)
              rw [em, if_neg (by omega)]
              omega
          · exact absurd a z
      · -- paths
        have hw : bi σ 86 (6 * (x / 256) + n) = 0 → 0 ≤ bi σ 87 (6 * (x / 256) + n) ∧ bi σ 87 (6 * (x / 256) + n) < 48 := fun w => by
          rcases it with ⟨_, a, b, _⟩ | ⟨a, _⟩ | ⟨a, _⟩
          · exact ⟨a, b⟩
          · omega
          · omega
        have eI := bIi_pi (σ := σ) (M := bMh σ) w2 hw
        rw [eI] at eIl
        have FLs : (fl = 1 ∧ (∀ k, 0 ≤ k → k < (n : Int) + 1 → bi σ 86 (6 * (x / 256) + k) = 2 → bi σ 100 (bNod σ x k) ≠ -5)) ∨ fl = 0 ∧ ∃ k, 0 ≤ k ∧ k < (n : Int) + 1 ∧ bi σ 86 (6 * (x / 256) + k) = 2 ∧ bi σ 100 (bNod σ x k) = -5 := FL.imp (fun ⟨a, D, _⟩ => ⟨a, fun k k0 k1 hK => by
          by_cases e : k = n
          · rw [e] at hK; exact absurd hK w2
          · exact D k k0 (by omega) hK⟩) (fun ⟨a, k, k0, k1, k2⟩ => ⟨a, k, k0, by omega, k2⟩)
        have HL0 : fl = 1 → bHc σ s (bIl σ (bMh σ) x n) := fun z => by
          rcases FL with ⟨_, _, HL⟩ | ⟨a, _⟩
          · exact HL
          · omega
        have ePn : bPs σ x (n + 1) = fun p => bPs σ x n p || bPi σ x n p := rfl
        have hQ0 : bi σ 86 (6 * (x / 256) + n) = 0 → ∀ p, bPi σ x n p = decide (p = bi σ 87 (6 * (x / 256) + n)) := fun w p => by unfold bPi; rw [if_pos w]
        have hQ1 : bi σ 86 (6 * (x / 256) + n) ≠ 0 → bPi σ x n = bFd σ (bi σ 75 (x / 256)) (bi σ 87 (6 * (x / 256) + n)) (bi σ 88 (6 * (x / 256) + n)) := fun w => by unfold bPi; rw [if_neg w, if_neg w2]
        generalize hQ : bPi σ x n = Q at *
        generalize hB : bPs σ x n = B at *
        rw [eIl, List.length_append] at ln1
        have K : ∀ (k p : Nat) (s : bSt) (v9 : Value), p + k = 48 → bDn σ s → (fl = 1 → bHc σ s (bIl σ (bMh σ) x n ++ bGl Q p)) → A (26, [.ref 12, .int (bn x), .int (bn (x / 256)), .int (bn ((bIl σ (bMh σ) x n ++ bGl Q p).length : Int)), .long (bMk (fun k => B k || (Q k && decide (k < (p : Int)))) 48), .float 0, .int (bn fl), .int (bn (6 * (x / 256) + n)), .int (bn p), v9], [], s) := by
          intro k
          induction k with
          | zero =>
            intro p s v9 hp M HL
            have e48 : p = 48 := by omega
            subst e48
            rw [← eIl] at HL ⊢
            have l2 : (bIl σ (bMh σ) x (n + 1)).length ≤ 40 := by rw [eIl, List.length_append]; exact ln1
            have ag3 := (mod M).2.2.2
            have eM : bMk (fun k => B k || (Q k && decide (k < ((48 : Nat) : Int)))) 48 = bMk (bPs σ x (n + 1)) 48 := by
              rw [ePn]
              exact bMk_x 48 (fun k k0 k1 => by rw [decide_eq_true k1, Bool.and_true])
            rw [eM]
            refine sq264_26 (bWp_mono _) hA ⟨by omega, by omega⟩ ⟨by omega, by omega⟩ ⟨by omega, by omega⟩ hfl ⟨by omega, by omega⟩ (by decide) ⟨fun z => absurd z (by decide), fun _ => ?_⟩
            refine sq264_98 (bWp_mono _) hA ⟨by omega, by omega⟩ ⟨by omega, by omega⟩ ⟨by omega, by omega⟩ hfl ⟨by omega, by omega⟩ ⟨⟨by omega, by omega⟩, fun q => absurd (by rw [← ag3.1 86 (by decide)]; exact q) w2, fun _ => ⟨⟨by omega, by omega⟩, nx s fl _ _ (by omega) M ?_⟩⟩
            exact FLs.imp (fun ⟨a, D⟩ => ⟨a, D, HL a⟩) id
          | succ k ihk =>
            intro p s v9 hp M HL
            have lp := bGl_le (P := Q) p 48 (by omega)
            have lp1 := bGl_le (P := Q) (p + 1) 48 (by omega)
            obtain ⟨f3, t3, k3, ag3⟩ := mod M
            have ll : (bIl σ (bMh σ) x n ++ bGl Q p).length = (bIl σ (bMh σ) x n).length + (bGl Q p).length := List.length_append
            have ny := ihk (p + 1)
            rw [show ((p + 1 : Nat) : Int) = (p : Int) + 1 by omega] at ny
            have eg : bGl Q (p + 1) = bGl Q p ++ if Q p then [(p : Int)] else [] := rfl
            have go : ∀ (l9 t0 : Int), (Q p = true → l9 = 1 ∧ t0 = bi σ 56 p) → (Q p = false → l9 = 0) → bRg t0 → A (77, [.ref 12, .int (bn x), .int (bn (x / 256)), .int (bn ((bIl σ (bMh σ) x n ++ bGl Q p).length : Int)), .long (bMk (fun k => B k || (Q k && decide (k < (p : Int)))) 48), .float 0, .int (bn fl), .int (bn (6 * (x / 256) + n)), .int (bn p), .int (bn l9)], [.int (bn t0), .int (bn ((bIl σ (bMh σ) x n ++ bGl Q p).length : Int)), .ref 119], s) := fun l9 t0 q1 q0 rt => by
              cases hb : Q p with
              | true =>
                obtain ⟨e9, et⟩ := q1 hb
                rw [e9]
                rw [hb, if_pos rfl] at eg
                rw [eg, ← List.append_assoc] at ny
                have l3 : ((bIl σ (bMh σ) x n ++ bGl Q p) ++ [(p : Int)]).length = (bIl σ (bMh σ) x n ++ bGl Q p).length + 1 := by rw [List.length_append]; rfl
                have := ny _ (.int (bn 1)) (by omega) (bDn_trans M (bDn_w (j := ((bIl σ (bMh σ) x n ++ bGl Q p).length : Int)) (v := t0))) (fun z => bHc_app (HL z) (by rw [if_pos (by omega)]; exact et) rt)
                rw [l3, show (((bIl σ (bMh σ) x n ++ bGl Q p).length + 1 : Nat) : Int) = ((bIl σ (bMh σ) x n ++ bGl Q p).length : Int) + 1 by omega, ← bMk_st (by omega) (by omega) hb] at this
                exact sq264_77 (bWp_mono _) hA ⟨by omega, by omega⟩ ⟨by omega, by omega⟩ ⟨by omega, by omega⟩ hfl ⟨by omega, by omega⟩ ⟨by omega, by omega⟩ (by decide) rt ⟨by omega, by omega⟩ ⟨⟨by omega, by omega⟩, fun z => absurd z (by decide), fun _ => ⟨⟨by omega, by omega⟩, fun z => absurd z (by decide), fun _ => ⟨⟨by omega, by omega⟩, this⟩⟩⟩
              | false =>
                rw [q0 hb]
                rw [hb, if_neg (by decide), List.append_nil] at eg
                rw [eg] at ny
                have := ny _ (.int (bn 0)) (by omega) (bDn_trans M (bDn_w (j := ((bIl σ (bMh σ) x n ++ bGl Q p).length : Int)) (v := t0))) (fun z => bHc_w (HL z) (Int.le_refl _))
                rw [← bMk_sf hb] at this
                refine sq264_77 (bWp_mono _) hA ⟨by omega, by omega⟩ ⟨by omega, by omega⟩ ⟨by omega, by omega⟩ hfl ⟨by omega, by omega⟩ ⟨by omega, by omega⟩ (by decide) rt ⟨by omega, by omega⟩ ⟨⟨by omega, by omega⟩, fun _ => ⟨⟨by omega, by omega⟩, fun _ => ⟨⟨by omega, by omega⟩, ?_⟩, fun z => absurd rfl z⟩, fun z => absurd rfl z⟩
                rw [Int.add_zero]
                exact this
            refine sq264_26 (bWp_mono _) hA ⟨by omega, by omega⟩ ⟨by omega, by omega⟩ ⟨by omega, by omega⟩ hfl ⟨by omega, by omega⟩ ⟨by omega, by omega⟩ ⟨fun _ => ⟨⟨by omega, by omega⟩, fun q => absurd (by rw [← ag3.1 86 (by decide)]; exact q) w2, fun _ => ?_⟩, fun z => absurd (show (p : Int) < 48 by omega) z⟩
            rw [ag3.1 86 (by decide), ag3.1 87 (by decide), ag3.1 56 (by decide)]
            refine ⟨fun w => ⟨fun z => ⟨⟨by omega, by omega⟩, go 1 _ (fun _ => ⟨rfl, rfl⟩) (fun q => ?_) (bi_rg _ _ _)⟩, fun z => go 0 0 (fun q => ?_) (fun _ => rfl) (by decide)⟩, fun w => ⟨⟨by omega, by omega⟩, ?_⟩⟩
            · rw [hQ0 w, decide_eq_true z.symm] at q
              exact absurd q (by decide)
            · rw [hQ0 w] at q
              exact absurd (of_decide_eq_true q).symm z
            · rw [ag3.1 75 (by decide), ag3.1 88 (by decide)]
              refine w208 f3 (by omega) (by omega) (bi_rg _ _ _) (bi_rg _ _ _) (bi_rg _ _ _) ?_
              rw [bFd_p ag3, ← hQ1 w]
              cases hb : Q p with
              | true => exact ⟨fun z => absurd z (by decide), fun _ => ⟨⟨by omega, by omega⟩, by rw [ag3.1 56 (by decide)]; exact go 1 _ (fun _ => ⟨rfl, rfl⟩) (fun q => by rw [hb] at q; exact absurd q (by decide)) (bi_rg _ _ _)⟩⟩
              | false => exact ⟨fun _ => go 0 0 (fun q => by rw [hb] at q; exact absurd q (by decide)) (fun _ => rfl) (by decide), fun z => absurd rfl z⟩
        have := K 48 0 s v9 (by decide) M (fun z => by show bHc σ s (_ ++ []); rw [List.append_nil]; exact HL0 z)
        rw [show bIl σ (bMh σ) x n ++ bGl Q 0 = bIl σ (bMh σ) x n from List.append_nil _, bMk_x (A := fun k => B k || (Q k && decide (k < ((0 : Nat) : Int)))) (B := B) 48 (fun k k0 k1 => by rw [decide_eq_false (by omega), Bool.and_false, Bool.or_false])] at this
        exact this
  have := Lp (bi σ 85 (x / 256)).toNat 0 σ 1 (.float 0) (.float 0) (by omega) bDn_refl (Or.inl ⟨rfl, fun k k0 k1 => by omega, bHc_0⟩)
  rw [show 6 * (x / 256) + ((0 : Nat) : Int) = 6 * (x / 256) by omega] at this
  exact this
end

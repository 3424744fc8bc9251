/-! WHAT AN ACTION GIVES, 6: the reference follows a content -/
/-- the reference holds what is found -/
def bHr (σ s : bSt) (ho : Int) (F : List Int) : Prop := bi s 12 70 = F.length ∧ (∀ i : Nat, i < F.length → bi s 120 i = F.getD i 0) ∧ bi s 12 72 = bEls σ ho F
def bRoq (σ s : bSt) : Prop := s.2 = σ.2 ∧ bUn [120] [70, 72] σ s
/-- paths of a set belong to a package -/
def bPho (σ : bSt) (ho : Int) (P : Int → Bool) : Prop := ∀ p, 0 ≤ p → p < 48 → P p = true → bOwn σ (p / 8) = ho
section
variable {d : Nat} {σ s t : bSt} {f : Int → bSt → Prop} {fv : bSt → Prop} {ho p a op v x n i : Int} {F L : List Int} {c : Int → Int} {m e : Nat} {P : Int → Bool}
theorem bRoq_refl : bRoq σ σ := ⟨rfl, bUn_refl⟩
theorem bRoq_trans (h : bRoq σ s) (k : bRoq s t) : bRoq σ t := ⟨k.1.trans h.1, bUn_trans h.2 k.2⟩
theorem bRoq_pag (h : bRoq σ s) : bPag σ s := ⟨fun a ha i => h.2.1 a (by
    simp only [List.mem_cons, List.not_mem_nil, or_false] at ha ⊢
    omega) (by
    simp only [List.mem_cons, List.not_mem_nil, or_false] at ha
    omega) i, h.2.2.1 17 (by decide) (by decide), h.2.2.1 22 (by decide) (by decide), fun t => h.2.1 (bTi t) (by rw [bTi_m]; decide) (by rw [bTi_m]; decide) 4⟩
theorem w257 (hF : bFi σ) (hP : bPho σ ho P) (hho : bRg ho) (p0 : 0 ≤ p) (p1 : p < 48) (h : f (if bOwn σ (p / 8) = ho then 1 else 0) σ) : bWp (d + 3) 257 [.ref 12, .int (bn ho), .long (bMk P 48), .int (bn p)] σ (bRn f) := by
  have bb := bMk_b (P := P) p.toNat (by omega)
  rw [show ((p.toNat : Nat) : Int) = p by omega] at bb
  refine ⟨rfl, fun A hA => sq257_0 (bWp_mono _) hA hho ⟨by omega, by omega⟩ ⟨p0, w206 hF (by omega) (by omega) ⟨fun z => bRn_i (by decide) (by rwa [if_pos z] at h), fun z => ⟨fun z2 => absurd (hP p p0 p1 (bb.1 z2)) z, fun z2 => bRn_i (by decide) (by rwa [if_neg z] at h)⟩⟩⟩⟩
theorem w258 (hF : bFi σ) (hP : bPho σ ho P) (hho : bRg ho) (p0 : 0 ≤ p) (p1 : p < 48) (h : f (bSn σ ho p) σ) : bWp (d + 4) 258 [.ref 12, .int (bn ho), .long (bMk P 48), .int (bn p)] σ (bRn f) := by
  unfold bSn at h
  refine ⟨rfl, fun A hA => sq258_0 (bWp_mono _) hA hho ⟨by omega, by omega⟩ ⟨fun z => ⟨⟨p0, p1⟩, bRn_i (bi_rg _ _ _) (by rwa [if_pos (Or.inl z)] at h)⟩, fun z => w257 hF hP hho p0 p1 ?_⟩⟩
  by_cases w : bOwn σ (p / 8) = ho
  · rw [if_pos w]
    exact ⟨fun y => absurd y (by decide), fun _ => ⟨⟨p0, p1⟩, bRn_i (bi_rg _ _ _) (by rwa [if_pos (Or.inr w)] at h)⟩⟩
  · rw [if_neg w]
    exact ⟨fun _ => bRn_i (by decide) (by rwa [if_neg (fun y => y.elim z w)] at h), fun y => absurd rfl y⟩
theorem bFin2_t {q : Int} (h : bFin2 F q = true) : ∃ i : Nat, i < F.length ∧ F.getD i 0 / 1001 = q := by
  unfold bFin2 at h
  obtain ⟨w, hw, e⟩ := List.any_eq_true.1 h
  obtain ⟨i, hi, ei⟩ := List.mem_iff_getElem.1 hw
  refine ⟨i, hi, ?_⟩
  rw [List.getD_eq_getElem?_getD, List.getElem?_eq_getElem hi]
  show F[i] / 1001 = q
  rw [ei]
  exact of_decide_eq_true e
theorem bFin2_f {q : Int} (i : Nat) (hi : i < F.length) (h : F.getD i 0 / 1001 = q) : bFin2 F q = true := by
  unfold bFin2
  refine List.any_eq_true.2 ⟨F[i], List.getElem_mem _, decide_eq_true ?_⟩
  rw [List.getD_eq_getElem?_getD, List.getElem?_eq_getElem hi] at h
  exact h
theorem bFok_at (h : bFok F) (i : Nat) (hi : i < F.length) : 0 ≤ F.getD i 0 := by
  rw [List.getD_eq_getElem?_getD, List.getElem?_eq_getElem hi]
  exact (h.1 _ (List.getElem_mem _)).1
theorem bFol_m (h : bPag σ s) (e68 : bi s 12 68 = bi σ 12 68) : ∀ (n : Nat) (a : Int) (F : List Int), bFol s ho n a F = bFol σ ho n a F
  | 0, a, F => rfl
  | n + 1, a, F => by
    have e1 : ∀ p, bSn s ho p = bSn σ ho p := fun p => by unfold bSn; rw [e68, bOwn_p h, h.1 56 (by decide)]
    unfold bFol
    rw [e1, bFol_m h e68 n]
theorem w260 (hF : bFi σ) (hP : bPho σ ho P) (hho : bRg ho) (ok : bFok F) (HF : bHr σ σ ho F) (ha : 0 ≤ a ∧ a < 1000) (h : ∀ s, bRoq σ s → bHr σ s ho (bFol σ ho 48 a F).1 → f (bFol σ ho 48 a F).2 s) : bWp (d + 5) 260 [.ref 12, .int (bn a), .int (bn ho), .long (bMk P 48)] σ (bRn f) := by
  refine ⟨rfl, fun A hA => sq260_0 (bWp_mono _) hA ⟨by omega, by omega⟩ hho ?_⟩
  have ms : ∀ {s}, bRoq σ s → bFi s ∧ bPho s ho P ∧ bPag σ s ∧ bi s 12 68 = bi σ 12 68 := fun {s} M => by
    have ag := bRoq_pag M
    exact ⟨bFi_un M.2 (by decide) hF, fun p p0 p1 hp => by rw [bOwn_p ag]; exact hP p p0 p1 hp, ag, M.2.2.1 68 (by decide) (by decide)⟩
  have In : ∀ (n : Nat) (a sum : Int) (F : List Int) (s : bSt) (v1 v7 v8 v9 : Value), 48 ≤ n + F.length → bFok F → bRoq σ s → bHr σ s ho F → 0 ≤ a → a < 1000 → 0 ≤ sum → sum ≤ 1000 * F.length → (∀ s', bRoq σ s' → bHr σ s' ho (bFol σ ho n a F).1 → f (sum + (bFol σ ho n a F).2) s') → A (4, [.ref 12, v1, .int (bn ho), .long (bMk P 48), .float 0, .int (bn sum), .int (bn a), v7, v8, v9], [], s) := by
    intro n
    induction n with
    | zero =>
      intro a sum F s v1 v7 v8 v9 hn ok M HF a0 a1 s0 s1 K
      have lF := bFok_len ok
      have K0 : f sum s := by
        have := K s M HF
        unfold bFol at this
        rwa [Int.add_zero] at this
      refine sq260_4 (bWp_mono _) hA hho ⟨by omega, by omega⟩ ⟨by omega, by omega⟩ ⟨fun _ => bRn_i ⟨by omega, by omega⟩ K0, fun w => ⟨a0, ?_⟩⟩
      have pf := bFok_48 ok (by omega) (p := a % 48) (by omega) (by omega)
      -- the path is found: it ends
      have Lk : ∀ (k j : Nat) (fl : Int), j + k = F.length → (fl = 1 ∧ (∀ i : Nat, i < j → F.getD i 0 / 1001 ≠ a % 48) ∨ fl = 0) → A (17, [.ref 12, v1, .int (bn ho), .long (bMk P 48), .float 0, .int (bn sum), .int (bn 0), .int (bn (a % 48)), .int (bn fl), .int (bn j)], [], s) := by
        intro k
        induction k with
        | zero =>
          intro j fl hj D
          have rf : bRg fl := by rcases D with ⟨w, _⟩ | w <;> rw [w] <;> decide
          refine sq260_17 (bWp_mono _) hA hho ⟨by omega, by omega⟩ (by decide) ⟨by omega, by omega⟩ rf ⟨by omega, by omega⟩ ⟨fun z => absurd z (by rw [HF.1]; omega), fun _ => ⟨fun z => ?_, fun z => ?_⟩⟩
          · exact sq260_4 (bWp_mono _) hA hho ⟨by omega, by omega⟩ (by decide) ⟨fun _ => bRn_i ⟨by omega, by omega⟩ K0, fun y => absurd (by decide) y⟩
          · rcases D with ⟨_, D⟩ | D
            · obtain ⟨i, hi, e⟩ := bFin2_t pf
              exact absurd e (D i (by omega))
            · exact absurd D z
        | succ k ihk =>
          intro j fl hj D
          have rf : bRg fl := by rcases D with ⟨w, _⟩ | w <;> rw [w] <;> decide
          have nx := fun fl' D' => ihk (j + 1) fl' (by omega) D'
          rw [show ((j + 1 : Nat) : Int) = (j : Int) + 1 by omega] at nx
          refine sq260_17 (bWp_mono _) hA hho ⟨by omega, by omega⟩ (by decide) ⟨by omega, by omega⟩ rf ⟨by omega, by omega⟩ ⟨fun _ => ⟨fun z => ⟨⟨by omega, by omega⟩, nx 0 (Or.inr rfl)⟩, fun z => ⟨⟨by omega, by omega⟩, by rw [HF.2.1 j (by omega)]; exact bFok_at ok j (by omega), ?_⟩⟩, fun z => absurd (by rw [HF.1]; omega) z⟩
          rw [HF.2.1 j (by omega)]
          refine ⟨fun _ => ⟨⟨by omega, by omega⟩, nx 0 (Or.inr rfl)⟩, fun y => ⟨⟨by omega, by omega⟩, nx 1 (Or.inl ⟨rfl, fun i hi => ?_⟩)⟩⟩
          by_cases e : i = j
          · rw [e]; exact y
          · rcases D with ⟨_, D⟩ | D
            · exact D i (by omega)
            · exact absurd D z
      exact Lk F.length 0 1 (by omega) (Or.inl ⟨rfl, fun i hi => by omega⟩)
    | succ n ih =>
      intro a sum F s v1 v7 v8 v9 hn ok M HF a0 a1 s0 s1 K
      have lF := bFok_len ok
      obtain ⟨f2, hP2, ag, e68⟩ := ms M
      unfold bFol at K
      refine sq260_4 (bWp_mono _) hA hho ⟨by omega, by omega⟩ ⟨by omega, by omega⟩ ⟨fun w => ?_, fun w => ⟨a0, ?_⟩⟩
      · rw [if_pos w] at K
        have := K s M HF
        rw [Int.add_zero] at this
        exact bRn_i ⟨by omega, by omega⟩ this
      rw [if_neg w] at K
      have q0 : 0 ≤ a % 48 ∧ a % 48 < 48 := by omega
      generalize hp : a % 48 = p at *
      have sr := bSn_rg (ho := ho) hF q0.1 q0.2
      have eS : bSn s ho p = bSn σ ho p := by unfold bSn; rw [e68, bOwn_p ag, ag.1 56 (by decide)]
      have Lk : ∀ (k j : Nat) (fl : Int), j + k = F.length → (fl = 1 ∧ (∀ i : Nat, i < j → F.getD i 0 / 1001 ≠ p) ∨ fl = 0 ∧ bFin2 F p = true) → A (17, [.ref 12, v1, .int (bn ho), .long (bMk P 48), .float 0, .int (bn sum), .int (bn 0), .int (bn p), .int (bn fl), .int (bn j)], [], s) := by
        intro k
        induction k with
        | zero =>
          intro j fl hj D
          have rf : bRg fl := by rcases D with ⟨w, _⟩ | ⟨w, _⟩ <;> rw [w] <;> decide
          refine sq260_17 (bWp_mono _) hA hho ⟨by omega, by omega⟩ (by decide) ⟨by omega, by omega⟩ rf ⟨by omega, by omega⟩ ⟨fun z => absurd z (by rw [HF.1]; omega), fun _ => ⟨fun z => ?_, fun z => ?_⟩⟩
          · have pf : bFin2 F p = true := by
              rcases D with ⟨y, _⟩ | ⟨_, y⟩
              · omega
              · exact y
            rw [if_pos pf] at K
            have := K s M HF
            rw [Int.add_zero] at this
            exact sq260_4 (bWp_mono _) hA hho ⟨by omega, by omega⟩ (by decide) ⟨fun _ => bRn_i ⟨by omega, by omega⟩ this, fun y => absurd (by decide) y⟩
          · have pf : bFin2 F p = false := by
              rcases D with ⟨_, y⟩ | ⟨y, _⟩
              · cases hb : bFin2 F p with
                | true =>
                  obtain ⟨i, hi, e⟩ := bFin2_t hb
                  exact absurd e (y i (by omega))
                | false => rfl
              · exact absurd y z
            rw [if_neg (by rw [pf]; decide)] at K
            obtain ⟨ok2, l48⟩ := bFok_app (ho := ho) hF q0.1 q0.2 ok pf
            refine w258 f2 hP2 hho q0.1 q0.2 ?_
            rw [eS, HF.1]
            refine ⟨⟨by omega, by omega⟩, ⟨by omega, by omega⟩, ⟨by omega, by omega⟩, ⟨by omega, by omega⟩, ⟨by omega, by omega⟩, ?_⟩
            generalize hw : 1001 * p + bSn σ ho p + 1 = w1 at *
            have wr : bRg w1 := ⟨by omega, by omega⟩
            generalize hs2 : bw (bw s 120 (F.length : Int) w1) 12 70 ((F.length : Int) + 1) = s2
            have M2 : bRoq σ s2 := by
              rw [← hs2]
              exact bRoq_trans M ⟨rfl, bUn_f (bUn_w bUn_refl (by decide) (by decide)) (by decide) (by decide)⟩
            have x70 : bi s2 12 70 = (F.length : Int) + 1 := by rw [← hs2, bi_eq ⟨by omega, by omega⟩]
            have x72 : bi s2 12 72 = bEls σ ho F := by rw [← hs2, bi_nj (by decide) (by decide) (by decide), bi_ne (by decide)]; exact HF.2.2
            have x120 : ∀ i : Nat, i < F.length + 1 → bi s2 120 i = (F ++ [w1]).getD i 0 := fun i hi => by
              rw [← hs2, bi_ne (by decide), bi_bw (by omega) (by omega) wr]
              by_cases e : i = F.length
              · rw [if_pos ⟨rfl, by omega⟩, e, List.getD_eq_getElem?_getD, List.getElem?_append_right (Nat.le_refl _), Nat.sub_self]
                rfl
              · rw [if_neg (fun q => e (by omega)), List.getD_eq_getElem?_getD, List.getElem?_append_left (by omega), ← List.getD_eq_getElem?_getD]
                exact HF.2.1 i (by omega)
            have ll : (F ++ [w1]).length = F.length + 1 := by rw [List.length_append]; rfl
            have eA : bEls σ ho (F ++ [w1]) = if bOwn σ (p / 8) = ho then bEls σ ho F else 1 := by rw [← hw]; exact bEls_app hF q0.1 q0.2
            -- on with what was seen
            have go : ∀ (s3 : bSt) (v7 v8 v9 : Value), bRoq σ s3 → bHr σ s3 ho (F ++ [w1]) → (bSn σ ho p = -1 → bRg (sum + 0) ∧ (bSn σ ho p = -1 → A (4, [.ref 12, v1, .int (bn ho), .long (bMk P 48), .float 0, .int (bn (sum + 0)), .int (bn 0), v7, v8, v9], [], s3)) ∧ (¬ bSn σ ho p = -1 → A (4, [.ref 12, v1, .int (bn ho), .long (bMk P 48), .float 0, .int (bn (sum + 0)), .int (bn (bSn σ ho p)), v7, v8, v9], [], s3))) ∧ (¬ bSn σ ho p = -1 → bRg (sum + bSn σ ho p) ∧ (bSn σ ho p = -1 → A (4, [.ref 12, v1, .int (bn ho), .long (bMk P 48), .float 0, .int (bn (sum + bSn σ ho p)), .int (bn 0), v7, v8, v9], [], s3)) ∧ (¬ bSn σ ho p = -1 → A (4, [.ref 12, v1, .int (bn ho), .long (bMk P 48), .float 0, .int (bn (sum + bSn σ ho p)), .int (bn (bSn σ ho p)), v7, v8, v9], [], s3))) := fun s3 v7 v8 v9 M3 H3 => by
              have nx := fun a' sum' (e1 : a' = max (bSn σ ho p) 0) (e2 : sum' = sum + max (bSn σ ho p) 0) => ih a' sum' (F ++ [w1]) s3 v1 v7 v8 v9 (by rw [ll]; omega) ok2 M3 H3 (by omega) (by omega) (by omega) (by rw [ll]; omega) (fun s' M' HF' => by
                rw [e1] at HF' ⊢
                have := K s' M' HF'
                rw [e2]
                rw [show sum + (max (bSn σ ho p) 0 + (bFol σ ho n (max (bSn σ ho p) 0) (F ++ [w1])).2) = sum + max (bSn σ ho p) 0 + (bFol σ ho n (max (bSn σ ho p) 0) (F ++ [w1])).2 by omega] at this
                exact this)
              exact ⟨fun z => ⟨⟨by omega, by omega⟩, fun _ => nx 0 (sum + 0) (by omega) (by omega), fun y => absurd z y⟩, fun z => ⟨⟨by omega, by omega⟩, fun y => absurd y z, fun _ => nx (bSn σ ho p) (sum + bSn σ ho p) (by omega) (by omega)⟩⟩
            have b72 : bEls σ ho F = 0 ∨ bEls σ ho F = 1 := by
              unfold bEls
              split
              · exact Or.inr rfl
              · exact Or.inl rfl
            obtain ⟨f4, hP4, ag4, e684⟩ := ms M2
            have s72 : bi s 12 72 = bEls σ ho F := HF.2.2
            have set1 : ∀ v : Int, v = bEls σ ho (F ++ [w1]) → bRg v → bRoq σ (bw s2 12 72 v) ∧ bHr σ (bw s2 12 72 v) ho (F ++ [w1]) := fun v hv rv => ⟨bRoq_trans M2 ⟨rfl, bUn_f bUn_refl (by decide) (by decide)⟩, by rw [bi_nj (by decide) (by decide) (by decide), x70, ll]; omega, fun i hi => by rw [bi_ne (by decide)]; exact x120 i (by omega), by rw [bi_eq rv]; exact hv⟩
            rw [s72]
            refine ⟨fun z => w257 f4 hP4 hho q0.1 q0.2 ?_, fun z => ?_⟩
            · rw [bOwn_p ag4]
              by_cases o : bOwn σ (p / 8) = ho
              · rw [if_pos o]
                rw [if_pos o] at eA
                obtain ⟨g1, g2⟩ := set1 0 (by rw [eA, z]) (by decide)
                exact ⟨fun y => absurd y (by decide), fun _ => go _ _ _ _ g1 g2⟩
              · rw [if_neg o]
                rw [if_neg o] at eA
                obtain ⟨g1, g2⟩ := set1 1 (by rw [eA]) (by decide)
                exact ⟨fun _ => go _ _ _ _ g1 g2, fun y => absurd rfl y⟩
            · have e1 : bEls σ ho (F ++ [w1]) = 1 := by
                rw [eA]
                by_cases o : bOwn σ (p / 8) = ho
                · rw [if_pos o]; exact b72.resolve_left z
                · rw [if_neg o]
              obtain ⟨g1, g2⟩ := set1 1 (by rw [e1]) (by decide)
              exact go _ _ _ _ g1 g2
        | succ k ihk =>
          intro j fl hj D
          have rf : bRg fl := by rcases D with ⟨w, _⟩ | ⟨w, _⟩ <;> rw [w] <;> decide
          have nx := fun fl' D' => ihk (j + 1) fl' (by omega) D'
          rw [show ((j + 1 : Nat) : Int) = (j : Int) + 1 by omega] at nx
          refine sq260_17 (bWp_mono _) hA hho ⟨by omega, by omega⟩ (by decide) ⟨by omega, by omega⟩ rf ⟨by omega, by omega⟩ ⟨fun _ => ⟨fun z => ⟨⟨by omega, by omega⟩, nx 0 (Or.inr ⟨rfl, ?_⟩)⟩, fun z => ⟨⟨by omega, by omega⟩, by rw [HF.2.1 j (by omega)]; exact bFok_at ok j (by omega), ?_⟩⟩, fun z => absurd (by rw [HF.1]; omega) z⟩
          · rcases D with ⟨y, _⟩ | ⟨_, y⟩
            · omega
            · exact y
          rw [HF.2.1 j (by omega)]
          refine ⟨fun y => ⟨⟨by omega, by omega⟩, nx 0 (Or.inr ⟨rfl, bFin2_f j (by omega) y⟩)⟩, fun y => ⟨⟨by omega, by omega⟩, nx 1 (Or.inl ⟨rfl, fun i hi => ?_⟩)⟩⟩
          by_cases e : i = j
          · rw [e]; exact y
          · rcases D with ⟨_, D⟩ | ⟨D, _⟩
            · exact D i (by omega)
            · exact absurd D z
      exact Lk F.length 0 1 (by omega) (Or.inl ⟨rfl, fun i hi => by omega⟩)
  have := In 48 a 0 F σ (.int (bn a)) (.float 0) (.float 0) (.float 0) (by omega) ok bRoq_refl HF ha.1 ha.2 (by decide) (by omega) (fun s M H => by rw [Int.zero_add]; exact h s M H)
  exact this
end

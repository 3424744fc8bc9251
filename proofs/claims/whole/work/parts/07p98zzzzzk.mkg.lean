/-! BUILD, 59: what holds as time begins -/
section
variable {σ s β : bSt} {Z Y X Zs Zr : bZs} {x y a b k i w : Int} {V W : List Int} {n m n0 z0 T : Nat} {rk : Int → Nat} {P : Int → Bool}
/-- planning says the same where the plan's facts are the same -/
theorem bmL_g (ag : bPag σ s) : bmL s Z x = bmL σ Z x := by
  have en : ∀ k, bNod s x k = bNod σ x k := fun k => by unfold bNod; rw [ag.1 87 (by decide), bBw_m ag]
  have go : ∀ n : Nat, bIl s (fun y => Z.1 99 y) x n = bIl σ (fun y => Z.1 99 y) x n := fun n => by
    induction n with
    | zero => rfl
    | succ n ih =>
      show bIl s _ x n ++ bIi s _ x n = bIl σ _ x n ++ bIi σ _ x n
      rw [ih]
      unfold bIi
      rw [ag.1 86 (by decide), ag.1 87 (by decide), ag.1 75 (by decide), ag.1 88 (by decide), en, bFd_p ag]
  unfold bmL
  rw [ag.1 85 (by decide), go]
theorem bmSr_g (ag : bPag σ s) (e76 : ∀ j, bi s 76 j = bi σ 76 j) : bmSr s Z x a ↔ bmSr σ Z x a := by
  unfold bmSr
  rw [bmL_g ag, bNu_m ag, bVe_m ag, e76, ag.1 75 (by decide)]
theorem bmFd_g (ag : bPag σ s) (e76 : ∀ j, bi s 76 j = bi σ 76 j) : ∀ k : Nat, bmFd s Z x k = bmFd σ Z x k
  | 0 => rfl
  | k + 1 => by
    show (if bmFd s Z x k = -1 then (if bmSr s Z x k then (k : Int) else -1) else bmFd s Z x k) = (if bmFd σ Z x k = -1 then (if bmSr σ Z x k then (k : Int) else -1) else bmFd σ Z x k)
    rw [bmFd_g ag e76 k]
    by_cases h : bmSr σ Z x k
    · rw [if_pos h, if_pos ((bmSr_g ag e76).2 h)]
    · rw [if_neg h, if_neg (fun q => h ((bmSr_g ag e76).1 q))]
theorem bmMk_g (ag : bPag σ s) (e76 : ∀ j, bi s 76 j = bi σ 76 j) : bmMk s x Z = bmMk σ x Z := by
  unfold bmMk bmNw
  rw [bmFd_g ag e76, bmL_g ag, bNu_m ag, bVe_m ag, e76, ag.1 75 (by decide)]
theorem bmAl_g (ag : bPag σ s) (e76 : ∀ j, bi s 76 j = bi σ 76 j) (V : List Int) : ∀ (Z : bZs), bmAl s V Z = bmAl σ V Z := by
  induction V with
  | nil => exact fun _ => rfl
  | cons x V ih =>
    intro Z
    have e : bmAl s V = bmAl σ V := funext ih
    show (bmMk s x Z).bind (bmAl s V) = (bmMk σ x Z).bind (bmAl σ V)
    rw [bmMk_g ag e76, e]
theorem bpI_g (ag : bPag σ s) {M N : Int → List Int → List Int} (h : ∀ y V, M y V = N y V) : ∀ (k : Nat) (V : List Int), bpI s M x k V = bpI σ N x k V
  | 0, _ => rfl
  | k + 1, V => by
    show (if bi s 86 (6 * (x / 256) + k) = 2 then M (bNod s x k) (bpI s M x k V) else bpI s M x k V) = (if bi σ 86 (6 * (x / 256) + k) = 2 then N (bNod σ x k) (bpI σ N x k V) else bpI σ N x k V)
    have en : bNod s x k = bNod σ x k := by unfold bNod; rw [ag.1 87 (by decide), bBw_m ag]
    rw [bpI_g ag h k V, ag.1 86 (by decide), en, h]
theorem bpO_g (ag : bPag σ s) : ∀ (T : Nat) (x : Int) (V : List Int), bpO s T x V = bpO σ T x V
  | 0, _, _ => rfl
  | T + 1, x, V => by
    show (if x ∈ V then V else bpI s (bpO s T) x (bi s 85 (x / 256)).toNat V ++ [x]) = (if x ∈ V then V else bpI σ (bpO σ T) x (bi σ 85 (x / 256)).toNat V ++ [x])
    rw [bpI_g ag (bpO_g ag T), ag.1 85 (by decide)]
theorem bmOd_g (ag : bPag σ s) (e10 : bi s 10 0 = bi σ 10 0) : ∀ m : Nat, bmOd s P m = bmOd σ P m
  | 0 => rfl
  | m + 1 => by
    show (if P m then bpO s 16 ((m : Int) * 256 + bi s 10 0) (bmOd s P m) else bmOd s P m) = (if P m then bpO σ 16 ((m : Int) * 256 + bi σ 10 0) (bmOd σ P m) else bmOd σ P m)
    rw [bmOd_g ag e10 m, e10, bpO_g ag]
theorem bTgk_g (ag : bPag σ s) : bTgk s x ↔ bTgk σ x := by unfold bTgk; rw [ag.2.2.1]
theorem bmI1_g (ag : bPag σ s) (e76 : ∀ j, bi s 76 j = bi σ 76 j) (h : bmI1 σ V rk n Z) : bmI1 s V rk n Z := ⟨fun y hy => by
  obtain ⟨⟨p1, p2, p3⟩, p4, p5, p6⟩ := h.1 y hy
  exact ⟨⟨p1, (bTgk_g ag).2 p2, by rw [bFx_m ag]; exact p3⟩, p4, p5, (bmSr_g ag e76).2 p6⟩, h.2⟩
theorem bmCl_g (ag : bPag σ s) (h : bmCl σ V) : bmCl s V := fun y hy => by
  obtain ⟨⟨p1, p2, p3⟩, p4⟩ := h y hy
  refine ⟨⟨p1, (bTgk_g ag).2 p2, by rw [bFx_m ag]; exact p3⟩, fun k k0 k1 k2 => ?_⟩
  rw [ag.1 85 (by decide)] at k1
  rw [ag.1 86 (by decide)] at k2
  have en : bNod s y k = bNod σ y k := by unfold bNod; rw [ag.1 87 (by decide), bBw_m ag]
  rw [en]
  exact p4 k k0 k1 k2
/-- the paths among a sound node's inputs: their files are there and belong to its package -/
theorem bmL_own (hF : bFi σ) (hT : bTg σ) (x0 : 0 ≤ x) (ht : bTgk σ (x / 256)) (hE : bFx σ x = 0) (hN : ∀ k, 0 ≤ k → k < bi σ 85 (x / 256) → bi σ 86 (6 * (x / 256) + k) = 2 → 0 ≤ Z.1 99 (bNod σ x k)) : ∀ w ∈ bmL σ Z x, w < 48 → 0 ≤ bi σ 56 w ∧ bOwn σ (w / 8) = bi σ 75 (x / 256) := by
  have ic := bIc_at hT ht
  have pk := (bIl_40 (G := fun _ => 0) hT x0 ht hE).2.2.2.1
  have go : ∀ m : Nat, (m : Int) ≤ bi σ 85 (x / 256) → ∀ w ∈ bIl σ (fun y => Z.1 99 y) x m, w < 48 → 0 ≤ bi σ 56 w ∧ bOwn σ (w / 8) = bi σ 75 (x / 256) := fun m => by
    induction m with
    | zero => intro _ w hw; exact absurd hw List.not_mem_nil
    | succ m ih =>
      intro hm w hw w48
      have e : bIl σ (fun y => Z.1 99 y) x (m + 1) = bIl σ (fun y => Z.1 99 y) x m ++ bIi σ (fun y => Z.1 99 y) x m := rfl
      rw [e] at hw
      rcases List.mem_append.1 hw with z | z
      · exact ih (by omega) w z w48
      · have i0 := bItm_0 hT x0 ht hE (i := m) (by omega) (by omega)
        obtain ⟨hD, it⟩ := bItm_at hT ht (i := m) (by omega) (by omega)
        unfold bIi at z
        unfold bIf at i0
        by_cases k0 : bi σ 86 (6 * (x / 256) + m) = 0
        · rw [if_pos k0] at z i0
          rw [List.mem_singleton.1 z]
          have pw : 0 ≤ bi σ 87 (6 * (x / 256) + m) ∧ bi σ 87 (6 * (x / 256) + m) < 48 := by
            rcases it with ⟨_, a, b, _⟩ | ⟨a, _⟩ | ⟨a, _⟩
            · exact ⟨a, b⟩
            · omega
            · omega
          have b := (hF.1 _ pw.1 pw.2).2.1
          by_cases o : bOwn σ (bi σ 87 (6 * (x / 256) + m) / 8) = bi σ 75 (x / 256)
          · rw [if_pos o] at i0
            by_cases o2 : bi σ 56 (bi σ 87 (6 * (x / 256) + m)) = -1
            · rw [if_pos o2] at i0; exact absurd i0 (by decide)
            · exact ⟨by omega, o⟩
          · rw [if_neg o] at i0; exact absurd i0 (by decide)
        · rw [if_neg k0] at z
          by_cases k2 : bi σ 86 (6 * (x / 256) + m) = 2
          · rw [if_pos k2] at z
            have n0 := hN m (by omega) (by omega) k2
            have e2 : w = 100 + Z.1 99 (bNod σ x m) := List.mem_singleton.1 z
            omega
          · rw [if_neg k2] at z
            obtain ⟨a, b⟩ := bGl_m 48 z
            unfold bFd at b
            have b2 := of_decide_eq_true b
            have := (hF.1 w a.1 (by omega)).2.1
            refine ⟨by have := b2.2.1; omega, ?_⟩
            rcases b2.1 with q | ⟨_, q⟩
            · rw [q]; exact bOwn_s pk
            · exact q
  exact go _ (by omega)
/-- weights, going down -/
theorem bmWd_b (O : bzOa n Z) (hc : bmWc σ n Z) : ∀ (k : Nat) (X : bZs), k ≤ n → zU [141] Z X → bmWb n k X → bmWb n 0 (bmWd σ k X)
  | 0, _, _, _, B => B
  | k + 1, X, hk, uX, B => by
    show bmWb n 0 (bmWd σ k (bmWa σ k X))
    have e140 : ∀ a, X.1 140 a = Z.1 140 a := uX 140 (by decide)
    by_cases hw : Z.1 140 k = 0
    · have uA : bmWa σ k X = X := by unfold bmWa; rw [if_pos (by rw [e140]; exact hw)]
      rw [uA]
      refine bmWd_b O hc k X (by omega) uX fun a a0 a1 => ?_
      have g := B a a0 a1
      refine ⟨fun q => by have := g.1 (by omega); omega, fun q q2 => ?_⟩
      by_cases e : a = k
      · rw [e, e140] at q2; exact absurd hw q2
      · exact g.2 (by omega) q2
    · have eDu : bzDu σ X k = bzDu σ Z k := by unfold bzDu; rw [uX 107 (by decide)]
      have o := O.2 k (by omega) (by omega)
      have uA : bmWa σ k X = bmWi k (zw X 141 k (X.1 141 k + bzDu σ Z k)) (Z.1 105 k).toNat := by
        unfold bmWa
        rw [if_neg (by rw [e140]; exact hw), eDu, uX 105 (by decide)]
      have g := (bmWa_u (σ := σ) (a := (k : Int)) (Z := X)).1
      have wb := (bmWi_b (σ := σ) O hc uX (by omega) hw B (Z.1 105 k).toNat (by omega)).1
      rw [← uA] at wb
      exact bmWd_b O hc k _ (by omega) (zU_trans uX g) wb
/-- what is wanted as time begins -/
theorem bqWc (hT : bTg σ) (I1 : bmI1 σ V rk m Z) (Cl : bmCl σ V) (hF : bFi σ) : ∀ a, 0 ≤ a → a < (m : Int) → Z.1 109 a ≠ 0 → (∀ i, 0 ≤ i → i < Z.1 105 a → Z.1 106 (40 * a + i) < 48 → 0 ≤ bi σ 56 (Z.1 106 (40 * a + i)) ∧ (Z.1 101 a = 5 → bOwn σ (Z.1 106 (40 * a + i) / 8) = Z.1 104 a)) ∧ (∀ i, 0 ≤ i → i < Z.1 105 a → 100 ≤ Z.1 106 (40 * a + i) → Z.1 109 (Z.1 106 (40 * a + i) - 100) ≠ 0) ∧ (0 ≤ Z.1 107 a ∧ Z.1 107 a < 16) ∧ (0 ≤ bi σ 89 (Z.1 107 a) ∧ bi σ 89 (Z.1 107 a) < 3) ∧ 1 ≤ bi σ 90 (Z.1 107 a) ∧ bi σ 90 (Z.1 107 a) ≤ 20 := fun a a0 a1 h => by
  obtain ⟨_, h2, h3⟩ := I1.2 a
  obtain ⟨y, hy, e⟩ := h2.1 h
  obtain ⟨⟨y0, tk, hE⟩, _, _, s1, s2, s3, s4, s5, s6⟩ := I1.1 y hy
  rw [e] at s1 s2 s3 s4 s5 s6
  have it := (Cl y hy).2
  have it0 : ∀ k, 0 ≤ k → k < bi σ 85 (y / 256) → bi σ 86 (6 * (y / 256) + k) = 2 → 0 ≤ Z.1 99 (bNod σ y k) := fun k k0 k1 k2 => (I1.1 _ (it k k0 k1 k2)).2.1.1
  have own := bmL_own (Z := Z) hF hT y0 tk hE it0
  obtain ⟨L40, Lin⟩ := bmL_in (Z := Z) hF hT y0 tk hE
  have Lget : ∀ i : Nat, i < (bmL σ Z y).length → (bmL σ Z y).getD i 0 ∈ bmL σ Z y := fun i hi => by
    rw [List.getD_eq_getElem?_getD, List.getElem?_eq_getElem hi]
    exact List.getElem_mem _
  have at6 : ∀ i, 0 ≤ i → i < Z.1 105 a → Z.1 106 (40 * a + i) ∈ bmL σ Z y := fun i i0 i1 => by
    have := s6 i.toNat (by omega)
    rw [show ((i.toNat : Nat) : Int) = i by omega] at this
    rw [this]
    exact Lget _ (by omega)
  obtain ⟨z, hz, ez, fz⟩ := bmFs_in (M := fun y => Z.1 99 y) (a := a) ⟨y, hy, e⟩
  obtain ⟨⟨z0, zk, _⟩, _⟩ := I1.1 z hz
  have zk2 := zk.2
  have tc := hT.1
  obtain ⟨_, _, _, _, _, _, g8, g9, g10, _⟩ := hT.2.2.2 _ zk.1 zk.2
  rw [h3 h, fz]
  refine ⟨fun i i0 i1 q => ?_, fun i i0 i1 q => ?_, ⟨zk.1, by omega⟩, g8.2, g9.2⟩
  · obtain ⟨o1, o2⟩ := own _ (at6 i i0 i1) q
    exact ⟨o1, fun q5 => by rw [o2]; exact (s5 (s1.symm.trans q5)).symm⟩
  · rcases Lin _ (at6 i i0 i1) with w | ⟨k, k0, k1, k2, ew⟩
    · omega
    · rw [ew, show 100 + Z.1 99 (bNod σ y k) - 100 = Z.1 99 (bNod σ y k) by omega]
      exact (I1.2 _).2.1.2 ⟨_, it k k0 k1 k2, rfl⟩
/-- what holds as time begins -/
theorem bqI (hF : bFi σ) (hT : bTg σ) (h136 : ∀ k, 0 ≤ k → k < 3 → 1 ≤ bi σ 136 k ∧ bi σ 136 k ≤ 4) (h88 : 1 ≤ bi σ 12 88 ∧ bi σ 12 88 ≤ 9) (I0 : bmI0 rk m Z) (I1 : bmI1 σ V rk m Z) (Cl : bmCl σ V) (M : bqM n0 m (bqS β Zr) Z) (Ik : bzIk n0 Zr) (Jc : bzJc 24 Zr.2.1 ∧ bzJc 40 Zr.2.2.1) (O0 : bmI0 rk n0 Zr ∨ (Zr.1 49 0 = n0 ∧ bzOa n0 Zr))
    (e112 : ∀ a, 0 ≤ a → a < (n0 : Int) → bi β 112 a = Zr.1 112 a) (r112 : ∀ a, 0 ≤ a → a < 120 → 0 ≤ bi β 112 a ∧ bi β 112 a < 1000) (r137 : ∀ w, 0 ≤ w → w < 12 → (-1 ≤ bi β 137 w ∧ bi β 137 w < 1000) ∧ bi β 138 w = 0) (r134 : ∀ x, 0 ≤ x → x < 1000 → (bi β 134 x = 0 ∨ bi β 134 x = 1) ∧ (bi β 135 x = 0 ∨ bi β 135 x = 1)) :
    bzI σ m (bqT σ m Z) ∧ bzRn0 rk m (bqT σ m Z) ∧ bmWc σ m (bmBy σ 48 (bqA Z)) ∧ bmWb m 0 (bqT σ m Z) := by
  obtain ⟨⟨c49, m120, Oa⟩, Nd, Rk⟩ := I0
  obtain ⟨M0, M1, M2, M3, M4, M5⟩ := M
  obtain ⟨s1, s2, s3, s4, s5, s6⟩ := bqS_e (σ := β) (Z := Zr)
  obtain ⟨t1, t2, t3⟩ := bqT_u (σ := σ) (n := m) (Z := Z)
  obtain ⟨b1, b2⟩ := bmBy_u (σ := σ) (Z := bqA Z) 48
  obtain ⟨a1, a2, a3⟩ := bqA_e (Z := Z)
  have Wn := bqWc hT I1 Cl hF
  have hc : bmWc σ m (bmBy σ 48 (bqA Z)) := fun a a0 am h => by
    unfold bzDu
    rw [b1 140 (by decide), a2] at h
    obtain ⟨_, q2, _, _, q5⟩ := Wn a a0 am h
    rw [b1 107 (by decide), a1 107 (by decide)]
    refine ⟨fun i i0 i1 q => ?_, q5⟩
    rw [b1 105 (by decide), a1 105 (by decide)] at i1
    rw [b1 106 (by decide), a1 106 (by decide)] at q ⊢
    rw [b1 140 (by decide), a2]
    exact q2 i i0 i1 q
  have OB : bzOa m (bmBy σ 48 (bqA Z)) := ⟨m120, fun a a0 am => by
    simp only [b1 101 (by decide), b1 102 (by decide), b1 103 (by decide), b1 104 (by decide), b1 105 (by decide), b1 106 (by decide), a1 101 (by decide), a1 102 (by decide), a1 103 (by decide), a1 104 (by decide), a1 105 (by decide), a1 106 (by decide)]
    exact Oa a a0 am⟩
  have Wb : bmWb m 0 (bqT σ m Z) := bmWd_b OB hc m _ (Nat.le_refl _) zU_refl fun a a0 am => by
    have e : (bmBy σ 48 (bqA Z)).1 141 a = 0 := by rw [b1 141 (by decide), a1 141 (by decide), M1 141 (by decide), s2 141 (by decide)]
    rw [e]
    exact ⟨fun _ => by omega, fun q => by omega⟩
  -- rows of time
  have row : ∀ c, c ∉ [49, 99, 101, 102, 103, 104, 105, 106, 107, 109, 134, 140, 141] → ∀ j, (bqT σ m Z).1 c j = (bqS β Zr).1 c j := fun c hc j => by
    simp only [List.mem_cons, List.not_mem_nil, or_false, not_or] at hc
    rw [t1 c (by simp only [List.mem_cons, List.not_mem_nil, or_false]; omega), M1 c (by simp only [List.mem_cons, List.not_mem_nil, or_false]; omega)]
  have r142 : ∀ c, 142 ≤ c → c ≤ 148 → ∀ a, 0 ≤ a → a < (m : Int) → (bqT σ m Z).1 c a = if c = 147 then 0 else -1 := fun c c0 c1 a a0 am => by
    rw [row c (by simp only [List.mem_cons, List.not_mem_nil, or_false]; omega), s4 c c0 c1 a a0, if_pos (by omega)]
  have nb0 := (bzNb_b (n := m) (Z := bqT σ m Z)).1
  have ne0 := (bzNe_b (n := m) (Z := bqT σ m Z)).1
  have O0' : ∀ a, 0 ≤ a → a < (n0 : Int) → Zr.1 105 a ≤ 40 ∧ 0 ≤ Zr.1 105 a := fun a a0 an => by
    have oo : bzOa n0 Zr := by
      rcases O0 with q | q
      · exact q.1.2
      · exact q.2
    have := (oo.2 a a0 an).1
    exact ⟨this.2, this.1⟩
  refine ⟨⟨⟨⟨hF, h136, h88⟩, ⟨m120, fun a a0 am => ?_⟩, fun a a0 am h => ?_, fun a a0 am => ?_⟩, fun a a0 am K hK => ?_, fun a a0 am => ?_, fun a a0 am => ?_, ?_, ?_⟩, fun a a0 am => ?_, hc, Wb⟩
  · simp only [t1 101 (by decide), t1 102 (by decide), t1 103 (by decide), t1 104 (by decide), t1 105 (by decide), t1 106 (by decide)]
    exact Oa a a0 am
  · rw [t2] at h
    obtain ⟨q1, q2, q3, q4, q5⟩ := Wn a a0 am h
    have wb := (Wb a a0 am).2 (by omega) (by rw [t2]; exact h)
    unfold bzKd bzDu
    simp only [t1 101 (by decide), t1 104 (by decide), t1 105 (by decide), t1 106 (by decide), t1 107 (by decide), t2]
    exact ⟨q1, q2, q3, q4, q5, wb⟩
  · rw [row 112 (by decide), s5 112 (by decide)]
    exact r112 a a0 (by omega)
  · rw [t3] at hK
    by_cases q : a < (n0 : Int)
    · rw [M3 a q, s6] at hK
      obtain ⟨k1, k2, k3, k4⟩ := Ik a a0 q K hK
      have m5 := M5 a a0 q
      rw [t1 101 (by decide), t1 102 (by decide), t1 103 (by decide), t1 105 (by decide), m5.1 101 (by decide), m5.1 102 (by decide), m5.1 103 (by decide), m5.1 105 (by decide), s1 101 (by decide), s1 102 (by decide), s1 103 (by decide), s1 105 (by decide), row 112 (by decide), s5 112 (by decide), e112 a a0 q]
      exact ⟨k1, k2, k3, k4⟩
    · rw [M4 a (by omega) am] at hK; cases hK
  · rw [r142 142 (by decide) (by decide) a a0 am, r142 143 (by decide) (by decide) a a0 am]
    refine ⟨by decide, fun q => absurd rfl q, fun q => absurd rfl q, fun q => ?_⟩
    unfold bzD at q
    rw [r142 142 (by decide) (by decide) a a0 am] at q
    exact absurd q.1 (by decide)
  · have g : ¬ bzG (bqT σ m Z) a := fun q => q.2.1 (by rw [r142 143 (by decide) (by decide) a a0 am]; rfl)
    rw [r142 143 (by decide) (by decide) a a0 am, r142 145 (by decide) (by decide) a a0 am, r142 146 (by decide) (by decide) a a0 am, r142 147 (by decide) (by decide) a a0 am, r142 148 (by decide) (by decide) a a0 am]
    refine ⟨Or.inl rfl, by decide, fun _ => ⟨rfl, rfl, rfl, rfl⟩, fun q => absurd rfl q, fun q => absurd q g, ⟨by decide, ?_⟩, ⟨by decide, ?_⟩, fun q => absurd q g, by decide, ?_⟩
    · rw [if_neg (by decide)]; omega
    · rw [if_neg (by decide)]; omega
    · rw [if_neg (by decide)]; omega
  · rw [t3, M2.1, M2.2, s6]; exact Jc
  · have e305 : (bqT σ m Z).1 305 0 = 0 := by rw [row 305 (by decide), s2 305 (by decide)]
    have e139 : ∀ x, (bqT σ m Z).1 139 x = 0 := fun x => by rw [row 139 (by decide), s2 139 (by decide)]
    refine ⟨⟨by omega, by omega⟩, Or.inl (by rw [row 306 (by decide), s2 306 (by decide)]), ⟨?_, ?_⟩, fun w w0 w1 => ?_, fun x x0 x1 => ?_, ⟨?_, ?_, ?_⟩, ?_, ?_, fun x _ _ _ => e139 x⟩
    · rw [row 395 (by decide), s3]; decide
    · rw [row 395 (by decide), s3]; omega
    · rw [row 137 (by decide), row 138 (by decide), s5 137 (by decide), s5 138 (by decide)]
      exact ⟨(r137 w w0 w1).1, Or.inl (r137 w w0 w1).2⟩
    · have w141 : (bqT σ m Z).1 134 x = (bmBy σ 48 (bqA Z)).1 134 x := (bmWd_u (σ := σ) m (bmBy σ 48 (bqA Z))).1 134 (by decide) x
      rw [w141, row 135 (by decide), s5 135 (by decide)]
      refine ⟨bmBy_01 (fun x x0 x1 => ?_) 48 x x0 x1, (r134 x x0 x1).2⟩
      rw [a1 134 (by decide), M1 134 (by decide), s5 134 (by decide)]
      exact (r134 x x0 x1).1
    · rw [e139]; exact Int.le_refl _
    · rw [e139]; exact Int.le_refl _
    · rw [e139, e139]; omega
    · rw [e139]; exact Int.le_refl _
    · rw [e139]; omega
  · obtain ⟨k1, k2, _⟩ := Rk a a0 am
    simp only [t1 105 (by decide), t1 106 (by decide)]
    exact ⟨k1, k2⟩
end

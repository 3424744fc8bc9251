/-! BUILD, 8: the reference puts an entry into a cache -/
/-- a slot is as it was -/
def bzSs (s t : bSt) (k : Int) : Prop := (∀ b ∈ [121, 122, 123, 124, 125, 127, 129], bi t b k = bi s b k) ∧ (∀ i, 0 ≤ i → i < 40 → bi t 126 (40 * k + i) = bi s 126 (40 * k + i)) ∧ ∀ i, 0 ≤ i → i < 48 → bi t 128 (48 * k + i) = bi s 128 (48 * k + i)
def bPuK : List Nat := [121, 122, 123, 124, 125, 126, 127, 128, 129]
section
variable {d : Nat} {σ s t : bSt} {f : Int → bSt → Prop} {fv : bSt → Prop} {Z : bZs} {a i j k x v lo hi : Int} {n cap : Nat} {K : bKy} {P Q : List (Int × bKy)}
theorem bzSs_refl : bzSs s s k := ⟨fun _ _ => rfl, fun _ _ _ => rfl, fun _ _ _ => rfl⟩
theorem bzSs_trans {r : bSt} (h : bzSs s t k) (g : bzSs t r k) : bzSs s r k := ⟨fun b hb => (g.1 b hb).trans (h.1 b hb), fun i i0 i1 => (g.2.1 i i0 i1).trans (h.2.1 i i0 i1), fun i i0 i1 => (g.2.2 i i0 i1).trans (h.2.2 i i0 i1)⟩
theorem bzSk_s (h : bzSs s t k) (hl : K.2.2.2.1.length ≤ 40 ∧ K.2.2.2.2.length ≤ 48) (g : bzSk s k K) : bzSk t k K := by
  obtain ⟨h1, h2, h3⟩ := h
  obtain ⟨g1, g2, g3, g4, g5, g6, g7, g8⟩ := g
  exact ⟨by rw [h1 122 (by decide)]; exact g1, by rw [h1 123 (by decide)]; exact g2, by rw [h1 124 (by decide)]; exact g3, by rw [h1 125 (by decide)]; exact g4, fun i hi => by rw [h2 i (by omega) (by omega)]; exact g5 i hi, by rw [h1 127 (by decide)]; exact g6, fun i hi => by rw [h3 i (by omega) (by omega)]; exact g7 i hi, by rw [h1 129 (by decide)]; exact g8⟩
theorem bKg_l (h : bKg K) : K.2.2.2.1.length ≤ 40 ∧ K.2.2.2.2.length ≤ 48 := ⟨h.2.2.2.2.1, h.2.2.2.2.2.2.1⟩
/-- slots that are as they were -/
theorem bzSP_m (h : bzSP lo hi P s) (e : ∀ k, lo ≤ k → k < hi → bzSs s t k) (e73 : bi s 12 73 ≤ bi t 12 73) : bzSP lo hi P t := by
  obtain ⟨h1, h2, h3, h4, h5⟩ := h
  have st : ∀ k, lo ≤ k → k < hi → bi t 121 k = bi s 121 k := fun k k0 k1 => (e k k0 k1).1 121 (by decide)
  refine ⟨fun p hp => ?_, ?_, h3, fun k k0 k1 => by rw [st k k0 k1]; exact h4 k k0 k1, fun k k0 k1 q => h5 k k0 k1 (by rw [← st k k0 k1]; exact q)⟩
  · obtain ⟨a1, a2, a3, a4⟩ := h1 p hp
    refine ⟨a1, by rw [st _ a1.1 a1.2]; omega, bzSk_s (e _ a1.1 a1.2) (bKg_l a4) a3, a4⟩
  · refine List.Pairwise.imp_of_mem (fun {p q} hp hq r => ?_) h2
    rw [st _ (h1 p hp).1.1 (h1 p hp).1.2, st _ (h1 q hq).1.1 (h1 q hq).1.2]
    exact r
theorem bzSP_put (h : bzSP lo hi P s) (sub : Q.Sublist P) (cov : ∀ p ∈ P, p.1 ≠ j → p ∈ Q) (off : ∀ p ∈ Q, p.1 ≠ j ∧ p.2 ≠ K) (j0 : lo ≤ j ∧ j < hi) (same : ∀ k, lo ≤ k → k < hi → k ≠ j → bzSs s t k) (st : bi t 121 j = bi s 12 73 + 1) (s73 : bi t 12 73 = bi s 12 73 + 1) (hK : bzSk t j K) (gK : bKg K) (pos : 0 ≤ bi s 12 73) : bzSP lo hi (Q ++ [(j, K)]) t := by
  obtain ⟨h1, h2, h3, h4, h5⟩ := h
  have sk : ∀ p ∈ Q, bi t 121 p.1 = bi s 121 p.1 := fun p hp => by
    have m := (h1 p (sub.subset hp)).1
    exact (same p.1 m.1 m.2 (off p hp).1).1 121 (by decide)
  refine ⟨fun p hp => ?_, ?_, ?_, fun k k0 k1 => ?_, fun k k0 k1 q => ?_⟩
  · rcases List.mem_append.1 hp with z | z
    · obtain ⟨a1, a2, a3, a4⟩ := h1 p (sub.subset z)
      refine ⟨a1, by rw [sk p z]; omega, bzSk_s (same p.1 a1.1 a1.2 (off p z).1) (bKg_l a4) a3, a4⟩
    · rw [List.mem_singleton.1 z]
      exact ⟨j0, by show 0 < bi t 121 j ∧ bi t 121 j ≤ bi t 12 73; omega, hK, gK⟩
  · rw [List.pairwise_append]
    refine ⟨List.Pairwise.imp_of_mem (fun {p q} hp hq r => by rw [sk p hp, sk q hq]; exact r) (h2.sublist sub), List.pairwise_singleton _ _, fun p hp q hq => ?_⟩
    rw [List.mem_singleton.1 hq, sk p hp]
    show bi s 121 p.1 < bi t 121 j
    have := (h1 p (sub.subset hp)).2.1.2
    omega
  · rw [List.map_append, List.nodup_append]
    refine ⟨h3.sublist (sub.map _), by simp, fun y hy z hz => ?_⟩
    obtain ⟨p, hp, e⟩ := List.mem_map.1 hy
    rw [List.map_singleton, List.mem_singleton] at hz
    rw [hz, ← e]
    exact (off p hp).2
  · by_cases e : k = j
    · rw [e, st]; omega
    · rw [(same k k0 k1 e).1 121 (by decide)]; exact h4 k k0 k1
  · by_cases e : k = j
    · exact ⟨(j, K), List.mem_append_right _ List.mem_cons_self, e.symm⟩
    · rw [(same k k0 k1 e).1 121 (by decide)] at q
      obtain ⟨p, hp, e2⟩ := h5 k k0 k1 q
      exact ⟨p, List.mem_append_left _ (cov p hp (by rw [e2]; exact e)), e2⟩
theorem bzSP_ev {p0 : Int × bKy} (h : bzSP lo hi (p0 :: P) s) (l0 : 0 ≤ lo) : bzSP lo hi P (bw s 121 p0.1 0) := by
  obtain ⟨h1, h2, h3, h4, h5⟩ := h
  rw [List.pairwise_cons] at h2
  have m0 := (h1 p0 List.mem_cons_self).1
  have ne : ∀ p ∈ P, p.1 ≠ p0.1 := fun p hp e => by have := h2.1 p hp; rw [e] at this; exact absurd this (Int.lt_irrefl _)
  have sk : ∀ k, lo ≤ k → k ≠ p0.1 → bi (bw s 121 p0.1 0) 121 k = bi s 121 k := fun k k0 e => bi_nj (by omega) (by omega) e
  have nb : ∀ b, b ≠ 121 → ∀ j, bi (bw s 121 p0.1 0) b j = bi s b j := fun b q j => bi_ne q
  refine ⟨fun p hp => ?_, List.Pairwise.imp_of_mem (fun {p q} hp hq r => ?_) h2.2, ?_, fun k k0 k1 => ?_, fun k k0 k1 q => ?_⟩
  · obtain ⟨a1, a2, a3, a4⟩ := h1 p (List.mem_cons_of_mem _ hp)
    have s2 : bzSs s (bw s 121 p0.1 0) p.1 := ⟨fun b hb => by
      by_cases e : b = 121
      · rw [e]; exact sk _ a1.1 (ne p hp)
      · exact nb b e _, fun i _ _ => nb 126 (by decide) _, fun i _ _ => nb 128 (by decide) _⟩
    refine ⟨a1, ?_, bzSk_s s2 (bKg_l a4) a3, a4⟩
    rw [sk _ a1.1 (ne p hp), nb 12 (by decide)]
    exact a2
  · rw [sk _ (h1 p (List.mem_cons_of_mem _ hp)).1.1 (ne p hp), sk _ (h1 q (List.mem_cons_of_mem _ hq)).1.1 (ne q hq)]
    exact r
  · rw [List.map_cons, List.nodup_cons] at h3
    exact h3.2
  · by_cases e : k = p0.1
    · rw [e, bi_eq (by decide)]; exact Int.le_refl _
    · rw [sk k k0 e]; exact h4 k k0 k1
  · by_cases e : k = p0.1
    · rw [e, bi_eq (by decide)] at q; exact absurd q (Int.lt_irrefl _)
    · rw [sk k k0 e] at q
      obtain ⟨p, hp, e2⟩ := h5 k k0 k1 q
      rcases List.mem_cons.1 hp with z | z
      · rw [z] at e2; exact absurd e2.symm e
      · exact ⟨p, z, e2⟩
theorem bCn_x {P Q : Int → Bool} : ∀ n : Nat, (∀ k, 0 ≤ k → k < (n : Int) → P k = Q k) → bCnp P n = bCnp Q n
  | 0, _ => rfl
  | n + 1, h => by unfold bCnp; rw [h n (by omega) (by omega), bCn_x n (fun k k0 k1 => h k k0 (by omega))]
theorem bCn_l : ∀ (L : List Int), L.Nodup → (∀ y ∈ L, 0 ≤ y ∧ y < (n : Int)) → bCnp (fun k => decide (k ∈ L)) n = L.length
  | [], _, _ => by
    have e : ∀ m : Nat, bCnp (fun k => decide (k ∈ ([] : List Int))) m = 0 := fun m => by
      induction m with
      | zero => rfl
      | succ m ih => unfold bCnp; rw [ih]; simp
    exact e n
  | y :: L, nd, h => by
    rw [List.nodup_cons] at nd
    have yr := h y List.mem_cons_self
    rw [bCn_a (P := fun k => decide (k ∈ L)) (y := y) n yr.1 yr.2 (fun k _ _ kn => by simp [kn]) (decide_eq_false nd.1) (decide_eq_true List.mem_cons_self), bCn_l L nd.2 (fun z hz => h z (List.mem_cons_of_mem _ hz)), List.length_cons]
    rfl
/-- how many entries a cache of the reference has -/
theorem bNum_P (h : bzSP lo hi P s) {m : Nat} (hm : hi = lo + m) : bNum s lo m = P.length := by
  obtain ⟨h1, h2, h3, h4, h5⟩ := h
  have e1 : ∀ q : Nat, bNum s lo q = bCnp (fun k => decide (0 < bi s 121 (lo + k))) q := fun q => by
    induction q with
    | zero => rfl
    | succ q ih =>
      unfold bNum bCnp
      rw [ih]
      by_cases z : 0 < bi s 121 (lo + q)
      · rw [if_pos z, decide_eq_true z, if_pos rfl]; omega
      · rw [if_neg z, decide_eq_false z, if_neg (by decide)]; omega
  rw [e1, bCn_x (Q := fun k => decide (k ∈ P.map (fun p => p.1 - lo))) m (fun k k0 k1 => ?_), bCn_l, List.length_map]
  · rw [List.Nodup, List.pairwise_map]
    refine List.Pairwise.imp (fun {p q} r e => ?_) h2
    have : p.1 = q.1 := by omega
    rw [this] at r
    exact absurd r (Int.lt_irrefl _)
  · intro y hy
    obtain ⟨p, hp, e⟩ := List.mem_map.1 hy
    have := (h1 p hp).1
    omega
  · by_cases z : 0 < bi s 121 (lo + k)
    · obtain ⟨p, hp, e⟩ := h5 (lo + k) (by omega) (by omega) z
      rw [decide_eq_true z, decide_eq_true (List.mem_map.2 ⟨p, hp, by omega⟩)]
    · rw [decide_eq_false z, decide_eq_false]
      intro w
      obtain ⟨p, hp, e⟩ := List.mem_map.1 w
      have := (h1 p hp).2.1.1
      rw [show p.1 = lo + k by omega] at this
      exact z this
/-- the key's own slot is taken out of the list -/
theorem bzRm_P : (P.filter (fun p => !decide (p.2 = K))).map (fun p => p.2) = bzRm (P.map (fun p => p.2)) K := by
  unfold bzRm
  rw [List.filter_map]
  rfl
end

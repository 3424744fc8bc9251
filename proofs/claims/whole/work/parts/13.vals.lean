/-! values, stacks, locals -/
theorem bVr.ext {adr adr' : Nat → Nat} {σ σ' : bSt} (ha : ∀ id, (σ.2.2.2.1 id ≠ 0 ∨ id = 200 ∨ id = 201) → adr' id = adr id) (hA : ∀ id, σ.2.2.2.1 id ≠ 0 → σ.2.2.2.1 id ≤ σ'.2.2.2.1 id ∧ σ'.2.2.2.1 id ≤ 2) {a v : Value} (h : bVr adr σ a v) : bVr adr' σ' a v := by
  cases a with
  | ref id =>
    obtain ⟨h1, h2⟩ := h
    refine ⟨?_, ?_⟩
    · rw [ha id (h2.elim (fun h => Or.inl (by omega)) Or.inr)]
      exact h1
    · rcases h2 with h2 | h2
      · have := hA id (by omega)
        exact Or.inl (by omega)
      · exact Or.inr h2
  | retAddr id =>
    obtain ⟨h1, h2⟩ := h
    have := hA id h2
    exact ⟨by rw [ha id (Or.inl h2)]; exact h1, by omega⟩
  | _ => exact h
theorem bSr.ext {adr adr' : Nat → Nat} {σ σ' : bSt} (ha : ∀ id, (σ.2.2.2.1 id ≠ 0 ∨ id = 200 ∨ id = 201) → adr' id = adr id) (hA : ∀ id, σ.2.2.2.1 id ≠ 0 → σ.2.2.2.1 id ≤ σ'.2.2.2.1 id ∧ σ'.2.2.2.1 id ≤ 2) : ∀ {l r : List Value}, bSr adr σ l r → bSr adr' σ' l r
  | [], [], _ => trivial
  | a :: l, v :: r, h => ⟨h.1.ext ha hA, bSr.ext ha hA h.2⟩
  | [], _ :: _, h => h.elim
  | _ :: _, [], h => h.elim
theorem bLr.ext {adr adr' : Nat → Nat} {σ σ' : bSt} (ha : ∀ id, (σ.2.2.2.1 id ≠ 0 ∨ id = 200 ∨ id = 201) → adr' id = adr id) (hA : ∀ id, σ.2.2.2.1 id ≠ 0 → σ.2.2.2.1 id ≤ σ'.2.2.2.1 id ∧ σ'.2.2.2.1 id ≤ 2) {L : List Value} {ls : Array Slot} {nL : Nat} (h : bLr adr σ L ls nL) : bLr adr' σ' L ls nL :=
  ⟨h.1, h.2.1, fun k => (h.2.2 k).imp id fun ⟨v, h1, h2⟩ => ⟨v, h1, h2.ext ha hA⟩⟩
theorem bVr.same {adr : Nat → Nat} {σ σ' : bSt} (hA : σ'.2.2.2.1 = σ.2.2.2.1) {a v : Value} (h : bVr adr σ a v) : bVr adr σ' a v := by
  cases a <;> first | exact h | (unfold bVr; rw [hA]; exact h)
theorem bSr.same {adr : Nat → Nat} {σ σ' : bSt} (hA : σ'.2.2.2.1 = σ.2.2.2.1) : ∀ {l r : List Value}, bSr adr σ l r → bSr adr σ' l r
  | [], [], _ => trivial
  | a :: l, v :: r, h => ⟨h.1.same hA, bSr.same hA h.2⟩
  | [], _ :: _, h => h.elim
  | _ :: _, [], h => h.elim
theorem bLr.same {adr : Nat → Nat} {σ σ' : bSt} (hA : σ'.2.2.2.1 = σ.2.2.2.1) {L : List Value} {ls : Array Slot} {nL : Nat} (h : bLr adr σ L ls nL) : bLr adr σ' L ls nL :=
  ⟨h.1, h.2.1, fun k => (h.2.2 k).imp id fun ⟨v, h1, h2⟩ => ⟨v, h1, h2.same hA⟩⟩
theorem bVr.cat {adr : Nat → Nat} {σ : bSt} {a v : Value} (h : bVr adr σ a v) (hl : ∀ x, a ≠ .long x) : v.category = 1 := by
  cases a with
  | int x => rw [show v = .int x from h]; rfl
  | long x => exact absurd rfl (hl x)
  | null => rw [show v = .null from h]; rfl
  | ref x => rw [h.1]; rfl
  | retAddr x => rw [h.1]; rfl
  | float x =>
    obtain ⟨a, rfl⟩ := h
    rfl
  | double x => exact h.elim
theorem bSr_cons {adr : Nat → Nat} {σ : bSt} {a : Value} {l cst : List Value} (h : bSr adr σ (a :: l) cst) : ∃ v r, cst = v :: r ∧ bVr adr σ a v ∧ bSr adr σ l r := by
  cases cst with
  | nil => exact h.elim
  | cons v r => exact ⟨v, r, rfl, h.1, h.2⟩
theorem bSr_nil {adr : Nat → Nat} {σ : bSt} {cst : List Value} (h : bSr adr σ [] cst) : cst = [] := by
  cases cst with
  | nil => rfl
  | cons v r => exact h.elim
theorem bSr_int {adr : Nat → Nat} {σ : bSt} {x : Int32} {l cst : List Value} (h : bSr adr σ (.int x :: l) cst) : ∃ r, cst = .int x :: r ∧ bSr adr σ l r := by
  obtain ⟨v, r, rfl, h1, h2⟩ := bSr_cons h
  exact ⟨r, by rw [show v = .int x from h1], h2⟩
theorem bSr_long {adr : Nat → Nat} {σ : bSt} {x : Int64} {l cst : List Value} (h : bSr adr σ (.long x :: l) cst) : ∃ r, cst = .long x :: r ∧ bSr adr σ l r := by
  obtain ⟨v, r, rfl, h1, h2⟩ := bSr_cons h
  exact ⟨r, by rw [show v = .long x from h1], h2⟩
theorem bSr_null {adr : Nat → Nat} {σ : bSt} {l cst : List Value} (h : bSr adr σ (.null :: l) cst) : ∃ r, cst = .null :: r ∧ bSr adr σ l r := by
  obtain ⟨v, r, rfl, h1, h2⟩ := bSr_cons h
  exact ⟨r, by rw [show v = .null from h1], h2⟩
theorem bSr_ref {adr : Nat → Nat} {σ : bSt} {a : Nat} {l cst : List Value} (h : bSr adr σ (.ref a :: l) cst) : ∃ r, cst = .ref (adr a) :: r ∧ (σ.2.2.2.1 a = 2 ∨ a = 200 ∨ a = 201) ∧ bSr adr σ l r := by
  obtain ⟨v, r, rfl, h1, h2⟩ := bSr_cons h
  exact ⟨r, by rw [h1.1], h1.2, h2⟩
theorem bSr_raw {adr : Nat → Nat} {σ : bSt} {a : Nat} {l cst : List Value} (h : bSr adr σ (.retAddr a :: l) cst) : ∃ r, cst = .ref (adr a) :: r ∧ σ.2.2.2.1 a ≠ 0 ∧ bSr adr σ l r := by
  obtain ⟨v, r, rfl, h1, h2⟩ := bSr_cons h
  exact ⟨r, by rw [h1.1], h1.2, h2⟩
theorem bCat_sum {adr : Nat → Nat} {σ : bSt} : ∀ {l r : List Value}, bSr adr σ l r → (r.map fun v => v.category).sum ≤ bCat l
  | [], [], _ => Nat.le_refl _
  | a :: l, v :: r, h => by
    have ih := bCat_sum h.2
    simp only [List.map_cons, List.sum_cons]
    cases a with
    | long x =>
      rw [show v = .long x from h.1]
      show 2 + _ ≤ 2 + bCat l
      omega
    | int x =>
      rw [h.1.cat (fun _ h => by cases h)]
      show 1 + _ ≤ 1 + bCat l
      omega
    | null =>
      rw [h.1.cat (fun _ h => by cases h)]
      show 1 + _ ≤ 1 + bCat l
      omega
    | ref x =>
      rw [h.1.cat (fun _ h => by cases h)]
      show 1 + _ ≤ 1 + bCat l
      omega
    | retAddr x =>
      rw [h.1.cat (fun _ h => by cases h)]
      show 1 + _ ≤ 1 + bCat l
      omega
    | float x =>
      rw [h.1.cat (fun _ h => by cases h)]
      show 1 + _ ≤ 1 + bCat l
      omega
    | double x => exact h.1.elim
  | [], _ :: _, h => h.elim
  | _ :: _, [], h => h.elim
/-- all that is known of the locals -/
def bLv (ls : Array Slot) : List (Nat × Value) := (List.range ls.size).filterMap fun k => match ls[k]? with
  | some (Slot.val v) => some (k, v)
  | _ => none
theorem bLv_mem {ls : Array Slot} {k : Nat} {v : Value} : (k, v) ∈ bLv ls ↔ ls[k]? = some (.val v) := by
  unfold bLv
  rw [List.mem_filterMap]
  constructor
  · rintro ⟨j, -, h⟩
    split at h
    · rename_i w hw
      cases h
      exact hw
    · cases h
  · intro h
    refine ⟨k, List.mem_range.mpr (lv_lt h), ?_⟩
    rw [h]
theorem bLv_has {ls : Array Slot} {n : Nat} (hs : ls.size = n) (hw : lv_wf ls) : lv_has ls n (bLv ls) := ⟨hs, hw, fun q hq => bLv_mem.mp hq⟩
theorem bnth_set_eq : ∀ {L : List Value} {n : Nat} {v d : Value}, n < L.length → bnth (bSet L n v) n d = v
  | a :: l, 0, v, d, _ => rfl
  | a :: l, n + 1, v, d, h => bnth_set_eq (L := l) (Nat.lt_of_succ_lt_succ h)
theorem bnth_set_out : ∀ {L : List Value} {n : Nat} {v d : Value}, ¬ n < L.length → bnth (bSet L n v) n d = d
  | [], n, v, d, _ => by cases n <;> rfl
  | a :: l, 0, v, d, h => absurd (Nat.zero_lt_succ _) h
  | a :: l, n + 1, v, d, h => bnth_set_out (L := l) (fun q => h (Nat.succ_lt_succ q))
theorem bnth_set_ne : ∀ {L : List Value} {n k : Nat} {v d : Value}, k ≠ n → bnth (bSet L n v) k d = bnth L k d
  | [], n, k, v, d, _ => rfl
  | a :: l, 0, 0, v, d, h => absurd rfl h
  | a :: l, 0, k + 1, v, d, _ => rfl
  | a :: l, n + 1, 0, v, d, _ => rfl
  | a :: l, n + 1, k + 1, v, d, h => bnth_set_ne (L := l) (fun q => h (by rw [q]))
theorem bnth_clr_ne : ∀ {L : List Value} {n k : Nat} {d : Value}, k + 1 ≠ n → bnth (bClr L n) k d = bnth L k d
  | [], n, k, d, _ => rfl
  | a :: l, 0, k, d, _ => rfl
  | a :: l, 1, 0, d, h => absurd rfl h
  | a :: l, 1, k + 1, d, _ => rfl
  | a :: l, n + 2, 0, d, _ => rfl
  | a :: l, n + 2, k + 1, d, h => bnth_clr_ne (L := l) (fun q => h (by omega))
theorem bnth_clr_eq : ∀ {L : List Value} {k : Nat} {x : UInt32}, bnth (bClr L (k + 1)) k (.float x) = bUnl (bnth L k (.float x))
  | [], k, x => by cases k <;> rfl
  | a :: l, 0, x => rfl
  | a :: l, k + 1, x => bnth_clr_eq (L := l)
theorem bIsF_d {x : UInt32} : bIsF (.float x) = true := rfl
theorem bLr.at {adr : Nat → Nat} {σ : bSt} {L : List Value} {ls : Array Slot} {nL : Nat} (h : bLr adr σ L ls nL) {k : Nat} {a : Value} (hk : bnth L k (.float 0) = a) (ha : bIsF a = false) : ∃ v, ls[k]? = some (.val v) ∧ bVr adr σ a v := by
  rcases h.2.2 k with q | q
  · rw [hk, ha] at q
    cases q
  · rw [hk] at q
    exact q
theorem bLr.st1 {adr : Nat → Nat} {σ : bSt} {L : List Value} {ls ls' : Array Slot} {nL i : Nat} {a v : Value} (h : bLr adr σ L ls nL) (hv : bVr adr σ a v) (hl : ∀ x, a ≠ .long x) (h' : lv_has ls' nL ((i, v) :: (bLv ls).filter (fun q => !(q.1 == i) && !(q.1 + 1 == i && q.2.category == 2)))) : bLr adr σ (bSt1 L i a) ls' nL := by
  refine ⟨h'.1, h'.2.1, fun k => ?_⟩
  unfold bSt1
  by_cases e : k = i
  · subst e
    by_cases hlt : k < (bClr L k).length
    · rw [bnth_set_eq hlt]
      by_cases hf : bIsF a = true
      · exact Or.inl hf
      · exact Or.inr ⟨v, h'.2.2 (k, v) List.mem_cons_self, hv⟩
    · rw [bnth_set_out hlt]
      exact Or.inl rfl
  · rw [bnth_set_ne e]
    by_cases e2 : k + 1 = i
    · subst e2
      rw [bnth_clr_eq]
      rcases h.2.2 k with q | ⟨w, q1, q2⟩
      · cases hb : bnth L k (.float 0) <;> rw [hb] at q <;> first | exact Or.inl rfl | cases q
      · cases hb : bnth L k (.float 0) with
        | long x => exact Or.inl rfl
        | _ =>
          rw [hb] at q2
          refine Or.inr ⟨w, h'.2.2 (k, w) (List.mem_cons_of_mem _ (List.mem_filter.mpr ⟨bLv_mem.mpr q1, ?_⟩)), q2⟩
          have hc := q2.cat (fun _ z => by cases z)
          simp [hc]
    · rw [bnth_clr_ne e2]
      rcases h.2.2 k with q | ⟨w, q1, q2⟩
      · exact Or.inl q
      · refine Or.inr ⟨w, h'.2.2 (k, w) (List.mem_cons_of_mem _ (List.mem_filter.mpr ⟨bLv_mem.mpr q1, ?_⟩)), q2⟩
        simp [e, e2]
theorem bLr.st2 {adr : Nat → Nat} {σ : bSt} {L : List Value} {ls ls' : Array Slot} {nL i : Nat} {x : Int64} (h : bLr adr σ L ls nL) (h' : lv_has ls' nL ((i, .long x) :: (bLv ls).filter (fun q => !(q.1 == i) && (!(q.1 == i + 1) && !(q.1 + 1 == i && q.2.category == 2))))) : bLr adr σ (bSt2 L i (.long x)) ls' nL := by
  refine ⟨h'.1, h'.2.1, fun k => ?_⟩
  unfold bSt2
  by_cases e0 : k = i + 1
  · subst e0
    by_cases hlt : i + 1 < (bSet (bClr L i) i (.long x)).length
    · rw [bnth_set_eq hlt]
      exact Or.inl rfl
    · rw [bnth_set_out hlt]
      exact Or.inl rfl
  rw [bnth_set_ne e0]
  by_cases e : k = i
  · subst e
    by_cases hlt : k < (bClr L k).length
    · rw [bnth_set_eq hlt]
      exact Or.inr ⟨.long x, h'.2.2 (k, .long x) List.mem_cons_self, rfl⟩
    · rw [bnth_set_out hlt]
      exact Or.inl rfl
  · rw [bnth_set_ne e]
    by_cases e2 : k + 1 = i
    · subst e2
      rw [bnth_clr_eq]
      rcases h.2.2 k with q | ⟨w, q1, q2⟩
      · cases hb : bnth L k (.float 0) <;> rw [hb] at q <;> first | exact Or.inl rfl | cases q
      · cases hb : bnth L k (.float 0) with
        | long x => exact Or.inl rfl
        | _ =>
          rw [hb] at q2
          refine Or.inr ⟨w, h'.2.2 (k, w) (List.mem_cons_of_mem _ (List.mem_filter.mpr ⟨bLv_mem.mpr q1, ?_⟩)), q2⟩
          have hc := q2.cat (fun _ z => by cases z)
          simp [hc]
          omega
    · rw [bnth_clr_ne e2]
      rcases h.2.2 k with q | ⟨w, q1, q2⟩
      · exact Or.inl q
      · refine Or.inr ⟨w, h'.2.2 (k, w) (List.mem_cons_of_mem _ (List.mem_filter.mpr ⟨bLv_mem.mpr q1, ?_⟩)), q2⟩
        simp [e, e0, e2]

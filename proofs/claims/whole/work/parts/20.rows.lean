/-! THE STEP: each row of a method's code, decided, carries the abstract step over to the machine -/

/-- what is decided of a row -/
def bRok (n : Nat) (M : bM) (e : bE) : Prop := decode (bYt n).2.1 e.1 = .ok (e.2.1, e.2.2.1) ∧ (∀ w ∈ bNd (bYt n).1.cls e, w ∈ lw_tbl) ∧ bStr n M e = true
theorem bWat_mem {q : Nat × Nat} {w : Cond} (h : bWat q = some w) : w ∈ lw_tbl := by
  unfold bWat at h
  have hm := List.mem_of_getElem? h
  obtain ⟨k, j⟩ := q
  have key : ∀ k, ∀ w ∈ bTb k, w ∈ lw_tbl := by
    intro k w hw
    unfold lw_tbl tables_1
    match k, hw with
    | 0, hw => exact List.mem_append_left _ hw
    | 1, hw => exact List.mem_append_right _ (List.mem_append_left _ hw)
    | 2, hw => exact List.mem_append_right _ (List.mem_append_right _ (List.mem_append_left _ hw))
    | 3, hw => exact List.mem_append_right _ (List.mem_append_right _ (List.mem_append_right _ (List.mem_append_left _ hw)))
    | 4, hw => exact List.mem_append_right _ (List.mem_append_right _ (List.mem_append_right _ (List.mem_append_right _ (List.mem_append_left _ hw))))
    | 5, hw => exact List.mem_append_right _ (List.mem_append_right _ (List.mem_append_right _ (List.mem_append_right _ (List.mem_append_right _ (List.mem_append_left _ hw)))))
    | 6, hw => exact List.mem_append_right _ (List.mem_append_right _ (List.mem_append_right _ (List.mem_append_right _ (List.mem_append_right _ (List.mem_append_right _ (List.mem_append_left _ hw))))))
    | 7, hw => exact List.mem_append_right _ (List.mem_append_right _ (List.mem_append_right _ (List.mem_append_right _ (List.mem_append_right _ (List.mem_append_right _ (List.mem_append_right _ (List.mem_append_left _ hw)))))))
    | 8, hw => exact List.mem_append_right _ (List.mem_append_right _ (List.mem_append_right _ (List.mem_append_right _ (List.mem_append_right _ (List.mem_append_right _ (List.mem_append_right _ (List.mem_append_right _ (List.mem_append_left _ hw))))))))
    | 9, hw => exact List.mem_append_right _ (List.mem_append_right _ (List.mem_append_right _ (List.mem_append_right _ (List.mem_append_right _ (List.mem_append_right _ (List.mem_append_right _ (List.mem_append_right _ (List.mem_append_right _ (List.mem_append_left _ hw)))))))))
    | 10, hw => exact List.mem_append_right _ (List.mem_append_right _ (List.mem_append_right _ (List.mem_append_right _ (List.mem_append_right _ (List.mem_append_right _ (List.mem_append_right _ (List.mem_append_right _ (List.mem_append_right _ (List.mem_append_right _ hw)))))))))
    | k + 11, hw => exact absurd hw List.not_mem_nil
  exact key k w hm
theorem bOkB_mem {n : Nat} {M : bM} : ∀ {l : List bE} {r : List (List (Nat × Nat))}, bOkB n M l r = true → ∀ e ∈ l, bRok n M e
  | [], _, _, _, h => absurd h List.not_mem_nil
  | e :: l, [], h, _, _ => by cases h
  | e :: l, ps :: r, h, f, hf => by
    unfold bOkB at h
    rw [Bool.and_eq_true, Bool.and_eq_true, Bool.and_eq_true, decide_eq_true_eq, decide_eq_true_eq] at h
    obtain ⟨h1, h2, h3, h4⟩ := h
    rcases List.mem_cons.mp hf with rfl | hf
    · refine ⟨h1, fun w hw => ?_, h3⟩
      have h5 : some w ∈ (bNd (bYt n).1.cls f).map some := List.mem_map.mpr ⟨w, hw, rfl⟩
      rw [h2] at h5
      obtain ⟨q, -, hq⟩ := List.mem_map.mp h5
      exact bWat_mem hq
    · exact bOkB_mem h4 f hf
def bOkM (n : Nat) (M : bM) : Prop := ∀ b ∈ M.1, ∀ e ∈ b, bRok n M e
theorem bnth_mem {α : Type} {d : α} : ∀ {l : List α} {k : Nat}, bnth l k d = d ∨ bnth l k d ∈ l
  | [], _ => Or.inl rfl
  | a :: l, 0 => Or.inr List.mem_cons_self
  | a :: l, k + 1 => (bnth_mem (l := l) (k := k)).imp (fun q => q) (fun q => List.mem_cons_of_mem _ q)
theorem bOkM.row {n : Nat} {M : bM} (h : bOkM n M) (i : Nat) : bRow M i = bNo ∨ bRok n M (bRow M i) := by
  unfold bRow
  rcases bnth_mem (l := bnth M.1 (i / 16) []) (k := i % 16) (d := bNo) with q | q
  · exact Or.inl q
  · right
    rcases bnth_mem (l := M.1) (k := i / 16) (d := []) with q2 | q2
    · rw [q2] at q
      exact absurd q List.not_mem_nil
    · exact h _ q2 _ q

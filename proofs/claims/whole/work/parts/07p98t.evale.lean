/-! RULES' EVALUATION, 14: why a statement of the reference fails -/
def bRU (K kn km : Int) : Prop := (K = 2 ∨ K = 4 ∨ K = 6) ∧ kn = 0 ∨ (K = 1 ∨ K = 2 ∨ K = 4 ∨ K = 5) ∧ km = 0
def bRD (K kn km : Int) : Prop := (K = 2 ∨ K = 6) ∧ kn = 2 ∨ K = 4 ∧ kn = 1 ∨ (K = 2 ∨ K = 4) ∧ km = 2
section
variable {d lvl : Nat} {σ s t r : bSt} {g : Int → bSt → Prop} {fv : bSt → Prop} {A : bPt → Prop} {f a x y k n m p K M t0 l9 : Int}
theorem n218_102 (hA : bClosed lvl bm218 (bWp (d + 1)) (bRn g) A) (hf : 0 ≤ f ∧ f < 6) (ha : 0 ≤ a ∧ a + 3 < 288) (hK : 0 ≤ K ∧ K ≤ 6) (hn : 0 ≤ n ∧ n < 48) (hm : 0 ≤ m ∧ m < 48)
    (hv : bi r 60 n = 2 → 0 ≤ bi r 61 n ∧ bi r 61 n < 72) (hk : 0 ≤ bi r 60 n ∧ bi r 60 n ≤ 2)
    (hF : ∀ q, bRU K (bi r 60 n) (bi r 60 m) ∧ q = 1 ∨ ¬ bRU K (bi r 60 n) (bi r 60 m) ∧ (bRD K (bi r 60 n) (bi r 60 m) ∧ q = 2 ∨ ¬ bRD K (bi r 60 n) (bi r 60 m) ∧ (K = 4 ∧ bi r 62 (bi r 61 n) ≠ f ∧ q = 3 ∨ K = 4 ∧ bi r 62 (bi r 61 n) = f ∧ bi r 63 (bi r 61 n) = 8 ∧ q = 4)) → g (-1) (bw (bw (bw r 65 f 3) 67 f q) 68 f (-1)))
    (hP : ∀ (v6 v7 v8 v9 v10 : Value) (q : Int), ¬ bRU K (bi r 60 n) (bi r 60 m) → ¬ bRD K (bi r 60 n) (bi r 60 m) → (K = 4 → bi r 62 (bi r 61 n) = f ∧ bi r 63 (bi r 61 n) ≠ 8) → (K = 6 ∧ bi r 61 n = 0 ∧ q = 2 ∨ ¬ (K = 6 ∧ bi r 61 n = 0) ∧ q = 1) → A (242, [.ref 12, .int (bn f), .int (bn a), .int (bn K), .int (bn n), .int (bn m), v6, v7, v8, v9, v10], [.int (bn q), .int (bn (bi r 66 f)), .int (bn f), .ref 66], r)) :
    ∀ (v6 v7 v8 v9 v10 : Value) (t0 : Int), (t0 = 1 ∧ (K = 2 ∨ K = 4 ∨ K = 6) ∨ t0 = 0 ∧ ¬ (K = 2 ∨ K = 4 ∨ K = 6)) → A (102, [.ref 12, .int (bn f), .int (bn a), .int (bn K), .int (bn n), .int (bn m), v6, v7, v8, v9, v10], [.int (bn t0)], r) := by
  have c199 : ∀ (v6 v7 v8 v9 v10 : Value) (t0 : Int), bRU K (bi r 60 n) (bi r 60 m) ∧ t0 = 1 ∨ ¬ bRU K (bi r 60 n) (bi r 60 m) ∧ (bRD K (bi r 60 n) (bi r 60 m) ∧ t0 = 2 ∨ ¬ bRD K (bi r 60 n) (bi r 60 m) ∧ (K = 4 ∧ bi r 62 (bi r 61 n) ≠ f ∧ t0 = 3 ∨ (K = 4 → bi r 62 (bi r 61 n) = f) ∧ t0 = 0)) → A (199, [.ref 12, .int (bn f), .int (bn a), .int (bn K), .int (bn n), .int (bn m), v6, v7, v8, v9, v10], [.int (bn t0)], r) := by
    intro v6 v7 v8 v9 v10 t0 ht
    have bad : t0 ≠ 0 → (t0 = 1 ∨ t0 = 2 ∨ t0 = 3) ∧ g (-1) (bw (bw (bw r 65 f 3) 67 f t0) 68 f (-1)) := fun w => by
      rcases ht with ⟨u, e⟩ | ⟨u, ⟨k, e⟩ | ⟨k, ⟨k4, z, e⟩ | ⟨_, e⟩⟩⟩
      · exact ⟨Or.inl e, hF _ (Or.inl ⟨u, e⟩)⟩
      · exact ⟨Or.inr (Or.inl e), hF _ (Or.inr ⟨u, Or.inl ⟨k, e⟩⟩)⟩
      · exact ⟨Or.inr (Or.inr e), hF _ (Or.inr ⟨u, Or.inr ⟨k, Or.inl ⟨k4, z, e⟩⟩⟩)⟩
      · exact absurd e w
    have gd : t0 = 0 → ¬ bRU K (bi r 60 n) (bi r 60 m) ∧ ¬ bRD K (bi r 60 n) (bi r 60 m) ∧ (K = 4 → bi r 62 (bi r 61 n) = f) := fun w => by
      rcases ht with ⟨u, e⟩ | ⟨u, ⟨k, e⟩ | ⟨k, ⟨k4, z, e⟩ | ⟨z, e⟩⟩⟩
      · omega
      · omega
      · omega
      · exact ⟨u, k, z⟩
    have hr : bRg t0 := by
      by_cases w : t0 = 0
      · rw [w]; decide
      · rcases (bad w).1 with e | e | e <;> rw [e] <;> decide
    refine sq218_199 (bWp_mono _) hA ⟨by omega, by omega⟩ ⟨by omega, by omega⟩ ⟨by omega, by omega⟩ ⟨by omega, by omega⟩ ⟨by omega, by omega⟩ hr ⟨fun z => ?_, fun z => ⟨fun _ => w216 hf hr (by decide) (bRn_i (by decide) (bad z).2), fun w => absurd w (by have := (bad z).1; omega)⟩⟩
    obtain ⟨gu, gd, g4⟩ := gd z
    refine ⟨fun k4 => ?_, fun k4 => ⟨fun w => absurd w (by omega), fun _ => ⟨hf, fun k6 => ⟨hn, fun e => hP _ _ _ _ _ _ gu gd (fun w => absurd w k4) (Or.inl ⟨k6, e, rfl⟩), fun e => hP _ _ _ _ _ _ gu gd (fun w => absurd w k4) (Or.inr ⟨fun w => e w.2, rfl⟩)⟩, fun k6 => hP _ _ _ _ _ _ gu gd (fun w => absurd w k4) (Or.inr ⟨fun w => k6 w.1, rfl⟩)⟩⟩⟩
    have kn2 : bi r 60 n = 2 := by unfold bRU bRD at *; omega
    have vr := hv kn2
    refine ⟨hn, ⟨by omega, by omega⟩, fun e => w216 hf (by decide) (by decide) (bRn_i (by decide) (hF 4 (Or.inr ⟨gu, Or.inr ⟨gd, Or.inr ⟨k4, g4 k4, e, rfl⟩⟩⟩))), fun e => ⟨fun w => absurd w (by omega), fun _ => ⟨hf, fun k6 => absurd k6 (by omega), fun k6 => hP _ _ _ _ _ _ gu gd (fun w => ⟨g4 w, e⟩) (Or.inr ⟨fun w => k6 w.1, rfl⟩)⟩⟩⟩
  have c173 : ∀ (v6 v7 v8 v10 : Value) (l9 t0 : Int), bRU K (bi r 60 n) (bi r 60 m) ∧ l9 = 1 ∧ (t0 = 0 ∨ t0 = 1) ∨ ¬ bRU K (bi r 60 n) (bi r 60 m) ∧ l9 = 0 ∧ (bRD K (bi r 60 n) (bi r 60 m) ∧ t0 = 1 ∨ ¬ bRD K (bi r 60 n) (bi r 60 m) ∧ t0 = 0) → A (173, [.ref 12, .int (bn f), .int (bn a), .int (bn K), .int (bn n), .int (bn m), v6, v7, v8, .int (bn l9), v10], [.int (bn t0)], r) := by
    intro v6 v7 v8 v10 l9 t0 ht
    have r9 : bRg l9 ∧ bRg t0 := by
      rcases ht with ⟨_, e, e2 | e2⟩ | ⟨_, e, ⟨_, e2⟩ | ⟨_, e2⟩⟩ <;> rw [e, e2] <;> decide
    refine sq218_173 (bWp_mono _) hA ⟨by omega, by omega⟩ ⟨by omega, by omega⟩ ⟨by omega, by omega⟩ ⟨by omega, by omega⟩ ⟨by omega, by omega⟩ r9.1 r9.2 ⟨fun z => ⟨fun y => ⟨fun _ => ⟨fun k4 => ?_, fun k4 => ?_⟩, fun w => absurd z w⟩, fun y => ?_⟩, fun z => ⟨fun w => absurd w z, fun _ => ?_⟩⟩
    · rcases ht with ⟨_, e, _⟩ | ⟨u, e, ⟨_, e2⟩ | ⟨k, _⟩⟩
      · omega
      · omega
      · have kn2 : bi r 60 n = 2 := by unfold bRU bRD at *; omega
        have vr := hv kn2
        exact ⟨hn, ⟨by omega, by omega⟩, fun w => c199 _ _ _ _ _ _ (Or.inr ⟨u, Or.inr ⟨k, Or.inr ⟨fun _ => w, z⟩⟩⟩), fun w => c199 _ _ _ _ _ _ (Or.inr ⟨u, Or.inr ⟨k, Or.inl ⟨k4, w, rfl⟩⟩⟩)⟩
    · rcases ht with ⟨_, e, _⟩ | ⟨u, e, ⟨_, e2⟩ | ⟨k, _⟩⟩
      · omega
      · omega
      · exact c199 _ _ _ _ _ _ (Or.inr ⟨u, Or.inr ⟨k, Or.inr ⟨fun w => absurd w k4, z⟩⟩⟩)
    · rcases ht with ⟨_, e, _⟩ | ⟨u, e, ⟨k, e2⟩ | ⟨k, e2⟩⟩
      · omega
      · exact c199 _ _ _ _ _ _ (Or.inr ⟨u, Or.inl ⟨k, rfl⟩⟩)
      · omega
    · rcases ht with ⟨u, e, _⟩ | ⟨u, e, _⟩
      · exact c199 _ _ _ _ _ _ (Or.inl ⟨u, e⟩)
      · exact absurd e z
  have c149 : ∀ (v6 v7 v8 v10 : Value) (l9 : Int), (bRU K (bi r 60 n) (bi r 60 m) ∧ l9 = 1 ∨ ¬ bRU K (bi r 60 n) (bi r 60 m) ∧ l9 = 0) → ¬ ((K = 2 ∨ K = 6) ∧ bi r 60 n = 2) → A (149, [.ref 12, .int (bn f), .int (bn a), .int (bn K), .int (bn n), .int (bn m), v6, v7, v8, .int (bn l9), v10], [], r) := by
    intro v6 v7 v8 v10 l9 ht nk
    have r9 : bRg l9 := by
      rcases ht with ⟨_, e⟩ | ⟨_, e⟩ <;> rw [e] <;> decide
    have go : ∀ (t0 : Int), (bRD K (bi r 60 n) (bi r 60 m) ∧ t0 = 1 ∨ ¬ bRD K (bi r 60 n) (bi r 60 m) ∧ t0 = 0) → A (173, [.ref 12, .int (bn f), .int (bn a), .int (bn K), .int (bn n), .int (bn m), v6, v7, v8, .int (bn l9), v10], [.int (bn t0)], r) := fun t0 h => c173 _ _ _ _ _ _ (ht.elim (fun w => Or.inl ⟨w.1, w.2, by omega⟩) (fun w => Or.inr ⟨w.1, w.2, h⟩))
    refine sq218_149 (bWp_mono _) hA ⟨by omega, by omega⟩ ⟨by omega, by omega⟩ ⟨by omega, by omega⟩ ⟨by omega, by omega⟩ ⟨by omega, by omega⟩ r9 ?_
    clear ht c173 c199 hF hP
    repeat' first
      | exact hn
      | exact hm
      | (refine go _ ?_; unfold bRD; omega)
      | (refine ⟨?_, ?_⟩)
      | (intro _)
  have c126 : ∀ (v6 v7 v9 v10 : Value) (l8 : Int), (l8 = 1 ∧ (K = 1 ∨ K = 2 ∨ K = 4 ∨ K = 5) ∨ l8 = 0 ∧ ¬ (K = 1 ∨ K = 2 ∨ K = 4 ∨ K = 5)) → ¬ ((K = 2 ∨ K = 4 ∨ K = 6) ∧ bi r 60 n = 0) → A (126, [.ref 12, .int (bn f), .int (bn a), .int (bn K), .int (bn n), .int (bn m), v6, v7, .int (bn l8), v9, v10], [], r) := by
    intro v6 v7 v9 v10 l8 ht nu
    have r8 : bRg l8 := by
      rcases ht with ⟨e, _⟩ | ⟨e, _⟩ <;> rw [e] <;> decide
    refine sq218_126 (bWp_mono _) hA ⟨by omega, by omega⟩ ⟨by omega, by omega⟩ ⟨by omega, by omega⟩ ⟨by omega, by omega⟩ ⟨by omega, by omega⟩ r8 ?_
    clear hF hP c199
    repeat' first
      | exact hn
      | exact hm
      | (refine c173 _ _ _ _ _ _ ?_; unfold bRU bRD; omega)
      | (refine c149 _ _ _ _ _ ?_ ?_ <;> unfold bRU <;> omega)
      | (refine c149 _ _ _ _ _ ?_ ?_ <;> first | omega | (unfold bRU; omega))
      | (refine ⟨?_, ?_⟩)
      | (intro _)
  intro v6 v7 v8 v9 v10 t0 ht
  have r0 : bRg t0 := by
    rcases ht with ⟨e, _⟩ | ⟨e, _⟩ <;> rw [e] <;> decide
  refine sq218_102 (bWp_mono _) hA ⟨by omega, by omega⟩ ⟨by omega, by omega⟩ ⟨by omega, by omega⟩ ⟨by omega, by omega⟩ ⟨by omega, by omega⟩ r0 ?_
  clear hF hP c199
  repeat' first
    | exact hn
    | exact hm
    | (refine c173 _ _ _ _ _ _ ?_; unfold bRU bRD; omega)
    | (refine c149 _ _ _ _ _ ?_ ?_ <;> first | omega | (unfold bRU; omega))
    | (refine c126 _ _ _ _ _ ?_ ?_ <;> omega)
    | (refine ⟨?_, ?_⟩)
    | (intro _)
end

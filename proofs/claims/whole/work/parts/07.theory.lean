/-! THE ABSTRACT MACHINE'S OWN THEORY: a step goes on in just one way; calls are monotone, end in one outcome, and only add to the counters -/
def bLe (σ σ' : bSt) : Prop := σ.2.2.2.2.1 ≤ σ'.2.2.2.2.1 ∧ σ.2.2.2.2.2 ≤ σ'.2.2.2.2.2
theorem bLe.rf {σ : bSt} : bLe σ σ := ⟨Nat.le_refl _, Nat.le_refl _⟩
theorem bLe.tr {a b c : bSt} (h : bLe a b) (k : bLe b c) : bLe a c := ⟨Nat.le_trans h.1 k.1, Nat.le_trans h.2 k.2⟩
/-- the one way in which a step goes on -/
def bOne (F : (bPt → Prop) → bCall → bPost → Prop) (X : List (Nat × Nat × Nat × Nat)) (i : Nat) (σ : bSt) (K : bPt → Prop) (C : bCall) (Q : bPost) : Prop :=
  (∃ y, K y ∧ bLe σ y.2.2.2 ∧ ∀ K' C' Q', K' y → F K' C' Q') ∨
  (∃ o σ', Q o σ' ∧ bLe σ σ' ∧ ∀ K' C' Q', Q' o σ' → F K' C' Q') ∨
  (∃ (n : Nat) (as : List Value) (f : (bPt → Prop) → Option Value → bSt → Prop) (q : Option Value → bSt → Prop) (g : Option Value → bSt → bPt) (t : Nat → bSt → bPt), (∀ K v s, f K v s ↔ q v s ∧ K (g v s)) ∧ (∀ v s, (g v s).2.2.2 = s) ∧ (∀ v s, (t v s).2.2.2 = s) ∧
    C n as σ (bRet X i (f K) (fun h s => K (t h s)) Q) ∧ ∀ K' C' Q', C' n as σ (bRet X i (f K') (fun h s => K' (t h s)) Q') → F K' C' Q')
section
variable {F : (bPt → Prop) → bCall → bPost → Prop} {X : List (Nat × Nat × Nat × Nat)} {i : Nat} {σ : bSt} {K : bPt → Prop} {C : bCall} {Q : bPost}
theorem bOne.k {y : bPt} (h : K y) (hl : bLe σ y.2.2.2) (hF : ∀ K' C' Q', K' y → F K' C' Q') : bOne F X i σ K C Q := Or.inl ⟨y, h, hl, hF⟩
theorem bOne.q {o : bOut} {σ' : bSt} (h : Q o σ') (hl : bLe σ σ') (hF : ∀ K' C' Q', Q' o σ' → F K' C' Q') : bOne F X i σ K C Q := Or.inr (Or.inl ⟨o, σ', h, hl, hF⟩)
theorem bOne.and {p : Prop} {G : (bPt → Prop) → bCall → bPost → Prop} (hp : p) (h : bOne G X i σ K C Q) : bOne (fun K C Q => p ∧ G K C Q) X i σ K C Q := by
  rcases h with ⟨y, a, b, c⟩ | ⟨o, s, a, b, c⟩ | ⟨n, as, f, q, g, t, f1, g1, t1, a, b⟩
  · exact Or.inl ⟨y, a, b, fun K' C' Q' k => ⟨hp, c K' C' Q' k⟩⟩
  · exact Or.inr (Or.inl ⟨o, s, a, b, fun K' C' Q' k => ⟨hp, c K' C' Q' k⟩⟩)
  · exact Or.inr (Or.inr ⟨n, as, f, q, g, t, f1, g1, t1, a, fun K' C' Q' k => ⟨hp, b K' C' Q' k⟩⟩)
end
section
variable {F : (bPt → Prop) → bCall → bPost → Prop} {X : List (Nat × Nat × Nat × Nat)} {i : Nat} {σ : bSt} {K : bPt → Prop} {C : bCall} {Q : bPost}

theorem one_i1 {st : List Value} {G : (bPt → Prop) → bCall → bPost → Int32 → List Value → Prop} (hG : ∀ x r, G K C Q x r → bOne (fun K C Q => G K C Q x r) X i σ K C Q) (h : bI1 st (G K C Q)) : bOne (fun K C Q => bI1 st (G K C Q)) X i σ K C Q := by
  unfold bI1 at h ⊢
  split at h <;> first | exact hG _ _ h | exact h.elim

theorem one_i2 {st : List Value} {G : (bPt → Prop) → bCall → bPost → Int32 → Int32 → List Value → Prop} (hG : ∀ x y r, G K C Q x y r → bOne (fun K C Q => G K C Q x y r) X i σ K C Q) (h : bI2 st (G K C Q)) : bOne (fun K C Q => bI2 st (G K C Q)) X i σ K C Q := by
  unfold bI2 at h ⊢
  split at h <;> first | exact hG _ _ _ h | exact h.elim

theorem one_j2 {st : List Value} {G : (bPt → Prop) → bCall → bPost → Int64 → Int64 → List Value → Prop} (hG : ∀ x y r, G K C Q x y r → bOne (fun K C Q => G K C Q x y r) X i σ K C Q) (h : bJ2 st (G K C Q)) : bOne (fun K C Q => bJ2 st (G K C Q)) X i σ K C Q := by
  unfold bJ2 at h ⊢
  split at h <;> first | exact hG _ _ _ h | exact h.elim

theorem one_ji {st : List Value} {G : (bPt → Prop) → bCall → bPost → Int64 → Int32 → List Value → Prop} (hG : ∀ x y r, G K C Q x y r → bOne (fun K C Q => G K C Q x y r) X i σ K C Q) (h : bJI st (G K C Q)) : bOne (fun K C Q => bJI st (G K C Q)) X i σ K C Q := by
  unfold bJI at h ⊢
  split at h <;> first | exact hG _ _ _ h | exact h.elim

theorem one_sta {st : List Value} {G : (bPt → Prop) → bCall → bPost → Value → List Value → Prop} (hG : ∀ v r, G K C Q v r → bOne (fun K C Q => G K C Q v r) X i σ K C Q) (h : bStA st (G K C Q)) : bOne (fun K C Q => bStA st (G K C Q)) X i σ K C Q := by
  unfold bStA at h ⊢
  split at h <;> first | exact hG _ _ h | exact h.elim

theorem one_stj {st : List Value} {G : (bPt → Prop) → bCall → bPost → Int64 → List Value → Prop} (hG : ∀ x r, G K C Q x r → bOne (fun K C Q => G K C Q x r) X i σ K C Q) (h : bStJ st (G K C Q)) : bOne (fun K C Q => bStJ st (G K C Q)) X i σ K C Q := by
  unfold bStJ at h ⊢
  split at h <;> first | exact hG _ _ h | exact h.elim

theorem one_ld {tag n : Nat} {L : List Value} {G : (bPt → Prop) → bCall → bPost → Value → Prop} (hG : ∀ v, G K C Q v → bOne (fun K C Q => G K C Q v) X i σ K C Q) (h : bLd tag L n (G K C Q)) : bOne (fun K C Q => bLd tag L n (G K C Q)) X i σ K C Q := by
  unfold bLd at h ⊢
  split at h <;> first | exact hG _ h | exact h.elim
theorem one_isI {v : Value} {G : (bPt → Prop) → bCall → bPost → Int32 → Prop} (hG : ∀ x, G K C Q x → bOne (fun K C Q => G K C Q x) X i σ K C Q) (h : bIsI v (G K C Q)) : bOne (fun K C Q => bIsI v (G K C Q)) X i σ K C Q := by
  unfold bIsI at h ⊢
  split at h <;> first | exact hG _ h | exact h.elim
theorem one_isJ {v : Value} {G : (bPt → Prop) → bCall → bPost → Int64 → Prop} (hG : ∀ x, G K C Q x → bOne (fun K C Q => G K C Q x) X i σ K C Q) (h : bIsJ v (G K C Q)) : bOne (fun K C Q => bIsJ v (G K C Q)) X i σ K C Q := by
  unfold bIsJ at h ⊢
  split at h <;> first | exact hG _ h | exact h.elim
theorem one_isA {v : Value} {G : (bPt → Prop) → bCall → bPost → Option Nat → Prop} (hG : ∀ x, G K C Q x → bOne (fun K C Q => G K C Q x) X i σ K C Q) (h : bIsA v (G K C Q)) : bOne (fun K C Q => bIsA v (G K C Q)) X i σ K C Q := by
  unfold bIsA at h ⊢
  split at h <;> first | exact hG _ h | exact h.elim
theorem one_br {c : Prop} {G1 G2 : (bPt → Prop) → bCall → bPost → Prop} (h1 : G1 K C Q → bOne G1 X i σ K C Q) (h2 : G2 K C Q → bOne G2 X i σ K C Q) (h : bBr c (G1 K C Q) (G2 K C Q)) : bOne (fun K C Q => bBr c (G1 K C Q) (G2 K C Q)) X i σ K C Q := by
  by_cases hc : c
  · rcases h1 (h.1 hc) with ⟨y, a, b, d⟩ | ⟨o, s, a, b, d⟩ | ⟨n, as, f, q, g, t, f1, g1, t1, a, b⟩
    · exact Or.inl ⟨y, a, b, fun K' C' Q' k => ⟨fun _ => d K' C' Q' k, fun q => absurd hc q⟩⟩
    · exact Or.inr (Or.inl ⟨o, s, a, b, fun K' C' Q' k => ⟨fun _ => d K' C' Q' k, fun q => absurd hc q⟩⟩)
    · exact Or.inr (Or.inr ⟨n, as, f, q, g, t, f1, g1, t1, a, fun K' C' Q' k => ⟨fun _ => b K' C' Q' k, fun q => absurd hc q⟩⟩)
  · rcases h2 (h.2 hc) with ⟨y, a, b, d⟩ | ⟨o, s, a, b, d⟩ | ⟨n, as, f, q, g, t, f1, g1, t1, a, b⟩
    · exact Or.inl ⟨y, a, b, fun K' C' Q' k => ⟨fun q => absurd q hc, fun _ => d K' C' Q' k⟩⟩
    · exact Or.inr (Or.inl ⟨o, s, a, b, fun K' C' Q' k => ⟨fun q => absurd q hc, fun _ => d K' C' Q' k⟩⟩)
    · exact Or.inr (Or.inr ⟨n, as, f, q, g, t, f1, g1, t1, a, fun K' C' Q' k => ⟨fun q => absurd q hc, fun _ => b K' C' Q' k⟩⟩)
theorem one_sw {x : Int32} {d : Nat} {G : (bPt → Prop) → bCall → bPost → Nat → Prop} (hG : ∀ t, G K C Q t → bOne (fun K C Q => G K C Q t) X i σ K C Q) (sw : List (Int32 × Nat)) (h : bSw x (G K C Q) d sw) : bOne (fun K C Q => bSw x (G K C Q) d sw) X i σ K C Q := by
  induction sw with
  | nil => exact hG _ h
  | cons q l ih => exact one_br (c := x = q.1) (G1 := fun K C Q => G K C Q q.2) (G2 := fun K C Q => bSw x (G K C Q) d l) (hG _) ih h
theorem one_ix {t : Nat} {σ' : bSt} {st : List Value} {G : (bPt → Prop) → bCall → bPost → Nat → Int32 → List Value → Prop} (hG : ∀ a x r, G K C Q a x r → bOne (fun K C Q => G K C Q a x r) X i σ K C Q) (h : bIx t σ' st (G K C Q)) : bOne (fun K C Q => bIx t σ' st (G K C Q)) X i σ K C Q := by
  unfold bIx at h ⊢
  split at h
  · exact bOne.and h.1 (bOne.and h.2.1 (hG _ _ _ h.2.2))
  · exact h.elim
theorem one_ixs {t : Nat} {σ' : bSt} {st : List Value} {G : (bPt → Prop) → bCall → bPost → Nat → Int32 → Value → List Value → Prop} (hG : ∀ a x v r, G K C Q a x v r → bOne (fun K C Q => G K C Q a x v r) X i σ K C Q) (h : bIxS t σ' st (G K C Q)) : bOne (fun K C Q => bIxS t σ' st (G K C Q)) X i σ K C Q := by
  unfold bIxS at h ⊢
  split at h
  · exact bOne.and h.1 (bOne.and h.2.1 (bOne.and h.2.2.1 (hG _ _ _ _ h.2.2.2)))
  · exact h.elim
theorem one_get {aux : List Nat} {σ' : bSt} {st : List Value} {G : (bPt → Prop) → bCall → bPost → List Value → Prop} (hG : ∀ r, G K C Q r → bOne (fun K C Q => G K C Q r) X i σ K C Q) (h : bGet aux σ' st (G K C Q)) : bOne (fun K C Q => bGet aux σ' st (G K C Q)) X i σ K C Q := by
  unfold bGet at h ⊢
  split at h <;> first | exact h.elim | exact bOne.and h.1 (hG _ h.2) | exact bOne.and h.1 (bOne.and h.2.1 (hG _ h.2.2))
theorem one_put {aux : List Nat} {σ' : bSt} {st : List Value} {G : (bPt → Prop) → bCall → bPost → List Value → bSt → Prop} (hG : ∀ r s, bLe σ' s → G K C Q r s → bOne (fun K C Q => G K C Q r s) X i σ K C Q) (h : bPut aux σ' st (G K C Q)) : bOne (fun K C Q => bPut aux σ' st (G K C Q)) X i σ K C Q := by
  unfold bPut at h ⊢
  split at h <;> first | exact h.elim | exact bOne.and h.1 (hG _ _ ⟨Nat.le_refl _, Nat.le_refl _⟩ h.2) | exact bOne.and h.1 (bOne.and h.2.1 (hG _ _ ⟨Nat.le_refl _, Nat.le_refl _⟩ h.2.2))
theorem bLe_new {σ : bSt} {a x n : Nat} : bLe σ (bNew σ a x n) := ⟨Nat.le_add_right _ _, Nat.le_add_right _ _⟩
theorem one_newO {lvl : Nat} {aux : List Nat} {L st : List Value} {G : (bPt → Prop) → bCall → bPost → Nat → bSt → Prop} (hG : ∀ id s, bLe σ s → G K C Q id s → bOne (fun K C Q => G K C Q id s) X i σ K C Q) (h : bNewO lvl aux σ L st (G K C Q) Q) : bOne (fun K C Q => bNewO lvl aux σ L st (G K C Q) Q) X i σ K C Q := by
  unfold bNewO at h ⊢
  split at h
  · unfold bAtK at h ⊢
    split at h <;> first | exact h.elim | exact bOne.and h.1 (hG _ _ bLe_new h.2)
  · exact bOne.and h.1 (hG _ _ bLe_new h.2)
  · exact bOne.and h.1 (hG _ _ bLe_new h.2)
  · exact bOne.and h.1 (bOne.and h.2.1 (bOne.q (Q := Q) h.2.2 ⟨Nat.le_add_right _ _, Nat.le_add_right _ _⟩ fun _ _ _ k => k))
  · exact h.elim
theorem one_newA {aux : List Nat} {L st : List Value} {G : (bPt → Prop) → bCall → bPost → List Value → bSt → Prop} (hG : ∀ r s, bLe σ s → G K C Q r s → bOne (fun K C Q => G K C Q r s) X i σ K C Q) (h : bNewA aux σ L st (G K C Q)) : bOne (fun K C Q => bNewA aux σ L st (G K C Q)) X i σ K C Q := by
  unfold bNewA at h ⊢
  split at h
  · unfold bAtK at h ⊢
    split at h <;> first | exact h.elim | exact bOne.and h.1 (bOne.and h.2.1 (bOne.and h.2.2.1 (bOne.and h.2.2.2.1 (hG _ _ bLe_new h.2.2.2.2))))
  · exact h.elim
theorem one_inv {nxt : Nat} {aux : List Nat} {L st : List Value} (h : bInv X i nxt aux K C Q L st σ) : bOne (fun K C Q => bInv X i nxt aux K C Q L st σ) X i σ K C Q := by
  unfold bInv at h ⊢
  split at h
  · split at h
    · exact bOne.and h.1 (bOne.k h.2 bLe.rf fun _ _ _ k => k)
    · exact h.elim
  · split at h
    · obtain ⟨h0, h1, h2, h3, h4, h5, h6, h7, h8, h9, h10⟩ := h
      exact bOne.k h10 ⟨Nat.le_refl _, Nat.le_refl _⟩ fun _ _ _ k => ⟨h0, h1, h2, h3, h4, h5, h6, h7, h8, h9, k⟩
    · exact h.elim
  · split at h
    · refine bOne.and h.1 ?_
      have h := h.2
      split at h
      · skip
        exact Or.inr (Or.inr ⟨_, _, fun K v s => K (nxt, L, v.toList ++ _, s), fun _ _ => True, fun v s => (nxt, L, v.toList ++ _, s), fun t s => (t, L, [.float 0], s), fun _ _ _ => ⟨fun h => ⟨trivial, h⟩, fun h => h.2⟩, fun _ _ => rfl, fun _ _ => rfl, h, fun K' C' Q' k => k⟩)
      · exact h.elim
    · exact h.elim
  · split at h
    · split at h
      · skip
        exact Or.inr (Or.inr ⟨_, _, fun K v s => K (nxt, L, v.toList ++ _, s), fun _ _ => True, fun v s => (nxt, L, v.toList ++ _, s), fun t s => (t, L, [.float 0], s), fun _ _ _ => ⟨fun h => ⟨trivial, h⟩, fun h => h.2⟩, fun _ _ => rfl, fun _ _ => rfl, h, fun K' C' Q' k => k⟩)
      · exact h.elim
    · exact h.elim
  · split at h
    · refine bOne.and h.1 (bOne.and h.2.1 ?_)
      have h := h.2.2
      split at h
      · skip
        exact Or.inr (Or.inr ⟨_, _, fun K v s => (v = none ∧ s.2.2.2.1 _ = 2) ∧ K (nxt, L, .ref _ :: _, s), fun v s => v = none ∧ s.2.2.2.1 _ = 2, fun _ s => (nxt, L, .ref _ :: _, s), fun t s => (t, L, [.float 0], s), fun _ _ _ => Iff.rfl, fun _ _ => rfl, fun _ _ => rfl, h, fun K' C' Q' k => k⟩)
      · exact h.elim
    · exact h.elim
  · exact h.elim
theorem one_end {aux : List Nat} {L st : List Value} (h : bEnd aux Q L st σ) : bOne (fun _ _ Q => bEnd aux Q L st σ) X i σ K C Q := by
  unfold bEnd at h ⊢
  split at h
  all_goals first
    | exact bOne.q h bLe.rf fun _ _ _ k => k
    | exact bOne.and h.1 (bOne.q h.2 bLe.rf fun _ _ _ k => k)
    | exact h.elim
    | skip
  split at h
  · exact bOne.and h.1 (bOne.and h.2.1 (bOne.q h.2.2 ⟨Nat.le_refl _, Nat.le_refl _⟩ fun _ _ _ k => k))
  · exact h.elim
end


set_option maxHeartbeats 4000000 in
theorem bW_one {lvl : Nat} {X : List (Nat × Nat × Nat × Nat)} {i : Nat} {e : bE} {K : bPt → Prop} {C : bCall} {Q : bPost} {L st : List Value} {σ : bSt} (h : bW lvl X i e K C Q L st σ) : bOne (fun K C Q => bW lvl X i e K C Q L st σ) X i σ K C Q := by
  obtain ⟨pc, ins, len, nxt, tgt, aux, sw⟩ := e
  cases ins
  case iload => exact one_ld (G := fun K _ _ v => K (nxt, L, v :: st, σ)) (fun _ h => bOne.k h bLe.rf fun _ _ _ k => k) h
  case iload_n => exact one_ld (G := fun K _ _ v => K (nxt, L, v :: st, σ)) (fun _ h => bOne.k h bLe.rf fun _ _ _ k => k) h
  case lload => exact one_ld (G := fun K _ _ v => K (nxt, L, v :: st, σ)) (fun _ h => bOne.k h bLe.rf fun _ _ _ k => k) h
  case lload_n => exact one_ld (G := fun K _ _ v => K (nxt, L, v :: st, σ)) (fun _ h => bOne.k h bLe.rf fun _ _ _ k => k) h
  case aload => exact one_ld (G := fun K _ _ v => K (nxt, L, v :: st, σ)) (fun _ h => bOne.k h bLe.rf fun _ _ _ k => k) h
  case aload_n => exact one_ld (G := fun K _ _ v => K (nxt, L, v :: st, σ)) (fun _ h => bOne.k h bLe.rf fun _ _ _ k => k) h
  case istore => exact one_i1 (fun _ _ h => bOne.k h bLe.rf fun _ _ _ k => k) h
  case istore_n => exact one_i1 (fun _ _ h => bOne.k h bLe.rf fun _ _ _ k => k) h
  case i2l => exact one_i1 (fun _ _ h => bOne.k h bLe.rf fun _ _ _ k => k) h
  case lstore => exact one_stj (fun _ _ h => bOne.k h bLe.rf fun _ _ _ k => k) h
  case lstore_n => exact one_stj (fun _ _ h => bOne.k h bLe.rf fun _ _ _ k => k) h
  case l2i => exact one_stj (fun _ _ h => bOne.k h bLe.rf fun _ _ _ k => k) h
  case astore => exact one_sta (G := fun K _ _ v r => K (nxt, bSt1 L (bnth aux 0 0) v, r, σ)) (fun _ _ h => bOne.k h bLe.rf fun _ _ _ k => k) h
  case astore_n => exact one_sta (G := fun K _ _ v r => K (nxt, bSt1 L (bnth aux 0 0) v, r, σ)) (fun _ _ h => bOne.k h bLe.rf fun _ _ _ k => k) h
  case iconst => exact bOne.k h bLe.rf fun _ _ _ k => k
  case bipush => exact bOne.k h bLe.rf fun _ _ _ k => k
  case sipush => exact bOne.k h bLe.rf fun _ _ _ k => k
  case ldc => exact bOne.k h bLe.rf fun _ _ _ k => k
  case ldc_w => exact bOne.k h bLe.rf fun _ _ _ k => k
  case lconst => exact bOne.k h bLe.rf fun _ _ _ k => k
  case ldc2_w => exact bOne.k h bLe.rf fun _ _ _ k => k
  case aconst_null => exact bOne.k h bLe.rf fun _ _ _ k => k
  case goto => exact bOne.k h bLe.rf fun _ _ _ k => k
  case getstatic => exact bOne.k h bLe.rf fun _ _ _ k => k
  case iadd => exact one_i2 (fun _ _ _ h => bOne.k h bLe.rf fun _ _ _ k => k) h
  case isub => exact one_i2 (fun _ _ _ h => bOne.k h bLe.rf fun _ _ _ k => k) h
  case imul => exact one_i2 (fun _ _ _ h => bOne.k h bLe.rf fun _ _ _ k => k) h
  case iand => exact one_i2 (fun _ _ _ h => bOne.k h bLe.rf fun _ _ _ k => k) h
  case ior => exact one_i2 (fun _ _ _ h => bOne.k h bLe.rf fun _ _ _ k => k) h
  case ixor => exact one_i2 (fun _ _ _ h => bOne.k h bLe.rf fun _ _ _ k => k) h
  case ishl => exact one_i2 (fun _ _ _ h => bOne.k h bLe.rf fun _ _ _ k => k) h
  case ishr => exact one_i2 (fun _ _ _ h => bOne.k h bLe.rf fun _ _ _ k => k) h
  case idiv => exact one_i2 (G := fun K _ _ x y r => ¬ y = 0 ∧ K (nxt, L, .int _ :: r, σ)) (fun _ _ _ h => bOne.and h.1 (bOne.k h.2 bLe.rf fun _ _ _ k => k)) h
  case irem => exact one_i2 (G := fun K _ _ x y r => ¬ y = 0 ∧ K (nxt, L, .int _ :: r, σ)) (fun _ _ _ h => bOne.and h.1 (bOne.k h.2 bLe.rf fun _ _ _ k => k)) h
  case ladd => exact one_j2 (fun _ _ _ h => bOne.k h bLe.rf fun _ _ _ k => k) h
  case lsub => exact one_j2 (fun _ _ _ h => bOne.k h bLe.rf fun _ _ _ k => k) h
  case lmul => exact one_j2 (fun _ _ _ h => bOne.k h bLe.rf fun _ _ _ k => k) h
  case land => exact one_j2 (fun _ _ _ h => bOne.k h bLe.rf fun _ _ _ k => k) h
  case lor => exact one_j2 (fun _ _ _ h => bOne.k h bLe.rf fun _ _ _ k => k) h
  case lcmp => exact one_j2 (fun _ _ _ h => bOne.k h bLe.rf fun _ _ _ k => k) h
  case ldiv => exact one_j2 (G := fun K _ _ x y r => ¬ y = 0 ∧ K (nxt, L, .long _ :: r, σ)) (fun _ _ _ h => bOne.and h.1 (bOne.k h.2 bLe.rf fun _ _ _ k => k)) h
  case lrem => exact one_j2 (G := fun K _ _ x y r => ¬ y = 0 ∧ K (nxt, L, .long _ :: r, σ)) (fun _ _ _ h => bOne.and h.1 (bOne.k h.2 bLe.rf fun _ _ _ k => k)) h
  case lshl => exact one_ji (fun _ _ _ h => bOne.k h bLe.rf fun _ _ _ k => k) h
  case lshr => exact one_ji (fun _ _ _ h => bOne.k h bLe.rf fun _ _ _ k => k) h
  case lushr => exact one_ji (fun _ _ _ h => bOne.k h bLe.rf fun _ _ _ k => k) h
  case iinc => exact one_ld (G := fun K _ _ v => bIsI v fun x => K (nxt, bSt1 L (bnth aux 0 0) (.int (x + (bnth sw 0 (0, 0)).1)), st, σ)) (fun _ h => one_isI (G := fun K _ _ x => K (nxt, bSt1 L (bnth aux 0 0) (.int (x + (bnth sw 0 (0, 0)).1)), st, σ)) (fun _ h => bOne.k h bLe.rf fun _ _ _ k => k) h) h
  case ifCond c d => cases c <;> exact one_i1 (G := fun K _ _ x r => bBr _ (K _) (K _)) (fun _ _ h => one_br (G1 := fun K _ _ => K _) (G2 := fun K _ _ => K _) (fun h => bOne.k h bLe.rf fun _ _ _ k => k) (fun h => bOne.k h bLe.rf fun _ _ _ k => k) h) h
  case if_icmp c d => cases c <;> exact one_i2 (G := fun K _ _ x y r => bBr _ (K _) (K _)) (fun _ _ _ h => one_br (G1 := fun K _ _ => K _) (G2 := fun K _ _ => K _) (fun h => bOne.k h bLe.rf fun _ _ _ k => k) (fun h => bOne.k h bLe.rf fun _ _ _ k => k) h) h
  case tableswitch => exact one_i1 (fun _ _ h => one_sw (G := fun K _ _ t => K (t, L, _, σ)) (fun _ h => bOne.k h bLe.rf fun _ _ _ k => k) _ h) h
  case iaload => exact one_ix (fun _ _ _ h => bOne.k h bLe.rf fun _ _ _ k => k) h
  case baload => exact one_ix (fun _ _ _ h => bOne.k h bLe.rf fun _ _ _ k => k) h
  case laload => exact one_ix (fun _ _ _ h => bOne.k h bLe.rf fun _ _ _ k => k) h
  case aaload => exact one_ix (fun _ _ _ h => bOne.k h bLe.rf fun _ _ _ k => k) h
  case iastore => exact one_ixs (fun _ _ _ _ h => one_isI (fun _ h => bOne.k h ⟨Nat.le_refl _, Nat.le_refl _⟩ fun _ _ _ k => k) h) h
  case lastore => exact one_ixs (fun _ _ _ _ h => one_isJ (fun _ h => bOne.k h ⟨Nat.le_refl _, Nat.le_refl _⟩ fun _ _ _ k => k) h) h
  case bastore => exact one_ixs (fun _ _ _ _ h => one_isI (G := fun K _ _ y => (y = 0 ∨ y = 1) ∧ K _) (fun _ h => bOne.and h.1 (bOne.k h.2 ⟨Nat.le_refl _, Nat.le_refl _⟩ fun _ _ _ k => k)) h) h
  case aastore => exact one_ixs (fun _ _ _ _ h => one_isA (G := fun K _ _ y => (∀ z, y = some z → z % 256 = _) ∧ K _) (fun _ h => bOne.and h.1 (bOne.k h.2 ⟨Nat.le_refl _, Nat.le_refl _⟩ fun _ _ _ k => k)) h) h
  case getfield => exact one_get (G := fun K _ _ r => K (nxt, L, r, σ)) (fun _ h => bOne.k h bLe.rf fun _ _ _ k => k) h
  case putfield => exact one_put (G := fun K _ _ r s => K (nxt, L, r, s)) (fun _ _ hl h => bOne.k h hl fun _ _ _ k => k) h
  case new => exact one_newO (G := fun K _ _ id s => K (nxt, L, .retAddr id :: st, s)) (fun _ _ hl h => bOne.k h hl fun _ _ _ k => k) h
  case newarray => exact one_newA (G := fun K _ _ r s => K (nxt, L, r, s)) (fun _ _ hl h => bOne.k h hl fun _ _ _ k => k) h
  case anewarray => exact one_newA (G := fun K _ _ r s => K (nxt, L, r, s)) (fun _ _ hl h => bOne.k h hl fun _ _ _ k => k) h
  case invokevirtual => exact one_inv h
  case invokestatic => exact one_inv h
  case invokespecial => exact one_inv h
  case return_ => exact one_end h
  case ireturn => exact one_end h
  case lreturn => exact one_end h
  case areturn => exact one_end h
  case dup =>
    unfold bW at h ⊢
    dsimp only at h ⊢
    repeat' split at h
    all_goals first | exact h.elim | exact bOne.k h bLe.rf fun _ _ _ k => k
  case dup2 =>
    unfold bW at h ⊢
    dsimp only at h ⊢
    repeat' split at h
    all_goals first | exact h.elim | exact bOne.k h bLe.rf fun _ _ _ k => k
  case pop =>
    unfold bW at h ⊢
    dsimp only at h ⊢
    repeat' split at h
    all_goals first | exact h.elim | exact bOne.k h bLe.rf fun _ _ _ k => k
  case ifnull =>
    unfold bW at h ⊢
    dsimp only at h ⊢
    repeat' split at h
    all_goals first | exact h.elim | exact bOne.k h bLe.rf fun _ _ _ k => k
  case ifnonnull =>
    unfold bW at h ⊢
    dsimp only at h ⊢
    repeat' split at h
    all_goals first | exact h.elim | exact bOne.k h bLe.rf fun _ _ _ k => k
  case arraylength =>
    unfold bW at h ⊢
    dsimp only at h ⊢
    split at h
    · exact bOne.and h.1 (bOne.k h.2 bLe.rf fun _ _ _ k => k)
    · exact h.elim
  all_goals exact h.elim
theorem bRet_mono {X : List (Nat × Nat × Nat × Nat)} {i : Nat} {f f' : Option Value → bSt → Prop} {g g' : Nat → bSt → Prop} {Q Q' : bPost} (hf : ∀ v s, f v s → f' v s) (hg : ∀ v s, g v s → g' v s) (hQ : ∀ o s, Q o s → Q' o s) : ∀ o s, bRet X i f g Q o s → bRet X i f' g' Q' o s := by
  intro o s h
  unfold bRet at h ⊢
  split at h
  · exact hf _ _ h
  · split at h
    · exact hg _ _ h
    · exact hQ _ _ h
theorem bStep_mono {lvl : Nat} {M : bM} {C C' : bCall} {Q Q' : bPost} {K K' : bPt → Prop} {y : bPt} (hK : ∀ z, K z → K' z) (hQ : ∀ o s, Q o s → Q' o s) (hC : ∀ (n : Nat) (as : List Value) (σ : bSt) (R R' : bPost), (∀ o s, R o s → R' o s) → C n as σ R → C' n as σ R') (h : bStep lvl M C Q K y) : bStep lvl M C' Q' K' y := by
  rcases bW_one h with ⟨z, a, b, d⟩ | ⟨o, s, a, b, d⟩ | ⟨n, as, f, q, g, t, f1, g1, t1, a, b⟩
  · exact d _ _ _ (hK z a)
  · exact d _ _ _ (hQ o s a)
  · exact b _ _ _ (hC _ _ _ _ _ (bRet_mono (fun v s k => (f1 _ v s).mpr ((f1 _ v s).mp k |>.imp (fun z => z) (hK _))) (fun _ _ k => hK _ k) hQ) a)
theorem bAt_step {lvl : Nat} {M : bM} {C : bCall} {Q : bPost} {y : bPt} (hC : bMono C) (h : bStep lvl M C Q (bAt lvl M C Q) y) : bAt lvl M C Q y :=
  fun P hP => hP y (bStep_mono (fun z hz => hz P hP) (fun _ _ k => k) hC h)
theorem bAt_mono {lvl : Nat} {M : bM} {C : bCall} {Q Q' : bPost} {y : bPt} (hC : bMono C) (hQ : ∀ o s, Q o s → Q' o s) (h : bAt lvl M C Q y) : bAt lvl M C Q' y :=
  fun P hP => h P fun z hz => hP z (bStep_mono (fun _ k => k) hQ hC hz)
theorem bWp_mono (d : Nat) : bMono (bWp d) := by
  induction d with
  | zero => exact fun _ _ _ _ _ _ h => h
  | succ d ih => exact fun n as σ R R' hR h => ⟨h.1, bAt_mono ih hR h.2⟩
/-- one outcome alone -/
def bEx (o : bOut) (s : bSt) : bPost := fun o' s' => o' = o ∧ s' = s
theorem bRet_ex {X : List (Nat × Nat × Nat × Nat)} {i : Nat} {f f' : Option Value → bSt → Prop} {g g' : Nat → bSt → Prop} {Q Q' : bPost} {o : bOut} {s : bSt} (h : bRet X i f g Q o s) (hf : ∀ v, f v s → f' v s) (hg : ∀ v, g v s → g' v s) (hQ : ∀ o, Q o s → Q' o s) : bRet X i f' g' Q' o s := by
  unfold bRet at h ⊢
  split at h
  · exact hf _ h
  · split at h
    · exact hg _ h
    · exact hQ _ h
theorem bAt_det {lvl : Nat} {M : bM} {C : bCall} {Q : bPost} {x : bPt} (hC : bMono C) (hd : ∀ (n : Nat) (as : List Value) (σ : bSt) (R : bPost), C n as σ R → ∃ o s, R o s ∧ bLe σ s ∧ C n as σ (bEx o s)) (h : bAt lvl M C Q x) : ∃ o s, Q o s ∧ bLe x.2.2.2 s ∧ bAt lvl M C (bEx o s) x := by
  refine h (fun x => ∃ o s, Q o s ∧ bLe x.2.2.2 s ∧ bAt lvl M C (bEx o s) x) fun y hy => ?_
  rcases bW_one hy with ⟨z, ⟨o, s, a1, a2, a3⟩, b, d⟩ | ⟨o, s, a, b, d⟩ | ⟨n, as, f, q, g, t, f1, g1, t1, a, b⟩
  · exact ⟨o, s, a1, b.tr a2, bAt_step hC (d _ _ _ a3)⟩
  · exact ⟨o, s, a, b, bAt_step hC (d _ _ _ ⟨rfl, rfl⟩)⟩
  · obtain ⟨o1, s1, r1, r2, r3⟩ := hd _ _ _ _ a
    have key : ∃ o s, Q o s ∧ bLe s1 s ∧ bRet M.2.1 y.1 (f (bAt lvl M C (bEx o s))) (fun v s' => bAt lvl M C (bEx o s) (t v s')) (bEx o s) o1 s1 := by
      unfold bRet at r1
      split at r1
      · obtain ⟨q0, o, s, q1, q2, q3⟩ := (f1 _ _ _).mp r1
        rw [g1] at q2
        exact ⟨o, s, q1, q2, (f1 _ _ _).mpr ⟨q0, q3⟩⟩
      · split at r1
        · rename_i hh _
          obtain ⟨o, s, q1, q2, q3⟩ := r1
          rw [t1] at q2
          refine ⟨o, s, q1, q2, ?_⟩
          unfold bRet
          simp only [*]
        · refine ⟨_, _, r1, bLe.rf, ?_⟩
          unfold bRet
          simp only [*]
          exact ⟨rfl, rfl⟩
    obtain ⟨o, s, q1, q2, q3⟩ := key
    refine ⟨o, s, q1, r2.tr q2, bAt_step hC (b _ _ _ (hC _ _ _ _ _ ?_ r3))⟩
    rintro o' s' ⟨rfl, rfl⟩
    exact q3
theorem bWp_det (d : Nat) : ∀ (n : Nat) (as : List Value) (σ : bSt) (R : bPost), bWp d n as σ R → ∃ o s, R o s ∧ bLe σ s ∧ bWp d n as σ (bEx o s) := by
  induction d with
  | zero => exact fun _ _ _ _ h => h.elim
  | succ d ih =>
    intro n as σ R h
    obtain ⟨o, s, h1, h2, h3⟩ := bAt_det (bWp_mono d) ih h.2
    exact ⟨o, s, h1, h2, h.1, h3⟩

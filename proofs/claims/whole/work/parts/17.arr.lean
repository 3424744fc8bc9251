/-! arrays read and written -/
theorem bTy_obj : ∀ k, k < 13 → (bnth bKT k (9, 0, 0)).1 = 9 := by decide
theorem bTs_9 : (9 : Nat) ∉ bTs := by decide
theorem bLen_201 (σ : bSt) : bLen σ 201 = 6 := rfl
theorem bTy_200 : bTy 200 = 0 := rfl
theorem bTy_201 : bTy 201 = 0 := rfl
section
variable {p : Program} {l : Launch} {e : Env} {R : Room} {s : State} {m : MethodId} {args : Array Value} {below : List Frame} {meth : Method} {c : Code} {D : va_G} {cA : Nat → ClassId} {b0 : Nat} {adr0 : Nat → Nat} {σ0 : bSt} {nL : Nat} {pcs : Nat → Nat} {Qf : State → Prop}
variable {i nxt tgt : Nat} {L L' st st' : List Value} {σ : bSt} {cc : ByteArray}
theorem bArr {adr : Nat → Nat} {H : Heap} (hK : bKn D cA s) (h : bRep D cA b0 s adr σ H) {a t : Nat} (hl : σ.2.2.2.1 a = 2 ∨ a = 200 ∨ a = 201) (ht : bTy a = t) (h9 : t ≠ 9) :
    ∃ cell : Cell, H[adr a]? = some cell ∧ s.isArrayOf cell (bEt t) ∧ cell.vm ≠ .unknown ∧ cell.slots.size = bLen σ a ∧ ∀ j : Nat, j < bLen σ a → cell.slots[j]? = some (bAv adr σ a t j) := by
  obtain ⟨h1, h2, h3, ⟨h4, h5⟩, ⟨h6, h7⟩, h8⟩ := h
  rcases hl with hl | rfl | rfl
  · have hne : σ.2.2.2.1 a ≠ 0 := by rw [hl]; decide
    have no : ¬ a % 256 < 13 := fun q => by
      have := bTy_obj _ q
      unfold bTy at ht
      rw [this] at ht
      exact h9 ht.symm
    have hc := (h2 a hne).2.2 no
    have hT := ((h1 a hne).2.2.1 no).2
    rw [ht] at hc hT
    refine ⟨_, hc, (hK.2 t hT).1 _ _, (fun q => by cases q), arrV_size _ _ _, fun j hj => arrV_read _ _ hj⟩
  · obtain ⟨cell, k1, k2, k3, k4, k5, k6⟩ := h5
    have e : t = 0 := by rw [← ht]; rfl
    subst e
    exact ⟨cell, k1, k2, k3, k4, k6⟩
  · obtain ⟨cell, k1, k2, k3, k4, k5, k6⟩ := h7
    have e : t = 0 := by rw [← ht]; rfl
    subst e
    exact ⟨cell, k1, k2, k3, k4, k6⟩
theorem sm_ald {t : Nat} {f : Nat → Int32 → Value} (hK : bKn D cA s) (h9 : t ≠ 9) (hv : ∀ adr a x, bWf σ → bTy a = t → (σ.2.2.2.1 a = 2 ∨ a = 200 ∨ a = 201) → bVr adr σ (f a x) (bAv adr σ a t x.toNatClampNeg))
    (row : ∀ (H : Heap) (locs : List Loc) (cells slots : Nat) (ls : Array Slot) (cst : List Value) (a : Nat) (x : Int32) (v : Value) (cell : Cell), H[a]? = some cell → s.isArrayOf cell (bEt t) → cell.vm ≠ .unknown → ¬ (x < 0 ∨ cell.slots.size ≤ x.toNatClampNeg) → cell.slots[x.toNatClampNeg]? = some v → W p l e R s m args below meth c H locs cells slots Qf (F0 m (pcs nxt) ls (v :: cst)) → W p l e R s m args below meth c H locs cells slots Qf (F0 m (pcs i) ls (.int x :: .ref a :: cst)))
    (h : bIx t σ st fun a x r => bG p l e R s m args below meth c D cA b0 adr0 σ0 nL pcs Qf (nxt, L, f a x :: r, σ)) : bG p l e R s m args below meth c D cA b0 adr0 σ0 nL pcs Qf (i, L, st, σ) := by
  unfold bIx at h
  split at h
  · rename_i x a r
    intro adr H locs ls cst hI
    obtain ⟨h1, h2, h3, h4, h5⟩ := hI
    obtain ⟨c1, rfl, hr⟩ := bSr_int h4
    obtain ⟨cr, rfl, hl, hr⟩ := bSr_ref hr
    obtain ⟨cell, k1, k2, k3, k4, k5⟩ := bArr hK h1 hl h.1 h9
    have hin := h.2.1
    have hlt : x.toNatClampNeg < bLen σ a := Nat.not_le.mp fun q => hin (Or.inr q)
    exact row H locs _ _ ls cr (adr a) x _ cell k1 k2 k3 (by rw [k4]; exact hin) (k5 _ hlt) (h.2.2 adr H locs ls _ ⟨h1, h2, h3, ⟨hv adr a x h1.1 h.1 hl, hr⟩, h5⟩)
  · exact h.elim
theorem sm_alen (hK : bKn D cA s) (row : ∀ (H : Heap) (locs : List Loc) (cells slots : Nat) (ls : Array Slot) (cst : List Value) (a : Nat) (t : FieldType) (cell : Cell), H[a]? = some cell → s.isArrayOf cell t → W p l e R s m args below meth c H locs cells slots Qf (F0 m (pcs nxt) ls (.int cell.slots.size.toInt32 :: cst)) → W p l e R s m args below meth c H locs cells slots Qf (F0 m (pcs i) ls (.ref a :: cst)))
    {a : Nat} {r : List Value} (h : ¬ bTy a = 9 ∧ bG p l e R s m args below meth c D cA b0 adr0 σ0 nL pcs Qf (nxt, L, .int (Int32.ofNat (bLen σ a)) :: r, σ)) : bG p l e R s m args below meth c D cA b0 adr0 σ0 nL pcs Qf (i, L, .ref a :: r, σ) := by
  intro adr H locs ls cst hI
  obtain ⟨h1, h2, h3, h4, h5⟩ := hI
  obtain ⟨cr, rfl, hl, hr⟩ := bSr_ref h4
  obtain ⟨cell, k1, k2, k3, k4, k5⟩ := bArr hK h1 hl rfl h.1
  refine row H locs _ _ ls cr (adr a) _ cell k1 k2 (h.2 adr H locs ls _ ⟨h1, h2, h3, ⟨?_, hr⟩, h5⟩)
  rw [k4]
  rfl
theorem sm_ast {t : Nat} {pv : Heap → Value → Prop} {cv : (Nat → Nat) → Value} {σ' : bSt} (hK : bKn D cA s) (hT : t ∈ bTs)
    (row : ∀ (H : Heap) (locs : List Loc) (cells slots : Nat) (ls : Array Slot) (cst : List Value) (a n : Nat) (z : Nat → Value) (x : Int32) (v : Value), H[a]? = some (arrV (cA t) n z) → s.isArrayOf (arrV (cA t) n z) (bEt t) → vp_in x n → pv H v → (∀ H' : Heap, H'[a]? = some (arrV (cA t) n (updV z x.toNatClampNeg v)) → H'.size = H.size → (∀ q : Nat, q ≠ a → H'[q]? = H[q]?) → W p l e R s m args below meth c H' (locs ++ [⟨a, x.toNatClampNeg⟩]) cells slots Qf (F0 m (pcs nxt) ls cst)) → W p l e R s m args below meth c H locs cells slots Qf (F0 m (pcs i) ls (v :: .int x :: .ref a :: cst)))
    {x : Int32} {a : Nat} {v : Value} {r : List Value} (hA : σ'.2.2.2.1 = σ.2.2.2.1) (hc : σ'.2.2.2.2 = σ.2.2.2.2) (hn : ∀ j, j ≠ a → σ'.1 j = σ.1 j ∧ σ'.2.1 j = σ.2.1 j ∧ σ'.2.2.1 j = σ.2.2.1 j) (ht : bTy a = t) (hin : vp_in x (bLen σ a)) (hwr : a % 256 < 200) (hcv : ∀ adr H, bRep D cA b0 s adr σ H → ∀ w, bVr adr σ v w → w = cv adr ∧ pv H w) (hw : bWf σ → σ.2.2.2.1 a = 2 → (∀ adr w, bVr adr σ v w → True) → (∃ adr w, bVr adr σ v w) → bWf σ') (hval : ∀ adr j, updV (bAv adr σ a t) x.toNatClampNeg (cv adr) j = bAv adr σ' a t j)
    (h : bG p l e R s m args below meth c D cA b0 adr0 σ0 nL pcs Qf (nxt, L, r, σ')) : bG p l e R s m args below meth c D cA b0 adr0 σ0 nL pcs Qf (i, L, v :: .int x :: .ref a :: r, σ) := by
  intro adr H locs ls cst hI
  have hI' := hI
  obtain ⟨h1, h2, h3, h4, h5⟩ := hI
  obtain ⟨w, c0, rfl, hw1, hr0⟩ := bSr_cons h4
  obtain ⟨c1, rfl, hr1⟩ := bSr_int hr0
  obtain ⟨cr, rfl, hl, hr⟩ := bSr_ref hr1
  have hl2 : σ.2.2.2.1 a = 2 := by
    rcases hl with q | q | q
    · exact q
    · rw [q] at hwr
      exact absurd hwr (by decide)
    · rw [q] at hwr
      exact absurd hwr (by decide)
  have hne : σ.2.2.2.1 a ≠ 0 := by rw [hl2]; decide
  have no : ¬ a % 256 < 13 := fun q => by
    have h9 := bTy_obj _ q
    unfold bTy at ht
    rw [h9] at ht
    rw [← ht] at hT
    exact bTs_9 hT
  have hcell := (h1.2.1 a hne).2.2 no
  rw [ht] at hcell
  obtain ⟨hwv, hpv⟩ := hcv adr H h1 w hw1
  refine row H locs _ _ ls cr (adr a) _ _ x w hcell ((hK.2 t hT).1 _ _) hin hpv fun H' e1 e2 e3 => ?_
  have n200 : (200 : Nat) ≠ a := fun q => by rw [← q] at hwr; exact absurd hwr (by decide)
  have hlen : bLen σ' a = bLen σ a := bLen_same (by rw [(hn 200 n200).2.1]) a
  have hB : bOb D cA adr σ' a H' := ⟨fun q => absurd q no, fun _ => by
    rw [ht, hlen, e1, hwv]
    congr 2
    funext j
    exact hval adr j⟩
  have g2 := h adr H' _ ls cr (bIn_put (sl := x.toNatClampNeg) hI' hne hA hc (hw h1.1 hl2 (fun _ _ _ => trivial) ⟨adr, w, hw1⟩) e2 e3 hB hn hr)
  rw [show (nxt, L, r, σ').2.2.2.2.2.2.2 = σ.2.2.2.2 from hc] at g2
  exact g2
end

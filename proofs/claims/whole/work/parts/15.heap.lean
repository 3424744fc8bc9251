/-! the rows that read and write the heap -/
section
variable {p : Program} {l : Launch} {e : Env} {R : Room} {s : State} {m : MethodId} {args : Array Value} {below : List Frame} {meth : Method} {c : Code} {D : va_G} {cA : Nat → ClassId} {b0 : Nat} {adr0 : Nat → Nat} {σ0 : bSt} {nL : Nat} {pcs : Nat → Nat} {Qf : State → Prop}
variable {i nxt tgt : Nat} {L L' st st' : List Value} {σ : bSt} {cc : ByteArray}
theorem bExt.same {adr0 adr : Nat → Nat} {σ0 σ σ' : bSt} (h : bExt adr0 σ0 adr σ) (hA : σ'.2.2.2.1 = σ.2.2.2.1) (hc : σ'.2.2.2.2 = σ.2.2.2.2) : bExt adr0 σ0 adr σ' :=
  ⟨h.1, fun id => by rw [hA]; exact h.2.1 id, by have := h.2.2; unfold bLe at this ⊢; rw [hc]; exact this⟩
theorem bIn_put {adr : Nat → Nat} {H H' : Heap} {locs : List Loc} {ls : Array Slot} {cst r cr : List Value} {σ' : bSt} {id sl : Nat} (hI : bIn D cA b0 s adr0 σ0 nL adr H locs ls cst (i, L, st, σ)) (hid : σ.2.2.2.1 id ≠ 0) (hA : σ'.2.2.2.1 = σ.2.2.2.1) (hc : σ'.2.2.2.2 = σ.2.2.2.2) (hw : bWf σ') (hz : H'.size = H.size) (oq : ∀ q : Nat, q ≠ adr id → H'[q]? = H[q]?)
    (ho : bOb D cA adr σ' id H') (hn : ∀ j, j ≠ id → σ'.1 j = σ.1 j ∧ σ'.2.1 j = σ.2.1 j ∧ σ'.2.2.1 j = σ.2.2.1 j) (hr : bSr adr σ r cr) : bIn D cA b0 s adr0 σ0 nL adr H' (locs ++ [⟨adr id, sl⟩]) ls cr (nxt, L, r, σ') := by
  obtain ⟨h1, h2, h3, h4, h5, h6, h7⟩ := hI
  have hb := (h1.2.1 id hid).1
  refine ⟨h1.put hid hA hw hz oq ho hn, h2.same hA hc, h3.same hA, hr.same hA, fun q hq => ?_, fun q hq => ?_, by rw [hz]; exact h7⟩
  · rcases List.mem_append.mp hq with q1 | q1
    · exact h5 q q1
    · rw [List.mem_singleton.mp q1]
      exact hb
  · rw [oq q (by omega)]
    exact h6 q hq
theorem live_obj {a ci : Nat} (h : σ.2.2.2.1 a = 2 ∨ a = 200 ∨ a = 201) (hk : a % 256 = ci) (hci : ci < 13) : σ.2.2.2.1 a = 2 := by
  rcases h with h | rfl | rfl
  · exact h
  · omega
  · omega
theorem sm_get {ci k t kd x y : Nat} (hci : ci < 13) (hk : k < bNf ci) (hF : bFk ci k = (t, kd, x, y))
    (row : ∀ (H : Heap) (locs : List Loc) (cells slots : Nat) (ls : Array Slot) (cst : List Value) (a : Nat) (V : Nat → Value), t_OB a (D.1 ci) (bNf ci) (D.2 ci) H V → W p l e R s m args below meth c H locs cells slots Qf (F0 m (pcs nxt) ls (V k :: cst)) → W p l e R s m args below meth c H locs cells slots Qf (F0 m (pcs i) ls (.ref a :: cst)))
    (h : bGet [ci, k, t, kd, x, y] σ st fun r => bG p l e R s m args below meth c D cA b0 adr0 σ0 nL pcs Qf (nxt, L, r, σ)) : bG p l e R s m args below meth c D cA b0 adr0 σ0 nL pcs Qf (i, L, st, σ) := by
  have go : ∀ (a : Nat) (r : List Value) (v : Value) (g : bG p l e R s m args below meth c D cA b0 adr0 σ0 nL pcs Qf (nxt, L, v :: r, σ)) (hm : a % 256 = ci), (∀ adr, σ.2.2.2.1 a ≠ 0 → bWf σ → bVr adr σ v (bFv adr σ a k)) → ∀ (adr : Nat → Nat) (H : Heap) (locs : List Loc) (ls : Array Slot) (cst : List Value), bIn D cA b0 s adr0 σ0 nL adr H locs ls cst (i, L, st, σ) → σ.2.2.2.1 a ≠ 0 → ∀ cr, cst = .ref (adr a) :: cr → bSr adr σ r cr → W p l e R s m args below meth c H locs (σ.2.2.2.2.1 - σ0.2.2.2.2.1) (σ.2.2.2.2.2 - σ0.2.2.2.2.2) Qf (F0 m (pcs i) ls cst) := by
    intro a r v g hm hv adr H locs ls cst hI hl cr hcr hr
    subst hcr
    obtain ⟨h1, h2, h3, h4, h5⟩ := hI
    have ho := ((h1.2.1 a hl).2.1 (by rw [hm]; exact hci))
    rw [hm] at ho
    exact row H locs _ _ ls cr (adr a) _ ho (g adr H locs ls _ ⟨h1, h2, h3, ⟨hv adr hl h1.1, hr⟩, h5⟩)
  have hF1 : (bFk ci k).1 = t := by rw [hF]
  have hF2 : (bFk ci k).2.1 = kd := by rw [hF]
  have hF3 : (bFk ci k).2.2.1 = x := by rw [hF]
  have hF4 : (bFk ci k).2.2.2 = y := by rw [hF]
  unfold bGet at h
  split at h
  · rename_i _ _ _ q1 q2 q3 q4 a r e1
    simp only [List.cons.injEq, and_true] at e1
    obtain ⟨rfl, rfl, rfl, rfl, rfl, rfl⟩ := e1
    intro adr H locs ls cst hI
    obtain ⟨cr, e, hl, hr⟩ := bSr_ref hI.2.2.2.1
    have hl2 : σ.2.2.2.1 a = 2 := live_obj hl h.1 hci
    exact go a r _ h.2 h.1 (fun adr _ _ => by unfold bFv; rw [h.1, hF1]; rfl) adr H locs ls cst hI (by omega) cr e hr
  · rename_i _ _ _ q1 q2 q3 q4 a r e1
    simp only [List.cons.injEq, and_true] at e1
    obtain ⟨rfl, rfl, rfl, rfl, rfl, rfl⟩ := e1
    intro adr H locs ls cst hI
    obtain ⟨cr, e, hl, hr⟩ := bSr_ref hI.2.2.2.1
    have hl2 : σ.2.2.2.1 a = 2 := live_obj hl h.1 hci
    exact go a r _ h.2 h.1 (fun adr _ _ => by unfold bFv; rw [h.1, hF1]; rfl) adr H locs ls cst hI (by omega) cr e hr
  · rename_i _ _ _ q1 q2 q3 q4 a r e1
    simp only [List.cons.injEq, and_true] at e1
    obtain ⟨rfl, rfl, rfl, rfl, rfl, rfl⟩ := e1
    intro adr H locs ls cst hI
    obtain ⟨cr, e, hl, hr⟩ := bSr_ref hI.2.2.2.1
    have hl2 : σ.2.2.2.1 a = 2 := live_obj hl h.1 hci
    exact go a r _ h.2 h.1 (fun adr _ _ => by unfold bFv; rw [h.1, hF1]; rfl) adr H locs ls cst hI (by omega) cr e hr
  · rename_i _ _ _ q1 q2 q3 q4 a r e1
    simp only [List.cons.injEq, and_true] at e1
    obtain ⟨rfl, rfl, rfl, rfl, rfl, rfl⟩ := e1
    intro adr H locs ls cst hI
    obtain ⟨cr, e, hl, hr⟩ := bSr_ref hI.2.2.2.1
    have hl2 : σ.2.2.2.1 a = 2 := live_obj hl h.1 hci
    refine go a r _ h.2 h.1 (fun adr _ hw => ?_) adr H locs ls cst hI (by omega) cr e hr
    have hc := (hw a (by omega)).2.2.2.1 (by rw [h.1]; exact hci) k (by rw [h.1]; exact hk) (by rw [h.1, hF1]) (Or.inl hl2)
    unfold bFv
    rw [h.1, hF1]
    rw [h.1] at hc
    rw [if_neg (by decide), if_pos rfl, if_pos (Or.inl hl2)]
    rw [hF2, hF3, hF4] at hc ⊢
    exact ⟨rfl, Or.inl hc⟩
  · rename_i _ _ _ q1 q2 q3 q4 a r e1
    simp only [List.cons.injEq, and_true] at e1
    obtain ⟨rfl, rfl, rfl, rfl, rfl, rfl⟩ := e1
    intro adr H locs ls cst hI
    obtain ⟨cr, e, hl, hr⟩ := bSr_raw hI.2.2.2.1
    refine go a r _ h.2.2 h.1 (fun adr _ hw => ?_) adr H locs ls cst hI hl cr e hr
    have hc := (hw a hl).2.2.2.1 (by rw [h.1]; exact hci) k (by rw [h.1]; exact hk) (by rw [h.1, hF1]) (Or.inr h.2.1)
    unfold bFv
    rw [h.1, hF1]
    rw [h.1] at hc
    rw [if_neg (by decide), if_pos rfl, if_pos (Or.inr h.2.1)]
    rw [hF2, hF3, hF4] at hc ⊢
    exact ⟨rfl, Or.inl hc⟩
  · exact h.elim
end

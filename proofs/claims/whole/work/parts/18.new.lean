/-! objects and arrays made, constructors ended -/
/-- a field's type by its number -/
def bTyOk (ci k : Nat) : Bool := match (bFk ci k).1, bFty ci k with
  | 0, .int => true
  | 1, .boolean => true
  | 2, .long => true
  | 3, .object _ => true
  | 3, .array _ => true
  | _, _ => false
section
variable {p : Program} {l : Launch} {e : Env} {R : Room} {s : State} {m : MethodId} {args : Array Value} {below : List Frame} {meth : Method} {c : Code} {D : va_G} {cA : Nat → ClassId} {b0 : Nat} {adr0 : Nat → Nat} {σ0 : bSt} {nL : Nat} {pcs : Nat → Nat} {Qf : State → Prop}
variable {i nxt tgt : Nat} {L L' st st' : List Value} {σ : bSt} {cc : ByteArray}
theorem bNew_A {id x n j : Nat} (h : ¬ j = id) : (bNew σ id x n).2.2.2.1 j = σ.2.2.2.1 j := by simp [bNew, bF, h]
theorem bNew_Ai {id x n : Nat} : (bNew σ id x n).2.2.2.1 id = x := by simp [bNew, bF]
theorem bWf.new {id x n : Nat} (h : bWf σ) (hid : σ.2.2.2.1 id = 0) (hk : id % 256 < 200) (hx : x ≤ 2) (hx0 : x ≠ 0) (ho : id % 256 < 13 → x ≠ 2) (ha : ¬ id % 256 < 13 → x = 2 ∧ bTy id ∈ bTs) : bWf (bNew σ id x n) := by
  intro j hj
  by_cases e : j = id
  · subst e
    rw [bNew_Ai] at hj ⊢
    refine ⟨hk, hx, ha, fun z k _ _ q => ?_, fun z k r q => ?_⟩
    · rcases q with q | q
      · exact absurd q (ho z)
      · have q2 : (bZ σ.2.2.1 j none j k).isSome = true := q
        simp [bZ] at q2
    · have q2 : bZ σ.2.2.1 j none j k = some r := q
      simp [bZ] at q2
  · rw [bNew_A e] at hj ⊢
    obtain ⟨w1, w2, w3, w4, w5⟩ := h j hj
    refine ⟨w1, w2, w3, fun z k hk2 t3 q => ?_, fun z k r q => ?_⟩
    · have hc := w4 z k hk2 t3 (q.imp (fun q => q) (fun q => by
        have q2 : (bZ σ.2.2.1 id none j k).isSome = true := q
        simpa [bZ, e] using q2))
      rw [bNew_A (fun q => by rw [q, hid] at hc; cases hc)]
      exact hc
    · have q2 : bZ σ.2.2.1 id none j k = some r := q
      have q3 : σ.2.2.1 j k = some r := by simpa [bZ, e] using q2
      obtain ⟨c1, c2⟩ := w5 z k r q3
      exact ⟨by rw [bNew_A (fun q => by rw [q, hid] at c1; cases c1)]; exact c1, c2⟩
theorem bIn_new {adr : Nat → Nat} {H H' : Heap} {locs : List Loc} {ls : Array Slot} {cst : List Value} {id x n : Nat} {v w : Value} {r cr : List Value} (hI : bIn D cA b0 s adr0 σ0 nL adr H locs ls cst (i, L, st, σ)) (hid : σ.2.2.2.1 id = 0) (hk : id % 256 < 200) (hx : x ≤ 2) (hx0 : x ≠ 0) (hw : bWf (bNew σ id x n)) (hz : H'.size = H.size + 1) (oq : ∀ q : Nat, q < H.size → H'[q]? = H[q]?)
    (ho : bOb D cA (bF adr id H.size) (bNew σ id x n) id H') (hr : bSr adr σ r cr) (hv : bVr (bF adr id H.size) (bNew σ id x n) v w) : bIn D cA b0 s adr0 σ0 nL (bF adr id H.size) H' locs ls (w :: cr) (nxt, L, v :: r, bNew σ id x n) := by
  obtain ⟨h1, h2, h3, h4, h5, h6, h7⟩ := hI
  have n200 : ¬ (200 : Nat) = id := fun q => by rw [← q] at hk; exact absurd hk (by decide)
  have n201 : ¬ (201 : Nat) = id := fun q => by rw [← q] at hk; exact absurd hk (by decide)
  have ha : ∀ j, (σ.2.2.2.1 j ≠ 0 ∨ j = 200 ∨ j = 201) → bF adr id H.size j = adr j := by
    intro j hj
    have : ¬ j = id := by
      rcases hj with q | q | q
      · exact fun z => q (by rw [z]; exact hid)
      · rw [q]; exact n200
      · rw [q]; exact n201
    simp [bF, this]
  have hA : ∀ j, σ.2.2.2.1 j ≠ 0 → σ.2.2.2.1 j ≤ (bNew σ id x n).2.2.2.1 j ∧ (bNew σ id x n).2.2.2.1 j ≤ 2 := by
    intro j hj
    have e : ¬ j = id := fun z => hj (by rw [z]; exact hid)
    have w2 := (h1.1 j hj).2.1
    rw [bNew_A e]
    exact ⟨Nat.le_refl _, w2⟩
  have hb : b0 ≤ H.size := h1.2.2.2.2.2
  refine ⟨h1.push hid hk hx0 hw hz oq ho, ⟨fun j hj => ?_, fun j => ?_, h2.2.2.tr bLe_new⟩, h3.ext ha hA, ⟨hv, hr.ext ha hA⟩, h5, fun q hq => by rw [oq q (by omega)]; exact h6 q hq, by omega⟩
  · rw [ha j (hj.imp (fun q z => q (by have := h2.2.1 j; rw [show σ.2.2.2.1 j = 0 from z] at this; omega)) (fun q => q))]
    exact h2.1 j hj
  · by_cases e : j = id
    · have h0 := h2.2.1 j
      rw [e] at h0 ⊢
      rw [show (i, L, st, σ).2.2.2.2.2.2.1 id = 0 from hid] at h0
      omega
    · show _ ≤ (bNew σ id x n).2.2.2.1 j
      rw [bNew_A e]
      exact h2.2.1 j
theorem sm_new {ci n id : Nat} (hci : ci < 13) (hT : ∀ k, k < bNf ci → bTyOk ci k = true)
    (hborn : ∀ (H' : Heap) (kC : Class) (o : Nat), s.vm.classes[D.1 ci]? = some kC → H'[o]? = some (blank (D.1 ci) kC) → t_OB o (D.1 ci) (bNf ci) (D.2 ci) H' (fun k => defaultValue (bFty ci k)))
    (row : ∀ (H : Heap) (locs : List Loc) (cells slots : Nat) (ls : Array Slot) (cst : List Value), cells + 1 ≤ R.cells → slots + n ≤ R.slots → (∀ (H' : Heap) (kC : Class), s.vm.classes[D.1 ci]? = some kC → H'[H.size]? = some (blank (D.1 ci) kC) → H'.size = H.size + 1 → (∀ q : Nat, q < H.size → H'[q]? = H[q]?) → W p l e R s m args below meth c H' locs (cells + 1) (slots + n) Qf (F0 m (pcs nxt) ls (.ref H.size :: cst))) → W p l e R s m args below meth c H locs cells slots Qf (F0 m (pcs i) ls cst))
    (hk : id % 256 = ci) (hid : σ.2.2.2.1 id = 0) (hb1 : σ.2.2.2.2.1 + 1 ≤ σ0.2.2.2.2.1 + R.cells) (hb2 : σ.2.2.2.2.2 + n ≤ σ0.2.2.2.2.2 + R.slots) (h : bG p l e R s m args below meth c D cA b0 adr0 σ0 nL pcs Qf (nxt, L, .retAddr id :: st, bNew σ id 1 n)) : bG p l e R s m args below meth c D cA b0 adr0 σ0 nL pcs Qf (i, L, st, σ) := by
  intro adr H locs ls cst hI
  have hl1 : σ0.2.2.2.2.1 ≤ σ.2.2.2.2.1 := hI.2.1.2.2.1
  have hl2 : σ0.2.2.2.2.2 ≤ σ.2.2.2.2.2 := hI.2.1.2.2.2
  refine row H locs _ _ ls cst ?_ ?_ fun H' kC q1 q2 q3 q4 => ?_
  · show σ.2.2.2.2.1 - σ0.2.2.2.2.1 + 1 ≤ R.cells
    omega
  · show σ.2.2.2.2.2 - σ0.2.2.2.2.2 + n ≤ R.slots
    omega
  · have hw : bWf (bNew σ id 1 n) := hI.1.1.new hid (by rw [hk]; omega) (by decide) (by decide) (fun _ => by decide) (fun q => absurd (by rw [hk]; exact hci) q)
    have hB : bOb D cA (bF adr id H.size) (bNew σ id 1 n) id H' := by
      refine ⟨fun _ => ?_, fun q => absurd (by rw [hk]; exact hci) q⟩
      rw [hk]
      have e0 : bF adr id H.size id = H.size := by simp [bF]
      rw [e0]
      refine (hborn H' kC H.size q1 q2).to fun k hkk => ?_
      have hty := hT k hkk
      unfold bFv
      rw [hk, bNew_Ai]
      unfold bTyOk at hty
      split at hty
      · rename_i a1 a2
        rw [a1, a2]
        simp [bNew, bZ, defaultValue]
      · rename_i a1 a2
        rw [a1, a2]
        simp [bNew, bZ, defaultValue]
      · rename_i a1 a2
        rw [a1, a2]
        simp [bNew, bZ, defaultValue]
      · rename_i a1 a2
        rw [a1, a2]
        simp [bNew, bZ, defaultValue]
      · rename_i a1 a2
        rw [a1, a2]
        simp [bNew, bZ, defaultValue]
      · cases hty
    have g := h (bF adr id H.size) H' locs ls _ (bIn_new (nxt := nxt) (v := .retAddr id) (w := .ref H.size) hI hid (by rw [hk]; omega) (by decide) (by decide) hw q3 q4 hB hI.2.2.2.1 ⟨by simp [bF], by rw [bNew_Ai]; decide⟩)
    rw [show (nxt, L, Value.retAddr id :: st, bNew σ id 1 n).2.2.2.2.2.2.2.1 - σ0.2.2.2.2.1 = σ.2.2.2.2.1 - σ0.2.2.2.2.1 + 1 by show σ.2.2.2.2.1 + 1 - _ = _; omega, show (nxt, L, Value.retAddr id :: st, bNew σ id 1 n).2.2.2.2.2.2.2.2 - σ0.2.2.2.2.2 = σ.2.2.2.2.2 - σ0.2.2.2.2.2 + n by show σ.2.2.2.2.2 + n - _ = _; omega] at g
    exact g
theorem sm_newA {t id N : Nat} (hT : t ∈ bTs) (htt : bTy id = t) (hk : id % 256 < 200) (hk13 : ¬ id % 256 < 13) (hN : N = bLen σ id)
    (row : ∀ (H : Heap) (locs : List Loc) (cells slots : Nat) (ls : Array Slot) (cst : List Value), cells + 1 ≤ R.cells → slots + N ≤ R.slots → (∀ H' : Heap, H'[H.size]? = some (arrV (cA t) N (fun _ => defaultValue (bEt t))) → H'.size = H.size + 1 → (∀ q : Nat, q < H.size → H'[q]? = H[q]?) → W p l e R s m args below meth c H' locs (cells + 1) (slots + N) Qf (F0 m (pcs nxt) ls (.ref H.size :: cst))) → W p l e R s m args below meth c H locs cells slots Qf (F0 m (pcs i) ls (.int (Int32.ofNat N) :: cst)))
    (hid : σ.2.2.2.1 id = 0) (hb1 : σ.2.2.2.2.1 + 1 ≤ σ0.2.2.2.2.1 + R.cells) (hb2 : σ.2.2.2.2.2 + N ≤ σ0.2.2.2.2.2 + R.slots) (h : bG p l e R s m args below meth c D cA b0 adr0 σ0 nL pcs Qf (nxt, L, .ref id :: st, bNew σ id 2 N)) : bG p l e R s m args below meth c D cA b0 adr0 σ0 nL pcs Qf (i, L, .int (Int32.ofNat N) :: st, σ) := by
  intro adr H locs ls cst hI
  have hl1 : σ0.2.2.2.2.1 ≤ σ.2.2.2.2.1 := hI.2.1.2.2.1
  have hl2 : σ0.2.2.2.2.2 ≤ σ.2.2.2.2.2 := hI.2.1.2.2.2
  obtain ⟨cr, rfl, hr⟩ := bSr_int hI.2.2.2.1
  refine row H locs _ _ ls cr ?_ ?_ fun H' q2 q3 q4 => ?_
  · show σ.2.2.2.2.1 - σ0.2.2.2.2.1 + 1 ≤ R.cells
    omega
  · show σ.2.2.2.2.2 - σ0.2.2.2.2.2 + N ≤ R.slots
    omega
  · have n200 : ¬ (200 : Nat) = id := fun q => by rw [← q] at hk; exact absurd hk (by decide)
    have hw : bWf (bNew σ id 2 N) := hI.1.1.new hid hk (by decide) (by decide) (fun q => absurd q hk13) (fun _ => ⟨rfl, by rw [htt]; exact hT⟩)
    have hB : bOb D cA (bF adr id H.size) (bNew σ id 2 N) id H' := by
      refine ⟨fun q => absurd q hk13, fun _ => ?_⟩
      have e0 : bF adr id H.size id = H.size := by simp [bF]
      have hlen : bLen (bNew σ id 2 N) id = N := by rw [hN]; exact bLen_same (by simp [bNew, bZ, n200]) id
      rw [e0, q2, htt, hlen]
      congr 2
      funext j
      unfold bAv bEt
      simp only [bTs, List.mem_cons, List.not_mem_nil, or_false] at hT
      rcases hT with rfl | rfl | rfl | rfl | rfl | rfl <;> simp [bNew, bZ, defaultValue, va_rf]
    have g := h (bF adr id H.size) H' locs ls _ (bIn_new (nxt := nxt) (v := .ref id) (w := .ref H.size) hI hid hk (by decide) (by decide) hw q3 q4 hB hr ⟨by simp [bF], Or.inl bNew_Ai⟩)
    rw [show (nxt, L, Value.ref id :: st, bNew σ id 2 N).2.2.2.2.2.2.2.1 - σ0.2.2.2.2.1 = σ.2.2.2.2.1 - σ0.2.2.2.2.1 + 1 by show σ.2.2.2.2.1 + 1 - _ = _; omega, show (nxt, L, Value.ref id :: st, bNew σ id 2 N).2.2.2.2.2.2.2.2 - σ0.2.2.2.2.2 = σ.2.2.2.2.2 - σ0.2.2.2.2.2 + N by show σ.2.2.2.2.2 + N - _ = _; omega] at g
    exact g
theorem bAll_mem {a : Nat} : ∀ {ks : List Nat}, bAll σ a ks → ∀ k ∈ ks, (σ.2.2.1 a k).isSome = true
  | [], _, _, h => absurd h List.not_mem_nil
  | k :: l, h, j, hj => (List.mem_cons.mp hj).elim (fun q => by rw [q]; exact h.1) (bAll_mem h.2 j)
theorem bRep.made {adr : Nat → Nat} {H : Heap} {a : Nat} (h : bRep D cA b0 s adr σ H) (ha : σ.2.2.2.1 a ≠ 0) (hk : a % 256 < 13) (hall : ∀ k, k < bNf (a % 256) → (bFk (a % 256) k).1 = 3 → (σ.2.2.1 a k).isSome = true) : bRep D cA b0 s adr (bA σ a 2) H := by
  obtain ⟨h1, h2, h3, h4, h5, h6⟩ := h
  have A0 : ∀ j, (bA σ a 2).2.2.2.1 j = if j = a then 2 else σ.2.2.2.1 j := fun j => rfl
  have A1 : ∀ j, (bA σ a 2).2.2.2.1 j ≠ 0 → σ.2.2.2.1 j ≠ 0 := fun j hj => by
    rw [A0] at hj
    by_cases e : j = a
    · rw [e]; exact ha
    · rw [if_neg e] at hj; exact hj
  have A2 : ∀ j, σ.2.2.2.1 j = 2 → (bA σ a 2).2.2.2.1 j = 2 := fun j hj => by
    rw [A0]
    split
    · rfl
    · exact hj
  refine ⟨fun j hj => ?_, fun j hj => ?_, fun x y hx hy => h3 x y (A1 x hx) (A1 y hy), h4, h5, h6⟩
  · obtain ⟨w1, w2, w3, w4, w5⟩ := h1 j (A1 j hj)
    refine ⟨w1, ?_, fun q => ⟨A2 _ (w3 q).1, (w3 q).2⟩, fun q k hk2 t3 hs => ?_, fun q k r hr => ⟨A2 _ (w5 q k r hr).1, (w5 q k r hr).2⟩⟩
    · rw [A0]
      split
      · exact Nat.le_refl _
      · exact w2
    · by_cases e : j = a
      · subst e
        exact A2 _ (w4 q k hk2 t3 (Or.inr (hall k hk2 t3)))
      · refine A2 _ (w4 q k hk2 t3 (hs.imp (fun z => ?_) (fun z => z)))
        rw [A0, if_neg e] at z
        exact z
  · obtain ⟨q1, q2, q3⟩ := h2 j (A1 j hj)
    refine ⟨q1, fun z => (q2 z).to fun k hk2 => ?_, fun z => q3 z⟩
    unfold bFv
    by_cases e : j = a
    · subst e
      rw [A0, if_pos rfl]
      split
      · rfl
      · split
        · rename_i t3
          rw [if_pos (Or.inr (hall k hk2 t3)), if_pos (Or.inl rfl)]
        · rfl
    · rw [A0, if_neg e]
      rfl
end

/-! THE TIE: what a store says of the machine's heap. adr: where the object or array of a number lies; b0: the heap's size as the law begins -/
def bEt (t : Nat) : FieldType := if t = 0 then .int else if t = 1 then .boolean else if t = 2 then .long else .object (bCn (t - 10))
def bTs : List Nat := [0, 1, 2, 10, 14, 18]
def bFv (adr : Nat → Nat) (σ : bSt) (id k : Nat) : Value :=
  if (bFk (id % 256) k).1 = 2 then .long (σ.2.1 id k)
  else if (bFk (id % 256) k).1 = 3 then (if σ.2.2.2.1 id = 2 ∨ (σ.2.2.1 id k).isSome = true then .ref (adr (256 * ((bFk (id % 256) k).2.2.1 * (id / 256) + (bFk (id % 256) k).2.2.2) + (bFk (id % 256) k).2.1)) else .null)
  else .int (σ.1 id k)
def bAv (adr : Nat → Nat) (σ : bSt) (id t j : Nat) : Value := if t = 2 then .long (σ.2.1 id j) else if 10 ≤ t then va_rf ((σ.2.2.1 id j).map adr) else .int (σ.1 id j)
def bOb (D : va_G) (cA : Nat → ClassId) (adr : Nat → Nat) (σ : bSt) (id : Nat) (H : Heap) : Prop :=
  (id % 256 < 13 → t_OB (adr id) (D.1 (id % 256)) (bNf (id % 256)) (D.2 (id % 256)) H (bFv adr σ id)) ∧
  (¬ id % 256 < 13 → H[adr id]? = some (arrV (cA (bTy id)) (bLen σ id) (bAv adr σ id (bTy id))))
/-- references of made things lead to made things -/
def bWf (σ : bSt) : Prop := ∀ id, σ.2.2.2.1 id ≠ 0 → id % 256 < 200 ∧ σ.2.2.2.1 id ≤ 2 ∧ (¬ id % 256 < 13 → σ.2.2.2.1 id = 2 ∧ bTy id ∈ bTs) ∧
  (id % 256 < 13 → ∀ k, k < bNf (id % 256) → (bFk (id % 256) k).1 = 3 → (σ.2.2.2.1 id = 2 ∨ (σ.2.2.1 id k).isSome = true) → σ.2.2.2.1 (256 * ((bFk (id % 256) k).2.2.1 * (id / 256) + (bFk (id % 256) k).2.2.2) + (bFk (id % 256) k).2.1) = 2) ∧
  (¬ id % 256 < 13 → ∀ j z, σ.2.2.1 id j = some z → σ.2.2.2.1 z = 2 ∧ z % 256 + 10 = bTy id)
def bScl (s : State) (a n : Nat) (f : Nat → Int32) (H : Heap) : Prop := ∃ cell : Cell, H[a]? = some cell ∧ s.isArrayOf cell .int ∧ cell.vm ≠ .unknown ∧ cell.slots.size = n ∧ n < 2 ^ 31 ∧ ∀ j : Nat, j < n → cell.slots[j]? = some (.int (f j))
def bRep (D : va_G) (cA : Nat → ClassId) (b0 : Nat) (s : State) (adr : Nat → Nat) (σ : bSt) (H : Heap) : Prop :=
  bWf σ ∧ (∀ id, σ.2.2.2.1 id ≠ 0 → b0 ≤ adr id ∧ bOb D cA adr σ id H) ∧ (∀ i j, σ.2.2.2.1 i ≠ 0 → σ.2.2.2.1 j ≠ 0 → adr i = adr j → i = j) ∧
  (adr 200 < b0 ∧ bScl s (adr 200) (bLen σ 200) (σ.1 200) H) ∧ (adr 201 < b0 ∧ bScl s (adr 201) 6 (σ.1 201) H) ∧ b0 ≤ H.size
def bVr (adr : Nat → Nat) (σ : bSt) : Value → Value → Prop
  | .int x, v => v = .int x
  | .long x, v => v = .long x
  | .null, v => v = .null
  | .ref id, v => v = .ref (adr id) ∧ (σ.2.2.2.1 id = 2 ∨ id = 200 ∨ id = 201)
  | .retAddr id, v => v = .ref (adr id) ∧ σ.2.2.2.1 id ≠ 0
  | .float _, v => ∃ a, v = .ref a
  | _, _ => False
def bSr (adr : Nat → Nat) (σ : bSt) : List Value → List Value → Prop
  | [], [] => True
  | a :: l, v :: r => bVr adr σ a v ∧ bSr adr σ l r
  | _, _ => False
def bIsF : Value → Bool
  | .float _ => true
  | _ => false
def bLr (adr : Nat → Nat) (σ : bSt) (L : List Value) (ls : Array Slot) (nL : Nat) : Prop :=
  ls.size = nL ∧ lv_wf ls ∧ ∀ k : Nat, bIsF (bnth L k (.float 0)) = true ∨ ∃ v, ls[k]? = some (.val v) ∧ bVr adr σ (bnth L k (.float 0)) v
def bExt (adr0 : Nat → Nat) (σ0 : bSt) (adr : Nat → Nat) (σ : bSt) : Prop :=
  (∀ id, (σ0.2.2.2.1 id ≠ 0 ∨ id = 200 ∨ id = 201) → adr id = adr0 id) ∧ (∀ id, σ0.2.2.2.1 id ≤ σ.2.2.2.1 id) ∧ bLe σ0 σ
def bKn (D : va_G) (cA : Nat → ClassId) (U : State) : Prop := (∀ ci, ci < 13 → u_Kn U (bCn ci) (bFn ci) (bNf ci) (D.1 ci) (D.2 ci)) ∧ ∀ t ∈ bTs, ArrOfT U (cA t) (bEt t) ∧ va_RA U (cA t) (bEt t)
/-- of one thing alone: its place among the kit's worlds -/
theorem bLen_same {σ σ' : bSt} (h : σ'.2.1 200 0 = σ.2.1 200 0) (id : Nat) : bLen σ' id = bLen σ id := by unfold bLen bScr; rw [h]
theorem bWf.same {σ σ' : bSt} (h : bWf σ) (hA : σ'.2.2.2.1 = σ.2.2.2.1) (hR : σ'.2.2.1 = σ.2.2.1) : bWf σ' := by
  intro id
  rw [hA, hR]
  exact h id
theorem bFv_same {adr : Nat → Nat} {σ σ' : bSt} {id : Nat} (hA : σ'.2.2.2.1 = σ.2.2.2.1) (h1 : σ'.1 id = σ.1 id) (h2 : σ'.2.1 id = σ.2.1 id) (h3 : σ'.2.2.1 id = σ.2.2.1 id) : bFv adr σ' id = bFv adr σ id := by
  funext k
  unfold bFv
  rw [hA, h1, h2, h3]
theorem bAv_same {adr : Nat → Nat} {σ σ' : bSt} {id t : Nat} (h1 : σ'.1 id = σ.1 id) (h2 : σ'.2.1 id = σ.2.1 id) (h3 : σ'.2.2.1 id = σ.2.2.1 id) : bAv adr σ' id t = bAv adr σ id t := by
  funext k
  unfold bAv
  rw [h1, h2, h3]
theorem bRep.put {D : va_G} {cA : Nat → ClassId} {b0 : Nat} {s : State} {adr : Nat → Nat} {σ σ' : bSt} {H H' : Heap} (h : bRep D cA b0 s adr σ H) {id : Nat} (hid : σ.2.2.2.1 id ≠ 0) (hA : σ'.2.2.2.1 = σ.2.2.2.1) (hw : bWf σ') (hz : H'.size = H.size) (oq : ∀ q : Nat, q ≠ adr id → H'[q]? = H[q]?)
    (ho : bOb D cA adr σ' id H') (hn : ∀ j, j ≠ id → σ'.1 j = σ.1 j ∧ σ'.2.1 j = σ.2.1 j ∧ σ'.2.2.1 j = σ.2.2.1 j) : bRep D cA b0 s adr σ' H' := by
  obtain ⟨h1, h2, h3, ⟨h4, h5⟩, ⟨h6, h7⟩, h8⟩ := h
  have hk := (h1 id hid).1
  have n200 : (200 : Nat) ≠ id := fun e => by subst e; simp at hk
  have n201 : (201 : Nat) ≠ id := fun e => by subst e; simp at hk
  have hb := (h2 id hid).1
  have hl : ∀ j, bLen σ' j = bLen σ j := fun j => bLen_same (by rw [(hn 200 n200).2.1]) j
  refine ⟨hw, fun j hj => ?_, fun i j hi hj => ?_, ⟨h4, ?_⟩, ⟨h6, ?_⟩, by rw [hz]; exact h8⟩
  · rw [hA] at hj
    by_cases e : j = id
    · subst e
      exact ⟨hb, ho⟩
    · obtain ⟨q1, q2, q3⟩ := h2 j hj
      have hne : adr j ≠ adr id := fun z => e (h3 j id hj hid z)
      obtain ⟨n1, n2, n3⟩ := hn j e
      refine ⟨q1, fun z => ?_, fun z => ?_⟩
      · rw [bFv_same hA n1 n2 n3]
        exact (q2 z).kept (oq _ hne)
      · rw [hl, bAv_same n1 n2 n3, oq _ hne]
        exact q3 z
  · rw [hA] at hi hj
    exact h3 i j hi hj
  · rw [hl, (hn 200 n200).1]
    obtain ⟨cell, k1, k⟩ := h5
    exact ⟨cell, by rw [oq _ (by omega)]; exact k1, k⟩
  · rw [(hn 201 n201).1]
    obtain ⟨cell, k1, k⟩ := h7
    exact ⟨cell, by rw [oq _ (by omega)]; exact k1, k⟩
theorem bOb.lt {D : va_G} {cA : Nat → ClassId} {adr : Nat → Nat} {σ : bSt} {id : Nat} {H : Heap} (h : bOb D cA adr σ id H) : adr id < H.size := by
  by_cases z : id % 256 < 13
  · obtain ⟨cell, k, -⟩ := h.1 z
    exact (Array.getElem?_eq_some_iff.mp k).1
  · exact (Array.getElem?_eq_some_iff.mp (h.2 z)).1
theorem bRep.push {D : va_G} {cA : Nat → ClassId} {b0 : Nat} {s : State} {adr : Nat → Nat} {σ : bSt} {H H' : Heap} (h : bRep D cA b0 s adr σ H) {id x n : Nat} (hid : σ.2.2.2.1 id = 0) (hk : id % 256 < 200) (hx : x ≠ 0) (hw : bWf (bNew σ id x n)) (hz : H'.size = H.size + 1) (oq : ∀ q : Nat, q < H.size → H'[q]? = H[q]?)
    (ho : bOb D cA (bF adr id H.size) (bNew σ id x n) id H') : bRep D cA b0 s (bF adr id H.size) (bNew σ id x n) H' := by
  obtain ⟨h1, h2, h3, ⟨h4, h5⟩, ⟨h6, h7⟩, h8⟩ := h
  have n200 : ¬ (200 : Nat) = id := fun e => by subst e; simp at hk
  have n201 : ¬ (201 : Nat) = id := fun e => by subst e; simp at hk
  have hlt : ∀ j, σ.2.2.2.1 j ≠ 0 → adr j < H.size := fun j hj => (h2 j hj).2.lt
  have aj : ∀ j, j ≠ id → bF adr id H.size j = adr j := fun j e => by simp [bF, e]
  have A2 : ∀ j, j ≠ id → (bNew σ id x n).2.2.2.1 j = σ.2.2.2.1 j := fun j e => by simp [bNew, bF, e]
  have hl : ∀ j, bLen (bNew σ id x n) j = bLen σ j := fun j => bLen_same (by simp [bNew, bZ, n200]) j
  refine ⟨hw, fun j hj => ?_, fun i j hi hj => ?_, ⟨by rw [aj _ n200]; exact h4, ?_⟩, ⟨by rw [aj _ n201]; exact h6, ?_⟩, by omega⟩
  · by_cases e : j = id
    · subst e
      exact ⟨by simp [bF]; exact h8, ho⟩
    · rw [A2 j e] at hj
      obtain ⟨q1, q2, q3⟩ := h2 j hj
      rw [aj j e]
      obtain ⟨-, -, w3, w4, w5⟩ := h1 j hj
      refine ⟨q1, fun z => ?_, fun z => ?_⟩
      · rw [aj j e]
        refine t_OB.to ((q2 z).kept (oq _ (hlt j hj))) fun k hkk => ?_
        unfold bFv
        rw [A2 j e]
        simp only [bNew, bZ, e, if_false]
        split
        · rfl
        · split
          · rename_i t3
            split
            · rename_i c
              have hc := w4 z k hkk t3 c
              rw [aj _ (fun q => by rw [q, hid] at hc; cases hc)]
            · rfl
          · rfl
      · rw [aj j e, oq _ (hlt j hj), hl, q3 z]
        congr 2
        funext k
        unfold bAv
        simp only [bNew, bZ, e, if_false]
        split
        · rfl
        · split
          · cases hr : σ.2.2.1 j k with
            | none => rfl
            | some r =>
              have hc := (w5 z k r hr).1
              simp only [Option.map_some]
              rw [aj r (fun q => by rw [q, hid] at hc; cases hc)]
          · rfl
  · by_cases e1 : i = id <;> by_cases e2 : j = id
    · intro _
      rw [e1, e2]
    · rw [A2 j e2] at hj
      rw [aj j e2, e1]
      intro z
      have := hlt j hj
      simp [bF] at z
      omega
    · rw [A2 i e1] at hi
      rw [aj i e1, e2]
      intro z
      have := hlt i hi
      simp [bF] at z
      omega
    · rw [A2 i e1] at hi
      rw [A2 j e2] at hj
      rw [aj i e1, aj j e2]
      exact h3 i j hi hj
  · rw [aj _ n200, hl]
    obtain ⟨cell, k1, k⟩ := h5
    have hlt2 := (Array.getElem?_eq_some_iff.mp k1).1
    refine ⟨cell, by rw [oq _ hlt2]; exact k1, ?_⟩
    simp only [bNew, bZ, n200, if_false]
    exact k
  · rw [aj _ n201]
    obtain ⟨cell, k1, k⟩ := h7
    have hlt2 := (Array.getElem?_eq_some_iff.mp k1).1
    refine ⟨cell, by rw [oq _ hlt2]; exact k1, ?_⟩
    simp only [bNew, bZ, n201, if_false]
    exact k

/-! ENDS: returns, throws, handlers -/
def bIxE (k : Nat) : Nat := if k = 0 then 13 else if k = 1 then 15 else 25
def bHq (M : bM) (q : Nat × Nat × Nat × Nat) : Nat × Nat × Nat × Nat := ((bRow M q.1).1, (bRow M q.2.1).1, (bRow M q.2.2.1).1, bIxE q.2.2.2)
def bHokM (M : bM) : Bool := M.2.1.all fun q => Nat.blt q.2.2.2 3 && (List.range (16 * M.1.length)).all fun i => Nat.beq (bRow M i).2.2.1 0 || ((Nat.ble q.1 i && Nat.blt i q.2.1) == (Nat.ble (bRow M q.1).1 (bRow M i).1 && Nat.blt (bRow M i).1 (bRow M q.2.1).1))
theorem bnth_out {α : Type} {d : α} : ∀ {l : List α} {k : Nat}, l.length ≤ k → bnth l k d = d
  | [], _, _ => rfl
  | a :: l, 0, h => by simp at h
  | a :: l, k + 1, h => bnth_out (l := l) (k := k) (by simpa using h)
theorem bHokM_at {M : bM} (h : bHokM M = true) {i : Nat} (hi : (bRow M i).2.2.1 ≠ 0) : ∀ q ∈ M.2.1, q.2.2.2 < 3 ∧ (Nat.ble q.1 i && Nat.blt i q.2.1) = (Nat.ble (bRow M q.1).1 (bRow M i).1 && Nat.blt (bRow M i).1 (bRow M q.2.1).1) := by
  intro q hq
  have h1 := List.all_eq_true.mp h q hq
  rw [Bool.and_eq_true] at h1
  refine ⟨Nat.le_of_ble_eq_true h1.1, ?_⟩
  have hlt : i < 16 * M.1.length := by
    refine Nat.not_le.mp fun hge => hi ?_
    unfold bRow
    rw [bnth_out (l := M.1) (k := i / 16) (by omega)]
  have h2 := List.all_eq_true.mp h1.2 i (List.mem_range.mpr hlt)
  rcases Bool.or_eq_true_iff.mp h2 with h3 | h3
  · exact absurd (Nat.eq_of_beq_eq_true h3) hi
  · exact eq_of_beq h3
theorem bHnd_some {i k h : Nat} : ∀ {X : List (Nat × Nat × Nat × Nat)}, bHnd X i k = some h → ∃ pre x suf, X = pre ++ x :: suf ∧ (∀ q ∈ pre, (Nat.ble q.1 i && Nat.blt i q.2.1) = false ∨ q.2.2.2 ≠ k) ∧ (Nat.ble x.1 i && Nat.blt i x.2.1) = true ∧ x.2.2.2 = k ∧ x.2.2.1 = h
  | [], hh => by cases hh
  | q :: l, hh => by
    have h2 : (bif Nat.ble q.1 i && Nat.blt i q.2.1 && Nat.beq q.2.2.2 k then some q.2.2.1 else bHnd l i k) = some h := hh
    cases hc : (Nat.ble q.1 i && Nat.blt i q.2.1 && Nat.beq q.2.2.2 k) with
    | true =>
      rw [hc] at h2
      rw [Bool.and_eq_true] at hc
      exact ⟨[], q, l, rfl, fun z hz => absurd hz List.not_mem_nil, hc.1, Nat.eq_of_beq_eq_true hc.2, Option.some.inj h2⟩
    | false =>
      rw [hc] at h2
      obtain ⟨pre, x, suf, e1, e2, e3⟩ := bHnd_some (X := l) h2
      refine ⟨q :: pre, x, suf, by rw [e1]; rfl, fun z hz => ?_, e3⟩
      rcases List.mem_cons.mp hz with rfl | hz
      · rcases Bool.and_eq_false_iff.mp hc with g | g
        · exact Or.inl g
        · exact Or.inr fun e => by rw [e] at g; simp at g
      · exact e2 z hz
theorem bHnd_none {i k : Nat} : ∀ {X : List (Nat × Nat × Nat × Nat)}, bHnd X i k = none → ∀ q ∈ X, (Nat.ble q.1 i && Nat.blt i q.2.1) = false ∨ q.2.2.2 ≠ k
  | [], _, q, hq => absurd hq List.not_mem_nil
  | q :: l, hh, z, hz => by
    have h2 : (bif Nat.ble q.1 i && Nat.blt i q.2.1 && Nat.beq q.2.2.2 k then some q.2.2.1 else bHnd l i k) = none := hh
    cases hc : (Nat.ble q.1 i && Nat.blt i q.2.1 && Nat.beq q.2.2.2 k) with
    | true =>
      rw [hc] at h2
      cases h2
    | false =>
      rw [hc] at h2
      rcases List.mem_cons.mp hz with rfl | hz
      · rcases Bool.and_eq_false_iff.mp hc with g | g
        · exact Or.inl g
        · exact Or.inr fun e => by rw [e] at g; simp at g
      · exact bHnd_none (X := l) h2 z hz
theorem bRep.grow {D : va_G} {cA : Nat → ClassId} {b0 : Nat} {u : State} {adr : Nat → Nat} {σ : bSt} {H H' : Heap} {c d : Nat} (h : bRep D cA b0 u adr σ H) (hz : H.size ≤ H'.size) (oq : ∀ q : Nat, q < H.size → H'[q]? = H[q]?) : bRep D cA b0 u adr (bC σ c d) H' := by
  obtain ⟨h1, h2, h3, ⟨h4, h5⟩, ⟨h6, h7⟩, h8⟩ := h
  refine ⟨h1.same rfl rfl, fun j hj => ?_, h3, ⟨h4, ?_⟩, ⟨h6, ?_⟩, Nat.le_trans h8 hz⟩
  · obtain ⟨q1, q2⟩ := h2 j hj
    have hlt := q2.lt
    obtain ⟨q2, q3⟩ := q2
    exact ⟨q1, fun z => (q2 z).kept (oq _ hlt), fun z => (oq _ hlt).trans (q3 z)⟩
  · obtain ⟨cell, k1, k⟩ := h5
    exact ⟨cell, by rw [oq _ (Array.getElem?_eq_some_iff.mp k1).1]; exact k1, k⟩
  · obtain ⟨cell, k1, k⟩ := h7
    exact ⟨cell, by rw [oq _ (Array.getElem?_eq_some_iff.mp k1).1]; exact k1, k⟩
/-- the room of a method at a level -/
def bRo (R : Room) (d : Nat) (σ0 σE : bSt) : Prop := d + 1 ≤ R.frames ∧ 43 * (d + 1) ≤ R.locals ∧ σE.2.2.2.2.1 - σ0.2.2.2.2.1 ≤ R.cells ∧ σE.2.2.2.2.2 - σ0.2.2.2.2.2 ≤ R.slots
def bSup : List String := ["java/lang/RuntimeException", "java/lang/Exception"]
section
variable {p : Program} {l : Launch} {e : Env} {R : Room} {s : State} {m : MethodId} {args : Array Value} {below : List Frame} {meth : Method} {c : Code} {D : va_G} {cA : Nat → ClassId} {b0 : Nat} {adr0 : Nat → Nat} {σ0 : bSt} {nL : Nat} {pcs : Nat → Nat} {Qf : State → Prop}
variable {i nxt tgt : Nat} {L L' st st' : List Value} {σ : bSt} {cc : ByteArray} {oE : bOut} {σE : bSt}
/-- what a run that ends in oE, σE owes -/
abbrev bQf (below : List Frame) (args : Array Value) (s : State) (D : va_G) (cA : Nat → ClassId) (b0 : Nat) (adr0 : Nat → Nat) (σ0 : bSt) (oE : bOut) (σE : bSt) : State → Prop := vx_MQ below (bQc D cA b0 adr0 σ0 oE σE) (bXC D cA b0 adr0 σ0 oE σE) args s (σE.2.2.2.2.1 - σ0.2.2.2.2.1) (σE.2.2.2.2.2 - σ0.2.2.2.2.2) (fun q => b0 ≤ q)
theorem bIn.fin {adr : Nat → Nat} {H : Heap} {locs : List Loc} {ls : Array Slot} {cst : List Value} (hI : bIn D cA b0 s adr0 σ0 nL adr H locs ls cst (i, L, st, σ)) {t : State} (ht : t.heap = H) (hvm : s.vm.Alike t.vm) : bFin D cA b0 adr0 σ0 σ adr s t := by
  obtain ⟨h1, h2, h3, h4, h5, h6, h7⟩ := hI
  refine ⟨h2, ?_, ?_, ?_⟩
  · rw [ht]
    exact h1.moved hvm
  · rw [ht]
    exact h6
  · rw [ht]
    exact h7
theorem sm_exc {n k : Nat} {M : bM} (hown : s.vm.findClass (bYt n).1.cls = some m.cls) (hE : bEnv D cA b0 adr0 σ0 s) (hpcs : ∀ j, pcs j = (bRow M j).1) (htab : c.exceptionTable.toList = tableOf (M.2.1.map (bHq M))) (hH : bHokM M = true) (hcl : M.2.1 = [] ∨ (bYt n).1.cls = "BuildmillLaw") (hlocks : meth.locks = false) (hwk : ∀ k, k < 3 → Cond.classLink "BuildmillLaw" (bIxE k) (bExn k) ∈ lw_tbl ∧ Cond.castable (bExn k) (bExn k) ∈ lw_tbl)
    (hQf : Qf = bQf below args s D cA b0 adr0 σ0 oE σE) (hlen : (bRow M i).2.2.1 ≠ 0) (hk3 : k < 3) {adr : Nat → Nat} {H : Heap} {locs : List Loc} {ls : Array Slot} {cr : List Value} {q : Addr} {ce : Cell}
    (h1 : bRep D cA b0 s adr σ H) (h2 : bExt adr0 σ0 adr σ) (h3 : bLr adr σ L ls nL) (h5 : ∀ z ∈ locs, b0 ≤ z.base) (h6 : ∀ q : Nat, q < b0 → H[q]? = s.heap[q]?) (h7 : s.heap.size ≤ H.size)
    (hce : H[q]? = some ce) (hcv : ce.vm = .none) (hcc : s.vm.findClass (bExn k) = some ce.cls)
    (hret : match bHnd M.2.1 i k with
      | some h => bG p l e R s m args below meth c D cA b0 adr0 σ0 nL pcs Qf (h, L, [.float 0], σ)
      | none => oE = .inr k ∧ σE = σ) : vx_W p l e R s m args below meth c H locs (σ.2.2.2.2.1 - σ0.2.2.2.2.1) (σ.2.2.2.2.2 - σ0.2.2.2.2.2) Qf (F0 m (pcs i) ls cr) q := by
  have hwd := hE.2.2.2
  have hcov : ∀ z ∈ M.2.1, covers ⟨(bHq M z).1, (bHq M z).2.1, (bHq M z).2.2.1, (bHq M z).2.2.2⟩ (pcs i) = (Nat.ble z.1 i && Nat.blt i z.2.1) := by
    intro z hz
    rw [(bHokM_at hH hlen z hz).2, hpcs]
    show (decide ((bRow M z.1).1 ≤ (bRow M i).1) && decide ((bRow M i).1 < (bRow M z.2.1).1)) = _
    rw [Bool.eq_iff_iff]
    simp only [Bool.and_eq_true, decide_eq_true_eq, Nat.ble_eq, Nat.blt_eq]
  have hpass : ∀ X : List (Nat × Nat × Nat × Nat), (∀ z ∈ X, z ∈ M.2.1) → (∀ z ∈ X, (Nat.ble z.1 i && Nat.blt i z.2.1) = false ∨ z.2.2.2 ≠ k) → ∀ z ∈ tableOf (X.map (bHq M)), covers z (pcs i) = false ∨ (z.catchType ≠ 0 ∧ ∃ nm : String, (Cond.classLink (bYt n).1.cls z.catchType nm).before args s = true ∧ va_Nc (bExn k) nm s) := by
    intro X hX hno z hz
    unfold tableOf at hz
    rw [List.map_map] at hz
    obtain ⟨w, hw, rfl⟩ := List.mem_map.mp hz
    rcases hno w hw with g | g
    · exact Or.inl ((hcov w (hX w hw)).trans g)
    · have hw3 := (bHokM_at hH hlen w (hX w hw)).1
      refine Or.inr ⟨?_, bExn w.2.2.2, ?_, hwd.1 _ _ hk3 hw3 (Ne.symm g)⟩
      · show bIxE w.2.2.2 ≠ 0
        unfold bIxE
        split
        · decide
        · split <;> decide
      · rcases hcl with hc | hc
        · rw [hc] at hX
          exact absurd (hX w hw) List.not_mem_nil
        · rw [hc]
          exact hwd.at (hwk _ hw3).1 rfl
  subst hQf
  cases hb : bHnd M.2.1 i k with
  | some h =>
    rw [hb] at hret
    obtain ⟨pre, x, suf, e1, e2, e3, e4, e5⟩ := bHnd_some hb
    have hcB : (bYt n).1.cls = "BuildmillLaw" := hcl.resolve_left (fun z => by rw [z] at e1; cases pre <;> cases e1)
    have hxm : x ∈ M.2.1 := by rw [e1]; simp
    have g := hret adr H locs ls [.ref q] ⟨h1, h2, h3, ⟨⟨q, rfl⟩, trivial⟩, h5, h6, h7⟩
    rw [hpcs h, ← e5] at g
    refine vx_catch (name := bExn k) (E := bExn k) hown (tableOf (pre.map (bHq M))) ⟨(bHq M x).1, (bHq M x).2.1, (bHq M x).2.2.1, (bHq M x).2.2.2⟩ (tableOf (suf.map (bHq M))) ?_ (hpass pre (fun z hz => by rw [e1]; exact List.mem_append_left _ hz) e2) ((hcov x hxm).trans e3) ?_ ?_ (hwd.at (hwk k hk3).2 rfl) hce hcv hcc g
    · rw [htab, e1]
      simp [tableOf]
    · show bIxE x.2.2.2 ≠ 0
      unfold bIxE
      split
      · decide
      · split <;> decide
    · show (Cond.classLink (bYt n).1.cls (bIxE x.2.2.2) (bExn k)).before args s = true
      rw [hcB, e4]
      exact hwd.at (hwk k hk3).1 rfl
  | none =>
    rw [hb] at hret
    obtain ⟨r1, rfl⟩ := hret
    refine vx_outP (E := bExn k) hown hlocks ?_ hce hcv hcc (fun t ht hvm => ⟨k, adr, r1, hk3, rfl, h2, by rw [ht]; exact h1.moved hvm, by rw [ht]; exact h6, by rw [ht]; exact h7⟩) h5 (Nat.le_refl _) (Nat.le_refl _)
    rw [htab]
    exact hpass M.2.1 (fun z hz => hz) (bHnd_none hb)
theorem sm_throw {n pc ik ic E : Nat} (hx : p.tables.exec = Jvm.exec) (hb : c.code = (bYt n).2.1) (hml : c.maxLocals = nL) (hl : l.stackTraces = false) (hown : s.vm.findClass (bYt n).1.cls = some m.cls) (hE : bEnv D cA b0 adr0 σ0 s) (hpi : pcs i = pc) (hE3 : E < 3)
    (hfit : Bundle.fit (bExn E) = true ∧ ∀ n ∈ bSup, Bundle.fit n = true) (hwk : Cond.classLink (bYt n).1.cls ik (bExn E) ∈ lw_tbl) (hwi : Cond.initialized (bExn E) ∈ lw_tbl) (hat : ∀ w ∈ vx_at0 (bYt n).1.cls ic (bExn E) bSup, w ∈ lw_tbl ∧ bMv w = true ∧ vx_ot w = true)
    (d0 : decode (bYt n).2.1 pc = .ok (.new ik, 3)) (d3 : decode (bYt n).2.1 (pc + 3) = .ok (.dup, 1)) (d4 : decode (bYt n).2.1 (pc + 4) = .ok (.invokespecial ic, 3)) (d7 : decode (bYt n).2.1 (pc + 7) = .ok (.athrow, 1))
    (htab : c.exceptionTable.toList = []) (hlocks : meth.locks = false) (hfr : 7 ≤ R.frames) (hlo : 301 ≤ R.locals) (hR1 : σE.2.2.2.2.1 - σ0.2.2.2.2.1 ≤ R.cells) (hR2 : σE.2.2.2.2.2 - σ0.2.2.2.2.2 ≤ R.slots)
    (hQf : Qf = bQf below args s D cA b0 adr0 σ0 oE σE) (hc : bCat st ≤ 8) (hq1 : oE = .inr E) (hq2 : σE = bC σ 1 6) : bG p l e R s m args below meth c D cA b0 adr0 σ0 nL pcs Qf (i, L, st, σ) := by
  have hwd := hE.2.2.2
  subst hQf
  intro adr H locs ls cst hI
  have hI' := hI
  obtain ⟨h1, h2, h3, h4, h5, h6, h7⟩ := hI
  have hsum := bCat_sum h4
  have a1 : σ0.2.2.2.2.1 ≤ σ.2.2.2.2.1 := h2.2.2.1
  have a2 : σ0.2.2.2.2.2 ≤ σ.2.2.2.2.2 := h2.2.2.2
  have c1 : σE.2.2.2.2.1 = σ.2.2.2.2.1 + 1 := by rw [hq2]; rfl
  have c2 : σE.2.2.2.2.2 = σ.2.2.2.2.2 + 6 := by rw [hq2]; rfl
  rw [hpi]
  have hcs : (cst.map fun v => v.category).sum ≤ 8 := Nat.le_trans hsum hc
  refine vx_throw0 (A := fun q => b0 ≤ q) (names := bSup) (ic := ic) hx hb hl hown hfit.1 hfit.2 (hwd.at hwk rfl) (hwd.at hwi rfl) (fun w hw => hwd.at (hat w hw).1 (hat w hw).2.1) (fun w hw => ?_) hE.2.2.1.1 hE.2.2.1.2.1 ⟨h7, fun q hq hn => h6 q (Nat.not_le.mp hn), h5⟩ (by rw [hml]; exact h3.1) d0 d3 d4 d7 (by rw [htab]; exact fun x hx => absurd hx List.not_mem_nil)
    (by show 2 + 3 < R.frames; omega) (by show _ + (13 * (2 + 1) + 42) ≤ R.locals; omega) (by show σ.2.2.2.2.1 - σ0.2.2.2.2.1 + 1 ≤ _; omega) (by show σ.2.2.2.2.2 - σ0.2.2.2.2.2 + 6 ≤ _; omega) hlocks (fun t hvm hsz hqq => ?_) h5 (by show σ.2.2.2.2.1 - σ0.2.2.2.2.1 + 1 ≤ _; omega) (by show σ.2.2.2.2.2 - σ0.2.2.2.2.2 + 6 ≤ _; omega)
  · rcases List.mem_cons.mp hw with rfl | hw
    · rfl
    · rcases List.mem_cons.mp hw with rfl | hw
      · rfl
      · exact (hat w hw).2.2
  · refine ⟨E, adr, hq1, hE3, rfl, ?_, ?_, fun q hq => ?_, Nat.le_trans h7 hsz⟩
    · rw [hq2]
      exact ⟨h2.1, h2.2.1, h2.2.2.tr ⟨Nat.le_add_right _ _, Nat.le_add_right _ _⟩⟩
    · rw [hq2]
      exact (h1.moved hvm).grow hsz hqq
    · rw [hqq q (Nat.lt_of_lt_of_le (Nat.lt_of_lt_of_le hq h1.2.2.2.2.2) (Nat.le_refl _))]
      exact h6 q hq
set_option maxHeartbeats 1000000 in
theorem bs_end {n : Nat} {M : bM} {ev : bE} {lvl : Nat} {X : List (Nat × Nat × Nat × Nat)} {K : bPt → Prop} {C : bCall} (hx : p.tables.exec = Jvm.exec) (hb : c.code = (bYt n).2.1) (hret : meth.sig.returnType = (bYt n).2.2) (hlocks : meth.locks = false) (hE : bEnv D cA b0 adr0 σ0 s) (hpcs : ∀ j, pcs j = (bRow M j).1)
    (hQf : Qf = bQf below args s D cA b0 adr0 σ0 oE σE) (he : bRow M i = ev) (hok : bRok n M ev) (hp : ev.2.1 = .return_ ∨ ev.2.1 = .ireturn ∨ ev.2.1 = .lreturn ∨ ev.2.1 = .areturn) (h : bW lvl X i ev K C (bEx oE σE) L st σ) : bG p l e R s m args below meth c D cA b0 adr0 σ0 nL pcs Qf (i, L, st, σ) := by
  obtain ⟨pc, ins, len, nxt, tgt, aux, sw⟩ := ev
  have hpi : pcs i = pc := by rw [hpcs, he]
  have hd0 : decode (bYt n).2.1 pc = .ok (ins, len) := hok.1
  subst hQf
  have rI : ∀ r : Option FieldType, bRtc r = 1 → r = some .int := fun r hr => by
    unfold bRtc at hr
    split at hr <;> first | rfl | cases hr
  have rZ : ∀ r : Option FieldType, bRtc r = 2 → r = some .boolean := fun r hr => by
    unfold bRtc at hr
    split at hr <;> first | rfl | cases hr
  cases ins
  case return_ =>
    have hs : (Nat.beq len 1 && decide ((bYt n).2.2 = none) && (match (generalizing := false) aux with
      | [0] => decide ((bYt n).1.name ≠ "<init>")
      | 5 :: kd :: ks => Nat.beq kd (bCi n) && decide ((bYt n).1.name = "<init>") && decide (ks = (List.range (bNf (bCi n))).filter (fun k => Nat.beq (bFk (bCi n) k).1 3)) && decide ((bYt n).1.cls = bCn (bCi n)) && Nat.blt (bCi n) 13
      | _ => false)) = true := hok.2.2
    rw [Bool.and_eq_true, Bool.and_eq_true, decide_eq_true_eq] at hs
    obtain ⟨⟨f1, f2⟩, f3⟩ := hs
    obtain rfl := Nat.eq_of_beq_eq_true f1
    have h2 : bEnd aux (bEx oE σE) L st σ := h
    unfold bEnd at h2
    split at h2
    · obtain ⟨rfl, rfl⟩ := h2
      intro adr H locs ls cst hI
      obtain rfl := bSr_nil hI.2.2.2.1
      rw [hpi]
      exact vx_ret (W.vret hx hb (hret.trans f2) (fun t ht hW => ⟨none, none, adr, rfl, rfl, trivial, hI.fin ht hW.alike⟩) hI.2.2.2.2.1 hd0 hlocks)
    · cases f3
    · cases f3
    · cases f3
    · cases f3
    · cases f3
    · rename_i kd ks
      split at h2
      · rename_i a r
        obtain ⟨g1, g2, rfl, rfl⟩ := h2
        simp only [Bool.and_eq_true, Nat.beq_eq, decide_eq_true_eq, Nat.blt_eq] at f3
        obtain ⟨⟨⟨⟨f3, -⟩, f4⟩, -⟩, f5⟩ := f3
        intro adr H locs ls cst hI
        obtain rfl := bSr_nil hI.2.2.2.1
        rw [hpi]
        obtain ⟨h1, h2, h3, h4, h5, h6, h7⟩ := hI
        have ha : σ.2.2.2.1 a ≠ 0 := by
          obtain ⟨v, -, hv⟩ := (h3.2.2 0).resolve_left (fun z => by cases z)
          exact hv.2
        have hm := h1.made ha (by rw [g1, f3]; exact f5) (fun k hk t3 => bAll_mem g2 k (by
          rw [f4]
          rw [g1, f3] at hk t3
          exact List.mem_filter.mpr ⟨List.mem_range.mpr hk, by rw [t3]; rfl⟩))
        have hx2 : bExt adr0 σ0 adr (bA σ a 2) := ⟨h2.1, fun id => Nat.le_trans (h2.2.1 id) (by
          show σ.2.2.2.1 id ≤ (if id = a then 2 else σ.2.2.2.1 id)
          split
          · rename_i z
            rw [z]
            exact (h1.1 a ha).2.1
          · exact Nat.le_refl _), h2.2.2⟩
        exact vx_ret (W.vret hx hb (hret.trans f2) (fun t ht hW => ⟨none, none, adr, rfl, rfl, trivial, hx2, by rw [ht]; exact hm.moved hW.alike, by rw [ht]; exact h6, by rw [ht]; exact h7⟩) h5 hd0 hlocks)
      · exact h2.elim
    · exact h2.elim
  case ireturn =>
    have hs : (Nat.beq len 1 && Nat.beq (bnth aux 0 0) (bRtc (bYt n).2.2) && (Nat.beq (bnth aux 0 0) 1 || Nat.beq (bnth aux 0 0) 2)) = true := hok.2.2
    simp only [Bool.and_eq_true, Bool.or_eq_true, Nat.beq_eq] at hs
    obtain ⟨⟨rfl, f2⟩, f3⟩ := hs
    have h2 : bEnd aux (bEx oE σE) L st σ := h
    unfold bEnd at h2
    split at h2
    · rcases f3 with f3 | f3 <;> cases f3
    · obtain ⟨rfl, rfl⟩ := h2
      have hr := rI _ f2.symm
      intro adr H locs ls cst hI
      obtain ⟨cr, rfl, hr2⟩ := bSr_int hI.2.2.2.1
      obtain rfl := bSr_nil hr2
      rw [hpi]
      exact vx_ret (W.iret hx hb (hret.trans hr) (fun t ht hW => ⟨some (.int _), some (.int _), adr, rfl, rfl, rfl, hI.fin ht hW.alike⟩) hI.2.2.2.2.1 hd0 hlocks)
    · obtain ⟨hv, rfl, rfl⟩ := h2
      have hr := rZ _ f2.symm
      intro adr H locs ls cst hI
      obtain ⟨cr, rfl, hr2⟩ := bSr_int hI.2.2.2.1
      obtain rfl := bSr_nil hr2
      rw [hpi]
      exact vx_ret (W.zret hx hb (hret.trans hr) (by rcases hv with rfl | rfl <;> rfl) (fun t ht hW => ⟨some (.int _), some (.int _), adr, rfl, rfl, rfl, hI.fin ht hW.alike⟩) hI.2.2.2.2.1 hd0 hlocks)
    · rcases f3 with f3 | f3 <;> cases f3
    · rcases f3 with f3 | f3 <;> cases f3
    · rcases f3 with f3 | f3 <;> cases f3
    · rcases f3 with f3 | f3 <;> cases f3
    · exact h2.elim
  case lreturn =>
    have hs : (Nat.beq len 1 && Nat.beq (bnth aux 0 0) 3 && decide ((bYt n).2.2 = some .long)) = true := hok.2.2
    simp only [Bool.and_eq_true, Nat.beq_eq, decide_eq_true_eq] at hs
    obtain ⟨⟨rfl, f2⟩, f3⟩ := hs
    have h2 : bEnd aux (bEx oE σE) L st σ := h
    unfold bEnd at h2
    split at h2
    · cases f2
    · cases f2
    · cases f2
    · obtain ⟨rfl, rfl⟩ := h2
      intro adr H locs ls cst hI
      obtain ⟨cr, rfl, hr2⟩ := bSr_long hI.2.2.2.1
      obtain rfl := bSr_nil hr2
      rw [hpi]
      exact vx_ret (W.lret hx hb (hret.trans f3) (fun t ht hW => ⟨some (.long _), some (.long _), adr, rfl, rfl, rfl, hI.fin ht hW.alike⟩) hI.2.2.2.2.1 hd0 hlocks)
    · cases f2
    · cases f2
    · cases f2
    · exact h2.elim
  case areturn =>
    have hs : (Nat.beq len 1 && Nat.beq (bnth aux 0 0) 4 && Nat.beq (bRtc (bYt n).2.2) 4) = true := hok.2.2
    simp only [Bool.and_eq_true, Nat.beq_eq] at hs
    obtain ⟨⟨rfl, f2⟩, f3⟩ := hs
    have hB : ∃ rt, (bYt n).2.2 = some rt ∧ ((∃ n, rt = .object n) ∨ ∃ t, rt = .array t) := by
      generalize (bYt n).2.2 = r at f3
      unfold bRtc at f3
      split at f3
      · cases f3
      · cases f3
      · cases f3
      · cases f3
      · exact ⟨_, rfl, Or.inl ⟨_, rfl⟩⟩
      · exact ⟨_, rfl, Or.inr ⟨_, rfl⟩⟩
      · cases f3
    obtain ⟨rt, f4, f5⟩ := hB
    have h2 : bEnd aux (bEx oE σE) L st σ := h
    unfold bEnd at h2
    split at h2
    · cases f2
    · cases f2
    · cases f2
    · cases f2
    · obtain ⟨rfl, rfl⟩ := h2
      intro adr H locs ls cst hI
      obtain ⟨cr, rfl, ha, hr2⟩ := bSr_ref hI.2.2.2.1
      obtain rfl := bSr_nil hr2
      rw [hpi]
      exact vx_ret (W.aret hx hb (hret.trans f4) f5 (Or.inr ⟨_, rfl⟩) (fun t ht hW => ⟨some (.ref _), some (.ref _), adr, rfl, rfl, ⟨rfl, ha⟩, hI.fin ht hW.alike⟩) hI.2.2.2.2.1 hd0 hlocks)
    · obtain ⟨rfl, rfl⟩ := h2
      intro adr H locs ls cst hI
      obtain ⟨cr, rfl, hr2⟩ := bSr_null hI.2.2.2.1
      obtain rfl := bSr_nil hr2
      rw [hpi]
      exact vx_ret (W.aret hx hb (hret.trans f4) f5 (Or.inl rfl) (fun t ht hW => ⟨some .null, some .null, adr, rfl, rfl, rfl, hI.fin ht hW.alike⟩) hI.2.2.2.2.1 hd0 hlocks)
    · cases f2
    · exact h2.elim
  all_goals (rcases hp with hp | hp | hp | hp <;> cases hp)
end

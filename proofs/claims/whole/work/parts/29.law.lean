/-! THE LAW'S START: from a run of the abstract machine to the law's end -/
def R_law : String := "BuildmillLaw"
def lw_P (b : Addr) (xs : List Int32) (args : Array Value) (s : State) : Prop := args = #[.ref b] ∧ s.IntsAt b xs ∧ xs.length ≤ 3072 ∧ (Jvm.Cond.and given_1 narrow_1).before args s = true
def lw_Q (_ : Array Value) (s : State) (o : Outcome) (t : State) : Prop := o = .returned (some (.int 1)) ∧ Framed s o t [] 601024 7293034
def lw_Z (below : List Frame) (a : Array Value) (s : State) : State → Prop := fun t => ∃ o, t.status = .running ∧ Ended t below o ∧ lw_Q a s o t
def lw_At (p : Program) (s : State) (m : MethodId) (meth : Method) (c : Code) (b L : Nat) (xs : Nat → Int32) : Prop :=
  p.tables.exec = Jvm.exec ∧ c.code = code ∧ meth.sig.returnType = ret ∧ c.maxLocals = 8 ∧ s.vm.findClass R_law = some m.cls ∧ (∀ w ∈ lw_tbl, w.before #[Value.ref b] s = true) ∧ va_X b L xs s s.heap ∧ b < s.heap.size ∧ meth.locks = false ∧ (Jvm.Cond.and given_1 narrow_1).before #[Value.ref b] s = true ∧ c.exceptionTable.toList = [] ∧ meth.name = "law"
/-- the start: nothing is made; the script, the parents -/
def bPar (j : Nat) : Int32 := bnth [0, 0, 0, 1, 1, 2] j 0
def bS0 (xs : Nat → Int32) (L : Nat) : bSt := (fun a j => if a = 200 then xs j else if a = 201 then bPar j else 0, fun a _ => if a = 200 then Int64.ofNat L else 0, fun _ _ => none, fun _ => 0, (0, 0))
/-- what is left: the abstract run of the law ends in true, within the room -/
def bGoal : Prop := ∀ (L : Nat) (xs : Nat → Int32), L ≤ 3072 → bAt 13 (bMt 357) (bWp 12) (fun o σ => o = .inl (some (.int 1)) ∧ σ.2.2.2.2.1 ≤ 601024 ∧ σ.2.2.2.2.2 ≤ 7293034) (0, bEnt 8 [.ref 200], [], bS0 xs L)
/-- what is decided of the law itself, and the words of the start -/
def bGlob7 : Prop := bOkM 357 (bMt 357) ∧ bThB 357 (bMt 357) = true ∧ (bRow (bMt 357) 0).1 = 0 ∧ (bMt 357).2.1 = [] ∧ (bMt 357).2.2 = 8 ∧ bYt 357 = (⟨"BuildmillLaw", "law", "([I)Z"⟩, code, ret) ∧
  (∀ ci, ci < 13 → Cond.instantiable (bCn ci) (bNf ci) ∈ lw_tbl) ∧ (Cond.arrayClass .int ∈ lw_tbl ∧ Cond.arrayClass .boolean ∈ lw_tbl ∧ Cond.arrayClass .long ∈ lw_tbl) ∧ (∀ ci, ci = 0 ∨ ci = 4 ∨ ci = 8 → Cond.arrayOver (.object (bCn ci)) ∈ lw_tbl) ∧
  (Cond.laysStatic Bundle.tN "UNASSIGNED_STACK" Bundle.steD ∈ lw_tbl ∧ Cond.laysStatic Bundle.tN "SUPPRESSED_SENTINEL" Bundle.listD ∈ lw_tbl ∧ Cond.laysStatic "Buildmill$Disk" "PARENTS" "[I" ∈ lw_tbl ∧ Cond.initialized Bundle.tN ∈ lw_tbl ∧ Cond.initialized "Buildmill$Disk" ∈ lw_tbl)
theorem bNoc_of {A : Array Value} {s : State} (h : (Jvm.Cond.and given_1 narrow_1).before A s = true) : bNoc s := by
  have hs := flat_of_before _ h
  intro j k hj hk hne
  have key : ∀ j, j < 3 → ∀ k, k < 3 → j ≠ k → Cond.not (.castable (bExn j) (bExn k)) ∈ flatC (Jvm.Cond.and given_1 narrow_1) := by decide +kernel
  exact va_Nc.of (hs _ (key j hj k hk hne))
theorem bWd_of {A : Array Value} {s : State} (h : (Jvm.Cond.and given_1 narrow_1).before A s = true) (hts : ∀ w ∈ lw_tbl, w.before A s = true) : bWd s := by
  refine ⟨bNoc_of h, fun w hw hm => ?_⟩
  have hs := hts w hw
  unfold bMv at hm
  rcases Bool.or_eq_true_iff.mp hm with hg | hg
  · exact word_at (State.WarmedH.refl s) (good_of_word hg) hs
  · split at hg
    · exact va_Nw.of rfl hs
    · exact va_Nw.of rfl hs
    · exact va_Nw.of rfl hs
    · exact va_AO.of hs
    · cases hg
theorem bKn_of {s : State} (hG : bGlob7) (hwd : bWd s) : ∃ D cA, bKn D cA s := by
  have h1 : ∀ ci, ∃ q : ClassId × (Nat → Nat), ci < 13 → u_Kn s (bCn ci) (bFn ci) (bNf ci) q.1 q.2 := by
    intro ci
    by_cases hci : ci < 13
    · obtain ⟨cC, iS, h⟩ := u_known (ws := u_ws (bCn ci) (bFn ci) (bNf ci)) (args := #[]) (bCf_lay hwd hci) (fun _ h => h) (hwd.at (hG.2.2.2.2.2.2.1 ci hci) rfl)
      exact ⟨(cC, iS), fun _ => h⟩
    · exact ⟨(0, fun _ => 0), fun z => absurd z hci⟩
  have prim : ∀ ty : FieldType, Cond.arrayClass ty ∈ lw_tbl → ∃ cA, ArrOfT s cA ty ∧ s.vm.findClass ("[" ++ ty.toString) = some cA := by
    intro ty hm
    obtain ⟨c, k, comp, q1, q2, q3⟩ := Cond.arrayClass_spec (hwd.at (args := #[]) hm rfl)
    exact ⟨c, fun n z => ⟨fun _ h => (by cases h), k, q2, comp, q3⟩, q1⟩
  have obj : ∀ C : String, Cond.arrayOver (.object C) ∈ lw_tbl → ∃ cA, ArrOfT s cA (.object C) ∧ va_RA s cA (.object C) := by
    intro C hm
    obtain ⟨comp, c, k, q1, q2, q3, q4, q5⟩ := Cond.arrayOver_spec (hwd.at (args := #[]) hm rfl)
    exact ⟨c, fun n z => ⟨fun _ h => (by cases h), k, q3, comp, q4⟩, k, comp, q3, q4, q1, q5⟩
  have h2 : ∀ t, ∃ cA, t ∈ bTs → ArrOfT s cA (bEt t) ∧ va_RA s cA (bEt t) := by
    intro t
    by_cases ht : t ∈ bTs
    · obtain ⟨a1, a2, a3⟩ := hG.2.2.2.2.2.2.2.1
      have a4 := hG.2.2.2.2.2.2.2.2.1
      simp only [bTs, List.mem_cons, List.not_mem_nil, or_false] at ht
      rcases ht with rfl | rfl | rfl | rfl | rfl | rfl
      · obtain ⟨cA, q1, q2⟩ := prim .int a1
        exact ⟨cA, fun _ => ⟨q1, q2⟩⟩
      · obtain ⟨cA, q1, q2⟩ := prim .boolean a2
        exact ⟨cA, fun _ => ⟨q1, q2⟩⟩
      · obtain ⟨cA, q1, q2⟩ := prim .long a3
        exact ⟨cA, fun _ => ⟨q1, q2⟩⟩
      · obtain ⟨cA, q1, q2⟩ := obj _ (a4 0 (Or.inl rfl))
        exact ⟨cA, fun _ => ⟨q1, q2⟩⟩
      · obtain ⟨cA, q1, q2⟩ := obj _ (a4 4 (Or.inr (Or.inl rfl)))
        exact ⟨cA, fun _ => ⟨q1, q2⟩⟩
      · obtain ⟨cA, q1, q2⟩ := obj _ (a4 8 (Or.inr (Or.inr rfl)))
        exact ⟨cA, fun _ => ⟨q1, q2⟩⟩
    · exact ⟨0, fun z => absurd z ht⟩
  exact ⟨(fun ci => (Classical.choose (h1 ci)).1, fun ci => (Classical.choose (h1 ci)).2), fun t => Classical.choose (h2 t), fun ci hci => Classical.choose_spec (h1 ci) hci, fun t ht => Classical.choose_spec (h2 t) ht⟩
theorem bPar_of {A : Array Value} {s : State} (h : (Jvm.Cond.and given_1 narrow_1).before A s = true) : ∃ a201, (Term.static "Buildmill$Disk" "PARENTS" "[I").eval A s none [] s = some (.ref a201) ∧ a201 < s.heap.size ∧ bScl s a201 6 bPar s.heap := by
  have hs := flat_of_before _ h
  have hlen : (Cond.eq (.length (.static "Buildmill$Disk" "PARENTS" "[I")) (.int 6)).before A s = true := hs _ (by decide +kernel)
  have harr : (Cond.arrayOf (.static "Buildmill$Disk" "PARENTS" "[I") .int).before A s = true := hs _ (by decide +kernel)
  have hel : ∀ j, j < 6 → (Cond.eq (.elem (.static "Buildmill$Disk" "PARENTS" "[I") (.int (Int32.ofNat j))) (.int (bPar j))).before A s = true := by
    have key : ∀ j, j < 6 → Cond.eq (.elem (.static "Buildmill$Disk" "PARENTS" "[I") (.int (Int32.ofNat j))) (.int (bPar j)) ∈ flatC (Jvm.Cond.and given_1 narrow_1) := by decide +kernel
    exact fun j hj => hs _ (key j hj)
  have eqi : ∀ (t : Term) (z : Int32), (Cond.eq t (.int z)).before A s = true → t.eval A s none [] s = some (.int z) := by
    intro t z hq
    cases hv : t.eval A s none [] s with
    | none => simp [Cond.before, Cond.holds, Cond.value, hv] at hq
    | some w =>
      have hz : (Term.int z).eval A s none [] s = some (.int z) := rfl
      simp only [Cond.before, Cond.holds, Cond.value, hv, hz] at hq
      cases w <;> simp_all
  obtain ⟨a, cell, e1, e2, e3⟩ := Term.length_spec (eqi _ _ hlen)
  obtain ⟨k1, k2, k3, -⟩ := State.arrayAt?_spec e2
  obtain ⟨k5, -⟩ := Cond.arrayOf_spec harr e1 k1
  have hread : ∀ j, j < 6 → cell.slots[j]? = some (.int (bPar j)) := by
    intro j hj
    obtain ⟨a', j', cell', g1, g2, g3, g4, g5⟩ := Term.elem_spec (eqi _ _ (hel j hj))
    rw [e1] at g1
    cases g1
    rw [e2] at g3
    cases g3
    have hj' : j' = Int32.ofNat j := by
      have : some (Value.int (Int32.ofNat j)) = some (Value.int j') := g2
      cases this
      rfl
    subst hj'
    rw [(b_len (by omega : j ≤ 10000)).2] at g5
    exact g5
  have h6 : cell.slots.size.toInt32 = 6 := by
    have e4 : Value.int 6 = Value.int cell.slots.size.toInt32 := e3
    exact (Value.int.inj e4).symm
  have hsz : cell.slots.size = 6 := by
    have hv := eqi _ _ hlen
    have hb : cell.slots.size < 2147483648 := by
      refine Classical.byContradiction fun hn => ?_
      simp only [Term.eval, Option.bind_eq_bind] at hv
      simp only [Term.eval, Option.bind_eq_bind] at e1
      rw [e1] at hv
      simp [e2, hn] at hv
    have e5 : (Int32.ofNat cell.slots.size).toInt = (cell.slots.size : Int) := Int32.toInt_ofNat_of_lt (by omega)
    have e6 : (Int32.ofNat cell.slots.size) = 6 := h6
    rw [e6] at e5
    have e7 : (6 : Int32).toInt = 6 := by decide
    omega
  exact ⟨a, e1, (Array.getElem?_eq_some_iff.mp k1).1, cell, k1, k5, k2, hsz, by decide, hread⟩
theorem bEnv_of {s : State} {b L : Nat} {xs : Nat → Int32} (hG : bGlob7) (hL : L ≤ 3072) (hts : ∀ w ∈ lw_tbl, w.before #[Value.ref b] s = true) (hX : va_X b L xs s s.heap) (hbl : b < s.heap.size) (hgv : (Jvm.Cond.and given_1 narrow_1).before #[Value.ref b] s = true) : ∃ D cA adr, bEnv D cA s.heap.size adr (bS0 xs L) s ∧ adr 200 = b := by
  have hwd := bWd_of hgv hts
  obtain ⟨D, cA, hK⟩ := bKn_of hG hwd
  obtain ⟨a201, e1, e2, e3⟩ := bPar_of hgv
  have hs := flat_of_before _ hgv
  have r1 : (Cond.isRef (.static Bundle.tN "UNASSIGNED_STACK" Bundle.steD)).before #[Value.ref b] s = true := hs _ (by decide +kernel)
  have r2 : (Cond.isRef (.static Bundle.tN "SUPPRESSED_SENTINEL" Bundle.listD)).before #[Value.ref b] s = true := hs _ (by decide +kernel)
  obtain ⟨w1, w2, w3, w4, w5⟩ := hG.2.2.2.2.2.2.2.2.2
  have hno : ∀ a : Nat, a < s.heap.size → ¬ s.heap.size ≤ a := fun a h => Nat.not_le.mpr h
  have hl200 : bLen (bS0 xs L) 200 = L := by
    show (Int64.ofNat L).toInt.toNat = L
    rw [Int64.toInt_ofNat_of_lt (by omega)]
    rfl
  refine ⟨D, cA, fun id => if id = 200 then b else if id = 201 then a201 else 0, ⟨⟨fun id h => absurd rfl h, fun id h => absurd rfl h, fun i j h => absurd rfl h, ⟨?_, ?_⟩, ⟨?_, ?_⟩, Nat.le_refl _⟩, hK, ⟨?_, ?_, ?_⟩, hwd⟩, rfl⟩
  · exact hbl
  · rw [hl200]
    obtain ⟨scr, hcb, hof, hkn, hsz, hval⟩ := hX
    exact ⟨scr, hcb, hof, hkn, hsz, by omega, hval⟩
  · exact e2
  · exact e3
  · exact vx_Zqof (hts _ w1) (hts _ w4) r1 hno
  · exact vx_Zqof (hts _ w2) (hts _ w4) r2 hno
  · exact va_Zof (hts _ w3) (hts _ w5) e1 hno
theorem law_run (hG : bGlob) (h7 : bGlob7) (hgoal : bGoal) {p : Program} {e : Env} {s : State} {m : MethodId} {below : List Frame} {meth : Method} {c : Code} (l : Launch) (hflags : l.flags = flags0) {b L : Nat} {xs : Nat → Int32} (hL : L ≤ 3072) (C0 : lw_At p s m meth c b L xs) : W p l e room_1 s m #[Value.ref b] below meth c s.heap [] 0 0 (lw_Z below #[Value.ref b] s) (entryFrame m ([Value.ref b] : List Value).toArray 8) := by
  obtain ⟨hx, hb, hret, hml, hown, hts, hX, hbl, hlocks, hgv, htab, hmn⟩ := C0
  obtain ⟨D, cA, adr, hE, hadr⟩ := bEnv_of h7 hL hts hX hbl hgv
  obtain ⟨g1, g2, g3, g4, g5, g6, -⟩ := h7
  unfold bGoal at hgoal
  generalize bMt 357 = M at g1 g2 g3 g4 g5 hgoal
  have hl : l.stackTraces = false := by
    unfold Launch.stackTraces
    rw [hflags]
    decide
  obtain ⟨o, σE, ⟨rfl, hc, hsl⟩, hle, hrun⟩ := bAt_det (bWp_mono 12) (bWp_det 12) (hgoal L xs hL)
  have hro : bRo room_1 12 (bS0 xs L) σE := ⟨by decide, by decide, Nat.le_trans (Nat.sub_le _ _) hc, Nat.le_trans (Nat.sub_le _ _) hsl⟩
  have gg := (hrun (fun y => bLe y.2.2.2 σE ∧ bG p l e room_1 s m #[Value.ref b] below meth c D cA s.heap.size adr (bS0 xs L) 8 (fun j => (bRow M j).1) (bQf below #[Value.ref b] s D cA s.heap.size adr (bS0 xs L) (.inl (some (.int 1))) σE) y)
    (fun y hy => ⟨bLe_step (fun z hz => hz.1) hy, bs_step (n := 357) hG hl hx (by rw [g6]; exact hb) hml (by rw [g6]; exact hown) (by rw [g6]; exact hmn) (by rw [g6]; exact hret) hlocks hE (fun _ => rfl) (by rw [g4, htab]; rfl) g1 (by unfold bHokM; rw [g4]; rfl) (Or.inl g4) g2 g5 rfl hro hle (bMet_all hG hl 12) hy⟩)).2
  have hsr : bSr adr (bS0 xs L) [.ref 200] [.ref b] := ⟨⟨by rw [hadr], Or.inr (Or.inl rfl)⟩, trivial⟩
  have gK := gg adr s.heap [] _ [] ⟨hE.1, bExt.refl, bEnt_lr (nL := 8) hsr (by decide), trivial, fun q hq => absurd hq List.not_mem_nil, fun _ _ => rfl, Nat.le_refl _⟩
  rw [show ((0, bEnt 8 [.ref 200], [], bS0 xs L) : bPt).2.2.2.2.2.2.2.1 - (bS0 xs L).2.2.2.2.1 = 0 from Nat.sub_self _, show ((0, bEnt 8 [.ref 200], [], bS0 xs L) : bPt).2.2.2.2.2.2.2.2 - (bS0 xs L).2.2.2.2.2 = 0 from Nat.sub_self _] at gK
  rw [lg_entry_eq]
  have e0 : (fun j => (bRow M j).1) ((0, bEnt 8 [.ref 200], [], bS0 xs L) : bPt).1 = 0 := g3
  rw [e0] at gK
  intro T hT X
  obtain ⟨t, a1, o, a2, a3, a4⟩ := gK T hT X
  refine ⟨t, a1, o, a2, a3, ?_⟩
  rcases a4 with ⟨⟨v, w, adr', q1, rfl, q3, -⟩, L9, ⟨q4, q5, q6⟩, q7⟩ | ⟨q, rfl, E, ce, L9, ⟨k, adr', q1, -⟩, -⟩
  · cases q1
    have hw : w = some (.int 1) := by
      cases w with
      | none => exact q3.elim
      | some w => exact congrArg some q3
    subst hw
    refine ⟨rfl, ⟨_, rfl⟩, q5, q6.weaken (fun y hy hlt => absurd hlt (Nat.not_lt.mpr (q7 y hy))) (Nat.le_trans (Nat.sub_le _ _) hc) (Nat.le_trans (Nat.sub_le _ _) hsl)⟩
  · cases q1

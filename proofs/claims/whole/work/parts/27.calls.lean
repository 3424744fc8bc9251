/-! CALLS -/
noncomputable def bCw (n : Nat) : Cond := match (bMt n).2.1 with
  | [] => .code (bYt n).1 (bYt n).2.1 (bMt n).2.2 (bYt n).2.2
  | _ => .codeWith (bYt n).1 (bYt n).2.1 (bMt n).2.2 (bYt n).2.2 ((bMt n).2.1.map (bHq (bMt n)))
/-- what is decided of a method -/
def bMf (n : Nat) : Prop := bCw n ∈ lw_tbl ∧ plainFor (bYt n).1 = true ∧ bHokM (bMt n) = true ∧ ((bMt n).2.1 = [] ∨ (bYt n).1.cls = "BuildmillLaw") ∧ (bMt n).2.2 ≤ 24 ∧ ((n < 314 ∨ 357 < n) → (bMt n).2.1 = []) ∧ ((bYt n).1.name = "<init>" → (bYt n).2.2 = none)
def bMet (l : Launch) (d : Nat) : Prop := ∀ (n : Nat) (as : List Value) (σ : bSt) (o1 : bOut) (σ1 : bSt), n < 362 → n ≠ 357 → bWp d n as σ (bEx o1 σ1) → ∀ (D : va_G) (cA : Nat → ClassId) (b0 : Nat) (adr : Nat → Nat),
  vx_Met l (bYt n).1 [bCw n] (bRm d σ σ1) (bPc D cA b0 adr σ as) (bQc D cA b0 adr σ o1 σ1) (bXC D cA b0 adr σ o1 σ1) (σ1.2.2.2.2.1 - σ.2.2.2.2.1) (σ1.2.2.2.2.2 - σ.2.2.2.2.2) (fun q => b0 ≤ q)
theorem bTk_spec : ∀ {k : Nat} {st acc l r : List Value}, bTk k st acc = some (l, r) → ∃ pre, pre.length = k ∧ l = pre.reverse ++ acc ∧ st = pre ++ r
  | 0, st, acc, l, r, h => by
    cases h
    exact ⟨[], rfl, rfl, rfl⟩
  | k + 1, [], acc, l, r, h => by cases h
  | k + 1, v :: st, acc, l, r, h => by
    have h2 : bTk k st (v :: acc) = some (l, r) := h
    obtain ⟨pre, e1, e2, e3⟩ := bTk_spec h2
    exact ⟨v :: pre, by simp [e1], by rw [e2]; simp, by rw [e3]; rfl⟩
theorem bSr_split {adr : Nat → Nat} {σ : bSt} : ∀ {pre r cst : List Value}, bSr adr σ (pre ++ r) cst → ∃ cp cr, cst = cp ++ cr ∧ bSr adr σ pre cp ∧ bSr adr σ r cr
  | [], r, cst, h => ⟨[], cst, rfl, trivial, h⟩
  | a :: pre, r, [], h => h.elim
  | a :: pre, r, v :: cst, h => by
    obtain ⟨cp, cr, e1, e2, e3⟩ := bSr_split h.2
    exact ⟨v :: cp, cr, by rw [e1]; rfl, ⟨h.1, e2⟩, e3⟩
theorem bSr_join {adr : Nat → Nat} {σ : bSt} : ∀ {a b c d : List Value}, bSr adr σ a b → bSr adr σ c d → bSr adr σ (a ++ c) (b ++ d)
  | [], [], _, _, _, h => h
  | x :: a, y :: b, _, _, g, h => ⟨g.1, bSr_join g.2 h⟩
  | [], _ :: _, _, _, g, _ => g.elim
  | _ :: _, [], _, _, g, _ => g.elim
theorem bSr_rev {adr : Nat → Nat} {σ : bSt} : ∀ {a b : List Value}, bSr adr σ a b → bSr adr σ a.reverse b.reverse
  | [], [], _ => trivial
  | x :: a, y :: b, g => by
    rw [List.reverse_cons, List.reverse_cons]
    exact bSr_join (bSr_rev g.2) ⟨g.1, trivial⟩
  | [], _ :: _, g => g.elim
  | _ :: _, [], g => g.elim
theorem bSr_len {adr : Nat → Nat} {σ : bSt} : ∀ {a b : List Value}, bSr adr σ a b → a.length = b.length
  | [], [], _ => rfl
  | x :: a, y :: b, g => by rw [List.length_cons, List.length_cons, bSr_len g.2]
  | [], _ :: _, g => g.elim
  | _ :: _, [], g => g.elim
theorem bCn_law : ∀ ci, ci < 13 → bCn ci ≠ "BuildmillLaw" := by decide
section
variable {p : Program} {l : Launch} {e : Env} {R : Room} {s : State} {m : MethodId} {args : Array Value} {below : List Frame} {meth : Method} {c : Code} {D : va_G} {cA : Nat → ClassId} {b0 : Nat} {adr0 : Nat → Nat} {σ0 : bSt} {nL : Nat} {pcs : Nat → Nat} {Qf : State → Prop}
variable {i nxt tgt : Nat} {L L' st st' : List Value} {σ : bSt} {cc : ByteArray} {oE : bOut} {σE : bSt}
/-- behind a call's run: the next point, the handler, or out -/
theorem sm_fin {n : Nat} {M : bM} (hown : s.vm.findClass (bYt n).1.cls = some m.cls) (hE : bEnv D cA b0 adr0 σ0 s) (hpcs : ∀ j, pcs j = (bRow M j).1) (htab : c.exceptionTable.toList = tableOf (M.2.1.map (bHq M))) (hH : bHokM M = true) (hcl : M.2.1 = [] ∨ (bYt n).1.cls = "BuildmillLaw") (hlocks : meth.locks = false) (hwk : ∀ k, k < 3 → Cond.classLink "BuildmillLaw" (bIxE k) (bExn k) ∈ lw_tbl ∧ Cond.castable (bExn k) (bExn k) ∈ lw_tbl)
    (hQf : Qf = bQf below args s D cA b0 adr0 σ0 oE σE) (hlen : (bRow M i).2.2.1 ≠ 0) (f1 : pcs nxt = pcs i + 3)
    {adr : Nat → Nat} {H : Heap} {locs : List Loc} {ls : Array Slot} {cst cr r : List Value} {o1 : bOut} {σ1 : bSt} {a9 : Array Value} {f : Option Value → bSt → Prop} (hI : bIn D cA b0 s adr0 σ0 nL adr H locs ls cst (i, L, st, σ)) (hcr : bSr adr σ r cr) (hd : bLe σ σ1)
    (hr : vx_Run p l e R s m args below meth c H locs (σ.2.2.2.2.1 - σ0.2.2.2.2.1) (σ.2.2.2.2.2 - σ0.2.2.2.2.2) (σ1.2.2.2.2.1 - σ.2.2.2.2.1) (σ1.2.2.2.2.2 - σ.2.2.2.2.2) (F0 m (pcs i) ls cst) cr (bQc D cA b0 adr σ o1 σ1 a9) (bXC D cA b0 adr σ o1 σ1) (fun q => b0 ≤ q))
    (hret : bRet M.2.1 i f (fun h σ' => bLe σ' σE ∧ bG p l e R s m args below meth c D cA b0 adr0 σ0 nL pcs Qf (h, L, [.float 0], σ')) (bEx oE σE) o1 σ1)
    (hf : ∀ v, f v σ1 → ∀ (adr' : Nat → Nat) (w : Option Value) (cr' : List Value), bVo adr' σ1 v w → bSr adr' σ1 r cr' → ∃ st2, bG p l e R s m args below meth c D cA b0 adr0 σ0 nL pcs Qf (nxt, L, st2, σ1) ∧ bSr adr' σ1 st2 (w.toList ++ cr')) :
    W p l e R s m args below meth c H locs (σ.2.2.2.2.1 - σ0.2.2.2.2.1) (σ.2.2.2.2.2 - σ0.2.2.2.2.2) Qf (F0 m (pcs i) ls cst) := by
  refine sm_after (X := M.2.1) hI hcr hd hr f1 (fun v w adr' H' locs' hv hvo hp hx1 hl hs b4 b5 b6 => ?_) (fun k q ce adr' H' locs' hv hk3 hce hcv hcc hp hx1 hl b4 b5 b6 => ?_)
  · subst hv
    obtain ⟨st2, g, hs2⟩ := hf v hret adr' w cr hvo hs
    exact g adr' H' locs' ls _ ⟨hp, hx1, hl, hs2, b4, b5, b6⟩
  · subst hv
    refine sm_exc hown hE hpcs htab hH hcl hlocks hwk hQf hlen hk3 hp hx1 hl b4 b5 b6 hce hcv hcc ?_
    have h2 : (match bHnd M.2.1 i k with
      | some h => bLe σ1 σE ∧ bG p l e R s m args below meth c D cA b0 adr0 σ0 nL pcs Qf (h, L, [.float 0], σ1)
      | none => bEx oE σE (.inr k) σ1) := hret
    cases hb : bHnd M.2.1 i k with
    | some h =>
      rw [hb] at h2
      exact h2.2
    | none =>
      rw [hb] at h2
      exact ⟨h2.1.symm, h2.2.symm⟩
theorem bRet_le {X : List (Nat × Nat × Nat × Nat)} {f : Option Value → bSt → Prop} {g : Nat → bSt → Prop} {o1 : bOut} {σ1 : bSt} (hret : bRet X i f (fun h σ' => bLe σ' σE ∧ g h σ') (bEx oE σE) o1 σ1) (hf : ∀ v, f v σ1 → bLe σ1 σE) : bLe σ1 σE := by
  unfold bRet at hret
  split at hret
  · exact hf _ hret
  · split at hret
    · exact hret.1
    · rw [hret.2]
      exact bLe.rf
theorem room_d {d : Nat} {σ1 : bSt} (hR : bRo R d σ0 σE) (hI : bLe σ0 σ) (h1 : bLe σ σ1) (h2 : bLe σ1 σE) : (bRm d σ σ1).frames + 1 ≤ R.frames ∧ (∀ k, k ≤ 24 → 8 + (k + 11) + (bRm d σ σ1).locals ≤ R.locals) ∧ σ.2.2.2.2.1 - σ0.2.2.2.2.1 + (σ1.2.2.2.2.1 - σ.2.2.2.2.1) ≤ R.cells ∧ σ.2.2.2.2.2 - σ0.2.2.2.2.2 + (σ1.2.2.2.2.2 - σ.2.2.2.2.2) ≤ R.slots := by
  obtain ⟨z1, z2, z3, z4⟩ := hR
  obtain ⟨a1, a2⟩ := hI
  obtain ⟨b1, b2⟩ := h1
  obtain ⟨c1, c2⟩ := h2
  refine ⟨z1, fun k hk => ?_, ?_, ?_⟩
  · show 8 + (k + 11) + 43 * d ≤ R.locals
    omega
  · omega
  · omega
/-- what every call wants of the callee -/
theorem sm_cb {mi d : Nat} {σ1 : bSt} {k9 : Nat} (hE : bEnv D cA b0 adr0 σ0 s) (hMf : bMf mi) (hX : (bMt mi).2.1 = []) (hini : Cond.initialized (bYt mi).1.cls ∈ lw_tbl) (hpl : bPlain (bYt mi).1 k9 = true) (hR : bRo R d σ0 σE) (hI : bLe σ0 σ) (h1 : bLe σ σ1) (h2 : bLe σ1 σE) :
    ((bRm d σ σ1).cells = σ1.2.2.2.2.1 - σ.2.2.2.2.1 ∧ (bRm d σ σ1).slots = σ1.2.2.2.2.2 - σ.2.2.2.2.2 ∧ (bRm d σ σ1).frames + 1 ≤ R.frames ∧ 8 + ((bMt mi).2.2 + 11) + (bRm d σ σ1).locals ≤ R.locals ∧ (∀ w ∈ [bCw mi], ∀ (a' : Array Value) (U : State), s.WarmedH U.vm → w.before a' U = true) ∧ Cond.code (bYt mi).1 (bYt mi).2.1 (bMt mi).2.2 (bYt mi).2.2 ∈ [bCw mi]) ∧
    (Cond.code (bYt mi).1 (bYt mi).2.1 (bMt mi).2.2 (bYt mi).2.2).before args s = true ∧ (Cond.initialized (bYt mi).1.cls).before args s = true ∧ ((bYt mi).1.cls ≠ "java/lang/invoke/MethodHandle" ∧ (bYt mi).1.cls ≠ "java/lang/invoke/VarHandle") ∧ (∀ sig, parseMethodDescriptor (bYt mi).1.desc = some sig → k9 = sig.parameters.length) := by
  have hwd := hE.2.2.2
  obtain ⟨w1, w2, w3, w4, w5, -⟩ := hMf
  have hcw : bCw mi = Cond.code (bYt mi).1 (bYt mi).2.1 (bMt mi).2.2 (bYt mi).2.2 := by
    unfold bCw
    rw [hX]
  obtain ⟨r1, r2, -, -⟩ := room_d hR hI h1 h2
  have hpl2 := of_decide_eq_true hpl
  rw [hcw] at w1
  refine ⟨⟨rfl, rfl, r1, r2 _ w5, fun w hw a' U hW => ?_, by rw [hcw]; exact List.mem_singleton.mpr rfl⟩, hwd.at w1 rfl, hwd.at hini rfl, ⟨hpl2.1, hpl2.2.1⟩, fun sig h => ?_⟩
  · rw [List.mem_singleton.mp hw, hcw]
    exact (hwd.moved hW).at w1 rfl
  · have h3 := hpl2.2.2
    rw [h] at h3
    exact (Option.some.inj h3).symm
theorem sm_recv {adr : Nat → Nat} {H : Heap} {a ci : Nat} (hK : bKn D cA s) (h1 : bRep D cA b0 s adr σ H) (hl : σ.2.2.2.1 a ≠ 0) (hm : a % 256 = ci) (hci : ci < 13) : ∃ cellB : Cell, H[adr a]? = some cellB ∧ cellB.vm.isStatics = false ∧ s.vm.findClass (bCn ci) = some cellB.cls := by
  have ho := ((h1.2.1 a hl).2.1 (by rw [hm]; exact hci))
  rw [hm] at ho
  obtain ⟨cell, g1, g2, g3, -⟩ := ho
  exact ⟨cell, g1, by rw [g3]; rfl, by rw [g2]; exact (hK.1 ci hci).2.1⟩
theorem bVo_join {adr : Nat → Nat} {σ1 : bSt} {v w : Option Value} {r cr : List Value} (h : bVo adr σ1 v w) (k : bSr adr σ1 r cr) : bSr adr σ1 (v.toList ++ r) (w.toList ++ cr) := by
  cases v with
  | none =>
    cases w with
    | none => exact k
    | some w => exact h.elim
  | some v =>
    cases w with
    | none => exact h.elim
    | some w => exact ⟨h, k⟩
set_option maxHeartbeats 2000000 in
theorem sm_virt {n d pc ix mi ci k9 : Nat} {M : bM} {tgt9 : Nat} (hx : p.tables.exec = Jvm.exec) (hb : c.code = (bYt n).2.1) (hml : c.maxLocals = nL) (hown : s.vm.findClass (bYt n).1.cls = some m.cls) (hE : bEnv D cA b0 adr0 σ0 s) (hpcs : ∀ j, pcs j = (bRow M j).1) (htab : c.exceptionTable.toList = tableOf (M.2.1.map (bHq M))) (hH : bHokM M = true) (hcl : M.2.1 = [] ∨ (bYt n).1.cls = "BuildmillLaw") (hlocks : meth.locks = false) (hwk : ∀ k, k < 3 → Cond.classLink "BuildmillLaw" (bIxE k) (bExn k) ∈ lw_tbl ∧ Cond.castable (bExn k) (bExn k) ∈ lw_tbl)
    (hQf : Qf = bQf below args s D cA b0 adr0 σ0 oE σE) (hR : bRo R d σ0 σE) (hMet : bMet l d) (hlen : (bRow M i).2.2.1 ≠ 0) (hpi : pcs i = pc) (hd0 : decode (bYt n).2.1 pc = .ok (.invokevirtual ix, 3)) (f1 : pcs nxt = pc + 3) (hmi : mi < 357) (hMf : bMf mi) (hcn : (bYt mi).1.cls = bCn ci) (hci : ci < 13) (hpl : bPlain (bYt mi).1 k9 = true)
    (hlk : bLk tgt9 (bYt n).1.cls ix (bYt mi).1 ∈ lw_tbl) (him : Cond.instanceMethod (bYt mi).1 ∈ lw_tbl) (hse : Cond.selects (bCn ci) (bYt mi).1 (bYt mi).1 ∈ lw_tbl) (hini : Cond.initialized (bYt mi).1.cls ∈ lw_tbl)
    {a : Nat} {as r : List Value} (hT : bTk (k9 + 1) st [] = some (.ref a :: as, r)) (hm : a % 256 = ci) (hcat : bCat r ≤ 8) (hC : bWp d mi (.ref a :: as) σ (bRet M.2.1 i (fun v σ' => bLe σ' σE ∧ bG p l e R s m args below meth c D cA b0 adr0 σ0 nL pcs Qf (nxt, L, v.toList ++ r, σ')) (fun h σ' => bLe σ' σE ∧ bG p l e R s m args below meth c D cA b0 adr0 σ0 nL pcs Qf (h, L, [.float 0], σ')) (bEx oE σE))) : bG p l e R s m args below meth c D cA b0 adr0 σ0 nL pcs Qf (i, L, st, σ) := by
  have hwd := hE.2.2.2
  obtain ⟨o1, σ1, hret, hle, hex⟩ := bWp_det d _ _ _ _ hC
  have hle2 := bRet_le hret (fun v hv => hv.1)
  obtain ⟨pre, e1, e2, rfl⟩ := bTk_spec hT
  rw [List.append_nil] at e2
  intro adr H locs ls cst hI
  obtain ⟨cp, cr, rfl, hcp, hcr⟩ := bSr_split hI.2.2.2.1
  have hrv := bSr_rev hcp
  rw [← e2] at hrv
  obtain ⟨As, e4, hla, hAs⟩ := bSr_ref hrv
  have e5 : cp = As.reverse ++ [.ref (adr a)] := by
    have := congrArg List.reverse e4
    rw [List.reverse_reverse] at this
    rw [this, List.reverse_cons]
  have hla2 : σ.2.2.2.1 a = 2 := live_obj hla hm hci
  have hAl : As.length = k9 := by
    have h9 := congrArg List.length e2
    simp only [List.length_cons, List.length_reverse, e1] at h9
    rw [← bSr_len hAs]
    omega
  have hX : (bMt mi).2.1 = [] := hMf.2.2.2.1.resolve_right (fun z => bCn_law ci hci (hcn.symm.trans z))
  have hb0 : bLe σ0 σ := hI.2.1.2.2
  obtain ⟨r1, r2, r3, r4⟩ := room_d hR hb0 hle hle2
  obtain ⟨⟨c1, c2, c3, c4, c5, c6⟩, c7, c8, c9, c10⟩ := sm_cb (args := args) (k9 := k9) hE hMf hX hini hpl hR hb0 hle hle2
  have hsum : (cr.map fun v => v.category).sum ≤ 8 := Nat.le_trans (bCat_sum hcr) hcat
  have hM := hMet mi (.ref a :: as) σ o1 σ1 (Nat.lt_trans hmi (by decide)) (Nat.ne_of_lt hmi) hex D cA b0 adr
  have hst : As.reverse ++ [.ref (adr a)] ++ cr = As.reverse ++ .ref (adr a) :: cr := by simp
  have hPre : PreV s H (bCn ci) (adr a) (bPc D cA b0 adr σ (.ref a :: as)) As := ⟨bPc.blind, sm_recv hE.2.1 hI.1 (by rw [hla2]; decide) hm hci, fun U hU hW => ⟨_, rfl, ⟨⟨rfl, hla⟩, hAs⟩, hI.env hE hU hW⟩⟩
  have hfix : CallFix p m c (bYt n).2.1 nL s args [] (bYt n).1.cls := ⟨hx, hb, hml, hown, fun w hw => absurd hw List.not_mem_nil⟩
  have hrun : vx_Run p l e R s m args below meth c H locs (σ.2.2.2.2.1 - σ0.2.2.2.2.1) (σ.2.2.2.2.2 - σ0.2.2.2.2.2) (σ1.2.2.2.2.1 - σ.2.2.2.2.1) (σ1.2.2.2.2.2 - σ.2.2.2.2.2) (F0 m (pcs i) ls (cp ++ cr)) cr (bQc D cA b0 adr σ o1 σ1 (Value.ref (adr a) :: As).toArray) (bXC D cA b0 adr σ o1 σ1) (fun q => b0 ≤ q) := by
    unfold bLk at hlk
    split at hlk
    · exact vx_runVN (host := "Buildmill") (bytes := (bYt mi).2.1) (maxL := (bMt mi).2.2) (ret := (bYt mi).2.2) hfix hM ⟨⟨⟨c1, c2, c3, c4, c5, c6⟩, c7, c8, c9, c10, hwd.at hlk rfl⟩, hwd.at him rfl, hwd.at hse rfl⟩ hPre rfl hAl hI.2.2.1.1 (by show cp ++ cr = _; rw [e5, hst]) (by show 2 * 0 + _ ≤ 8; omega) (by show decode _ (pcs i) = _; rw [hpi]; exact hd0) ⟨r3, r4⟩
    · exact vx_runV (bytes := (bYt mi).2.1) (maxL := (bMt mi).2.2) (ret := (bYt mi).2.2) hfix hM ⟨⟨c1, c2, c3, c4, c5, c6, c7, c8, c9, c10, hwd.at hlk rfl⟩, hwd.at him rfl, hwd.at hse rfl⟩ hPre rfl hAl hI.2.2.1.1 (by show cp ++ cr = _; rw [e5, hst]) (by show 2 * 0 + _ ≤ 8; omega) (by show decode _ (pcs i) = _; rw [hpi]; exact hd0) ⟨r3, r4⟩
  exact sm_fin hown hE hpcs htab hH hcl hlocks hwk hQf hlen (by rw [f1, hpi]) hI hcr hle hrun hret fun v hv adr' w cr' hvo hs => ⟨_, hv.2, bVo_join hvo hs⟩
set_option maxHeartbeats 2000000 in
theorem sm_stat {n d pc ix mi k9 : Nat} {M : bM} {tgt9 : Nat} (hx : p.tables.exec = Jvm.exec) (hb : c.code = (bYt n).2.1) (hml : c.maxLocals = nL) (hown : s.vm.findClass (bYt n).1.cls = some m.cls) (hE : bEnv D cA b0 adr0 σ0 s) (hpcs : ∀ j, pcs j = (bRow M j).1) (htab : c.exceptionTable.toList = tableOf (M.2.1.map (bHq M))) (hH : bHokM M = true) (hcl : M.2.1 = [] ∨ (bYt n).1.cls = "BuildmillLaw") (hlocks : meth.locks = false) (hwk : ∀ k, k < 3 → Cond.classLink "BuildmillLaw" (bIxE k) (bExn k) ∈ lw_tbl ∧ Cond.castable (bExn k) (bExn k) ∈ lw_tbl)
    (hQf : Qf = bQf below args s D cA b0 adr0 σ0 oE σE) (hR : bRo R d σ0 σE) (hMet : bMet l d) (hlen : (bRow M i).2.2.1 ≠ 0) (hpi : pcs i = pc) (hd0 : decode (bYt n).2.1 pc = .ok (.invokestatic ix, 3)) (f1 : pcs nxt = pc + 3) (hmi : mi < 362) (hmi2 : mi ≠ 357) (hMf : bMf mi) (hpl : bPlain (bYt mi).1 k9 = true) (htg : tgt9 = 0 ∨ mi < 314 ∨ 357 < mi)
    (hlk : bLk tgt9 (bYt n).1.cls ix (bYt mi).1 ∈ lw_tbl) (hst9 : Cond.static (bYt mi).1 ∈ lw_tbl) (hini : Cond.initialized (bYt mi).1.cls ∈ lw_tbl)
    {as r : List Value} (hT : bTk k9 st [] = some (as, r)) (hcat : bCat r ≤ 8) (hC : bWp d mi as σ (bRet M.2.1 i (fun v σ' => bLe σ' σE ∧ bG p l e R s m args below meth c D cA b0 adr0 σ0 nL pcs Qf (nxt, L, v.toList ++ r, σ')) (fun h σ' => bLe σ' σE ∧ bG p l e R s m args below meth c D cA b0 adr0 σ0 nL pcs Qf (h, L, [.float 0], σ')) (bEx oE σE))) : bG p l e R s m args below meth c D cA b0 adr0 σ0 nL pcs Qf (i, L, st, σ) := by
  have hwd := hE.2.2.2
  obtain ⟨o1, σ1, hret, hle, hex⟩ := bWp_det d _ _ _ _ hC
  have hle2 := bRet_le hret (fun v hv => hv.1)
  obtain ⟨pre, e1, e2, rfl⟩ := bTk_spec hT
  rw [List.append_nil] at e2
  intro adr H locs ls cst hI
  obtain ⟨cp, cr, rfl, hcp, hcr⟩ := bSr_split hI.2.2.2.1
  have hAs := bSr_rev hcp
  rw [← e2] at hAs
  have hAl : cp.reverse.length = k9 := by rw [← bSr_len hAs, e2, List.length_reverse, e1]
  have hb0 : bLe σ0 σ := hI.2.1.2.2
  obtain ⟨r1, r2, r3, r4⟩ := room_d hR hb0 hle hle2
  have hsum : (cr.map fun v => v.category).sum ≤ 8 := Nat.le_trans (bCat_sum hcr) hcat
  have hM := hMet mi as σ o1 σ1 hmi hmi2 hex D cA b0 adr
  have hPre : PreS s H (bPc D cA b0 adr σ as) cp.reverse := ⟨bPc.blind, fun U hU hW => ⟨_, rfl, hAs, hI.env hE hU hW⟩⟩
  have hfix : CallFix p m c (bYt n).2.1 nL s args [] (bYt n).1.cls := ⟨hx, hb, hml, hown, fun w hw => absurd hw List.not_mem_nil⟩
  have hrun : vx_Run p l e R s m args below meth c H locs (σ.2.2.2.2.1 - σ0.2.2.2.2.1) (σ.2.2.2.2.2 - σ0.2.2.2.2.2) (σ1.2.2.2.2.1 - σ.2.2.2.2.1) (σ1.2.2.2.2.2 - σ.2.2.2.2.2) (F0 m (pcs i) ls (cp ++ cr)) cr (bQc D cA b0 adr σ o1 σ1 cp.reverse.toArray) (bXC D cA b0 adr σ o1 σ1) (fun q => b0 ≤ q) := by
    rcases List.eq_nil_or_concat (bMt mi).2.1 with hX | ⟨l9, x9, hX9⟩
    · obtain ⟨⟨c1, c2, c3, c4, c5, c6⟩, c7, c8, c9, c10⟩ := sm_cb (args := args) (k9 := k9) hE hMf hX hini hpl hR hb0 hle hle2
      unfold bLk at hlk
      split at hlk
      · exact vx_runSN (host := "Buildmill") (bytes := (bYt mi).2.1) (maxL := (bMt mi).2.2) (ret := (bYt mi).2.2) hfix hM ⟨⟨⟨c1, c2, c3, c4, c5, c6⟩, c7, c8, c9, c10, hwd.at hlk rfl⟩, hwd.at hst9 rfl, trivial⟩ hPre rfl hAl hI.2.2.1.1 (by show cp ++ cr = _; rw [List.reverse_reverse]) (by show 2 * 0 + _ ≤ 8; omega) (by show decode _ (pcs i) = _; rw [hpi]; exact hd0) ⟨r3, r4⟩
      · exact vx_runS (bytes := (bYt mi).2.1) (maxL := (bMt mi).2.2) (ret := (bYt mi).2.2) hfix hM ⟨⟨c1, c2, c3, c4, c5, c6, c7, c8, c9, c10, hwd.at hlk rfl⟩, hwd.at hst9 rfl⟩ hPre rfl hAl hI.2.2.1.1 (by show cp ++ cr = _; rw [List.reverse_reverse]) (by show 2 * 0 + _ ≤ 8; omega) (by show decode _ (pcs i) = _; rw [hpi]; exact hd0) ⟨r3, r4⟩
    · have hX : (bMt mi).2.1 ≠ [] := fun z => by rw [z] at hX9; simp at hX9
      have ht0 : tgt9 = 0 := htg.resolve_right (fun z => hX (hMf.2.2.2.2.2.1 z))
      obtain ⟨w1, -, -, -, w5, -⟩ := hMf
      have hcw : bCw mi = Cond.codeWith (bYt mi).1 (bYt mi).2.1 (bMt mi).2.2 (bYt mi).2.2 ((bMt mi).2.1.map (bHq (bMt mi))) := by
        unfold bCw
        split
        · rename_i z
          exact absurd z hX
        · rfl
      rw [hcw] at w1
      have hpl2 := of_decide_eq_true hpl
      subst ht0
      exact vx_runSX (bytes := (bYt mi).2.1) (maxL := (bMt mi).2.2) (ret := (bYt mi).2.2) (hh := (bMt mi).2.1.map (bHq (bMt mi))) (n := k9) hfix hM ⟨⟨rfl, rfl, r1, r2 _ w5, fun w hw a' U hW => by rw [List.mem_singleton.mp hw, hcw]; exact (hwd.moved hW).at w1 rfl, by rw [hcw]; exact List.mem_singleton.mpr rfl⟩, hwd.at w1 rfl, hwd.at hini rfl, ⟨hpl2.1, hpl2.2.1⟩, fun sig h => by
        have h3 := hpl2.2.2
        rw [h] at h3
        exact (Option.some.inj h3).symm, hwd.at hlk rfl, hwd.at hst9 rfl⟩ hPre rfl hAl hI.2.2.1.1 (by show cp ++ cr = _; rw [List.reverse_reverse]) (by show 2 * 0 + _ ≤ 8; omega) (by show decode _ (pcs i) = _; rw [hpi]; exact hd0) ⟨r3, r4⟩
  exact sm_fin hown hE hpcs htab hH hcl hlocks hwk hQf hlen (by rw [f1, hpi]) hI hcr hle hrun hret fun v hv adr' w cr' hvo hs => ⟨_, hv.2, bVo_join hvo hs⟩
set_option maxHeartbeats 2000000 in
theorem sm_spec {n d pc ix mi ci k9 : Nat} {M : bM} {tgt9 : Nat} (hx : p.tables.exec = Jvm.exec) (hb : c.code = (bYt n).2.1) (hml : c.maxLocals = nL) (hown : s.vm.findClass (bYt n).1.cls = some m.cls) (hE : bEnv D cA b0 adr0 σ0 s) (hpcs : ∀ j, pcs j = (bRow M j).1) (htab : c.exceptionTable.toList = tableOf (M.2.1.map (bHq M))) (hH : bHokM M = true) (hcl : M.2.1 = [] ∨ (bYt n).1.cls = "BuildmillLaw") (hlocks : meth.locks = false) (hwk : ∀ k, k < 3 → Cond.classLink "BuildmillLaw" (bIxE k) (bExn k) ∈ lw_tbl ∧ Cond.castable (bExn k) (bExn k) ∈ lw_tbl)
    (hQf : Qf = bQf below args s D cA b0 adr0 σ0 oE σE) (hR : bRo R d σ0 σE) (hMet : bMet l d) (hlen : (bRow M i).2.2.1 ≠ 0) (hpi : pcs i = pc) (hd0 : decode (bYt n).2.1 pc = .ok (.invokespecial ix, 3)) (f1 : pcs nxt = pc + 3) (hmi : mi < 357) (hMf : bMf mi) (hcn : (bYt mi).1.cls = bCn ci) (hci : ci < 13) (hpl : bPlain (bYt mi).1 k9 = true) (hnm : (bYt mi).1.name = "<init>")
    (hlk : bLk tgt9 (bYt n).1.cls ix (bYt mi).1 ∈ lw_tbl) (him : Cond.instanceMethod (bYt mi).1 ∈ lw_tbl) (hini : Cond.initialized (bYt mi).1.cls ∈ lw_tbl)
    {a : Nat} {as r : List Value} (hT : bTk (k9 + 1) st [] = some (.retAddr a :: as, .retAddr a :: r)) (hcat : bCat r ≤ 7) (hC : bWp d mi (.retAddr a :: as) σ (bRet M.2.1 i (fun v σ' => (v = none ∧ σ'.2.2.2.1 a = 2) ∧ (bLe σ' σE ∧ bG p l e R s m args below meth c D cA b0 adr0 σ0 nL pcs Qf (nxt, L, .ref a :: r, σ'))) (fun h σ' => bLe σ' σE ∧ bG p l e R s m args below meth c D cA b0 adr0 σ0 nL pcs Qf (h, L, [.float 0], σ')) (bEx oE σE))) : bG p l e R s m args below meth c D cA b0 adr0 σ0 nL pcs Qf (i, L, st, σ) := by
  have hwd := hE.2.2.2
  obtain ⟨o1, σ1, hret, hle, hex⟩ := bWp_det d _ _ _ _ hC
  have hle2 := bRet_le hret (fun v hv => hv.2.1)
  obtain ⟨pre, e1, e2, rfl⟩ := bTk_spec hT
  rw [List.append_nil] at e2
  intro adr H locs ls cst hI
  obtain ⟨cp, cr9, rfl, hcp, hcr⟩ := bSr_split hI.2.2.2.1
  have hrv := bSr_rev hcp
  rw [← e2] at hrv
  obtain ⟨As, e4, hla, hAs⟩ := bSr_raw hrv
  obtain ⟨cr, rfl, -, hcr0⟩ := bSr_raw hcr
  have e5 : cp = As.reverse ++ [.ref (adr a)] := by
    have := congrArg List.reverse e4
    rw [List.reverse_reverse] at this
    rw [this, List.reverse_cons]
  have hAl : As.length = k9 := by
    have h9 := congrArg List.length e2
    simp only [List.length_cons, List.length_reverse, e1] at h9
    rw [← bSr_len hAs]
    omega
  have hX : (bMt mi).2.1 = [] := hMf.2.2.2.1.resolve_right (fun z => bCn_law ci hci (hcn.symm.trans z))
  have hn0 : (bYt mi).2.2 = none := hMf.2.2.2.2.2.2 hnm
  have hb0 : bLe σ0 σ := hI.2.1.2.2
  obtain ⟨r1, r2, r3, r4⟩ := room_d hR hb0 hle hle2
  obtain ⟨⟨c1, c2, c3, c4, c5, c6⟩, c7, c8, c9, c10⟩ := sm_cb (args := args) (k9 := k9) hE hMf hX hini hpl hR hb0 hle hle2
  rw [hn0] at c6 c7
  have hsum : (cr.map fun v => v.category).sum ≤ 7 := Nat.le_trans (bCat_sum hcr0) hcat
  have hM := hMet mi (.retAddr a :: as) σ o1 σ1 (Nat.lt_trans hmi (by decide)) (Nat.ne_of_lt hmi) hex D cA b0 adr
  have hPre : PreS s H (bPc D cA b0 adr σ (.retAddr a :: as)) (.ref (adr a) :: As) := ⟨bPc.blind, fun U hU hW => ⟨_, rfl, ⟨⟨rfl, hla⟩, hAs⟩, hI.env hE hU hW⟩⟩
  have hfix : CallFix p m c (bYt n).2.1 nL s args [] (bYt n).1.cls := ⟨hx, hb, hml, hown, fun w hw => absurd hw List.not_mem_nil⟩
  have hst : cp ++ .ref (adr a) :: cr = As.reverse ++ .ref (adr a) :: .ref (adr a) :: cr := by rw [e5]; simp
  have hws : 2 * (F0 m (pcs i) ls (cp ++ .ref (adr a) :: cr)).monitorRoom + ((Value.ref (adr a) :: cr).map fun v => v.category).sum ≤ 8 := by
    show 2 * 0 + _ ≤ 8
    rw [List.map_cons, List.sum_cons]
    show 2 * 0 + (1 + _) ≤ 8
    omega
  have hrun : vx_Run p l e R s m args below meth c H locs (σ.2.2.2.2.1 - σ0.2.2.2.2.1) (σ.2.2.2.2.2 - σ0.2.2.2.2.2) (σ1.2.2.2.2.1 - σ.2.2.2.2.1) (σ1.2.2.2.2.2 - σ.2.2.2.2.2) (F0 m (pcs i) ls (cp ++ .ref (adr a) :: cr)) (.ref (adr a) :: cr) (bQc D cA b0 adr σ o1 σ1 (Value.ref (adr a) :: As).toArray) (bXC D cA b0 adr σ o1 σ1) (fun q => b0 ≤ q) := by
    unfold bLk at hlk
    split at hlk
    · exact vx_runIN (host := "Buildmill") (bytes := (bYt mi).2.1) (maxL := (bMt mi).2.2) hfix hM ⟨⟨⟨c1, c2, c3, c4, c5, c6⟩, c7, c8, c9, c10, hwd.at hlk rfl⟩, hnm, hwd.at him rfl⟩ hPre rfl hAl hI.2.2.1.1 hst hws (by show decode _ (pcs i) = _; rw [hpi]; exact hd0) ⟨r3, r4⟩
    · exact vx_runI (bytes := (bYt mi).2.1) (maxL := (bMt mi).2.2) hfix hM ⟨⟨c1, c2, c3, c4, c5, c6, c7, c8, c9, c10, hwd.at hlk rfl⟩, hnm, hwd.at him rfl⟩ hPre rfl hAl hI.2.2.1.1 hst hws (by show decode _ (pcs i) = _; rw [hpi]; exact hd0) ⟨r3, r4⟩
  refine sm_fin hown hE hpcs htab hH hcl hlocks hwk hQf hlen (by rw [f1, hpi]) hI hcr hle hrun hret fun v hv adr' w cr' hvo hs => ?_
  obtain ⟨⟨rfl, g1⟩, -, g2⟩ := hv
  cases w with
  | some w => exact hvo.elim
  | none =>
    obtain ⟨q, rfl, -, hq⟩ := bSr_raw hs
    exact ⟨_, g2, ⟨⟨rfl, Or.inl g1⟩, hq⟩⟩
end

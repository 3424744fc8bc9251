/-! THE RUN: the abstract step is the machine's; calls by levels -/
theorem lg_sl_len {adr : Nat → Nat} {σ : bSt} : ∀ {as cs : List Value}, bSr adr σ as cs → (lg_sl cs).length ≤ bCat as
  | [], [], _ => Nat.le_refl _
  | a :: l, v :: r, h => by
    have ih := lg_sl_len h.2
    have e : (lg_sl (v :: r)).length = (if v.category = 2 then 2 else 1) + (lg_sl r).length := by
      unfold lg_sl
      rw [List.flatMap_cons, List.length_append]
      split <;> rfl
    rw [e]
    cases a with
    | long x =>
      rw [show v = .long x from h.1]
      show 2 + _ ≤ 2 + bCat l
      omega
    | double x => exact h.1.elim
    | int x =>
      rw [if_neg (by rw [h.1.cat (fun _ h => by cases h)]; decide)]
      show 1 + _ ≤ 1 + bCat l
      omega
    | null =>
      rw [if_neg (by rw [h.1.cat (fun _ h => by cases h)]; decide)]
      show 1 + _ ≤ 1 + bCat l
      omega
    | ref x =>
      rw [if_neg (by rw [h.1.cat (fun _ h => by cases h)]; decide)]
      show 1 + _ ≤ 1 + bCat l
      omega
    | retAddr x =>
      rw [if_neg (by rw [h.1.cat (fun _ h => by cases h)]; decide)]
      show 1 + _ ≤ 1 + bCat l
      omega
    | float x =>
      rw [if_neg (by rw [h.1.cat (fun _ h => by cases h)]; decide)]
      show 1 + _ ≤ 1 + bCat l
      omega
  | [], _ :: _, h => h.elim
  | _ :: _, [], h => h.elim
theorem bnth_rep : ∀ (n k : Nat), bnth (List.replicate n (Value.float 0)) k (.float 0) = .float 0
  | 0, _ => rfl
  | n + 1, 0 => rfl
  | n + 1, k + 1 => bnth_rep n k
theorem bEnt_at {adr : Nat → Nat} {σ : bSt} : ∀ {as cs : List Value}, bSr adr σ as cs → ∀ (off n k : Nat), bIsF (bnth (bEnt n as) k (.float 0)) = true ∨ ∃ v, (off + k, v) ∈ lv_args off cs ∧ bVr adr σ (bnth (bEnt n as) k (.float 0)) v
  | [], [], _, off, n, k => Or.inl (by
      show bIsF (bnth (List.replicate n (Value.float 0)) k (.float 0)) = true
      rw [bnth_rep]
      rfl)
  | a :: l, v :: r, h, off, n, k => by
    have one : (∀ x, a ≠ .long x) → bIsF (bnth (a :: bEnt (n - 1) l) k (.float 0)) = true ∨ ∃ w, (off + k, w) ∈ lv_args off (v :: r) ∧ bVr adr σ (bnth (a :: bEnt (n - 1) l) k (.float 0)) w := by
      intro ha
      have hc := h.1.cat ha
      cases k with
      | zero => exact Or.inr ⟨v, by simp [lv_args], h.1⟩
      | succ k =>
        rcases bEnt_at h.2 (off + 1) (n - 1) k with q | ⟨w, q1, q2⟩
        · exact Or.inl q
        · refine Or.inr ⟨w, ?_, q2⟩
          rw [show off + (k + 1) = off + 1 + k by omega]
          simp only [lv_args, hc]
          exact List.mem_cons_of_mem _ q1
    cases a with
    | long x =>
      have hv : v = .long x := h.1
      match k with
      | 0 => exact Or.inr ⟨v, by simp [lv_args], h.1⟩
      | 1 => exact Or.inl rfl
      | k + 2 =>
        rcases bEnt_at h.2 (off + 2) (n - 2) k with q | ⟨w, q1, q2⟩
        · exact Or.inl q
        · refine Or.inr ⟨w, ?_, q2⟩
          rw [show off + (k + 2) = off + 2 + k by omega, hv]
          exact List.mem_cons_of_mem _ q1
    | double x => exact h.1.elim
    | int x => exact one (fun _ h => by cases h)
    | null => exact one (fun _ h => by cases h)
    | ref x => exact one (fun _ h => by cases h)
    | retAddr x => exact one (fun _ h => by cases h)
    | float x => exact one (fun _ h => by cases h)
  | [], _ :: _, h, _, _, _ => h.elim
  | _ :: _, [], h, _, _, _ => h.elim
theorem bEnt_lr {adr : Nat → Nat} {σ : bSt} {as cs : List Value} {nL : Nat} (h : bSr adr σ as cs) (hn : bCat as ≤ nL) : bLr adr σ (bEnt nL as) ((lg_sl cs ++ List.replicate (nL - (lg_sl cs).length) Slot.unset).toArray) nL := by
  obtain ⟨h1, h2, h3⟩ := lv_entry cs (Nat.le_trans (lg_sl_len h) hn)
  refine ⟨h1, h2, fun k => ?_⟩
  rcases bEnt_at h 0 nL k with q | ⟨v, q1, q2⟩
  · exact Or.inl q
  · rw [Nat.zero_add] at q1
    exact Or.inr ⟨v, h3 _ q1, q2⟩
theorem bLe_step {lvl d : Nat} {M : bM} {oE : bOut} {σE : bSt} {K : bPt → Prop} {y : bPt} (hK : ∀ z, K z → bLe z.2.2.2 σE) (h : bStep lvl M (bWp d) (bEx oE σE) K y) : bLe y.2.2.2 σE := by
  rcases bW_one h with ⟨z, kz, b, -⟩ | ⟨o, s, ⟨-, rfl⟩, b, -⟩ | ⟨n, as, f, q, g, t, f1, g1, t1, a, -⟩
  · exact b.tr (hK z kz)
  · exact b
  · obtain ⟨o1, s1, r1, r2, -⟩ := bWp_det d _ _ _ _ a
    refine r2.tr ?_
    unfold bRet at r1
    split at r1
    · have := hK _ ((f1 _ _ _).mp r1).2
      rw [g1] at this
      exact this
    · split at r1
      · have := hK _ r1
        rw [t1] at this
        exact this
      · rw [r1.2]
        exact bLe.rf
noncomputable def bThB (n : Nat) (M : bM) : Bool := M.1.all fun b => b.all fun e => match e with
  | (pc, .new ix, _, _, _, [1, E, _, _, _], _) => Nat.blt E 3 && decide (M.2.1 = []) && decide ((bYt n).1.cls = "Buildmill") && Nat.beq ix (59 + 3 * E) && decide (decode (bYt n).2.1 (pc + 3) = .ok (.dup, 1)) && decide (decode (bYt n).2.1 (pc + 4) = .ok (.invokespecial (61 + 3 * E), 3)) && decide (decode (bYt n).2.1 (pc + 7) = .ok (.athrow, 1))
  | _ => true
theorem bThB_at {n : Nat} {M : bM} (h : bThB n M = true) {i pc ix len nxt tgt E a b z : Nat} {sw : List (Int32 × Nat)} (he : bRow M i = (pc, .new ix, len, nxt, tgt, [1, E, a, b, z], sw)) :
    E < 3 ∧ M.2.1 = [] ∧ (bYt n).1.cls = "Buildmill" ∧ ix = 59 + 3 * E ∧ decode (bYt n).2.1 (pc + 3) = .ok (.dup, 1) ∧ decode (bYt n).2.1 (pc + 4) = .ok (.invokespecial (61 + 3 * E), 3) ∧ decode (bYt n).2.1 (pc + 7) = .ok (.athrow, 1) := by
  have hm : ∃ bl ∈ M.1, bRow M i ∈ bl := by
    unfold bRow at he ⊢
    rcases bnth_mem (l := bnth M.1 (i / 16) []) (k := i % 16) (d := bNo) with q | q
    · rw [q] at he
      cases he
    · rcases bnth_mem (l := M.1) (k := i / 16) (d := []) with q2 | q2
      · rw [q2] at q
        exact absurd q List.not_mem_nil
      · exact ⟨_, q2, q⟩
  obtain ⟨bl, hb1, hb2⟩ := hm
  have h2 := List.all_eq_true.mp (List.all_eq_true.mp h bl hb1) _ hb2
  rw [he] at h2
  simp only [Bool.and_eq_true, decide_eq_true_eq, Nat.beq_eq, Nat.blt_eq] at h2
  obtain ⟨⟨⟨⟨⟨⟨a1, a2⟩, a3⟩, a4⟩, a5⟩, a6⟩, a7⟩ := h2
  exact ⟨a1, a2, a3, a4, a5, a6, a7⟩
/-- what is decided of all methods but the law -/
def bGlob : Prop := (∀ n, n < 362 → n ≠ 357 → bOkM n (bMt n) ∧ bMf n ∧ bThB n (bMt n) = true ∧ (bRow (bMt n) 0).1 = 0) ∧ (∀ k, k < 3 → Cond.classLink "BuildmillLaw" (bIxE k) (bExn k) ∈ lw_tbl ∧ Cond.castable (bExn k) (bExn k) ∈ lw_tbl) ∧
  ∀ E, E < 3 → Cond.classLink "Buildmill" (59 + 3 * E) (bExn E) ∈ lw_tbl ∧ Cond.initialized (bExn E) ∈ lw_tbl ∧ ∀ w ∈ vx_at0 "Buildmill" (61 + 3 * E) (bExn E) bSup, w ∈ lw_tbl ∧ bMv w = true ∧ vx_ot w = true
theorem bFit : ∀ E, E < 3 → Bundle.fit (bExn E) = true ∧ ∀ n ∈ bSup, Bundle.fit n = true := by decide
section
variable {p : Program} {l : Launch} {e : Env} {R : Room} {s : State} {m : MethodId} {args : Array Value} {below : List Frame} {meth : Method} {c : Code} {D : va_G} {cA : Nat → ClassId} {b0 : Nat} {adr0 : Nat → Nat} {σ0 : bSt} {nL : Nat} {pcs : Nat → Nat} {Qf : State → Prop}
variable {i nxt tgt : Nat} {L L' st st' : List Value} {σ : bSt} {cc : ByteArray} {oE : bOut} {σE : bSt}
set_option maxHeartbeats 8000000 in
theorem bs_step {n d : Nat} {M : bM} (hG : bGlob) (hl : l.stackTraces = false) (hx : p.tables.exec = Jvm.exec) (hb : c.code = (bYt n).2.1) (hml : c.maxLocals = nL) (hown : s.vm.findClass (bYt n).1.cls = some m.cls) (hmn : meth.name = (bYt n).1.name) (hret : meth.sig.returnType = (bYt n).2.2) (hlocks : meth.locks = false) (hE : bEnv D cA b0 adr0 σ0 s) (hpcs : ∀ j, pcs j = (bRow M j).1)
    (htab : c.exceptionTable.toList = tableOf (M.2.1.map (bHq M))) (hokM : bOkM n M) (hH : bHokM M = true) (hcl : M.2.1 = [] ∨ (bYt n).1.cls = "BuildmillLaw") (hth : bThB n M = true) (hnL : M.2.2 = nL)
    (hQf : Qf = bQf below args s D cA b0 adr0 σ0 oE σE) (hR : bRo R d σ0 σE) (hle : bLe σ0 σE) (hMet : bMet l d) (h : bStep (d + 1) M (bWp d) (bEx oE σE) (fun y => bLe y.2.2.2 σE ∧ bG p l e R s m args below meth c D cA b0 adr0 σ0 nL pcs Qf y) (i, L, st, σ)) : bG p l e R s m args below meth c D cA b0 adr0 σ0 nL pcs Qf (i, L, st, σ) := by
  have hm : bStep (d + 1) M (bWp d) (bEx oE σE) (bG p l e R s m args below meth c D cA b0 adr0 σ0 nL pcs Qf ) (i, L, st, σ) := bStep_mono (fun z hz => hz.2) (fun _ _ hz => hz) (bWp_mono d) h
  have h' : bW (d + 1) M.2.1 i (bRow M i) (fun y => bLe y.2.2.2 σE ∧ bG p l e R s m args below meth c D cA b0 adr0 σ0 nL pcs Qf y) (bWp d) (bEx oE σE) L st σ := h
  have hm' : bW (d + 1) M.2.1 i (bRow M i) (bG p l e R s m args below meth c D cA b0 adr0 σ0 nL pcs Qf ) (bWp d) (bEx oE σE) L st σ := hm
  clear h hm
  have hwd := hE.2.2.2
  obtain ⟨hfr, hlo, hR1, hR2⟩ := id hR
  rcases hokM.row i with q | q
  · rw [q] at h'
    exact False.elim h'
  · generalize he : bRow M i = ev at h' hm' q
    by_cases p1 : bPure ev.2.1 = true
    · exact bs_pure hx hb hown hwd hnL hpcs he q p1 hm'
    by_cases p2 : bHeapI ev.2.1 = true
    · exact bs_heap hx hb hown hmn hE hpcs he q p2 hm'
    by_cases p3 : bMakeI ev = true
    · exact bs_make hx hb hml hown hE hpcs (by omega) (by omega) hR1 hR2 hle he q p3 h'
    by_cases p4 : ev.2.1 = .return_ ∨ ev.2.1 = .ireturn ∨ ev.2.1 = .lreturn ∨ ev.2.1 = .areturn
    · exact bs_end hx hb hret hlocks hE hpcs hQf he q p4 h'
    obtain ⟨pc, ins, len, nxt, tgt, aux, sw⟩ := ev
    have hpi : pcs i = pc := by rw [hpcs, he]
    have hd0 : decode (bYt n).2.1 pc = .ok (ins, len) := q.1
    cases ins
    case new ix =>
      have h2 : bNewO (d + 1) aux σ L st (fun id σ' => bLe σ' σE ∧ bG p l e R s m args below meth c D cA b0 adr0 σ0 nL pcs Qf (nxt, L, .retAddr id :: st, σ')) (bEx oE σE) := h'
      unfold bNewO at h2
      split at h2
      · exact absurd rfl p3
      · exact absurd rfl p3
      · exact absurd rfl p3
      · obtain ⟨g1, g2, g3, g4⟩ := h2
        obtain ⟨a1, a2, a3, rfl, a5, a6, a7⟩ := bThB_at hth he
        have hlen : len = 3 := Nat.eq_of_beq_eq_true q.2.2
        subst hlen
        obtain ⟨w1, w2, w3⟩ := hG.2.2 _ a1
        exact sm_throw (E := _) hx hb hml hl hown hE hpi a1 (bFit _ a1) (by rw [a3]; exact w1) w2 (by rw [a3]; exact w3) hd0 a5 a6 a7 (by rw [htab, a2]; rfl) hlocks (by omega) (by omega) hR1 hR2 hQf (Nat.le_of_ble_eq_true g1) g3.symm g4.symm
      · exact h2.elim
    case invokevirtual ix =>
      have h2 : bInv M.2.1 i nxt aux (fun y => bLe y.2.2.2 σE ∧ bG p l e R s m args below meth c D cA b0 adr0 σ0 nL pcs Qf y) (bWp d) (bEx oE σE) L st σ := h'
      unfold bInv at h2
      split at h2
      · exact absurd q.2.2 (by show ¬ false = true; decide)
      · exact absurd q.2.2 (by show ¬ false = true; decide)
      · rename_i ci mi k9
        have hs : (Nat.beq (bRow M nxt).1 (pc + len) && Nat.beq len 3 && Nat.blt mi 357 && decide ((bYt mi).1.cls = bCn ci) && Nat.blt ci 13 && bPlain (bYt mi).1 k9) = true := q.2.2
        simp only [Bool.and_eq_true, Nat.beq_eq, Nat.blt_eq, decide_eq_true_eq] at hs
        obtain ⟨⟨⟨⟨⟨f1, rfl⟩, f2⟩, f3⟩, f4⟩, f5⟩ := hs
        rw [← hpcs] at f1
        split at h2
        · rename_i hT
          obtain ⟨g1, g2⟩ := h2
          split at g2
          · rename_i hc
            rw [Bool.and_eq_true] at hc
            exact sm_virt (tgt9 := tgt) hx hb hml hown hE hpcs htab hH hcl hlocks hG.2.1 hQf hR hMet (by rw [he]; show (3 : Nat) ≠ 0; decide) hpi hd0 f1 f2 (hG.1 mi (Nat.lt_trans f2 (by decide)) (Nat.ne_of_lt f2)).2.1 f3 f4 f5 (q.2.1 _ (by simp [bNd])) (q.2.1 _ (by simp [bNd])) (q.2.1 _ (by simp [bNd])) (q.2.1 _ (by simp [bNd])) hT g1 (Nat.le_of_ble_eq_true hc.2) g2
          · exact g2.elim
        · exact h2.elim
      · exact absurd q.2.2 (by show ¬ false = true; decide)
      · exact absurd q.2.2 (by show ¬ false = true; decide)
      · exact h2.elim
    case invokestatic ix =>
      have h2 : bInv M.2.1 i nxt aux (fun y => bLe y.2.2.2 σE ∧ bG p l e R s m args below meth c D cA b0 adr0 σ0 nL pcs Qf y) (bWp d) (bEx oE σE) L st σ := h'
      unfold bInv at h2
      split at h2
      · exact absurd q.2.2 (by show ¬ false = true; decide)
      · exact absurd rfl p3
      · exact absurd q.2.2 (by show ¬ false = true; decide)
      · rename_i mi k9
        have hs : (Nat.beq (bRow M nxt).1 (pc + len) && Nat.beq len 3 && Nat.blt mi 362 && bPlain (bYt mi).1 k9 && !(Nat.beq mi 357) && (Nat.beq tgt 0 || Nat.blt mi 314 || Nat.blt 357 mi)) = true := q.2.2
        simp only [Bool.and_eq_true, Bool.or_eq_true, Nat.beq_eq, Nat.blt_eq, Bool.not_eq_true'] at hs
        obtain ⟨⟨⟨⟨⟨f1, rfl⟩, f2⟩, f5⟩, f6⟩, f7⟩ := hs
        have f8 : mi ≠ 357 := fun z => by rw [z] at f6; cases f6
        rw [← hpcs] at f1
        split at h2
        · rename_i hT
          split at h2
          · rename_i hc
            rw [Bool.and_eq_true] at hc
            exact sm_stat (tgt9 := tgt) hx hb hml hown hE hpcs htab hH hcl hlocks hG.2.1 hQf hR hMet (by rw [he]; show (3 : Nat) ≠ 0; decide) hpi hd0 f1 f2 f8 (hG.1 mi f2 f8).2.1 f5 (by omega) (q.2.1 _ (by simp [bNd])) (q.2.1 _ (by simp [bNd])) (q.2.1 _ (by simp [bNd])) hT (Nat.le_of_ble_eq_true hc.2) h2
          · exact h2.elim
        · exact h2.elim
      · exact absurd q.2.2 (by show ¬ false = true; decide)
      · exact h2.elim
    case invokespecial ix =>
      have h2 : bInv M.2.1 i nxt aux (fun y => bLe y.2.2.2 σE ∧ bG p l e R s m args below meth c D cA b0 adr0 σ0 nL pcs Qf y) (bWp d) (bEx oE σE) L st σ := h'
      unfold bInv at h2
      split at h2
      · exact absurd rfl p3
      · exact absurd q.2.2 (by show ¬ false = true; decide)
      · exact absurd q.2.2 (by show ¬ false = true; decide)
      · exact absurd q.2.2 (by show ¬ false = true; decide)
      · rename_i ci mi k9
        have hs : (Nat.beq (bRow M nxt).1 (pc + len) && Nat.beq len 3 && Nat.blt mi 357 && decide ((bYt mi).1.cls = bCn ci) && Nat.blt ci 13 && bPlain (bYt mi).1 k9 && decide ((bYt mi).1.name = "<init>")) = true := q.2.2
        simp only [Bool.and_eq_true, Nat.beq_eq, Nat.blt_eq, decide_eq_true_eq] at hs
        obtain ⟨⟨⟨⟨⟨⟨f1, rfl⟩, f2⟩, f3⟩, f4⟩, f5⟩, f6⟩ := hs
        rw [← hpcs] at f1
        split at h2
        · rename_i hT
          obtain ⟨g1, rfl, g2⟩ := h2
          split at g2
          · rename_i hc
            rw [Bool.and_eq_true] at hc
            exact sm_spec (tgt9 := tgt) hx hb hml hown hE hpcs htab hH hcl hlocks hG.2.1 hQf hR hMet (by rw [he]; show (3 : Nat) ≠ 0; decide) hpi hd0 f1 f2 (hG.1 mi (Nat.lt_trans f2 (by decide)) (Nat.ne_of_lt f2)).2.1 f3 f4 f5 f6 (q.2.1 _ (by simp [bNd])) (q.2.1 _ (by simp [bNd])) (q.2.1 _ (by simp [bNd])) hT (Nat.le_of_ble_eq_true hc.2) g2
          · exact g2.elim
        · exact h2.elim
      · exact h2.elim
    all_goals first
      | exact False.elim h'
      | exact absurd rfl p1
      | exact absurd rfl p2
      | exact absurd rfl p3
      | exact absurd (by simp) p4
end
theorem bx_ofW {l : Launch} {y : MethodName} {ws ws' : List Cond} {rm : Room} {Pc : Array Value → State → Prop} {Qc : Array Value → State → Outcome → State → Prop} {XC : String → State → State → Prop} {mc ms : Nat} {free : Addr → Prop} {cc : ByteArray} {maxL : Nat} {ret : Option FieldType}
    (hy : plainFor y = true) (hw : ws = Cond.code y cc maxL ret :: ws')
    (body : ∀ p e s m args below meth c s₁, BodyLoose p l y (headSpec ws rm) cc maxL ret e s m args below meth c s₁ → c.maxLocals = maxL → (∀ x ∈ c.exceptionTable.toList, False) → Pc args s →
      W p l e (headSpec ws rm).room s m args below meth c s.heap [] 0 0 (vx_MQ below Qc XC args s mc ms free) (entryFrame m args maxL)) : vx_Met l y ws rm Pc Qc XC mc ms free := by
  refine MetFree.of_bodySF (code := cc) (maxLocals := maxL) (ret := ret) hy ?_ ?_
  · intro args s m h hn
    obtain ⟨meth, c, h1, h2, h3, h4, h5, h6, -, -⟩ := Cond.code_spec hn (atoms_spec (ws := ws) h _ (by rw [hw]; exact List.mem_cons_self))
    exact ⟨meth, c, h1, h2, h3, h4, h5, h6⟩
  · intro p e s m args below meth c s₁ B hml hP _
    have hh0 : s₁.heap = s.heap := by rw [B.state]; rfl
    have ht : ∀ x ∈ c.exceptionTable.toList, False := by
      obtain ⟨meth9, c9, h1, h2, -, -, -, -, h7, -⟩ := Cond.code_spec B.named (atoms_spec (ws := ws) B.pre _ (by rw [hw]; exact List.mem_cons_self))
      cases Option.some.inj (h1.symm.trans B.method)
      cases Option.some.inj (h2.symm.trans (Stand.of_body B).code)
      intro x hx
      rw [Array.isEmpty_iff.mp h7] at hx
      cases hx
    obtain ⟨t, a1, o, b1, b2, b3⟩ := body p e s m args below meth c s₁ B hml ht hP s₁ hh0 (Stand.of_body B)
    exact ⟨t, o, a1, b1, b2, b3⟩
theorem bx_ofWH {l : Launch} {y : MethodName} {ws ws' : List Cond} {rm : Room} {Pc : Array Value → State → Prop} {Qc : Array Value → State → Outcome → State → Prop} {XC : String → State → State → Prop} {mc ms : Nat} {free : Addr → Prop} {cc : ByteArray} {maxL : Nat} {ret : Option FieldType} {hh : List (Nat × Nat × Nat × Nat)}
    (hy : plainFor y = true) (hw : ws = Cond.codeWith y cc maxL ret hh :: ws')
    (body : ∀ p e s m args below meth c s₁, BodyLoose p l y (headSpec ws rm) cc maxL ret e s m args below meth c s₁ → c.maxLocals = maxL → Pc args s →
      W p l e (headSpec ws rm).room s m args below meth c s.heap [] 0 0 (vx_MQ below Qc XC args s mc ms free) (entryFrame m args maxL)) : vx_Met l y ws rm Pc Qc XC mc ms free := by
  refine MetFree.of_bodySF (code := cc) (maxLocals := maxL) (ret := ret) hy ?_ ?_
  · intro args s m h hn
    obtain ⟨m9, meth, c, hn9, h1, h2, h3, h4, -, h5, h6, -⟩ := Cond.codeWith_spec (atoms_spec (ws := ws) h _ (by rw [hw]; exact List.mem_cons_self))
    cases hn.symm.trans hn9
    exact ⟨meth, c, h1, h2, h3, h4, h5, h6⟩
  · intro p e s m args below meth c s₁ B hml hP _
    have hh0 : s₁.heap = s.heap := by rw [B.state]; rfl
    obtain ⟨t, a1, o, b1, b2, b3⟩ := body p e s m args below meth c s₁ B hml hP s₁ hh0 (Stand.of_body B)
    exact ⟨t, o, a1, b1, b2, b3⟩
theorem bExt.refl {adr : Nat → Nat} {σ : bSt} : bExt adr σ adr σ := ⟨fun _ _ => rfl, fun _ => Nat.le_refl _, bLe.rf⟩
theorem bMet_all {l : Launch} (hG : bGlob) (hl : l.stackTraces = false) : ∀ d, bMet l d
  | 0 => fun _ _ _ _ _ _ _ h => h.elim
  | d + 1 => by
    intro n as σ o1 σ1 hn hn2 hex D cA b0 adr
    obtain ⟨hok, ⟨w1, w2, w3, w4, w5, w6, w7⟩, hth, h0⟩ := hG.1 n hn hn2
    obtain ⟨o9, s9, ⟨-, rfl⟩, hle, -⟩ := bWp_det (d + 1) _ _ _ _ hex
    have body : ∀ (p : Program) (e : Env) (s : State) (m : MethodId) (args : Array Value) (below : List Frame) (meth : Method) (c : Code) (s₁ : State), BodyLoose p l (bYt n).1 (headSpec [bCw n] (bRm (d + 1) σ s9)) (bYt n).2.1 (bMt n).2.2 (bYt n).2.2 e s m args below meth c s₁ → c.maxLocals = (bMt n).2.2 → c.exceptionTable.toList = tableOf ((bMt n).2.1.map (bHq (bMt n))) → bPc D cA b0 adr σ as args s →
        W p l e (bRm (d + 1) σ s9) s m args below meth c s.heap [] 0 0 (vx_MQ below (bQc D cA b0 adr σ o1 s9) (bXC D cA b0 adr σ o1 s9) args s (s9.2.2.2.2.1 - σ.2.2.2.2.1) (s9.2.2.2.2.2 - σ.2.2.2.2.2) (fun q => b0 ≤ q)) (entryFrame m args (bMt n).2.2) := by
      intro p e s m args below meth c s₁ B hml htab hP
      obtain ⟨cs, rfl, hsr, hE⟩ := hP
      have hcat : bCat as ≤ (bMt n).2.2 := Nat.le_of_ble_eq_true hex.1
      obtain ⟨-, g⟩ := hex.2 (fun y => bLe y.2.2.2 s9 ∧ bG p l e (bRm (d + 1) σ s9) s m cs.toArray below meth c D cA b0 adr σ (bMt n).2.2 (fun j => (bRow (bMt n) j).1) (bQf below cs.toArray s D cA b0 adr σ o1 s9) y)
        (fun y hy => ⟨bLe_step (fun z hz => hz.1) hy, bs_step hG hl B.exec B.bytes hml (findClass_of_methodNamed B.named) (name_of_methodNamed B.named B.method).1 B.returns B.notSynchronized hE (fun _ => rfl) htab hok w3 w4 hth rfl rfl ⟨Nat.le_refl _, Nat.le_refl _, Nat.le_refl _, Nat.le_refl _⟩ hle (bMet_all hG hl d) hy⟩)
      have g2 := g adr s.heap [] _ [] ⟨hE.1, bExt.refl, bEnt_lr hsr hcat, trivial, fun q hq => absurd hq List.not_mem_nil, fun _ _ => rfl, Nat.le_refl _⟩
      rw [show ((0, bEnt (bMt n).2.2 as, [], σ) : bPt).2.2.2.2.2.2.2.1 - σ.2.2.2.2.1 = 0 from Nat.sub_self _, show ((0, bEnt (bMt n).2.2 as, [], σ) : bPt).2.2.2.2.2.2.2.2 - σ.2.2.2.2.2 = 0 from Nat.sub_self _] at g2
      rw [lg_entry_eq]
      change W p l e _ s m _ below meth c s.heap [] 0 0 _ (F0 m (bRow (bMt n) 0).1 _ []) at g2
      rw [h0] at g2
      exact g2
    cases hX : (bMt n).2.1 with
    | nil =>
      have hcw : bCw n = Cond.code (bYt n).1 (bYt n).2.1 (bMt n).2.2 (bYt n).2.2 := by
        unfold bCw
        rw [hX]
      exact bx_ofW (cc := (bYt n).2.1) (maxL := (bMt n).2.2) (ret := (bYt n).2.2) (ws' := []) w2 (by rw [hcw]) fun p e s m args below meth c s₁ B hml ht hP => body p e s m args below meth c s₁ B hml (by rw [hX]; exact List.eq_nil_iff_forall_not_mem.mpr ht) hP
    | cons x9 l9 =>
      have hcw : bCw n = Cond.codeWith (bYt n).1 (bYt n).2.1 (bMt n).2.2 (bYt n).2.2 ((bMt n).2.1.map (bHq (bMt n))) := by
        unfold bCw
        split
        · rename_i z
          rw [hX] at z
          cases z
        · rfl
      refine bx_ofWH (cc := (bYt n).2.1) (maxL := (bMt n).2.2) (ret := (bYt n).2.2) (hh := (bMt n).2.1.map (bHq (bMt n))) (ws' := []) w2 (by rw [hcw]) fun p e s m args below meth c s₁ B hml hP => body p e s m args below meth c s₁ B hml (vx_table (x := (bYt n).1) (bytes := (bYt n).2.1) (maxL' := (bMt n).2.2) (ret' := (bYt n).2.2) B ?_) hP
      have hp := B.pre
      obtain ⟨cs, rfl, hsr, hE⟩ := hP
      rw [hcw] at w1
      exact hE.2.2.2.at w1 rfl

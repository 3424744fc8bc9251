/-! objects and arrays made, Object's constructor, System.arraycopy -/
def bMakeI (e : bE) : Bool := match e.2.1, e.2.2.2.2.2.1 with
  | .new _, [1, _, _, _, _] => false
  | .new _, _ => true
  | .newarray _, _ => true
  | .anewarray _, _ => true
  | .invokespecial _, [6, _, _] => true
  | .invokestatic _, [7, _, _] => true
  | _, _ => false
theorem b_id {q a0 : Nat} (h : a0 < 256) : (256 * q + a0) % 256 = a0 := by omega
theorem b_len {k : Nat} (h : k ≤ 10000) : ¬ Int32.ofNat k < 0 ∧ (Int32.ofNat k).toNatClampNeg = k := by
  have e : (Int32.ofNat k).toInt = (k : Int) := Int32.toInt_ofNat_of_lt (by omega)
  refine ⟨fun z => ?_, ?_⟩
  · have := Int32.lt_iff_toInt_lt.mp z
    rw [e] at this
    simp at this
    omega
  · show (Int32.ofNat k).toInt.toNat = k
    rw [e]
    rfl
section
variable {p : Program} {l : Launch} {e : Env} {R : Room} {s : State} {m : MethodId} {args : Array Value} {below : List Frame} {meth : Method} {c : Code} {D : va_G} {cA : Nat → ClassId} {b0 : Nat} {adr0 : Nat → Nat} {σ0 : bSt} {nL : Nat} {pcs : Nat → Nat} {Qf : State → Prop}
variable {i nxt tgt : Nat} {L L' st st' : List Value} {σ : bSt} {cc : ByteArray}
theorem sm_newR {n pc ix ci id : Nat} {σ1 : bSt} (hx : p.tables.exec = Jvm.exec) (hb : c.code = (bYt n).2.1) (hown : s.vm.findClass (bYt n).1.cls = some m.cls) (hE : bEnv D cA b0 adr0 σ0 s) (hpi : pcs i = pc) (hd0 : decode (bYt n).2.1 pc = .ok (.new ix, 3)) (f1 : pcs nxt = pc + 3) (hci : ci < 13)
    (hcl : Cond.classLink (bYt n).1.cls ix (bCn ci) ∈ lw_tbl) (hin : Cond.instantiable (bCn ci) (bNf ci) ∈ lw_tbl) (hini : Cond.initialized (bCn ci) ∈ lw_tbl)
    (hR1 : σ1.2.2.2.2.1 - σ0.2.2.2.2.1 ≤ R.cells) (hR2 : σ1.2.2.2.2.2 - σ0.2.2.2.2.2 ≤ R.slots) (hle : bLe σ0 σ1) (hk : id % 256 = ci)
    (h : σ.2.2.2.1 id = 0 ∧ bLe (bNew σ id 1 (bNf ci)) σ1 ∧ bG p l e R s m args below meth c D cA b0 adr0 σ0 nL pcs Qf (nxt, L, .retAddr id :: st, bNew σ id 1 (bNf ci))) : bG p l e R s m args below meth c D cA b0 adr0 σ0 nL pcs Qf (i, L, st, σ) := by
  have hK := hE.2.1
  have hwd := hE.2.2.2
  obtain ⟨h1, ⟨h2, h3⟩, h4⟩ := h
  have e2 : σ.2.2.2.2.1 + 1 ≤ σ1.2.2.2.2.1 := h2
  have e3 : σ.2.2.2.2.2 + bNf ci ≤ σ1.2.2.2.2.2 := h3
  refine sm_new hci (fun k hk2 => bCf_ok hci hk2) (fun H' kC o a1 a2 => u_born (ws := u_ws (bCn ci) (bFn ci) (bNf ci)) (args := args) (bFty ci) (bCf_lay hwd hci) (fun _ h => h) (hK.1 ci hci) a1 a2 (fun k hk2 => bCf_ty hci hk2)) (fun H locs cells slots ls cst c1 c2 kk => ?_) hk h1 (by have := hle.1; omega) (by have := hle.2; omega) h4
  rw [hpi]
  refine W.newcK hx hb hown (hwd.at hcl rfl) (hwd.at hin rfl) (hwd.at hini rfl) rfl hd0 c1 c2 (hK.1 ci hci).2.1 rfl fun H' kC a1 a2 a3 a4 => ?_
  have g := kk H' kC a1 a2 a3 a4
  rw [f1] at g
  exact g
theorem sm_newaR {n pc id t : Nat} {at9 : ArrayType} {σ1 : bSt} (hx : p.tables.exec = Jvm.exec) (hb : c.code = (bYt n).2.1) (hE : bEnv D cA b0 adr0 σ0 s) (hpi : pcs i = pc) (hd0 : decode (bYt n).2.1 pc = .ok (.newarray at9, 2)) (f1 : pcs nxt = pc + 2)
    (hty : newarray.typeOf at9 = bEt t) (hcb : componentBytes (newarray.typeOf at9) ≤ 8) (hnm : ∀ cA' : ClassId, s.vm.findClass ("[" ++ (newarray.typeOf at9).toString) = some cA' → cA' = cA t) (hT : t ∈ bTs) (htt : bTy id = t) (harr : Cond.arrayClass (newarray.typeOf at9) ∈ lw_tbl) (hk : id % 256 < 200) (hk13 : ¬ id % 256 < 13)
    (hR1 : σ1.2.2.2.2.1 - σ0.2.2.2.2.1 ≤ R.cells) (hR2 : σ1.2.2.2.2.2 - σ0.2.2.2.2.2 ≤ R.slots) (hle : bLe σ0 σ1)
    (h0 : σ.2.2.2.1 id = 0) (hlen : bLen σ id ≤ 10000) (h : bLe (bNew σ id 2 (bLen σ id)) σ1 ∧ bG p l e R s m args below meth c D cA b0 adr0 σ0 nL pcs Qf (nxt, L, .ref id :: st, bNew σ id 2 (bLen σ id))) : bG p l e R s m args below meth c D cA b0 adr0 σ0 nL pcs Qf (i, L, .int (Int32.ofNat (bLen σ id)) :: st, σ) := by
  have hwd := hE.2.2.2
  obtain ⟨⟨h2, h3⟩, h4⟩ := h
  have e2 : σ.2.2.2.2.1 + 1 ≤ σ1.2.2.2.2.1 := h2
  have e3 : σ.2.2.2.2.2 + bLen σ id ≤ σ1.2.2.2.2.2 := h3
  obtain ⟨l1, l2⟩ := b_len hlen
  refine sm_newA hT htt hk hk13 rfl (fun H locs cells slots ls cst c1 c2 kk => ?_) h0 (by have := hle.1; omega) (by have := hle.2; omega) h4
  rw [hpi]
  refine va_newaK hx hb (hwd.at harr rfl) rfl hd0 rfl l1 l2 (Nat.le_trans (Nat.mul_le_mul hlen hcb) (by decide)) c1 c2 rfl fun H' cA' a1 a2 a3 _ a5 => ?_
  rw [hnm cA' a5, hty] at a1
  have g := kk H' a1 a2 a3
  rw [f1] at g
  exact g
theorem sm_anewR {n pc ix id t : Nat} {σ1 : bSt} (hx : p.tables.exec = Jvm.exec) (hb : c.code = (bYt n).2.1) (hown : s.vm.findClass (bYt n).1.cls = some m.cls) (hE : bEnv D cA b0 adr0 σ0 s) (hpi : pcs i = pc) (hd0 : decode (bYt n).2.1 pc = .ok (.anewarray ix, 3)) (f1 : pcs nxt = pc + 3)
    (ht : 10 ≤ t) (hT : t ∈ bTs) (htt : bTy id = t) (hcl : Cond.classLink (bYt n).1.cls ix (bCn (t - 10)) ∈ lw_tbl) (hov : Cond.arrayOver (.object (bCn (t - 10))) ∈ lw_tbl) (hk : id % 256 < 200) (hk13 : ¬ id % 256 < 13)
    (hR1 : σ1.2.2.2.2.1 - σ0.2.2.2.2.1 ≤ R.cells) (hR2 : σ1.2.2.2.2.2 - σ0.2.2.2.2.2 ≤ R.slots) (hle : bLe σ0 σ1)
    (h0 : σ.2.2.2.1 id = 0) (hlen : bLen σ id ≤ 10000) (h : bLe (bNew σ id 2 (bLen σ id)) σ1 ∧ bG p l e R s m args below meth c D cA b0 adr0 σ0 nL pcs Qf (nxt, L, .ref id :: st, bNew σ id 2 (bLen σ id))) : bG p l e R s m args below meth c D cA b0 adr0 σ0 nL pcs Qf (i, L, .int (Int32.ofNat (bLen σ id)) :: st, σ) := by
  have hwd := hE.2.2.2
  obtain ⟨⟨h2, h3⟩, h4⟩ := h
  have e2 : σ.2.2.2.2.1 + 1 ≤ σ1.2.2.2.2.1 := h2
  have e3 : σ.2.2.2.2.2 + bLen σ id ≤ σ1.2.2.2.2.2 := h3
  obtain ⟨l1, l2⟩ := b_len hlen
  refine sm_newA hT htt hk hk13 rfl (fun H locs cells slots ls cst c1 c2 kk => ?_) h0 (by have := hle.1; omega) (by have := hle.2; omega) h4
  rw [hpi]
  have hRA := (hE.2.1.2 t hT).2
  rw [bEt_ref ht] at hRA
  obtain ⟨kA2, comp2, -, -, -, k4⟩ := hRA
  refine W.anew hx hb hown (hwd.at hcl rfl) (hwd.at hov rfl) rfl hd0 rfl l1 (by rw [l2]; omega) c1 (by rw [l2]; exact c2) fun cA' kA comp a1 a2 a3 a4 => ?_
  cases a1.symm.trans k4
  rw [l2]
  have g := kk (H.push { cls := cA t, slots := Array.replicate (bLen σ id) .null, vm := .none }) (by rw [bEt_ref ht, arrV_new]; simp [defaultValue]) (by simp) (fun q hq => by rw [Array.getElem?_push, if_neg (Nat.ne_of_lt hq)])
  rw [f1] at g
  exact g
theorem sm_objI {n pc ix : Nat} {r : List Value} (hx : p.tables.exec = Jvm.exec) (hb : c.code = (bYt n).2.1) (hml : c.maxLocals = nL) (hown : s.vm.findClass (bYt n).1.cls = some m.cls) (hE : bEnv D cA b0 adr0 σ0 s) (hpi : pcs i = pc) (hd0 : decode (bYt n).2.1 pc = .ok (.invokespecial ix, 3)) (f1 : pcs nxt = pc + 3)
    (hlk : Cond.methodLink (bYt n).1.cls ix objectInit ∈ lw_tbl) (him : Cond.instanceMethod objectInit ∈ lw_tbl) (hcd : Cond.code objectInit ⟨#[0xb1]⟩ 1 none ∈ lw_tbl) (hfr : 1 ≤ R.frames) (hlo : 43 ≤ R.locals)
    {a : Nat} (hc : bCat r ≤ 8) (h : bG p l e R s m args below meth c D cA b0 adr0 σ0 nL pcs Qf (nxt, L, r, σ)) : bG p l e R s m args below meth c D cA b0 adr0 σ0 nL pcs Qf (i, L, .retAddr a :: r, σ) := by
  have hwd := hE.2.2.2
  refine sm_go h fun adr H locs cells slots ls cst hl hs kk => ?_
  obtain ⟨cr, rfl, -, hr⟩ := bSr_raw hs
  have hsum := bCat_sum hr
  have g := kk _ _ hl hr
  rw [f1] at g
  rw [hpi]
  refine W.objInit hx hb hown (hwd.at hlk rfl) (hwd.at him rfl) (hwd.at hcd rfl) rfl (by rw [hml]; exact hl.1) rfl hd0 hfr ?_ g
  show 2 * 0 + _ + 12 ≤ _
  omega
theorem sm_copy {n pc ix : Nat} {r : List Value} {k d0 s0 : Int32} {a b : Nat} (hx : p.tables.exec = Jvm.exec) (hb : c.code = (bYt n).2.1) (hml : c.maxLocals = nL) (hown : s.vm.findClass (bYt n).1.cls = some m.cls) (hE : bEnv D cA b0 adr0 σ0 s) (hpi : pcs i = pc) (hd0 : decode (bYt n).2.1 pc = .ok (.invokestatic ix, 3)) (f1 : pcs nxt = pc + 3)
    (hlk : Cond.methodLink (bYt n).1.cls ix arraycopyName ∈ lw_tbl) (hna : Cond.native arraycopyName ∈ lw_tbl) (hst : Cond.static arraycopyName ∈ lw_tbl) (hin : Cond.initialized "java/lang/System" ∈ lw_tbl) (hfr : 1 ≤ R.frames) (hlo : 43 ≤ R.locals)
    (hc : bCat r ≤ 8) (ta : bTy a = 0) (tb : bTy b = 0) (hab : ¬ a = b) (hbk : b % 256 < 200) (z1 : 0 ≤ k.toInt) (z2 : 0 ≤ s0.toInt) (z3 : 0 ≤ d0.toInt) (z4 : s0.toInt + k.toInt ≤ (bLen σ a : Int)) (z5 : d0.toInt + k.toInt ≤ (bLen σ b : Int))
    (h : bG p l e R s m args below meth c D cA b0 adr0 σ0 nL pcs Qf (nxt, L, r, (fun a' k' => if a' = b ∧ d0.toInt.toNat ≤ k' ∧ k' < d0.toInt.toNat + k.toInt.toNat then σ.1 a (s0.toInt.toNat + (k' - d0.toInt.toNat)) else σ.1 a' k', σ.2))) : bG p l e R s m args below meth c D cA b0 adr0 σ0 nL pcs Qf (i, L, .int k :: .int d0 :: .ref b :: .int s0 :: .ref a :: r, σ) := by
  have hwd := hE.2.2.2
  have hK := hE.2.1
  intro adr H locs ls cst hI T hT X
  have hI' := hI
  obtain ⟨h1, h2, h3, h4, h5⟩ := hI
  obtain ⟨c1, rfl, hr1⟩ := bSr_int h4
  obtain ⟨c2, rfl, hr2⟩ := bSr_int hr1
  obtain ⟨c3, rfl, hlb, hr3⟩ := bSr_ref hr2
  obtain ⟨c4, rfl, hr4⟩ := bSr_int hr3
  obtain ⟨cr, rfl, hla, hr⟩ := bSr_ref hr4
  have hsum := bCat_sum hr
  obtain ⟨cs, q1, ⟨q2, ks, q3, cm, q4⟩, q5, q6, q7⟩ := bArr (σ := σ) hK h1 hla ta (by decide)
  have hl2 : σ.2.2.2.1 b = 2 := by
    rcases hlb with q | q | q
    · exact q
    · rw [q] at hbk
      exact absurd hbk (by decide)
    · rw [q] at hbk
      exact absurd hbk (by decide)
  have hne : σ.2.2.2.1 b ≠ 0 := by rw [hl2]; decide
  have no : ¬ b % 256 < 13 := fun q => by
    have h9 := bTy_obj _ q
    unfold bTy at tb
    rw [h9] at tb
    cases tb
  have hcell := (h1.2.1 b hne).2.2 no
  rw [tb] at hcell
  obtain ⟨-, kd, w3, cmd, w4⟩ := (hK.2 0 (by decide)).1 (bLen σ b) (bAv adr σ b 0)
  have nn : ∀ z : Int32, 0 ≤ z.toInt → ¬ z < 0 ∧ z.toInt = (z.toNatClampNeg : Int) := by
    intro z hz
    refine ⟨fun q => ?_, ?_⟩
    · have := Int32.lt_iff_toInt_lt.mp q
      simp at this
      omega
    · show z.toInt = ((z.toInt.toNat : Nat) : Int)
      omega
  obtain ⟨k1, k2⟩ := nn k z1
  obtain ⟨s1, s2⟩ := nn s0 z2
  obtain ⟨d1, d2⟩ := nn d0 z3
  have hle1 : s0.toNatClampNeg + k.toNatClampNeg ≤ bLen σ a := by omega
  have hle2 : d0.toNatClampNeg + k.toNatClampNeg ≤ bLen σ b := by omega
  have hg : ∀ j, j < k.toNatClampNeg → cs.slots.getD (s0.toNatClampNeg + j) .null = .int (σ.1 a (s0.toNatClampNeg + j)) := fun j hj => by
    rw [Array.getD_eq_getD_getElem?, q7 _ (by omega)]
    rfl
  have hls : ls.size = nL := h3.1
  obtain ⟨vm', X', step⟩ := X.arraycopy hx hown (hwd.at hlk rfl) (hwd.at hna rfl) (hwd.at hst rfl) (hwd.at hin rfl) (src := adr a) (dst := adr b) (cs := cs) (cd := arrV (cA 0) (bLen σ b) (bAv adr σ b 0)) (srcPos := s0) (destPos := d0) (n := k) (by rw [hT]; exact q1) (by rw [hT]; exact hcell)
    q2 (fun _ h => by cases h) q5 (fun h => by cases h) q3 w3 q4 w4 (by simp [refKind, bEt]) s1 d1 k1
    (by rw [s2, k2, q6]; omega)
    (by rw [d2, k2, arrV_size]; omega)
    (fun vm₁ _ j hj => by
      rw [hg j hj]
      exact ⟨rfl, trivial⟩)
    (g := F0 m (pcs i) ls (.int k :: .int d0 :: .ref (adr b) :: .int s0 :: .ref (adr a) :: cr)) rfl (by rw [hml]; exact hls) (rest := cr) rfl (by rw [hb]; show decode _ (pcs i) = _; rw [hpi]; exact hd0) hfr (by
      have hw : nativeFrameWords "java/lang/System" "arraycopy" 5 = 7 := by decide
      rw [hw]
      show 2 * 0 + _ + _ ≤ _
      omega)
  have e1 : copied cs (arrV (cA 0) (bLen σ b) (bAv adr σ b 0)) s0 d0 k = arrV (cA 0) (bLen σ b) (fun j => .int (va_cpy (σ.1 a) (σ.1 b) s0.toNatClampNeg d0.toNatClampNeg k.toNatClampNeg j)) := va_copiedX (fun z => .int z) cs (cA 0) (σ.1 a) (σ.1 b) q7 hle1
  rw [e1] at X' step
  generalize hcd : arrV (cA 0) (bLen σ b) (fun j => Value.int (va_cpy (σ.1 a) (σ.1 b) s0.toNatClampNeg d0.toNatClampNeg k.toNatClampNeg j)) = cd at X' step
  have hl : adr b < H.size := (Array.getElem?_eq_some_iff.mp hcell).1
  have hheap : ((T.setVm vm').setCell (adr b) cd).heap = H.setIfInBounds (adr b) cd := by rw [← hT]; rfl
  have oq : ∀ q : Nat, q ≠ adr b → (H.setIfInBounds (adr b) cd)[q]? = H[q]? := fun q hq => by simp [Array.getElem?_setIfInBounds, Ne.symm hq]
  have hse : (H.setIfInBounds (adr b) cd)[adr b]? = some cd := by simp [Array.getElem?_setIfInBounds, hl]
  have hn : ∀ j, j ≠ b → (fun k' => if j = b ∧ d0.toInt.toNat ≤ k' ∧ k' < d0.toInt.toNat + k.toInt.toNat then σ.1 a (s0.toInt.toNat + (k' - d0.toInt.toNat)) else σ.1 j k') = σ.1 j ∧ σ.2.1 j = σ.2.1 j ∧ σ.2.2.1 j = σ.2.2.1 j := fun j hj => ⟨by funext q; rw [if_neg (fun z => hj z.1)], rfl, rfl⟩
  have hB : bOb D cA adr ((fun a' k' => if a' = b ∧ d0.toInt.toNat ≤ k' ∧ k' < d0.toInt.toNat + k.toInt.toNat then σ.1 a (s0.toInt.toNat + (k' - d0.toInt.toNat)) else σ.1 a' k', σ.2) : bSt) b (H.setIfInBounds (adr b) cd) := by
    refine ⟨fun q => absurd q no, fun _ => ?_⟩
    rw [hse, tb, ← hcd]
    congr 2
    funext j
    show Value.int (va_cpy (σ.1 a) (σ.1 b) s0.toNatClampNeg d0.toNatClampNeg k.toNatClampNeg j) = Value.int (if b = b ∧ d0.toNatClampNeg ≤ j ∧ j < d0.toNatClampNeg + k.toNatClampNeg then σ.1 a (s0.toNatClampNeg + (j - d0.toNatClampNeg)) else σ.1 b j)
    unfold va_cpy
    simp
  obtain ⟨i1, i2, i3, i4, i5, i6, i7⟩ := bIn_put (nxt := nxt) (sl := 0) (σ' := ((fun a' k' => if a' = b ∧ d0.toInt.toNat ≤ k' ∧ k' < d0.toInt.toNat + k.toInt.toNat then σ.1 a (s0.toInt.toNat + (k' - d0.toInt.toNat)) else σ.1 a' k', σ.2) : bSt)) hI' hne rfl rfl (h1.1.same rfl rfl) (by simp) oq hB hn hr
  have g := h adr _ (locs ++ (cs.stretch s0.toNatClampNeg k.toNatClampNeg).zipIdx.map fun q => ⟨adr b, d0.toNatClampNeg + q.2⟩) ls cr ⟨i1, i2, i3, i4, fun q hq => by
    rcases List.mem_append.mp hq with w | w
    · exact h5.1 q w
    · obtain ⟨z, -, hz⟩ := List.mem_map.mp w
      rw [← hz]
      exact (h1.2.1 b hne).1, i6, i7⟩
  rw [f1, ← hpi] at g
  obtain ⟨t, a1, b1⟩ := g _ hheap X'
  exact ⟨t, step t a1, b1⟩
set_option maxHeartbeats 4000000 in
theorem bs_make {n lvl : Nat} {M : bM} {X : List (Nat × Nat × Nat × Nat)} {C : bCall} {Q : bPost} {ev : bE} {σ1 : bSt} (hx : p.tables.exec = Jvm.exec) (hb : c.code = (bYt n).2.1) (hml : c.maxLocals = nL) (hown : s.vm.findClass (bYt n).1.cls = some m.cls) (hE : bEnv D cA b0 adr0 σ0 s) (hpcs : ∀ j, pcs j = (bRow M j).1)
    (hfr : 1 ≤ R.frames) (hlo : 43 ≤ R.locals) (hR1 : σ1.2.2.2.2.1 - σ0.2.2.2.2.1 ≤ R.cells) (hR2 : σ1.2.2.2.2.2 - σ0.2.2.2.2.2 ≤ R.slots) (hle : bLe σ0 σ1)
    (he : bRow M i = ev) (hok : bRok n M ev) (hp : bMakeI ev = true) (h : bW lvl X i ev (fun y => bLe y.2.2.2 σ1 ∧ bG p l e R s m args below meth c D cA b0 adr0 σ0 nL pcs Qf y) C Q L st σ) : bG p l e R s m args below meth c D cA b0 adr0 σ0 nL pcs Qf (i, L, st, σ) := by
  obtain ⟨pc, ins, len, nxt, tgt, aux, sw⟩ := ev
  have hpi : pcs i = pc := by rw [hpcs, he]
  have hd0 : decode (bYt n).2.1 pc = .ok (ins, len) := hok.1
  have hwd := hE.2.2.2
  cases ins
  case new ix =>
    have h2 : bNewO lvl aux σ L st (fun id σ' => bLe σ' σ1 ∧ bG p l e R s m args below meth c D cA b0 adr0 σ0 nL pcs Qf (nxt, L, .retAddr id :: st, σ')) Q := h
    unfold bNewO at h2
    split at h2
    · rename_i ci n9 x y
      have hs : (Nat.beq (bRow M nxt).1 (pc + len) && Nat.beq len 3 && Nat.blt ci 13 && Nat.beq n9 (bNf ci)) = true := hok.2.2
      simp only [Bool.and_eq_true, Nat.beq_eq, Nat.blt_eq] at hs
      obtain ⟨⟨⟨f1, rfl⟩, f2⟩, rfl⟩ := hs
      rw [← hpcs] at f1
      unfold bAtK at h2
      split at h2
      · exact sm_newR hx hb hown hE hpi hd0 f1 f2 (hok.2.1 _ (by simp [bNd])) (hok.2.1 _ (by simp [bNd])) (hok.2.1 _ (by simp [bNd])) hR1 hR2 hle (b_id (Nat.lt_trans f2 (by decide))) h2
      · exact sm_newR hx hb hown hE hpi hd0 f1 f2 (hok.2.1 _ (by simp [bNd])) (hok.2.1 _ (by simp [bNd])) (hok.2.1 _ (by simp [bNd])) hR1 hR2 hle (b_id (Nat.lt_trans f2 (by decide))) h2
      · exact h2.elim
    · rename_i ci n9 x y
      have hs : (Nat.beq (bRow M nxt).1 (pc + len) && Nat.beq len 3 && Nat.blt ci 13 && Nat.beq n9 (bNf ci)) = true := hok.2.2
      simp only [Bool.and_eq_true, Nat.beq_eq, Nat.blt_eq] at hs
      obtain ⟨⟨⟨f1, rfl⟩, f2⟩, rfl⟩ := hs
      rw [← hpcs] at f1
      exact sm_newR hx hb hown hE hpi hd0 f1 f2 (hok.2.1 _ (by simp [bNd])) (hok.2.1 _ (by simp [bNd])) (hok.2.1 _ (by simp [bNd])) hR1 hR2 hle (b_id (Nat.lt_trans f2 (by decide))) h2
    · rename_i ci n9 x y
      have hs : (Nat.beq (bRow M nxt).1 (pc + len) && Nat.beq len 3 && Nat.blt ci 13 && Nat.beq n9 (bNf ci)) = true := hok.2.2
      simp only [Bool.and_eq_true, Nat.beq_eq, Nat.blt_eq] at hs
      obtain ⟨⟨⟨f1, rfl⟩, f2⟩, rfl⟩ := hs
      rw [← hpcs] at f1
      exact sm_newR hx hb hown hE hpi hd0 f1 f2 (hok.2.1 _ (by simp [bNd])) (hok.2.1 _ (by simp [bNd])) (hok.2.1 _ (by simp [bNd])) hR1 hR2 hle (b_id (Nat.lt_trans f2 (by decide))) h2
    · cases hp
    · exact h2.elim
  case newarray at9 =>
    have h2 : bNewA aux σ L st (fun r σ' => bLe σ' σ1 ∧ bG p l e R s m args below meth c D cA b0 adr0 σ0 nL pcs Qf (nxt, L, r, σ')) := h
    have hs : (Nat.beq (bRow M nxt).1 (pc + len) && Nat.beq len 2 && Nat.ble 13 (bnth aux 0 0) && Nat.blt (bnth aux 0 0) 200 && (match (generalizing := false) at9 with
      | .int => Nat.beq (bTy (bnth aux 0 0)) 0
      | .boolean => Nat.beq (bTy (bnth aux 0 0)) 1
      | .long => Nat.beq (bTy (bnth aux 0 0)) 2
      | _ => false)) = true := hok.2.2
    simp only [Bool.and_eq_true, Nat.beq_eq, Nat.blt_eq, Nat.ble_eq] at hs
    obtain ⟨⟨⟨⟨f1, rfl⟩, f2⟩, f3⟩, f4⟩ := hs
    rw [← hpcs] at f1
    unfold bNewA at h2
    split at h2
    · rename_i k r
      have key : ∀ a : Nat, (σ.2.2.2.1 (256 * (1 * (a / 256) + 0) + bnth aux 0 0) = 0 ∧ k = Int32.ofNat (bLen σ (256 * (1 * (a / 256) + 0) + bnth aux 0 0)) ∧ (256 * (1 * (a / 256) + 0) + bnth aux 0 0) % 256 < 200 ∧ bLen σ (256 * (1 * (a / 256) + 0) + bnth aux 0 0) ≤ 10000 ∧ (bLe (bNew σ (256 * (1 * (a / 256) + 0) + bnth aux 0 0) 2 (bLen σ (256 * (1 * (a / 256) + 0) + bnth aux 0 0))) σ1 ∧ bG p l e R s m args below meth c D cA b0 adr0 σ0 nL pcs Qf (nxt, L, .ref (256 * (1 * (a / 256) + 0) + bnth aux 0 0) :: r, bNew σ (256 * (1 * (a / 256) + 0) + bnth aux 0 0) 2 (bLen σ (256 * (1 * (a / 256) + 0) + bnth aux 0 0))))) → bG p l e R s m args below meth c D cA b0 adr0 σ0 nL pcs Qf (i, L, .int k :: r, σ) := by
        intro a ⟨g1, g2, g3, g4, g5⟩
        have hm := b_id (q := 1 * (a / 256) + 0) (Nat.lt_trans f3 (by decide : 200 < 256))
        have htt : bTy (256 * (1 * (a / 256) + 0) + bnth aux 0 0) = bTy (bnth aux 0 0) := by
          unfold bTy
          rw [hm, Nat.mod_eq_of_lt (Nat.lt_trans f3 (by decide : 200 < 256))]
        rw [g2]
        cases at9
        case int =>
          simp only [Nat.beq_eq] at f4
          exact sm_newaR (t := 0) hx hb hE hpi hd0 f1 rfl (by decide) (fun cA' hq => Option.some.inj (hq.symm.trans (hE.2.1.2 0 (by decide)).2)) (by decide) (by rw [htt]; exact f4) (hok.2.1 _ (by simp [bNd, newarray.typeOf])) g3 (by rw [hm]; omega) hR1 hR2 hle g1 g4 g5
        case boolean =>
          simp only [Nat.beq_eq] at f4
          exact sm_newaR (t := 1) hx hb hE hpi hd0 f1 rfl (by decide) (fun cA' hq => Option.some.inj (hq.symm.trans (hE.2.1.2 1 (by decide)).2)) (by decide) (by rw [htt]; exact f4) (hok.2.1 _ (by simp [bNd, newarray.typeOf])) g3 (by rw [hm]; omega) hR1 hR2 hle g1 g4 g5
        case long =>
          simp only [Nat.beq_eq] at f4
          exact sm_newaR (t := 2) hx hb hE hpi hd0 f1 rfl (by decide) (fun cA' hq => Option.some.inj (hq.symm.trans (hE.2.1.2 2 (by decide)).2)) (by decide) (by rw [htt]; exact f4) (hok.2.1 _ (by simp [bNd, newarray.typeOf])) g3 (by rw [hm]; omega) hR1 hR2 hle g1 g4 g5
        all_goals cases f4
      unfold bAtK at h2
      split at h2
      · exact key _ h2
      · exact key _ h2
      · exact h2.elim
    · exact h2.elim
  case anewarray ix =>
    have h2 : bNewA aux σ L st (fun r σ' => bLe σ' σ1 ∧ bG p l e R s m args below meth c D cA b0 adr0 σ0 nL pcs Qf (nxt, L, r, σ')) := h
    have hs : (Nat.beq (bRow M nxt).1 (pc + len) && Nat.beq len 3 && Nat.ble 13 (bnth aux 0 0) && Nat.blt (bnth aux 0 0) 200 && Nat.ble 10 (bTy (bnth aux 0 0)) && Nat.blt (bTy (bnth aux 0 0)) 23) = true := hok.2.2
    simp only [Bool.and_eq_true, Nat.beq_eq, Nat.blt_eq, Nat.ble_eq] at hs
    obtain ⟨⟨⟨⟨⟨f1, rfl⟩, f2⟩, f3⟩, f4⟩, f5⟩ := hs
    rw [← hpcs] at f1
    match aux, hok, f2, f3, f4, h2 with
    | a0 :: aux', hok, f2, f3, f4, h2 =>
      unfold bNewA at h2
      split at h2
      · rename_i k r _
        have key : ∀ a : Nat, (σ.2.2.2.1 (256 * (1 * (a / 256) + 0) + a0) = 0 ∧ k = Int32.ofNat (bLen σ (256 * (1 * (a / 256) + 0) + a0)) ∧ (256 * (1 * (a / 256) + 0) + a0) % 256 < 200 ∧ bLen σ (256 * (1 * (a / 256) + 0) + a0) ≤ 10000 ∧ (bLe (bNew σ (256 * (1 * (a / 256) + 0) + a0) 2 (bLen σ (256 * (1 * (a / 256) + 0) + a0))) σ1 ∧ bG p l e R s m args below meth c D cA b0 adr0 σ0 nL pcs Qf (nxt, L, .ref (256 * (1 * (a / 256) + 0) + a0) :: r, bNew σ (256 * (1 * (a / 256) + 0) + a0) 2 (bLen σ (256 * (1 * (a / 256) + 0) + a0))))) → bG p l e R s m args below meth c D cA b0 adr0 σ0 nL pcs Qf (i, L, .int k :: r, σ) := by
          intro a ⟨g1, g2, g3, g4, g5⟩
          have f3' : a0 < 200 := f3
          have f2' : 13 ≤ a0 := f2
          have hm := b_id (q := 1 * (a / 256) + 0) (Nat.lt_trans f3' (by decide : 200 < 256))
          have htt : bTy (256 * (1 * (a / 256) + 0) + a0) = bTy a0 := by
            unfold bTy
            rw [hm, Nat.mod_eq_of_lt (Nat.lt_trans f3' (by decide : 200 < 256))]
          rw [g2]
          exact sm_anewR (t := bTy a0) hx hb hown hE hpi hd0 f1 f4 (bTy_codes a0 f4) htt (hok.2.1 _ (by simp [bNd])) (hok.2.1 _ (by simp [bNd])) g3 (by rw [hm]; omega) hR1 hR2 hle g1 g4 g5
        unfold bAtK at h2
        split at h2
        · exact key _ h2
        · exact key _ h2
        · exact h2.elim
      · exact h2.elim
    | [], hok, f2, f3, f4, h2 => exact absurd f2 (by decide)
  case invokespecial ix =>
    match aux, hok, hp, h with
    | [6, y1, y2], hok, hp, h =>
      have hs : (Nat.beq (bRow M nxt).1 (pc + len) && Nat.beq len 3) = true := hok.2.2
      simp only [Bool.and_eq_true, Nat.beq_eq] at hs
      obtain ⟨f1, rfl⟩ := hs
      rw [← hpcs] at f1
      have h2 : bInv X i nxt [6, y1, y2] (fun y => bLe y.2.2.2 σ1 ∧ bG p l e R s m args below meth c D cA b0 adr0 σ0 nL pcs Qf y) C Q L st σ := h
      unfold bInv at h2
      simp only at h2
      split at h2
      · exact sm_objI hx hb hml hown hE hpi hd0 f1 (hok.2.1 _ (by simp [bNd])) (hok.2.1 _ (by simp [bNd])) (hok.2.1 _ (by simp [bNd])) hfr hlo (Nat.le_of_ble_eq_true h2.1) h2.2.2
      · exact h2.elim
  case invokestatic ix =>
    match aux, hok, hp, h with
    | [7, y1, y2], hok, hp, h =>
      have hs : (Nat.beq (bRow M nxt).1 (pc + len) && Nat.beq len 3) = true := hok.2.2
      simp only [Bool.and_eq_true, Nat.beq_eq] at hs
      obtain ⟨f1, rfl⟩ := hs
      rw [← hpcs] at f1
      have h2 : bInv X i nxt [7, y1, y2] (fun y => bLe y.2.2.2 σ1 ∧ bG p l e R s m args below meth c D cA b0 adr0 σ0 nL pcs Qf y) C Q L st σ := h
      unfold bInv at h2
      simp only at h2
      split at h2
      · obtain ⟨w1, w2, w3, w4, w5, w6, w7, w8, w9, w10, -, w11⟩ := h2
        exact sm_copy hx hb hml hown hE hpi hd0 f1 (hok.2.1 _ (by simp [bNd])) (hok.2.1 _ (by simp [bNd])) (hok.2.1 _ (by simp [bNd])) (hok.2.1 _ (by simp [bNd])) hfr hlo (Nat.le_of_ble_eq_true w1) w2 w3 w4 w5 w6 w7 w8 w9 w10 w11
      · exact h2.elim
  all_goals cases hp
end

/-! the rows that touch no heap -/
theorem bWd.at {s : State} {args : Array Value} (h : bWd s) {w : Cond} (hw : w ∈ lw_tbl) (hm : bMv w = true) : w.before args s = true := by
  have hs := h.2 w hw hm
  unfold bMv at hm
  rcases Bool.or_eq_true_iff.mp hm with hg | hg
  · exact word_at (State.WarmedH.refl s) (good_of_word hg) hs
  · split at hg
    · exact va_Nw.use rfl hs
    · exact va_Nw.use rfl hs
    · exact va_Nw.use rfl hs
    · exact va_AO.use hs
    · cases hg
/-- the instructions of part 21 -/
def bPure : Instr → Bool
  | .iload _ => true
  | .iload_n _ => true
  | .lload _ => true
  | .lload_n _ => true
  | .aload _ => true
  | .aload_n _ => true
  | .istore _ => true
  | .istore_n _ => true
  | .lstore _ => true
  | .lstore_n _ => true
  | .astore _ => true
  | .astore_n _ => true
  | .iconst _ => true
  | .bipush _ => true
  | .sipush _ => true
  | .ldc _ => true
  | .ldc_w _ => true
  | .lconst _ => true
  | .ldc2_w _ => true
  | .aconst_null => true
  | .iadd => true
  | .isub => true
  | .imul => true
  | .iand => true
  | .ior => true
  | .ixor => true
  | .ishl => true
  | .ishr => true
  | .idiv => true
  | .irem => true
  | .iinc _ _ => true
  | .ladd => true
  | .lsub => true
  | .lmul => true
  | .land => true
  | .lor => true
  | .ldiv => true
  | .lrem => true
  | .lshl => true
  | .lshr => true
  | .lushr => true
  | .lcmp => true
  | .i2l => true
  | .l2i => true
  | .dup => true
  | .dup2 => true
  | .pop => true
  | .ifCond _ _ => true
  | .if_icmp _ _ => true
  | .ifnull _ => true
  | .ifnonnull _ => true
  | .goto _ => true
  | _ => false
section
variable {p : Program} {l : Launch} {e : Env} {R : Room} {s : State} {m : MethodId} {args : Array Value} {below : List Frame} {meth : Method} {c : Code} {D : va_G} {cA : Nat → ClassId} {b0 : Nat} {adr0 : Nat → Nat} {σ0 : bSt} {nL : Nat} {pcs : Nat → Nat} {Qf : State → Prop}
variable {i nxt tgt : Nat} {L L' st st' : List Value} {σ : bSt} {cc : ByteArray}
theorem sm_iinc {k : Nat} {d : Int32} (row : ∀ (H : Heap) (locs : List Loc) (cells slots : Nat) (ls : Array Slot) (cst : List Value) (x : Int32), ls[k]? = some (.val (.int x)) → lv_has ls nL (bLv ls) → (∀ ls' : Array Slot, lv_has ls' nL ((k, .int (x + d)) :: (bLv ls).filter (fun q => !(q.1 == k) && !(q.1 + 1 == k && q.2.category == 2))) → W p l e R s m args below meth c H locs cells slots Qf (F0 m (pcs nxt) ls' cst)) → W p l e R s m args below meth c H locs cells slots Qf (F0 m (pcs i) ls cst))
    (h : bLd 0 L k fun v => bIsI v fun x => bG p l e R s m args below meth c D cA b0 adr0 σ0 nL pcs Qf (nxt, bSt1 L k (.int (x + d)), st, σ)) : bG p l e R s m args below meth c D cA b0 adr0 σ0 nL pcs Qf (i, L, st, σ) := by
  unfold bLd at h
  split at h
  · rename_i x hx _
    refine sm_go (L' := bSt1 L k (.int (x + d))) (st' := st) h fun adr H locs cells slots ls cst hl hs kk => ?_
    obtain ⟨v, h1, h2⟩ := hl.at hx rfl
    rw [show v = .int x from h2] at h1
    exact row H locs cells slots ls cst x h1 (bLv_has hl.1 hl.2.1) fun ls' h' => kk ls' cst (hl.st1 rfl (fun _ z => by cases z) h') hs
  all_goals first | exact h.elim | (rename_i hz; cases hz)
theorem sm_dup (row : ∀ (H : Heap) (locs : List Loc) (cells slots : Nat) (ls : Array Slot) (cst : List Value) (v : Value), v.category = 1 → W p l e R s m args below meth c H locs cells slots Qf (F0 m (pcs nxt) ls (v :: v :: cst)) → W p l e R s m args below meth c H locs cells slots Qf (F0 m (pcs i) ls (v :: cst)))
    (h : match st with
    | v :: r => (match v with
      | .int x => bG p l e R s m args below meth c D cA b0 adr0 σ0 nL pcs Qf (nxt, L, .int x :: .int x :: r, σ)
      | .ref x => bG p l e R s m args below meth c D cA b0 adr0 σ0 nL pcs Qf (nxt, L, .ref x :: .ref x :: r, σ)
      | .retAddr x => bG p l e R s m args below meth c D cA b0 adr0 σ0 nL pcs Qf (nxt, L, .retAddr x :: .retAddr x :: r, σ)
      | _ => False)
    | _ => False) : bG p l e R s m args below meth c D cA b0 adr0 σ0 nL pcs Qf (i, L, st, σ) := by
  split at h
  · split at h
    · refine sm_go h fun adr H locs cells slots ls cst hl hs kk => ?_
      obtain ⟨r, rfl, hr⟩ := bSr_int hs
      exact row H locs cells slots ls r _ rfl (kk _ _ hl ⟨rfl, rfl, hr⟩)
    · refine sm_go h fun adr H locs cells slots ls cst hl hs kk => ?_
      obtain ⟨r, rfl, q, hr⟩ := bSr_ref hs
      exact row H locs cells slots ls r _ rfl (kk _ _ hl ⟨⟨rfl, q⟩, ⟨rfl, q⟩, hr⟩)
    · refine sm_go h fun adr H locs cells slots ls cst hl hs kk => ?_
      obtain ⟨r, rfl, q, hr⟩ := bSr_raw hs
      exact row H locs cells slots ls r _ rfl (kk _ _ hl ⟨⟨rfl, q⟩, ⟨rfl, q⟩, hr⟩)
    · exact h.elim
  · exact h.elim
theorem sm_dup2 (row : ∀ (H : Heap) (locs : List Loc) (cells slots : Nat) (ls : Array Slot) (cst : List Value) (v w : Value), v.category = 1 → w.category = 1 → W p l e R s m args below meth c H locs cells slots Qf (F0 m (pcs nxt) ls (v :: w :: v :: w :: cst)) → W p l e R s m args below meth c H locs cells slots Qf (F0 m (pcs i) ls (v :: w :: cst)))
    (h : match st with
    | .int x :: .ref y :: r => bG p l e R s m args below meth c D cA b0 adr0 σ0 nL pcs Qf (nxt, L, .int x :: .ref y :: .int x :: .ref y :: r, σ)
    | _ => False) : bG p l e R s m args below meth c D cA b0 adr0 σ0 nL pcs Qf (i, L, st, σ) := by
  split at h
  · refine sm_go h fun adr H locs cells slots ls cst hl hs kk => ?_
    obtain ⟨r, rfl, hr⟩ := bSr_int hs
    obtain ⟨r2, rfl, q, hr2⟩ := bSr_ref hr
    exact row H locs cells slots ls r2 _ _ rfl rfl (kk _ _ hl ⟨rfl, ⟨rfl, q⟩, rfl, ⟨rfl, q⟩, hr2⟩)
  · exact h.elim
theorem sm_pop (row : ∀ (H : Heap) (locs : List Loc) (cells slots : Nat) (ls : Array Slot) (cst : List Value) (v : Value), v.category = 1 → W p l e R s m args below meth c H locs cells slots Qf (F0 m (pcs nxt) ls cst) → W p l e R s m args below meth c H locs cells slots Qf (F0 m (pcs i) ls (v :: cst)))
    (h : match st with
    | .int _ :: r => bG p l e R s m args below meth c D cA b0 adr0 σ0 nL pcs Qf (nxt, L, r, σ)
    | _ => False) : bG p l e R s m args below meth c D cA b0 adr0 σ0 nL pcs Qf (i, L, st, σ) := by
  split at h
  · refine sm_go h fun adr H locs cells slots ls cst hl hs kk => ?_
    obtain ⟨r, rfl, hr⟩ := bSr_int hs
    exact row H locs cells slots ls r _ rfl (kk _ _ hl hr)
  · exact h.elim
theorem sm_nul {t f : Nat} (rowN : ∀ (H : Heap) (locs : List Loc) (cells slots : Nat) (ls : Array Slot) (cst : List Value), W p l e R s m args below meth c H locs cells slots Qf (F0 m (pcs t) ls cst) → W p l e R s m args below meth c H locs cells slots Qf (F0 m (pcs i) ls (.null :: cst)))
    (row : ∀ (H : Heap) (locs : List Loc) (cells slots : Nat) (ls : Array Slot) (cst : List Value) (x : Nat), W p l e R s m args below meth c H locs cells slots Qf (F0 m (pcs f) ls cst) → W p l e R s m args below meth c H locs cells slots Qf (F0 m (pcs i) ls (.ref x :: cst)))
    (h : match st with
    | .ref _ :: r => bG p l e R s m args below meth c D cA b0 adr0 σ0 nL pcs Qf (f, L, r, σ)
    | .null :: r => bG p l e R s m args below meth c D cA b0 adr0 σ0 nL pcs Qf (t, L, r, σ)
    | _ => False) : bG p l e R s m args below meth c D cA b0 adr0 σ0 nL pcs Qf (i, L, st, σ) := by
  split at h
  · refine sm_go h fun adr H locs cells slots ls cst hl hs kk => ?_
    obtain ⟨r, rfl, q, hr⟩ := bSr_ref hs
    exact row H locs cells slots ls r _ (kk _ _ hl hr)
  · refine sm_go h fun adr H locs cells slots ls cst hl hs kk => ?_
    obtain ⟨r, rfl, hr⟩ := bSr_null hs
    exact rowN H locs cells slots ls r (kk _ _ hl hr)
  · exact h.elim
theorem sm_nul2 {t f : Nat} (rowN : ∀ (H : Heap) (locs : List Loc) (cells slots : Nat) (ls : Array Slot) (cst : List Value), W p l e R s m args below meth c H locs cells slots Qf (F0 m (pcs t) ls cst) → W p l e R s m args below meth c H locs cells slots Qf (F0 m (pcs i) ls (.null :: cst)))
    (row : ∀ (H : Heap) (locs : List Loc) (cells slots : Nat) (ls : Array Slot) (cst : List Value) (x : Nat), W p l e R s m args below meth c H locs cells slots Qf (F0 m (pcs f) ls cst) → W p l e R s m args below meth c H locs cells slots Qf (F0 m (pcs i) ls (.ref x :: cst)))
    (h : match st with
    | .ref _ :: r => bG p l e R s m args below meth c D cA b0 adr0 σ0 nL pcs Qf (f, L, r, σ)
    | .null :: r => bG p l e R s m args below meth c D cA b0 adr0 σ0 nL pcs Qf (t, L, r, σ)
    | _ => False) : bG p l e R s m args below meth c D cA b0 adr0 σ0 nL pcs Qf (i, L, st, σ) := sm_nul rowN row h
set_option maxHeartbeats 8000000 in
theorem bs_pure {n lvl : Nat} {M : bM} {X : List (Nat × Nat × Nat × Nat)} {C : bCall} {Q : bPost} {ev : bE} (hx : p.tables.exec = Jvm.exec) (hb : c.code = (bYt n).2.1) (hown : s.vm.findClass (bYt n).1.cls = some m.cls) (hwd : bWd s) (hnL : M.2.2 = nL) (hpcs : ∀ j, pcs j = (bRow M j).1)
    (he : bRow M i = ev) (hok : bRok n M ev) (hp : bPure ev.2.1 = true) (h : bW lvl X i ev (bG p l e R s m args below meth c D cA b0 adr0 σ0 nL pcs Qf) C Q L st σ) : bG p l e R s m args below meth c D cA b0 adr0 σ0 nL pcs Qf (i, L, st, σ) := by
  obtain ⟨pc, ins, len, nxt, tgt, aux, sw⟩ := ev
  have hpi : pcs i = pc := by rw [hpcs, he]
  have hd0 : decode (bYt n).2.1 pc = .ok (ins, len) := hok.1
  cases ins
  case iload k =>
    have hs : (Nat.beq (bRow M nxt).1 (pc + len) && Nat.beq len 2 && Nat.beq (bnth aux 0 0) k) = true := hok.2.2
    simp only [Bool.and_eq_true, Nat.beq_eq, decide_eq_true_eq] at hs
    obtain ⟨⟨f1, rfl⟩, f2⟩ := hs
    rw [← hpcs] at f1
    have h2 : bLd 0 L (bnth aux 0 0) (fun v => bG p l e R s m args below meth c D cA b0 adr0 σ0 nL pcs Qf (nxt, L, v :: st, σ)) := h
    rw [f2] at h2
    exact sm_ldi (fun H locs cells slots ls cst x hl kk => by rw [hpi]; rw [f1] at kk; exact lv_iload hx hb hd0 hl kk) h2
  case iload_n k =>
    have hs : (Nat.beq (bRow M nxt).1 (pc + len) && Nat.beq len 1 && Nat.beq (bnth aux 0 0) k.val) = true := hok.2.2
    simp only [Bool.and_eq_true, Nat.beq_eq, decide_eq_true_eq] at hs
    obtain ⟨⟨f1, rfl⟩, f2⟩ := hs
    rw [← hpcs] at f1
    have h2 : bLd 0 L (bnth aux 0 0) (fun v => bG p l e R s m args below meth c D cA b0 adr0 σ0 nL pcs Qf (nxt, L, v :: st, σ)) := h
    rw [f2] at h2
    exact sm_ldi (fun H locs cells slots ls cst x hl kk => by rw [hpi]; rw [f1] at kk; exact lv_iload_n hx hb hd0 rfl hl kk) h2
  case lload k =>
    have hs : (Nat.beq (bRow M nxt).1 (pc + len) && Nat.beq len 2 && Nat.beq (bnth aux 0 0) k) = true := hok.2.2
    simp only [Bool.and_eq_true, Nat.beq_eq, decide_eq_true_eq] at hs
    obtain ⟨⟨f1, rfl⟩, f2⟩ := hs
    rw [← hpcs] at f1
    have h2 : bLd 1 L (bnth aux 0 0) (fun v => bG p l e R s m args below meth c D cA b0 adr0 σ0 nL pcs Qf (nxt, L, v :: st, σ)) := h
    rw [f2] at h2
    exact sm_ldj (fun H locs cells slots ls cst x hl kk => by rw [hpi]; rw [f1] at kk; exact lv_lload hx hb hd0 hl kk) h2
  case lload_n k =>
    have hs : (Nat.beq (bRow M nxt).1 (pc + len) && Nat.beq len 1 && Nat.beq (bnth aux 0 0) k.val) = true := hok.2.2
    simp only [Bool.and_eq_true, Nat.beq_eq, decide_eq_true_eq] at hs
    obtain ⟨⟨f1, rfl⟩, f2⟩ := hs
    rw [← hpcs] at f1
    have h2 : bLd 1 L (bnth aux 0 0) (fun v => bG p l e R s m args below meth c D cA b0 adr0 σ0 nL pcs Qf (nxt, L, v :: st, σ)) := h
    rw [f2] at h2
    exact sm_ldj (fun H locs cells slots ls cst x hl kk => by rw [hpi]; rw [f1] at kk; exact lv_lload_n hx hb hd0 rfl hl kk) h2
  case aload k =>
    have hs : (Nat.beq (bRow M nxt).1 (pc + len) && Nat.beq len 2 && Nat.beq (bnth aux 0 0) k) = true := hok.2.2
    simp only [Bool.and_eq_true, Nat.beq_eq, decide_eq_true_eq] at hs
    obtain ⟨⟨f1, rfl⟩, f2⟩ := hs
    rw [← hpcs] at f1
    have h2 : bLd 2 L (bnth aux 0 0) (fun v => bG p l e R s m args below meth c D cA b0 adr0 σ0 nL pcs Qf (nxt, L, v :: st, σ)) := h
    rw [f2] at h2
    exact sm_lda (fun H locs cells slots ls cst x hl kk => by rw [hpi]; rw [f1] at kk; exact lv_aload hx hb hd0 hl kk) (fun H locs cells slots ls cst hl kk => by rw [hpi]; rw [f1] at kk; exact lv_aloadN hx hb hd0 hl kk) h2
  case aload_n k =>
    have hs : (Nat.beq (bRow M nxt).1 (pc + len) && Nat.beq len 1 && Nat.beq (bnth aux 0 0) k.val) = true := hok.2.2
    simp only [Bool.and_eq_true, Nat.beq_eq, decide_eq_true_eq] at hs
    obtain ⟨⟨f1, rfl⟩, f2⟩ := hs
    rw [← hpcs] at f1
    have h2 : bLd 2 L (bnth aux 0 0) (fun v => bG p l e R s m args below meth c D cA b0 adr0 σ0 nL pcs Qf (nxt, L, v :: st, σ)) := h
    rw [f2] at h2
    exact sm_lda (fun H locs cells slots ls cst x hl kk => by rw [hpi]; rw [f1] at kk; exact lv_aload_n hx hb hd0 rfl hl kk) (fun H locs cells slots ls cst hl kk => by rw [hpi]; rw [f1] at kk; exact lv_aload_nN hx hb hd0 rfl hl kk) h2
  case istore k =>
    have hs : (Nat.beq (bRow M nxt).1 (pc + len) && Nat.beq len 2 && Nat.beq (bnth aux 0 0) k && Nat.blt k M.2.2) = true := hok.2.2
    simp only [Bool.and_eq_true, Nat.beq_eq, decide_eq_true_eq] at hs
    obtain ⟨⟨⟨f1, rfl⟩, f2⟩, f3⟩ := hs
    rw [← hpcs] at f1
    rw [hnL, Nat.blt_eq] at f3
    have h2 : bI1 st fun x r => bG p l e R s m args below meth c D cA b0 adr0 σ0 nL pcs Qf (nxt, bSt1 L (bnth aux 0 0) (.int x), r, σ) := h
    rw [f2] at h2
    exact sm_sti (fun H locs cells slots ls cst x hl kk => by rw [hpi]; exact lv_istore hx hb hd0 hl f3 rfl (fun ls' h' => by have := kk ls' h'; rw [f1] at this; exact this)) h2
  case istore_n k =>
    have hs : (Nat.beq (bRow M nxt).1 (pc + len) && Nat.beq len 1 && Nat.beq (bnth aux 0 0) k.val && Nat.blt k.val M.2.2) = true := hok.2.2
    simp only [Bool.and_eq_true, Nat.beq_eq, decide_eq_true_eq] at hs
    obtain ⟨⟨⟨f1, rfl⟩, f2⟩, f3⟩ := hs
    rw [← hpcs] at f1
    rw [hnL, Nat.blt_eq] at f3
    have h2 : bI1 st fun x r => bG p l e R s m args below meth c D cA b0 adr0 σ0 nL pcs Qf (nxt, bSt1 L (bnth aux 0 0) (.int x), r, σ) := h
    rw [f2] at h2
    exact sm_sti (fun H locs cells slots ls cst x hl kk => by rw [hpi]; exact lv_istore_n hx hb hd0 rfl hl f3 rfl (fun ls' h' => by have := kk ls' h'; rw [f1] at this; exact this)) h2
  case lstore k =>
    have hs : (Nat.beq (bRow M nxt).1 (pc + len) && Nat.beq len 2 && Nat.beq (bnth aux 0 0) k && Nat.blt (k + 1) M.2.2) = true := hok.2.2
    simp only [Bool.and_eq_true, Nat.beq_eq, decide_eq_true_eq] at hs
    obtain ⟨⟨⟨f1, rfl⟩, f2⟩, f3⟩ := hs
    rw [← hpcs] at f1
    rw [hnL, Nat.blt_eq] at f3
    have h2 : bStJ st fun x r => bG p l e R s m args below meth c D cA b0 adr0 σ0 nL pcs Qf (nxt, bSt2 L (bnth aux 0 0) (.long x), r, σ) := h
    rw [f2] at h2
    exact sm_stj (fun H locs cells slots ls cst x hl kk => by rw [hpi]; exact lv_lstore hx hb hd0 hl f3 rfl (fun ls' h' => by have := kk ls' h'; rw [f1] at this; exact this)) h2
  case lstore_n k =>
    have hs : (Nat.beq (bRow M nxt).1 (pc + len) && Nat.beq len 1 && Nat.beq (bnth aux 0 0) k.val && Nat.blt (k.val + 1) M.2.2) = true := hok.2.2
    simp only [Bool.and_eq_true, Nat.beq_eq, decide_eq_true_eq] at hs
    obtain ⟨⟨⟨f1, rfl⟩, f2⟩, f3⟩ := hs
    rw [← hpcs] at f1
    rw [hnL, Nat.blt_eq] at f3
    have h2 : bStJ st fun x r => bG p l e R s m args below meth c D cA b0 adr0 σ0 nL pcs Qf (nxt, bSt2 L (bnth aux 0 0) (.long x), r, σ) := h
    rw [f2] at h2
    exact sm_stj (fun H locs cells slots ls cst x hl kk => by rw [hpi]; exact lv_lstore_n hx hb hd0 rfl hl f3 rfl (fun ls' h' => by have := kk ls' h'; rw [f1] at this; exact this)) h2
  case astore k =>
    have hs : (Nat.beq (bRow M nxt).1 (pc + len) && Nat.beq len 2 && Nat.beq (bnth aux 0 0) k && Nat.blt k M.2.2) = true := hok.2.2
    simp only [Bool.and_eq_true, Nat.beq_eq, decide_eq_true_eq] at hs
    obtain ⟨⟨⟨f1, rfl⟩, f2⟩, f3⟩ := hs
    rw [← hpcs] at f1
    rw [hnL, Nat.blt_eq] at f3
    have h2 : bStA st fun v r => bG p l e R s m args below meth c D cA b0 adr0 σ0 nL pcs Qf (nxt, bSt1 L (bnth aux 0 0) v, r, σ) := h
    rw [f2] at h2
    refine sm_sta (fun H locs cells slots ls cst v hv hl kk => ?_) h2
    rw [hpi]
    rcases hv with ⟨x, rfl⟩ | rfl
    · exact lv_astore hx hb hd0 hl f3 rfl (fun ls' h' => by have := kk ls' h'; rw [f1] at this; exact this)
    · exact lv_astoreN hx hb hd0 hl f3 rfl (fun ls' h' => by have := kk ls' h'; rw [f1] at this; exact this)
  case astore_n k =>
    have hs : (Nat.beq (bRow M nxt).1 (pc + len) && Nat.beq len 1 && Nat.beq (bnth aux 0 0) k.val && Nat.blt k.val M.2.2) = true := hok.2.2
    simp only [Bool.and_eq_true, Nat.beq_eq, decide_eq_true_eq] at hs
    obtain ⟨⟨⟨f1, rfl⟩, f2⟩, f3⟩ := hs
    rw [← hpcs] at f1
    rw [hnL, Nat.blt_eq] at f3
    have h2 : bStA st fun v r => bG p l e R s m args below meth c D cA b0 adr0 σ0 nL pcs Qf (nxt, bSt1 L (bnth aux 0 0) v, r, σ) := h
    rw [f2] at h2
    refine sm_sta (fun H locs cells slots ls cst v hv hl kk => ?_) h2
    rw [hpi]
    rcases hv with ⟨x, rfl⟩ | rfl
    · exact lv_astore_n hx hb hd0 rfl hl f3 rfl (fun ls' h' => by have := kk ls' h'; rw [f1] at this; exact this)
    · exact lv_astore_nN hx hb hd0 rfl hl f3 rfl (fun ls' h' => by have := kk ls' h'; rw [f1] at this; exact this)
  case iconst k =>
    have hs : (Nat.beq (bRow M nxt).1 (pc + len) && Nat.beq len 1 && decide (Int32.ofInt k = (bnth sw 0 (0, 0)).1)) = true := hok.2.2
    simp only [Bool.and_eq_true, Nat.beq_eq, decide_eq_true_eq] at hs
    obtain ⟨⟨f1, rfl⟩, f2⟩ := hs
    rw [← hpcs] at f1
    exact sm_c (v := .int (bnth sw 0 (0, 0)).1) (fun _ => rfl) (fun H locs cells slots ls cst kk => by rw [hpi]; rw [f1] at kk; exact lv_iconst hx hb hd0 f2 kk) h
  case bipush k =>
    have hs : (Nat.beq (bRow M nxt).1 (pc + len) && Nat.beq len 2 && decide ((Int8.ofInt k).toInt32 = (bnth sw 0 (0, 0)).1)) = true := hok.2.2
    simp only [Bool.and_eq_true, Nat.beq_eq, decide_eq_true_eq] at hs
    obtain ⟨⟨f1, rfl⟩, f2⟩ := hs
    rw [← hpcs] at f1
    exact sm_c (v := .int (bnth sw 0 (0, 0)).1) (fun _ => rfl) (fun H locs cells slots ls cst kk => by rw [hpi]; rw [f1] at kk; exact lv_bipush hx hb hd0 f2 kk) h
  case sipush k =>
    have hs : (Nat.beq (bRow M nxt).1 (pc + len) && Nat.beq len 3 && decide ((Int16.ofInt k).toInt32 = (bnth sw 0 (0, 0)).1)) = true := hok.2.2
    simp only [Bool.and_eq_true, Nat.beq_eq, decide_eq_true_eq] at hs
    obtain ⟨⟨f1, rfl⟩, f2⟩ := hs
    rw [← hpcs] at f1
    exact sm_c (v := .int (bnth sw 0 (0, 0)).1) (fun _ => rfl) (fun H locs cells slots ls cst kk => by rw [hpi]; rw [f1] at kk; exact lv_sipush hx hb hd0 f2 kk) h
  case ldc k =>
    have hs : (Nat.beq (bRow M nxt).1 (pc + len) && Nat.beq len 2) = true := hok.2.2
    simp only [Bool.and_eq_true, Nat.beq_eq, decide_eq_true_eq] at hs
    obtain ⟨f1, rfl⟩ := hs
    rw [← hpcs] at f1
    exact sm_c (v := .int (bnth sw 0 (0, 0)).1) (fun _ => rfl) (fun H locs cells slots ls cst kk => by rw [hpi]; rw [f1] at kk; exact lv_ldc hx hb hown (hwd.at (hok.2.1 _ (by simp [bNd])) rfl) hd0 kk) h
  case ldc_w k =>
    have hs : (Nat.beq (bRow M nxt).1 (pc + len) && Nat.beq len 3) = true := hok.2.2
    simp only [Bool.and_eq_true, Nat.beq_eq, decide_eq_true_eq] at hs
    obtain ⟨f1, rfl⟩ := hs
    rw [← hpcs] at f1
    exact sm_c (v := .int (bnth sw 0 (0, 0)).1) (fun _ => rfl) (fun H locs cells slots ls cst kk => by rw [hpi]; rw [f1] at kk; exact lv_ldcw hx hb hown (hwd.at (hok.2.1 _ (by simp [bNd])) rfl) hd0 kk) h
  case lconst k =>
    have hs : (Nat.beq (bRow M nxt).1 (pc + len) && Nat.beq len 1 && Nat.beq (bnth aux 0 0) k.val) = true := hok.2.2
    simp only [Bool.and_eq_true, Nat.beq_eq, decide_eq_true_eq] at hs
    obtain ⟨⟨f1, rfl⟩, f2⟩ := hs
    rw [← hpcs] at f1
    exact sm_c (v := .long (Int64.ofNat (bnth aux 0 0))) (fun _ => rfl) (fun H locs cells slots ls cst kk => by rw [hpi]; rw [f1] at kk; exact lv_lconst hx hb hd0 (by rw [f2]) kk) h
  case ldc2_w k =>
    have hs : (Nat.beq (bRow M nxt).1 (pc + len) && Nat.beq len 3) = true := hok.2.2
    simp only [Bool.and_eq_true, Nat.beq_eq, decide_eq_true_eq] at hs
    obtain ⟨f1, rfl⟩ := hs
    rw [← hpcs] at f1
    exact sm_c (v := .long (Int64.ofNat (bnth aux 0 0))) (fun _ => rfl) (fun H locs cells slots ls cst kk => by rw [hpi]; rw [f1] at kk; exact lv_ldc2 hx hb hown (hwd.at (hok.2.1 _ (by simp [bNd])) rfl) hd0 kk) h
  case aconst_null =>
    have hs : (Nat.beq (bRow M nxt).1 (pc + len) && Nat.beq len 1) = true := hok.2.2
    simp only [Bool.and_eq_true, Nat.beq_eq, decide_eq_true_eq] at hs
    obtain ⟨f1, rfl⟩ := hs
    rw [← hpcs] at f1
    exact sm_c (v := .null) (fun _ => rfl) (fun H locs cells slots ls cst  kk => by rw [hpi]; rw [f1] at kk; exact lv_null hx hb hd0 kk) h
  case iadd =>
    have hs : (Nat.beq (bRow M nxt).1 (pc + len) && Nat.beq len 1) = true := hok.2.2
    simp only [Bool.and_eq_true, Nat.beq_eq, decide_eq_true_eq] at hs
    obtain ⟨f1, rfl⟩ := hs
    rw [← hpcs] at f1
    exact sm_i2 (f := fun x y => .int (x + y)) (fun _ _ _ => rfl) (fun H locs cells slots ls cst x y kk => by rw [hpi]; rw [f1] at kk; exact lv_iadd hx hb hd0 kk) h
  case isub =>
    have hs : (Nat.beq (bRow M nxt).1 (pc + len) && Nat.beq len 1) = true := hok.2.2
    simp only [Bool.and_eq_true, Nat.beq_eq, decide_eq_true_eq] at hs
    obtain ⟨f1, rfl⟩ := hs
    rw [← hpcs] at f1
    exact sm_i2 (f := fun x y => .int (x - y)) (fun _ _ _ => rfl) (fun H locs cells slots ls cst x y kk => by rw [hpi]; rw [f1] at kk; exact lv_isub hx hb hd0 kk) h
  case imul =>
    have hs : (Nat.beq (bRow M nxt).1 (pc + len) && Nat.beq len 1) = true := hok.2.2
    simp only [Bool.and_eq_true, Nat.beq_eq, decide_eq_true_eq] at hs
    obtain ⟨f1, rfl⟩ := hs
    rw [← hpcs] at f1
    exact sm_i2 (f := fun x y => .int (x * y)) (fun _ _ _ => rfl) (fun H locs cells slots ls cst x y kk => by rw [hpi]; rw [f1] at kk; exact lv_imul hx hb hd0 kk) h
  case iand =>
    have hs : (Nat.beq (bRow M nxt).1 (pc + len) && Nat.beq len 1) = true := hok.2.2
    simp only [Bool.and_eq_true, Nat.beq_eq, decide_eq_true_eq] at hs
    obtain ⟨f1, rfl⟩ := hs
    rw [← hpcs] at f1
    exact sm_i2 (f := fun x y => .int (x &&& y)) (fun _ _ _ => rfl) (fun H locs cells slots ls cst x y kk => by rw [hpi]; rw [f1] at kk; exact lv_iand hx hb hd0 kk) h
  case ior =>
    have hs : (Nat.beq (bRow M nxt).1 (pc + len) && Nat.beq len 1) = true := hok.2.2
    simp only [Bool.and_eq_true, Nat.beq_eq, decide_eq_true_eq] at hs
    obtain ⟨f1, rfl⟩ := hs
    rw [← hpcs] at f1
    exact sm_i2 (f := fun x y => .int (x ||| y)) (fun _ _ _ => rfl) (fun H locs cells slots ls cst x y kk => by rw [hpi]; rw [f1] at kk; exact lv_ior hx hb hd0 kk) h
  case ixor =>
    have hs : (Nat.beq (bRow M nxt).1 (pc + len) && Nat.beq len 1) = true := hok.2.2
    simp only [Bool.and_eq_true, Nat.beq_eq, decide_eq_true_eq] at hs
    obtain ⟨f1, rfl⟩ := hs
    rw [← hpcs] at f1
    exact sm_i2 (f := fun x y => .int (x ^^^ y)) (fun _ _ _ => rfl) (fun H locs cells slots ls cst x y kk => by rw [hpi]; rw [f1] at kk; exact lv_ixor hx hb hd0 kk) h
  case ishl =>
    have hs : (Nat.beq (bRow M nxt).1 (pc + len) && Nat.beq len 1) = true := hok.2.2
    simp only [Bool.and_eq_true, Nat.beq_eq, decide_eq_true_eq] at hs
    obtain ⟨f1, rfl⟩ := hs
    rw [← hpcs] at f1
    exact sm_i2 (f := fun x y => .int (x <<< (y &&& 31))) (fun _ _ _ => rfl) (fun H locs cells slots ls cst x y kk => by rw [hpi]; rw [f1] at kk; exact lv_ishl hx hb hd0 kk) h
  case ishr =>
    have hs : (Nat.beq (bRow M nxt).1 (pc + len) && Nat.beq len 1) = true := hok.2.2
    simp only [Bool.and_eq_true, Nat.beq_eq, decide_eq_true_eq] at hs
    obtain ⟨f1, rfl⟩ := hs
    rw [← hpcs] at f1
    exact sm_i2 (f := fun x y => .int (x >>> (y &&& 31))) (fun _ _ _ => rfl) (fun H locs cells slots ls cst x y kk => by rw [hpi]; rw [f1] at kk; exact lv_ishr hx hb hd0 kk) h
  case idiv =>
    have hs : (Nat.beq (bRow M nxt).1 (pc + len) && Nat.beq len 1) = true := hok.2.2
    simp only [Bool.and_eq_true, Nat.beq_eq, decide_eq_true_eq] at hs
    obtain ⟨f1, rfl⟩ := hs
    rw [← hpcs] at f1
    exact sm_i2z (f := fun x y => .int (x / y)) (fun _ _ _ => rfl) (fun H locs cells slots ls cst x y hne kk => by rw [hpi]; rw [f1] at kk; exact lv_idiv hx hb hd0 hne kk) h
  case irem =>
    have hs : (Nat.beq (bRow M nxt).1 (pc + len) && Nat.beq len 1) = true := hok.2.2
    simp only [Bool.and_eq_true, Nat.beq_eq, decide_eq_true_eq] at hs
    obtain ⟨f1, rfl⟩ := hs
    rw [← hpcs] at f1
    exact sm_i2z (f := fun x y => .int (x - x / y * y)) (fun _ _ _ => rfl) (fun H locs cells slots ls cst x y hne kk => by rw [hpi]; rw [f1] at kk; exact lv_irem hx hb hd0 hne kk) h
  case ladd =>
    have hs : (Nat.beq (bRow M nxt).1 (pc + len) && Nat.beq len 1) = true := hok.2.2
    simp only [Bool.and_eq_true, Nat.beq_eq, decide_eq_true_eq] at hs
    obtain ⟨f1, rfl⟩ := hs
    rw [← hpcs] at f1
    exact sm_j2 (f := fun x y => .long (x + y)) (fun _ _ _ => rfl) (fun H locs cells slots ls cst x y kk => by rw [hpi]; rw [f1] at kk; exact lv_ladd hx hb hd0 kk) h
  case lsub =>
    have hs : (Nat.beq (bRow M nxt).1 (pc + len) && Nat.beq len 1) = true := hok.2.2
    simp only [Bool.and_eq_true, Nat.beq_eq, decide_eq_true_eq] at hs
    obtain ⟨f1, rfl⟩ := hs
    rw [← hpcs] at f1
    exact sm_j2 (f := fun x y => .long (x - y)) (fun _ _ _ => rfl) (fun H locs cells slots ls cst x y kk => by rw [hpi]; rw [f1] at kk; exact lv_lsub hx hb hd0 kk) h
  case lmul =>
    have hs : (Nat.beq (bRow M nxt).1 (pc + len) && Nat.beq len 1) = true := hok.2.2
    simp only [Bool.and_eq_true, Nat.beq_eq, decide_eq_true_eq] at hs
    obtain ⟨f1, rfl⟩ := hs
    rw [← hpcs] at f1
    exact sm_j2 (f := fun x y => .long (x * y)) (fun _ _ _ => rfl) (fun H locs cells slots ls cst x y kk => by rw [hpi]; rw [f1] at kk; exact lv_lmul hx hb hd0 kk) h
  case land =>
    have hs : (Nat.beq (bRow M nxt).1 (pc + len) && Nat.beq len 1) = true := hok.2.2
    simp only [Bool.and_eq_true, Nat.beq_eq, decide_eq_true_eq] at hs
    obtain ⟨f1, rfl⟩ := hs
    rw [← hpcs] at f1
    exact sm_j2 (f := fun x y => .long (x &&& y)) (fun _ _ _ => rfl) (fun H locs cells slots ls cst x y kk => by rw [hpi]; rw [f1] at kk; exact lv_land hx hb hd0 kk) h
  case lor =>
    have hs : (Nat.beq (bRow M nxt).1 (pc + len) && Nat.beq len 1) = true := hok.2.2
    simp only [Bool.and_eq_true, Nat.beq_eq, decide_eq_true_eq] at hs
    obtain ⟨f1, rfl⟩ := hs
    rw [← hpcs] at f1
    exact sm_j2 (f := fun x y => .long (x ||| y)) (fun _ _ _ => rfl) (fun H locs cells slots ls cst x y kk => by rw [hpi]; rw [f1] at kk; exact lv_lor hx hb hd0 kk) h
  case ldiv =>
    have hs : (Nat.beq (bRow M nxt).1 (pc + len) && Nat.beq len 1) = true := hok.2.2
    simp only [Bool.and_eq_true, Nat.beq_eq, decide_eq_true_eq] at hs
    obtain ⟨f1, rfl⟩ := hs
    rw [← hpcs] at f1
    exact sm_j2z (f := fun x y => .long (x / y)) (fun _ _ _ => rfl) (fun H locs cells slots ls cst x y hne kk => by rw [hpi]; rw [f1] at kk; exact lv_ldiv hx hb hd0 hne kk) h
  case lrem =>
    have hs : (Nat.beq (bRow M nxt).1 (pc + len) && Nat.beq len 1) = true := hok.2.2
    simp only [Bool.and_eq_true, Nat.beq_eq, decide_eq_true_eq] at hs
    obtain ⟨f1, rfl⟩ := hs
    rw [← hpcs] at f1
    exact sm_j2z (f := fun x y => .long (x - x / y * y)) (fun _ _ _ => rfl) (fun H locs cells slots ls cst x y hne kk => by rw [hpi]; rw [f1] at kk; exact lv_lrem hx hb hd0 hne kk) h
  case lcmp =>
    have hs : (Nat.beq (bRow M nxt).1 (pc + len) && Nat.beq len 1) = true := hok.2.2
    simp only [Bool.and_eq_true, Nat.beq_eq, decide_eq_true_eq] at hs
    obtain ⟨f1, rfl⟩ := hs
    rw [← hpcs] at f1
    exact sm_j2 (f := fun x y => .int (lg_cmp x y)) (fun _ _ _ => rfl) (fun H locs cells slots ls cst x y kk => by rw [hpi]; rw [f1] at kk; exact W.lcmp hx hb hd0 kk) h
  case lshl =>
    have hs : (Nat.beq (bRow M nxt).1 (pc + len) && Nat.beq len 1) = true := hok.2.2
    simp only [Bool.and_eq_true, Nat.beq_eq, decide_eq_true_eq] at hs
    obtain ⟨f1, rfl⟩ := hs
    rw [← hpcs] at f1
    exact sm_ji (f := fun x y => .long (x <<< (y.toInt64 &&& 63))) (fun _ _ _ => rfl) (fun H locs cells slots ls cst x y kk => by rw [hpi]; rw [f1] at kk; exact lv_lshl hx hb hd0 rfl kk) h
  case lshr =>
    have hs : (Nat.beq (bRow M nxt).1 (pc + len) && Nat.beq len 1) = true := hok.2.2
    simp only [Bool.and_eq_true, Nat.beq_eq, decide_eq_true_eq] at hs
    obtain ⟨f1, rfl⟩ := hs
    rw [← hpcs] at f1
    exact sm_ji (f := fun x y => .long (x >>> (y.toInt64 &&& 63))) (fun _ _ _ => rfl) (fun H locs cells slots ls cst x y kk => by rw [hpi]; rw [f1] at kk; exact lv_lshr hx hb hd0 rfl kk) h
  case lushr =>
    have hs : (Nat.beq (bRow M nxt).1 (pc + len) && Nat.beq len 1) = true := hok.2.2
    simp only [Bool.and_eq_true, Nat.beq_eq, decide_eq_true_eq] at hs
    obtain ⟨f1, rfl⟩ := hs
    rw [← hpcs] at f1
    exact sm_ji (f := fun x y => .long ((x.toUInt64 >>> (y.toInt64.toUInt64 &&& Int64.toUInt64 63)).toInt64)) (fun _ _ _ => rfl) (fun H locs cells slots ls cst x y kk => by rw [hpi]; rw [f1] at kk; exact lv_lushr hx hb hd0 rfl kk) h
  case i2l =>
    have hs : (Nat.beq (bRow M nxt).1 (pc + len) && Nat.beq len 1) = true := hok.2.2
    simp only [Bool.and_eq_true, Nat.beq_eq, decide_eq_true_eq] at hs
    obtain ⟨f1, rfl⟩ := hs
    rw [← hpcs] at f1
    exact sm_i1 (f := fun x => .long x.toInt64) (fun _ _ => rfl) (fun H locs cells slots ls cst x kk => by rw [hpi]; rw [f1] at kk; exact lv_i2l hx hb hd0 rfl kk) h
  case l2i =>
    have hs : (Nat.beq (bRow M nxt).1 (pc + len) && Nat.beq len 1) = true := hok.2.2
    simp only [Bool.and_eq_true, Nat.beq_eq, decide_eq_true_eq] at hs
    obtain ⟨f1, rfl⟩ := hs
    rw [← hpcs] at f1
    exact sm_j1 (f := fun x => .int x.toInt32) (fun _ _ => rfl) (fun H locs cells slots ls cst x kk => by rw [hpi]; rw [f1] at kk; exact lv_l2i hx hb hd0 rfl kk) h
  case iinc k v =>
    have hs : (Nat.beq (bRow M nxt).1 (pc + len) && Nat.beq len 3 && Nat.beq (bnth aux 0 0) k && Nat.blt k M.2.2 && decide (Int32.ofInt v = (bnth sw 0 (0, 0)).1)) = true := hok.2.2
    simp only [Bool.and_eq_true, Nat.beq_eq, decide_eq_true_eq] at hs
    obtain ⟨⟨⟨⟨f1, rfl⟩, f2⟩, f3⟩, f4⟩ := hs
    rw [← hpcs] at f1
    rw [hnL, Nat.blt_eq] at f3
    have h2 : bLd 0 L (bnth aux 0 0) (fun v => bIsI v fun x => bG p l e R s m args below meth c D cA b0 adr0 σ0 nL pcs Qf (nxt, bSt1 L (bnth aux 0 0) (.int (x + (bnth sw 0 (0, 0)).1)), st, σ)) := h
    rw [f2, ← f4] at h2
    exact sm_iinc (fun H locs cells slots ls cst x hl hh kk => by rw [hpi]; obtain ⟨j, hj⟩ := List.getElem?_of_mem (bLv_mem.mpr hl); exact lv_iinc hx hb hd0 hh hj rfl f3 rfl (fun ls' h' => by have := kk ls' h'; rw [f1] at this; exact this)) h2
  case dup =>
    have hs : (Nat.beq (bRow M nxt).1 (pc + len) && Nat.beq len 1) = true := hok.2.2
    simp only [Bool.and_eq_true, Nat.beq_eq] at hs
    obtain ⟨f1, rfl⟩ := hs
    rw [← hpcs] at f1
    exact sm_dup (fun H locs cells slots ls cst v hc kk => by rw [hpi]; rw [f1] at kk; exact lv_dup hx hb hd0 hc kk) h
  case dup2 =>
    have hs : (Nat.beq (bRow M nxt).1 (pc + len) && Nat.beq len 1) = true := hok.2.2
    simp only [Bool.and_eq_true, Nat.beq_eq] at hs
    obtain ⟨f1, rfl⟩ := hs
    rw [← hpcs] at f1
    exact sm_dup2 (fun H locs cells slots ls cst v w hc hc2 kk => by rw [hpi]; rw [f1] at kk; exact lv_dup2_11 hx hb hd0 hc hc2 kk) h
  case pop =>
    have hs : (Nat.beq (bRow M nxt).1 (pc + len) && Nat.beq len 1) = true := hok.2.2
    simp only [Bool.and_eq_true, Nat.beq_eq] at hs
    obtain ⟨f1, rfl⟩ := hs
    rw [← hpcs] at f1
    exact sm_pop (fun H locs cells slots ls cst v hc kk => by rw [hpi]; rw [f1] at kk; exact lv_pop hx hb hd0 hc kk) h
  case ifCond cd off =>
    have hs : (Nat.beq (bRow M nxt).1 (pc + len) && Nat.beq len 3 && decide ((pc : Int) + off = ((bRow M tgt).1 : Int))) = true := hok.2.2
    simp only [Bool.and_eq_true, Nat.beq_eq, decide_eq_true_eq] at hs
    obtain ⟨⟨f1, rfl⟩, f2⟩ := hs
    rw [← hpcs] at f1 f2
    cases cd
    case eq => exact sm_if1 (P := fun x => x = 0) (t := tgt) (f := nxt) (fun H locs cells slots ls cst x kt kf => by rw [hpi]; exact lv_if_eq hx hb hd0 f2 (fun q => kt q) (fun q => by have := kf q; rw [f1] at this; exact this)) h
    case ne => exact sm_if1 (P := fun x => x = 0) (t := nxt) (f := tgt) (fun H locs cells slots ls cst x kt kf => by rw [hpi]; exact lv_if_ne hx hb hd0 f2 (fun q => kf q) (fun q => by have := kt q; rw [f1] at this; exact this)) h
    case lt => exact sm_if1 (P := fun x => x < 0) (t := tgt) (f := nxt) (fun H locs cells slots ls cst x kt kf => by rw [hpi]; exact lv_if_lt hx hb hd0 f2 (fun q => kt q) (fun q => by have := kf q; rw [f1] at this; exact this)) h
    case ge => exact sm_if1 (P := fun x => x < 0) (t := nxt) (f := tgt) (fun H locs cells slots ls cst x kt kf => by rw [hpi]; exact lv_if_ge hx hb hd0 f2 (fun q => kf (Int32.not_lt.mpr q)) (fun q => by have := kt (Int32.not_le.mp q); rw [f1] at this; exact this)) h
    case gt => exact sm_if1 (P := fun x => 0 < x) (t := tgt) (f := nxt) (fun H locs cells slots ls cst x kt kf => by rw [hpi]; exact lv_if_gt hx hb hd0 f2 (fun q => kt q) (fun q => by have := kf q; rw [f1] at this; exact this)) h
    case le => exact sm_if1 (P := fun x => 0 < x) (t := nxt) (f := tgt) (fun H locs cells slots ls cst x kt kf => by rw [hpi]; exact lv_if_le hx hb hd0 f2 (fun q => kf (Int32.not_lt.mpr q)) (fun q => by have := kt (Int32.not_le.mp q); rw [f1] at this; exact this)) h
  case if_icmp cd off =>
    have hs : (Nat.beq (bRow M nxt).1 (pc + len) && Nat.beq len 3 && decide ((pc : Int) + off = ((bRow M tgt).1 : Int))) = true := hok.2.2
    simp only [Bool.and_eq_true, Nat.beq_eq, decide_eq_true_eq] at hs
    obtain ⟨⟨f1, rfl⟩, f2⟩ := hs
    rw [← hpcs] at f1 f2
    cases cd
    case eq => exact sm_if2 (P := fun x y => x = y) (t := tgt) (f := nxt) (fun H locs cells slots ls cst x y kt kf => by rw [hpi]; exact lv_icmp_eq hx hb hd0 f2 (fun q => kt q) (fun q => by have := kf q; rw [f1] at this; exact this)) h
    case ne => exact sm_if2 (P := fun x y => x = y) (t := nxt) (f := tgt) (fun H locs cells slots ls cst x y kt kf => by rw [hpi]; exact lv_icmp_ne hx hb hd0 f2 (fun q => kf q) (fun q => by have := kt q; rw [f1] at this; exact this)) h
    case lt => exact sm_if2 (P := fun x y => x < y) (t := tgt) (f := nxt) (fun H locs cells slots ls cst x y kt kf => by rw [hpi]; exact lv_icmp_lt hx hb hd0 f2 (fun q => kt q) (fun q => by have := kf q; rw [f1] at this; exact this)) h
    case ge => exact sm_if2 (P := fun x y => x < y) (t := nxt) (f := tgt) (fun H locs cells slots ls cst x y kt kf => by rw [hpi]; exact lv_icmp_ge hx hb hd0 f2 (fun q => kf (Int32.not_lt.mpr q)) (fun q => by have := kt (Int32.not_le.mp q); rw [f1] at this; exact this)) h
    case gt => exact sm_if2 (P := fun x y => y < x) (t := tgt) (f := nxt) (fun H locs cells slots ls cst x y kt kf => by rw [hpi]; exact lv_icmp_gt hx hb hd0 f2 (fun q => kt q) (fun q => by have := kf q; rw [f1] at this; exact this)) h
    case le => exact sm_if2 (P := fun x y => y < x) (t := nxt) (f := tgt) (fun H locs cells slots ls cst x y kt kf => by rw [hpi]; exact lv_icmp_le hx hb hd0 f2 (fun q => kf (Int32.not_lt.mpr q)) (fun q => by have := kt (Int32.not_le.mp q); rw [f1] at this; exact this)) h
  case ifnull off =>
    have hs : (Nat.beq (bRow M nxt).1 (pc + len) && Nat.beq len 3 && decide ((pc : Int) + off = ((bRow M tgt).1 : Int))) = true := hok.2.2
    simp only [Bool.and_eq_true, Nat.beq_eq, decide_eq_true_eq] at hs
    obtain ⟨⟨f1, rfl⟩, f2⟩ := hs
    rw [← hpcs] at f1 f2
    exact sm_nul (t := tgt) (f := nxt) (fun H locs cells slots ls cst kk => by rw [hpi]; exact lv_ifnullN hx hb hd0 f2 kk) (fun H locs cells slots ls cst x kk => by rw [hpi]; rw [f1] at kk; exact lv_ifnull hx hb hd0 kk) h
  case ifnonnull off =>
    have hs : (Nat.beq (bRow M nxt).1 (pc + len) && Nat.beq len 3 && decide ((pc : Int) + off = ((bRow M tgt).1 : Int))) = true := hok.2.2
    simp only [Bool.and_eq_true, Nat.beq_eq, decide_eq_true_eq] at hs
    obtain ⟨⟨f1, rfl⟩, f2⟩ := hs
    rw [← hpcs] at f1 f2
    exact sm_nul2 (t := nxt) (f := tgt) (fun H locs cells slots ls cst kk => by rw [hpi]; rw [f1] at kk; exact lv_ifnonnullN hx hb hd0 kk) (fun H locs cells slots ls cst x kk => by rw [hpi]; exact lv_ifnonnull hx hb hd0 f2 kk) h
  case goto off =>
    have hs : (Nat.beq len 3 && decide ((pc : Int) + off = ((bRow M tgt).1 : Int))) = true := hok.2.2
    simp only [Bool.and_eq_true, Nat.beq_eq, decide_eq_true_eq] at hs
    obtain ⟨rfl, f2⟩ := hs
    rw [← hpcs] at f2
    exact sm_go h fun adr H locs cells slots ls cst hl hs kk => by rw [hpi]; exact lv_goto hx hb hd0 f2 (kk ls cst hl hs)
  all_goals cases hp
end

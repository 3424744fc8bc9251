/-! A RUN OF THE ABSTRACT MACHINE IS A RUN OF THE MACHINE: row by row -/
def bIn (D : va_G) (cA : Nat → ClassId) (b0 : Nat) (s : State) (adr0 : Nat → Nat) (σ0 : bSt) (nL : Nat) (adr : Nat → Nat) (H : Heap) (locs : List Loc) (ls : Array Slot) (cst : List Value) (y : bPt) : Prop :=
  bRep D cA b0 s adr y.2.2.2 H ∧ bExt adr0 σ0 adr y.2.2.2 ∧ bLr adr y.2.2.2 y.2.1 ls nL ∧ bSr adr y.2.2.2 y.2.2.1 cst ∧ (∀ q ∈ locs, b0 ≤ q.base) ∧ (∀ q : Nat, q < b0 → H[q]? = s.heap[q]?) ∧ s.heap.size ≤ H.size
abbrev bG (p : Program) (l : Launch) (e : Env) (R : Room) (s : State) (m : MethodId) (args : Array Value) (below : List Frame) (meth : Method) (c : Code) (D : va_G) (cA : Nat → ClassId) (b0 : Nat) (adr0 : Nat → Nat) (σ0 : bSt) (nL : Nat) (pcs : Nat → Nat) (Qf : State → Prop) (y : bPt) : Prop :=
  ∀ (adr : Nat → Nat) (H : Heap) (locs : List Loc) (ls : Array Slot) (cst : List Value), bIn D cA b0 s adr0 σ0 nL adr H locs ls cst y → W p l e R s m args below meth c H locs (y.2.2.2.2.2.2.2.1 - σ0.2.2.2.2.1) (y.2.2.2.2.2.2.2.2 - σ0.2.2.2.2.2) Qf (F0 m (pcs y.1) ls cst)
section
variable {p : Program} {l : Launch} {e : Env} {R : Room} {s : State} {m : MethodId} {args : Array Value} {below : List Frame} {meth : Method} {c : Code} {D : va_G} {cA : Nat → ClassId} {b0 : Nat} {adr0 : Nat → Nat} {σ0 : bSt} {nL : Nat} {pcs : Nat → Nat} {Qf : State → Prop}
variable {i nxt tgt : Nat} {L L' st st' : List Value} {σ : bSt} {cc : ByteArray}
theorem sm_go (h : bG p l e R s m args below meth c D cA b0 adr0 σ0 nL pcs Qf (nxt, L', st', σ)) (hr : ∀ (adr : Nat → Nat) (H : Heap) (locs : List Loc) (cells slots : Nat) (ls : Array Slot) (cst : List Value), bLr adr σ L ls nL → bSr adr σ st cst → (∀ (ls' : Array Slot) (cst' : List Value), bLr adr σ L' ls' nL → bSr adr σ st' cst' → W p l e R s m args below meth c H locs cells slots Qf (F0 m (pcs nxt) ls' cst')) → W p l e R s m args below meth c H locs cells slots Qf (F0 m (pcs i) ls cst)) : bG p l e R s m args below meth c D cA b0 adr0 σ0 nL pcs Qf (i, L, st, σ) := by
  intro adr H locs ls cst ⟨h1, h2, h3, h4, h5⟩
  exact hr adr H locs _ _ ls cst h3 h4 fun ls' cst' a b => h adr H locs ls' cst' ⟨h1, h2, a, b, h5⟩
theorem sm_ldi {k : Nat} (row : ∀ (H : Heap) (locs : List Loc) (cells slots : Nat) (ls : Array Slot) (cst : List Value) (x : Int32), ls[k]? = some (.val (.int x)) → W p l e R s m args below meth c H locs cells slots Qf (F0 m (pcs nxt) ls (.int x :: cst)) → W p l e R s m args below meth c H locs cells slots Qf (F0 m (pcs i) ls cst))
    (h : bLd 0 L k fun v => bG p l e R s m args below meth c D cA b0 adr0 σ0 nL pcs Qf (nxt, L, v :: st, σ)) : bG p l e R s m args below meth c D cA b0 adr0 σ0 nL pcs Qf (i, L, st, σ) := by
  unfold bLd at h
  split at h
  · rename_i x hx _
    refine sm_go h fun adr H locs cells slots ls cst hl hs kk => ?_
    obtain ⟨v, h1, h2⟩ := hl.at hx rfl
    rw [show v = .int x from h2] at h1
    exact row H locs cells slots ls cst x h1 (kk _ _ hl ⟨rfl, hs⟩)
  all_goals first | exact h.elim | (rename_i hz; cases hz)
theorem sm_ldj {k : Nat} (row : ∀ (H : Heap) (locs : List Loc) (cells slots : Nat) (ls : Array Slot) (cst : List Value) (x : Int64), ls[k]? = some (.val (.long x)) → W p l e R s m args below meth c H locs cells slots Qf (F0 m (pcs nxt) ls (.long x :: cst)) → W p l e R s m args below meth c H locs cells slots Qf (F0 m (pcs i) ls cst))
    (h : bLd 1 L k fun v => bG p l e R s m args below meth c D cA b0 adr0 σ0 nL pcs Qf (nxt, L, v :: st, σ)) : bG p l e R s m args below meth c D cA b0 adr0 σ0 nL pcs Qf (i, L, st, σ) := by
  unfold bLd at h
  split at h
  · rename_i hz
    cases hz
  · rename_i x hx _
    refine sm_go h fun adr H locs cells slots ls cst hl hs kk => ?_
    obtain ⟨v, h1, h2⟩ := hl.at hx rfl
    rw [show v = .long x from h2] at h1
    exact row H locs cells slots ls cst x h1 (kk _ _ hl ⟨rfl, hs⟩)
  all_goals first | exact h.elim | (rename_i hz; cases hz)
theorem sm_lda {k : Nat} (row : ∀ (H : Heap) (locs : List Loc) (cells slots : Nat) (ls : Array Slot) (cst : List Value) (x : Nat), ls[k]? = some (.val (.ref x)) → W p l e R s m args below meth c H locs cells slots Qf (F0 m (pcs nxt) ls (.ref x :: cst)) → W p l e R s m args below meth c H locs cells slots Qf (F0 m (pcs i) ls cst))
    (rowN : ∀ (H : Heap) (locs : List Loc) (cells slots : Nat) (ls : Array Slot) (cst : List Value), ls[k]? = some (.val .null) → W p l e R s m args below meth c H locs cells slots Qf (F0 m (pcs nxt) ls (.null :: cst)) → W p l e R s m args below meth c H locs cells slots Qf (F0 m (pcs i) ls cst))
    (h : bLd 2 L k fun v => bG p l e R s m args below meth c D cA b0 adr0 σ0 nL pcs Qf (nxt, L, v :: st, σ)) : bG p l e R s m args below meth c D cA b0 adr0 σ0 nL pcs Qf (i, L, st, σ) := by
  unfold bLd at h
  split at h
  · rename_i hz
    cases hz
  · rename_i hz
    cases hz
  · rename_i x hx _
    refine sm_go h fun adr H locs cells slots ls cst hl hs kk => ?_
    obtain ⟨v, h1, h2⟩ := hl.at hx rfl
    rw [h2.1] at h1
    exact row H locs cells slots ls cst _ h1 (kk _ _ hl ⟨⟨rfl, h2.2⟩, hs⟩)
  · rename_i hx _
    refine sm_go h fun adr H locs cells slots ls cst hl hs kk => ?_
    obtain ⟨v, h1, h2⟩ := hl.at hx rfl
    rw [show v = .null from h2] at h1
    exact rowN H locs cells slots ls cst h1 (kk _ _ hl ⟨rfl, hs⟩)
  · rename_i x hx _
    refine sm_go h fun adr H locs cells slots ls cst hl hs kk => ?_
    obtain ⟨v, h1, h2⟩ := hl.at hx rfl
    rw [h2.1] at h1
    exact row H locs cells slots ls cst _ h1 (kk _ _ hl ⟨⟨rfl, h2.2⟩, hs⟩)
  · exact h.elim
theorem sm_sti {k : Nat} (row : ∀ (H : Heap) (locs : List Loc) (cells slots : Nat) (ls : Array Slot) (cst : List Value) (x : Int32), lv_has ls nL (bLv ls) → (∀ ls' : Array Slot, lv_has ls' nL ((k, .int x) :: (bLv ls).filter (fun q => !(q.1 == k) && !(q.1 + 1 == k && q.2.category == 2))) → W p l e R s m args below meth c H locs cells slots Qf (F0 m (pcs nxt) ls' cst)) → W p l e R s m args below meth c H locs cells slots Qf (F0 m (pcs i) ls (.int x :: cst)))
    (h : bI1 st fun x r => bG p l e R s m args below meth c D cA b0 adr0 σ0 nL pcs Qf (nxt, bSt1 L k (.int x), r, σ)) : bG p l e R s m args below meth c D cA b0 adr0 σ0 nL pcs Qf (i, L, st, σ) := by
  unfold bI1 at h
  split at h
  · refine sm_go h fun adr H locs cells slots ls cst hl hs kk => ?_
    obtain ⟨r, rfl, hr⟩ := bSr_int hs
    exact row H locs cells slots ls r _ (bLv_has hl.1 hl.2.1) fun ls' h' => kk ls' r (hl.st1 rfl (fun _ z => by cases z) h') hr
  · exact h.elim
theorem sm_stj {k : Nat} (row : ∀ (H : Heap) (locs : List Loc) (cells slots : Nat) (ls : Array Slot) (cst : List Value) (x : Int64), lv_has ls nL (bLv ls) → (∀ ls' : Array Slot, lv_has ls' nL ((k, .long x) :: (bLv ls).filter (fun q => !(q.1 == k) && (!(q.1 == k + 1) && !(q.1 + 1 == k && q.2.category == 2)))) → W p l e R s m args below meth c H locs cells slots Qf (F0 m (pcs nxt) ls' cst)) → W p l e R s m args below meth c H locs cells slots Qf (F0 m (pcs i) ls (.long x :: cst)))
    (h : bStJ st fun x r => bG p l e R s m args below meth c D cA b0 adr0 σ0 nL pcs Qf (nxt, bSt2 L k (.long x), r, σ)) : bG p l e R s m args below meth c D cA b0 adr0 σ0 nL pcs Qf (i, L, st, σ) := by
  unfold bStJ at h
  split at h
  · refine sm_go h fun adr H locs cells slots ls cst hl hs kk => ?_
    obtain ⟨r, rfl, hr⟩ := bSr_long hs
    exact row H locs cells slots ls r _ (bLv_has hl.1 hl.2.1) fun ls' h' => kk ls' r (hl.st2 h') hr
  · exact h.elim
theorem sm_sta {k : Nat} (row : ∀ (H : Heap) (locs : List Loc) (cells slots : Nat) (ls : Array Slot) (cst : List Value) (v : Value), ((∃ x, v = .ref x) ∨ v = .null) → lv_has ls nL (bLv ls) → (∀ ls' : Array Slot, lv_has ls' nL ((k, v) :: (bLv ls).filter (fun q => !(q.1 == k) && !(q.1 + 1 == k && q.2.category == 2))) → W p l e R s m args below meth c H locs cells slots Qf (F0 m (pcs nxt) ls' cst)) → W p l e R s m args below meth c H locs cells slots Qf (F0 m (pcs i) ls (v :: cst)))
    (h : bStA st fun v r => bG p l e R s m args below meth c D cA b0 adr0 σ0 nL pcs Qf (nxt, bSt1 L k v, r, σ)) : bG p l e R s m args below meth c D cA b0 adr0 σ0 nL pcs Qf (i, L, st, σ) := by
  unfold bStA at h
  split at h
  · refine sm_go h fun adr H locs cells slots ls cst hl hs kk => ?_
    obtain ⟨r, rfl, h2, hr⟩ := bSr_ref hs
    exact row H locs cells slots ls r _ (Or.inl ⟨_, rfl⟩) (bLv_has hl.1 hl.2.1) fun ls' h' => kk ls' r (hl.st1 ⟨rfl, h2⟩ (fun _ z => by cases z) h') hr
  · refine sm_go h fun adr H locs cells slots ls cst hl hs kk => ?_
    obtain ⟨r, rfl, hr⟩ := bSr_null hs
    exact row H locs cells slots ls r _ (Or.inr rfl) (bLv_has hl.1 hl.2.1) fun ls' h' => kk ls' r (hl.st1 rfl (fun _ z => by cases z) h') hr
  · refine sm_go h fun adr H locs cells slots ls cst hl hs kk => ?_
    obtain ⟨v, r, rfl, ⟨z, rfl⟩, hr⟩ := bSr_cons hs
    exact row H locs cells slots ls r _ (Or.inl ⟨_, rfl⟩) (bLv_has hl.1 hl.2.1) fun ls' h' => kk ls' r (hl.st1 ⟨_, rfl⟩ (fun _ z => by cases z) h') hr
  · exact h.elim
theorem sm_c {v : Value} (hv : ∀ adr, bVr adr σ v v) (row : ∀ (H : Heap) (locs : List Loc) (cells slots : Nat) (ls : Array Slot) (cst : List Value), W p l e R s m args below meth c H locs cells slots Qf (F0 m (pcs nxt) ls (v :: cst)) → W p l e R s m args below meth c H locs cells slots Qf (F0 m (pcs i) ls cst))
    (h : bG p l e R s m args below meth c D cA b0 adr0 σ0 nL pcs Qf (nxt, L, v :: st, σ)) : bG p l e R s m args below meth c D cA b0 adr0 σ0 nL pcs Qf (i, L, st, σ) :=
  sm_go h fun adr H locs cells slots ls cst hl hs kk => row H locs cells slots ls cst (kk _ _ hl ⟨hv adr, hs⟩)
theorem sm_i2 {f : Int32 → Int32 → Value} (hf : ∀ adr x y, bVr adr σ (f x y) (f x y)) (row : ∀ (H : Heap) (locs : List Loc) (cells slots : Nat) (ls : Array Slot) (cst : List Value) (x y : Int32), W p l e R s m args below meth c H locs cells slots Qf (F0 m (pcs nxt) ls (f x y :: cst)) → W p l e R s m args below meth c H locs cells slots Qf (F0 m (pcs i) ls (.int y :: .int x :: cst)))
    (h : bI2 st fun x y r => bG p l e R s m args below meth c D cA b0 adr0 σ0 nL pcs Qf (nxt, L, f x y :: r, σ)) : bG p l e R s m args below meth c D cA b0 adr0 σ0 nL pcs Qf (i, L, st, σ) := by
  unfold bI2 at h
  split at h
  · refine sm_go h fun adr H locs cells slots ls cst hl hs kk => ?_
    obtain ⟨r, rfl, hr⟩ := bSr_int hs
    obtain ⟨r2, rfl, hr2⟩ := bSr_int hr
    exact row H locs cells slots ls r2 _ _ (kk _ _ hl ⟨hf _ _ _, hr2⟩)
  · exact h.elim
theorem sm_i2z {f : Int32 → Int32 → Value} (hf : ∀ adr x y, bVr adr σ (f x y) (f x y)) (row : ∀ (H : Heap) (locs : List Loc) (cells slots : Nat) (ls : Array Slot) (cst : List Value) (x y : Int32), ¬ y = 0 → W p l e R s m args below meth c H locs cells slots Qf (F0 m (pcs nxt) ls (f x y :: cst)) → W p l e R s m args below meth c H locs cells slots Qf (F0 m (pcs i) ls (.int y :: .int x :: cst)))
    (h : bI2 st fun x y r => ¬ y = 0 ∧ bG p l e R s m args below meth c D cA b0 adr0 σ0 nL pcs Qf (nxt, L, f x y :: r, σ)) : bG p l e R s m args below meth c D cA b0 adr0 σ0 nL pcs Qf (i, L, st, σ) := by
  unfold bI2 at h
  split at h
  · refine sm_go h.2 fun adr H locs cells slots ls cst hl hs kk => ?_
    obtain ⟨r, rfl, hr⟩ := bSr_int hs
    obtain ⟨r2, rfl, hr2⟩ := bSr_int hr
    exact row H locs cells slots ls r2 _ _ h.1 (kk _ _ hl ⟨hf _ _ _, hr2⟩)
  · exact h.elim
theorem sm_j2 {f : Int64 → Int64 → Value} (hf : ∀ adr x y, bVr adr σ (f x y) (f x y)) (row : ∀ (H : Heap) (locs : List Loc) (cells slots : Nat) (ls : Array Slot) (cst : List Value) (x y : Int64), W p l e R s m args below meth c H locs cells slots Qf (F0 m (pcs nxt) ls (f x y :: cst)) → W p l e R s m args below meth c H locs cells slots Qf (F0 m (pcs i) ls (.long y :: .long x :: cst)))
    (h : bJ2 st fun x y r => bG p l e R s m args below meth c D cA b0 adr0 σ0 nL pcs Qf (nxt, L, f x y :: r, σ)) : bG p l e R s m args below meth c D cA b0 adr0 σ0 nL pcs Qf (i, L, st, σ) := by
  unfold bJ2 at h
  split at h
  · refine sm_go h fun adr H locs cells slots ls cst hl hs kk => ?_
    obtain ⟨r, rfl, hr⟩ := bSr_long hs
    obtain ⟨r2, rfl, hr2⟩ := bSr_long hr
    exact row H locs cells slots ls r2 _ _ (kk _ _ hl ⟨hf _ _ _, hr2⟩)
  · exact h.elim
theorem sm_j2z {f : Int64 → Int64 → Value} (hf : ∀ adr x y, bVr adr σ (f x y) (f x y)) (row : ∀ (H : Heap) (locs : List Loc) (cells slots : Nat) (ls : Array Slot) (cst : List Value) (x y : Int64), ¬ y = 0 → W p l e R s m args below meth c H locs cells slots Qf (F0 m (pcs nxt) ls (f x y :: cst)) → W p l e R s m args below meth c H locs cells slots Qf (F0 m (pcs i) ls (.long y :: .long x :: cst)))
    (h : bJ2 st fun x y r => ¬ y = 0 ∧ bG p l e R s m args below meth c D cA b0 adr0 σ0 nL pcs Qf (nxt, L, f x y :: r, σ)) : bG p l e R s m args below meth c D cA b0 adr0 σ0 nL pcs Qf (i, L, st, σ) := by
  unfold bJ2 at h
  split at h
  · refine sm_go h.2 fun adr H locs cells slots ls cst hl hs kk => ?_
    obtain ⟨r, rfl, hr⟩ := bSr_long hs
    obtain ⟨r2, rfl, hr2⟩ := bSr_long hr
    exact row H locs cells slots ls r2 _ _ h.1 (kk _ _ hl ⟨hf _ _ _, hr2⟩)
  · exact h.elim
theorem sm_ji {f : Int64 → Int32 → Value} (hf : ∀ adr x y, bVr adr σ (f x y) (f x y)) (row : ∀ (H : Heap) (locs : List Loc) (cells slots : Nat) (ls : Array Slot) (cst : List Value) (x : Int64) (y : Int32), W p l e R s m args below meth c H locs cells slots Qf (F0 m (pcs nxt) ls (f x y :: cst)) → W p l e R s m args below meth c H locs cells slots Qf (F0 m (pcs i) ls (.int y :: .long x :: cst)))
    (h : bJI st fun x y r => bG p l e R s m args below meth c D cA b0 adr0 σ0 nL pcs Qf (nxt, L, f x y :: r, σ)) : bG p l e R s m args below meth c D cA b0 adr0 σ0 nL pcs Qf (i, L, st, σ) := by
  unfold bJI at h
  split at h
  · refine sm_go h fun adr H locs cells slots ls cst hl hs kk => ?_
    obtain ⟨r, rfl, hr⟩ := bSr_int hs
    obtain ⟨r2, rfl, hr2⟩ := bSr_long hr
    exact row H locs cells slots ls r2 _ _ (kk _ _ hl ⟨hf _ _ _, hr2⟩)
  · exact h.elim
theorem sm_i1 {f : Int32 → Value} (hf : ∀ adr x, bVr adr σ (f x) (f x)) (row : ∀ (H : Heap) (locs : List Loc) (cells slots : Nat) (ls : Array Slot) (cst : List Value) (x : Int32), W p l e R s m args below meth c H locs cells slots Qf (F0 m (pcs nxt) ls (f x :: cst)) → W p l e R s m args below meth c H locs cells slots Qf (F0 m (pcs i) ls (.int x :: cst)))
    (h : bI1 st fun x r => bG p l e R s m args below meth c D cA b0 adr0 σ0 nL pcs Qf (nxt, L, f x :: r, σ)) : bG p l e R s m args below meth c D cA b0 adr0 σ0 nL pcs Qf (i, L, st, σ) := by
  unfold bI1 at h
  split at h
  · refine sm_go h fun adr H locs cells slots ls cst hl hs kk => ?_
    obtain ⟨r, rfl, hr⟩ := bSr_int hs
    exact row H locs cells slots ls r _ (kk _ _ hl ⟨hf _ _, hr⟩)
  · exact h.elim
theorem sm_j1 {f : Int64 → Value} (hf : ∀ adr x, bVr adr σ (f x) (f x)) (row : ∀ (H : Heap) (locs : List Loc) (cells slots : Nat) (ls : Array Slot) (cst : List Value) (x : Int64), W p l e R s m args below meth c H locs cells slots Qf (F0 m (pcs nxt) ls (f x :: cst)) → W p l e R s m args below meth c H locs cells slots Qf (F0 m (pcs i) ls (.long x :: cst)))
    (h : bStJ st fun x r => bG p l e R s m args below meth c D cA b0 adr0 σ0 nL pcs Qf (nxt, L, f x :: r, σ)) : bG p l e R s m args below meth c D cA b0 adr0 σ0 nL pcs Qf (i, L, st, σ) := by
  unfold bStJ at h
  split at h
  · refine sm_go h fun adr H locs cells slots ls cst hl hs kk => ?_
    obtain ⟨r, rfl, hr⟩ := bSr_long hs
    exact row H locs cells slots ls r _ (kk _ _ hl ⟨hf _ _, hr⟩)
  · exact h.elim
/-- a branch on one or two ints -/
theorem sm_if1 {P : Int32 → Prop} {t f : Nat} (row : ∀ (H : Heap) (locs : List Loc) (cells slots : Nat) (ls : Array Slot) (cst : List Value) (x : Int32), (P x → W p l e R s m args below meth c H locs cells slots Qf (F0 m (pcs t) ls cst)) → (¬ P x → W p l e R s m args below meth c H locs cells slots Qf (F0 m (pcs f) ls cst)) → W p l e R s m args below meth c H locs cells slots Qf (F0 m (pcs i) ls (.int x :: cst)))
    (h : bI1 st fun x r => bBr (P x) (bG p l e R s m args below meth c D cA b0 adr0 σ0 nL pcs Qf (t, L, r, σ)) (bG p l e R s m args below meth c D cA b0 adr0 σ0 nL pcs Qf (f, L, r, σ))) : bG p l e R s m args below meth c D cA b0 adr0 σ0 nL pcs Qf (i, L, st, σ) := by
  unfold bI1 at h
  split at h
  · intro adr H locs ls cst ⟨h1, h2, h3, h4, h5⟩
    obtain ⟨r, rfl, hr⟩ := bSr_int h4
    exact row H locs _ _ ls r _ (fun q => h.1 q adr H locs ls r ⟨h1, h2, h3, hr, h5⟩) (fun q => h.2 q adr H locs ls r ⟨h1, h2, h3, hr, h5⟩)
  · exact h.elim
theorem sm_if2 {P : Int32 → Int32 → Prop} {t f : Nat} (row : ∀ (H : Heap) (locs : List Loc) (cells slots : Nat) (ls : Array Slot) (cst : List Value) (x y : Int32), (P x y → W p l e R s m args below meth c H locs cells slots Qf (F0 m (pcs t) ls cst)) → (¬ P x y → W p l e R s m args below meth c H locs cells slots Qf (F0 m (pcs f) ls cst)) → W p l e R s m args below meth c H locs cells slots Qf (F0 m (pcs i) ls (.int y :: .int x :: cst)))
    (h : bI2 st fun x y r => bBr (P x y) (bG p l e R s m args below meth c D cA b0 adr0 σ0 nL pcs Qf (t, L, r, σ)) (bG p l e R s m args below meth c D cA b0 adr0 σ0 nL pcs Qf (f, L, r, σ))) : bG p l e R s m args below meth c D cA b0 adr0 σ0 nL pcs Qf (i, L, st, σ) := by
  unfold bI2 at h
  split at h
  · intro adr H locs ls cst ⟨h1, h2, h3, h4, h5⟩
    obtain ⟨r, rfl, hr⟩ := bSr_int h4
    obtain ⟨r2, rfl, hr2⟩ := bSr_int hr
    exact row H locs _ _ ls r2 _ _ (fun q => h.1 q adr H locs ls r2 ⟨h1, h2, h3, hr2, h5⟩) (fun q => h.2 q adr H locs ls r2 ⟨h1, h2, h3, hr2, h5⟩)
  · exact h.elim
end

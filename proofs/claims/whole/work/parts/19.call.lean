/-! CONTRACTS: what a call of the abstract machine says of the machine's method -/
def bMv (w : Cond) : Bool := goodWord w || (match w with
  | .methodLinkNest .. => true
  | .declares _ => true
  | .castable .. => true
  | .arrayOver (.object _) => true
  | _ => false)
def bExn (k : Nat) : String := if k = 0 then "java/lang/IndexOutOfBoundsException" else if k = 1 then "java/lang/IllegalArgumentException" else "java/lang/IllegalStateException"
/-- none of the three exceptions is another of them -/
def bNoc (U : State) : Prop := ∀ j k, j < 3 → k < 3 → j ≠ k → va_Nc (bExn j) (bExn k) U
def bWd (U : State) : Prop := bNoc U ∧ ∀ w ∈ lw_tbl, bMv w = true → w.before #[] U = true
theorem bWd.moved {s U : State} (hW : s.WarmedH U.vm) (h : bWd s) : bWd U := by
  refine ⟨fun j k hj hk hne => (h.1 j k hj hk hne).moved hW.alike, fun w hw hm => ?_⟩
  have hs := h.2 w hw hm
  unfold bMv at hm
  rcases Bool.or_eq_true_iff.mp hm with hg | hg
  · exact word_at hW (good_of_word hg) hs
  · split at hg
    · exact va_Nw.warmM hW hs
    · exact va_Nw.warmD hW hs
    · exact va_Nw.warmC hW hs
    · exact va_AO.moved hW.alike hs
    · cases hg
def bSta (b0 : Nat) (a201 : Nat) (U : State) (H : Heap) : Prop := vx_Zq Bundle.tN "UNASSIGNED_STACK" Bundle.steD (fun q => b0 ≤ q) U H ∧ vx_Zq Bundle.tN "SUPPRESSED_SENTINEL" Bundle.listD (fun q => b0 ≤ q) U H ∧ va_Z "Buildmill$Disk" "PARENTS" "[I" (.ref a201) (fun q => b0 ≤ q) U H
def bEnv (D : va_G) (cA : Nat → ClassId) (b0 : Nat) (adr : Nat → Nat) (σ : bSt) (U : State) : Prop := bRep D cA b0 U adr σ U.heap ∧ bKn D cA U ∧ bSta b0 (adr 201) U U.heap ∧ bWd U
theorem bKn.moved {D : va_G} {cA : Nat → ClassId} {u U : State} (hvm : u.vm.Alike U.vm) (h : bKn D cA u) : bKn D cA U := ⟨fun ci hc => u_Kn_moved hvm (h.1 ci hc), fun t ht => ⟨arrOfT_moved hvm (h.2 t ht).1, (h.2 t ht).2.moved hvm⟩⟩
theorem bScl.moved {u U : State} (hvm : u.vm.Alike U.vm) {a n : Nat} {f : Nat → Int32} {H : Heap} (h : bScl u a n f H) : bScl U a n f H := by
  obtain ⟨cell, k1, k2, k3⟩ := h
  exact ⟨cell, k1, State.isArrayOf_alike hvm k2, k3⟩
theorem bRep.moved {D : va_G} {cA : Nat → ClassId} {b0 : Nat} {u U : State} {adr : Nat → Nat} {σ : bSt} {H : Heap} (hvm : u.vm.Alike U.vm) (h : bRep D cA b0 u adr σ H) : bRep D cA b0 U adr σ H :=
  ⟨h.1, h.2.1, h.2.2.1, ⟨h.2.2.2.1.1, h.2.2.2.1.2.moved hvm⟩, ⟨h.2.2.2.2.1.1, h.2.2.2.2.1.2.moved hvm⟩, h.2.2.2.2.2⟩
theorem bSta.moved {b0 a : Nat} {u U : State} {H : Heap} (hvm : u.vm.Alike U.vm) (h : bSta b0 a u H) : bSta b0 a U H := ⟨h.1.moved hvm, h.2.1.moved hvm, h.2.2.moved hvm⟩
theorem bSta.kept {b0 a : Nat} {U : State} {H H1 : Heap} (h : bSta b0 a U H) (hq : ∀ q : Nat, q < b0 → H1[q]? = H[q]?) : bSta b0 a U H1 :=
  ⟨h.1.kept fun q _ hn => hq q (Nat.not_le.mp hn), h.2.1.kept fun q _ hn => hq q (Nat.not_le.mp hn), h.2.2.kept fun q _ hn => hq q (Nat.not_le.mp hn)⟩
def bPc (D : va_G) (cA : Nat → ClassId) (b0 : Nat) (adr : Nat → Nat) (σ : bSt) (as : List Value) : Array Value → State → Prop := fun v U => ∃ cs : List Value, v = cs.toArray ∧ bSr adr σ as cs ∧ bEnv D cA b0 adr σ U
def bVo (adr : Nat → Nat) (σ : bSt) : Option Value → Option Value → Prop
  | none, none => True
  | some a, some w => bVr adr σ a w
  | _, _ => False
def bFin (D : va_G) (cA : Nat → ClassId) (b0 : Nat) (adr : Nat → Nat) (σ σ1 : bSt) (adr' : Nat → Nat) (st t : State) : Prop := bExt adr σ adr' σ1 ∧ bRep D cA b0 t adr' σ1 t.heap ∧ (∀ q : Nat, q < b0 → t.heap[q]? = st.heap[q]?) ∧ st.heap.size ≤ t.heap.size
def bQc (D : va_G) (cA : Nat → ClassId) (b0 : Nat) (adr : Nat → Nat) (σ : bSt) (o1 : bOut) (σ1 : bSt) : Array Value → State → Outcome → State → Prop := fun _ st oc t => ∃ (v w : Option Value) (adr' : Nat → Nat), o1 = .inl v ∧ oc = .returned w ∧ bVo adr' σ1 v w ∧ bFin D cA b0 adr σ σ1 adr' st t
def bXC (D : va_G) (cA : Nat → ClassId) (b0 : Nat) (adr : Nat → Nat) (σ : bSt) (o1 : bOut) (σ1 : bSt) : String → State → State → Prop := fun E st t => ∃ (k : Nat) (adr' : Nat → Nat), o1 = .inr k ∧ k < 3 ∧ E = bExn k ∧ bFin D cA b0 adr σ σ1 adr' st t
def bRm (d : Nat) (σ σ1 : bSt) : Room := { frames := d, cells := σ1.2.2.2.2.1 - σ.2.2.2.2.1, slots := σ1.2.2.2.2.2 - σ.2.2.2.2.2, locals := 43 * d }
theorem bEnv.calling {D : va_G} {cA : Nat → ClassId} {b0 : Nat} {adr : Nat → Nat} {σ : bSt} {U : State} (h : bEnv D cA b0 adr σ U) (g : JFrame) (mk : MethodId) (a : Array Value) : bEnv D cA b0 adr σ (U.calling g mk a) := by
  have hvm : U.vm.Alike (U.calling g mk a).vm := Vm.Alike.refl U.vm
  exact ⟨h.1.moved hvm, h.2.1.moved hvm, h.2.2.1.moved hvm, h.2.2.2.moved (show U.WarmedH U.vm from State.WarmedH.refl U)⟩
theorem bPc.blind {D : va_G} {cA : Nat → ClassId} {b0 : Nat} {adr : Nat → Nat} {σ : bSt} {as : List Value} : FrameBlind (bPc D cA b0 adr σ as) := by
  intro a U g mk ⟨cs, h1, h2, h3⟩
  exact ⟨cs, h1, h2, h3.calling g mk a⟩
section
variable {p : Program} {l : Launch} {e : Env} {R : Room} {s : State} {m : MethodId} {args : Array Value} {below : List Frame} {meth : Method} {c : Code} {D : va_G} {cA : Nat → ClassId} {b0 : Nat} {adr0 : Nat → Nat} {σ0 : bSt} {nL : Nat} {pcs : Nat → Nat} {Qf : State → Prop}
variable {i nxt tgt : Nat} {L L' st st' : List Value} {σ : bSt} {cc : ByteArray}
/-- the callee's start, out of the caller's point -/
theorem bIn.env {adr : Nat → Nat} {H : Heap} {locs : List Loc} {ls : Array Slot} {cst : List Value} {y : bPt} (hI : bIn D cA b0 s adr0 σ0 nL adr H locs ls cst y) (hE : bEnv D cA b0 adr0 σ0 s) {U : State} (hU : U.heap = H) (hW : s.WarmedH U.vm) : bEnv D cA b0 adr y.2.2.2 U := by
  obtain ⟨h1, h2, h3, h4, h5, h6, h7⟩ := hI
  refine ⟨?_, hE.2.1.moved hW.alike, ?_, hE.2.2.2.moved hW⟩
  · rw [hU]
    exact h1.moved hW.alike
  · rw [hU, h2.1 201 (Or.inr (Or.inr rfl))]
    exact (hE.2.2.1.moved hW.alike).kept h6
/-- behind a call: the caller's point anew -/
theorem bIn.back {adr adr' : Nat → Nat} {H H' : Heap} {locs locs' : List Loc} {ls : Array Slot} {cst cr : List Value} {L0 st0 : List Value} {σ1 : bSt} {r : List Value} (hI : bIn D cA b0 s adr0 σ0 nL adr H locs ls cst (i, L, st, σ)) (hr : bSr adr σ r cr) (hx : bExt adr σ adr' σ1) (hp : bRep D cA b0 s adr' σ1 H') (hlo : ∀ q : Nat, q < b0 → H'[q]? = H[q]?) (hz : H.size ≤ H'.size) (hl : ∀ q ∈ locs', b0 ≤ q.base) :
    bExt adr0 σ0 adr' σ1 ∧ bLr adr' σ1 L ls nL ∧ bSr adr' σ1 r cr ∧ (∀ q ∈ locs ++ locs', b0 ≤ q.base) ∧ (∀ q : Nat, q < b0 → H'[q]? = s.heap[q]?) ∧ s.heap.size ≤ H'.size := by
  obtain ⟨h1, h2, h3, h4, h5, h6, h7⟩ := hI
  have hA : ∀ id, σ.2.2.2.1 id ≠ 0 → σ.2.2.2.1 id ≤ σ1.2.2.2.1 id ∧ σ1.2.2.2.1 id ≤ 2 := fun id hid => by
    have q1 := hx.2.1 id
    exact ⟨q1, (hp.1 id (by omega)).2.1⟩
  refine ⟨⟨fun id hid => ?_, fun id => Nat.le_trans (h2.2.1 id) (hx.2.1 id), h2.2.2.tr hx.2.2⟩, h3.ext hx.1 hA, hr.ext hx.1 hA, fun q hq => ?_, fun q hq => by rw [hlo q hq]; exact h6 q hq, Nat.le_trans h7 hz⟩
  · rw [hx.1 id (hid.imp (fun q z => q (by have := h2.2.1 id; rw [show (i, L, st, σ).2.2.2.2.2.2.1 id = 0 from z] at this; omega)) (fun q => q))]
    exact h2.1 id hid
  · rcases List.mem_append.mp hq with q1 | q1
    · exact h5 q q1
    · exact hl q q1
/-- a call's run, and what follows it -/
theorem sm_after {adr : Nat → Nat} {H : Heap} {locs : List Loc} {ls : Array Slot} {cst cr r : List Value} {o1 : bOut} {σ1 : bSt} {X : List (Nat × Nat × Nat × Nat)} {a9 : Array Value} (hI : bIn D cA b0 s adr0 σ0 nL adr H locs ls cst (i, L, st, σ)) (hcr : bSr adr σ r cr) (hd : bLe σ σ1)
    (hr : vx_Run p l e R s m args below meth c H locs (σ.2.2.2.2.1 - σ0.2.2.2.2.1) (σ.2.2.2.2.2 - σ0.2.2.2.2.2) (σ1.2.2.2.2.1 - σ.2.2.2.2.1) (σ1.2.2.2.2.2 - σ.2.2.2.2.2) (F0 m (pcs i) ls cst) cr (bQc D cA b0 adr σ o1 σ1 a9) (bXC D cA b0 adr σ o1 σ1) (fun q => b0 ≤ q))
    (hpc : pcs nxt = pcs i + 3)
    (hk : ∀ v w (adr' : Nat → Nat) (H' : Heap) (locs' : List Loc), o1 = .inl v → bVo adr' σ1 v w → bRep D cA b0 s adr' σ1 H' → bExt adr0 σ0 adr' σ1 → bLr adr' σ1 L ls nL → bSr adr' σ1 r cr → (∀ q ∈ locs', b0 ≤ q.base) → (∀ q : Nat, q < b0 → H'[q]? = s.heap[q]?) → s.heap.size ≤ H'.size → W p l e R s m args below meth c H' locs' (σ1.2.2.2.2.1 - σ0.2.2.2.2.1) (σ1.2.2.2.2.2 - σ0.2.2.2.2.2) Qf (F0 m (pcs nxt) ls (w.toList ++ cr)))
    (hx : ∀ k (q : Addr) (ce : Cell) (adr' : Nat → Nat) (H' : Heap) (locs' : List Loc), o1 = .inr k → k < 3 → H'[q]? = some ce → ce.vm = .none → s.vm.findClass (bExn k) = some ce.cls → bRep D cA b0 s adr' σ1 H' → bExt adr0 σ0 adr' σ1 → bLr adr' σ1 L ls nL → (∀ q ∈ locs', b0 ≤ q.base) → (∀ q : Nat, q < b0 → H'[q]? = s.heap[q]?) → s.heap.size ≤ H'.size → vx_W p l e R s m args below meth c H' locs' (σ1.2.2.2.2.1 - σ0.2.2.2.2.1) (σ1.2.2.2.2.2 - σ0.2.2.2.2.2) Qf (F0 m (pcs i) ls cr) q) :
    W p l e R s m args below meth c H locs (σ.2.2.2.2.1 - σ0.2.2.2.2.1) (σ.2.2.2.2.2 - σ0.2.2.2.2.2) Qf (F0 m (pcs i) ls cst) := by
  have hl1 : σ0.2.2.2.2.1 ≤ σ.2.2.2.2.1 := hI.2.1.2.2.1
  have hl2 : σ0.2.2.2.2.2 ≤ σ.2.2.2.2.2 := hI.2.1.2.2.2
  have e1 : σ.2.2.2.2.1 - σ0.2.2.2.2.1 + (σ1.2.2.2.2.1 - σ.2.2.2.2.1) = σ1.2.2.2.2.1 - σ0.2.2.2.2.1 := by have := hd.1; omega
  have e2 : σ.2.2.2.2.2 - σ0.2.2.2.2.2 + (σ1.2.2.2.2.2 - σ.2.2.2.2.2) = σ1.2.2.2.2.2 - σ0.2.2.2.2.2 := by have := hd.2; omega
  intro T hT X9
  rcases hr T hT X9 with ⟨v, st₀, t, T', Lo, h0, X', hL, f1, f2, ⟨va, w, adr', hv1, hv2, hv3, hx1, hp, hlo, hz⟩, go⟩ | ⟨q, st₀, t, T', Lo, E, ce, h0, X', hL, f1, f2, ⟨k, adr', hv1, hk3, hv2, hx1, hp, hlo, hz⟩, hce, hcv, hcl, go⟩
  · cases hv2
    rw [h0] at hlo hz
    rw [e1, e2] at X'
    have hal : t.vm.Alike s.vm := by rw [← f2]; exact X'.warmed.alike.symm
    have hp' : bRep D cA b0 s adr' σ1 T'.heap := by rw [f1]; exact hp.moved hal
    obtain ⟨b1, b2, b3, b4, b5, b6⟩ := bIn.back (L0 := L) (st0 := st) hI hcr hx1 hp' (by rw [f1]; exact hlo) (by rw [f1]; exact hz) hL
    have g := hk va v adr' T'.heap (locs ++ Lo) hv1 hv3 hp' b1 b2 b3 b4 b5 b6
    rw [hpc] at g
    obtain ⟨t2, a1, a2⟩ := g T' rfl X'
    exact ⟨t2, go t2 a1, a2⟩
  · rw [h0] at hlo hz
    rw [e1, e2] at X'
    have hal : t.vm.Alike s.vm := by rw [← f2]; exact X'.warmed.alike.symm
    have hp' : bRep D cA b0 s adr' σ1 T'.heap := by rw [f1]; exact hp.moved hal
    obtain ⟨b1, b2, b3, b4, b5, b6⟩ := bIn.back (L0 := L) (st0 := st) hI hcr hx1 hp' (by rw [f1]; exact hlo) (by rw [f1]; exact hz) hL
    rw [hv2] at hcl
    obtain ⟨t2, a1, a2⟩ := hx k q ce adr' T'.heap (locs ++ Lo) hv1 hk3 (by rw [f1]; exact hce) hcv hcl hp' b1 b2 b4 b5 b6 T' rfl X'
    exact ⟨t2, go.trans a1, a2⟩
end

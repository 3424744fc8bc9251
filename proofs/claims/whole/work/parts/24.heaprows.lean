theorem bTy_codes (a : Nat) (h : 10 ≤ bTy a) : bTy a ∈ bTs := by
  have key : ∀ k, k < 256 → 10 ≤ (bnth bKT k (9, 0, 0)).1 → (bnth bKT k (9, 0, 0)).1 ∈ bTs := by decide +kernel
  exact key _ (Nat.mod_lt _ (by decide)) h
theorem b_fit {ci k t : Nat} {v : Value} (ht : (bFk ci k).1 = t) (hok : bTyOk ci k = true) (hv : (t = 0 ∧ ∃ z, v = .int z) ∨ (t = 1 ∧ (v = .int 0 ∨ v = .int 1)) ∨ (t = 2 ∧ ∃ z, v = .long z) ∨ (t = 3 ∧ ∃ z, v = .ref z)) : narrow (bFty ci k) v = v ∧ fits (bFty ci k) v = true := by
  unfold bTyOk at hok
  rw [ht] at hok
  split at hok
  · rename_i h2
    rw [h2]
    rcases hv with ⟨-, z, rfl⟩ | ⟨q, -⟩ | ⟨q, -⟩ | ⟨q, -⟩ <;> first | exact ⟨rfl, rfl⟩ | cases q
  · rename_i h2
    rw [h2]
    rcases hv with ⟨q, -⟩ | ⟨-, rfl | rfl⟩ | ⟨q, -⟩ | ⟨q, -⟩ <;> first | exact ⟨rfl, rfl⟩ | cases q
  · rename_i h2
    rw [h2]
    rcases hv with ⟨q, -⟩ | ⟨q, -⟩ | ⟨-, z, rfl⟩ | ⟨q, -⟩ <;> first | exact ⟨rfl, rfl⟩ | cases q
  · rename_i h2
    rw [h2]
    rcases hv with ⟨q, -⟩ | ⟨q, -⟩ | ⟨q, -⟩ | ⟨-, z, rfl⟩ <;> first | exact ⟨rfl, rfl⟩ | cases q
  · rename_i h2
    rw [h2]
    rcases hv with ⟨q, -⟩ | ⟨q, -⟩ | ⟨q, -⟩ | ⟨-, z, rfl⟩ <;> first | exact ⟨rfl, rfl⟩ | cases q
  · cases hok
def bHeapI : Instr → Bool
  | .tableswitch _ _ _ _ => true
  | .arraylength => true
  | .iaload => true
  | .baload => true
  | .laload => true
  | .aaload => true
  | .iastore => true
  | .bastore => true
  | .lastore => true
  | .aastore => true
  | .getfield _ => true
  | .putfield _ => true
  | .getstatic _ => true
  | _ => false
section
variable {p : Program} {l : Launch} {e : Env} {R : Room} {s : State} {m : MethodId} {args : Array Value} {below : List Frame} {meth : Method} {c : Code} {D : va_G} {cA : Nat → ClassId} {b0 : Nat} {adr0 : Nat → Nat} {σ0 : bSt} {nL : Nat} {pcs : Nat → Nat} {Qf : State → Prop}
variable {i nxt tgt : Nat} {L L' st st' : List Value} {σ : bSt} {cc : ByteArray}
theorem upd_int {adr : Nat → Nat} {a t : Nat} {x : Int32} {y : Int32} (h2 : t ≠ 2) (h10 : ¬ 10 ≤ t) (j : Nat) : updV (bAv adr σ a t) x.toNatClampNeg (.int y) j = bAv adr (bI σ a x.toNatClampNeg y) a t j := by
  unfold updV bAv
  rw [if_neg h2, if_neg h10, if_neg h2, if_neg h10]
  by_cases e : j = x.toNatClampNeg
  · subst e
    simp [bI, bU]
  · simp [bI, bU, e]
theorem upd_long {adr : Nat → Nat} {a : Nat} {x : Int32} {y : Int64} (j : Nat) : updV (bAv adr σ a 2) x.toNatClampNeg (.long y) j = bAv adr (bJ σ a x.toNatClampNeg y) a 2 j := by
  unfold updV bAv
  by_cases e : j = x.toNatClampNeg
  · subst e
    simp [bJ, bU]
  · simp [bJ, bU, e]
theorem upd_ref {adr : Nat → Nat} {a t : Nat} {x : Int32} {y : Option Nat} (h10 : 10 ≤ t) (j : Nat) : updV (bAv adr σ a t) x.toNatClampNeg (va_rf (y.map adr)) j = bAv adr (bR σ a x.toNatClampNeg y) a t j := by
  unfold updV bAv
  have h2 : ¬ t = 2 := by omega
  rw [if_neg h2, if_pos h10, if_neg h2, if_pos h10]
  by_cases e : j = x.toNatClampNeg
  · subst e
    simp [bR, bU]
  · simp [bR, bU, e]
theorem nb_I {a k : Nat} {z : Int32} (j : Nat) (hj : j ≠ a) : (bI σ a k z).1 j = σ.1 j ∧ (bI σ a k z).2.1 j = σ.2.1 j ∧ (bI σ a k z).2.2.1 j = σ.2.2.1 j := ⟨by funext q; simp [bI, bU, hj], rfl, rfl⟩
theorem nb_J {a k : Nat} {z : Int64} (j : Nat) (hj : j ≠ a) : (bJ σ a k z).1 j = σ.1 j ∧ (bJ σ a k z).2.1 j = σ.2.1 j ∧ (bJ σ a k z).2.2.1 j = σ.2.2.1 j := ⟨rfl, by funext q; simp [bJ, bU, hj], rfl⟩
theorem nb_R {a k : Nat} {z : Option Nat} (j : Nat) (hj : j ≠ a) : (bR σ a k z).1 j = σ.1 j ∧ (bR σ a k z).2.1 j = σ.2.1 j ∧ (bR σ a k z).2.2.1 j = σ.2.2.1 j := ⟨rfl, rfl, by funext q; simp [bR, bU, hj]⟩
theorem sm_alenM (hK : bKn D cA s) (row : ∀ (H : Heap) (locs : List Loc) (cells slots : Nat) (ls : Array Slot) (cst : List Value) (a : Nat) (t : FieldType) (cell : Cell), H[a]? = some cell → s.isArrayOf cell t → W p l e R s m args below meth c H locs cells slots Qf (F0 m (pcs nxt) ls (.int cell.slots.size.toInt32 :: cst)) → W p l e R s m args below meth c H locs cells slots Qf (F0 m (pcs i) ls (.ref a :: cst)))
    (h : match st with
    | .ref a :: r => ¬ bTy a = 9 ∧ bG p l e R s m args below meth c D cA b0 adr0 σ0 nL pcs Qf (nxt, L, .int (Int32.ofNat (bLen σ a)) :: r, σ)
    | _ => False) : bG p l e R s m args below meth c D cA b0 adr0 σ0 nL pcs Qf (i, L, st, σ) := by
  split at h
  · exact sm_alen hK row h
  · exact h.elim
set_option maxHeartbeats 8000000 in
theorem bs_heap {n lvl : Nat} {M : bM} {X : List (Nat × Nat × Nat × Nat)} {C : bCall} {Q : bPost} {ev : bE} (hx : p.tables.exec = Jvm.exec) (hb : c.code = (bYt n).2.1) (hown : s.vm.findClass (bYt n).1.cls = some m.cls) (hmn : meth.name = (bYt n).1.name) (hE : bEnv D cA b0 adr0 σ0 s) (hpcs : ∀ j, pcs j = (bRow M j).1)
    (he : bRow M i = ev) (hok : bRok n M ev) (hp : bHeapI ev.2.1 = true) (h : bW lvl X i ev (bG p l e R s m args below meth c D cA b0 adr0 σ0 nL pcs Qf ) C Q L st σ) : bG p l e R s m args below meth c D cA b0 adr0 σ0 nL pcs Qf (i, L, st, σ) := by
  obtain ⟨pc, ins, len, nxt, tgt, aux, sw⟩ := ev
  have hpi : pcs i = pc := by rw [hpcs, he]
  have hd0 : decode (bYt n).2.1 pc = .ok (ins, len) := hok.1
  have hK := hE.2.1
  have hwd := hE.2.2.2
  cases ins
  case tableswitch d lo hi os =>
    have hs : (decide ((pc : Int) + d = ((bRow M tgt).1 : Int)) && bSwOk M pc lo 0 sw os.toList && decide (hi = lo + (os.size : Int) - 1)) = true := hok.2.2
    simp only [Bool.and_eq_true, decide_eq_true_eq] at hs
    exact sm_tsw hx hb hpcs hpi hd0 hs.1.1 hs.1.2 hs.2 h
  case arraylength =>
    have hs : (Nat.beq (bRow M nxt).1 (pc + len) && Nat.beq len 1) = true := hok.2.2
    simp only [Bool.and_eq_true, Nat.beq_eq] at hs
    obtain ⟨f1, rfl⟩ := hs
    rw [← hpcs] at f1
    exact sm_alenM hK (fun H locs cells slots ls cst a t cell k1 k2 kk => by rw [hpi]; rw [f1] at kk; exact W.alen hx hb k1 k2 rfl rfl rfl hd0 kk) h
  case iaload =>
    have hs : (Nat.beq (bRow M nxt).1 (pc + len) && Nat.beq len 1) = true := hok.2.2
    simp only [Bool.and_eq_true, Nat.beq_eq] at hs
    obtain ⟨f1, rfl⟩ := hs
    rw [← hpcs] at f1
    exact sm_ald (t := 0) (f := fun a x => .int (σ.1 a x.toNatClampNeg)) hK (by decide) (fun adr a x _ _ _ => rfl) (fun H locs cells slots ls cst a x v cell k1 k2 k3 k4 k5 kk => by rw [hpi]; rw [f1] at kk; exact W.iald hx hb k1 k2 k3 k4 k5 rfl rfl hd0 kk) h
  case baload =>
    have hs : (Nat.beq (bRow M nxt).1 (pc + len) && Nat.beq len 1) = true := hok.2.2
    simp only [Bool.and_eq_true, Nat.beq_eq] at hs
    obtain ⟨f1, rfl⟩ := hs
    rw [← hpcs] at f1
    exact sm_ald (t := 1) (f := fun a x => .int (σ.1 a x.toNatClampNeg)) hK (by decide) (fun adr a x _ _ _ => rfl) (fun H locs cells slots ls cst a x v cell k1 k2 k3 k4 k5 kk => by rw [hpi]; rw [f1] at kk; exact W.zald hx hb k1 k2 k3 k4 k5 rfl rfl hd0 kk) h
  case laload =>
    have hs : (Nat.beq (bRow M nxt).1 (pc + len) && Nat.beq len 1) = true := hok.2.2
    simp only [Bool.and_eq_true, Nat.beq_eq] at hs
    obtain ⟨f1, rfl⟩ := hs
    rw [← hpcs] at f1
    exact sm_ald (t := 2) (f := fun a x => .long (σ.2.1 a x.toNatClampNeg)) hK (by decide) (fun adr a x _ _ _ => rfl) (fun H locs cells slots ls cst a x v cell k1 k2 k3 k4 k5 kk => by rw [hpi]; rw [f1] at kk; exact W.lald hx hb k1 k2 k3 k4 k5 rfl rfl hd0 kk) h
  case aaload =>
    have hs : (Nat.beq (bRow M nxt).1 (pc + len) && Nat.beq len 1 && Nat.ble 10 (bnth aux 0 0) && Nat.blt (bnth aux 0 0) 23) = true := hok.2.2
    simp only [Bool.and_eq_true, Nat.beq_eq, Nat.ble_eq] at hs
    obtain ⟨⟨⟨f1, rfl⟩, f2⟩, -⟩ := hs
    rw [← hpcs] at f1
    refine sm_ald (t := bnth aux 0 0) (f := fun a x => bOpt (σ.2.2.1 a x.toNatClampNeg)) hK (by omega) (fun adr a x hw ht hl => ?_) (fun H locs cells slots ls cst a x v cell k1 k2 k3 k4 k5 kk => ?_) h
    · have hl2 : σ.2.2.2.1 a = 2 := by
        rcases hl with q | q | q
        · exact q
        · rw [q] at ht
          rw [← ht] at f2
          exact absurd f2 (by decide)
        · rw [q] at ht
          rw [← ht] at f2
          exact absurd f2 (by decide)
      have no : ¬ a % 256 < 13 := fun q => by
        have h9 := bTy_obj _ q
        unfold bTy at ht
        omega
      unfold bAv
      rw [if_neg (by omega), if_pos f2]
      cases hr : σ.2.2.1 a x.toNatClampNeg with
      | none => rfl
      | some z => exact ⟨rfl, Or.inl ((hw a (by rw [hl2]; decide)).2.2.2.2 no _ z hr).1⟩
    · rw [hpi]
      rw [f1] at kk
      exact W.aald hx hb k1 k2 (by rw [bEt_ref f2]; rfl) k3 k4 k5 rfl rfl hd0 kk
  case iastore =>
    have hs : (Nat.beq (bRow M nxt).1 (pc + len) && Nat.beq len 1) = true := hok.2.2
    simp only [Bool.and_eq_true, Nat.beq_eq] at hs
    obtain ⟨f1, rfl⟩ := hs
    rw [← hpcs] at f1
    have h2 : bIxS 0 σ st fun a x v r => bIsI v fun y => bG p l e R s m args below meth c D cA b0 adr0 σ0 nL pcs Qf (nxt, L, r, bI σ a x.toNatClampNeg y) := h
    unfold bIxS at h2
    split at h2
    · obtain ⟨g1, g2, g3, g4⟩ := h2
      unfold bIsI at g4
      split at g4
      · rename_i y
        refine sm_ast (σ' := bI σ _ _ y) (nxt := nxt) (t := 0) (pv := fun _ v => ∃ z, v = .int z) (cv := fun _ => .int y) hK (by decide) (fun H locs cells slots ls cst a k z x v q1 q2 q3 q4 kk => ?_) rfl rfl nb_I g1 g2 g3 (fun adr H _ w hw => ⟨hw, _, hw⟩) (fun w _ _ _ => w.same rfl rfl) (fun adr j => upd_int (t := 0) (by decide) (by decide) j) g4
        obtain ⟨z9, rfl⟩ := q4
        rw [hpi]
        refine W.iast hx hb q1 q2 (fun q => by cases q) (by show ¬ (x < 0 ∨ (arrV _ _ _).slots.size ≤ _); rw [arrV_size]; exact q3) rfl rfl hd0 fun H1 e1 e2 e3 => ?_
        have g := kk H1 (by rw [e1, arrV_store]) e2 e3
        rw [f1] at g
        exact g
      · exact g4.elim
    · exact h2.elim
  case bastore =>
    have hs : (Nat.beq (bRow M nxt).1 (pc + len) && Nat.beq len 1) = true := hok.2.2
    simp only [Bool.and_eq_true, Nat.beq_eq] at hs
    obtain ⟨f1, rfl⟩ := hs
    rw [← hpcs] at f1
    have h2 : bIxS 1 σ st fun a x v r => bIsI v fun y => (y = 0 ∨ y = 1) ∧ bG p l e R s m args below meth c D cA b0 adr0 σ0 nL pcs Qf (nxt, L, r, bI σ a x.toNatClampNeg y) := h
    unfold bIxS at h2
    split at h2
    · obtain ⟨g1, g2, g3, g4⟩ := h2
      unfold bIsI at g4
      split at g4
      · rename_i y
        refine sm_ast (σ' := bI σ _ _ y) (nxt := nxt) (t := 1) (pv := fun _ v => v = .int 0 ∨ v = .int 1) (cv := fun _ => .int y) hK (by decide) (fun H locs cells slots ls cst a k z x v q1 q2 q3 q4 kk => ?_) rfl rfl nb_I g1 g2 g3 (fun adr H _ w hw => ⟨hw, g4.1.imp (fun q => by rw [show w = .int y from hw, q]) (fun q => by rw [show w = .int y from hw, q])⟩) (fun w _ _ _ => w.same rfl rfl) (fun adr j => upd_int (t := 1) (by decide) (by decide) j) g4.2
        rw [hpi]
        rcases q4 with rfl | rfl
        · refine W.zast hx hb q1 q2 (fun q => by cases q) (by show ¬ (x < 0 ∨ (arrV _ _ _).slots.size ≤ _); rw [arrV_size]; exact q3) rfl rfl hd0 fun H1 e1 e2 e3 => ?_
          have g := kk H1 (by rw [e1, arrV_store]; rfl) e2 e3
          rw [f1] at g
          exact g
        · refine W.zast hx hb q1 q2 (fun q => by cases q) (by show ¬ (x < 0 ∨ (arrV _ _ _).slots.size ≤ _); rw [arrV_size]; exact q3) rfl rfl hd0 fun H1 e1 e2 e3 => ?_
          have g := kk H1 (by rw [e1, arrV_store]; rfl) e2 e3
          rw [f1] at g
          exact g
      · exact g4.elim
    · exact h2.elim
  case lastore =>
    have hs : (Nat.beq (bRow M nxt).1 (pc + len) && Nat.beq len 1) = true := hok.2.2
    simp only [Bool.and_eq_true, Nat.beq_eq] at hs
    obtain ⟨f1, rfl⟩ := hs
    rw [← hpcs] at f1
    have h2 : bIxS 2 σ st fun a x v r => bIsJ v fun y => bG p l e R s m args below meth c D cA b0 adr0 σ0 nL pcs Qf (nxt, L, r, bJ σ a x.toNatClampNeg y) := h
    unfold bIxS at h2
    split at h2
    · obtain ⟨g1, g2, g3, g4⟩ := h2
      unfold bIsJ at g4
      split at g4
      · rename_i y
        refine sm_ast (σ' := bJ σ _ _ y) (nxt := nxt) (t := 2) (pv := fun _ v => ∃ z, v = .long z) (cv := fun _ => .long y) hK (by decide) (fun H locs cells slots ls cst a k z x v q1 q2 q3 q4 kk => ?_) rfl rfl nb_J g1 g2 g3 (fun adr H _ w hw => ⟨hw, _, hw⟩) (fun w _ _ _ => w.same rfl rfl) (fun adr j => upd_long j) g4
        obtain ⟨z9, rfl⟩ := q4
        rw [hpi]
        refine W.last hx hb q1 q2 (fun q => by cases q) (by show ¬ (x < 0 ∨ (arrV _ _ _).slots.size ≤ _); rw [arrV_size]; exact q3) rfl rfl hd0 fun H1 e1 e2 e3 => ?_
        have g := kk H1 (by rw [e1, arrV_store]) e2 e3
        rw [f1] at g
        exact g
      · exact g4.elim
    · exact h2.elim
  case aastore =>
    have hs : (Nat.beq (bRow M nxt).1 (pc + len) && Nat.beq len 1 && Nat.ble 10 (bnth aux 0 0) && Nat.blt (bnth aux 0 0) 23 && Nat.beq (bnth aux 1 0 + 10) (bnth aux 0 0)) = true := hok.2.2
    simp only [Bool.and_eq_true, Nat.beq_eq, Nat.ble_eq, Nat.blt_eq] at hs
    obtain ⟨⟨⟨⟨f1, rfl⟩, f2⟩, f3⟩, f4⟩ := hs
    rw [← hpcs] at f1
    have h2 : bIxS (bnth aux 0 0) σ st fun a x v r => bIsA v fun y => (∀ z, y = some z → z % 256 = bnth aux 1 0) ∧ bG p l e R s m args below meth c D cA b0 adr0 σ0 nL pcs Qf (nxt, L, r, bR σ a x.toNatClampNeg y) := h
    generalize bnth aux 0 0 = t at *
    generalize bnth aux 1 0 = t1 at *
    unfold bIxS at h2
    split at h2
    · rename_i v x a r
      obtain ⟨g1, g2, g3, g4⟩ := h2
      have hT : t ∈ bTs := by rw [← g1]; exact bTy_codes a (by rw [g1]; exact f2)
      have no : ¬ a % 256 < 13 := fun q => by
        have h9 := bTy_obj _ q
        unfold bTy at g1
        omega
      unfold bIsA at g4
      split at g4
      · rename_i z
        have hzk := g4.1 z rfl
        have hzl : ∀ (adr : Nat → Nat) (w : Value), bVr adr σ (.ref z) w → σ.2.2.2.1 z = 2 := fun adr w hw => by
          rcases hw.2 with q | q | q
          · exact q
          · rw [q] at hzk; omega
          · rw [q] at hzk; omega
        refine sm_ast (σ' := bR σ _ _ (some z)) (nxt := nxt) (t := t) (pv := fun H v => ∃ (z9 : Nat) (V : Nat → Value), v = .ref z9 ∧ t_OB z9 (D.1 t1) (bNf t1) (D.2 t1) H V) (cv := fun adr => va_rf ((some z).map adr)) hK hT (fun H locs cells slots ls cst a k zz x v q1 q2 q3 q4 kk => ?_) rfl rfl nb_R g1 g2 g3 (fun adr H hr w hw => ⟨hw.1, adr z, bFv adr σ z, hw.1, ?_⟩) (fun w hl _ hv => ?_) (fun adr j => upd_ref (t := t) f2 j) g4.2
        · obtain ⟨z9, V, rfl, hO⟩ := q4
          have hlt : x.toNatClampNeg < k := Nat.not_le.mp fun q => q3 (Or.inr q)
          have h0 : ¬ x < 0 := fun q => q3 (Or.inl q)
          obtain ⟨cellV, w1, w2, w3, -⟩ := hO
          have hcls := (hK.1 t1 (by omega)).2
          have hRA := (hK.2 t hT).2
          rw [bEt_ref f2, show t - 10 = t1 by omega] at hRA
          obtain ⟨kA, comp, k1, k2, k3, -⟩ := hRA
          have hcomp : comp = D.1 t1 := Option.some.inj (k3.symm.trans hcls.1)
          subst hcomp
          obtain ⟨kC, hkC, -⟩ := hcls.2
          rw [hpi]
          refine W.aast hx hb q1 (fun q h => by cases h) (fun h => by cases h) k1 k2 rfl hkC ⟨h0, by show _ < (arrV _ _ _).slots.size; rw [arrV_size]; exact hlt⟩ w1 (fun q h => by rw [w3] at h; cases h) (by rw [w2]; exact hkC) (by rw [w2]; exact va_assign hcls) rfl rfl hd0 fun H1 e1 e2 e3 => ?_
          have g := kk H1 (by rw [e1, arrV_store]) e2 e3
          rw [f1] at g
          exact g
        · have hO := (hr.2.1 z (by rw [hzl adr w hw]; decide)).2.1 (by rw [hzk]; omega)
          rw [hzk] at hO
          exact hO
        · obtain ⟨adr, w9, hw9⟩ := hv
          refine bWf_R w no (fun z2 hz2 => ?_)
          cases hz2
          exact ⟨hzl adr w9 hw9, by omega⟩
      · refine sm_ast (σ' := bR σ _ _ none) (nxt := nxt) (t := t) (pv := fun _ v => v = .null) (cv := fun adr => va_rf ((none : Option Nat).map adr)) hK hT (fun H locs cells slots ls cst a k zz x v q1 q2 q3 q4 kk => ?_) rfl rfl nb_R g1 g2 g3 (fun adr H hr w hw => ⟨hw, hw⟩) (fun w hl _ _ => bWf_R w no (fun z hz => by cases hz)) (fun adr j => upd_ref (t := t) f2 j) g4.2
        subst q4
        rw [hpi]
        rw [bEt_ref f2] at q2
        refine va_WaastN hx hb q1 q2 (fun h => by cases h) (by show ¬ (x < 0 ∨ (arrV _ _ _).slots.size ≤ _); rw [arrV_size]; exact q3) rfl rfl hd0 fun H1 e1 e2 e3 => ?_
        have g := kk H1 (by rw [e1, arrV_store]) e2 e3
        rw [f1] at g
        exact g
      · exact g4.elim
    · exact h2.elim
  case getfield ix =>
    match aux, hok, h with
    | [ci, k, t, kd, x, y], hok, h =>
      have hs : (Nat.beq (bRow M nxt).1 (pc + len) && Nat.beq len 3 && Nat.blt ci 13 && Nat.blt k (bNf ci) && decide (bFk ci k = (t, kd, x, y))) = true := hok.2.2
      simp only [Bool.and_eq_true, Nat.beq_eq, Nat.blt_eq, decide_eq_true_eq] at hs
      obtain ⟨⟨⟨⟨f1, rfl⟩, f2⟩, f3⟩, f4⟩ := hs
      rw [← hpcs] at f1
      exact sm_get f2 f3 f4 (fun H locs cells slots ls cst a V hO kk => by rw [hpi]; rw [f1] at kk; exact b_getf hx hb f2 f3 hwd hown hK hO (hwd.at (hok.2.1 _ (by simp [bNd])) rfl) hd0 kk) h
  case putfield ix =>
    match aux, hok, h with
    | [ci, k, t, kd, x, y], hok, h =>
      have hs : (Nat.beq (bRow M nxt).1 (pc + len) && Nat.beq len 3 && Nat.blt ci 13 && Nat.blt k (bNf ci) && decide (bFk ci k = (t, kd, x, y)) && (!(bFn ci k).2.2.2 || (decide ((bYt n).1.name = "<init>") && decide ((bYt n).1.cls = bCn ci)))) = true := hok.2.2
      simp only [Bool.and_eq_true, Nat.beq_eq, Nat.blt_eq, decide_eq_true_eq, Bool.or_eq_true, Bool.not_eq_true'] at hs
      obtain ⟨⟨⟨⟨⟨f1, rfl⟩, f2⟩, f3⟩, f4⟩, f5⟩ := hs
      rw [← hpcs] at f1
      have ft : (bFk ci k).1 = t := by rw [f4]
      refine sm_put f2 f3 f4 (fun q => by have := bCf_kd f2 f3 (by rw [ft, q]); rw [f4] at this; exact this) (fun H locs cells slots ls cst a V v hO hv kk => ?_) h
      rw [hpi]
      obtain ⟨n1, n2⟩ := b_fit ft (bCf_ok f2 f3) hv
      refine b_putf hx hb f2 f3 hwd hown hK hO (hwd.at (hok.2.1 _ (by simp [bNd])) rfl) (fun q => ?_) n1 n2 hd0 fun H' e1 e2 e3 => ?_
      · rcases f5 with f5 | f5
        · rw [q] at f5; cases f5
        · exact ⟨hmn.trans f5.1, f5.2⟩
      · have g := kk H' e1 e2 e3
        rw [f1] at g
        exact g
  case getstatic ix =>
    have hs : (Nat.beq (bRow M nxt).1 (pc + len) && Nat.beq len 3 && Nat.beq (bnth aux 0 0) 201) = true := hok.2.2
    simp only [Bool.and_eq_true, Nat.beq_eq] at hs
    obtain ⟨⟨f1, rfl⟩, f2⟩ := hs
    rw [← hpcs] at f1
    have h2 : bG p l e R s m args below meth c D cA b0 adr0 σ0 nL pcs Qf (nxt, L, .ref (bnth aux 0 0) :: st, σ) := h
    rw [f2] at h2
    intro adr H locs ls cst hI
    have hI' := hI
    obtain ⟨k1, k2, k3, k4, k5, k6, k7⟩ := hI
    have g := h2 adr H locs ls (.ref (adr 201) :: cst) ⟨k1, k2, k3, (show bSr adr σ (.ref 201 :: st) (.ref (adr 201) :: cst) from ⟨⟨rfl, Or.inr (Or.inr rfl)⟩, k4⟩), k5, k6, k7⟩
    rw [f1] at g
    rw [hpi]
    have hZ := hE.2.2.1.2.2
    rw [← k2.1 201 (Or.inr (Or.inr rfl))] at hZ
    obtain ⟨cf, kf, fi, f, a, cell, z1, z2, z3, z4, z5, z6, z7, z8⟩ := hZ
    exact W.gets hx hb hown (hwd.at (hok.2.1 _ (by simp [bNd])) rfl) z1 z2 z3 z4 (by rw [k6 a (Nat.not_le.mp z8)]; exact z5) (fun e => by rw [e] at z6; cases z6) z7 rfl hd0 g
  all_goals cases hp
end

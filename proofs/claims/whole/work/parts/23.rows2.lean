/-! the rows that read and write the heap, assembled -/
section
variable {p : Program} {l : Launch} {e : Env} {R : Room} {s : State} {m : MethodId} {args : Array Value} {below : List Frame} {meth : Method} {c : Code} {D : va_G} {cA : Nat → ClassId} {b0 : Nat} {adr0 : Nat → Nat} {σ0 : bSt} {nL : Nat} {pcs : Nat → Nat} {Qf : State → Prop}
variable {i nxt tgt : Nat} {L L' st st' : List Value} {σ : bSt} {cc : ByteArray}
theorem bSw_at {M : bM} {pc : Nat} {lo : Int} {x : Int32} {f : Nat → Prop} {d : Nat} : ∀ (sw : List (Int32 × Nat)) (os : List Int) (j : Nat), bSwOk M pc lo j sw os = true → bSw x f d sw →
    (∃ (k t : Nat) (o : Int), os[k]? = some o ∧ x.toInt = lo + j + k ∧ (pc : Int) + o = ((bRow M t).1 : Int) ∧ f t) ∨ ((x.toInt < lo + j ∨ lo + j + os.length ≤ x.toInt) ∧ f d)
  | [], [], j, _, h => Or.inr ⟨by simp only [List.length_nil]; omega, h⟩
  | [], o :: r, j, h, _ => by cases h
  | q :: l, [], j, h, _ => by cases h
  | q :: l, o :: r, j, h, g => by
    unfold bSwOk at h
    rw [Bool.and_eq_true, Bool.and_eq_true, decide_eq_true_eq, decide_eq_true_eq] at h
    obtain ⟨⟨h1, h2⟩, h3⟩ := h
    by_cases e : x = q.1
    · exact Or.inl ⟨0, q.2, o, rfl, by rw [e, h1]; simp, h2, g.1 e⟩
    · have hne : x.toInt ≠ lo + j := fun z => e (Int32.toInt_inj.mp (by rw [z, h1]))
      rcases bSw_at l r (j + 1) h3 (g.2 e) with ⟨k, t, o', q1, q2, q3, q4⟩ | ⟨q1, q2⟩
      · exact Or.inl ⟨k + 1, t, o', q1, by rw [q2]; push_cast; omega, q3, q4⟩
      · refine Or.inr ⟨?_, q2⟩
        simp only [List.length_cons]
        push_cast at q1 ⊢
        omega
theorem sm_tsw {M : bM} {pc len : Nat} {d lo hi : Int} {os : Array Int} {sw : List (Int32 × Nat)} (hx : p.tables.exec = Jvm.exec) (hb : c.code = cc) (hpcs : ∀ j, pcs j = (bRow M j).1) (hpi : pcs i = pc) (hd : decode cc pc = .ok (.tableswitch d lo hi os, len)) (h1 : (pc : Int) + d = ((bRow M tgt).1 : Int)) (h2 : bSwOk M pc lo 0 sw os.toList = true) (h3 : hi = lo + (os.size : Int) - 1)
    (h : bI1 st fun x r => bSw x (fun t => bG p l e R s m args below meth c D cA b0 adr0 σ0 nL pcs Qf (t, L, r, σ)) tgt sw) : bG p l e R s m args below meth c D cA b0 adr0 σ0 nL pcs Qf (i, L, st, σ) := by
  unfold bI1 at h
  split at h
  · rename_i x r
    intro adr H locs ls cst ⟨k1, k2, k3, k4, k5⟩
    obtain ⟨cr, rfl, hr⟩ := bSr_int k4
    rw [hpi]
    rcases bSw_at sw os.toList 0 h2 h with ⟨k, t, o, q1, q2, q3, q4⟩ | ⟨q1, q2⟩
    · have hk : k < os.size := by
        have := (List.getElem?_eq_some_iff.mp q1).1
        simpa using this
      have g := q4 adr H locs ls cr ⟨k1, k2, k3, hr, k5⟩
      rw [← hpcs] at q3
      refine lv_tableIn hx hb hd (by rw [q2]; simp; omega) (by rw [q2, h3]; simp; omega) (off := o) ?_ q3 g
      rw [show (x.toInt - lo).toNat = k by rw [q2]; simp; omega]
      rw [← Array.getElem?_toList]
      exact q1
    · have g := q2 adr H locs ls cr ⟨k1, k2, k3, hr, k5⟩
      rw [← hpcs] at h1
      refine lv_tableOut hx hb hd ?_ h1 g
      rw [h3]
      simp only [Array.length_toList] at q1
      omega
  · exact h.elim
theorem bWf_R {a k : Nat} {y : Option Nat} (h : bWf σ) (ha : ¬ a % 256 < 13) (hy : ∀ z, y = some z → σ.2.2.2.1 z = 2 ∧ z % 256 + 10 = bTy a) : bWf (bR σ a k y) := by
  intro id hid
  obtain ⟨w1, w2, w3, w4, w5⟩ := h id hid
  refine ⟨w1, w2, w3, fun z j hj t3 hs => w4 z j hj t3 (hs.imp (fun q => q) (fun q => ?_)), fun z j z2 hz => ?_⟩
  · have q2 : (bU σ.2.2.1 a k y id j).isSome = true := q
    unfold bU at q2
    rw [if_neg (fun q => ha (by rw [← q.1]; exact z))] at q2
    exact q2
  · have q2 : bU σ.2.2.1 a k y id j = some z2 := hz
    unfold bU at q2
    by_cases e8 : id = a ∧ j = k
    · rw [if_pos e8] at q2
      rw [e8.1]
      exact hy z2 q2
    · rw [if_neg e8] at q2
      exact w5 z j z2 q2
theorem bEt_ref {t : Nat} (h : 10 ≤ t) : bEt t = .object (bCn (t - 10)) := by
  unfold bEt
  rw [if_neg (by omega), if_neg (by omega), if_neg (by omega)]
theorem bTs_of {a : Nat} (h : bWf σ) (ha : σ.2.2.2.1 a = 2) (hk : ¬ a % 256 < 13) : bTy a ∈ bTs := ((h a (by rw [ha]; decide)).2.2.1 hk).2
end

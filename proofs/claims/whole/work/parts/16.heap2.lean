/-! fields written -/
section
variable {p : Program} {l : Launch} {e : Env} {R : Room} {s : State} {m : MethodId} {args : Array Value} {below : List Frame} {meth : Method} {c : Code} {D : va_G} {cA : Nat → ClassId} {b0 : Nat} {adr0 : Nat → Nat} {σ0 : bSt} {nL : Nat} {pcs : Nat → Nat} {Qf : State → Prop}
variable {i nxt tgt : Nat} {L L' st st' : List Value} {σ : bSt} {cc : ByteArray}
theorem bFv_I {adr : Nat → Nat} {a k : Nat} {x : Int32} (h2 : (bFk (a % 256) k).1 ≠ 2) (h3 : (bFk (a % 256) k).1 ≠ 3) (j : Nat) : updV (bFv adr σ a) k (.int x) j = bFv adr (bI σ a k x) a j := by
  unfold updV bFv
  by_cases e : j = k
  · subst e
    rw [if_pos rfl, if_neg h2, if_neg h3]
    simp [bI, bU]
  · rw [if_neg e]
    simp only [bI, bU, e, and_false, if_false]
    first | done | rfl | congr
theorem bFv_J {adr : Nat → Nat} {a k : Nat} {x : Int64} (h2 : (bFk (a % 256) k).1 = 2) (j : Nat) : updV (bFv adr σ a) k (.long x) j = bFv adr (bJ σ a k x) a j := by
  unfold updV bFv
  by_cases e : j = k
  · subst e
    rw [if_pos rfl, if_pos h2]
    simp [bJ, bU]
  · rw [if_neg e]
    simp only [bJ, bU, e, and_false, if_false]
    first | done | rfl | congr
theorem bFv_R {adr : Nat → Nat} {a k c : Nat} (h3 : (bFk (a % 256) k).1 = 3) (hc : c = 256 * ((bFk (a % 256) k).2.2.1 * (a / 256) + (bFk (a % 256) k).2.2.2) + (bFk (a % 256) k).2.1) (j : Nat) : updV (bFv adr σ a) k (.ref (adr c)) j = bFv adr (bR σ a k (some c)) a j := by
  unfold updV bFv
  by_cases e : j = k
  · subst e
    rw [if_pos rfl, if_neg (by rw [h3]; decide), if_pos h3, if_pos (Or.inr (by simp [bR, bU])), hc]
  · rw [if_neg e]
    simp only [bR, bU, e, and_false, if_false]
theorem sm_put {ci k t kd x y : Nat} (hci : ci < 13) (hk : k < bNf ci) (hF : bFk ci k = (t, kd, x, y)) (hkd : t = 3 → kd < 200)
    (row : ∀ (H : Heap) (locs : List Loc) (cells slots : Nat) (ls : Array Slot) (cst : List Value) (a : Nat) (V : Nat → Value) (v : Value), t_OB a (D.1 ci) (bNf ci) (D.2 ci) H V → ((t = 0 ∧ ∃ z, v = .int z) ∨ (t = 1 ∧ (v = .int 0 ∨ v = .int 1)) ∨ (t = 2 ∧ ∃ z, v = .long z) ∨ (t = 3 ∧ ∃ z, v = .ref z)) →
      (∀ H' : Heap, t_OB a (D.1 ci) (bNf ci) (D.2 ci) H' (updV V k v) → H'.size = H.size → (∀ q : Nat, q ≠ a → H'[q]? = H[q]?) → W p l e R s m args below meth c H' (locs ++ [⟨a, D.2 ci k⟩]) cells slots Qf (F0 m (pcs nxt) ls cst)) → W p l e R s m args below meth c H locs cells slots Qf (F0 m (pcs i) ls (v :: .ref a :: cst)))
    (h : bPut [ci, k, t, kd, x, y] σ st fun r σ' => bG p l e R s m args below meth c D cA b0 adr0 σ0 nL pcs Qf (nxt, L, r, σ')) : bG p l e R s m args below meth c D cA b0 adr0 σ0 nL pcs Qf (i, L, st, σ) := by
  have hF1 : (bFk ci k).1 = t := by rw [hF]
  have hF2 : (bFk ci k).2.1 = kd := by rw [hF]
  have hF3 : (bFk ci k).2.2.1 = x := by rw [hF]
  have hF4 : (bFk ci k).2.2.2 = y := by rw [hF]
  have go : ∀ (a : Nat) (r : List Value) (v : Value) (σ' : bSt) (g : bG p l e R s m args below meth c D cA b0 adr0 σ0 nL pcs Qf (nxt, L, r, σ')) (hm : a % 256 = ci) (hv : (t = 0 ∧ ∃ z, v = .int z) ∨ (t = 1 ∧ (v = .int 0 ∨ v = .int 1)) ∨ (t = 2 ∧ ∃ z, v = .long z) ∨ (t = 3 ∧ ∃ z, v = .ref z)) (hA : σ'.2.2.2.1 = σ.2.2.2.1) (hc : σ'.2.2.2.2 = σ.2.2.2.2)
      (hn : ∀ j, j ≠ a → σ'.1 j = σ.1 j ∧ σ'.2.1 j = σ.2.1 j ∧ σ'.2.2.1 j = σ.2.2.1 j),
      ∀ (adr : Nat → Nat) (H : Heap) (locs : List Loc) (ls : Array Slot) (cst : List Value), bIn D cA b0 s adr0 σ0 nL adr H locs ls cst (i, L, st, σ) → σ.2.2.2.1 a ≠ 0 → bWf σ' → (∀ j, updV (bFv adr σ a) k v j = bFv adr σ' a j) → ∀ cr, cst = v :: .ref (adr a) :: cr → bSr adr σ r cr → W p l e R s m args below meth c H locs (σ.2.2.2.2.1 - σ0.2.2.2.2.1) (σ.2.2.2.2.2 - σ0.2.2.2.2.2) Qf (F0 m (pcs i) ls cst) := by
    intro a r v σ' g hm hv hA hc hn adr H locs ls cst hI hl hw hV cr hcr hr
    subst hcr
    have ho := ((hI.1.2.1 a hl).2.1 (by rw [hm]; exact hci))
    rw [hm] at ho
    refine row H locs _ _ ls cr (adr a) _ v ho hv fun H' e1 e2 e3 => ?_
    have hB : bOb D cA adr σ' a H' := ⟨fun _ => by rw [hm]; exact e1.to (fun j _ => hV j), fun q => absurd (by rw [hm]; exact hci) q⟩
    have g2 := g adr H' _ ls cr (bIn_put (sl := D.2 ci k) hI hl hA hc hw e2 e3 hB hn hr)
    rw [show (nxt, L, r, σ').2.2.2.2.2.2.2 = σ.2.2.2.2 from hc] at g2
    exact g2
  have nI : ∀ (a : Nat) (z : Int32) (j : Nat), j ≠ a → (bI σ a k z).1 j = σ.1 j ∧ (bI σ a k z).2.1 j = σ.2.1 j ∧ (bI σ a k z).2.2.1 j = σ.2.2.1 j := fun a z j hj => ⟨by funext q; simp [bI, bU, hj], rfl, rfl⟩
  have nJ : ∀ (a : Nat) (z : Int64) (j : Nat), j ≠ a → (bJ σ a k z).1 j = σ.1 j ∧ (bJ σ a k z).2.1 j = σ.2.1 j ∧ (bJ σ a k z).2.2.1 j = σ.2.2.1 j := fun a z j hj => ⟨rfl, by funext q; simp [bJ, bU, hj], rfl⟩
  have nR : ∀ (a c : Nat) (j : Nat), j ≠ a → (bR σ a k (some c)).1 j = σ.1 j ∧ (bR σ a k (some c)).2.1 j = σ.2.1 j ∧ (bR σ a k (some c)).2.2.1 j = σ.2.2.1 j := fun a c j hj => ⟨rfl, rfl, by funext q; simp [bR, bU, hj]⟩
  unfold bPut at h
  split at h
  · rename_i _ _ _ q1 q2 q3 z a r e1
    simp only [List.cons.injEq, and_true] at e1
    obtain ⟨rfl, rfl, rfl, rfl, rfl, rfl⟩ := e1
    intro adr H locs ls cst hI
    obtain ⟨c1, e, hr⟩ := bSr_int hI.2.2.2.1
    obtain ⟨cr, e9, hl, hr⟩ := bSr_ref hr
    have hl2 : σ.2.2.2.1 a = 2 := live_obj hl h.1 hci
    exact go a r _ _ h.2 h.1 (Or.inl ⟨rfl, _, rfl⟩) rfl rfl (nI a z) adr H locs ls cst hI (by rw [hl2]; decide) (hI.1.1.same rfl rfl) (bFv_I (by rw [h.1, hF1]; decide) (by rw [h.1, hF1]; decide)) cr (by rw [e, e9]) hr
  · rename_i _ _ _ q1 q2 q3 z a r e1
    simp only [List.cons.injEq, and_true] at e1
    obtain ⟨rfl, rfl, rfl, rfl, rfl, rfl⟩ := e1
    intro adr H locs ls cst hI
    obtain ⟨c1, e, hr⟩ := bSr_int hI.2.2.2.1
    obtain ⟨cr, e9, hl, hr⟩ := bSr_raw hr
    exact go a r _ _ h.2 h.1 (Or.inl ⟨rfl, _, rfl⟩) rfl rfl (nI a z) adr H locs ls cst hI hl (hI.1.1.same rfl rfl) (bFv_I (by rw [h.1, hF1]; decide) (by rw [h.1, hF1]; decide)) cr (by rw [e, e9]) hr
  · rename_i _ _ _ q1 q2 q3 z a r e1
    simp only [List.cons.injEq, and_true] at e1
    obtain ⟨rfl, rfl, rfl, rfl, rfl, rfl⟩ := e1
    intro adr H locs ls cst hI
    obtain ⟨c1, e, hr⟩ := bSr_int hI.2.2.2.1
    obtain ⟨cr, e9, hl, hr⟩ := bSr_ref hr
    have hl2 : σ.2.2.2.1 a = 2 := live_obj hl h.1 hci
    exact go a r _ _ h.2.2 h.1 (Or.inr (Or.inl ⟨rfl, h.2.1.imp (fun q => by rw [q]) (fun q => by rw [q])⟩)) rfl rfl (nI a z) adr H locs ls cst hI (by rw [hl2]; decide) (hI.1.1.same rfl rfl) (bFv_I (by rw [h.1, hF1]; decide) (by rw [h.1, hF1]; decide)) cr (by rw [e, e9]) hr
  · rename_i _ _ _ q1 q2 q3 z a r e1
    simp only [List.cons.injEq, and_true] at e1
    obtain ⟨rfl, rfl, rfl, rfl, rfl, rfl⟩ := e1
    intro adr H locs ls cst hI
    obtain ⟨c1, e, hr⟩ := bSr_int hI.2.2.2.1
    obtain ⟨cr, e9, hl, hr⟩ := bSr_raw hr
    exact go a r _ _ h.2.2 h.1 (Or.inr (Or.inl ⟨rfl, h.2.1.imp (fun q => by rw [q]) (fun q => by rw [q])⟩)) rfl rfl (nI a z) adr H locs ls cst hI hl (hI.1.1.same rfl rfl) (bFv_I (by rw [h.1, hF1]; decide) (by rw [h.1, hF1]; decide)) cr (by rw [e, e9]) hr
  · rename_i _ _ _ q1 q2 q3 z a r e1
    simp only [List.cons.injEq, and_true] at e1
    obtain ⟨rfl, rfl, rfl, rfl, rfl, rfl⟩ := e1
    intro adr H locs ls cst hI
    obtain ⟨c1, e, hr⟩ := bSr_long hI.2.2.2.1
    obtain ⟨cr, e9, hl, hr⟩ := bSr_ref hr
    have hl2 : σ.2.2.2.1 a = 2 := live_obj hl h.1 hci
    exact go a r _ _ h.2 h.1 (Or.inr (Or.inr (Or.inl ⟨rfl, _, rfl⟩))) rfl rfl (nJ a z) adr H locs ls cst hI (by rw [hl2]; decide) (hI.1.1.same rfl rfl) (bFv_J (by rw [h.1, hF1])) cr (by rw [e, e9]) hr
  · rename_i _ _ _ q1 q2 q3 z a r e1
    simp only [List.cons.injEq, and_true] at e1
    obtain ⟨rfl, rfl, rfl, rfl, rfl, rfl⟩ := e1
    intro adr H locs ls cst hI
    obtain ⟨c1, e, hr⟩ := bSr_long hI.2.2.2.1
    obtain ⟨cr, e9, hl, hr⟩ := bSr_raw hr
    exact go a r _ _ h.2 h.1 (Or.inr (Or.inr (Or.inl ⟨rfl, _, rfl⟩))) rfl rfl (nJ a z) adr H locs ls cst hI hl (hI.1.1.same rfl rfl) (bFv_J (by rw [h.1, hF1])) cr (by rw [e, e9]) hr
  · rename_i _ _ q1 q2 q3 cz a r e1
    simp only [List.cons.injEq, and_true] at e1
    obtain ⟨rfl, rfl, rfl, rfl, rfl, rfl⟩ := e1
    intro adr H locs ls cst hI
    obtain ⟨c1, e, hlc, hr⟩ := bSr_ref hI.2.2.2.1
    obtain ⟨cr, e9, hl, hr⟩ := bSr_raw hr
    obtain ⟨hm, hcz, g⟩ := h
    have hkd := hkd rfl
    have hmod : cz % 256 < 200 := by
      rw [hcz, Nat.mul_add_mod, Nat.mod_eq_of_lt (Nat.lt_trans hkd (by decide))]
      exact hkd
    have hc2 : σ.2.2.2.1 cz = 2 := by
      rcases hlc with h | h | h
      · exact h
      · rw [h] at hmod
        exact absurd hmod (by decide)
      · rw [h] at hmod
        exact absurd hmod (by decide)
    have hform : cz = 256 * ((bFk (a % 256) k).2.2.1 * (a / 256) + (bFk (a % 256) k).2.2.2) + (bFk (a % 256) k).2.1 := by
      rw [hm, hF2, hF3, hF4]
      exact hcz
    refine go a r _ _ g hm (Or.inr (Or.inr (Or.inr ⟨rfl, _, rfl⟩))) rfl rfl (nR a cz) adr H locs ls cst hI hl ?_ (bFv_R (by rw [hm, hF1]) hform) cr (by rw [e, e9]) hr
    intro id hid
    obtain ⟨w1, w2, w3, w4, w5⟩ := hI.1.1 id hid
    refine ⟨w1, w2, w3, fun z j hj t3 hs => ?_, fun z j z2 hz => ?_⟩
    · by_cases e8 : id = a ∧ j = k
      · obtain ⟨rfl, rfl⟩ := e8
        show σ.2.2.2.1 _ = 2
        rw [← hform]
        exact hc2
      · refine w4 z j hj t3 (hs.imp (fun q => q) (fun q => ?_))
        have q2 : (bU σ.2.2.1 a k (some cz) id j).isSome = true := q
        unfold bU at q2
        rw [if_neg e8] at q2
        exact q2
    · have q2 : bU σ.2.2.1 a k (some cz) id j = some z2 := hz
      unfold bU at q2
      by_cases e8 : id = a ∧ j = k
      · exfalso
        obtain ⟨rfl, rfl⟩ := e8
        exact z (by rw [hm]; exact hci)
      · rw [if_neg e8] at q2
        exact w5 z j z2 q2
  · exact h.elim
end

/-! facts of the classes' fields, decided -/
def bAllF (f : Nat → Nat → Bool) : Bool := (List.range 13).all fun ci => (List.range (bNf ci)).all (f ci)
theorem bAllF_at {f : Nat → Nat → Bool} (h : bAllF f = true) {ci k : Nat} (hci : ci < 13) (hk : k < bNf ci) : f ci k = true :=
  List.all_eq_true.mp (List.all_eq_true.mp h ci (List.mem_range.mpr hci)) k (List.mem_range.mpr hk)
def bLays : List (List (Nat × Nat)) := [[(2, 105), (2, 107), (2, 109), (2, 111), (2, 113), (2, 115), (2, 117), (2, 119), (2, 121), (2, 123), (2, 125), (2, 127), (2, 129), (2, 131), (2, 133), (2, 135), (2, 137), (2, 139)],
  [(2, 211), (2, 213), (2, 215)],
  [(2, 228), (2, 230), (2, 232)],
  [(1, 47), (1, 49), (1, 51), (1, 53)],
  [(2, 44), (2, 46), (2, 48), (2, 50), (2, 52), (2, 54), (2, 56), (2, 58), (2, 60)],
  [(3, 15), (3, 17), (3, 19), (3, 21), (3, 23), (3, 25), (3, 27), (3, 29), (3, 31), (3, 33), (3, 35), (3, 37), (3, 39)],
  [(2, 160), (2, 162), (2, 164), (2, 166), (2, 168), (2, 170), (2, 172), (2, 174), (2, 176), (2, 178), (2, 180), (2, 182), (2, 184), (2, 186), (2, 188), (2, 190)],
  [(1, 80), (1, 82), (1, 84), (1, 86), (1, 88), (1, 90), (1, 92), (1, 94), (1, 96), (1, 98), (1, 100), (1, 102), (1, 104), (1, 106), (1, 108), (1, 110)],
  [(1, 189), (1, 191), (1, 193), (1, 195), (1, 197), (1, 199), (1, 201), (1, 203), (1, 205), (1, 207), (1, 209), (1, 211), (1, 213), (1, 215), (1, 217), (1, 219), (1, 221), (1, 223), (1, 225)],
  [(1, 235), (1, 237), (1, 239), (2, 1)],
  [(1, 127), (1, 129), (1, 131), (1, 133), (1, 135), (1, 137)],
  [(3, 50), (3, 52), (3, 54), (3, 56), (3, 58), (3, 60), (3, 62), (3, 64)],
  [(8, 17), (8, 19), (8, 21), (8, 23), (8, 25), (8, 27), (8, 29), (8, 31), (8, 33), (8, 35), (8, 37), (8, 39), (8, 41), (8, 43), (8, 45), (8, 47), (8, 49), (8, 51), (8, 53), (8, 55), (8, 57), (8, 59), (8, 61), (8, 63), (8, 65), (8, 67), (8, 69), (8, 71), (8, 73), (8, 75), (8, 77), (8, 79), (8, 81), (8, 83), (8, 85), (8, 87), (8, 89), (8, 91), (8, 93), (8, 95), (8, 97), (8, 99), (8, 101), (8, 103), (8, 105), (8, 107), (8, 109), (8, 111), (8, 113), (8, 115), (8, 117), (8, 119), (8, 121), (8, 123), (8, 125), (8, 127), (8, 129), (8, 131), (8, 133), (8, 135), (8, 137), (8, 139), (8, 141), (8, 143), (8, 145), (8, 147), (8, 149), (8, 151), (8, 153), (8, 155), (8, 157), (8, 159), (8, 161), (8, 163), (8, 165), (8, 167), (8, 169), (8, 171), (8, 173), (8, 175), (8, 177), (8, 179), (8, 181), (8, 183), (8, 185), (8, 187), (8, 189), (8, 191), (8, 193), (8, 195), (8, 197), (8, 199), (8, 201), (8, 203), (8, 205), (8, 207), (8, 209), (8, 211), (8, 213), (8, 215), (8, 217), (8, 219), (8, 221), (8, 223), (8, 225), (8, 227), (8, 229), (8, 231), (8, 233), (8, 235), (8, 237), (8, 239), (9, 1), (9, 3)]]
theorem bCf_own {ci k : Nat} (hci : ci < 13) (hk : k < bNf ci) : (bFn ci k).1 = bCn ci := of_decide_eq_true (bAllF_at (f := fun ci k => decide ((bFn ci k).1 = bCn ci)) (by decide +kernel) hci hk)
theorem bCf_ty {ci k : Nat} (hci : ci < 13) (hk : k < bNf ci) : parseFieldDescriptor (bFn ci k).2.2.1 = some (bFty ci k) := of_decide_eq_true (bAllF_at (f := fun ci k => decide (parseFieldDescriptor (bFn ci k).2.2.1 = some (bFty ci k))) (by decide +kernel) hci hk)
theorem bCf_ok {ci k : Nat} (hci : ci < 13) (hk : k < bNf ci) : bTyOk ci k = true := bAllF_at (f := bTyOk) (by decide +kernel) hci hk
theorem bCf_kd {ci k : Nat} (hci : ci < 13) (hk : k < bNf ci) : (bFk ci k).1 = 3 → (bFk ci k).2.1 < 200 := of_decide_eq_true (bAllF_at (f := fun ci k => decide ((bFk ci k).1 = 3 → (bFk ci k).2.1 < 200)) (by decide +kernel) hci hk)
theorem bCf_nm {ci a b : Nat} (hci : ci < 13) (ha : a < bNf ci) (hb : b < bNf ci) (hne : a ≠ b) : (bFn ci a).2.1 ≠ (bFn ci b).2.1 := by
  have h := bAllF_at (f := fun ci a => (List.range (bNf ci)).all fun b => decide (a = b) || decide ((bFn ci a).2.1 ≠ (bFn ci b).2.1)) (by decide +kernel) hci ha
  have h2 := List.all_eq_true.mp h b (List.mem_range.mpr hb)
  rcases Bool.or_eq_true_iff.mp h2 with q | q
  · exact absurd (of_decide_eq_true q) hne
  · exact of_decide_eq_true q
theorem bCf_w {ci k : Nat} (hci : ci < 13) (hk : k < bNf ci) : u_lay (bCn ci) (bFn ci) k ∈ lw_tbl := by
  have h := bAllF_at (f := fun ci k => decide (bWat (bnth (bnth bLays ci []) k (0, 9999)) = some (u_lay (bCn ci) (bFn ci) k))) (by decide +kernel) hci hk
  exact bWat_mem (of_decide_eq_true h)
theorem bCf_lay {s : State} {args : Array Value} (hwd : bWd s) {ci : Nat} (hci : ci < 13) : ∀ w ∈ u_ws (bCn ci) (bFn ci) (bNf ci), w.before args s = true := by
  intro w hw
  obtain ⟨k, hk, rfl⟩ := List.mem_map.mp hw
  refine hwd.at (bCf_w hci (List.mem_range.mp hk)) ?_
  unfold u_lay
  split <;> rfl
section
variable {p : Program} {l : Launch} {e : Env} {R : Room} {s : State} {m : MethodId} {args : Array Value} {below : List Frame} {meth : Method} {c : Code} {H : Heap} {locs : List Loc} {cells slots : Nat} {Q : State → Prop}
variable {cc : ByteArray} {pc : Nat} {ls : Array Slot} {rest : List Value} {D : va_G} {cA : Nat → ClassId}
theorem b_getf (hexec : p.tables.exec = Jvm.exec) (hb : c.code = cc) {own : String} {ci k index a : Nat} {V : Nat → Value} (hci : ci < 13) (hk : k < bNf ci) (hwd : bWd s) (hown : s.vm.findClass own = some m.cls) (hK : bKn D cA s) (hO : t_OB a (D.1 ci) (bNf ci) (D.2 ci) H V) (hlink : (Cond.fieldLink own index (bCn ci) (bFn ci k).2.1 (bFn ci k).2.2.1).before args s = true) (hdg : decode cc pc = .ok (.getfield index, 3))
    (kk : W p l e R s m args below meth c H locs cells slots Q (F0 m (pc + 3) ls (V k :: rest))) : W p l e R s m args below meth c H locs cells slots Q (F0 m pc ls (.ref a :: rest)) := by
  obtain ⟨cell, q1, q2, q3, q4⟩ := hO
  obtain ⟨hS, hfc, kC, hkC, hkind⟩ := hK.1 ci hci
  obtain ⟨cf, kf, fi, f, hi, hsl⟩ := hS k hk
  have hi2 := hi
  rw [bCf_own hci hk] at hi2
  refine W.getf hexec hb hown hlink hi2 (u_facts hfc hkC (u_lays (args := args) (bCf_lay hwd hci) (fun _ h => h) hk) hi).1 q1 (by rw [q3]; exact fun h => by cases h) (v := V k) ?_ rfl rfl hdg kk
  rw [hsl]
  exact q4 k hk
theorem b_apart {ci : Nat} (hci : ci < 13) (hwd : bWd s) (hK : bKn D cA s) : ∀ x y, x < bNf ci → y < bNf ci → x ≠ y → (D.2 ci) x ≠ (D.2 ci) y := by
  intro x y hx hy hne
  obtain ⟨hS, -⟩ := hK.1 ci hci
  obtain ⟨_, _, _, fa, hia, ea⟩ := hS x hx
  obtain ⟨_, _, _, fb, hib, eb⟩ := hS y hy
  rw [← ea, ← eb]
  refine u_apart (args := #[]) (u_lays (bCf_lay hwd hci) (fun _ h => h) hx) (u_lays (bCf_lay hwd hci) (fun _ h => h) hy) hia hib ?_
  rw [(State.fieldFound?_type hia (bCf_ty hci hx)).1, (State.fieldFound?_type hib (bCf_ty hci hy)).1]
  exact bCf_nm hci hx hy hne
theorem b_putf (hexec : p.tables.exec = Jvm.exec) (hb : c.code = cc) {own : String} {ci k index a : Nat} {V : Nat → Value} {v : Value} (hci : ci < 13) (hk : k < bNf ci) (hwd : bWd s) (hown : s.vm.findClass own = some m.cls) (hK : bKn D cA s) (hO : t_OB a (D.1 ci) (bNf ci) (D.2 ci) H V) (hlink : (Cond.fieldLink own index (bCn ci) (bFn ci k).2.1 (bFn ci k).2.2.1).before args s = true)
    (hfin : (bFn ci k).2.2.2 = true → meth.name = "<init>" ∧ own = bCn ci) (hn : narrow (bFty ci k) v = v) (hfit : fits (bFty ci k) v = true) (hdg : decode cc pc = .ok (.putfield index, 3))
    (kk : ∀ H' : Heap, t_OB a (D.1 ci) (bNf ci) (D.2 ci) H' (updV V k v) → H'.size = H.size → (∀ q : Nat, q ≠ a → H'[q]? = H[q]?) → W p l e R s m args below meth c H' (locs ++ [⟨a, D.2 ci k⟩]) cells slots Q (F0 m (pc + 3) ls rest)) : W p l e R s m args below meth c H locs cells slots Q (F0 m pc ls (v :: .ref a :: rest)) := by
  have hap := b_apart hci hwd hK
  obtain ⟨cell, q1, q2, q3, q4⟩ := hO
  obtain ⟨hS, hfc, kC, hkC, hkind⟩ := hK.1 ci hci
  obtain ⟨cf, kf, fi, f, hi, hsl⟩ := hS k hk
  have hi2 := hi
  rw [bCf_own hci hk] at hi2
  have hlay := bCf_lay (args := args) hwd hci _ (u_in_lay hk)
  have hst := (u_facts hfc hkC (u_lays (args := args) (bCf_lay hwd hci) (fun _ h => h) hk) hi).1
  unfold u_lay at hlay
  cases hf : (bFn ci k).2.2.2 with
  | false =>
    rw [hf, if_neg (by decide)] at hlay
    have h6 := u_store hfc hkC hkind hlay hi (bCf_ty hci hk) hn hfit
    refine W.putK hexec hb (f := f) ⟨hown, hlink, ⟨_, _, _, hi2⟩, hst⟩ (by rw [q2]; exact h6) q1 q3 (by rw [hsl]; exact k2_hasslot (q4 k hk)) rfl rfl hdg fun H' e1 e2 e3 => ?_
    rw [hsl] at e1 ⊢
    exact kk H' ⟨_, e1, q2, q3, t_set q4 hap hk v⟩ e2 e3
  | true =>
    rw [hf, if_pos rfl] at hlay
    obtain ⟨hin2, hdecl⟩ := hfin hf
    have hcf : m.cls = cf := by
      obtain ⟨_, _, c', _, _, _, -, -, hf', -, -, -, hown2, -⟩ := Cond.laysFinal_spec hlay
      have e1 : c' = cf := by have := hi.symm.trans hf'; simp at this; exact this.1.symm
      rw [bCf_own hci hk, ← hdecl] at hown2
      rw [← e1]; exact Option.some.inj (hown.symm.trans hown2)
    have h6 := u_fits hfc hkC hkind (Or.inr hlay) hi (bCf_ty hci hk) hn hfit
    refine W.putFinK hexec hb hown hlink hi2 hst hcf hin2 (by rw [q2]; exact h6) q1 q3 (by rw [hsl]; exact k2_hasslot (q4 k hk)) rfl rfl hdg fun H' e1 e2 e3 => ?_
    rw [hsl] at e1 ⊢
    exact kk H' ⟨_, e1, q2, q3, t_set q4 hap hk v⟩ e2 e3
end

/-! BUILD, 28: the class's two caches; bytes; the crew -/
/-- an entry of a cache, or of it its rows -/
abbrev bzTc (x : Nat) : Prop := 256000 ≤ x ∧ x % 256 ∈ [4, 22, 23]
def bzSo (s : bSt) : Int := bzSm s 14 24 + bzSm s 270 40
/-- both caches -/
def bzCh (s : bSt) (N F : List bKy) : Prop := (bi s 1 0 = N.length ∧ bzCr s 1 24 N) ∧ (bi s 257 0 = F.length ∧ bzCr s 257 40 F) ∧ (∀ i j : Nat, i < 24 → j < 40 → ∀ e, br s 14 i = some e → br s 270 j ≠ some e) ∧ bzFc s
/-- room goes only with entries -/
def bzNu (s t : bSt) : Prop := (t.2.2.2.2.1 : Int) + 3 * bzSo s ≤ s.2.2.2.2.1 + 3 * bzSo t ∧ (t.2.2.2.2.2 : Int) + 97 * bzSo s ≤ s.2.2.2.2.2 + 97 * bzSo t ∧ s.2.2.2.2.1 ≤ t.2.2.2.2.1
/-- what the caches' changing leaves -/
def bzCf (s t : bSt) : Prop := (∀ x, ¬ bzTc x → (∀ j, (x ≠ 1 ∧ x ≠ 257 ∨ 0 < j) → bi t x j = bi s x j) ∧ (∀ j, bj t x j = bj s x j) ∧ (x ≠ 14 → x ≠ 270 → ∀ j, br t x j = br s x j) ∧ t.2.2.2.1 x = s.2.2.2.1 x) ∧ bzNu s t
section
variable {d : Nat} {σ s t r : bSt} {f : Int → bSt → Prop} {fv : bSt → Prop} {a i j k x y v w c p : Int} {e e0 b cap q m : Nat} {K M : bKy} {L N F : List bKy}
theorem bzNu_refl : bzNu s s := ⟨Int.le_refl _, Int.le_refl _, Nat.le_refl _⟩
theorem bzNu_trans (h : bzNu s t) (k : bzNu t r) : bzNu s r := by
  obtain ⟨a1, a2, a3⟩ := h
  obtain ⟨b1, b2, b3⟩ := k
  exact ⟨by omega, by omega, by omega⟩
theorem bzNu_of (e : t.2 = s.2) : bzNu s t := by
  unfold bzNu bzSo bzSm br
  rw [e]
  exact bzNu_refl
theorem bzCf_refl : bzCf s s := ⟨fun _ _ => ⟨fun _ _ => rfl, fun _ => rfl, fun _ _ _ => rfl, rfl⟩, bzNu_refl⟩
theorem bzCf_trans (h : bzCf s t) (k : bzCf t r) : bzCf s r := ⟨fun x hx => ⟨fun j hj => ((k.1 x hx).1 j hj).trans ((h.1 x hx).1 j hj), fun j => ((k.1 x hx).2.1 j).trans ((h.1 x hx).2.1 j), fun h1 h2 j => ((k.1 x hx).2.2.1 h1 h2 j).trans ((h.1 x hx).2.2.1 h1 h2 j), (k.1 x hx).2.2.2.trans (h.1 x hx).2.2.2⟩, bzNu_trans h.2 k.2⟩
theorem bzFc_of (h : bzFc s) (e : t.2 = s.2) : bzFc t := by
  unfold bzFc
  rw [e]
  exact h
/-- no entry is touched -/
theorem bzCh_of (h : bzCh s N F) (e2 : t.2 = s.2) (n : ∀ x, bzTc x → ∀ j, bi t x j = bi s x j) (n1 : bi t 1 0 = bi s 1 0) (n2 : bi t 257 0 = bi s 257 0) (hN : ∀ K ∈ N, bKl K) (hF : ∀ K ∈ F, bKl K) : bzCh t N F := by
  obtain ⟨⟨a1, a2⟩, ⟨a3, a4⟩, a5, a6⟩ := h
  have r : ∀ x j, br t x j = br s x j := fun x j => by unfold br; rw [e2]
  have cr : ∀ b cap L, bzCr s b cap L → (∀ K ∈ L, bKl K) → bzCr t b cap L := fun b cap L C hL => by
    obtain ⟨C2, C3, C4, C5⟩ := C
    refine ⟨C2, fun i hi z hz => ?_, fun i j hi hj z => ?_, fun i K hK => ?_⟩
    · rw [r] at hz
      rw [e2]
      exact C3 i hi z hz
    · rw [r, r]; exact C4 i j hi hj z
    · obtain ⟨z, hz, E⟩ := C5 i K hK
      have k := hL _ (List.mem_of_getElem? hK)
      have z4 := (C3 i (by have := (List.getElem?_eq_some_iff.1 hK).1; omega) z hz).1
      exact ⟨z, by rw [r]; exact hz, bzEk_m E (fun j _ => n z ⟨z4.2, by rw [z4.1]; decide⟩ j) (fun j _ _ => n _ ⟨by omega, by rw [show (z + 18) % 256 = 22 by omega]; decide⟩ j) (fun j _ _ => n _ ⟨by omega, by rw [show (z + 19) % 256 = 23 by omega]; decide⟩ j) ⟨k.1, k.2.1⟩⟩
  refine ⟨⟨by rw [n1]; exact a1, cr _ _ _ a2 hN⟩, ⟨by rw [n2]; exact a3, cr _ _ _ a4 hF⟩, fun i j hi hj z => ?_, bzFc_of a6 e2⟩
  rw [r, r]
  exact a5 i j hi hj z
theorem bzTc_e (e4 : e % 256 = 4) (e5 : 256000 ≤ e) : bzTc e ∧ bzTc (e + 18) ∧ bzTc (e + 19) := ⟨⟨e5, by rw [e4]; decide⟩, ⟨by omega, by rw [show (e + 18) % 256 = 22 by omega]; decide⟩, ⟨by omega, by rw [show (e + 19) % 256 = 23 by omega]; decide⟩⟩
/-- one cache has changed: the other stands -/
theorem bzCh_p (hb : b = 1 ∧ cap = 24 ∨ b = 257 ∧ cap = 40) (h : bzCh s N F) (hN : ∀ K ∈ N, bKl K) (hF : ∀ K ∈ F, bKl K) (P : bzPt b cap s t e) (C : bzCr t b cap L) (hc : bi t b 0 = L.length) : bzCf s t ∧ (b = 1 → bzCh t L F) ∧ (b = 257 → bzCh t N L) := by
  obtain ⟨⟨a1, a2⟩, ⟨a3, a4⟩, a5, a6⟩ := h
  obtain ⟨P1, ⟨e4, e5⟩, P3'⟩ := P
  have P3 := fun _ : Unit => P3'
  clear P3'
  obtain ⟨T1, T2, T3⟩ := bzTc_e e4 e5
  have off : ∀ x, ¬ bzTc x → x ≠ e ∧ x ≠ e + 18 ∧ x ≠ e + 19 := fun x hx => ⟨fun y => hx (by rw [y]; exact T1), fun y => hx (by rw [y]; exact T2), fun y => hx (by rw [y]; exact T3)⟩
  have n14 : ¬ bzTc 14 ∧ ¬ bzTc 270 ∧ ¬ bzTc 1 ∧ ¬ bzTc 257 := by decide
  have q := fun x hx => P1 x (off x hx).1 (off x hx).2.1 (off x hx).2.2
  -- e stands in no row of the other cache
  have free : s.2.2.2.1 e = 0 → ∀ (b2 cap2 : Nat) (L2 : List bKy), bzCr s b2 cap2 L2 → ∀ i : Nat, i < cap2 → br s (b2 + 13) i ≠ some e := fun z b2 cap2 L2 C2 i hi hz => (C2.2.1 i hi e hz).2 z
  have oth : ∀ (b2 cap2 : Nat) (L2 : List bKy), bzCr s b2 cap2 L2 → (∀ K ∈ L2, bKl K) → (∀ i : Nat, i < cap2 → br s (b2 + 13) i ≠ some e) → (∀ i, br t (b2 + 13) i = br s (b2 + 13) i) → bzCr t b2 cap2 L2 := fun b2 cap2 L2 C2 hL2 ne rr => by
    obtain ⟨C2, C3, C4, C5⟩ := C2
    refine ⟨C2, fun i hi z hz => ?_, fun i j hi hj z => ?_, fun i K hK => ?_⟩
    · rw [rr] at hz
      have c3 := C3 i hi z hz
      have z1 : z ≠ e := fun y => ne i hi (by rw [hz, y])
      exact ⟨c3.1, by rw [(P1 z z1 (by omega) (by omega)).2.2.2]; exact c3.2⟩
    · rw [rr, rr]; exact C4 i j hi hj z
    · obtain ⟨z, hz, E⟩ := C5 i K hK
      have hi : i < cap2 := by have := (List.getElem?_eq_some_iff.1 hK).1; omega
      have k := hL2 _ (List.mem_of_getElem? hK)
      have z4 := (C3 i hi z hz).1
      have z1 : z ≠ e := fun y => ne i hi (by rw [hz, y])
      exact ⟨z, by rw [rr]; exact hz, bzEk_m E (fun j _ => (P1 z z1 (by omega) (by omega)).1 j (by omega)) (fun j _ _ => (P1 (z + 18) (by omega) (by omega) (by omega)).1 j (by omega)) (fun j _ _ => (P1 (z + 19) (by omega) (by omega) (by omega)).1 j (by omega)) ⟨k.1, k.2.1⟩⟩
  have fc : bzFc t := fun x hx hx2 => by
    rcases P3 () with ⟨_, m, cc, _⟩ | ⟨z, ez, _, cc, _⟩
    · rw [m]; rw [cc] at hx2; exact a6 x hx hx2
    · have n1 : x ≠ e ∧ x ≠ e + 18 ∧ x ≠ e + 19 := by omega
      rw [(P1 x n1.1 n1.2.1 n1.2.2).2.2.2]
      exact a6 x hx (by omega)
  have c01 : ∀ j : Int, bi t (258 - b) 0 = bi s (258 - b) 0 := fun _ => by
    rcases hb with ⟨rfl, rfl⟩ | ⟨rfl, rfl⟩
    · exact (q 257 n14.2.2.2).1 0 (Or.inl (by decide))
    · exact (q 1 n14.2.2.1).1 0 (Or.inl (by decide))
  refine ⟨⟨fun x hx => ⟨fun j hj => (q x hx).1 j (by omega), (q x hx).2.1, fun h1 h2 j => (q x hx).2.2.1 (by omega) j, (q x hx).2.2.2⟩, ?_⟩, fun hb1 => ?_, fun hb1 => ?_⟩
  · unfold bzNu bzSo
    have other : ∀ b2 cap2 : Nat, (b2 = 1 ∧ cap2 = 24 ∨ b2 = 257 ∧ cap2 = 40) → b2 ≠ b → bzSm t (b2 + 13) cap2 = bzSm s (b2 + 13) cap2 := fun b2 cap2 hb2 ne => bCn_x _ fun i _ _ => by
      rw [(q (b2 + 13) (by rcases hb2 with ⟨rfl, rfl⟩ | ⟨rfl, rfl⟩ <;> decide)).2.2.1 (by omega) i]
    rcases hb with ⟨rfl, rfl⟩ | ⟨rfl, rfl⟩
    · have o : bzSm t 270 40 = bzSm s 270 40 := other 257 40 (Or.inr ⟨rfl, rfl⟩) (by decide)
      rcases P3 () with ⟨_, _, cc, sm, _⟩ | ⟨_, _, c1, c2, c3, sm, _⟩
      · have sm : bzSm t 14 24 = bzSm s 14 24 := sm
        rw [cc]; omega
      · have sm : bzSm t 14 24 = bzSm s 14 24 + 1 := sm
        omega
    · have o : bzSm t 14 24 = bzSm s 14 24 := other 1 24 (Or.inl ⟨rfl, rfl⟩) (by decide)
      rcases P3 () with ⟨_, _, cc, sm, _⟩ | ⟨_, _, c1, c2, c3, sm, _⟩
      · have sm : bzSm t 270 40 = bzSm s 270 40 := sm
        rw [cc]; omega
      · have sm : bzSm t 270 40 = bzSm s 270 40 + 1 := sm
        omega
  · have hcap : cap = 24 := by omega
    subst hb1
    subst hcap
    have rr : ∀ i, br t 270 i = br s 270 i := (q 270 n14.2.1).2.2.1 (by decide)
    have ne : ∀ j : Nat, j < 40 → br s 270 j ≠ some e := fun j hj => by
      rcases P3 () with ⟨⟨i, hi, he⟩, _⟩ | ⟨z, _⟩
      · exact a5 i j hi hj e he
      · exact free z 257 40 F a4 j hj
    refine ⟨⟨hc, C⟩, ⟨by rw [← a3]; exact c01 0, oth 257 40 F a4 hF ne rr⟩, fun i j hi hj z hz => ?_, fc⟩
    rw [rr]
    rcases P3 () with ⟨_, _, _, _, w⟩ | ⟨z0, _, _, _, _, _, w⟩
    · obtain ⟨i2, hi2, hz2⟩ := w i hi z hz
      exact a5 i2 j hi2 hj z hz2
    · rcases w i hi z hz with rfl | ⟨i2, hi2, hz2⟩
      · exact ne j hj
      · exact a5 i2 j hi2 hj z hz2
  · have hcap : cap = 40 := by omega
    subst hb1
    subst hcap
    have rr : ∀ i, br t 14 i = br s 14 i := (q 14 n14.1).2.2.1 (by decide)
    have ne : ∀ j : Nat, j < 24 → br s 14 j ≠ some e := fun j hj hz => by
      rcases P3 () with ⟨⟨i, hi, he⟩, _⟩ | ⟨z, _⟩
      · exact a5 j i hj hi e hz he
      · exact free z 1 24 N a2 j hj hz
    refine ⟨⟨by rw [← a1]; exact c01 0, oth 1 24 N a2 hN ne rr⟩, ⟨hc, C⟩, fun i j hi hj z hz => ?_, fc⟩
    rw [rr] at hz
    intro hz3
    rcases P3 () with ⟨_, _, _, _, w⟩ | ⟨z0, _, _, _, _, _, w⟩
    · obtain ⟨j2, hj2, hz2⟩ := w j hj z hz3
      exact a5 i j2 hi hj2 z hz hz2
    · rcases w j hj z hz3 with rfl | ⟨j2, hj2, hz2⟩
      · exact ne i hi hz
      · exact a5 i j2 hi hj2 z hz hz2
/-- put near, put far -/
theorem w17n (h : bzCh s N F) (hN : ∀ K ∈ N, bKl K) (hF : ∀ K ∈ F, bKl K) (hn : N.Nodup) (he : e0 % 256 = 4) (he0 : e0 < 256000) (H : bzEk s e0 K) (hK : bKl K) (h7 : bi s e0 7 = 0 ∨ bi s e0 7 = 1) (k : ∀ t, bzCf s t → bzCh t (bzPut 24 N K) F → fv t) : bWp (d + 4) 17 [.ref 1, .ref e0] s (bRv fv) :=
  w17 (Or.inl ⟨rfl, rfl⟩) h.1.1 h.1.2 hn hN h.2.2.2 he he0 H hK h7 fun t e P C hc => by
    have := bzCh_p (Or.inl ⟨rfl, rfl⟩) h hN hF P C hc
    exact k t this.1 (this.2.1 rfl)
theorem w17f (h : bzCh s N F) (hN : ∀ K ∈ N, bKl K) (hF : ∀ K ∈ F, bKl K) (hn : F.Nodup) (he : e0 % 256 = 4) (he0 : e0 < 256000) (H : bzEk s e0 K) (hK : bKl K) (h7 : bi s e0 7 = 0 ∨ bi s e0 7 = 1) (k : ∀ t, bzCf s t → bzCh t N (bzPut 40 F K) → fv t) : bWp (d + 4) 17 [.ref 257, .ref e0] s (bRv fv) :=
  w17 (Or.inr ⟨rfl, rfl⟩) h.2.1.1 h.2.1.2 hn hF h.2.2.2 he he0 H hK h7 fun t e P C hc => by
    have := bzCh_p (Or.inr ⟨rfl, rfl⟩) h hN hF P C hc
    exact k t this.1 (this.2.2 rfl)
/-- what is near becomes the latest -/
theorem w18n (h : bzCh s N F) (hN : ∀ K ∈ N, bKl K) (hF : ∀ K ∈ F, bKl K) (hn : N.Nodup) (hq : N[q]? = some K) (he : e0 % 256 = 4) (he0 : e0 < 256000) (H : bzEk s e0 K) (hK : bKl K) (h7 : bi s e0 7 = 0 ∨ bi s e0 7 = 1) (k : ∀ t, bzCf s t → bzCh t (bzRm N K ++ [K]) F → fv t) : bWp (d + 3) 18 [.ref 1, .int (bn q), .ref e0] s (bRv fv) := by
  have ql : q < N.length := (List.getElem?_eq_some_iff.1 hq).1
  have n24 := h.1.2.1
  refine w18 (Or.inl ⟨rfl, rfl⟩) h.1.1 ⟨by omega, by omega⟩ ⟨by omega, by omega⟩ h.1.2.2.1 h.2.2.2 he he0 H hK h7 fun t e M => ?_
  obtain ⟨T1, T2⟩ := bzCr_ml (q := q) (Or.inl ⟨rfl, rfl⟩) h.1.2 hN (by omega) (by rw [if_pos ql]) (by omega) M
  rw [bzRm_x hn hq] at T1
  have e5 := M.2.2.1.1
  have tb : bi t 1 0 = (bzRm N K ++ [K]).length := by
    rw [(M.1 1 (by omega) (by omega) (by omega)).1, h.1.1, ← bzRm_x hn hq, List.length_append, List.length_eraseIdx, if_pos ql]
    show (N.length : Int) = ((N.length - 1 + 1 : Nat) : Int)
    omega
  have := bzCh_p (Or.inl ⟨rfl, rfl⟩) h hN hF T2 T1 tb
  exact k t this.1 (this.2.1 rfl)
/-- where an entry is -/
theorem w16n (h : bzCh s N F) (hN : ∀ K ∈ N, bKl K) (he : e0 % 256 = 4) (H : bzEk s e0 K) (hK : bKl K) (h1 : ∀ q : Nat, N[q]? = some K → f q s) (h0 : K ∉ N → f (-1) s) : bWp (d + 3) 16 [.ref 1, .ref e0] s (bRn f) :=
  w16 (Or.inl ⟨rfl, rfl⟩) ⟨⟨h.1.1, h.1.2.1⟩, h.1.2.2⟩ hN he H hK h1 h0
theorem w16f (h : bzCh s N F) (hF : ∀ K ∈ F, bKl K) (he : e0 % 256 = 4) (H : bzEk s e0 K) (hK : bKl K) (h1 : ∀ q : Nat, F[q]? = some K → f q s) (h0 : K ∉ F → f (-1) s) : bWp (d + 3) 16 [.ref 257, .ref e0] s (bRn f) :=
  w16 (Or.inr ⟨rfl, rfl⟩) ⟨⟨h.2.1.1, h.2.1.2.1⟩, h.2.1.2.2⟩ hF he H hK h1 h0
end

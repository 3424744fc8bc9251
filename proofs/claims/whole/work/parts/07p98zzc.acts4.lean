/-! ACTIONS, 5: the first that is alike; the actions that are known -/
/-- actions lie where they should, alike on both sides, no two the same; behind them none -/
def bAk (σ : bSt) : Prop := (bi σ 6 13 = bi σ 12 49 ∧ 0 ≤ bi σ 12 49 ∧ bi σ 12 49 ≤ 120) ∧
  (∀ a, 0 ≤ a → a < bi σ 12 49 → br σ 33 a = some (bAi a) ∧ (0 ≤ bi σ 105 a ∧ bi σ 105 a ≤ 40) ∧ bi σ (bNe a) 0 = bi σ 101 a ∧ bi σ (bNe a) 1 = bi σ 102 a ∧ bi σ (bNe a) 2 = bi σ 103 a ∧ bi σ (bAi a) 0 = bi σ 104 a ∧ bi σ (bAi a) 1 = bi σ 105 a ∧ ∀ i, 0 ≤ i → i < bi σ 105 a → bi σ (bAi a + 13) i = bi σ 106 (40 * a + i)) ∧
  (∀ a b, 0 ≤ a → a < b → b < bi σ 12 49 → ¬ (bi σ 101 a = bi σ 101 b ∧ bi σ 102 a = bi σ 102 b ∧ bi σ 103 a = bi σ 103 b ∧ bi σ 105 a = bi σ 105 b ∧ (bi σ 101 b = 5 → bi σ 104 a = bi σ 104 b) ∧ ∀ i, 0 ≤ i → i < bi σ 105 b → bi σ 106 (40 * a + i) = bi σ 106 (40 * b + i))) ∧
  ∀ a, bi σ 12 49 ≤ a → a ≤ 120 → bAm1 σ a
/-- the reference's action a is operation, number, version, home and inputs -/
def bSar (s : bSt) (a op nu ve ho : Int) (L : List Int) : Prop := bi s 101 a = op ∧ bi s 102 a = nu ∧ bi s 103 a = ve ∧ bi s 105 a = L.length ∧ (op = 5 → bi s 104 a = ho) ∧ bHl s 106 (40 * a) L
section
variable {d : Nat} {σ s t r : bSt} {f : Int → bSt → Prop} {fv : bSt → Prop} {fa : Nat → bSt → Prop} {q x y v i op nu ve ho : Int} {L : List Int} {P : Int → Bool}
theorem w87z (hq : bi σ 6 13 = q) (q0 : 0 ≤ q) (q1 : q ≤ 120) (hz : br σ 33 q = some (bAi q)) (k : fa (bAi q) σ) : bWp (d + 3) 87 [.ref 6] σ (bRa fa) := by
  refine ⟨rfl, fun A hA => sq87_0 (bWp_mono _) hA ?_⟩
  rw [hq]
  refine ⟨fun w => absurd w (by omega), fun _ => ⟨fun _ => ⟨⟨q0, by omega⟩, fun hn => ?_, fun z3 h3 => ?_⟩, fun w => absurd (show q < 121 by omega) w⟩⟩
  · rw [hz] at hn; exact absurd hn (by intro z; cases z)
  · have e : z3 = bAi q := by rw [hz] at h3; cases h3; rfl
    rw [e]; exact k
/-- class and reference have the same of action a -/
theorem bSam_r {a : Int} (hA : bAk σ) (a0 : 0 ≤ a) (a1 : a < bi σ 12 49) : bSam σ a op nu ve ho L ↔ bSar σ a op nu ve ho L := by
  obtain ⟨g0, ⟨g1, g2⟩, g3, g4, g5, g6, g7, g8⟩ := hA.2.1 a a0 a1
  unfold bSam bSar
  rw [g3, g4, g5, g6, g7]
  have e : bi σ 105 a = L.length → (bHl σ (bAi a + 13) 0 L ↔ bHl σ 106 (40 * a) L) := fun el => by
    constructor
    · intro h i hi
      rw [← h i hi, Int.zero_add]
      exact (g8 i (by omega) (by omega)).symm
    · intro h i hi
      rw [← h i hi, Int.zero_add]
      exact g8 i (by omega) (by omega)
  constructor
  · rintro ⟨a1, a2, a3, a4, a5, a6⟩; exact ⟨a1, a2, a3, a4, a5, (e a4).1 a6⟩
  · rintro ⟨a1, a2, a3, a4, a5, a6⟩; exact ⟨a1, a2, a3, a4, a5, (e a4).2 a6⟩
/-- no two actions are the same -/
theorem bSar_u {a b : Int} (hA : bAk σ) (a0 : 0 ≤ a) (a1 : a < bi σ 12 49) (b0 : 0 ≤ b) (b1 : b < bi σ 12 49) (h : bSar σ a op nu ve ho L) (k : bSar σ b op nu ve ho L) : a = b := by
  have key : ∀ {a b : Int}, 0 ≤ a → a < b → b < bi σ 12 49 → bSar σ a op nu ve ho L → bSar σ b op nu ve ho L → False := fun {a b} a0 ab b1 ⟨p1, p2, p3, p4, p5, p6⟩ ⟨q1, q2, q3, q4, q5, q6⟩ => by
    refine hA.2.2.1 a b a0 ab b1 ⟨p1.trans q1.symm, p2.trans q2.symm, p3.trans q3.symm, p4.trans q4.symm, fun w => (p5 (q1.symm.trans w)).trans (q5 (q1.symm.trans w)).symm, fun i i0 i1 => ?_⟩
    have e1 := p6 i.toNat (by omega)
    have e2 := q6 i.toNat (by omega)
    rw [show ((i.toNat : Nat) : Int) = i by omega] at e1 e2
    rw [e1, e2]
  by_cases w : a < b
  · exact (key a0 w b1 h k).elim
  · by_cases w2 : b < a
    · exact (key b0 w2 a1 k h).elim
    · omega
theorem w88 (hq : bi σ 6 13 = q) (q0 : 0 ≤ q ∧ q ≤ 120) (hA : ∀ a, 0 ≤ a → a < q → br σ 33 a = some (bAi a) ∧ 0 ≤ bi σ (bAi a) 1 ∧ bi σ (bAi a) 1 ≤ 40) (hz : br σ 33 q = some (bAi q)) (H : bHas σ q op nu ve ho L) (h1 : ∀ a, 0 ≤ a → a < q → bSam σ a op nu ve ho L → f a σ) (h0 : (∀ a, 0 ≤ a → a < q → ¬ bSam σ a op nu ve ho L) → f (-1) σ) : bWp (d + 4) 88 [.ref 6] σ (bRn f) := by
  obtain ⟨m0, m1, m2, m3⟩ := bAi_m (q := q)
  refine ⟨rfl, fun A hA' => sq88_0 (bWp_mono _) hA' ?_⟩
  have Lp : ∀ (m : Nat) (l : Int), l + m = q → 0 ≤ l → (∀ a, 0 ≤ a → a < l → ¬ bSam σ a op nu ve ho L) → A (2, [.ref 6, .int (bn l)], [], σ) := by
    intro m
    induction m with
    | zero =>
      intro l hl l0 D
      exact sq88_2 (bWp_mono _) hA' ⟨by omega, by omega⟩ ⟨fun w => absurd w (by omega), fun _ => bRn_i (by decide) (h0 fun a a0 a1 => D a a0 (by omega))⟩
    | succ m ih =>
      intro l hl l0 D
      obtain ⟨n0, _⟩ := bAi_m (q := l)
      obtain ⟨b1, b2⟩ := hA l l0 (by omega)
      refine sq88_2 (bWp_mono _) hA' ⟨by omega, by omega⟩ ⟨fun _ => w89 b1 l0 (by omega) (w87z hq q0.1 q0.2 hz ⟨n0, w6 b2 H (fun w => ?_) (fun w => ?_)⟩), fun w => absurd (show l < bi σ 6 13 by omega) w⟩
      · exact ⟨fun z => absurd z (by decide), fun _ => bRn_i ⟨by omega, by omega⟩ (h1 l l0 (by omega) w)⟩
      · refine ⟨fun _ => ⟨⟨by omega, by omega⟩, ih (l + 1) (by omega) (by omega) (fun a a0 a1 => ?_)⟩, fun z => absurd rfl z⟩
        by_cases e : a = l
        · rw [e]; exact w
        · exact D a a0 (by omega)
  exact Lp q.toNat 0 (by omega) (by decide) (fun a a0 a1 => by omega)
/-- what the class says of a node, with what it says of those below -/
def bCk (σ s : bSt) (x : Int) : Prop := (bFx σ x ≠ 0 ∧ bi s 30 x = -1) ∨ (bFx σ x = 0 ∧ ((∃ k, 0 ≤ k ∧ k < bi σ 85 (x / 256) ∧ bi σ 86 (6 * (x / 256) + k) = 2 ∧ bi s 30 (bNod σ x k) = -1) ∧ bi s 30 x = -1 ∨
  (∀ k, 0 ≤ k → k < bi σ 85 (x / 256) → bi σ 86 (6 * (x / 256) + k) = 2 → bi s 30 (bNod σ x k) ≠ -1) ∧ ((0 ≤ bi s 30 x ∧ bi s 30 x < bi σ 12 49) ∧ bSar σ (bi s 30 x) (bi σ 76 (x / 256)) (bNu σ (x / 256) (x % 256)) (bVe σ (x / 256) (x % 256)) (bi σ 75 (x / 256)) (bIl σ (bMd s) x (bi σ 85 (x / 256)).toNat) ∨
    bi s 30 x = -1 ∧ ∀ a, 0 ≤ a → a < bi σ 12 49 → ¬ bSar σ a (bi σ 76 (x / 256)) (bNu σ (x / 256) (x % 256)) (bVe σ (x / 256) (x % 256)) (bi σ 75 (x / 256)) (bIl σ (bMd s) x (bi σ 85 (x / 256)).toNat))))
/-- it depends on those below alone -/
theorem bCk_c (hT : bTg σ) (ht : bTgk σ (x / 256)) (h : bCk σ s x) (e0 : bi t 30 x = bi s 30 x) (e : ∀ k, 0 ≤ k → k < bi σ 85 (x / 256) → bi σ 86 (6 * (x / 256) + k) = 2 → bi t 30 (bNod σ x k) = bi s 30 (bNod σ x k)) : bCk σ t x := by
  have ic := bIc_at hT ht
  have eL : bIl σ (bMd t) x (bi σ 85 (x / 256)).toNat = bIl σ (bMd s) x (bi σ 85 (x / 256)).toNat := bIl_m bPag_refl hT ht e _ (by omega)
  unfold bCk at h ⊢
  rw [e0, eL]
  refine h.imp id (fun ⟨a, b⟩ => ⟨a, b.imp (fun ⟨⟨k, k0, k1, k2, k3⟩, c⟩ => ⟨⟨k, k0, k1, k2, by rw [e k k0 k1 k2]; exact k3⟩, c⟩) (fun ⟨c1, c2⟩ => ⟨fun k k0 k1 k2 => by rw [e k k0 k1 k2]; exact c1 k k0 k1 k2, c2⟩)⟩)
/-- it says one thing only -/
theorem bCk_u (hA : bAk σ) (h : bCk σ s x) (k : bCk σ t x) (hT : bTg σ) (ht : bTgk σ (x / 256)) (e : bFx σ x = 0 → ∀ k, 0 ≤ k → k < bi σ 85 (x / 256) → bi σ 86 (6 * (x / 256) + k) = 2 → bi t 30 (bNod σ x k) = bi s 30 (bNod σ x k)) : bi s 30 x = bi t 30 x := by
  have ic := bIc_at hT ht
  rcases h with ⟨a1, a2⟩ | ⟨a1, h⟩
  · rcases k with ⟨b1, b2⟩ | ⟨b1, _⟩
    · rw [a2, b2]
    · exact absurd b1 a1
  · have eL : bIl σ (bMd t) x (bi σ 85 (x / 256)).toNat = bIl σ (bMd s) x (bi σ 85 (x / 256)).toNat := bIl_m bPag_refl hT ht (e a1) _ (by omega)
    rcases k with ⟨b1, b2⟩ | ⟨b1, k⟩
    · exact absurd a1 b1
    · rw [eL] at k
      rcases h with ⟨⟨j, j0, j1, j2, j3⟩, h⟩ | ⟨hn, h⟩
      · rcases k with ⟨_, k⟩ | ⟨kn, _⟩
        · rw [h, k]
        · exact absurd (by rw [e a1 j j0 j1 j2]; exact j3) (kn j j0 j1 j2)
      · rcases k with ⟨⟨j, j0, j1, j2, j3⟩, k⟩ | ⟨kn, k⟩
        · exact absurd (by rw [← e a1 j j0 j1 j2]; exact j3) (hn j j0 j1 j2)
        · rcases h with ⟨⟨h1, h2⟩, h3⟩ | ⟨h1, h2⟩
          · rcases k with ⟨⟨k1, k2⟩, k3⟩ | ⟨k1, k2⟩
            · exact bSar_u hA h1 h2 k1 k2 h3 k3
            · exact absurd h3 (k2 _ h1 h2)
          · rcases k with ⟨⟨k1, k2⟩, k3⟩ | ⟨k1, k2⟩
            · exact absurd k3 (h2 _ k1 k2)
            · rw [h1, k1]
end

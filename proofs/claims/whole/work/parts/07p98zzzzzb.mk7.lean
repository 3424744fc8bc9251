/-! BUILD, 50: the class forgets the last build; files' bytes are here -/
def bmFv (f : Int → Int) (j : Int) : Int := if j = 5 ∨ j = 9 then 0 else if 10 ≤ j ∧ j ≤ 14 then -1 else if 15 ≤ j ∧ j ≤ 17 then 2147483647 else f j
/-- the last build is forgotten, of k actions -/
def bmFg (k : Nat) (s t : bSt) : Prop := t.2 = s.2 ∧ (∀ b, b ≠ 5 → b ≠ 24 → (∀ a, 0 ≤ a → a < (k : Int) → b ≠ bAi a) → ∀ j, bi t b j = bi s b j) ∧ (∀ j, 0 ≤ j → j < 12 → bi t 24 j = 0) ∧ (∀ j, 0 ≤ j → bi t 5 j = if j = 8 then -1 else if j = 9 ∨ j = 10 then 0 else bi s 5 j) ∧ ∀ a, 0 ≤ a → a < (k : Int) → ∀ j, 0 ≤ j → bi t (bAi a) j = bmFv (bi s (bAi a)) j
/-- the bytes of the first files are here -/
def bmBy (σ : bSt) : Nat → bZs → bZs
  | 0, Z => Z
  | p + 1, Z => if bi σ 56 p = -1 then bmBy σ p Z else zw (bmBy σ p Z) 134 (bi σ 56 p) 1
section
variable {d lvl : Nat} {σ s s0 t r s' : bSt} {f : Int → bSt → Prop} {fv : bSt → Prop} {A : bPt → Prop} {Z Y : bZs} {x y v a b k i q : Int} {n n0 m z : Nat}
theorem w8 (hz : z % 256 = 0) (h : ∀ t, t.2 = s.2 → (∀ b, b ≠ z → ∀ j, bi t b j = bi s b j) → (∀ j, 0 ≤ j → bi t z j = bmFv (bi s z) j) → fv t) : bWp (d + 2) 8 [.ref z] s (bRv fv) := by
  refine ⟨rfl, fun A hA => sq8_0 (bWp_mono _) hA hz (w9 (d := d) hz (h _ rfl (fun b hb j => ?_) fun j j0 => ?_))⟩
  · rw [bzF0_n hb, bi_ne hb, bi_ne hb, bi_ne hb, bi_ne hb, bi_ne hb, bi_ne hb, bi_ne hb]
  · rw [bzF0_i j0, bi_bw (by decide) j0 (by decide), bi_bw (by decide) j0 (by decide), bi_bw (by decide) j0 (by decide), bi_bw (by decide) j0 (by decide), bi_bw (by decide) j0 (by decide), bi_bw (by decide) j0 (by decide), bi_bw (by decide) j0 (by decide)]
    simp only [true_and]
    unfold bmFv
    repeat' split
    all_goals first
      | rfl
      | omega
theorem w47 (hn : bi s 6 13 = n) (n120 : n ≤ 120) (hA : ∀ a, 0 ≤ a → a < (n : Int) → br s 33 a = some (bAi a)) (h : ∀ t, bmFg n s t → fv t) : bWp (d + 3) 47 [.ref 5] s (bRv fv) := by
  refine ⟨rfl, fun A hA' => sq47_0 (bWp_mono _) hA' (w361 (N := 12) (by decide) rfl (by decide) (fun _ => rfl) (by decide) fun s1 e2 eo e24 => ?_)⟩
  have F0 : bmFg 0 s (bw (bw (bw s1 5 8 (-1)) 5 9 0) 5 10 0) := by
    refine ⟨e2, fun b b1 b2 _ j => ?_, fun j j0 j1 => ?_, fun j j0 => ?_, fun a a0 a1 => by omega⟩
    · rw [bi_ne b1, bi_ne b1, bi_ne b1]; exact eo b j b2
    · rw [bi_ne (by decide), bi_ne (by decide), bi_ne (by decide)]; exact e24 j j0 (by omega)
    · rw [bi_bw (by decide) j0 (by decide), bi_bw (by decide) j0 (by decide), bi_bw (by decide) j0 (by decide), eo 5 j (by decide)]
      simp only [true_and]
      repeat' split
      all_goals first
        | rfl
        | omega
  have Lp : ∀ (m k : Nat) (t : bSt), k + m = n → bmFg k s t → A (15, [.ref 5, .int (bn k)], [], t) := by
    intro m
    induction m with
    | zero =>
      intro k t hk F
      have ek : k = n := by omega
      subst ek
      have e6 : bi t 6 13 = k := by rw [F.2.1 6 (by decide) (by decide) (fun a _ _ e => by unfold bAi at e; omega)]; exact hn
      exact sq47_15 (bWp_mono _) hA' ⟨by omega, by omega⟩ ⟨fun y => absurd y (by rw [e6]; omega), fun _ => h t F⟩
    | succ m ih =>
      intro k t hk F
      obtain ⟨F1, F2, F3, F4, F5⟩ := F
      have e6 : bi t 6 13 = n := by rw [F2 6 (by decide) (by decide) (fun a _ _ e => by unfold bAi at e; omega)]; exact hn
      have nx := ih (k + 1)
      rw [show ((k + 1 : Nat) : Int) = (k : Int) + 1 by omega] at nx
      have nx := fun t => nx t (by omega)
      have e33 : br t 33 k = some (bAi k) := by
        have := hA k (by omega) (by omega)
        unfold br at this ⊢
        rw [F1]; exact this
      refine sq47_15 (bWp_mono _) hA' ⟨by omega, by omega⟩ ⟨fun _ => w89 e33 (by omega) (by omega) ⟨bAi_0, w8 (d := d) bAi_0 fun t2 g1 g2 g3 => ⟨⟨by omega, by omega⟩, nx t2 ⟨g1.trans F1, fun b b1 b2 b3 j => ?_, fun j j0 j1 => ?_, fun j j0 => ?_, fun a a0 a1 j j0 => ?_⟩⟩⟩, fun y => absurd (by rw [e6]; omega) y⟩
      · rw [g2 b (b3 k (by omega) (by omega)), F2 b b1 b2 (fun a a0 a1 => b3 a a0 (by omega))]
      · rw [g2 24 (by unfold bAi; omega)]; exact F3 j j0 j1
      · rw [g2 5 (by unfold bAi; omega)]; exact F4 j j0
      · by_cases e : a = k
        · rw [e, g3 j j0]
          have : ∀ j, bi t (bAi k) j = bi s (bAi k) j := F2 _ (by unfold bAi; omega) (by unfold bAi; omega) (fun a a0 a1 => by unfold bAi; omega)
          unfold bmFv
          rw [this]
        · rw [g2 _ (by unfold bAi; omega)]; exact F5 a a0 (by omega) j j0
  exact Lp n 0 _ (by omega) F0
/-- the class takes files' bytes -/
theorem w48 (hF : bFi s) (hZ : ∀ x, 0 ≤ x → x < 1000 → bi s 15 x = Z.1 134 x) (h : ∀ t, t.2 = s.2 → (∀ b, b ≠ 15 → ∀ j, bi t b j = bi s b j) → (∀ x, 0 ≤ x → x < 1000 → bi t 15 x = (bmBy s 48 Z).1 134 x) → fv t) : bWp (d + 2) 48 [.ref 5] s (bRv fv) := by
  refine ⟨rfl, fun A hA => sq48_0 (bWp_mono _) hA ?_⟩
  have Lp : ∀ (m p : Nat) (t : bSt), p + m = 48 → t.2 = s.2 → (∀ b, b ≠ 15 → ∀ j, bi t b j = bi s b j) → (∀ x, 0 ≤ x → x < 1000 → bi t 15 x = (bmBy s p Z).1 134 x) → A (2, [.ref 5, .int (bn p)], [], t) := by
    intro m
    induction m with
    | zero =>
      intro p t hp t2 tb t15
      have ep : p = 48 := by omega
      subst ep
      exact sq48_2 (bWp_mono _) hA (by decide) ⟨fun y => absurd y (by decide), fun _ => h t t2 tb t15⟩
    | succ m ih =>
      intro p t hp t2 tb t15
      have nx := ih (p + 1)
      have u : bmBy s (p + 1) Z = if bi s 56 p = -1 then bmBy s p Z else zw (bmBy s p Z) 134 (bi s 56 p) 1 := rfl
      rw [u, show ((p + 1 : Nat) : Int) = (p : Int) + 1 by omega] at nx
      have nx := fun t => nx t (by omega)
      have fp := hF.1 p (by omega) (by omega)
      have e19 : bi t 19 p = bi s 56 p := by rw [tb 19 (by decide)]; exact fp.1
      refine sq48_2 (bWp_mono _) hA ⟨by omega, by omega⟩ ⟨fun _ => w31i (by omega) (by omega) ?_, fun y => absurd (show (p : Int) < 48 by omega) y⟩
      rw [e19]
      refine w21 (d := d) (Or.inl rfl) fp.2.1 fp.2.2 (fun z => ⟨⟨by omega, by omega⟩, ?_⟩) fun z => ⟨⟨by omega, by omega⟩, ?_⟩
      · rw [if_pos z] at nx
        exact nx t t2 tb t15
      · rw [if_neg (by omega)] at nx
        refine nx _ t2 (fun b hb j => by rw [bi_ne hb]; exact tb b hb j) fun x x0 x1 => ?_
        rw [bi_bw z x0 (by decide), zw_w]
        by_cases e : x = bi s 56 p
        · rw [if_pos ⟨rfl, e⟩, if_pos ⟨rfl, e⟩]
        · rw [if_neg (fun q => e q.2), if_neg (fun q => e q.2)]; exact t15 x x0 x1
  exact Lp 48 0 s (by omega) rfl (fun _ _ _ => rfl) hZ
end

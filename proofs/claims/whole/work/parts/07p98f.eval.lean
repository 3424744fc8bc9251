/-! RULES' EVALUATION: the class's steps as functions of its state -/
/-- what its first name holds, its second one -/
def bEvN (s : bSt) (f a : Int) : Int := bi s 39 (f * 8 + bi s 36 a)
def bEvM (s : bSt) (f a : Int) : Int := bi s 39 (f * 8 + bi s 37 a)
/-- why a statement fails; -1: it does not -/
def bEvWh (s : bSt) (f a : Int) : Int :=
  if bi s 35 a = 1 then (if bi s 40 (bi s 38 a) = 1 then 5 else if bi s 39 (bi s 38 a * 8 + bi s 37 a) = -1 then 1 else -1)
  else if bi s 35 a = 2 then (if bEvN s f a = -1 ∨ bEvM s f a = -1 then 1 else if bEvN s f a < 1000 ∧ bEvM s f a < 1000 then -1 else 2)
  else if bi s 35 a = 4 then (if bEvN s f a = -1 ∨ bEvM s f a = -1 then 1 else if bEvN s f a < 1000 ∨ ¬ bEvM s f a < 1000 then 2 else if bi s 44 (bEvN s f a - 1000) = f then (if bi s 43 (bEvN s f a - 1000) < 8 then -1 else 4) else 3)
  else if bi s 35 a = 5 then (if bEvM s f a = -1 then 1 else -1)
  else if bi s 35 a = 6 then (if bEvN s f a = -1 then 1 else if bEvN s f a < 1000 then -1 else 2)
  else -1
/-- a statement is performed -/
def bEvPf (s : bSt) (f a : Int) : bSt :=
  if bi s 35 a = 0 then bw s 39 (f * 8 + bi s 36 a) (bi s 37 a)
  else if bi s 35 a = 1 then bw s 39 (f * 8 + bi s 36 a) (bi s 39 (bi s 38 a * 8 + bi s 37 a))
  else if bi s 35 a = 2 then bw s 39 (f * 8 + bi s 36 a) ((bEvN s f a + bEvM s f a) % 1000)
  else if bi s 35 a = 3 then bw (bw (bw (bw s 44 (bi s 7 12) f) 43 (bi s 7 12) 0) 7 12 (bi s 7 12 + 1)) 39 (f * 8 + bi s 36 a) (1000 + bi s 7 12)
  else if bi s 35 a = 4 then bw (bw s 45 ((bEvN s f a - 1000) * 8 + bi s 43 (bEvN s f a - 1000)) (bEvM s f a)) 43 (bEvN s f a - 1000) (bi s 43 (bEvN s f a - 1000) + 1)
  else if bi s 35 a = 5 then bw s 39 (f * 8 + bi s 36 a) (bEvM s f a)
  else bw s 41 f (bi s 41 f + if bEvN s f a = 0 then 1 else 0)
/-- a file is entered -/
def bEvEnt (s : bSt) (f : Int) : bSt := bw (bw (bw s 40 f 1) 42 (bi s 7 13) f) 7 13 (bi s 7 13 + 1)
/-- one step at the file on top -/
def bEvGo (s : bSt) (f : Int) : bSt :=
  if bi s 41 f < bi s 34 f then
    (if bi s 35 (f * 12 + bi s 41 f) = 1 ∧ bi s 40 (bi s 38 (f * 12 + bi s 41 f)) = 0 then bEvEnt s (bi s 38 (f * 12 + bi s 41 f))
     else if bEvWh s f (f * 12 + bi s 41 f) = -1 then bEvPf (bw (bw s 7 14 (-1)) 41 f (bi s 41 f + 1)) f (f * 12 + bi s 41 f) else bw s 7 14 (bEvWh s f (f * 12 + bi s 41 f)))
  else bw (bw s 40 f 2) 7 13 (bi s 7 13 - 1)
/-- what is found is in order -/
def bEvOk (s : bSt) : Prop := (∀ j, 0 ≤ j → j < 48 → -1 ≤ bi s 39 j ∧ bi s 39 j < 1000 + bi s 7 12) ∧ (0 ≤ bi s 7 12 ∧ bi s 7 12 ≤ 72) ∧ ∀ l, 0 ≤ l → l < bi s 7 12 → 0 ≤ bi s 43 l ∧ bi s 43 l ≤ 8
section
variable {d : Nat} {σ s t : bSt} {g : Int → bSt → Prop} {fv : bSt → Prop} {f a x y k c : Int}
theorem w100 (hx : 0 ≤ x ∧ x < 6) (hy : 0 ≤ y ∧ y < 8) (h : g (bi s 39 (x * 8 + y)) s) : bWp (d + 2) 100 [.ref 7, .int (bn x), .int (bn y)] s (bRn g) :=
  ⟨rfl, fun A hA => sq100_0 (bWp_mono _) hA ⟨by omega, by omega⟩ ⟨by omega, by omega⟩ ⟨⟨by omega, by omega⟩, ⟨by omega, by omega⟩, w140i (n := 48) rfl rfl (by decide) (by omega) (by omega) (bRn_i (bi_rg _ _ _) h)⟩⟩
theorem w102 (hx : 0 ≤ x ∧ x < 6) (hd : 0 ≤ bi s 7 13 ∧ bi s 7 13 < 6) (h : fv (bEvEnt s x)) : bWp (d + 2) 102 [.ref 7, .int (bn x)] s (bRv fv) := by
  refine ⟨rfl, fun A hA => sq102_0 (bWp_mono _) hA ⟨by omega, by omega⟩ (w141i (n := 6) (by decide) rfl (by decide) rfl (by decide) hx.1 (by omega) ?_)⟩
  rw [bi_ne (by decide)]
  refine w141i (n := 6) ⟨by omega, by omega⟩ rfl (by decide) rfl (by decide) hd.1 (by omega) ?_
  rw [bi_ne (by decide), bi_ne (by decide)]
  exact ⟨⟨by omega, by omega⟩, h⟩
theorem w107 (hx : 0 ≤ x ∧ x < 6) (hl : 0 ≤ bi s 7 12 ∧ bi s 7 12 < 72) (h : g (bi s 7 12) (bw (bw (bw s 44 (bi s 7 12) x) 43 (bi s 7 12) 0) 7 12 (bi s 7 12 + 1))) : bWp (d + 2) 107 [.ref 7, .int (bn x)] s (bRn g) := by
  refine ⟨rfl, fun A hA => sq107_0 (bWp_mono _) hA ⟨by omega, by omega⟩ (w141i (n := 72) ⟨by omega, by omega⟩ rfl (by decide) rfl (by decide) hl.1 (by omega) (w141i (n := 72) (by decide) rfl (by decide) rfl (by decide) hl.1 (by omega) ?_))⟩
  rw [bi_ne (by decide), bi_ne (by decide)]
  exact ⟨⟨by omega, by omega⟩, bRn_i (bi_rg _ _ _) h⟩
theorem w108 (hx : 0 ≤ x ∧ x < 72) (hy : bRg y) (hs : 0 ≤ bi s 43 x ∧ bi s 43 x < 8) (h : fv (bw (bw s 45 (x * 8 + bi s 43 x) y) 43 x (bi s 43 x + 1))) : bWp (d + 2) 108 [.ref 7, .int (bn x), .int (bn y)] s (bRv fv) := by
  exact ⟨rfl, fun A hA => sq108_0 (bWp_mono _) hA ⟨by omega, by omega⟩ hy (w140i (n := 72) rfl rfl (by decide) hx.1 (by omega) ⟨⟨by omega, by omega⟩, ⟨by omega, by omega⟩, w141i (n := 576) hy rfl (by decide) rfl (by decide) (by omega) (by omega) ⟨⟨by omega, by omega⟩, w141i (n := 72) ⟨by omega, by omega⟩ rfl (by decide) rfl (by decide) hx.1 (by omega) h⟩⟩)⟩
theorem w105 (hx : 0 ≤ x ∧ x < 6) (hy : -1 ≤ y ∧ y < 1072) (hk : -1 ≤ k ∧ k < 1072) (h : g (if y = -1 ∨ k = -1 then 1 else if y < 1000 ∨ ¬ k < 1000 then 2 else if bi s 44 (y - 1000) = x then (if bi s 43 (y - 1000) < 8 then -1 else 4) else 3) s) : bWp (d + 2) 105 [.ref 7, .int (bn x), .int (bn y), .int (bn k)] s (bRn g) := by
  refine ⟨rfl, fun A hA => sq105_0 (bWp_mono _) hA ⟨by omega, by omega⟩ ⟨by omega, by omega⟩ ⟨by omega, by omega⟩ ⟨fun a => bRn_i (by decide) (by rwa [if_pos (Or.inl a)] at h), fun a => ⟨fun b => bRn_i (by decide) (by rwa [if_pos (Or.inr b)] at h), fun b => ?_⟩⟩⟩
  rw [if_neg (fun w => w.elim a b)] at h
  refine ⟨fun c => bRn_i (by decide) (by rwa [if_pos (Or.inl c)] at h), fun c => ⟨fun e => ⟨⟨by omega, by omega⟩, ?_⟩, fun e => bRn_i (by decide) (by rwa [if_pos (Or.inr e)] at h)⟩⟩
  rw [if_neg (fun w => w.elim c (fun w => w e))] at h
  refine w140i (n := 72) rfl rfl (by decide) (by omega) (by omega) ⟨fun p => w140i (n := 72) rfl rfl (by decide) (by omega) (by omega) ⟨fun q => bRn_i (by decide) (by rwa [if_pos p, if_pos q] at h), fun q => bRn_i (by decide) (by rwa [if_pos p, if_neg q] at h)⟩, fun p => bRn_i (by decide) (by rwa [if_neg p] at h)⟩
theorem w104 (hf : 0 ≤ f ∧ f < 6) (ha : 0 ≤ a ∧ a < 72) (hs : bStm (bi s 35 a) (bi s 36 a) (bi s 37 a) (bi s 38 a)) (ok : bEvOk s) (h : g (bEvWh s f a) s) : bWp (d + 4) 104 [.ref 7, .int (bn f), .int (bn a)] s (bRn g) := by
  obtain ⟨s1, s2, s3, ⟨s4, s5, s6⟩⟩ := hs
  have hm : bi s 35 a ≠ 0 → 0 ≤ bi s 37 a ∧ bi s 37 a < 8 := fun w => by
    by_cases t : bTks (bi s 35 a)
    · exact s2 t
    · have := s5 t
      rw [if_neg w] at this
      omega
  obtain ⟨o1, o2, o3⟩ := ok
  have eN : -1 ≤ bEvN s f a ∧ bEvN s f a < 1000 + bi s 7 12 := o1 _ (by omega) (by omega)
  have eM : bi s 35 a ≠ 0 → -1 ≤ bEvM s f a ∧ bEvM s f a < 1000 + bi s 7 12 := fun w => o1 _ (by have := hm w; omega) (by have := hm w; omega)
  refine ⟨rfl, fun A hA => ?_⟩
  have K : ∀ (m : Int) (v5 : Value), (bi s 35 a ≠ 0 → m = bEvM s f a) → bRg m → A (24, [.ref 7, .int (bn f), .int (bn a), .int (bn (bi s 35 a)), .int (bn (bEvN s f a)), v5], [.int (bn m)], s) := by
    intro m v5 em hr
    unfold bEvWh at h
    refine sq104_24 (bWp_mono _) hA ⟨by omega, by omega⟩ ⟨by omega, by omega⟩ (bi_rg _ _ _) (bi_rg _ _ _) hr ⟨fun k1 => ?_, fun k1 => ?_⟩
    · rw [if_pos k1] at h
      have ho := s3 k1
      have hm2 := hm (by omega)
      refine w140i (n := 72) rfl rfl (by decide) ha.1 (by omega) (w140i (n := 6) rfl rfl (by decide) ho.1 (by omega) ⟨fun b => bRn_i (by decide) (by rwa [if_pos b] at h), fun b => ?_⟩)
      rw [if_neg b] at h
      exact w140i (n := 72) rfl rfl (by decide) ha.1 (by omega) (w140i (n := 72) rfl rfl (by decide) ha.1 (by omega) (w100 ho hm2 ⟨fun c => bRn_i (by decide) (by rwa [if_pos c] at h), fun c => bRn_i (by decide) (by rwa [if_neg c] at h)⟩))
    rw [if_neg k1] at h
    refine ⟨fun k2 => ?_, fun k2 => ?_⟩
    · rw [if_pos k2, ← em (by omega)] at h
      refine ⟨fun b => bRn_i (by decide) (by rwa [if_pos (Or.inl b)] at h), fun b => ⟨fun c => bRn_i (by decide) (by rwa [if_pos (Or.inr c)] at h), fun c => ?_⟩⟩
      rw [if_neg (fun w => w.elim b c)] at h
      exact ⟨fun p => ⟨fun q => bRn_i (by decide) (by rwa [if_pos ⟨p, q⟩] at h), fun q => bRn_i (by decide) (by rwa [if_neg (fun w => q w.2)] at h)⟩, fun p => bRn_i (by decide) (by rwa [if_neg (fun w => p w.1)] at h)⟩
    rw [if_neg k2] at h
    refine ⟨fun k3 => ?_, fun k3 => ?_⟩
    · rw [if_neg (by omega), if_neg (by omega), if_neg (by omega)] at h
      exact bRn_i (by decide) h
    refine ⟨fun k4 => ?_, fun k4 => ?_⟩
    · rw [if_pos k4, ← em (by omega)] at h
      have := eM (by omega)
      rw [← em (by omega)] at this
      refine w105 hf ⟨by omega, by omega⟩ ⟨by omega, by omega⟩ (bRn_i ?_ h)
      by_cases c1 : bEvN s f a = -1 ∨ m = -1
      · rw [if_pos c1]; decide
      · rw [if_neg c1]
        by_cases c2 : bEvN s f a < 1000 ∨ ¬ m < 1000
        · rw [if_pos c2]; decide
        · rw [if_neg c2]
          by_cases c3 : bi s 44 (bEvN s f a - 1000) = f
          · rw [if_pos c3]
            by_cases c4 : bi s 43 (bEvN s f a - 1000) < 8
            · rw [if_pos c4]; decide
            · rw [if_neg c4]; decide
          · rw [if_neg c3]; decide
    rw [if_neg k4] at h
    refine ⟨fun k5 => ?_, fun k5 => ?_⟩
    · rw [if_pos k5, ← em (by omega)] at h
      exact ⟨fun b => bRn_i (by decide) (by rwa [if_pos b] at h), fun b => bRn_i (by decide) (by rwa [if_neg b] at h)⟩
    rw [if_neg k5] at h
    refine ⟨fun k6 => ?_, fun k6 => ?_⟩
    · rw [if_pos k6] at h
      refine ⟨fun b => bRn_i (by decide) (by rwa [if_pos b] at h), fun b => ?_⟩
      rw [if_neg b] at h
      exact ⟨fun c => bRn_i (by decide) (by rwa [if_pos c] at h), fun c => bRn_i (by decide) (by rwa [if_neg c] at h)⟩
    · rw [if_neg k6] at h
      exact bRn_i (by decide) h
  refine sq104_0 (bWp_mono _) hA ⟨by omega, by omega⟩ ⟨by omega, by omega⟩ (w140i (n := 72) rfl rfl (by decide) ha.1 (by omega) (w140i (n := 72) rfl rfl (by decide) ha.1 (by omega) (w100 hf s1 ⟨fun z => K (-1) _ (fun w => absurd z w) (by decide), fun z => w140i (n := 72) rfl rfl (by decide) ha.1 (by omega) (w100 hf (hm z) (K _ _ (fun _ => rfl) (bi_rg _ _ _)))⟩)))
end

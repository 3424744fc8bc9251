/-! THE LAW'S WRAPPERS: what a case compares, out of the class's own method (printed by gen12.py) -/
theorem b01_rg {x : Int} (h : x = 0 ∨ x = 1) : bRg x := by rcases h with rfl | rfl <;> decide
def bXc : List Nat → Int → (Int → bSt → Prop) → Nat → bSt → Prop
  | [], _, _, _, _ => False
  | c :: l, k, f, E, s => if E = c then f k s else bXc l (k + 1) f E s
theorem bRnx_m {f g : Int → bSt → Prop} {f2 g2 : Nat → bSt → Prop} (h : ∀ r s, bRg r → f r s → g r s) (h2 : ∀ E s, f2 E s → g2 E s) : ∀ o s, bRnx f f2 o s → bRnx g g2 o s := bRnx_e (fun r s hr k => bRnx_i hr (h r s hr k)) h2
theorem bRjx_m {f g : Int64 → bSt → Prop} {f2 g2 : Nat → bSt → Prop} (h : ∀ r s, f r s → g r s) (h2 : ∀ E s, f2 E s → g2 E s) : ∀ o s, bRjx f f2 o s → bRjx g g2 o s := bRjx_e (fun r s k => h r s k) h2
theorem bRvx_m {f g : bSt → Prop} {f2 g2 : Nat → bSt → Prop} (h : ∀ s, f s → g s) (h2 : ∀ E s, f2 E s → g2 E s) : ∀ o s, bRvx f f2 o s → bRvx g g2 o s := bRvx_e (fun s k => h s k) h2
section
variable {E : bSt → Prop} {σ : bSt}
def bAf0 (E : bSt → Prop) (σ : bSt) (p0 p1 : Int) (k : Int) (s1 : bSt) : Prop := bMid σ s1 ∧ bWp 12 202 [.ref 12, .int (bn p0), .int (bn p1)] s1 (bRn fun b s2 => bi s2 12 0 = k ∧ (k = 0 → bj s2 154 0 = bL b) ∧ E s2)
theorem wk0 (H : ∀ p0 p1 : Int, bRg p0 → bRg p1 → bWp 11 143 [.ref 11, .int (bn p0), .int (bn p1)] σ (bRnx (fun r s => bAf0 E σ p0 p1 0 (bwj s 154 0 (bL r))) (bXc [0, 1] 1 (bAf0 E σ p0 p1)))) : bK0 E σ := by
  intro p0 p1 h0 h1
  refine ⟨rfl, fun A hA => sq314_0 (bWp_mono _) hA h0 h1 (bWp_mono 11 _ _ _ _ _ (bRnx_m (fun r s _ k => bRn_i (by decide) k) (fun X s k => ?_)) (H p0 p1 h0 h1))⟩
  unfold bXc at k
  by_cases x0 : X = 0
  · subst x0; exact sq314_9 (bWp_mono _) hA (bRn_i (by decide) k)
  rw [if_neg x0] at k
  unfold bXc at k
  by_cases x1 : X = 1
  · subst x1; exact sq314_12 (bWp_mono _) hA (bRn_i (by decide) k)
  rw [if_neg x1] at k
  exact k.elim
def bAf1 (E : bSt → Prop) (σ : bSt) (p0 : Int) (k : Int) (s1 : bSt) : Prop := bMid σ s1 ∧ bWp 12 203 [.ref 12, .int (bn p0)] s1 (bRn fun b s2 => bi s2 12 0 = k ∧ (k = 0 → bj s2 154 0 = bL b) ∧ E s2)
theorem wk1 (H : ∀ p0 : Int, bRg p0 → bWp 11 144 [.ref 11, .int (bn p0)] σ (bRnx (fun r s => bAf1 E σ p0 0 (bwj s 154 0 (bL r))) (bXc [0] 1 (bAf1 E σ p0)))) : bK1 E σ := by
  intro p0 h0
  refine ⟨rfl, fun A hA => sq315_0 (bWp_mono _) hA h0 (bWp_mono 11 _ _ _ _ _ (bRnx_m (fun r s _ k => bRn_i (by decide) k) (fun X s k => ?_)) (H p0 h0))⟩
  unfold bXc at k
  by_cases x0 : X = 0
  · subst x0; exact sq315_8 (bWp_mono _) hA (bRn_i (by decide) k)
  rw [if_neg x0] at k
  exact k.elim
def bAf2 (E : bSt → Prop) (σ : bSt) (p0 p1 : Int) (k : Int) (s1 : bSt) : Prop := bMid σ s1 ∧ bWp 12 204 [.ref 12, .int (bn p0), .int (bn p1)] s1 (bRn fun b s2 => bi s2 12 0 = k ∧ (k = 0 → bj s2 154 0 = if b = 0 then Int64.ofNat 0 else Int64.ofNat 1) ∧ E s2)
theorem wk2 (H : ∀ p0 p1 : Int, bRg p0 → (p1 = 0 ∨ p1 = 1) → bWp 11 145 [.ref 11, .int (bn p0), .int (bn p1)] σ (bRnx (fun r s => bAf2 E σ p0 p1 0 (bwj s 154 0 (if r = 0 then Int64.ofNat 0 else Int64.ofNat 1))) (bXc [0, 2] 1 (bAf2 E σ p0 p1)))) : bK2 E σ := by
  intro p0 p1 h0 h1
  refine ⟨rfl, fun A hA => sq316_0 (bWp_mono _) hA h0 (b01_rg h1) (bWp_mono 11 _ _ _ _ _ (bRnx_m (fun r s _ k => ⟨fun z => bRn_i (by decide) (by rwa [if_pos z] at k), fun z => bRn_i (by decide) (by rwa [if_neg z] at k)⟩) (fun X s k => ?_)) (H p0 p1 h0 h1))⟩
  unfold bXc at k
  by_cases x0 : X = 0
  · subst x0; exact sq316_12 (bWp_mono _) hA (bRn_i (by decide) k)
  rw [if_neg x0] at k
  unfold bXc at k
  by_cases x1 : X = 2
  · subst x1; exact sq316_15 (bWp_mono _) hA (bRn_i (by decide) k)
  rw [if_neg x1] at k
  exact k.elim
def bAf3 (E : bSt → Prop) (σ : bSt) (p0 : Int) (k : Int) (s1 : bSt) : Prop := bMid σ s1 ∧ bWp 12 207 [.ref 12, .int (bn p0)] s1 (bRn fun b s2 => bi s2 12 0 = k ∧ (k = 0 → bj s2 154 0 = bL b) ∧ E s2)
theorem wk3 (H : ∀ p0 : Int, bRg p0 → bWp 11 146 [.ref 11, .int (bn p0)] σ (bRnx (fun r s => bAf3 E σ p0 0 (bwj s 154 0 (bL r))) (bXc [0] 1 (bAf3 E σ p0)))) : bK3 E σ := by
  intro p0 h0
  refine ⟨rfl, fun A hA => sq317_0 (bWp_mono _) hA h0 (bWp_mono 11 _ _ _ _ _ (bRnx_m (fun r s _ k => bRn_i (by decide) k) (fun X s k => ?_)) (H p0 h0))⟩
  unfold bXc at k
  by_cases x0 : X = 0
  · subst x0; exact sq317_8 (bWp_mono _) hA (bRn_i (by decide) k)
  rw [if_neg x0] at k
  exact k.elim
def bAf4 (E : bSt → Prop) (σ : bSt) (p0 p1 p2 : Int) (k : Int) (s1 : bSt) : Prop := bMid σ s1 ∧ bWp 12 209 [.ref 12, .int (bn p0), .int (bn p1), .int (bn p2)] s1 (bRj fun b s2 => bi s2 12 0 = k ∧ (k = 0 → bj s2 154 0 = b) ∧ E s2)
theorem wk4 (H : ∀ p0 p1 p2 : Int, bRg p0 → bRg p1 → (p2 = 0 ∨ p2 = 1) → bWp 11 147 [.ref 11, .int (bn p0), .int (bn p1), .int (bn p2)] σ (bRjx (fun r s => bAf4 E σ p0 p1 p2 0 (bwj s 154 0 r)) (bXc [0, 1, 2] 1 (bAf4 E σ p0 p1 p2)))) : bK4 E σ := by
  intro p0 p1 p2 h0 h1 h2
  refine ⟨rfl, fun A hA => sq318_0 (bWp_mono _) hA h0 h1 (b01_rg h2) (bWp_mono 11 _ _ _ _ _ (bRjx_m (fun r s k => bRn_i (by decide) k) (fun X s k => ?_)) (H p0 p1 p2 h0 h1 h2))⟩
  unfold bXc at k
  by_cases x0 : X = 0
  · subst x0; exact sq318_9 (bWp_mono _) hA (bRn_i (by decide) k)
  rw [if_neg x0] at k
  unfold bXc at k
  by_cases x1 : X = 1
  · subst x1; exact sq318_12 (bWp_mono _) hA (bRn_i (by decide) k)
  rw [if_neg x1] at k
  unfold bXc at k
  by_cases x2 : X = 2
  · subst x2; exact sq318_15 (bWp_mono _) hA (bRn_i (by decide) k)
  rw [if_neg x2] at k
  exact k.elim
def bAf5 (E : bSt → Prop) (σ : bSt) (p0 p1 p2 p3 p4 : Int) (k : Int) (s1 : bSt) : Prop := bMid σ s1 ∧ bWp 12 212 [.ref 12, .int (bn p0), .int (bn p1), .int (bn p2), .int (bn p3), .int (bn p4)] s1 (bRn fun b s2 => bi s2 12 0 = k ∧ (k = 0 → bj s2 154 0 = bL b) ∧ E s2)
theorem wk5 (H : ∀ p0 p1 p2 p3 p4 : Int, bRg p0 → bRg p1 → bRg p2 → bRg p3 → bRg p4 → bWp 11 148 [.ref 11, .int (bn p0), .int (bn p1), .int (bn p2), .int (bn p3), .int (bn p4)] σ (bRnx (fun r s => bAf5 E σ p0 p1 p2 p3 p4 0 (bwj s 154 0 (bL r))) (bXc [0, 1, 2] 1 (bAf5 E σ p0 p1 p2 p3 p4)))) : bK5 E σ := by
  intro p0 p1 p2 p3 p4 h0 h1 h2 h3 h4
  refine ⟨rfl, fun A hA => sq319_0 (bWp_mono _) hA h0 h1 h2 h3 h4 (bWp_mono 11 _ _ _ _ _ (bRnx_m (fun r s _ k => bRn_i (by decide) k) (fun X s k => ?_)) (H p0 p1 p2 p3 p4 h0 h1 h2 h3 h4))⟩
  unfold bXc at k
  by_cases x0 : X = 0
  · subst x0; exact sq319_12 (bWp_mono _) hA (bRn_i (by decide) k)
  rw [if_neg x0] at k
  unfold bXc at k
  by_cases x1 : X = 1
  · subst x1; exact sq319_15 (bWp_mono _) hA (bRn_i (by decide) k)
  rw [if_neg x1] at k
  unfold bXc at k
  by_cases x2 : X = 2
  · subst x2; exact sq319_18 (bWp_mono _) hA (bRn_i (by decide) k)
  rw [if_neg x2] at k
  exact k.elim
def bAf6 (E : bSt → Prop) (σ : bSt) (p0 p1 : Int) (k : Int) (s1 : bSt) : Prop := bMid σ s1 ∧ bWp 12 213 [.ref 12, .int (bn p0), .int (bn p1)] s1 (bRn fun b s2 => bi s2 12 0 = k ∧ (k = 0 → bj s2 154 0 = bL b) ∧ E s2)
theorem wk6 (H : ∀ p0 p1 : Int, bRg p0 → bRg p1 → bWp 11 149 [.ref 11, .int (bn p0), .int (bn p1)] σ (bRnx (fun r s => bAf6 E σ p0 p1 0 (bwj s 154 0 (bL r))) (bXc [0] 1 (bAf6 E σ p0 p1)))) : bK6 E σ := by
  intro p0 p1 h0 h1
  refine ⟨rfl, fun A hA => sq320_0 (bWp_mono _) hA h0 h1 (bWp_mono 11 _ _ _ _ _ (bRnx_m (fun r s _ k => bRn_i (by decide) k) (fun X s k => ?_)) (H p0 p1 h0 h1))⟩
  unfold bXc at k
  by_cases x0 : X = 0
  · subst x0; exact sq320_9 (bWp_mono _) hA (bRn_i (by decide) k)
  rw [if_neg x0] at k
  exact k.elim
def bAf7 (E : bSt → Prop) (σ : bSt) (p0 p1 : Int) (k : Int) (s1 : bSt) : Prop := bMid σ s1 ∧ bWp 12 219 [.ref 12, .int (bn p0), .int (bn p1)] s1 (bRn fun b s2 => bi s2 12 0 = k ∧ (k = 0 → bj s2 154 0 = bL b) ∧ E s2)
theorem wk7 (H : ∀ p0 p1 : Int, bRg p0 → bRg p1 → bWp 11 150 [.ref 11, .int (bn p0), .int (bn p1)] σ (bRnx (fun r s => bAf7 E σ p0 p1 0 (bwj s 154 0 (bL r))) (bXc [0] 1 (bAf7 E σ p0 p1)))) : bK7 E σ := by
  intro p0 p1 h0 h1
  refine ⟨rfl, fun A hA => sq321_0 (bWp_mono _) hA h0 h1 (bWp_mono 11 _ _ _ _ _ (bRnx_m (fun r s _ k => bRn_i (by decide) k) (fun X s k => ?_)) (H p0 p1 h0 h1))⟩
  unfold bXc at k
  by_cases x0 : X = 0
  · subst x0; exact sq321_9 (bWp_mono _) hA (bRn_i (by decide) k)
  rw [if_neg x0] at k
  exact k.elim
def bAf8 (E : bSt → Prop) (σ : bSt) (p0 p1 p2 : Int) (k : Int) (s1 : bSt) : Prop := bMid σ s1 ∧ bWp 12 220 [.ref 12, .int (bn p0), .int (bn p1), .int (bn p2)] s1 (bRn fun b s2 => bi s2 12 0 = k ∧ (k = 0 → bj s2 154 0 = bL b) ∧ E s2)
theorem wk8 (H : ∀ p0 p1 p2 : Int, bRg p0 → bRg p1 → bRg p2 → bWp 11 151 [.ref 11, .int (bn p0), .int (bn p1), .int (bn p2)] σ (bRnx (fun r s => bAf8 E σ p0 p1 p2 0 (bwj s 154 0 (bL r))) (bXc [0] 1 (bAf8 E σ p0 p1 p2)))) : bK8 E σ := by
  intro p0 p1 p2 h0 h1 h2
  refine ⟨rfl, fun A hA => sq322_0 (bWp_mono _) hA h0 h1 h2 (bWp_mono 11 _ _ _ _ _ (bRnx_m (fun r s _ k => bRn_i (by decide) k) (fun X s k => ?_)) (H p0 p1 p2 h0 h1 h2))⟩
  unfold bXc at k
  by_cases x0 : X = 0
  · subst x0; exact sq322_10 (bWp_mono _) hA (bRn_i (by decide) k)
  rw [if_neg x0] at k
  exact k.elim
def bAf9 (E : bSt → Prop) (σ : bSt) (p0 p1 : Int) (k : Int) (s1 : bSt) : Prop := bMid σ s1 ∧ bWp 12 221 [.ref 12, .int (bn p0), .int (bn p1)] s1 (bRn fun b s2 => bi s2 12 0 = k ∧ (k = 0 → bj s2 154 0 = bL b) ∧ E s2)
theorem wk9 (H : ∀ p0 p1 : Int, bRg p0 → bRg p1 → bWp 11 152 [.ref 11, .int (bn p0), .int (bn p1)] σ (bRnx (fun r s => bAf9 E σ p0 p1 0 (bwj s 154 0 (bL r))) (bXc [0] 1 (bAf9 E σ p0 p1)))) : bK9 E σ := by
  intro p0 p1 h0 h1
  refine ⟨rfl, fun A hA => sq323_0 (bWp_mono _) hA h0 h1 (bWp_mono 11 _ _ _ _ _ (bRnx_m (fun r s _ k => bRn_i (by decide) k) (fun X s k => ?_)) (H p0 p1 h0 h1))⟩
  unfold bXc at k
  by_cases x0 : X = 0
  · subst x0; exact sq323_9 (bWp_mono _) hA (bRn_i (by decide) k)
  rw [if_neg x0] at k
  exact k.elim
def bAf10 (E : bSt → Prop) (σ : bSt) (p0 p1 : Int) (k : Int) (s1 : bSt) : Prop := bMid σ s1 ∧ bWp 12 222 [.ref 12, .int (bn p0), .int (bn p1)] s1 (bRn fun b s2 => bi s2 12 0 = k ∧ (k = 0 → bj s2 154 0 = bL b) ∧ E s2)
theorem wk10 (H : ∀ p0 p1 : Int, bRg p0 → bRg p1 → bWp 11 153 [.ref 11, .int (bn p0), .int (bn p1)] σ (bRnx (fun r s => bAf10 E σ p0 p1 0 (bwj s 154 0 (bL r))) (bXc [0, 1] 1 (bAf10 E σ p0 p1)))) : bK10 E σ := by
  intro p0 p1 h0 h1
  refine ⟨rfl, fun A hA => sq324_0 (bWp_mono _) hA h0 h1 (bWp_mono 11 _ _ _ _ _ (bRnx_m (fun r s _ k => bRn_i (by decide) k) (fun X s k => ?_)) (H p0 p1 h0 h1))⟩
  unfold bXc at k
  by_cases x0 : X = 0
  · subst x0; exact sq324_9 (bWp_mono _) hA (bRn_i (by decide) k)
  rw [if_neg x0] at k
  unfold bXc at k
  by_cases x1 : X = 1
  · subst x1; exact sq324_12 (bWp_mono _) hA (bRn_i (by decide) k)
  rw [if_neg x1] at k
  exact k.elim
def bAf11 (E : bSt → Prop) (σ : bSt) (p0 p1 p2 p3 : Int) (k : Int) (s1 : bSt) : Prop := bMid σ s1 ∧ bWp 12 223 [.ref 12, .int (bn p0), .int (bn p1), .int (bn p2), .int (bn p3)] s1 (bRn fun b s2 => bi s2 12 0 = k ∧ (k = 0 → bj s2 154 0 = bL b) ∧ E s2)
theorem wk11 (H : ∀ p0 p1 p2 p3 : Int, bRg p0 → bRg p1 → bRg p2 → bRg p3 → bWp 11 154 [.ref 11, .int (bn p0), .int (bn p1), .int (bn p2), .int (bn p3)] σ (bRnx (fun r s => bAf11 E σ p0 p1 p2 p3 0 (bwj s 154 0 (bL r))) (bXc [0, 1, 2] 1 (bAf11 E σ p0 p1 p2 p3)))) : bK11 E σ := by
  intro p0 p1 p2 p3 h0 h1 h2 h3
  refine ⟨rfl, fun A hA => sq325_0 (bWp_mono _) hA h0 h1 h2 h3 (bWp_mono 11 _ _ _ _ _ (bRnx_m (fun r s _ k => bRn_i (by decide) k) (fun X s k => ?_)) (H p0 p1 p2 p3 h0 h1 h2 h3))⟩
  unfold bXc at k
  by_cases x0 : X = 0
  · subst x0; exact sq325_11 (bWp_mono _) hA (bRn_i (by decide) k)
  rw [if_neg x0] at k
  unfold bXc at k
  by_cases x1 : X = 1
  · subst x1; exact sq325_14 (bWp_mono _) hA (bRn_i (by decide) k)
  rw [if_neg x1] at k
  unfold bXc at k
  by_cases x2 : X = 2
  · subst x2; exact sq325_17 (bWp_mono _) hA (bRn_i (by decide) k)
  rw [if_neg x2] at k
  exact k.elim
def bAf12 (E : bSt → Prop) (σ : bSt) (p0 : Int) (k : Int) (s1 : bSt) : Prop := bMid σ s1 ∧ bWp 12 224 [.ref 12, .int (bn p0)] s1 (bRn fun b s2 => bi s2 12 0 = k ∧ (k = 0 → bj s2 154 0 = bL b) ∧ E s2)
theorem wk12 (H : ∀ p0 : Int, bRg p0 → bWp 11 155 [.ref 11, .int (bn p0)] σ (bRnx (fun r s => bAf12 E σ p0 0 (bwj s 154 0 (bL r))) (bXc [0] 1 (bAf12 E σ p0)))) : bK12 E σ := by
  intro p0 h0
  refine ⟨rfl, fun A hA => sq326_0 (bWp_mono _) hA h0 (bWp_mono 11 _ _ _ _ _ (bRnx_m (fun r s _ k => bRn_i (by decide) k) (fun X s k => ?_)) (H p0 h0))⟩
  unfold bXc at k
  by_cases x0 : X = 0
  · subst x0; exact sq326_8 (bWp_mono _) hA (bRn_i (by decide) k)
  rw [if_neg x0] at k
  exact k.elim
def bAf13 (E : bSt → Prop) (σ : bSt) (p0 p1 p2 : Int) (k : Int) (s1 : bSt) : Prop := bMid σ s1 ∧ bWp 12 226 [.ref 12, .int (bn p0), .int (bn p1), .int (bn p2)] s1 (bRn fun b s2 => bi s2 12 0 = k ∧ (k = 0 → bj s2 154 0 = bL b) ∧ E s2)
theorem wk13 (H : ∀ p0 p1 p2 : Int, bRg p0 → bRg p1 → bRg p2 → bWp 11 156 [.ref 11, .int (bn p0), .int (bn p1), .int (bn p2)] σ (bRnx (fun r s => bAf13 E σ p0 p1 p2 0 (bwj s 154 0 (bL r))) (bXc [0, 1, 2] 1 (bAf13 E σ p0 p1 p2)))) : bK13 E σ := by
  intro p0 p1 p2 h0 h1 h2
  refine ⟨rfl, fun A hA => sq327_0 (bWp_mono _) hA h0 h1 h2 (bWp_mono 11 _ _ _ _ _ (bRnx_m (fun r s _ k => bRn_i (by decide) k) (fun X s k => ?_)) (H p0 p1 p2 h0 h1 h2))⟩
  unfold bXc at k
  by_cases x0 : X = 0
  · subst x0; exact sq327_10 (bWp_mono _) hA (bRn_i (by decide) k)
  rw [if_neg x0] at k
  unfold bXc at k
  by_cases x1 : X = 1
  · subst x1; exact sq327_13 (bWp_mono _) hA (bRn_i (by decide) k)
  rw [if_neg x1] at k
  unfold bXc at k
  by_cases x2 : X = 2
  · subst x2; exact sq327_16 (bWp_mono _) hA (bRn_i (by decide) k)
  rw [if_neg x2] at k
  exact k.elim
def bAf14 (E : bSt → Prop) (σ : bSt) (p0 p1 p2 : Int) (k : Int) (s1 : bSt) : Prop := bMid σ s1 ∧ bWp 12 227 [.ref 12, .int (bn p0), .int (bn p1), .int (bn p2)] s1 (bRv fun s2 => bi s2 12 0 = k ∧ E s2)
theorem wk14 (H : ∀ p0 p1 p2 : Int, bRg p0 → bRg p1 → bRg p2 → bWp 11 157 [.ref 11, .int (bn p0), .int (bn p1), .int (bn p2)] σ (bRvx (fun s => bAf14 E σ p0 p1 p2 0 s) (bXc [0] 1 (bAf14 E σ p0 p1 p2)))) : bK14 E σ := by
  intro p0 p1 p2 h0 h1 h2
  refine ⟨rfl, fun A hA => sq328_0 (bWp_mono _) hA h0 h1 h2 (bWp_mono 11 _ _ _ _ _ (bRvx_m (fun s k => bRn_i (by decide) k) (fun X s k => ?_)) (H p0 p1 p2 h0 h1 h2))⟩
  unfold bXc at k
  by_cases x0 : X = 0
  · subst x0; exact sq328_6 (bWp_mono _) hA (bRn_i (by decide) k)
  rw [if_neg x0] at k
  exact k.elim
def bAf15 (E : bSt → Prop) (σ : bSt) (p0 p1 p2 p3 : Int) (k : Int) (s1 : bSt) : Prop := bMid σ s1 ∧ bWp 12 228 [.ref 12, .int (bn p0), .int (bn p1), .int (bn p2), .int (bn p3)] s1 (bRn fun b s2 => bi s2 12 0 = k ∧ (k = 0 → bj s2 154 0 = bL b) ∧ E s2)
theorem wk15 (H : ∀ p0 p1 p2 p3 : Int, bRg p0 → bRg p1 → bRg p2 → bRg p3 → bWp 11 158 [.ref 11, .int (bn p0), .int (bn p1), .int (bn p2), .int (bn p3)] σ (bRnx (fun r s => bAf15 E σ p0 p1 p2 p3 0 (bwj s 154 0 (bL r))) (bXc [0, 1, 2] 1 (bAf15 E σ p0 p1 p2 p3)))) : bK15 E σ := by
  intro p0 p1 p2 p3 h0 h1 h2 h3
  refine ⟨rfl, fun A hA => sq329_0 (bWp_mono _) hA h0 h1 h2 h3 (bWp_mono 11 _ _ _ _ _ (bRnx_m (fun r s _ k => bRn_i (by decide) k) (fun X s k => ?_)) (H p0 p1 p2 p3 h0 h1 h2 h3))⟩
  unfold bXc at k
  by_cases x0 : X = 0
  · subst x0; exact sq329_11 (bWp_mono _) hA (bRn_i (by decide) k)
  rw [if_neg x0] at k
  unfold bXc at k
  by_cases x1 : X = 1
  · subst x1; exact sq329_14 (bWp_mono _) hA (bRn_i (by decide) k)
  rw [if_neg x1] at k
  unfold bXc at k
  by_cases x2 : X = 2
  · subst x2; exact sq329_17 (bWp_mono _) hA (bRn_i (by decide) k)
  rw [if_neg x2] at k
  exact k.elim
def bAf16 (E : bSt → Prop) (σ : bSt) (p0 p1 : Int) (k : Int) (s1 : bSt) : Prop := bMid σ s1 ∧ bWp 12 230 [.ref 12, .int (bn p0), .int (bn p1)] s1 (bRn fun b s2 => bi s2 12 0 = k ∧ (k = 0 → bj s2 154 0 = bL b) ∧ E s2)
theorem wk16 (H : ∀ p0 p1 : Int, bRg p0 → bRg p1 → bWp 11 159 [.ref 11, .int (bn p0), .int (bn p1)] σ (bRnx (fun r s => bAf16 E σ p0 p1 0 (bwj s 154 0 (bL r))) (bXc [0, 2] 1 (bAf16 E σ p0 p1)))) : bK16 E σ := by
  intro p0 p1 h0 h1
  refine ⟨rfl, fun A hA => sq330_0 (bWp_mono _) hA h0 h1 (bWp_mono 11 _ _ _ _ _ (bRnx_m (fun r s _ k => bRn_i (by decide) k) (fun X s k => ?_)) (H p0 p1 h0 h1))⟩
  unfold bXc at k
  by_cases x0 : X = 0
  · subst x0; exact sq330_9 (bWp_mono _) hA (bRn_i (by decide) k)
  rw [if_neg x0] at k
  unfold bXc at k
  by_cases x1 : X = 2
  · subst x1; exact sq330_12 (bWp_mono _) hA (bRn_i (by decide) k)
  rw [if_neg x1] at k
  exact k.elim
def bAf17 (E : bSt → Prop) (σ : bSt) (p0 p1 p2 : Int) (k : Int) (s1 : bSt) : Prop := bMid σ s1 ∧ bWp 12 231 [.ref 12, .int (bn p0), .int (bn p1), .int (bn p2)] s1 (bRn fun b s2 => bi s2 12 0 = k ∧ (k = 0 → bj s2 154 0 = bL b) ∧ E s2)
theorem wk17 (H : ∀ p0 p1 p2 : Int, bRg p0 → bRg p1 → (p2 = 0 ∨ p2 = 1) → bWp 11 160 [.ref 11, .int (bn p0), .int (bn p1), .int (bn p2)] σ (bRnx (fun r s => bAf17 E σ p0 p1 p2 0 (bwj s 154 0 (bL r))) (bXc [0, 1, 2] 1 (bAf17 E σ p0 p1 p2)))) : bK17 E σ := by
  intro p0 p1 p2 h0 h1 h2
  refine ⟨rfl, fun A hA => sq331_0 (bWp_mono _) hA h0 h1 (b01_rg h2) (bWp_mono 11 _ _ _ _ _ (bRnx_m (fun r s _ k => bRn_i (by decide) k) (fun X s k => ?_)) (H p0 p1 p2 h0 h1 h2))⟩
  unfold bXc at k
  by_cases x0 : X = 0
  · subst x0; exact sq331_10 (bWp_mono _) hA (bRn_i (by decide) k)
  rw [if_neg x0] at k
  unfold bXc at k
  by_cases x1 : X = 1
  · subst x1; exact sq331_13 (bWp_mono _) hA (bRn_i (by decide) k)
  rw [if_neg x1] at k
  unfold bXc at k
  by_cases x2 : X = 2
  · subst x2; exact sq331_16 (bWp_mono _) hA (bRn_i (by decide) k)
  rw [if_neg x2] at k
  exact k.elim
def bAf18 (E : bSt → Prop) (σ : bSt) (p0 p1 : Int) (k : Int) (s1 : bSt) : Prop := bMid σ s1 ∧ bWp 12 232 [.ref 12, .int (bn p0), .int (bn p1)] s1 (bRn fun b s2 => bi s2 12 0 = k ∧ (k = 0 → bj s2 154 0 = bL b) ∧ E s2)
theorem wk18 (H : ∀ p0 p1 : Int, bRg p0 → bRg p1 → bWp 11 161 [.ref 11, .int (bn p0), .int (bn p1)] σ (bRnx (fun r s => bAf18 E σ p0 p1 0 (bwj s 154 0 (bL r))) (bXc [0, 1, 2] 1 (bAf18 E σ p0 p1)))) : bK18 E σ := by
  intro p0 p1 h0 h1
  refine ⟨rfl, fun A hA => sq332_0 (bWp_mono _) hA h0 h1 (bWp_mono 11 _ _ _ _ _ (bRnx_m (fun r s _ k => bRn_i (by decide) k) (fun X s k => ?_)) (H p0 p1 h0 h1))⟩
  unfold bXc at k
  by_cases x0 : X = 0
  · subst x0; exact sq332_9 (bWp_mono _) hA (bRn_i (by decide) k)
  rw [if_neg x0] at k
  unfold bXc at k
  by_cases x1 : X = 1
  · subst x1; exact sq332_12 (bWp_mono _) hA (bRn_i (by decide) k)
  rw [if_neg x1] at k
  unfold bXc at k
  by_cases x2 : X = 2
  · subst x2; exact sq332_15 (bWp_mono _) hA (bRn_i (by decide) k)
  rw [if_neg x2] at k
  exact k.elim
def bAf19 (E : bSt → Prop) (σ : bSt) (p0 : Int) (k : Int) (s1 : bSt) : Prop := bMid σ s1 ∧ bWp 12 233 [.ref 12, .int (bn p0)] s1 (bRn fun b s2 => bi s2 12 0 = k ∧ (k = 0 → bj s2 154 0 = bL b) ∧ E s2)
theorem wk19 (H : ∀ p0 : Int, bRg p0 → bWp 11 162 [.ref 11, .int (bn p0)] σ (bRnx (fun r s => bAf19 E σ p0 0 (bwj s 154 0 (bL r))) (bXc [0, 2] 1 (bAf19 E σ p0)))) : bK19 E σ := by
  intro p0 h0
  refine ⟨rfl, fun A hA => sq333_0 (bWp_mono _) hA h0 (bWp_mono 11 _ _ _ _ _ (bRnx_m (fun r s _ k => bRn_i (by decide) k) (fun X s k => ?_)) (H p0 h0))⟩
  unfold bXc at k
  by_cases x0 : X = 0
  · subst x0; exact sq333_8 (bWp_mono _) hA (bRn_i (by decide) k)
  rw [if_neg x0] at k
  unfold bXc at k
  by_cases x1 : X = 2
  · subst x1; exact sq333_11 (bWp_mono _) hA (bRn_i (by decide) k)
  rw [if_neg x1] at k
  exact k.elim
def bAf20 (E : bSt → Prop) (σ : bSt) (p0 p1 : Int) (k : Int) (s1 : bSt) : Prop := bMid σ s1 ∧ bWp 12 234 [.ref 12, .int (bn p0), .int (bn p1)] s1 (bRn fun b s2 => bi s2 12 0 = k ∧ (k = 0 → bj s2 154 0 = bL b) ∧ E s2)
theorem wk20 (H : ∀ p0 p1 : Int, bRg p0 → bRg p1 → bWp 11 163 [.ref 11, .int (bn p0), .int (bn p1)] σ (bRnx (fun r s => bAf20 E σ p0 p1 0 (bwj s 154 0 (bL r))) (bXc [0, 1] 1 (bAf20 E σ p0 p1)))) : bK20 E σ := by
  intro p0 p1 h0 h1
  refine ⟨rfl, fun A hA => sq334_0 (bWp_mono _) hA h0 h1 (bWp_mono 11 _ _ _ _ _ (bRnx_m (fun r s _ k => bRn_i (by decide) k) (fun X s k => ?_)) (H p0 p1 h0 h1))⟩
  unfold bXc at k
  by_cases x0 : X = 0
  · subst x0; exact sq334_9 (bWp_mono _) hA (bRn_i (by decide) k)
  rw [if_neg x0] at k
  unfold bXc at k
  by_cases x1 : X = 1
  · subst x1; exact sq334_12 (bWp_mono _) hA (bRn_i (by decide) k)
  rw [if_neg x1] at k
  exact k.elim
def bAf21 (E : bSt → Prop) (σ : bSt) (p0 p1 p2 : Int) (k : Int) (s1 : bSt) : Prop := bMid σ s1 ∧ bWp 12 235 [.ref 12, .int (bn p0), .int (bn p1), .int (bn p2)] s1 (bRv fun s2 => bi s2 12 0 = k ∧ E s2)
theorem wk21 (H : ∀ p0 p1 p2 : Int, bRg p0 → bRg p1 → bRg p2 → bWp 11 164 [.ref 11, .int (bn p0), .int (bn p1), .int (bn p2)] σ (bRvx (fun s => bAf21 E σ p0 p1 p2 0 s) (bXc [0, 1] 1 (bAf21 E σ p0 p1 p2)))) : bK21 E σ := by
  intro p0 p1 p2 h0 h1 h2
  refine ⟨rfl, fun A hA => sq335_0 (bWp_mono _) hA h0 h1 h2 (bWp_mono 11 _ _ _ _ _ (bRvx_m (fun s k => bRn_i (by decide) k) (fun X s k => ?_)) (H p0 p1 p2 h0 h1 h2))⟩
  unfold bXc at k
  by_cases x0 : X = 0
  · subst x0; exact sq335_6 (bWp_mono _) hA (bRn_i (by decide) k)
  rw [if_neg x0] at k
  unfold bXc at k
  by_cases x1 : X = 1
  · subst x1; exact sq335_9 (bWp_mono _) hA (bRn_i (by decide) k)
  rw [if_neg x1] at k
  exact k.elim
def bAf22 (E : bSt → Prop) (σ : bSt) (p0 p1 p2 p3 : Int) (k : Int) (s1 : bSt) : Prop := bMid σ s1 ∧ bWp 12 236 [.ref 12, .int (bn p0), .int (bn p1), .int (bn p2), .int (bn p3)] s1 (bRv fun s2 => bi s2 12 0 = k ∧ E s2)
theorem wk22 (H : ∀ p0 p1 p2 p3 : Int, bRg p0 → bRg p1 → bRg p2 → (p3 = 0 ∨ p3 = 1) → bWp 11 165 [.ref 11, .int (bn p0), .int (bn p1), .int (bn p2), .int (bn p3)] σ (bRvx (fun s => bAf22 E σ p0 p1 p2 p3 0 s) (bXc [0, 1] 1 (bAf22 E σ p0 p1 p2 p3)))) : bK22 E σ := by
  intro p0 p1 p2 p3 h0 h1 h2 h3
  refine ⟨rfl, fun A hA => sq336_0 (bWp_mono _) hA h0 h1 h2 (b01_rg h3) (bWp_mono 11 _ _ _ _ _ (bRvx_m (fun s k => bRn_i (by decide) k) (fun X s k => ?_)) (H p0 p1 p2 p3 h0 h1 h2 h3))⟩
  unfold bXc at k
  by_cases x0 : X = 0
  · subst x0; exact sq336_7 (bWp_mono _) hA (bRn_i (by decide) k)
  rw [if_neg x0] at k
  unfold bXc at k
  by_cases x1 : X = 1
  · subst x1; exact sq336_10 (bWp_mono _) hA (bRn_i (by decide) k)
  rw [if_neg x1] at k
  exact k.elim
def bAf23 (E : bSt → Prop) (σ : bSt) (p0 p1 p2 : Int) (k : Int) (s1 : bSt) : Prop := bMid σ s1 ∧ bWp 12 237 [.ref 12, .int (bn p0), .int (bn p1), .int (bn p2)] s1 (bRv fun s2 => bi s2 12 0 = k ∧ E s2)
theorem wk23 (H : ∀ p0 p1 p2 : Int, bRg p0 → bRg p1 → bRg p2 → bWp 11 166 [.ref 11, .int (bn p0), .int (bn p1), .int (bn p2)] σ (bRvx (fun s => bAf23 E σ p0 p1 p2 0 s) (bXc [0, 1] 1 (bAf23 E σ p0 p1 p2)))) : bK23 E σ := by
  intro p0 p1 p2 h0 h1 h2
  refine ⟨rfl, fun A hA => sq337_0 (bWp_mono _) hA h0 h1 h2 (bWp_mono 11 _ _ _ _ _ (bRvx_m (fun s k => bRn_i (by decide) k) (fun X s k => ?_)) (H p0 p1 p2 h0 h1 h2))⟩
  unfold bXc at k
  by_cases x0 : X = 0
  · subst x0; exact sq337_6 (bWp_mono _) hA (bRn_i (by decide) k)
  rw [if_neg x0] at k
  unfold bXc at k
  by_cases x1 : X = 1
  · subst x1; exact sq337_9 (bWp_mono _) hA (bRn_i (by decide) k)
  rw [if_neg x1] at k
  exact k.elim
def bAf24 (E : bSt → Prop) (σ : bSt) (p0 p1 : Int) (k : Int) (s1 : bSt) : Prop := bMid σ s1 ∧ bWp 12 244 [.ref 12, .int (bn p0), .int (bn p1)] s1 (bRn fun b s2 => bi s2 12 0 = k ∧ (k = 0 → bj s2 154 0 = bL b) ∧ E s2)
theorem wk24 (H : ∀ p0 p1 : Int, bRg p0 → bRg p1 → bWp 11 167 [.ref 11, .int (bn p0), .int (bn p1)] σ (bRnx (fun r s => bAf24 E σ p0 p1 0 (bwj s 154 0 (bL r))) (bXc [0] 1 (bAf24 E σ p0 p1)))) : bK24 E σ := by
  intro p0 p1 h0 h1
  refine ⟨rfl, fun A hA => sq338_0 (bWp_mono _) hA h0 h1 (bWp_mono 11 _ _ _ _ _ (bRnx_m (fun r s _ k => bRn_i (by decide) k) (fun X s k => ?_)) (H p0 p1 h0 h1))⟩
  unfold bXc at k
  by_cases x0 : X = 0
  · subst x0; exact sq338_9 (bWp_mono _) hA (bRn_i (by decide) k)
  rw [if_neg x0] at k
  exact k.elim
def bAf25 (E : bSt → Prop) (σ : bSt) (p0 p1 : Int) (k : Int) (s1 : bSt) : Prop := bMid σ s1 ∧ bWp 12 278 [.ref 12, .int (bn p0), .int (bn p1)] s1 (bRn fun b s2 => bi s2 12 0 = k ∧ (k = 0 → bj s2 154 0 = bL b) ∧ E s2)
theorem wk25 (H : ∀ p0 p1 : Int, bRg p0 → bRg p1 → bWp 11 168 [.ref 11, .int (bn p0), .int (bn p1)] σ (bRnx (fun r s => bAf25 E σ p0 p1 0 (bwj s 154 0 (bL r))) (bXc [0, 1] 1 (bAf25 E σ p0 p1)))) : bK25 E σ := by
  intro p0 p1 h0 h1
  refine ⟨rfl, fun A hA => sq339_0 (bWp_mono _) hA h0 h1 (bWp_mono 11 _ _ _ _ _ (bRnx_m (fun r s _ k => bRn_i (by decide) k) (fun X s k => ?_)) (H p0 p1 h0 h1))⟩
  unfold bXc at k
  by_cases x0 : X = 0
  · subst x0; exact sq339_9 (bWp_mono _) hA (bRn_i (by decide) k)
  rw [if_neg x0] at k
  unfold bXc at k
  by_cases x1 : X = 1
  · subst x1; exact sq339_12 (bWp_mono _) hA (bRn_i (by decide) k)
  rw [if_neg x1] at k
  exact k.elim
def bAf27 (E : bSt → Prop) (σ : bSt) (p0 p1 : Int) (k : Int) (s1 : bSt) : Prop := bMid σ s1 ∧ bWp 12 274 [.ref 12, .int (bn p0), .int (bn p1)] s1 (bRn fun b s2 => bi s2 12 0 = k ∧ (k = 0 → bj s2 154 0 = if b = 0 then Int64.ofNat 0 else Int64.ofNat 1) ∧ E s2)
theorem wk27 (H : ∀ p0 p1 : Int, (p0 = 0 ∨ p0 = 1) → bRg p1 → bWp 11 170 [.ref 11, .int (bn p0), .int (bn p1)] σ (bRnx (fun r s => bAf27 E σ p0 p1 0 (bwj s 154 0 (if r = 0 then Int64.ofNat 0 else Int64.ofNat 1))) (bXc [1] 1 (bAf27 E σ p0 p1)))) : bK27 E σ := by
  intro p0 p1 h0 h1
  refine ⟨rfl, fun A hA => sq340_0 (bWp_mono _) hA (b01_rg h0) h1 (bWp_mono 11 _ _ _ _ _ (bRnx_m (fun r s _ k => ⟨fun z => bRn_i (by decide) (by rwa [if_pos z] at k), fun z => bRn_i (by decide) (by rwa [if_neg z] at k)⟩) (fun X s k => ?_)) (H p0 p1 h0 h1))⟩
  unfold bXc at k
  by_cases x0 : X = 1
  · subst x0; exact sq340_12 (bWp_mono _) hA (bRn_i (by decide) k)
  rw [if_neg x0] at k
  exact k.elim
def bAf28 (E : bSt → Prop) (σ : bSt) (p0 : Int) (k : Int) (s1 : bSt) : Prop := bMid σ s1 ∧ bWp 12 275 [.ref 12, .int (bn p0)] s1 (bRn fun b s2 => bi s2 12 0 = k ∧ (k = 0 → bj s2 154 0 = if b = 0 then Int64.ofNat 0 else Int64.ofNat 1) ∧ E s2)
theorem wk28 (H : ∀ p0 : Int, bRg p0 → bWp 11 171 [.ref 11, .int (bn p0)] σ (bRnx (fun r s => bAf28 E σ p0 0 (bwj s 154 0 (if r = 0 then Int64.ofNat 0 else Int64.ofNat 1))) (bXc [1] 1 (bAf28 E σ p0)))) : bK28 E σ := by
  intro p0 h0
  refine ⟨rfl, fun A hA => sq341_0 (bWp_mono _) hA h0 (bWp_mono 11 _ _ _ _ _ (bRnx_m (fun r s _ k => ⟨fun z => bRn_i (by decide) (by rwa [if_pos z] at k), fun z => bRn_i (by decide) (by rwa [if_neg z] at k)⟩) (fun X s k => ?_)) (H p0 h0))⟩
  unfold bXc at k
  by_cases x0 : X = 1
  · subst x0; exact sq341_11 (bWp_mono _) hA (bRn_i (by decide) k)
  rw [if_neg x0] at k
  exact k.elim
def bAf31 (E : bSt → Prop) (σ : bSt) (p0 p1 p2 : Int) (k : Int) (s1 : bSt) : Prop := bMid σ s1 ∧ bWp 12 285 [.ref 12, .int (bn p0), .int (bn p1), .int (bn p2)] s1 (bRn fun b s2 => bi s2 12 0 = k ∧ (k = 0 → bj s2 154 0 = bL b) ∧ E s2)
theorem wk31 (H : ∀ p0 p1 p2 : Int, bRg p0 → (p1 = 0 ∨ p1 = 1) → bRg p2 → bWp 11 174 [.ref 11, .int (bn p0), .int (bn p1), .int (bn p2)] σ (bRnx (fun r s => bAf31 E σ p0 p1 p2 0 (bwj s 154 0 (bL r))) (bXc [0, 1, 2] 1 (bAf31 E σ p0 p1 p2)))) : bK31 E σ := by
  intro p0 p1 p2 h0 h1 h2
  refine ⟨rfl, fun A hA => sq342_0 (bWp_mono _) hA h0 (b01_rg h1) h2 (bWp_mono 11 _ _ _ _ _ (bRnx_m (fun r s _ k => bRn_i (by decide) k) (fun X s k => ?_)) (H p0 p1 p2 h0 h1 h2))⟩
  unfold bXc at k
  by_cases x0 : X = 0
  · subst x0; exact sq342_10 (bWp_mono _) hA (bRn_i (by decide) k)
  rw [if_neg x0] at k
  unfold bXc at k
  by_cases x1 : X = 1
  · subst x1; exact sq342_13 (bWp_mono _) hA (bRn_i (by decide) k)
  rw [if_neg x1] at k
  unfold bXc at k
  by_cases x2 : X = 2
  · subst x2; exact sq342_16 (bWp_mono _) hA (bRn_i (by decide) k)
  rw [if_neg x2] at k
  exact k.elim
def bAf32 (E : bSt → Prop) (σ : bSt) (p0 : Int) (k : Int) (s1 : bSt) : Prop := bMid σ s1 ∧ bWp 12 299 [.ref 12, .int (bn p0)] s1 (bRn fun b s2 => bi s2 12 0 = k ∧ (k = 0 → bj s2 154 0 = bL b) ∧ E s2)
theorem wk32 (H : ∀ p0 : Int, bRg p0 → bWp 11 175 [.ref 11, .int (bn p0)] σ (bRnx (fun r s => bAf32 E σ p0 0 (bwj s 154 0 (bL r))) (bXc [1] 1 (bAf32 E σ p0)))) : bK32 E σ := by
  intro p0 h0
  refine ⟨rfl, fun A hA => sq343_0 (bWp_mono _) hA h0 (bWp_mono 11 _ _ _ _ _ (bRnx_m (fun r s _ k => bRn_i (by decide) k) (fun X s k => ?_)) (H p0 h0))⟩
  unfold bXc at k
  by_cases x0 : X = 1
  · subst x0; exact sq343_8 (bWp_mono _) hA (bRn_i (by decide) k)
  rw [if_neg x0] at k
  exact k.elim
def bAf34 (E : bSt → Prop) (σ : bSt) (p0 : Int) (k : Int) (s1 : bSt) : Prop := bMid σ s1 ∧ bWp 12 302 [.ref 12, .int (bn p0)] s1 (bRn fun b s2 => bi s2 12 0 = k ∧ (k = 0 → bj s2 154 0 = bL b) ∧ E s2)
theorem wk34 (H : ∀ p0 : Int, bRg p0 → bWp 11 177 [.ref 11, .int (bn p0)] σ (bRnx (fun r s => bAf34 E σ p0 0 (bwj s 154 0 (bL r))) (bXc [0] 1 (bAf34 E σ p0)))) : bK34 E σ := by
  intro p0 h0
  refine ⟨rfl, fun A hA => sq344_0 (bWp_mono _) hA h0 (bWp_mono 11 _ _ _ _ _ (bRnx_m (fun r s _ k => bRn_i (by decide) k) (fun X s k => ?_)) (H p0 h0))⟩
  unfold bXc at k
  by_cases x0 : X = 0
  · subst x0; exact sq344_8 (bWp_mono _) hA (bRn_i (by decide) k)
  rw [if_neg x0] at k
  exact k.elim
def bAf36 (E : bSt → Prop) (σ : bSt) (p0 : Int) (k : Int) (s1 : bSt) : Prop := bMid σ s1 ∧ bWp 12 248 [.ref 12, .int (bn p0)] s1 (bRn fun b s2 => bi s2 12 0 = k ∧ (k = 0 → bj s2 154 0 = bL b) ∧ E s2)
theorem wk36 (H : ∀ p0 : Int, bRg p0 → bWp 11 179 [.ref 11, .int (bn p0)] σ (bRnx (fun r s => bAf36 E σ p0 0 (bwj s 154 0 (bL r))) (bXc [0] 1 (bAf36 E σ p0)))) : bK36 E σ := by
  intro p0 h0
  refine ⟨rfl, fun A hA => sq345_0 (bWp_mono _) hA h0 (bWp_mono 11 _ _ _ _ _ (bRnx_m (fun r s _ k => bRn_i (by decide) k) (fun X s k => ?_)) (H p0 h0))⟩
  unfold bXc at k
  by_cases x0 : X = 0
  · subst x0; exact sq345_8 (bWp_mono _) hA (bRn_i (by decide) k)
  rw [if_neg x0] at k
  exact k.elim
def bAf37 (E : bSt → Prop) (σ : bSt) (p0 p1 : Int) (k : Int) (s1 : bSt) : Prop := bMid σ s1 ∧ bWp 12 254 [.ref 12, .int (bn p0), .int (bn p1)] s1 (bRn fun b s2 => bi s2 12 0 = k ∧ (k = 0 → bj s2 154 0 = bL b) ∧ E s2)
theorem wk37 (H : ∀ p0 p1 : Int, bRg p0 → bRg p1 → bWp 11 180 [.ref 11, .int (bn p0), .int (bn p1)] σ (bRnx (fun r s => bAf37 E σ p0 p1 0 (bwj s 154 0 (bL r))) (bXc [0] 1 (bAf37 E σ p0 p1)))) : bK37 E σ := by
  intro p0 p1 h0 h1
  refine ⟨rfl, fun A hA => sq346_0 (bWp_mono _) hA h0 h1 (bWp_mono 11 _ _ _ _ _ (bRnx_m (fun r s _ k => bRn_i (by decide) k) (fun X s k => ?_)) (H p0 p1 h0 h1))⟩
  unfold bXc at k
  by_cases x0 : X = 0
  · subst x0; exact sq346_9 (bWp_mono _) hA (bRn_i (by decide) k)
  rw [if_neg x0] at k
  exact k.elim
def bAf38 (E : bSt → Prop) (σ : bSt) (p0 p1 : Int) (k : Int) (s1 : bSt) : Prop := bMid σ s1 ∧ bWp 12 303 [.ref 12, .int (bn p0), .int (bn p1)] s1 (bRn fun b s2 => bi s2 12 0 = k ∧ (k = 0 → bj s2 154 0 = bL b) ∧ E s2)
theorem wk38 (H : ∀ p0 p1 : Int, bRg p0 → bRg p1 → bWp 11 181 [.ref 11, .int (bn p0), .int (bn p1)] σ (bRnx (fun r s => bAf38 E σ p0 p1 0 (bwj s 154 0 (bL r))) (bXc [0, 1] 1 (bAf38 E σ p0 p1)))) : bK38 E σ := by
  intro p0 p1 h0 h1
  refine ⟨rfl, fun A hA => sq347_0 (bWp_mono _) hA h0 h1 (bWp_mono 11 _ _ _ _ _ (bRnx_m (fun r s _ k => bRn_i (by decide) k) (fun X s k => ?_)) (H p0 p1 h0 h1))⟩
  unfold bXc at k
  by_cases x0 : X = 0
  · subst x0; exact sq347_9 (bWp_mono _) hA (bRn_i (by decide) k)
  rw [if_neg x0] at k
  unfold bXc at k
  by_cases x1 : X = 1
  · subst x1; exact sq347_12 (bWp_mono _) hA (bRn_i (by decide) k)
  rw [if_neg x1] at k
  exact k.elim
def bAf39 (E : bSt → Prop) (σ : bSt) (p0 p1 : Int) (k : Int) (s1 : bSt) : Prop := bMid σ s1 ∧ bWp 12 255 [.ref 12, .int (bn p0), .int (bn p1)] s1 (bRn fun b s2 => bi s2 12 0 = k ∧ (k = 0 → bj s2 154 0 = bL b) ∧ E s2)
theorem wk39 (H : ∀ p0 p1 : Int, bRg p0 → bRg p1 → bWp 11 182 [.ref 11, .int (bn p0), .int (bn p1)] σ (bRnx (fun r s => bAf39 E σ p0 p1 0 (bwj s 154 0 (bL r))) (bXc [0] 1 (bAf39 E σ p0 p1)))) : bK39 E σ := by
  intro p0 p1 h0 h1
  refine ⟨rfl, fun A hA => sq348_0 (bWp_mono _) hA h0 h1 (bWp_mono 11 _ _ _ _ _ (bRnx_m (fun r s _ k => bRn_i (by decide) k) (fun X s k => ?_)) (H p0 p1 h0 h1))⟩
  unfold bXc at k
  by_cases x0 : X = 0
  · subst x0; exact sq348_9 (bWp_mono _) hA (bRn_i (by decide) k)
  rw [if_neg x0] at k
  exact k.elim
def bAf40 (E : bSt → Prop) (σ : bSt) (p0 : Int) (k : Int) (s1 : bSt) : Prop := bMid σ s1 ∧ bWp 12 256 [.ref 12, .int (bn p0)] s1 (bRn fun b s2 => bi s2 12 0 = k ∧ (k = 0 → bj s2 154 0 = bL b) ∧ E s2)
theorem wk40 (H : ∀ p0 : Int, bRg p0 → bWp 11 183 [.ref 11, .int (bn p0)] σ (bRnx (fun r s => bAf40 E σ p0 0 (bwj s 154 0 (bL r))) (bXc [0] 1 (bAf40 E σ p0)))) : bK40 E σ := by
  intro p0 h0
  refine ⟨rfl, fun A hA => sq349_0 (bWp_mono _) hA h0 (bWp_mono 11 _ _ _ _ _ (bRnx_m (fun r s _ k => bRn_i (by decide) k) (fun X s k => ?_)) (H p0 h0))⟩
  unfold bXc at k
  by_cases x0 : X = 0
  · subst x0; exact sq349_8 (bWp_mono _) hA (bRn_i (by decide) k)
  rw [if_neg x0] at k
  exact k.elim
def bAf41 (E : bSt → Prop) (σ : bSt) (p0 : Int) (k : Int) (s1 : bSt) : Prop := bMid σ s1 ∧ bWp 12 263 [.ref 12, .int (bn p0)] s1 (bRn fun b s2 => bi s2 12 0 = k ∧ (k = 0 → bj s2 154 0 = bL b) ∧ E s2)
theorem wk41 (H : ∀ p0 : Int, bRg p0 → bWp 11 184 [.ref 11, .int (bn p0)] σ (bRnx (fun r s => bAf41 E σ p0 0 (bwj s 154 0 (bL r))) (bXc [0] 1 (bAf41 E σ p0)))) : bK41 E σ := by
  intro p0 h0
  refine ⟨rfl, fun A hA => sq350_0 (bWp_mono _) hA h0 (bWp_mono 11 _ _ _ _ _ (bRnx_m (fun r s _ k => bRn_i (by decide) k) (fun X s k => ?_)) (H p0 h0))⟩
  unfold bXc at k
  by_cases x0 : X = 0
  · subst x0; exact sq350_8 (bWp_mono _) hA (bRn_i (by decide) k)
  rw [if_neg x0] at k
  exact k.elim
def bAf42 (E : bSt → Prop) (σ : bSt) (p0 : Int) (k : Int) (s1 : bSt) : Prop := bMid σ s1 ∧ bWp 12 304 [.ref 12, .int (bn p0)] s1 (bRn fun b s2 => bi s2 12 0 = k ∧ (k = 0 → bj s2 154 0 = bL b) ∧ E s2)
theorem wk42 (H : ∀ p0 : Int, bRg p0 → bWp 11 185 [.ref 11, .int (bn p0)] σ (bRnx (fun r s => bAf42 E σ p0 0 (bwj s 154 0 (bL r))) (bXc [0, 2] 1 (bAf42 E σ p0)))) : bK42 E σ := by
  intro p0 h0
  refine ⟨rfl, fun A hA => sq351_0 (bWp_mono _) hA h0 (bWp_mono 11 _ _ _ _ _ (bRnx_m (fun r s _ k => bRn_i (by decide) k) (fun X s k => ?_)) (H p0 h0))⟩
  unfold bXc at k
  by_cases x0 : X = 0
  · subst x0; exact sq351_8 (bWp_mono _) hA (bRn_i (by decide) k)
  rw [if_neg x0] at k
  unfold bXc at k
  by_cases x1 : X = 2
  · subst x1; exact sq351_11 (bWp_mono _) hA (bRn_i (by decide) k)
  rw [if_neg x1] at k
  exact k.elim
def bAf43 (E : bSt → Prop) (σ : bSt) (p0 p1 : Int) (k : Int) (s1 : bSt) : Prop := bMid σ s1 ∧ bWp 12 306 [.ref 12, .int (bn p0), .int (bn p1)] s1 (bRn fun b s2 => bi s2 12 0 = k ∧ (k = 0 → bj s2 154 0 = bL b) ∧ E s2)
theorem wk43 (H : ∀ p0 p1 : Int, bRg p0 → bRg p1 → bWp 11 189 [.ref 11, .int (bn p0), .int (bn p1)] σ (bRnx (fun r s => bAf43 E σ p0 p1 0 (bwj s 154 0 (bL r))) (bXc [0] 1 (bAf43 E σ p0 p1)))) : bK43 E σ := by
  intro p0 p1 h0 h1
  refine ⟨rfl, fun A hA => sq352_0 (bWp_mono _) hA h0 h1 (bWp_mono 11 _ _ _ _ _ (bRnx_m (fun r s _ k => bRn_i (by decide) k) (fun X s k => ?_)) (H p0 p1 h0 h1))⟩
  unfold bXc at k
  by_cases x0 : X = 0
  · subst x0; exact sq352_9 (bWp_mono _) hA (bRn_i (by decide) k)
  rw [if_neg x0] at k
  exact k.elim
def bAf45 (E : bSt → Prop) (σ : bSt) (p0 : Int) (k : Int) (s1 : bSt) : Prop := bMid σ s1 ∧ bWp 12 308 [.ref 12, .int (bn p0)] s1 (bRv fun s2 => bi s2 12 0 = k ∧ E s2)
theorem wk45 (H : ∀ p0 : Int, bRg p0 → bWp 11 191 [.ref 11, .int (bn p0)] σ (bRvx (fun s => bAf45 E σ p0 0 s) (bXc [1] 1 (bAf45 E σ p0)))) : bK45 E σ := by
  intro p0 h0
  refine ⟨rfl, fun A hA => sq353_0 (bWp_mono _) hA h0 (bWp_mono 11 _ _ _ _ _ (bRvx_m (fun s k => bRn_i (by decide) k) (fun X s k => ?_)) (H p0 h0))⟩
  unfold bXc at k
  by_cases x0 : X = 1
  · subst x0; exact sq353_4 (bWp_mono _) hA (bRn_i (by decide) k)
  rw [if_neg x0] at k
  exact k.elim
def bAf46 (E : bSt → Prop) (σ : bSt) (p0 p1 p2 : Int) (k : Int) (s1 : bSt) : Prop := bMid σ s1 ∧ bWp 12 310 [.ref 12, .int (bn p0), .int (bn p1), .int (bn p2)] s1 (bRn fun b s2 => bi s2 12 0 = k ∧ (k = 0 → bj s2 154 0 = bL b) ∧ E s2)
theorem wk46 (H : ∀ p0 p1 p2 : Int, bRg p0 → bRg p1 → bRg p2 → bWp 11 192 [.ref 11, .int (bn p0), .int (bn p1), .int (bn p2)] σ (bRnx (fun r s => bAf46 E σ p0 p1 p2 0 (bwj s 154 0 (bL r))) (bXc [0] 1 (bAf46 E σ p0 p1 p2)))) : bK46 E σ := by
  intro p0 p1 p2 h0 h1 h2
  refine ⟨rfl, fun A hA => sq354_0 (bWp_mono _) hA h0 h1 h2 (bWp_mono 11 _ _ _ _ _ (bRnx_m (fun r s _ k => bRn_i (by decide) k) (fun X s k => ?_)) (H p0 p1 p2 h0 h1 h2))⟩
  unfold bXc at k
  by_cases x0 : X = 0
  · subst x0; exact sq354_10 (bWp_mono _) hA (bRn_i (by decide) k)
  rw [if_neg x0] at k
  exact k.elim
def bAf47 (E : bSt → Prop) (σ : bSt) (p0 p1 : Int) (k : Int) (s1 : bSt) : Prop := bMid σ s1 ∧ bWp 12 312 [.ref 12, .int (bn p0), .int (bn p1)] s1 (bRn fun b s2 => bi s2 12 0 = k ∧ (k = 0 → bj s2 154 0 = bL b) ∧ E s2)
theorem wk47 (H : ∀ p0 p1 : Int, bRg p0 → bRg p1 → bWp 11 193 [.ref 11, .int (bn p0), .int (bn p1)] σ (bRnx (fun r s => bAf47 E σ p0 p1 0 (bwj s 154 0 (bL r))) (bXc [0] 1 (bAf47 E σ p0 p1)))) : bK47 E σ := by
  intro p0 p1 h0 h1
  refine ⟨rfl, fun A hA => sq355_0 (bWp_mono _) hA h0 h1 (bWp_mono 11 _ _ _ _ _ (bRnx_m (fun r s _ k => bRn_i (by decide) k) (fun X s k => ?_)) (H p0 p1 h0 h1))⟩
  unfold bXc at k
  by_cases x0 : X = 0
  · subst x0; exact sq355_9 (bWp_mono _) hA (bRn_i (by decide) k)
  rw [if_neg x0] at k
  exact k.elim
def bAf48 (E : bSt → Prop) (σ : bSt) (p0 : Int) (k : Int) (s1 : bSt) : Prop := bMid σ s1 ∧ bWp 12 313 [.ref 12, .int (bn p0)] s1 (bRn fun b s2 => bi s2 12 0 = k ∧ (k = 0 → bj s2 154 0 = bL b) ∧ E s2)
theorem wk48 (H : ∀ p0 : Int, bRg p0 → bWp 11 194 [.ref 11, .int (bn p0)] σ (bRnx (fun r s => bAf48 E σ p0 0 (bwj s 154 0 (bL r))) (bXc [0] 1 (bAf48 E σ p0)))) : bK48 E σ := by
  intro p0 h0
  refine ⟨rfl, fun A hA => sq356_0 (bWp_mono _) hA h0 (bWp_mono 11 _ _ _ _ _ (bRnx_m (fun r s _ k => bRn_i (by decide) k) (fun X s k => ?_)) (H p0 h0))⟩
  unfold bXc at k
  by_cases x0 : X = 0
  · subst x0; exact sq356_8 (bWp_mono _) hA (bRn_i (by decide) k)
  rw [if_neg x0] at k
  exact k.elim
end

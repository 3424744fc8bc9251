/-! STATEMENTS: what is kept of them, and the methods of both sides -/
def bTks (k : Int) : Prop := k = 1 ∨ k = 2 ∨ k = 4 ∨ k = 5
def bSok (x k n m o : Int) : Prop := (0 ≤ x ∧ x < 6) ∧ (0 ≤ n ∧ n < 8) ∧ (bTks k → 0 ≤ m ∧ m < 8) ∧ (k = 1 → 0 ≤ o ∧ o < 6)
def bSft (k m o : Int) : Prop := (0 ≤ k ∧ k ≤ 6) ∧ (¬ bTks k → 0 ≤ m ∧ m ≤ if k = 0 then 999 else 0) ∧ (k ≠ 1 → o = 0)
def bStm (k n m o : Int) : Prop := (0 ≤ n ∧ n < 8) ∧ (bTks k → 0 ≤ m ∧ m < 8) ∧ (k = 1 → 0 ≤ o ∧ o < 6) ∧ bSft k m o
def bRs (σ : bSt) : Prop := ∀ x, 0 ≤ x → x < 6 → (bi σ 34 x = bi σ 58 x ∧ 0 ≤ bi σ 58 x ∧ bi σ 58 x ≤ 12) ∧ ∀ i, 0 ≤ i → i < bi σ 58 x →
  (bi σ 35 (12 * x + i) = bi σ 59 (4 * (12 * x + i)) ∧ bi σ 36 (12 * x + i) = bi σ 59 (4 * (12 * x + i) + 1) ∧ bi σ 37 (12 * x + i) = bi σ 59 (4 * (12 * x + i) + 2) ∧ bi σ 38 (12 * x + i) = bi σ 59 (4 * (12 * x + i) + 3)) ∧
  bStm (bi σ 59 (4 * (12 * x + i))) (bi σ 59 (4 * (12 * x + i) + 1)) (bi σ 59 (4 * (12 * x + i) + 2)) (bi σ 59 (4 * (12 * x + i) + 3))
theorem bRs_un {S : List Nat} {F : List Int} {σ s : bSt} (h : bUn S F σ s) (hS : ∀ k ∈ [34, 35, 36, 37, 38, 58, 59], k ∉ S) (k : bRs σ) : bRs s := by
  have e : ∀ a ∈ [34, 35, 36, 37, 38, 58, 59], ∀ i, bi s a i = bi σ a i := fun a ha i => h.1 a (by
    have := hS a ha
    rwa [Nat.mod_eq_of_lt (by simp at ha; omega)]) (by rw [Nat.mod_eq_of_lt (by simp at ha; omega)]; simp at ha; omega) i
  unfold bRs
  simp only [e 34 (by decide), e 35 (by decide), e 36 (by decide), e 37 (by decide), e 38 (by decide), e 58 (by decide), e 59 (by decide)]
  exact k
section
variable {d : Nat} {σ : bSt} {f : Int → bSt → Prop} {g : Nat → bSt → Prop} {x k n m o y : Int}
theorem w91 (h0 : 0 ≤ x ∧ x < 6) (h : f (bi σ 34 x) σ) : bWp (d + 2) 91 [.ref 7, .int (bn x)] σ (bRn f) :=
  ⟨rfl, fun A hA => sq91_0 (bWp_mono _) hA ⟨by omega, by omega⟩ (w140i (n := 6) rfl rfl (by decide) h0.1 h0.2 (bRn_i (bi_rg _ _ _) h))⟩
theorem w94 (h0 : 0 ≤ x ∧ x < 6) (hr : bRg (bi σ 34 x + y)) (hy : bRg y) (h : f (bi σ 34 x + y) (bw (bw σ 34 x (bi σ 34 x + y)) 7 15 (-1))) : bWp (d + 3) 94 [.ref 7, .int (bn x), .int (bn y)] σ (bRn f) := by
  refine ⟨rfl, fun A hA => sq94_0 (bWp_mono _) hA ⟨by omega, by omega⟩ hy (w91 h0 ⟨hr, w141i (n := 6) hr rfl (by decide) rfl (by decide) h0.1 h0.2 (w91 h0 ?_)⟩)⟩
  rw [bi_ne (by decide), bi_eq hr]
  exact bRn_i hr h
/-- the class's statements with one more -/
def bStw (σ : bSt) (x k n m o : Int) : bSt := bw (bw (bw (bw (bw (bw σ 35 (x * 12 + bi σ 34 x) k) 36 (x * 12 + bi σ 34 x) n) 37 (x * 12 + bi σ 34 x) m) 38 (x * 12 + bi σ 34 x) o) 34 x (bi σ 34 x + 1)) 7 15 (-1)
theorem w92 (h0 : 0 ≤ x ∧ x < 6) (hc : 0 ≤ bi σ 34 x ∧ bi σ 34 x < 12) (hk : bRg k) (hn : bRg n) (hm : bRg m) (ho : bRg o) (h : f (bi σ 34 x + 1) (bStw σ x k n m o)) : bWp (d + 4) 92 [.ref 7, .int (bn x), .int (bn k), .int (bn n), .int (bn m), .int (bn o)] σ (bRn f) := by
  refine ⟨rfl, fun A hA => sq92_0 (bWp_mono _) hA ⟨by omega, by omega⟩ hk hn hm ho ⟨⟨by omega, by omega⟩, w91 h0 ⟨⟨by omega, by omega⟩, w141i (n := 72) hk rfl (by decide) rfl (by decide) (by omega) (by omega) (w141i (n := 72) hn rfl (by decide) rfl (by decide) (by omega) (by omega) (w141i (n := 72) hm rfl (by decide) rfl (by decide) (by omega) (by omega) (w141i (n := 72) ho rfl (by decide) rfl (by decide) (by omega) (by omega) (w94 h0 ?_ (by decide) ?_))))⟩⟩⟩
  · rw [bi_ne (by decide), bi_ne (by decide), bi_ne (by decide), bi_ne (by decide)]
    exact ⟨by omega, by omega⟩
  · rw [bi_ne (by decide), bi_ne (by decide), bi_ne (by decide), bi_ne (by decide)]
    exact bRn_i ⟨by omega, by omega⟩ h
theorem w148 (hs : bRs σ) (hd : 6 ≤ d) (hx : bRg x) (hk : bRg k) (hn : bRg n) (hm : bRg m) (ho : bRg o) (h1 : ¬ bSok x k n m o → g 0 (bC σ 1 6)) (h2 : bSok x k n m o → ¬ bSft k m o → g 1 (bC σ 1 6)) (h3 : bSok x k n m o → bSft k m o → bi σ 34 x = 12 → g 2 (bC σ 1 6)) (h0 : bSok x k n m o → bSft k m o → bi σ 34 x < 12 → f (bi σ 34 x + 1) (bStw σ x k n m o)) : bWp (d + 5) 148 [.ref 11, .int (bn x), .int (bn k), .int (bn n), .int (bn m), .int (bn o)] σ (bRnx f g) := by
  refine ⟨rfl, fun A hA => ?_⟩
  have c47 : ∀ v6 : Value, bSok x k n m o → (0 ≤ k ∧ k ≤ 6) → (¬ bTks k → 0 ≤ m ∧ m ≤ if k = 0 then 999 else 0) → A (47, [.ref 11, .int (bn x), .int (bn k), .int (bn n), .int (bn m), .int (bn o), v6], [], σ) := by
    intro v6 hok hk6 hm9
    have hq := hs x hok.1.1 hok.1.2
    have fin : bSft k m o → ((bi σ 34 x < 12 → bWp (d + 4) 139 [.int (bn 1)] σ (bRvx (fun s7 => bWp (d + 4) 92 [.ref 7, .int (bn x), .int (bn k), .int (bn n), .int (bn m), .int (bn o)] s7 (bRn fun r11 s9 => bRnx f g (.inl (some (.int (bn r11)))) s9)) (fun E s7 => bRnx f g (.inr E) s7))) ∧ (¬ bi σ 34 x < 12 → bWp (d + 4) 139 [.int (bn 0)] σ (bRvx (fun s7 => bWp (d + 4) 92 [.ref 7, .int (bn x), .int (bn k), .int (bn n), .int (bn m), .int (bn o)] s7 (bRn fun r11 s9 => bRnx f g (.inl (some (.int (bn r11)))) s9)) (fun E s7 => bRnx f g (.inr E) s7)))) := fun hft =>
      ⟨fun q => w139 (by decide) (by omega) (fun _ => w92 hok.1 ⟨by omega, q⟩ hk hn hm ho (bRnx_i ⟨by omega, by omega⟩ (h0 hok hft q))) (fun w => absurd w (by decide)), fun q => w139 (by decide) (by omega) (fun w => absurd rfl w) (fun _ => h3 hok hft (by omega))⟩
    exact sq148_47 (bWp_mono _) hA hx hk hn hm ho ⟨fun e => w91 hok.1 (fin ⟨hk6, hm9, fun w => absurd e w⟩), fun e => w138 ho (by decide) (by decide) (by omega) (fun q => w91 hok.1 (fin ⟨hk6, hm9, fun _ => by omega⟩)) (fun q => h2 hok fun w => q (by have := w.2.2 e; omega))⟩
  have c21 : ∀ (v6 : Value) (t0 : Int), (t0 = 1 ∧ bTks k ∨ t0 = 0 ∧ ¬ bTks k) → (0 ≤ x ∧ x < 6) → (0 ≤ n ∧ n < 8) → A (21, [.ref 11, .int (bn x), .int (bn k), .int (bn n), .int (bn m), .int (bn o), v6], [.int (bn t0)], σ) := by
    intro v6 t0 ht qx qn
    refine sq148_21 (bWp_mono _) hA hx hk hn hm ho ⟨by omega, by omega⟩ ⟨fun e => ?_, fun e => ?_⟩
    · have nt : ¬ bTks k := by rcases ht with ⟨w, _⟩ | ⟨_, w⟩; omega; exact w
      have e1 : ¬ k = 1 := fun w => nt (Or.inl w)
      have hok : bSok x k n m o := ⟨qx, qn, fun w => absurd w nt, fun w => absurd w e1⟩
      refine bFf e1 (w138 hk (by decide) (by decide) (by omega) (fun qk => bTt e ⟨fun z0 => w138 hm (by decide) (by decide) (by omega) (fun qm => c47 _ hok qk (fun _ => by rw [if_pos z0]; exact qm)) (fun qm => h2 hok fun w => qm (by have := w.2.1 nt; rwa [if_pos z0] at this)), fun z0 => w138 hm (by decide) (by decide) (by omega) (fun qm => c47 _ hok qk (fun _ => by rw [if_neg z0]; exact qm)) (fun qm => h2 hok fun w => qm (by have := w.2.1 nt; rwa [if_neg z0] at this))⟩) (fun qk => h2 hok fun w => qk w.1))
    · have tk : bTks k := by rcases ht with ⟨_, w⟩ | ⟨w, _⟩; exact w; exact absurd w e
      refine w136 hm (by decide) (by omega) (fun qm => ⟨fun e1 => w136 ho (by decide) (by omega) (fun qo => ?_) (fun qo => h1 fun w => qo (w.2.2.2 e1)), fun e1 => ?_⟩) (fun qm => h1 fun w => qm (w.2.2.1 tk))
      · have hok : bSok x k n m o := ⟨qx, qn, fun _ => qm, fun _ => qo⟩
        exact w138 hk (by decide) (by decide) (by omega) (fun qk => bFf e (c47 _ hok qk (fun w => absurd tk w))) (fun qk => h2 hok fun w => qk w.1)
      · have hok : bSok x k n m o := ⟨qx, qn, fun _ => qm, fun w => absurd w e1⟩
        exact w138 hk (by decide) (by decide) (by omega) (fun qk => bFf e (c47 _ hok qk (fun w => absurd tk w))) (fun qk => h2 hok fun w => qk w.1)
  exact sq148_0 (bWp_mono _) hA hx hk hn hm ho (w136 hx (by decide) (by omega) (fun qx => w136 hn (by decide) (by omega) (fun qn => ⟨fun e => c21 _ _ (Or.inl ⟨rfl, Or.inl e⟩) qx qn, fun e1 => ⟨fun e => c21 _ _ (Or.inl ⟨rfl, Or.inr (Or.inl e)⟩) qx qn, fun e2 => ⟨fun e => c21 _ _ (Or.inl ⟨rfl, Or.inr (Or.inr (Or.inl e))⟩) qx qn, fun e4 => ⟨fun e => c21 _ _ (Or.inl ⟨rfl, Or.inr (Or.inr (Or.inr e))⟩) qx qn, fun e5 => c21 _ _ (Or.inr ⟨rfl, fun w => by rcases w with w | w | w | w <;> omega⟩) qx qn⟩⟩⟩⟩) (fun qn => h1 fun w => qn w.2.1)) (fun qx => h1 fun w => qx w.1))
/-- the reference's statements with one more, behind 0 in the refusal -/
def bSrw (σ : bSt) (x k n m o : Int) : bSt := bw (bw (bw (bw (bw (bw σ 12 0 0) 59 (4 * (12 * x + bi σ 58 x)) k) 59 (4 * (12 * x + bi σ 58 x) + 1) n) 59 (4 * (12 * x + bi σ 58 x) + 2) m) 59 (4 * (12 * x + bi σ 58 x) + 3) o) 58 x (bi σ 58 x + 1)
theorem w212 (hc : 0 ≤ x → x < 6 → 0 ≤ bi σ 58 x ∧ bi σ 58 x ≤ 12) (hx : bRg x) (hk : bRg k) (hn : bRg n) (hm : bRg m) (ho : bRg o) (h1 : ¬ bSok x k n m o → f 0 (bw σ 12 0 1)) (h2 : bSok x k n m o → ¬ bSft k m o → f 0 (bw σ 12 0 2)) (h3 : bSok x k n m o → bSft k m o → bi σ 58 x = 12 → f 0 (bw σ 12 0 3)) (h0 : bSok x k n m o → bSft k m o → bi σ 58 x < 12 → f (bi σ 58 x + 1) (bSrw σ x k n m o)) : bWp (d + 3) 212 [.ref 12, .int (bn x), .int (bn k), .int (bn n), .int (bn m), .int (bn o)] σ (bRn f) := by
  refine ⟨rfl, fun A hA => ?_⟩
  have c80 : ∀ (v6 v7 v8 v9 : Value) (t : Int), (t = 0 ∧ bi σ 58 x < 12 ∧ bSok x k n m o ∧ bSft k m o) ∨ (0 < t ∧ t < 4 ∧ f 0 (bw σ 12 0 t)) → A (80, [.ref 12, .int (bn x), .int (bn k), .int (bn n), .int (bn m), .int (bn o), v6, v7, v8, v9], [.int (bn t), .ref 12], σ) := by
    intro v6 v7 v8 v9 t ht
    refine sq212_80 (bWp_mono _) hA hx hk hn hm ho ⟨by omega, by omega⟩ ?_
    rcases ht with ⟨rfl, e, q, q2⟩ | ⟨t0, t1, hf⟩
    · have e58 : bi (bw σ 12 0 0) 58 x = bi σ 58 x := bi_ne (by decide)
      have hcx := hc q.1.1 q.1.2
      have qx := q.1
      refine rY ?_
      rw [e58]
      exact ⟨⟨by omega, by omega⟩, qx, ⟨by omega, by omega⟩, ⟨by omega, by omega⟩, ⟨by omega, by omega⟩, ⟨by omega, by omega⟩, ⟨by omega, by omega⟩, ⟨by omega, by omega⟩, ⟨by omega, by omega⟩, ⟨by omega, by omega⟩, ⟨by omega, by omega⟩, ⟨by omega, by omega⟩, bRn_i ⟨by omega, by omega⟩ (h0 q q2 e)⟩
    · exact rN ⟨by omega, by omega⟩ (by omega) (bRn_i (by decide) hf)
  have n1 : ¬ bSok x k n m o → (0 : Int) < 1 ∧ (1 : Int) < 4 ∧ f 0 (bw σ 12 0 1) := fun q => ⟨by decide, by decide, h1 q⟩
  have n2 : bSok x k n m o → ¬ bSft k m o → (0 : Int) < 2 ∧ (2 : Int) < 4 ∧ f 0 (bw σ 12 0 2) := fun q q2 => ⟨by decide, by decide, h2 q q2⟩
  have c53 : ∀ (v6 v8 v9 : Value) (a : Int), (a = 1 ∧ bSok x k n m o ∨ a = 0 ∧ ¬ bSok x k n m o) → (0 ≤ k ∧ k ≤ 6) → (¬ bTks k → 0 ≤ m ∧ m ≤ if k = 0 then 999 else 0) → A (53, [.ref 12, .int (bn x), .int (bn k), .int (bn n), .int (bn m), .int (bn o), v6, .int (bn a), v8, v9], [], σ) := by
    intro v6 v8 v9 a ha qk qm
    have no : a = 0 → ¬ bSok x k n m o := fun w => by rcases ha with ⟨z, _⟩ | ⟨_, z⟩; omega; exact z
    have yes : ¬ a = 0 → bSok x k n m o := fun w => by rcases ha with ⟨_, z⟩ | ⟨z, _⟩; exact z; exact absurd z w
    have good : ¬ a = 0 → bSft k m o → ((0 ≤ x ∧ x < 6) ∧ ((bi σ 58 x = 12 → A (80, [.ref 12, .int (bn x), .int (bn k), .int (bn n), .int (bn m), .int (bn o), v6, .int (bn a), .int (bn 1), v9], [.int (bn 3), .ref 12], σ)) ∧ (¬ bi σ 58 x = 12 → A (80, [.ref 12, .int (bn x), .int (bn k), .int (bn n), .int (bn m), .int (bn o), v6, .int (bn a), .int (bn 1), v9], [.int (bn 0), .ref 12], σ)))) := fun w q2 =>
      ⟨(yes w).1, fun e => c80 _ _ _ _ _ (Or.inr ⟨by decide, by decide, h3 (yes w) q2 e⟩), fun e => c80 _ _ _ _ _ (Or.inl ⟨rfl, by have := hc (yes w).1.1 (yes w).1.2; omega, yes w, q2⟩)⟩
    refine sq212_53 (bWp_mono _) hA hx hk hn hm ho ⟨by omega, by omega⟩ ⟨fun e => ⟨fun w => c80 _ _ _ _ _ (Or.inr (n1 (no w))), fun w => good w ⟨qk, qm, fun z => absurd e z⟩⟩, fun e => ⟨fun eo => ⟨fun w => c80 _ _ _ _ _ (Or.inr (n1 (no w))), fun w => good w ⟨qk, qm, fun _ => eo⟩⟩, fun eo => ⟨fun w => c80 _ _ _ _ _ (Or.inr (n1 (no w))), fun w => c80 _ _ _ _ _ (Or.inr (n2 (yes w) fun z => eo (z.2.2 e)))⟩⟩⟩
  have c36 : ∀ (v7 v8 v9 : Value) (tk a : Int), (tk = 1 ∧ bTks k ∨ tk = 0 ∧ ¬ bTks k) → (a = 1 ∧ bSok x k n m o ∨ a = 0 ∧ ¬ bSok x k n m o) → A (36, [.ref 12, .int (bn x), .int (bn k), .int (bn n), .int (bn m), .int (bn o), .int (bn tk), v7, v8, v9], [.int (bn a)], σ) := by
    intro v7 v8 v9 tk a htk ha
    have no : a = 0 → ¬ bSok x k n m o := fun w => by rcases ha with ⟨z, _⟩ | ⟨_, z⟩; omega; exact z
    have yes : ¬ a = 0 → bSok x k n m o := fun w => by rcases ha with ⟨_, z⟩ | ⟨z, _⟩; exact z; exact absurd z w
    refine sq212_36 (bWp_mono _) hA hx hk hn hm ho ⟨by omega, by omega⟩ ⟨by omega, by omega⟩ (w199 hk (by decide) (by decide) (fun qk => bFf (by decide) ⟨fun et => ?_, fun et => c53 _ _ _ _ ha qk (fun w => by rcases htk with ⟨_, z⟩ | ⟨z, _⟩; exact absurd z w; exact absurd z et)⟩) (fun qk => bTt rfl ⟨fun w => c80 _ _ _ _ _ (Or.inr (n1 (no w))), fun w => c80 _ _ _ _ _ (Or.inr (n2 (yes w) fun z => qk z.1))⟩))
    have nt : ¬ bTks k := by rcases htk with ⟨z, _⟩ | ⟨_, z⟩; omega; exact z
    exact ⟨fun z0 => w199 hm (by decide) (by decide) (fun qm => bFf (by decide) (c53 _ _ _ _ ha qk (fun _ => by rw [if_pos z0]; exact qm))) (fun qm => bTt rfl ⟨fun w => c80 _ _ _ _ _ (Or.inr (n1 (no w))), fun w => c80 _ _ _ _ _ (Or.inr (n2 (yes w) fun z => qm (by have := z.2.1 nt; rwa [if_pos z0] at this)))⟩), fun z0 => w199 hm (by decide) (by decide) (fun qm => bFf (by decide) (c53 _ _ _ _ ha qk (fun _ => by rw [if_neg z0]; exact qm))) (fun qm => bTt rfl ⟨fun w => c80 _ _ _ _ _ (Or.inr (n1 (no w))), fun w => c80 _ _ _ _ _ (Or.inr (n2 (yes w) fun z => qm (by have := z.2.1 nt; rwa [if_neg z0] at this)))⟩)⟩
  have T1 : bTks k → bWp (d + 2) 210 [.int (bn x)] σ (bRn fun r s1 => (r = 0 → A (36, [.ref 12, .int (bn x), .int (bn k), .int (bn n), .int (bn m), .int (bn o), .int (bn 1), .float 0, .float 0, .float 0], [.int (bn 0)], s1)) ∧ (¬ r = 0 → bWp (d + 2) 211 [.int (bn n)] s1 (bRn fun r9 s7 => (r9 = 0 → A (36, [.ref 12, .int (bn x), .int (bn k), .int (bn n), .int (bn m), .int (bn o), .int (bn 1), .float 0, .float 0, .float 0], [.int (bn 0)], s7)) ∧ (¬ r9 = 0 → bWp (d + 2) 211 [.int (bn m)] s7 (bRn fun r15 s13 => (r15 = 0 → A (36, [.ref 12, .int (bn x), .int (bn k), .int (bn n), .int (bn m), .int (bn o), .int (bn 1), .float 0, .float 0, .float 0], [.int (bn 0)], s13)) ∧ (¬ r15 = 0 → ((k = 1 → bWp (d + 2) 210 [.int (bn o)] s13 (bRn fun r21 s19 => (r21 = 0 → A (36, [.ref 12, .int (bn x), .int (bn k), .int (bn n), .int (bn m), .int (bn o), .int (bn 1), .float 0, .float 0, .float 0], [.int (bn 0)], s19)) ∧ (¬ r21 = 0 → A (36, [.ref 12, .int (bn x), .int (bn k), .int (bn n), .int (bn m), .int (bn o), .int (bn 1), .float 0, .float 0, .float 0], [.int (bn 1)], s19)))) ∧ (¬ k = 1 → A (36, [.ref 12, .int (bn x), .int (bn k), .int (bn n), .int (bn m), .int (bn o), .int (bn 1), .float 0, .float 0, .float 0], [.int (bn 1)], s13))))))))) := fun tk =>
    w210 hx (fun qx => bFf (by decide) (w211 hn (fun qn => bFf (by decide) (w211 hm (fun qm => bFf (by decide) ⟨fun e => w210 ho (fun qo => bFf (by decide) (c36 _ _ _ 1 1 (Or.inl ⟨rfl, tk⟩) (Or.inl ⟨rfl, qx, qn, fun _ => qm, fun _ => qo⟩))) (fun qo => bTt rfl (c36 _ _ _ 1 0 (Or.inl ⟨rfl, tk⟩) (Or.inr ⟨rfl, fun w => qo (w.2.2.2 e)⟩))), fun e => c36 _ _ _ 1 1 (Or.inl ⟨rfl, tk⟩) (Or.inl ⟨rfl, qx, qn, fun _ => qm, fun w => absurd w e⟩)⟩) (fun qm => bTt rfl (c36 _ _ _ 1 0 (Or.inl ⟨rfl, tk⟩) (Or.inr ⟨rfl, fun w => qm (w.2.2.1 tk)⟩))))) (fun qn => bTt rfl (c36 _ _ _ 1 0 (Or.inl ⟨rfl, tk⟩) (Or.inr ⟨rfl, fun w => qn w.2.1⟩))))) (fun qx => bTt rfl (c36 _ _ _ 1 0 (Or.inl ⟨rfl, tk⟩) (Or.inr ⟨rfl, fun w => qx w.1⟩)))
  refine sq212_0 (bWp_mono _) hA hx hk hn hm ho ⟨fun e => T1 (Or.inl e), fun e1 => ⟨fun e => T1 (Or.inr (Or.inl e)), fun e2 => ⟨fun e => T1 (Or.inr (Or.inr (Or.inl e))), fun e4 => ⟨fun e => T1 (Or.inr (Or.inr (Or.inr e))), fun e5 => ?_⟩⟩⟩⟩
  have nt : ¬ bTks k := fun w => by rcases w with w | w | w | w <;> omega
  exact w210 hx (fun qx => bFf (by decide) (w211 hn (fun qn => bFf (by decide) (bFf e1 (c36 _ _ _ 0 1 (Or.inr ⟨rfl, nt⟩) (Or.inl ⟨rfl, qx, qn, fun w => absurd w nt, fun w => absurd w e1⟩)))) (fun qn => bTt rfl (c36 _ _ _ 0 0 (Or.inr ⟨rfl, nt⟩) (Or.inr ⟨rfl, fun w => qn w.2.1⟩))))) (fun qx => bTt rfl (c36 _ _ _ 0 0 (Or.inr ⟨rfl, nt⟩) (Or.inr ⟨rfl, fun w => qx w.1⟩)))
end

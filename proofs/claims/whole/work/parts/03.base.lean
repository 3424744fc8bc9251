/-! WHAT A SEGMENT STANDS ON: one row of the code, the ends of calls -/
abbrev bClosed (lvl : Nat) (M : bM) (C : bCall) (Q : bPost) (A : bPt → Prop) : Prop := ∀ y, bStep lvl M C Q A y → A y
def bMono (C : bCall) : Prop := ∀ (n : Nat) (as : List Value) (σ : bSt) (R R' : bPost), (∀ o s, R o s → R' o s) → C n as σ R → C n as σ R'
theorem bGo {lvl : Nat} {M : bM} {C : bCall} {Q : bPost} {A : bPt → Prop} (hA : bClosed lvl M C Q A) {i : Nat} {L st : List Value} {σ : bSt} (b j : Nat) (e : bE) (hb : i / 16 = b) (hj : i % 16 = j) (he : bnth (bnth M.1 b []) j bNo = e) (h : bW lvl M.2.1 i e A C Q L st σ) : A (i, L, st, σ) := hA _ (by subst hb; subst hj; unfold bStep bRow; rw [he]; exact h)
theorem bOptC {P : Value → Prop} (o : Option Nat) (h0 : o = none → P .null) (h1 : ∀ z, o = some z → P (.ref z)) : P (bOpt o) := by
  cases o with
  | none => exact h0 rfl
  | some z => exact h1 z rfl
def bRv (f : bSt → Prop) : bPost := fun o σ => match o with
  | .inl none => f σ
  | _ => False
def bRi (f : Int32 → bSt → Prop) : bPost := fun o σ => match o with
  | .inl (some (.int r)) => f r σ
  | _ => False
def bRj (f : Int64 → bSt → Prop) : bPost := fun o σ => match o with
  | .inl (some (.long r)) => f r σ
  | _ => False
def bRa (f : Nat → bSt → Prop) : bPost := fun o σ => match o with
  | .inl (some (.ref r)) => f r σ
  | _ => False
def bRvx (f : bSt → Prop) (g : Nat → bSt → Prop) : bPost := fun o σ => match o with
  | .inl none => f σ
  | .inr E => g E σ
  | _ => False
def bRix (f : Int32 → bSt → Prop) (g : Nat → bSt → Prop) : bPost := fun o σ => match o with
  | .inl (some (.int r)) => f r σ
  | .inr E => g E σ
  | _ => False
def bRjx (f : Int64 → bSt → Prop) (g : Nat → bSt → Prop) : bPost := fun o σ => match o with
  | .inl (some (.long r)) => f r σ
  | .inr E => g E σ
  | _ => False
theorem bRv_e {f : bSt → Prop} {R : bPost} (h : ∀ s, f s → R (.inl none) s) : ∀ o s, bRv f o s → R o s := by
  intro o s k
  match o, k with
  | .inl none, k => exact h s k
theorem bRi_e {f : Int32 → bSt → Prop} {R : bPost} (h : ∀ r s, f r s → R (.inl (some (.int r))) s) : ∀ o s, bRi f o s → R o s := by
  intro o s k
  match o, k with
  | .inl (some (.int r)), k => exact h r s k
theorem bRj_e {f : Int64 → bSt → Prop} {R : bPost} (h : ∀ r s, f r s → R (.inl (some (.long r))) s) : ∀ o s, bRj f o s → R o s := by
  intro o s k
  match o, k with
  | .inl (some (.long r)), k => exact h r s k
theorem bRa_e {f : Nat → bSt → Prop} {R : bPost} (h : ∀ r s, f r s → R (.inl (some (.ref r))) s) : ∀ o s, bRa f o s → R o s := by
  intro o s k
  match o, k with
  | .inl (some (.ref r)), k => exact h r s k
theorem bRvx_e {f : bSt → Prop} {g : Nat → bSt → Prop} {R : bPost} (h : ∀ s, f s → R (.inl none) s) (h2 : ∀ E s, g E s → R (.inr E) s) : ∀ o s, bRvx f g o s → R o s := by
  intro o s k
  match o, k with
  | .inl none, k => exact h s k
  | .inr E, k => exact h2 E s k
theorem bRix_e {f : Int32 → bSt → Prop} {g : Nat → bSt → Prop} {R : bPost} (h : ∀ r s, f r s → R (.inl (some (.int r))) s) (h2 : ∀ E s, g E s → R (.inr E) s) : ∀ o s, bRix f g o s → R o s := by
  intro o s k
  match o, k with
  | .inl (some (.int r)), k => exact h r s k
  | .inr E, k => exact h2 E s k
theorem bRjx_e {f : Int64 → bSt → Prop} {g : Nat → bSt → Prop} {R : bPost} (h : ∀ r s, f r s → R (.inl (some (.long r))) s) (h2 : ∀ E s, g E s → R (.inr E) s) : ∀ o s, bRjx f g o s → R o s := by
  intro o s k
  match o, k with
  | .inl (some (.long r)), k => exact h r s k
  | .inr E, k => exact h2 E s k

/-! CODE ROWS, by program out of the claim's listing: kinds of arrays (what they hold, how long, by instance); a method a list of blocks of sixteen rows -/
def bKT : List (Nat × Nat × Nat) := [(9, 0, 0), (9, 0, 0), (9, 0, 0), (9, 0, 0), (9, 0, 0), (9, 0, 0), (9, 0, 0), (9, 0, 0), (9, 0, 0), (9, 0, 0), (9, 0, 0), (9, 0, 0), (9, 0, 0), (0, 40, 0), (14, 24, 16), (1, 1000, 0), (0, 3, 0), (0, 12, 0), (1, 12, 0), (0, 48, 0), (1, 6, 0), (0, 6, 0), (0, 40, 0), (0, 48, 0), (0, 12, 0), (0, 17, 0), (0, 17, 0), (0, 4096, 0), (0, 4096, 0), (0, 4096, 0), (0, 4096, 0), (0, 16, 0), (0, 16, 0), (10, 121, 0), (0, 6, 0), (0, 72, 0), (0, 72, 0), (0, 72, 0), (0, 72, 0), (0, 48, 0), (0, 6, 0), (0, 6, 0), (0, 6, 0), (0, 72, 0), (0, 72, 0), (0, 576, 0), (0, 6, 0), (0, 4, 0), (0, 4, 0), (2, 63, 0), (18, 16, 0), (0, 16, 0), (0, 8, 0), (0, 8, 0), (0, 8, 0), (0, 8, 0), (0, 48, 0), (1, 6, 0), (0, 6, 0), (0, 288, 0), (0, 48, 0), (0, 48, 0), (0, 96, 0), (0, 96, 0), (0, 768, 0), (0, 6, 0), (0, 6, 0), (0, 6, 0), (0, 6, 0), (0, 8, 0), (0, 4, 0), (0, 8, 0), (0, 8, 0), (0, 8, 0), (0, 8, 0), (0, 16, 0), (0, 16, 0), (0, 16, 0), (0, 16, 0), (0, 16, 0), (0, 16, 0), (0, 16, 0), (0, 16, 0), (0, 16, 0), (0, 192, 0), (0, 16, 0), (0, 96, 0), (0, 96, 0), (1, 96, 0), (0, 16, 0), (0, 16, 0), (1, 16, 0), (0, 16, 0), (0, 16, 0), (1, 4096, 0), (0, 4096, 0), (0, 4096, 0), (0, 4096, 0), (0, 4096, 0), (0, 4096, 0), (0, 4096, 0), (0, 120, 0), (0, 120, 0), (0, 120, 0), (0, 120, 0), (0, 120, 0), (0, 4800, 0), (0, 120, 0), (0, 120, 0), (1, 120, 0), (1, 120, 0), (1, 120, 0), (0, 120, 0), (0, 4800, 0), (0, 120, 0), (0, 5760, 0), (0, 64, 0), (0, 64, 0), (0, 64, 0), (0, 64, 0), (0, 48, 0), (0, 80, 0), (0, 80, 0), (0, 80, 0), (0, 80, 0), (0, 80, 0), (0, 3200, 0), (0, 80, 0), (0, 3840, 0), (0, 80, 0), (0, 120, 0), (0, 120, 0), (0, 5760, 0), (1, 120, 0), (1, 1000, 0), (1, 1000, 0), (0, 3, 0), (0, 12, 0), (1, 12, 0), (0, 12, 0), (1, 120, 0), (0, 120, 0), (0, 120, 0), (0, 120, 0), (0, 120, 0), (0, 120, 0), (0, 120, 0), (1, 120, 0), (0, 120, 0), (0, 128, 0), (0, 128, 0), (0, 64, 0), (0, 2048, 0), (0, 16, 0), (2, 1, 0), (9, 0, 0), (9, 0, 0), (9, 0, 0), (9, 0, 0), (9, 0, 0), (9, 0, 0), (9, 0, 0), (9, 0, 0), (9, 0, 0), (9, 0, 0), (9, 0, 0), (9, 0, 0), (9, 0, 0), (9, 0, 0), (9, 0, 0), (9, 0, 0), (9, 0, 0), (9, 0, 0), (9, 0, 0), (9, 0, 0), (9, 0, 0), (9, 0, 0), (9, 0, 0), (9, 0, 0), (9, 0, 0), (9, 0, 0), (9, 0, 0), (9, 0, 0), (9, 0, 0), (9, 0, 0), (9, 0, 0), (9, 0, 0), (9, 0, 0), (9, 0, 0), (9, 0, 0), (9, 0, 0), (9, 0, 0), (9, 0, 0), (9, 0, 0), (9, 0, 0), (9, 0, 0), (9, 0, 0), (9, 0, 0), (9, 0, 0), (9, 0, 0), (0, 0, 0), (0, 6, 0)]
/-! THE ABSTRACT MACHINE: a store of numbers by (object or array, place), a code table, predicates that a run reaches. Nothing of the JVM's heap is in it; part 04 ties it to the machine. -/
abbrev bSt : Type := (Nat → Nat → Int32) × (Nat → Nat → Int64) × (Nat → Nat → Option Nat) × (Nat → Nat) × (Nat × Nat)
/-- a code row: pc, instruction, its length, the next row's number, the branch's row number, numbers, constants and switch rows -/
abbrev bE : Type := Nat × Instr × Nat × Nat × Nat × List Nat × List (Int32 × Nat)
abbrev bPt : Type := Nat × List Value × List Value × bSt
abbrev bOut : Type := Option Value ⊕ Nat
abbrev bPost : Type := bOut → bSt → Prop
abbrev bCall : Type := Nat → List Value → bSt → bPost → Prop
def bU {α : Type} (f : Nat → Nat → α) (a k : Nat) (x : α) : Nat → Nat → α := fun a' k' => if a' = a ∧ k' = k then x else f a' k'
def bZ {α : Type} (f : Nat → Nat → α) (a : Nat) (x : α) : Nat → Nat → α := fun a' k' => if a' = a then x else f a' k'
def bF (f : Nat → Nat) (a x : Nat) : Nat → Nat := fun a' => if a' = a then x else f a'
def bI (σ : bSt) (a k : Nat) (x : Int32) : bSt := (bU σ.1 a k x, σ.2)
def bJ (σ : bSt) (a k : Nat) (x : Int64) : bSt := (σ.1, bU σ.2.1 a k x, σ.2.2)
def bR (σ : bSt) (a k : Nat) (x : Option Nat) : bSt := (σ.1, σ.2.1, bU σ.2.2.1 a k x, σ.2.2.2)
def bA (σ : bSt) (a x : Nat) : bSt := (σ.1, σ.2.1, σ.2.2.1, bF σ.2.2.2.1 a x, σ.2.2.2.2)
def bC (σ : bSt) (c s : Nat) : bSt := (σ.1, σ.2.1, σ.2.2.1, σ.2.2.2.1, (σ.2.2.2.2.1 + c, σ.2.2.2.2.2 + s))
/-- a new object or array of n slots at the number a, with the mark x -/
def bNew (σ : bSt) (a x n : Nat) : bSt := (bZ σ.1 a 0, bZ σ.2.1 a 0, bZ σ.2.2.1 a none, bF σ.2.2.2.1 a x, (σ.2.2.2.2.1 + 1, σ.2.2.2.2.2 + n))
abbrev bnth {α : Type} : List α → Nat → α → α
  | [], _, d => d
  | a :: _, 0, _ => a
  | _ :: l, n + 1, d => bnth l n d
abbrev bSet : List Value → Nat → Value → List Value
  | [], _, _ => []
  | _ :: l, 0, v => v :: l
  | a :: l, n + 1, v => a :: bSet l n v
abbrev bUnl : Value → Value
  | .long _ => .float 0
  | v => v
/-- a long that begins one place ahead of n is spoilt -/
abbrev bClr : List Value → Nat → List Value
  | [], _ => []
  | a :: l, 0 => a :: l
  | a :: l, 1 => bUnl a :: l
  | a :: l, n + 2 => a :: bClr l (n + 1)
abbrev bSt1 (L : List Value) (n : Nat) (v : Value) : List Value := bSet (bClr L n) n v
abbrev bSt2 (L : List Value) (n : Nat) (v : Value) : List Value := bSet (bSet (bClr L n) n v) (n + 1) (.float 0)
abbrev bTk : Nat → List Value → List Value → Option (List Value × List Value)
  | 0, st, acc => some (acc, st)
  | _ + 1, [], _ => none
  | n + 1, v :: st, acc => bTk n st (v :: acc)
abbrev bOkv : Value → Bool
  | .int _ => true
  | .long _ => true
  | .null => true
  | .ref _ => true
  | _ => false
abbrev bOkA : List Value → Bool
  | [] => true
  | v :: l => bOkv v && bOkA l
abbrev bCat : List Value → Nat
  | [] => 0
  | .long _ :: l => 2 + bCat l
  | .double _ :: l => 2 + bCat l
  | _ :: l => 1 + bCat l
abbrev bX (e : bE) : Nat := bnth e.2.2.2.2.2.1 0 0
abbrev bKst (e : bE) : Int32 := match e.2.2.2.2.2.2 with
  | q :: _ => q.1
  | [] => 0
abbrev bSw (x : Int32) (f : Nat → Prop) (d : Nat) : List (Int32 × Nat) → Prop
  | [] => f d
  | q :: l => (x = q.1 → f q.2) ∧ (¬ x = q.1 → bSw x f d l)
abbrev bBr (c : Prop) (t f : Prop) : Prop := (c → t) ∧ (¬ c → f)
abbrev bI1 (st : List Value) (f : Int32 → List Value → Prop) : Prop := match st with
  | .int x :: r => f x r
  | _ => False
abbrev bI2 (st : List Value) (f : Int32 → Int32 → List Value → Prop) : Prop := match st with
  | .int y :: .int x :: r => f x y r
  | _ => False
abbrev bJ2 (st : List Value) (f : Int64 → Int64 → List Value → Prop) : Prop := match st with
  | .long y :: .long x :: r => f x y r
  | _ => False
abbrev bJI (st : List Value) (f : Int64 → Int32 → List Value → Prop) : Prop := match st with
  | .int y :: .long x :: r => f x y r
  | _ => False
abbrev bLd (tag : Nat) (L : List Value) (n : Nat) (f : Value → Prop) : Prop := match bnth L n (.float 0), tag with
  | .int x, 0 => f (.int x)
  | .long x, 1 => f (.long x)
  | .ref x, 2 => f (.ref x)
  | .null, 2 => f .null
  | .retAddr x, 2 => f (.retAddr x)
  | _, _ => False
abbrev bStA (st : List Value) (f : Value → List Value → Prop) : Prop := match st with
  | .ref x :: r => f (.ref x) r
  | .null :: r => f .null r
  | .float x :: r => f (.float x) r
  | _ => False
abbrev bStJ (st : List Value) (f : Int64 → List Value → Prop) : Prop := match st with
  | .long x :: r => f x r
  | _ => False
/-- the store's tables: kind of an array: what it holds, its length (of a cache's entries by the instance); objects: 9 -/
def bScr : Nat := 200
def bTy (id : Nat) : Nat := (bnth bKT (id % 256) (9, 0, 0)).1
def bLen (σ : bSt) (id : Nat) : Nat := bif Nat.beq id bScr then (σ.2.1 bScr 0).toInt.toNat else (bnth bKT (id % 256) (9, 0, 0)).2.1 + (bnth bKT (id % 256) (9, 0, 0)).2.2 * (id / 256)
abbrev bOpt : Option Nat → Value
  | none => .null
  | some a => .ref a
abbrev bAtK (L : List Value) (f : Nat → Prop) : Prop := match L with
  | .ref a :: _ => f a
  | .retAddr a :: _ => f a
  | _ => False
/-- an array of the kind t below an index -/
abbrev bIx (t : Nat) (σ : bSt) (st : List Value) (f : Nat → Int32 → List Value → Prop) : Prop := match st with
  | .int i :: .ref a :: r => bTy a = t ∧ vp_in i (bLen σ a) ∧ f a i r
  | _ => False
abbrev bIxS (t : Nat) (σ : bSt) (st : List Value) (f : Nat → Int32 → Value → List Value → Prop) : Prop := match st with
  | v :: .int i :: .ref a :: r => bTy a = t ∧ vp_in i (bLen σ a) ∧ a % 256 < 200 ∧ f a i v r
  | _ => False
abbrev bIsI (v : Value) (f : Int32 → Prop) : Prop := match v with
  | .int x => f x
  | _ => False
abbrev bIsJ (v : Value) (f : Int64 → Prop) : Prop := match v with
  | .long x => f x
  | _ => False
abbrev bIsA (v : Value) (f : Option Nat → Prop) : Prop := match v with
  | .ref a => f (some a)
  | .null => f none
  | _ => False
abbrev bGet (aux : List Nat) (σ : bSt) (st : List Value) (f : List Value → Prop) : Prop := match aux, st with
  | [ci, k, 0, _, _, _], .ref a :: r => a % 256 = ci ∧ f (.int (σ.1 a k) :: r)
  | [ci, k, 1, _, _, _], .ref a :: r => a % 256 = ci ∧ f (.int (σ.1 a k) :: r)
  | [ci, k, 2, _, _, _], .ref a :: r => a % 256 = ci ∧ f (.long (σ.2.1 a k) :: r)
  | [ci, _, 3, kd, x, y], .ref a :: r => a % 256 = ci ∧ f (.ref (256 * (x * (a / 256) + y) + kd) :: r)
  | [ci, k, 3, kd, x, y], .retAddr a :: r => a % 256 = ci ∧ (σ.2.2.1 a k).isSome = true ∧ f (.ref (256 * (x * (a / 256) + y) + kd) :: r)
  | _, _ => False
abbrev bPut (aux : List Nat) (σ : bSt) (st : List Value) (f : List Value → bSt → Prop) : Prop := match aux, st with
  | [ci, k, 0, _, _, _], .int x :: .ref a :: r => a % 256 = ci ∧ f r (bI σ a k x)
  | [ci, k, 0, _, _, _], .int x :: .retAddr a :: r => a % 256 = ci ∧ f r (bI σ a k x)
  | [ci, k, 1, _, _, _], .int x :: .ref a :: r => a % 256 = ci ∧ (x = 0 ∨ x = 1) ∧ f r (bI σ a k x)
  | [ci, k, 1, _, _, _], .int x :: .retAddr a :: r => a % 256 = ci ∧ (x = 0 ∨ x = 1) ∧ f r (bI σ a k x)
  | [ci, k, 2, _, _, _], .long x :: .ref a :: r => a % 256 = ci ∧ f r (bJ σ a k x)
  | [ci, k, 2, _, _, _], .long x :: .retAddr a :: r => a % 256 = ci ∧ f r (bJ σ a k x)
  | [ci, k, 3, kd, x, y], .ref c :: .retAddr a :: r => a % 256 = ci ∧ c = 256 * (x * (a / 256) + y) + kd ∧ f r (bR σ a k (some c))
  | _, _ => False
abbrev bNewO (lvl : Nat) (aux : List Nat) (σ : bSt) (L st : List Value) (f : Nat → bSt → Prop) (Q : bPost) : Prop := match aux with
  | [0, ci, n, x, y] => bAtK L fun a => (fun id : Nat => σ.2.2.2.1 id = 0 ∧ f id (bNew σ id 1 n)) (256 * (x * (a / 256) + y) + ci)
  | [2, ci, n, x, y] => (fun id : Nat => σ.2.2.2.1 id = 0 ∧ f id (bNew σ id 1 n)) (256 * ((σ.1 x y).toInt.toNat + 1) + ci)
  | [3, ci, n, _, _] => (fun id : Nat => σ.2.2.2.1 id = 0 ∧ f id (bNew σ id 1 n)) (256 * (1000 + σ.2.2.2.2.1) + ci)
  | [1, E, _, _, _] => Nat.ble (bCat st) 8 = true ∧ 7 ≤ lvl ∧ Q (.inr E) (bC σ 1 6)
  | _ => False
abbrev bNewA (aux : List Nat) (σ : bSt) (L st : List Value) (f : List Value → bSt → Prop) : Prop := match st with
  | .int n :: r => bAtK L fun a => (fun id : Nat => σ.2.2.2.1 id = 0 ∧ n = Int32.ofNat (bLen σ id) ∧ id % 256 < 200 ∧ bLen σ id ≤ 10000 ∧ f (.ref id :: r) (bNew σ id 2 (bLen σ id))) (256 * (1 * (a / 256) + 0) + bnth aux 0 0)
  | _ => False
abbrev bHnd (X : List (Nat × Nat × Nat × Nat)) (i E : Nat) : Option Nat := match X with
  | [] => none
  | q :: l => bif Nat.ble q.1 i && Nat.blt i q.2.1 && Nat.beq q.2.2.2 E then some q.2.2.1 else bHnd l i E
/-- how a run goes on behind a call -/
abbrev bRet (X : List (Nat × Nat × Nat × Nat)) (i : Nat) (f : Option Value → bSt → Prop) (g : Nat → bSt → Prop) (Q : bPost) : bPost := fun o σ => match o with
  | .inl v => f v σ
  | .inr E => match bHnd X i E with
    | some h => g h σ
    | none => Q (.inr E) σ
abbrev bInv (X : List (Nat × Nat × Nat × Nat)) (i nxt : Nat) (aux : List Nat) (K : bPt → Prop) (C : bCall) (Q : bPost) (L st : List Value) (σ : bSt) : Prop := match aux with
  | [6, _, _] => (match st with
    | .retAddr _ :: r => Nat.ble (bCat r) 8 = true ∧ K (nxt, L, r, σ)
    | _ => False)
  | [7, _, _] => (match st with
    | .int n :: .int d :: .ref b :: .int s :: .ref a :: r => Nat.ble (bCat r) 8 = true ∧ bTy a = 0 ∧ bTy b = 0 ∧ ¬ a = b ∧ b % 256 < 200 ∧ 0 ≤ n.toInt ∧ 0 ≤ s.toInt ∧ 0 ≤ d.toInt ∧ s.toInt + n.toInt ≤ (bLen σ a : Int) ∧ d.toInt + n.toInt ≤ (bLen σ b : Int) ∧
        K (nxt, L, r, (fun a' k' => if a' = b ∧ d.toInt.toNat ≤ k' ∧ k' < d.toInt.toNat + n.toInt.toNat then σ.1 a (s.toInt.toNat + (k' - d.toInt.toNat)) else σ.1 a' k', σ.2))
    | _ => False)
  | [0, ci, mi, n] => (match bTk (n + 1) st [] with
    | some (.ref a :: as, r) => a % 256 = ci ∧ (match bOkA as && Nat.ble (bCat r) 8 with
      | true => C mi (.ref a :: as) σ (bRet X i (fun v σ' => K (nxt, L, v.toList ++ r, σ')) (fun h σ' => K (h, L, [.float 0], σ')) Q)
      | false => False)
    | _ => False)
  | [2, mi, n] => (match bTk n st [] with
    | some (as, r) => (match bOkA as && Nat.ble (bCat r) 8 with
      | true => C mi as σ (bRet X i (fun v σ' => K (nxt, L, v.toList ++ r, σ')) (fun h σ' => K (h, L, [.float 0], σ')) Q)
      | false => False)
    | none => False)
  | [4, ci, mi, n] => (match bTk (n + 1) st [] with
    | some (.retAddr a :: as, .retAddr b :: r) => a % 256 = ci ∧ b = a ∧ (match bOkA as && Nat.ble (bCat r) 7 with
      | true => C mi (.retAddr a :: as) σ (bRet X i (fun v σ' => (v = none ∧ σ'.2.2.2.1 b = 2) ∧ K (nxt, L, .ref b :: r, σ')) (fun h σ' => K (h, L, [.float 0], σ')) Q)
      | false => False)
    | _ => False)
  | _ => False
/-- the end of a constructor: each field that holds an object holds it -/
abbrev bAll (σ : bSt) (a : Nat) : List Nat → Prop
  | [] => True
  | k :: l => (σ.2.2.1 a k).isSome = true ∧ bAll σ a l
abbrev bEnd (aux : List Nat) (Q : bPost) (L st : List Value) (σ : bSt) : Prop := match aux, st with
  | [0], [] => Q (.inl none) σ
  | [1], [.int x] => Q (.inl (some (.int x))) σ
  | [2], [.int x] => (x = 0 ∨ x = 1) ∧ Q (.inl (some (.int x))) σ
  | [3], [.long x] => Q (.inl (some (.long x))) σ
  | [4], [.ref a] => Q (.inl (some (.ref a))) σ
  | [4], [.null] => Q (.inl (some .null)) σ
  | 5 :: kd :: ks, [] => (match L with
    | .retAddr a :: _ => a % 256 = kd ∧ bAll σ a ks ∧ Q (.inl none) (bA σ a 2)
    | _ => False)
  | _, _ => False
/-- one instruction: what must hold ahead of it for K at the next points, Q at the end -/
abbrev bW (lvl : Nat) (X : List (Nat × Nat × Nat × Nat)) (i : Nat) (e : bE) (K : bPt → Prop) (C : bCall) (Q : bPost) (L st : List Value) (σ : bSt) : Prop :=
  match e with
  | (_, ins, _, nxt, tgt, aux, sw) =>
  match ins with
  | .iload _ => bLd 0 L (bnth aux 0 0) fun v => K (nxt, L, v :: st, σ)
  | .iload_n _ => bLd 0 L (bnth aux 0 0) fun v => K (nxt, L, v :: st, σ)
  | .lload _ => bLd 1 L (bnth aux 0 0) fun v => K (nxt, L, v :: st, σ)
  | .lload_n _ => bLd 1 L (bnth aux 0 0) fun v => K (nxt, L, v :: st, σ)
  | .aload _ => bLd 2 L (bnth aux 0 0) fun v => K (nxt, L, v :: st, σ)
  | .aload_n _ => bLd 2 L (bnth aux 0 0) fun v => K (nxt, L, v :: st, σ)
  | .istore _ => bI1 st fun x r => K (nxt, bSt1 L (bnth aux 0 0) (.int x), r, σ)
  | .istore_n _ => bI1 st fun x r => K (nxt, bSt1 L (bnth aux 0 0) (.int x), r, σ)
  | .lstore _ => bStJ st fun x r => K (nxt, bSt2 L (bnth aux 0 0) (.long x), r, σ)
  | .lstore_n _ => bStJ st fun x r => K (nxt, bSt2 L (bnth aux 0 0) (.long x), r, σ)
  | .astore _ => bStA st fun v r => K (nxt, bSt1 L (bnth aux 0 0) v, r, σ)
  | .astore_n _ => bStA st fun v r => K (nxt, bSt1 L (bnth aux 0 0) v, r, σ)
  | .iconst _ => K (nxt, L, .int (bnth sw 0 (0, 0)).1 :: st, σ)
  | .bipush _ => K (nxt, L, .int (bnth sw 0 (0, 0)).1 :: st, σ)
  | .sipush _ => K (nxt, L, .int (bnth sw 0 (0, 0)).1 :: st, σ)
  | .ldc _ => K (nxt, L, .int (bnth sw 0 (0, 0)).1 :: st, σ)
  | .ldc_w _ => K (nxt, L, .int (bnth sw 0 (0, 0)).1 :: st, σ)
  | .lconst _ => K (nxt, L, .long (Int64.ofNat (bnth aux 0 0)) :: st, σ)
  | .ldc2_w _ => K (nxt, L, .long (Int64.ofNat (bnth aux 0 0)) :: st, σ)
  | .aconst_null => K (nxt, L, .null :: st, σ)
  | .iadd => bI2 st fun x y r => K (nxt, L, .int (x + y) :: r, σ)
  | .isub => bI2 st fun x y r => K (nxt, L, .int (x - y) :: r, σ)
  | .imul => bI2 st fun x y r => K (nxt, L, .int (x * y) :: r, σ)
  | .iand => bI2 st fun x y r => K (nxt, L, .int (x &&& y) :: r, σ)
  | .ior => bI2 st fun x y r => K (nxt, L, .int (x ||| y) :: r, σ)
  | .ixor => bI2 st fun x y r => K (nxt, L, .int (x ^^^ y) :: r, σ)
  | .ishl => bI2 st fun x y r => K (nxt, L, .int (x <<< (y &&& 31)) :: r, σ)
  | .ishr => bI2 st fun x y r => K (nxt, L, .int (x >>> (y &&& 31)) :: r, σ)
  | .idiv => bI2 st fun x y r => ¬ y = 0 ∧ K (nxt, L, .int (x / y) :: r, σ)
  | .irem => bI2 st fun x y r => ¬ y = 0 ∧ K (nxt, L, .int (x - x / y * y) :: r, σ)
  | .iinc _ _ => bLd 0 L (bnth aux 0 0) fun v => bIsI v fun x => K (nxt, bSt1 L (bnth aux 0 0) (.int (x + (bnth sw 0 (0, 0)).1)), st, σ)
  | .ladd => bJ2 st fun x y r => K (nxt, L, .long (x + y) :: r, σ)
  | .lsub => bJ2 st fun x y r => K (nxt, L, .long (x - y) :: r, σ)
  | .lmul => bJ2 st fun x y r => K (nxt, L, .long (x * y) :: r, σ)
  | .land => bJ2 st fun x y r => K (nxt, L, .long (x &&& y) :: r, σ)
  | .lor => bJ2 st fun x y r => K (nxt, L, .long (x ||| y) :: r, σ)
  | .ldiv => bJ2 st fun x y r => ¬ y = 0 ∧ K (nxt, L, .long (x / y) :: r, σ)
  | .lrem => bJ2 st fun x y r => ¬ y = 0 ∧ K (nxt, L, .long (x - x / y * y) :: r, σ)
  | .lshl => bJI st fun x y r => K (nxt, L, .long (x <<< (y.toInt64 &&& 63)) :: r, σ)
  | .lshr => bJI st fun x y r => K (nxt, L, .long (x >>> (y.toInt64 &&& 63)) :: r, σ)
  | .lushr => bJI st fun x y r => K (nxt, L, .long (x.toUInt64 >>> (y.toInt64.toUInt64 &&& Int64.toUInt64 63)).toInt64 :: r, σ)
  | .lcmp => bJ2 st fun x y r => K (nxt, L, .int (lg_cmp x y) :: r, σ)
  | .i2l => bI1 st fun x r => K (nxt, L, .long x.toInt64 :: r, σ)
  | .l2i => bStJ st fun x r => K (nxt, L, .int x.toInt32 :: r, σ)
  | .dup => (match st with
    | v :: r => (match v with
      | .int x => K (nxt, L, .int x :: .int x :: r, σ)
      | .ref x => K (nxt, L, .ref x :: .ref x :: r, σ)
      | .retAddr x => K (nxt, L, .retAddr x :: .retAddr x :: r, σ)
      | _ => False)
    | _ => False)
  | .dup2 => (match st with
    | .int x :: .ref y :: r => K (nxt, L, .int x :: .ref y :: .int x :: .ref y :: r, σ)
    | _ => False)
  | .pop => (match st with
    | .int _ :: r => K (nxt, L, r, σ)
    | _ => False)
  | .ifCond c _ => bI1 st fun x r => (match c with
    | .eq => bBr (x = 0) (K (tgt, L, r, σ)) (K (nxt, L, r, σ))
    | .ne => bBr (x = 0) (K (nxt, L, r, σ)) (K (tgt, L, r, σ))
    | .lt => bBr (x < 0) (K (tgt, L, r, σ)) (K (nxt, L, r, σ))
    | .ge => bBr (x < 0) (K (nxt, L, r, σ)) (K (tgt, L, r, σ))
    | .gt => bBr (0 < x) (K (tgt, L, r, σ)) (K (nxt, L, r, σ))
    | .le => bBr (0 < x) (K (nxt, L, r, σ)) (K (tgt, L, r, σ)))
  | .if_icmp c _ => bI2 st fun x y r => (match c with
    | .eq => bBr (x = y) (K (tgt, L, r, σ)) (K (nxt, L, r, σ))
    | .ne => bBr (x = y) (K (nxt, L, r, σ)) (K (tgt, L, r, σ))
    | .lt => bBr (x < y) (K (tgt, L, r, σ)) (K (nxt, L, r, σ))
    | .ge => bBr (x < y) (K (nxt, L, r, σ)) (K (tgt, L, r, σ))
    | .gt => bBr (y < x) (K (tgt, L, r, σ)) (K (nxt, L, r, σ))
    | .le => bBr (y < x) (K (nxt, L, r, σ)) (K (tgt, L, r, σ)))
  | .ifnull _ => (match st with
    | .ref _ :: r => K (nxt, L, r, σ)
    | .null :: r => K (tgt, L, r, σ)
    | _ => False)
  | .ifnonnull _ => (match st with
    | .ref _ :: r => K (tgt, L, r, σ)
    | .null :: r => K (nxt, L, r, σ)
    | _ => False)
  | .goto _ => K (tgt, L, st, σ)
  | .tableswitch _ _ _ _ => bI1 st fun x r => bSw x (fun t => K (t, L, r, σ)) tgt sw
  | .arraylength => (match st with
    | .ref a :: r => ¬ bTy a = 9 ∧ K (nxt, L, .int (Int32.ofNat (bLen σ a)) :: r, σ)
    | _ => False)
  | .iaload => bIx 0 σ st fun a x r => K (nxt, L, .int (σ.1 a x.toNatClampNeg) :: r, σ)
  | .baload => bIx 1 σ st fun a x r => K (nxt, L, .int (σ.1 a x.toNatClampNeg) :: r, σ)
  | .laload => bIx 2 σ st fun a x r => K (nxt, L, .long (σ.2.1 a x.toNatClampNeg) :: r, σ)
  | .aaload => bIx (bnth aux 0 0) σ st fun a x r => K (nxt, L, bOpt (σ.2.2.1 a x.toNatClampNeg) :: r, σ)
  | .iastore => bIxS 0 σ st fun a x v r => bIsI v fun y => K (nxt, L, r, bI σ a x.toNatClampNeg y)
  | .bastore => bIxS 1 σ st fun a x v r => bIsI v fun y => (y = 0 ∨ y = 1) ∧ K (nxt, L, r, bI σ a x.toNatClampNeg y)
  | .lastore => bIxS 2 σ st fun a x v r => bIsJ v fun y => K (nxt, L, r, bJ σ a x.toNatClampNeg y)
  | .aastore => bIxS (bnth aux 0 0) σ st fun a x v r => bIsA v fun y => (∀ z, y = some z → z % 256 = bnth aux 1 0) ∧ K (nxt, L, r, bR σ a x.toNatClampNeg y)
  | .getfield _ => bGet aux σ st fun r => K (nxt, L, r, σ)
  | .getstatic _ => K (nxt, L, .ref (bnth aux 0 0) :: st, σ)
  | .putfield _ => bPut aux σ st fun r σ' => K (nxt, L, r, σ')
  | .new _ => bNewO lvl aux σ L st (fun id σ' => K (nxt, L, .retAddr id :: st, σ')) Q
  | .newarray _ => bNewA aux σ L st fun r σ' => K (nxt, L, r, σ')
  | .anewarray _ => bNewA aux σ L st fun r σ' => K (nxt, L, r, σ')
  | .invokevirtual _ => bInv X i nxt aux K C Q L st σ
  | .invokestatic _ => bInv X i nxt aux K C Q L st σ
  | .invokespecial _ => bInv X i nxt aux K C Q L st σ
  | .return_ => bEnd aux Q L st σ
  | .ireturn => bEnd aux Q L st σ
  | .lreturn => bEnd aux Q L st σ
  | .areturn => bEnd aux Q L st σ
  | _ => False
/-- a method: its rows in blocks of sixteen, its handlers, how many locals -/
abbrev bM : Type := List (List bE) × List (Nat × Nat × Nat × Nat) × Nat
abbrev bNo : bE := (0, .nop, 0, 0, 0, [], [])
abbrev bRow (M : bM) (i : Nat) : bE := bnth (bnth M.1 (i / 16) []) (i % 16) bNo
abbrev bStep (lvl : Nat) (M : bM) (C : bCall) (Q : bPost) (K : bPt → Prop) (y : bPt) : Prop :=
  bW lvl M.2.1 y.1 (bRow M y.1) K C Q y.2.1 y.2.2.1 y.2.2.2
/-- a run from y ends in Q -/
def bAt (lvl : Nat) (M : bM) (C : bCall) (Q : bPost) (x : bPt) : Prop :=
  ∀ P : bPt → Prop, (∀ y, bStep lvl M C Q P y → P y) → P x
abbrev bEnt : Nat → List Value → List Value
  | n, [] => List.replicate n (.float 0)
  | n, .long x :: as => .long x :: .float 0 :: bEnt (n - 2) as
  | n, v :: as => v :: bEnt (n - 1) as

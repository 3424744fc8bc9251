/-! BUILD, 3: the model: how time passes -/
abbrev bzG (Z : bZs) (a : Int) : Prop := Z.1 140 a ≠ 0 ∧ Z.1 143 a ≠ -1 ∧ Z.1 142 a = -1
abbrev bzD (Z : bZs) (a : Int) : Prop := 0 ≤ Z.1 142 a ∧ Z.1 142 a ≤ 4
/-- it becomes what it becomes, now -/
def bzE (Z : bZs) (a st : Int) : bZs := zw (zw Z 142 a st) 144 a (Z.1 305 0)
/-- it is kept -/
def bzH (Z : bZs) (a : Int) (K : bKy) : bZs := ((zw Z 112 a (bKv K)).1, Z.2.1, Z.2.2.1, fun b => if b = a then some K else Z.2.2.2 b)
def bzRm (L : List bKy) (K : bKy) : List bKy := L.filter (fun y => !decide (y = K))
def bzPut (n : Nat) (L : List bKy) (K : bKy) : List bKy := if K ∉ L ∧ L.length = n then L.tail ++ [K] else bzRm L K ++ [K]
def bzPn (Z : bZs) (K : bKy) : bZs := (Z.1, bzPut 24 Z.2.1 K, Z.2.2)
def bzPf (Z : bZs) (K : bKy) : bZs := (Z.1, Z.2.1, bzPut 40 Z.2.2.1 K, Z.2.2.2)
/-- a run leaves its worker -/
def bzLv (Z : bZs) (a v : Int) : bZs := if Z.1 148 a = -1 then Z else zw (zw (zw Z 138 (Z.1 148 a) 0) 137 (Z.1 148 a) v) 148 a (-1)
/-- it is done, and its entry near -/
def bzDn (Z : bZs) (a st : Int) (K : bKy) : bZs := bzPn (bzH (bzE Z a st) a K) K
/-- a run has ended with a content -/
def bzRn (σ : bSt) (Z : bZs) (a h x : Int) (K : bKy) : bZs :=
  if bi σ 12 87 ≠ 0 ∧ x = 0 then (if h = 1 then zw (zw (bzPf (bzDn Z a 3 K) K) 135 (bKv K) 1) 134 (bKv K) 1 else zw (bzPf (bzDn Z a 4 K) K) 135 (bKv K) 1)
  else if h = 1 then zw (bzDn Z a 3 K) 134 (bKv K) 1 else bzDn Z a 4 K
/-- a run has failed -/
def bzFl (g : Int) (Z : bZs) (a : Int) : bZs :=
  if g = 0 then zw (if Z.1 395 0 = -1 then zw (bzE Z a 5) 395 0 a else bzE Z a 5) 306 0 1 else if Z.1 395 0 = -1 then zw (bzE Z a 5) 395 0 a else bzE Z a 5
/-- a run leaves, and what it looked at is counted -/
def bzQ (σ : bSt) (Z : bZs) (a v : Int) : bZs := zw (bzLv Z a v) 139 11 (Z.1 139 11 + bzX σ Z a)
def bzFin (σ : bSt) (g : Int) (Z : bZs) (a : Int) : bZs :=
  if Z.1 147 a ≠ 0 then bzDn Z a 2 (bzK σ Z a)
  else if Z.1 145 a = Z.1 305 0 then (if bzV σ Z a = -1 then bzFl g (bzQ σ Z a (Z.1 103 a)) a else bzRn σ (bzQ σ Z a (Z.1 103 a)) a 1 (bzX σ Z a) (bzK σ Z a))
  else if bzV σ Z a = -1 then bzFl g (bzQ σ Z a (-1)) a else bzRn σ (bzQ σ Z a (-1)) a 0 (bzX σ Z a) (bzK σ Z a)
/-- those that end now, of the first actions -/
def bzEnds (σ : bSt) (g : Int) : Nat → bZs → bZs
  | 0, Z => Z
  | k + 1, Z => if bzG (bzEnds σ g k Z) k ∧ ((bzEnds σ g k Z).1 145 k = (bzEnds σ g k Z).1 305 0 ∨ (bzEnds σ g k Z).1 146 k = (bzEnds σ g k Z).1 305 0) then bzFin σ g (bzEnds σ g k Z) k else bzEnds σ g k Z
/-- the rest is cancelled -/
def bzCcl : Nat → bZs → bZs
  | 0, Z => Z
  | k + 1, Z => if bzG (bzCcl k Z) k then bzE (bzLv (bzCcl k Z) k (-1)) k 7 else bzCcl k Z
/-- all inputs but those behind the first n are files or done -/
def bzIn (Z : bZs) (a : Int) : Nat → Bool
  | 0 => true
  | k + 1 => bzIn Z a k && decide (Z.1 106 (40 * a + k) < 48 ∨ bzD Z (Z.1 106 (40 * a + k) - 100))
abbrev bzRd (Z : bZs) (a : Int) : Prop := Z.1 140 a ≠ 0 ∧ Z.1 143 a = -1 ∧ bzIn Z a (Z.1 105 a).toNat = true
/-- the first worker of m from w on that is free (and warm for v) -/
def bzFr (Z : bZs) : Nat → Int → Int
  | 0, _ => -1
  | m + 1, w => if Z.1 138 w = 0 then w else bzFr Z m (w + 1)
def bzWm (Z : bZs) (v : Int) : Nat → Int → Int
  | 0, _ => -1
  | m + 1, w => if Z.1 138 w = 0 ∧ Z.1 137 w = v then w else bzWm Z v m (w + 1)
def bzKd (σ : bSt) (Z : bZs) (a : Int) : Int := bi σ 89 (Z.1 107 a)
def bzDu (σ : bSt) (Z : bZs) (a : Int) : Int := bi σ 90 (Z.1 107 a)
abbrev bzBo (σ : bSt) (Z : bZs) (a : Int) : Prop := bi σ 91 (Z.1 107 a) ≠ 0 ∧ bi σ 12 87 ≠ 0
/-- the worker that a run takes -/
def bzPk (σ : bSt) (Z : bZs) (a : Int) : Int :=
  if bzWm Z (Z.1 103 a) (bi σ 136 (bzKd σ Z a)).toNat (4 * bzKd σ Z a) = -1 then bzFr Z (bi σ 136 (bzKd σ Z a)).toNat (4 * bzKd σ Z a) else bzWm Z (Z.1 103 a) (bi σ 136 (bzKd σ Z a)).toNat (4 * bzKd σ Z a)
def bzEz (σ : bSt) (Z : bZs) (a : Int) : Bool := decide (Z.2.2.2 a = some (bzK σ Z a)) || decide (bzK σ Z a ∈ Z.2.1) || decide (bi σ 12 87 ≠ 0 ∧ bzK σ Z a ∈ Z.2.2.1)
def bzCb (σ : bSt) (Z : bZs) (a : Int) : Bool := bzEz σ Z a || decide (bzBo σ Z a) || decide (bzPk σ Z a ≠ -1)
abbrev bzCn (σ : bSt) (Z : bZs) (a : Int) : Prop := bzCb σ Z a = true
/-- what begins next, of the first actions -/
def bzNx (σ : bSt) (Z : bZs) : Nat → Int
  | 0 => -1
  | k + 1 => if bzRd Z k ∧ (bzNx σ Z k = -1 ∨ Z.1 141 (bzNx σ Z k) < Z.1 141 k) ∧ bzCn σ Z k then k else bzNx σ Z k
/-- the bytes of the first n inputs of an action; more: how one is run again -/
def bzBp (σ : bSt) (more : bZs → Int → bZs × Int) (a : Int) : Nat → bZs → bZs × Int
  | 0, Z => (Z, 0)
  | k + 1, Z => (fun r : bZs × Int =>
      if Z.1 106 (40 * a + k) < 100 then r
      else if r.1.1 134 (Z.1 112 (Z.1 106 (40 * a + k) - 100)) ≠ 0 then r
      else if bi σ 12 87 ≠ 0 ∧ r.1.1 135 (Z.1 112 (Z.1 106 (40 * a + k) - 100)) ≠ 0 then (zw (zw r.1 134 (Z.1 112 (Z.1 106 (40 * a + k) - 100)) 1) 139 10 (r.1.1 139 10 + 1), r.2)
      else (fun q : bZs × Int => (zw (zw q.1 134 (Z.1 112 (Z.1 106 (40 * a + k) - 100)) 1) 139 9 (q.1.1 139 9 + 1), r.2 + q.2 + bzDu σ Z (Z.1 106 (40 * a + k) - 100))) (more r.1 (Z.1 106 (40 * a + k) - 100))) (bzBp σ more a k Z)
def bzB (σ : bSt) : Nat → bZs → Int → bZs × Int
  | 0, Z, _ => (Z, 0)
  | f + 1, Z, a => bzBp σ (bzB σ f) a (Z.1 105 a).toNat Z
/-- a run takes a worker -/
def bzTk (Z : bZs) (a w : Int) : bZs := zw (zw Z 148 a w) 138 w 1
def bzTm (σ : bSt) (Z : bZs) (a w : Int) : Int := if Z.1 137 w = Z.1 103 a then (bzDu σ Z a + 1) / 2 else bzDu σ Z a
/-- a run here begins -/
def bzRh (σ : bSt) (Z : bZs) (a w : Int) : bZs := zw (bzB σ 17 (bzTk Z a w) a).1 145 a (Z.1 305 0 + bzTm σ Z a w + (bzB σ 17 (bzTk Z a w) a).2)
def bzR1 (σ : bSt) (Z : bZs) (a : Int) : bZs := if bzPk σ Z a = -1 then Z else bzRh σ Z a (bzPk σ Z a)
def bzRun (σ : bSt) (Z : bZs) (a : Int) : bZs := if bzBo σ Z a then zw (bzR1 σ Z a) 146 a (Z.1 305 0 + bzDu σ Z a + bi σ 12 88) else bzR1 σ Z a
def bzMv (Z : bZs) (K : bKy) : bZs := (Z.1, bzRm Z.2.1 K ++ [K], Z.2.2)
def bzBe (Z : bZs) (a : Int) : bZs := zw Z 143 a (Z.1 305 0)
/-- an action begins -/
def bzSt (σ : bSt) (Z : bZs) (a : Int) : bZs :=
  if Z.2.2.2 a = some (bzK σ Z a) then bzE (bzBe Z a) a 0
  else if bzK σ Z a ∈ Z.2.1 then bzH (bzE (bzMv (bzBe Z a) (bzK σ Z a)) a 1) a (bzK σ Z a)
  else if bi σ 12 87 ≠ 0 ∧ bzK σ Z a ∈ Z.2.2.1 then zw (zw (bzBe Z a) 147 a 1) 146 a (Z.1 305 0 + bi σ 12 88)
  else bzRun σ (bzBe Z a) a
def bzBgs (σ : bSt) (n : Nat) : Nat → bZs → bZs
  | 0, Z => Z
  | k + 1, Z => if bzNx σ Z n = -1 then Z else bzBgs σ n k (bzSt σ Z (bzNx σ Z n))
def bzSr (x y : Int) : Int := if x = -1 then y else if y = -1 then x else min x y
/-- when the next one ends -/
def bzSn (Z : bZs) : Nat → Int
  | 0 => -1
  | k + 1 => if bzG Z k then bzSr (bzSn Z k) (bzSr (Z.1 145 k) (Z.1 146 k)) else bzSn Z k
/-- what begins at a time -/
def bzBg (σ : bSt) (n : Nat) (Z : bZs) : bZs := if Z.1 306 0 = 0 then bzBgs σ n n Z else Z
def bzTi (l : Int) (Z : bZs) (x : Int) : bZs := zw Z 305 0 (if 0 < l ∧ l < x then l else x)
/-- time passes; n actions, the fuel k -/
def bzLp (σ : bSt) (n : Nat) (g l : Int) : Nat → bZs → bZs
  | 0, Z => Z
  | k + 1, Z => if 0 < l ∧ Z.1 305 0 = l then bzCcl n (bzEnds σ g n Z)
      else if bzSn (bzBg σ n (bzEnds σ g n Z)) n = -1 then bzBg σ n (bzEnds σ g n Z) else bzLp σ n g l k (bzTi l (bzBg σ n (bzEnds σ g n Z)) (bzSn (bzBg σ n (bzEnds σ g n Z)) n))
/-- what became of all is counted -/
def bzCo : Nat → bZs → bZs
  | 0, Z => zw Z 139 0 (Z.1 305 0)
  | k + 1, Z => if (bzCo k Z).1 140 k = 0 then bzCo k Z
      else if (bzCo k Z).1 142 k = -1 then zw (zw (bzCo k Z) 142 k 6) 139 7 ((bzCo k Z).1 139 7 + 1) else zw (bzCo k Z) 139 (1 + (bzCo k Z).1 142 k) ((bzCo k Z).1 139 (1 + (bzCo k Z).1 142 k) + 1)

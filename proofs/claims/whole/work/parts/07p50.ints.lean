/-! NUMBERS: the store's ints read as integers; what segments rewrite by -/
def bn (x : Int) : Int32 := Int32.ofInt x
abbrev bRg (x : Int) : Prop := -2147483648 ≤ x ∧ x < 2147483648
def bi (σ : bSt) (a : Nat) (i : Int) : Int := (σ.1 a i.toNat).toInt
def bj (σ : bSt) (a : Nat) (i : Int) : Int64 := σ.2.1 a i.toNat
def br (σ : bSt) (a : Nat) (i : Int) : Option Nat := σ.2.2.1 a i.toNat
def bw (σ : bSt) (a : Nat) (i v : Int) : bSt := bI σ a i.toNat (bn v)
def bwj (σ : bSt) (a : Nat) (i : Int) (v : Int64) : bSt := bJ σ a i.toNat v
def bwr (σ : bSt) (a : Nat) (i : Int) (v : Option Nat) : bSt := bR σ a i.toNat v
theorem bRgI (x : Int32) : bRg x.toInt := ⟨Int32.le_toInt x, Int32.toInt_lt x⟩
theorem bn_toInt {x : Int} (h : bRg x) : (bn x).toInt = x := Int32.toInt_ofInt_of_le h.1 h.2
theorem bn_of (x : Int32) : x = bn x.toInt := (Int32.ofInt_toInt x).symm
theorem bi_rg (σ : bSt) (a : Nat) (i : Int) : bRg (bi σ a i) := bRgI _
theorem bn_bi (σ : bSt) (a : Nat) (i : Int) : σ.1 a i.toNat = bn (bi σ a i) := bn_of _
theorem bn_add (x y : Int) : bn x + bn y = bn (x + y) := (Int32.ofInt_add x y).symm
theorem bn_sub (x y : Int) : bn x - bn y = bn (x - y) := (Int32.ofInt_sub x y).symm
theorem bn_mul (x y : Int) : bn x * bn y = bn (x * y) := (Int32.ofInt_mul x y).symm
theorem bn_nat (n : Nat) : bn (n : Int) = Int32.ofNat n := Int32.ofInt_eq_ofNat
theorem bn_len {x : Int} {n : Nat} (h : x = (n : Int)) : bn x = Int32.ofNat n := h ▸ bn_nat n
theorem bn_clamp {x : Int} (h : bRg x) : (bn x).toNatClampNeg = x.toNat := congrArg Int.toNat (bn_toInt h)
theorem bn_inj {x y : Int} (hx : bRg x) (hy : bRg y) : bn x = bn y ↔ x = y := ⟨fun h => by rw [← bn_toInt hx, ← bn_toInt hy, h], fun h => h ▸ rfl⟩
theorem bn_lt {x y : Int} (hx : bRg x) (hy : bRg y) : bn x < bn y ↔ x < y := by rw [Int32.lt_iff_toInt_lt, bn_toInt hx, bn_toInt hy]
theorem bn_div {x y : Int} (hx : bRg x) (hy : bRg y) (h0 : 0 ≤ x) : bn x / bn y = bn (x / y) := by
  rw [← Int.tdiv_eq_ediv_of_nonneg h0]
  exact (Int32.ofInt_tdiv (show (-2147483648 : Int) ≤ x from hx.1) (show x ≤ (2147483647 : Int) by omega) (show (-2147483648 : Int) ≤ y from hy.1) (show y ≤ (2147483647 : Int) by omega)).symm
theorem bn_rem {x y : Int} (hx : bRg x) (hy : bRg y) (h0 : 0 ≤ x) : bn x - bn x / bn y * bn y = bn (x % y) := by
  rw [bn_div hx hy h0, bn_mul, bn_sub, Int.emod_def, Int.mul_comm]
def bAnd (x y : Int) : Int := (bn x &&& bn y).toInt
def bOr (x y : Int) : Int := (bn x ||| bn y).toInt
def bXor (x y : Int) : Int := (bn x ^^^ bn y).toInt
def bShl (x y : Int) : Int := (bn x <<< (bn y &&& 31)).toInt
def bShr (x y : Int) : Int := (bn x >>> (bn y &&& 31)).toInt
def bL (x : Int) : Int64 := (bn x).toInt64
def bLi (x : Int64) : Int := x.toInt32.toInt
def bCmp (x y : Int64) : Int := (lg_cmp x y).toInt
theorem bn_and (x y : Int) : bn x &&& bn y = bn (bAnd x y) := bn_of _
theorem bn_or (x y : Int) : bn x ||| bn y = bn (bOr x y) := bn_of _
theorem bn_xor (x y : Int) : bn x ^^^ bn y = bn (bXor x y) := bn_of _
theorem bn_shl (x y : Int) : bn x <<< (bn y &&& 31) = bn (bShl x y) := bn_of _
theorem bn_shr (x y : Int) : bn x >>> (bn y &&& 31) = bn (bShr x y) := bn_of _
theorem bn_li (x : Int64) : x.toInt32 = bn (bLi x) := bn_of _
theorem bn_cmp (x y : Int64) : lg_cmp x y = bn (bCmp x y) := bn_of _
theorem bEqI {A : bPt → Prop} {i : Nat} {L r : List Value} {σ : bSt} {u v : Int32} (h : u = v) (k : A (i, L, .int v :: r, σ)) : A (i, L, .int u :: r, σ) := h ▸ k
theorem bEqC (F : Int32 → Prop) {u v : Int32} (h : u = v) (k : F v) : F u := h ▸ k
theorem bEqL {A : bPt → Prop} {i : Nat} {L r : List Value} {σ : bSt} {a : Nat} {x : Int} (hx : bRg x) (k : A (i, L, .int (bn (bi σ a x)) :: r, σ)) : A (i, L, .int (σ.1 a (bn x).toNatClampNeg) :: r, σ) := by
  rw [bn_clamp hx, bn_bi]
  exact k
theorem bEqJ {A : bPt → Prop} {i : Nat} {L r : List Value} {σ : bSt} {a : Nat} {x : Int} (hx : bRg x) (k : A (i, L, .long (bj σ a x) :: r, σ)) : A (i, L, .long (σ.2.1 a (bn x).toNatClampNeg) :: r, σ) := by
  rw [bn_clamp hx]
  exact k
theorem bOptX {P : Value → Prop} {σ : bSt} {a : Nat} {x : Int} (hx : bRg x) (h0 : br σ a x = none → P .null) (h1 : ∀ z, br σ a x = some z → P (.ref z)) : P (bOpt (σ.2.2.1 a (bn x).toNatClampNeg)) := by
  rw [bn_clamp hx]
  exact bOptC _ h0 h1
theorem bEqS {A : bPt → Prop} {i : Nat} {L r : List Value} {σ : bSt} {a : Nat} {x v : Int} (hx : bRg x) (k : A (i, L, r, bw σ a x v)) : A (i, L, r, bI σ a (bn x).toNatClampNeg (bn v)) := by
  rw [bn_clamp hx]
  exact k
theorem bEqSJ {A : bPt → Prop} {i : Nat} {L r : List Value} {σ : bSt} {a : Nat} {x : Int} {v : Int64} (hx : bRg x) (k : A (i, L, r, bwj σ a x v)) : A (i, L, r, bJ σ a (bn x).toNatClampNeg v) := by
  rw [bn_clamp hx]
  exact k
theorem bEqSR {A : bPt → Prop} {i : Nat} {L r : List Value} {σ : bSt} {a : Nat} {x : Int} {v : Option Nat} (hx : bRg x) (k : A (i, L, r, bwr σ a x v)) : A (i, L, r, bR σ a (bn x).toNatClampNeg v) := by
  rw [bn_clamp hx]
  exact k
theorem bIxP {x : Int} {n : Nat} (hx : bRg x) (h : 0 ≤ x ∧ x < (n : Int)) : vp_in (bn x) n := by
  unfold vp_in
  rw [bn_clamp hx, show (0 : Int32) = bn 0 from rfl, bn_lt hx (by decide)]
  omega
theorem b01 {x : Int} (h : x = 0 ∨ x = 1) : bn x = 0 ∨ bn x = 1 := h.imp (fun q => by rw [q]; rfl) (fun q => by rw [q]; rfl)
theorem bB_eq {x y : Int} {t f : Prop} (hx : bRg x) (hy : bRg y) (h1 : x = y → t) (h2 : ¬ x = y → f) : bBr (bn x = bn y) t f := ⟨fun q => h1 ((bn_inj hx hy).mp q), fun q => h2 fun e => q ((bn_inj hx hy).mpr e)⟩
theorem bB_lt {x y : Int} {t f : Prop} (hx : bRg x) (hy : bRg y) (h1 : x < y → t) (h2 : ¬ x < y → f) : bBr (bn x < bn y) t f := ⟨fun q => h1 ((bn_lt hx hy).mp q), fun q => h2 fun e => q ((bn_lt hx hy).mpr e)⟩
theorem bB_eq0 {x : Int} {t f : Prop} (hx : bRg x) (h1 : x = 0 → t) (h2 : ¬ x = 0 → f) : bBr (bn x = 0) t f := bB_eq (y := 0) hx (by decide) h1 h2
theorem bB_lt0 {x : Int} {t f : Prop} (hx : bRg x) (h1 : x < 0 → t) (h2 : ¬ x < 0 → f) : bBr (bn x < 0) t f := bB_lt (y := 0) hx (by decide) h1 h2
theorem bB_gt0 {x : Int} {t f : Prop} (hx : bRg x) (h1 : 0 < x → t) (h2 : ¬ 0 < x → f) : bBr (0 < bn x) t f := bB_lt (x := 0) (by decide) hx h1 h2
def bRn (f : Int → bSt → Prop) : bPost := bRi fun r s => f r.toInt s
def bRnx (f : Int → bSt → Prop) (g : Nat → bSt → Prop) : bPost := bRix (fun r s => f r.toInt s) g
theorem bRn_e {f : Int → bSt → Prop} {R : bPost} (h : ∀ (r : Int) s, bRg r → f r s → R (.inl (some (.int (bn r)))) s) : ∀ o s, bRn f o s → R o s :=
  bRi_e fun r s k => by rw [bn_of r]; exact h _ s (bRgI r) k
theorem bRnx_e {f : Int → bSt → Prop} {g : Nat → bSt → Prop} {R : bPost} (h : ∀ (r : Int) s, bRg r → f r s → R (.inl (some (.int (bn r)))) s) (h2 : ∀ E s, g E s → R (.inr E) s) : ∀ o s, bRnx f g o s → R o s :=
  bRix_e (fun r s k => by rw [bn_of r]; exact h _ s (bRgI r) k) h2
theorem bRn_i {f : Int → bSt → Prop} {r : Int} {s : bSt} (hr : bRg r) (h : f r s) : bRn f (.inl (some (.int (bn r)))) s := by
  show f (bn r).toInt s
  rw [bn_toInt hr]
  exact h
theorem bRnx_i {f : Int → bSt → Prop} {g : Nat → bSt → Prop} {r : Int} {s : bSt} (hr : bRg r) (h : f r s) : bRnx f g (.inl (some (.int (bn r)))) s := by
  show f (bn r).toInt s
  rw [bn_toInt hr]
  exact h
def bW32 (x : Int) : Int := (bn x).toInt
theorem bn_w32 (x : Int) : bn x = bn (bW32 x) := bn_of _
theorem bRg_div {x y : Int} (h : bRg x) (h0 : 0 ≤ x) : bRg (x / y) := by
  have h1 : (x / y).natAbs ≤ x.natAbs := Int.natAbs_ediv_le_natAbs x y
  obtain ⟨h2, h3⟩ := h
  constructor <;> omega
theorem bRg_mod {x y : Int} (hy : bRg y) (h0 : 0 < y) : bRg (x % y) := by
  have h1 := Int.emod_nonneg x (Int.ne_of_gt h0)
  have h2 := Int.emod_lt_of_pos x h0
  obtain ⟨h3, h4⟩ := hy
  constructor <;> omega
theorem bB_sw {x k : Int} {kk : Int32} {t f : Prop} (hk : kk = bn k) (hx : bRg x) (hy : bRg k) (h1 : x = k → t) (h2 : ¬ x = k → f) : (bn x = kk → t) ∧ (¬ bn x = kk → f) := by
  rw [hk]
  exact bB_eq hx hy h1 h2
theorem bn_nn {n : Int} (hn : bRg n) (h : 0 ≤ n) : 0 ≤ (bn n).toInt := by rw [bn_toInt hn]; exact h
theorem bn_le0 {n L : Int} (hn : bRg n) (h : n ≤ L) : (bn 0).toInt + (bn n).toInt ≤ L := by
  rw [bn_toInt hn, show (bn 0).toInt = 0 from rfl, Int.zero_add]
  exact h
def bCpy (σ : bSt) (a b : Nat) (n : Int) : bSt := (fun a' k' => if a' = b ∧ (k' : Int) < n then σ.1 a k' else σ.1 a' k', σ.2)
theorem bEqCp {A : bPt → Prop} {i : Nat} {L r : List Value} {σ : bSt} {a b : Nat} {n : Int} (hn : bRg n) (k : A (i, L, r, bCpy σ a b n)) :
    A (i, L, r, (fun a' k' => if a' = b ∧ (bn 0).toInt.toNat ≤ k' ∧ k' < (bn 0).toInt.toNat + (bn n).toInt.toNat then σ.1 a ((bn 0).toInt.toNat + (k' - (bn 0).toInt.toNat)) else σ.1 a' k', σ.2)) := by
  have e : (fun (a' k' : Nat) => if a' = b ∧ (bn 0).toInt.toNat ≤ k' ∧ k' < (bn 0).toInt.toNat + (bn n).toInt.toNat then σ.1 a ((bn 0).toInt.toNat + (k' - (bn 0).toInt.toNat)) else σ.1 a' k') = (fun (a' k' : Nat) => if a' = b ∧ (k' : Int) < n then σ.1 a k' else σ.1 a' k') := by
    funext a' k'
    rw [bn_toInt hn, show (bn 0).toInt.toNat = 0 from rfl, Nat.zero_add, Nat.sub_zero, Nat.zero_add]
    by_cases h : a' = b ∧ (k' : Int) < n
    · rw [if_pos h, if_pos ⟨h.1, Nat.zero_le _, by omega⟩]
    · rw [if_neg h, if_neg (fun q => h ⟨q.1, by omega⟩)]
  rw [e]
  exact k
theorem bl_m9 : (-9 : Int32) = bn (-9) := rfl
theorem bl_m5 : (-5 : Int32) = bn (-5) := rfl
theorem bl_m2 : (-2 : Int32) = bn (-2) := rfl
theorem bl_m1 : (-1 : Int32) = bn (-1) := rfl
theorem bl_0 : (0 : Int32) = bn (0) := rfl
theorem bl_1 : (1 : Int32) = bn (1) := rfl
theorem bl_2 : (2 : Int32) = bn (2) := rfl
theorem bl_3 : (3 : Int32) = bn (3) := rfl
theorem bl_4 : (4 : Int32) = bn (4) := rfl
theorem bl_5 : (5 : Int32) = bn (5) := rfl
theorem bl_6 : (6 : Int32) = bn (6) := rfl
theorem bl_7 : (7 : Int32) = bn (7) := rfl
theorem bl_8 : (8 : Int32) = bn (8) := rfl
theorem bl_9 : (9 : Int32) = bn (9) := rfl
theorem bl_10 : (10 : Int32) = bn (10) := rfl
theorem bl_11 : (11 : Int32) = bn (11) := rfl
theorem bl_12 : (12 : Int32) = bn (12) := rfl
theorem bl_13 : (13 : Int32) = bn (13) := rfl
theorem bl_14 : (14 : Int32) = bn (14) := rfl
theorem bl_15 : (15 : Int32) = bn (15) := rfl
theorem bl_16 : (16 : Int32) = bn (16) := rfl
theorem bl_17 : (17 : Int32) = bn (17) := rfl
theorem bl_18 : (18 : Int32) = bn (18) := rfl
theorem bl_19 : (19 : Int32) = bn (19) := rfl
theorem bl_20 : (20 : Int32) = bn (20) := rfl
theorem bl_21 : (21 : Int32) = bn (21) := rfl
theorem bl_22 : (22 : Int32) = bn (22) := rfl
theorem bl_23 : (23 : Int32) = bn (23) := rfl
theorem bl_24 : (24 : Int32) = bn (24) := rfl
theorem bl_25 : (25 : Int32) = bn (25) := rfl
theorem bl_26 : (26 : Int32) = bn (26) := rfl
theorem bl_27 : (27 : Int32) = bn (27) := rfl
theorem bl_28 : (28 : Int32) = bn (28) := rfl
theorem bl_29 : (29 : Int32) = bn (29) := rfl
theorem bl_30 : (30 : Int32) = bn (30) := rfl
theorem bl_31 : (31 : Int32) = bn (31) := rfl
theorem bl_32 : (32 : Int32) = bn (32) := rfl
theorem bl_33 : (33 : Int32) = bn (33) := rfl
theorem bl_34 : (34 : Int32) = bn (34) := rfl
theorem bl_35 : (35 : Int32) = bn (35) := rfl
theorem bl_36 : (36 : Int32) = bn (36) := rfl
theorem bl_37 : (37 : Int32) = bn (37) := rfl
theorem bl_38 : (38 : Int32) = bn (38) := rfl
theorem bl_39 : (39 : Int32) = bn (39) := rfl
theorem bl_40 : (40 : Int32) = bn (40) := rfl
theorem bl_41 : (41 : Int32) = bn (41) := rfl
theorem bl_42 : (42 : Int32) = bn (42) := rfl
theorem bl_43 : (43 : Int32) = bn (43) := rfl
theorem bl_44 : (44 : Int32) = bn (44) := rfl
theorem bl_45 : (45 : Int32) = bn (45) := rfl
theorem bl_46 : (46 : Int32) = bn (46) := rfl
theorem bl_47 : (47 : Int32) = bn (47) := rfl
theorem bl_48 : (48 : Int32) = bn (48) := rfl
theorem bl_63 : (63 : Int32) = bn (63) := rfl
theorem bl_64 : (64 : Int32) = bn (64) := rfl
theorem bl_72 : (72 : Int32) = bn (72) := rfl
theorem bl_80 : (80 : Int32) = bn (80) := rfl
theorem bl_96 : (96 : Int32) = bn (96) := rfl
theorem bl_99 : (99 : Int32) = bn (99) := rfl
theorem bl_100 : (100 : Int32) = bn (100) := rfl
theorem bl_120 : (120 : Int32) = bn (120) := rfl
theorem bl_121 : (121 : Int32) = bn (121) := rfl
theorem bl_127 : (127 : Int32) = bn (127) := rfl
theorem bl_128 : (128 : Int32) = bn (128) := rfl
theorem bl_192 : (192 : Int32) = bn (192) := rfl
theorem bl_255 : (255 : Int32) = bn (255) := rfl
theorem bl_256 : (256 : Int32) = bn (256) := rfl
theorem bl_288 : (288 : Int32) = bn (288) := rfl
theorem bl_500 : (500 : Int32) = bn (500) := rfl
theorem bl_576 : (576 : Int32) = bn (576) := rfl
theorem bl_768 : (768 : Int32) = bn (768) := rfl
theorem bl_999 : (999 : Int32) = bn (999) := rfl
theorem bl_1000 : (1000 : Int32) = bn (1000) := rfl
theorem bl_1001 : (1001 : Int32) = bn (1001) := rfl
theorem bl_2048 : (2048 : Int32) = bn (2048) := rfl
theorem bl_3200 : (3200 : Int32) = bn (3200) := rfl
theorem bl_3840 : (3840 : Int32) = bn (3840) := rfl
theorem bl_4000 : (4000 : Int32) = bn (4000) := rfl
theorem bl_4096 : (4096 : Int32) = bn (4096) := rfl
theorem bl_4800 : (4800 : Int32) = bn (4800) := rfl
theorem bl_5760 : (5760 : Int32) = bn (5760) := rfl
theorem bl_10000 : (10000 : Int32) = bn (10000) := rfl
theorem bl_65536 : (65536 : Int32) = bn (65536) := rfl
theorem bl_100000 : (100000 : Int32) = bn (100000) := rfl
theorem bl_2147483647 : (2147483647 : Int32) = bn (2147483647) := rfl

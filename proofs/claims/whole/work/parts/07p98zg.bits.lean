/-! LONG.BITCOUNT: the bits of a number, byte by byte -/
theorem bAndS {a m M : Nat} (hm : m < 256) : (a &&& (m + 256 * M)) = ((a % 256) &&& m) + 256 * ((a / 256) &&& M) := by
  have h1 : (a &&& (m + 256 * M)) % 256 = (a % 256) &&& m := by
    have := @Nat.and_mod_two_pow a (m + 256 * M) 8
    rw [show (2 : Nat) ^ 8 = 256 from rfl] at this
    rw [this, show (m + 256 * M) % 256 = m by omega]
  have h2 : (a &&& (m + 256 * M)) / 256 = (a / 256) &&& M := by
    have := @Nat.and_div_two_pow a (m + 256 * M) 8
    rw [show (2 : Nat) ^ 8 = 256 from rfl] at this
    rw [this, show (m + 256 * M) / 256 = M by omega]
  omega
def bM8 (m : Nat) : Nat → Nat
  | 0 => 0
  | n + 1 => m + 256 * bM8 m n
def bS1 (n x : Nat) : Nat := x - ((x / 2) &&& bM8 85 n)
def bS2 (n x : Nat) : Nat := (x &&& bM8 51 n) + ((x / 4) &&& bM8 51 n)
def bS3 (n x : Nat) : Nat := (x + x / 16) &&& bM8 15 n
theorem bS1_s {n x : Nat} : bS1 (n + 1) x = (x % 256 - ((x % 256 / 2) &&& 85)) + 256 * bS1 n (x / 256) := by
  unfold bS1
  rw [show bM8 85 (n + 1) = 85 + 256 * bM8 85 n from rfl, bAndS (by decide)]
  have h1 : (x / 2 % 256) &&& 85 = (x % 256 / 2) &&& 85 := by
    rw [show x / 2 % 256 = x % 256 / 2 + 128 * (x / 256 % 2) by omega]
    have d : ∀ b < 256, ∀ c < 2, ((b / 2 + 128 * c) &&& 85) = ((b / 2) &&& 85) := by decide +kernel
    exact d _ (by omega) _ (by omega)
  have h2 : ∀ b < 256, ((b / 2) &&& 85) ≤ b := fun b _ => Nat.le_trans Nat.and_le_left (by omega)
  have h3 := h2 (x % 256) (by omega)
  have h4 : ((x / 256 / 2) &&& bM8 85 n) ≤ x / 256 := Nat.le_trans Nat.and_le_left (by omega)
  rw [h1, show x / 2 / 256 = x / 256 / 2 by omega]
  generalize ((x % 256 / 2) &&& 85) = u at *
  generalize ((x / 256 / 2) &&& bM8 85 n) = v at *
  omega
theorem bS2_s {n x : Nat} : bS2 (n + 1) x = (((x % 256) &&& 51) + ((x % 256 / 4) &&& 51)) + 256 * bS2 n (x / 256) := by
  unfold bS2
  rw [show bM8 51 (n + 1) = 51 + 256 * bM8 51 n from rfl, bAndS (by decide), bAndS (by decide)]
  have h1 : (x / 4 % 256) &&& 51 = (x % 256 / 4) &&& 51 := by
    rw [show x / 4 % 256 = x % 256 / 4 + 64 * (x / 256 % 4) by omega]
    have d : ∀ b < 256, ∀ c < 4, ((b / 4 + 64 * c) &&& 51) = ((b / 4) &&& 51) := by decide +kernel
    exact d _ (by omega) _ (by omega)
  rw [h1, show x / 4 / 256 = x / 256 / 4 by omega]
  omega
def bNib : Nat → Nat → Prop
  | 0, x => x = 0
  | n + 1, x => x % 16 ≤ 4 ∧ x % 256 / 16 ≤ 4 ∧ bNib n (x / 256)
theorem bNib_0 {n x : Nat} (h : bNib n x) : x % 16 ≤ 4 := by
  cases n with
  | zero =>
    have : x = 0 := h
    omega
  | succ n => exact h.1
theorem bS3_s {n x : Nat} (h : bNib (n + 1) x) : bS3 (n + 1) x = (x % 16 + x % 256 / 16) + 256 * bS3 n (x / 256) := by
  obtain ⟨h1, h2, h3⟩ := h
  have h4 := bNib_0 h3
  unfold bS3
  rw [show bM8 15 (n + 1) = 15 + 256 * bM8 15 n from rfl, bAndS (by decide)]
  have e1 : ((x + x / 16) % 256) &&& 15 = x % 16 + x % 256 / 16 := by
    have := @Nat.and_two_pow_sub_one_eq_mod ((x + x / 16) % 256) 4
    rw [show (2 : Nat) ^ 4 - 1 = 15 from rfl, show (2 : Nat) ^ 4 = 16 from rfl] at this
    rw [this]
    omega
  have e2 : (x + x / 16) / 256 = x / 256 + x / 256 / 16 := by omega
  rw [e1, e2]
/-- how many bits a byte has -/
def bPcb (b : Nat) : Nat := b % 2 + b / 2 % 2 + b / 4 % 2 + b / 8 % 2 + b / 16 % 2 + b / 32 % 2 + b / 64 % 2 + b / 128 % 2
theorem bByte : ∀ b < 256, (((b - ((b / 2) &&& 85)) &&& 51) + (((b - ((b / 2) &&& 85)) / 4) &&& 51)) < 256 ∧ (b - ((b / 2) &&& 85)) < 256 ∧ (((b - ((b / 2) &&& 85)) &&& 51) + (((b - ((b / 2) &&& 85)) / 4) &&& 51)) % 16 ≤ 4 ∧ (((b - ((b / 2) &&& 85)) &&& 51) + (((b - ((b / 2) &&& 85)) / 4) &&& 51)) / 16 ≤ 4 ∧
    (((b - ((b / 2) &&& 85)) &&& 51) + (((b - ((b / 2) &&& 85)) / 4) &&& 51)) % 16 + (((b - ((b / 2) &&& 85)) &&& 51) + (((b - ((b / 2) &&& 85)) / 4) &&& 51)) / 16 = bPcb b := by decide +kernel
def bT8 : Nat → Nat → Nat
  | 0, _ => 0
  | n + 1, x => bPcb (x % 256) + 256 * bT8 n (x / 256)
theorem bT8_s : ∀ (n x : Nat), x < 256 ^ n → bNib n (bS2 n (bS1 n x)) ∧ bS3 n (bS2 n (bS1 n x)) = bT8 n x
  | 0, x, h => by
    have : x = 0 := by simpa using h
    rw [this]
    exact ⟨rfl, rfl⟩
  | n + 1, x, h => by
    have h2 : x / 256 < 256 ^ n := by
      rw [Nat.pow_succ] at h
      exact Nat.div_lt_of_lt_mul (by omega)
    obtain ⟨i1, i2⟩ := bT8_s n (x / 256) h2
    obtain ⟨c1, c2, c3, c4, c5⟩ := bByte (x % 256) (by omega)
    have e1 : bS1 (n + 1) x = (x % 256 - ((x % 256 / 2) &&& 85)) + 256 * bS1 n (x / 256) := bS1_s
    have e2 := bS2_s (n := n) (x := bS1 (n + 1) x)
    rw [e1] at e2
    generalize hb : x % 256 - ((x % 256 / 2) &&& 85) = b at *
    rw [show (b + 256 * bS1 n (x / 256)) % 256 = b by omega, show (b + 256 * bS1 n (x / 256)) / 256 = bS1 n (x / 256) by omega] at e2
    rw [← e1] at e2
    generalize hc : (b &&& 51) + ((b / 4) &&& 51) = c at *
    have nb : bNib (n + 1) (bS2 (n + 1) (bS1 (n + 1) x)) := by
      rw [e2]
      refine ⟨by omega, by omega, ?_⟩
      rw [show (c + 256 * bS2 n (bS1 n (x / 256))) / 256 = bS2 n (bS1 n (x / 256)) by omega]
      exact i1
    refine ⟨nb, ?_⟩
    rw [bS3_s nb, e2, show (c + 256 * bS2 n (bS1 n (x / 256))) / 256 = bS2 n (bS1 n (x / 256)) by omega, i2]
    show _ = bPcb (x % 256) + 256 * bT8 n (x / 256)
    omega

/-! THE LAW: what each of its cases compares, and its loop (printed by gen11.py) -/
def bMid (σ s : bSt) : Prop := (∀ j, bi s 200 j = bi σ 200 j) ∧ bLen s 200 = bLen σ 200
theorem bRn_m {f g : Int → bSt → Prop} (h : ∀ r s, bRg r → f r s → g r s) : ∀ o s, bRn f o s → bRn g o s := bRn_e fun r s hr k => bRn_i hr (h r s hr k)
theorem bRj_m {f g : Int64 → bSt → Prop} (h : ∀ r s, f r s → g r s) : ∀ o s, bRj f o s → bRj g o s := bRj_e fun r s k => h r s k
theorem bRv_m {f g : bSt → Prop} (h : ∀ s, f s → g s) : ∀ o s, bRv f o s → bRv g o s := bRv_e fun s k => h s k
theorem bCmp_self (x : Int64) : bCmp x x = 0 := by
  unfold bCmp lg_cmp
  simp
/-- case 0: write -/
def bK0 (E : bSt → Prop) (σ : bSt) : Prop := ∀ p0 p1 : Int, bRg p0 → bRg p1 → bWp 12 314 [.ref 11, .int (bn p0), .int (bn p1), .ref 154] σ (bRn fun k s1 => bMid σ s1 ∧ bWp 12 202 [.ref 12, .int (bn p0), .int (bn p1)] s1 (bRn fun b s2 => bi s2 12 0 = k ∧ (k = 0 → bj s2 154 0 = bL b) ∧ E s2))
/-- case 1: erase -/
def bK1 (E : bSt → Prop) (σ : bSt) : Prop := ∀ p0 : Int, bRg p0 → bWp 12 315 [.ref 11, .int (bn p0), .ref 154] σ (bRn fun k s1 => bMid σ s1 ∧ bWp 12 203 [.ref 12, .int (bn p0)] s1 (bRn fun b s2 => bi s2 12 0 = k ∧ (k = 0 → bj s2 154 0 = bL b) ∧ E s2))
/-- case 2: pack -/
def bK2 (E : bSt → Prop) (σ : bSt) : Prop := ∀ p0 p1 : Int, bRg p0 → (p1 = 0 ∨ p1 = 1) → bWp 12 316 [.ref 11, .int (bn p0), .int (bn p1), .ref 154] σ (bRn fun k s1 => bMid σ s1 ∧ bWp 12 204 [.ref 12, .int (bn p0), .int (bn p1)] s1 (bRn fun b s2 => bi s2 12 0 = k ∧ (k = 0 → bj s2 154 0 = if b = 0 then Int64.ofNat 0 else Int64.ofNat 1) ∧ E s2))
/-- case 3: packageOf -/
def bK3 (E : bSt → Prop) (σ : bSt) : Prop := ∀ p0 : Int, bRg p0 → bWp 12 317 [.ref 11, .int (bn p0), .ref 154] σ (bRn fun k s1 => bMid σ s1 ∧ bWp 12 207 [.ref 12, .int (bn p0)] s1 (bRn fun b s2 => bi s2 12 0 = k ∧ (k = 0 → bj s2 154 0 = bL b) ∧ E s2))
/-- case 4: globbed -/
def bK4 (E : bSt → Prop) (σ : bSt) : Prop := ∀ p0 p1 p2 : Int, bRg p0 → bRg p1 → (p2 = 0 ∨ p2 = 1) → bWp 12 318 [.ref 11, .int (bn p0), .int (bn p1), .int (bn p2), .ref 154] σ (bRn fun k s1 => bMid σ s1 ∧ bWp 12 209 [.ref 12, .int (bn p0), .int (bn p1), .int (bn p2)] s1 (bRj fun b s2 => bi s2 12 0 = k ∧ (k = 0 → bj s2 154 0 = b) ∧ E s2))
/-- case 5: state -/
def bK5 (E : bSt → Prop) (σ : bSt) : Prop := ∀ p0 p1 p2 p3 p4 : Int, bRg p0 → bRg p1 → bRg p2 → bRg p3 → bRg p4 → bWp 12 319 [.ref 11, .int (bn p0), .int (bn p1), .int (bn p2), .int (bn p3), .int (bn p4), .ref 154] σ (bRn fun k s1 => bMid σ s1 ∧ bWp 12 212 [.ref 12, .int (bn p0), .int (bn p1), .int (bn p2), .int (bn p3), .int (bn p4)] s1 (bRn fun b s2 => bi s2 12 0 = k ∧ (k = 0 → bj s2 154 0 = bL b) ∧ E s2))
/-- case 6: unstate -/
def bK6 (E : bSt → Prop) (σ : bSt) : Prop := ∀ p0 p1 : Int, bRg p0 → bRg p1 → bWp 12 320 [.ref 11, .int (bn p0), .int (bn p1), .ref 154] σ (bRn fun k s1 => bMid σ s1 ∧ bWp 12 213 [.ref 12, .int (bn p0), .int (bn p1)] s1 (bRn fun b s2 => bi s2 12 0 = k ∧ (k = 0 → bj s2 154 0 = bL b) ∧ E s2))
/-- case 7: value -/
def bK7 (E : bSt → Prop) (σ : bSt) : Prop := ∀ p0 p1 : Int, bRg p0 → bRg p1 → bWp 12 321 [.ref 11, .int (bn p0), .int (bn p1), .ref 154] σ (bRn fun k s1 => bMid σ s1 ∧ bWp 12 219 [.ref 12, .int (bn p0), .int (bn p1)] s1 (bRn fun b s2 => bi s2 12 0 = k ∧ (k = 0 → bj s2 154 0 = bL b) ∧ E s2))
/-- case 8: listAt -/
def bK8 (E : bSt → Prop) (σ : bSt) : Prop := ∀ p0 p1 p2 : Int, bRg p0 → bRg p1 → bRg p2 → bWp 12 322 [.ref 11, .int (bn p0), .int (bn p1), .int (bn p2), .ref 154] σ (bRn fun k s1 => bMid σ s1 ∧ bWp 12 220 [.ref 12, .int (bn p0), .int (bn p1), .int (bn p2)] s1 (bRn fun b s2 => bi s2 12 0 = k ∧ (k = 0 → bj s2 154 0 = bL b) ∧ E s2))
/-- case 9: ruleFailure -/
def bK9 (E : bSt → Prop) (σ : bSt) : Prop := ∀ p0 p1 : Int, bRg p0 → bRg p1 → bWp 12 323 [.ref 11, .int (bn p0), .int (bn p1), .ref 154] σ (bRn fun k s1 => bMid σ s1 ∧ bWp 12 221 [.ref 12, .int (bn p0), .int (bn p1)] s1 (bRn fun b s2 => bi s2 12 0 = k ∧ (k = 0 → bj s2 154 0 = bL b) ∧ E s2))
/-- case 10: setting -/
def bK10 (E : bSt → Prop) (σ : bSt) : Prop := ∀ p0 p1 : Int, bRg p0 → bRg p1 → bWp 12 324 [.ref 11, .int (bn p0), .int (bn p1), .ref 154] σ (bRn fun k s1 => bMid σ s1 ∧ bWp 12 222 [.ref 12, .int (bn p0), .int (bn p1)] s1 (bRn fun b s2 => bi s2 12 0 = k ∧ (k = 0 → bj s2 154 0 = bL b) ∧ E s2))
/-- case 11: toolchain -/
def bK11 (E : bSt → Prop) (σ : bSt) : Prop := ∀ p0 p1 p2 p3 : Int, bRg p0 → bRg p1 → bRg p2 → bRg p3 → bWp 12 325 [.ref 11, .int (bn p0), .int (bn p1), .int (bn p2), .int (bn p3), .ref 154] σ (bRn fun k s1 => bMid σ s1 ∧ bWp 12 223 [.ref 12, .int (bn p0), .int (bn p1), .int (bn p2), .int (bn p3)] s1 (bRn fun b s2 => bi s2 12 0 = k ∧ (k = 0 → bj s2 154 0 = bL b) ∧ E s2))
/-- case 12: untool -/
def bK12 (E : bSt → Prop) (σ : bSt) : Prop := ∀ p0 : Int, bRg p0 → bWp 12 326 [.ref 11, .int (bn p0), .ref 154] σ (bRn fun k s1 => bMid σ s1 ∧ bWp 12 224 [.ref 12, .int (bn p0)] s1 (bRn fun b s2 => bi s2 12 0 = k ∧ (k = 0 → bj s2 154 0 = bL b) ∧ E s2))
/-- case 13: target -/
def bK13 (E : bSt → Prop) (σ : bSt) : Prop := ∀ p0 p1 p2 : Int, bRg p0 → bRg p1 → bRg p2 → bWp 12 327 [.ref 11, .int (bn p0), .int (bn p1), .int (bn p2), .ref 154] σ (bRn fun k s1 => bMid σ s1 ∧ bWp 12 226 [.ref 12, .int (bn p0), .int (bn p1), .int (bn p2)] s1 (bRn fun b s2 => bi s2 12 0 = k ∧ (k = 0 → bj s2 154 0 = bL b) ∧ E s2))
/-- case 14: numberFrom -/
def bK14 (E : bSt → Prop) (σ : bSt) : Prop := ∀ p0 p1 p2 : Int, bRg p0 → bRg p1 → bRg p2 → bWp 12 328 [.ref 11, .int (bn p0), .int (bn p1), .int (bn p2)] σ (bRn fun k s1 => bMid σ s1 ∧ bWp 12 227 [.ref 12, .int (bn p0), .int (bn p1), .int (bn p2)] s1 (bRv fun s2 => bi s2 12 0 = k ∧ E s2))
/-- case 15: choose -/
def bK15 (E : bSt → Prop) (σ : bSt) : Prop := ∀ p0 p1 p2 p3 : Int, bRg p0 → bRg p1 → bRg p2 → bRg p3 → bWp 12 329 [.ref 11, .int (bn p0), .int (bn p1), .int (bn p2), .int (bn p3), .ref 154] σ (bRn fun k s1 => bMid σ s1 ∧ bWp 12 228 [.ref 12, .int (bn p0), .int (bn p1), .int (bn p2), .int (bn p3)] s1 (bRn fun b s2 => bi s2 12 0 = k ∧ (k = 0 → bj s2 154 0 = bL b) ∧ E s2))
/-- case 16: source -/
def bK16 (E : bSt → Prop) (σ : bSt) : Prop := ∀ p0 p1 : Int, bRg p0 → bRg p1 → bWp 12 330 [.ref 11, .int (bn p0), .int (bn p1), .ref 154] σ (bRn fun k s1 => bMid σ s1 ∧ bWp 12 230 [.ref 12, .int (bn p0), .int (bn p1)] s1 (bRn fun b s2 => bi s2 12 0 = k ∧ (k = 0 → bj s2 154 0 = bL b) ∧ E s2))
/-- case 17: glob -/
def bK17 (E : bSt → Prop) (σ : bSt) : Prop := ∀ p0 p1 p2 : Int, bRg p0 → bRg p1 → (p2 = 0 ∨ p2 = 1) → bWp 12 331 [.ref 11, .int (bn p0), .int (bn p1), .int (bn p2), .ref 154] σ (bRn fun k s1 => bMid σ s1 ∧ bWp 12 231 [.ref 12, .int (bn p0), .int (bn p1), .int (bn p2)] s1 (bRn fun b s2 => bi s2 12 0 = k ∧ (k = 0 → bj s2 154 0 = bL b) ∧ E s2))
/-- case 18: depend -/
def bK18 (E : bSt → Prop) (σ : bSt) : Prop := ∀ p0 p1 : Int, bRg p0 → bRg p1 → bWp 12 332 [.ref 11, .int (bn p0), .int (bn p1), .ref 154] σ (bRn fun k s1 => bMid σ s1 ∧ bWp 12 232 [.ref 12, .int (bn p0), .int (bn p1)] s1 (bRn fun b s2 => bi s2 12 0 = k ∧ (k = 0 → bj s2 154 0 = bL b) ∧ E s2))
/-- case 19: drop -/
def bK19 (E : bSt → Prop) (σ : bSt) : Prop := ∀ p0 : Int, bRg p0 → bWp 12 333 [.ref 11, .int (bn p0), .ref 154] σ (bRn fun k s1 => bMid σ s1 ∧ bWp 12 233 [.ref 12, .int (bn p0)] s1 (bRn fun b s2 => bi s2 12 0 = k ∧ (k = 0 → bj s2 154 0 = bL b) ∧ E s2))
/-- case 20: uses -/
def bK20 (E : bSt → Prop) (σ : bSt) : Prop := ∀ p0 p1 : Int, bRg p0 → bRg p1 → bWp 12 334 [.ref 11, .int (bn p0), .int (bn p1), .ref 154] σ (bRn fun k s1 => bMid σ s1 ∧ bWp 12 234 [.ref 12, .int (bn p0), .int (bn p1)] s1 (bRn fun b s2 => bi s2 12 0 = k ∧ (k = 0 → bj s2 154 0 = bL b) ∧ E s2))
/-- case 21: transit -/
def bK21 (E : bSt → Prop) (σ : bSt) : Prop := ∀ p0 p1 p2 : Int, bRg p0 → bRg p1 → bRg p2 → bWp 12 335 [.ref 11, .int (bn p0), .int (bn p1), .int (bn p2)] σ (bRn fun k s1 => bMid σ s1 ∧ bWp 12 235 [.ref 12, .int (bn p0), .int (bn p1), .int (bn p2)] s1 (bRv fun s2 => bi s2 12 0 = k ∧ E s2))
/-- case 22: work -/
def bK22 (E : bSt → Prop) (σ : bSt) : Prop := ∀ p0 p1 p2 p3 : Int, bRg p0 → bRg p1 → bRg p2 → (p3 = 0 ∨ p3 = 1) → bWp 12 336 [.ref 11, .int (bn p0), .int (bn p1), .int (bn p2), .int (bn p3)] σ (bRn fun k s1 => bMid σ s1 ∧ bWp 12 236 [.ref 12, .int (bn p0), .int (bn p1), .int (bn p2), .int (bn p3)] s1 (bRv fun s2 => bi s2 12 0 = k ∧ E s2))
/-- case 23: shards -/
def bK23 (E : bSt → Prop) (σ : bSt) : Prop := ∀ p0 p1 p2 : Int, bRg p0 → bRg p1 → bRg p2 → bWp 12 337 [.ref 11, .int (bn p0), .int (bn p1), .int (bn p2)] σ (bRn fun k s1 => bMid σ s1 ∧ bWp 12 237 [.ref 12, .int (bn p0), .int (bn p1), .int (bn p2)] s1 (bRv fun s2 => bi s2 12 0 = k ∧ E s2))
/-- case 24: targetError -/
def bK24 (E : bSt → Prop) (σ : bSt) : Prop := ∀ p0 p1 : Int, bRg p0 → bRg p1 → bWp 12 338 [.ref 11, .int (bn p0), .int (bn p1), .ref 154] σ (bRn fun k s1 => bMid σ s1 ∧ bWp 12 244 [.ref 12, .int (bn p0), .int (bn p1)] s1 (bRn fun b s2 => bi s2 12 0 = k ∧ (k = 0 → bj s2 154 0 = bL b) ∧ E s2))
/-- case 25: workers -/
def bK25 (E : bSt → Prop) (σ : bSt) : Prop := ∀ p0 p1 : Int, bRg p0 → bRg p1 → bWp 12 339 [.ref 11, .int (bn p0), .int (bn p1), .ref 154] σ (bRn fun k s1 => bMid σ s1 ∧ bWp 12 278 [.ref 12, .int (bn p0), .int (bn p1)] s1 (bRn fun b s2 => bi s2 12 0 = k ∧ (k = 0 → bj s2 154 0 = bL b) ∧ E s2))
/-- case 26: sandbox -/
def bK26 (E : bSt → Prop) (σ : bSt) : Prop := ∀ p0 : Int, (p0 = 0 ∨ p0 = 1) → bWp 12 169 [.ref 11, .int (bn p0)] σ (bRn fun k s1 => bMid σ s1 ∧ bWp 12 273 [.ref 12, .int (bn p0)] s1 (bRn fun b s2 => k = b ∧ E s2))
/-- case 27: far -/
def bK27 (E : bSt → Prop) (σ : bSt) : Prop := ∀ p0 p1 : Int, (p0 = 0 ∨ p0 = 1) → bRg p1 → bWp 12 340 [.ref 11, .int (bn p0), .int (bn p1), .ref 154] σ (bRn fun k s1 => bMid σ s1 ∧ bWp 12 274 [.ref 12, .int (bn p0), .int (bn p1)] s1 (bRn fun b s2 => bi s2 12 0 = k ∧ (k = 0 → bj s2 154 0 = if b = 0 then Int64.ofNat 0 else Int64.ofNat 1) ∧ E s2))
/-- case 28: lose -/
def bK28 (E : bSt → Prop) (σ : bSt) : Prop := ∀ p0 : Int, bRg p0 → bWp 12 341 [.ref 11, .int (bn p0), .ref 154] σ (bRn fun k s1 => bMid σ s1 ∧ bWp 12 275 [.ref 12, .int (bn p0)] s1 (bRn fun b s2 => bi s2 12 0 = k ∧ (k = 0 → bj s2 154 0 = if b = 0 then Int64.ofNat 0 else Int64.ofNat 1) ∧ E s2))
/-- case 29: forget -/
def bK29 (E : bSt → Prop) (σ : bSt) : Prop := ∀ p0 : Int, (p0 = 0 ∨ p0 = 1) → bWp 12 172 [.ref 11, .int (bn p0)] σ (bRn fun k s1 => bMid σ s1 ∧ bWp 12 276 [.ref 12, .int (bn p0)] s1 (bRn fun b s2 => k = b ∧ E s2))
/-- case 30: entries -/
def bK30 (E : bSt → Prop) (σ : bSt) : Prop := ∀ p0 : Int, (p0 = 0 ∨ p0 = 1) → bWp 12 173 [.ref 11, .int (bn p0)] σ (bRn fun k s1 => bMid σ s1 ∧ bWp 12 277 [.ref 12, .int (bn p0)] s1 (bRn fun b s2 => k = b ∧ E s2))
/-- case 31: build -/
def bK31 (E : bSt → Prop) (σ : bSt) : Prop := ∀ p0 p1 p2 : Int, bRg p0 → (p1 = 0 ∨ p1 = 1) → bRg p2 → bWp 12 342 [.ref 11, .int (bn p0), .int (bn p1), .int (bn p2), .ref 154] σ (bRn fun k s1 => bMid σ s1 ∧ bWp 12 285 [.ref 12, .int (bn p0), .int (bn p1), .int (bn p2)] s1 (bRn fun b s2 => bi s2 12 0 = k ∧ (k = 0 → bj s2 154 0 = bL b) ∧ E s2))
/-- case 32: told -/
def bK32 (E : bSt → Prop) (σ : bSt) : Prop := ∀ p0 : Int, bRg p0 → bWp 12 343 [.ref 11, .int (bn p0), .ref 154] σ (bRn fun k s1 => bMid σ s1 ∧ bWp 12 299 [.ref 12, .int (bn p0)] s1 (bRn fun b s2 => bi s2 12 0 = k ∧ (k = 0 → bj s2 154 0 = bL b) ∧ E s2))
/-- case 33: failedFirst -/
def bK33 (E : bSt → Prop) (σ : bSt) : Prop := bWp 12 176 [.ref 11] σ (bRn fun k s1 => bMid σ s1 ∧ bWp 12 300 [.ref 12] s1 (bRn fun b s2 => k = b ∧ E s2))
/-- case 34: critical -/
def bK34 (E : bSt → Prop) (σ : bSt) : Prop := ∀ p0 : Int, bRg p0 → bWp 12 344 [.ref 11, .int (bn p0), .ref 154] σ (bRn fun k s1 => bMid σ s1 ∧ bWp 12 302 [.ref 12, .int (bn p0)] s1 (bRn fun b s2 => bi s2 12 0 = k ∧ (k = 0 → bj s2 154 0 = bL b) ∧ E s2))
/-- case 35: actions -/
def bK35 (E : bSt → Prop) (σ : bSt) : Prop := bWp 12 178 [.ref 11] σ (bRn fun k s1 => bMid σ s1 ∧ bWp 12 252 [.ref 12] s1 (bRn fun b s2 => k = b ∧ E s2))
/-- case 36: actionOf -/
def bK36 (E : bSt → Prop) (σ : bSt) : Prop := ∀ p0 : Int, bRg p0 → bWp 12 345 [.ref 11, .int (bn p0), .ref 154] σ (bRn fun k s1 => bMid σ s1 ∧ bWp 12 248 [.ref 12, .int (bn p0)] s1 (bRn fun b s2 => bi s2 12 0 = k ∧ (k = 0 → bj s2 154 0 = bL b) ∧ E s2))
/-- case 37: input -/
def bK37 (E : bSt → Prop) (σ : bSt) : Prop := ∀ p0 p1 : Int, bRg p0 → bRg p1 → bWp 12 346 [.ref 11, .int (bn p0), .int (bn p1), .ref 154] σ (bRn fun k s1 => bMid σ s1 ∧ bWp 12 254 [.ref 12, .int (bn p0), .int (bn p1)] s1 (bRn fun b s2 => bi s2 12 0 = k ∧ (k = 0 → bj s2 154 0 = bL b) ∧ E s2))
/-- case 38: became -/
def bK38 (E : bSt → Prop) (σ : bSt) : Prop := ∀ p0 p1 : Int, bRg p0 → bRg p1 → bWp 12 347 [.ref 11, .int (bn p0), .int (bn p1), .ref 154] σ (bRn fun k s1 => bMid σ s1 ∧ bWp 12 303 [.ref 12, .int (bn p0), .int (bn p1)] s1 (bRn fun b s2 => bi s2 12 0 = k ∧ (k = 0 → bj s2 154 0 = bL b) ∧ E s2))
/-- case 39: found -/
def bK39 (E : bSt → Prop) (σ : bSt) : Prop := ∀ p0 p1 : Int, bRg p0 → bRg p1 → bWp 12 348 [.ref 11, .int (bn p0), .int (bn p1), .ref 154] σ (bRn fun k s1 => bMid σ s1 ∧ bWp 12 255 [.ref 12, .int (bn p0), .int (bn p1)] s1 (bRn fun b s2 => bi s2 12 0 = k ∧ (k = 0 → bj s2 154 0 = bL b) ∧ E s2))
/-- case 40: output -/
def bK40 (E : bSt → Prop) (σ : bSt) : Prop := ∀ p0 : Int, bRg p0 → bWp 12 349 [.ref 11, .int (bn p0), .ref 154] σ (bRn fun k s1 => bMid σ s1 ∧ bWp 12 256 [.ref 12, .int (bn p0)] s1 (bRn fun b s2 => bi s2 12 0 = k ∧ (k = 0 → bj s2 154 0 = bL b) ∧ E s2))
/-- case 41: outputFromNothing -/
def bK41 (E : bSt → Prop) (σ : bSt) : Prop := ∀ p0 : Int, bRg p0 → bWp 12 350 [.ref 11, .int (bn p0), .ref 154] σ (bRn fun k s1 => bMid σ s1 ∧ bWp 12 263 [.ref 12, .int (bn p0)] s1 (bRn fun b s2 => bi s2 12 0 = k ∧ (k = 0 → bj s2 154 0 = bL b) ∧ E s2))
/-- case 42: test -/
def bK42 (E : bSt → Prop) (σ : bSt) : Prop := ∀ p0 : Int, bRg p0 → bWp 12 351 [.ref 11, .int (bn p0), .ref 154] σ (bRn fun k s1 => bMid σ s1 ∧ bWp 12 304 [.ref 12, .int (bn p0)] s1 (bRn fun b s2 => bi s2 12 0 = k ∧ (k = 0 → bj s2 154 0 = bL b) ∧ E s2))
/-- case 43: shard -/
def bK43 (E : bSt → Prop) (σ : bSt) : Prop := ∀ p0 p1 : Int, bRg p0 → bRg p1 → bWp 12 352 [.ref 11, .int (bn p0), .int (bn p1), .ref 154] σ (bRn fun k s1 => bMid σ s1 ∧ bWp 12 306 [.ref 12, .int (bn p0), .int (bn p1)] s1 (bRn fun b s2 => bi s2 12 0 = k ∧ (k = 0 → bj s2 154 0 = bL b) ∧ E s2))
/-- case 44: tries -/
def bK44 (E : bSt → Prop) (σ : bSt) : Prop := bWp 12 190 [.ref 11] σ (bRn fun k s1 => bMid σ s1 ∧ bWp 12 307 [.ref 12] s1 (bRn fun b s2 => k = b ∧ E s2))
/-- case 45: seed -/
def bK45 (E : bSt → Prop) (σ : bSt) : Prop := ∀ p0 : Int, bRg p0 → bWp 12 353 [.ref 11, .int (bn p0)] σ (bRn fun k s1 => bMid σ s1 ∧ bWp 12 308 [.ref 12, .int (bn p0)] s1 (bRv fun s2 => bi s2 12 0 = k ∧ E s2))
/-- case 46: someWay -/
def bK46 (E : bSt → Prop) (σ : bSt) : Prop := ∀ p0 p1 p2 : Int, bRg p0 → bRg p1 → bRg p2 → bWp 12 354 [.ref 11, .int (bn p0), .int (bn p1), .int (bn p2), .ref 154] σ (bRn fun k s1 => bMid σ s1 ∧ bWp 12 310 [.ref 12, .int (bn p0), .int (bn p1), .int (bn p2)] s1 (bRn fun b s2 => bi s2 12 0 = k ∧ (k = 0 → bj s2 154 0 = bL b) ∧ E s2))
/-- case 47: allWays -/
def bK47 (E : bSt → Prop) (σ : bSt) : Prop := ∀ p0 p1 : Int, bRg p0 → bRg p1 → bWp 12 355 [.ref 11, .int (bn p0), .int (bn p1), .ref 154] σ (bRn fun k s1 => bMid σ s1 ∧ bWp 12 312 [.ref 12, .int (bn p0), .int (bn p1)] s1 (bRn fun b s2 => bi s2 12 0 = k ∧ (k = 0 → bj s2 154 0 = bL b) ∧ E s2))
/-- case 48: above -/
def bK48 (E : bSt → Prop) (σ : bSt) : Prop := ∀ p0 : Int, bRg p0 → bWp 12 356 [.ref 11, .int (bn p0), .ref 154] σ (bRn fun k s1 => bMid σ s1 ∧ bWp 12 313 [.ref 12, .int (bn p0)] s1 (bRn fun b s2 => bi s2 12 0 = k ∧ (k = 0 → bj s2 154 0 = bL b) ∧ E s2))
def bCas (E : bSt → Prop) (σ : bSt) : Prop := bK0 E σ ∧ bK1 E σ ∧ bK2 E σ ∧ bK3 E σ ∧ bK4 E σ ∧ bK5 E σ ∧ bK6 E σ ∧ bK7 E σ ∧ bK8 E σ ∧ bK9 E σ ∧ bK10 E σ ∧ bK11 E σ ∧ bK12 E σ ∧ bK13 E σ ∧ bK14 E σ ∧ bK15 E σ ∧ bK16 E σ ∧ bK17 E σ ∧ bK18 E σ ∧ bK19 E σ ∧ bK20 E σ ∧ bK21 E σ ∧ bK22 E σ ∧ bK23 E σ ∧ bK24 E σ ∧ bK25 E σ ∧ bK26 E σ ∧ bK27 E σ ∧ bK28 E σ ∧ bK29 E σ ∧ bK30 E σ ∧ bK31 E σ ∧ bK32 E σ ∧ bK33 E σ ∧ bK34 E σ ∧ bK35 E σ ∧ bK36 E σ ∧ bK37 E σ ∧ bK38 E σ ∧ bK39 E σ ∧ bK40 E σ ∧ bK41 E σ ∧ bK42 E σ ∧ bK43 E σ ∧ bK44 E σ ∧ bK45 E σ ∧ bK46 E σ ∧ bK47 E σ ∧ bK48 E σ
section
variable {A : bPt → Prop} {Q : bPost} {σ : bSt} {l4 : Int} {v5 v6 v7 : Value} {E : bSt → Prop}
abbrev bNx (A : bPt → Prop) (E : bSt → Prop) (l4 : Int) : Prop := ∀ (v5 v6 v7 : Value) (s : bSt), E s → A (13, [.ref 200, .ref 11, .ref 12, .ref 154, .int (bn (l4 + 6)), v5, v6, v7], [], s)
theorem lc0 (hA : bClosed 13 bm357 (bWp 12) Q A) (h0 : 0 ≤ l4) (h1 : l4 ≤ 3066) (hL : l4 + 6 ≤ (bLen σ 200 : Int)) (hc : bK0 E σ) (nx : bNx A E l4) : A (25, [.ref 200, .ref 11, .ref 12, .ref 154, .int (bn l4), v5, v6, v7], [], σ) := by
  refine sq357_25 (bWp_mono _) hA ⟨by omega, by omega⟩ ?_
  refine ⟨⟨by omega, by omega⟩, ⟨by omega, by omega⟩, ?_⟩
  refine ⟨⟨by omega, by omega⟩, ⟨by omega, by omega⟩, ?_⟩
  refine bWp_mono 12 _ _ _ _ _ (bRn_m fun k s1 _ q => ?_) (hc (bi σ 200 (l4 + 1)) (bi σ 200 (l4 + 2)) (bi_rg _ _ _) (bi_rg _ _ _))
  obtain ⟨⟨mid1, mid2⟩, H⟩ := q
  simp only [mid1, mid2]
  refine ⟨⟨by omega, by omega⟩, ?_⟩
  refine ⟨⟨by omega, by omega⟩, ?_⟩
  refine bWp_mono 12 _ _ _ _ _ (bRn_m fun b s2 _ q => ?_) H
  obtain ⟨e1, e2, e3⟩ := q
  refine w196 (bTt e1 ⟨fun k0 => bTt (by rw [e2 k0]; exact bCmp_self _) ⟨⟨by omega, by omega⟩, nx _ _ _ _ e3⟩, fun _ => ⟨⟨by omega, by omega⟩, nx _ _ _ _ e3⟩⟩)
theorem lc1 (hA : bClosed 13 bm357 (bWp 12) Q A) (h0 : 0 ≤ l4) (h1 : l4 ≤ 3066) (hL : l4 + 6 ≤ (bLen σ 200 : Int)) (hc : bK1 E σ) (nx : bNx A E l4) : A (70, [.ref 200, .ref 11, .ref 12, .ref 154, .int (bn l4), v5, v6, v7], [], σ) := by
  refine sq357_70 (bWp_mono _) hA ⟨by omega, by omega⟩ ?_
  refine ⟨⟨by omega, by omega⟩, ⟨by omega, by omega⟩, ?_⟩
  refine bWp_mono 12 _ _ _ _ _ (bRn_m fun k s1 _ q => ?_) (hc (bi σ 200 (l4 + 1)) (bi_rg _ _ _))
  obtain ⟨⟨mid1, mid2⟩, H⟩ := q
  simp only [mid1, mid2]
  refine ⟨⟨by omega, by omega⟩, ?_⟩
  refine bWp_mono 12 _ _ _ _ _ (bRn_m fun b s2 _ q => ?_) H
  obtain ⟨e1, e2, e3⟩ := q
  refine w196 (bTt e1 ⟨fun k0 => bTt (by rw [e2 k0]; exact bCmp_self _) ⟨⟨by omega, by omega⟩, nx _ _ _ _ e3⟩, fun _ => ⟨⟨by omega, by omega⟩, nx _ _ _ _ e3⟩⟩)
theorem lc2 (hA : bClosed 13 bm357 (bWp 12) Q A) (h0 : 0 ≤ l4) (h1 : l4 ≤ 3066) (hL : l4 + 6 ≤ (bLen σ 200 : Int)) (hc : bK2 E σ) (nx : bNx A E l4) : A (105, [.ref 200, .ref 11, .ref 12, .ref 154, .int (bn l4), v5, v6, v7], [], σ) := by
  refine sq357_105 (bWp_mono _) hA ⟨by omega, by omega⟩ ?_
  refine ⟨⟨by omega, by omega⟩, ⟨by omega, by omega⟩, ?_⟩
  refine ⟨⟨by omega, by omega⟩, ⟨by omega, by omega⟩, ?_⟩
  by_cases z2 : bi σ 200 (l4 + 2) = 0
  · refine bTt z2 ?_
    refine sq357_120 (bWp_mono _) hA ⟨by omega, by omega⟩ (by decide) (bi_rg _ _ _) ?_
    refine bWp_mono 12 _ _ _ _ _ (bRn_m fun k s1 _ q => ?_) (hc (bi σ 200 (l4 + 1)) 0 (bi_rg _ _ _) (by decide))
    obtain ⟨⟨mid1, mid2⟩, H⟩ := q
    simp only [mid1, mid2]
    refine ⟨⟨by omega, by omega⟩, ⟨by omega, by omega⟩, ?_⟩
    refine ⟨⟨by omega, by omega⟩, ⟨by omega, by omega⟩, ?_⟩
    refine bTt z2 ?_
    refine bWp_mono 12 _ _ _ _ _ (bRn_m fun b s2 _ q => ?_) H
    obtain ⟨e1, e2, e3⟩ := q
    refine w196 (bTt e1 ⟨fun k0 => ⟨fun b0 => bTt (by rw [e2 k0, if_pos b0]; exact bCmp_self _) ⟨⟨by omega, by omega⟩, nx _ _ _ _ e3⟩, fun b0 => bTt (by rw [e2 k0, if_neg b0]; exact bCmp_self _) ⟨⟨by omega, by omega⟩, nx _ _ _ _ e3⟩⟩, fun _ => ⟨⟨by omega, by omega⟩, nx _ _ _ _ e3⟩⟩)
  · refine bFf z2 ?_
    refine sq357_120 (bWp_mono _) hA ⟨by omega, by omega⟩ (by decide) (bi_rg _ _ _) ?_
    refine bWp_mono 12 _ _ _ _ _ (bRn_m fun k s1 _ q => ?_) (hc (bi σ 200 (l4 + 1)) 1 (bi_rg _ _ _) (by decide))
    obtain ⟨⟨mid1, mid2⟩, H⟩ := q
    simp only [mid1, mid2]
    refine ⟨⟨by omega, by omega⟩, ⟨by omega, by omega⟩, ?_⟩
    refine ⟨⟨by omega, by omega⟩, ⟨by omega, by omega⟩, ?_⟩
    refine bFf z2 ?_
    refine bWp_mono 12 _ _ _ _ _ (bRn_m fun b s2 _ q => ?_) H
    obtain ⟨e1, e2, e3⟩ := q
    refine w196 (bTt e1 ⟨fun k0 => ⟨fun b0 => bTt (by rw [e2 k0, if_pos b0]; exact bCmp_self _) ⟨⟨by omega, by omega⟩, nx _ _ _ _ e3⟩, fun b0 => bTt (by rw [e2 k0, if_neg b0]; exact bCmp_self _) ⟨⟨by omega, by omega⟩, nx _ _ _ _ e3⟩⟩, fun _ => ⟨⟨by omega, by omega⟩, nx _ _ _ _ e3⟩⟩)
theorem lc3 (hA : bClosed 13 bm357 (bWp 12) Q A) (h0 : 0 ≤ l4) (h1 : l4 ≤ 3066) (hL : l4 + 6 ≤ (bLen σ 200 : Int)) (hc : bK3 E σ) (nx : bNx A E l4) : A (161, [.ref 200, .ref 11, .ref 12, .ref 154, .int (bn l4), v5, v6, v7], [], σ) := by
  refine sq357_161 (bWp_mono _) hA ⟨by omega, by omega⟩ ?_
  refine ⟨⟨by omega, by omega⟩, ⟨by omega, by omega⟩, ?_⟩
  refine bWp_mono 12 _ _ _ _ _ (bRn_m fun k s1 _ q => ?_) (hc (bi σ 200 (l4 + 1)) (bi_rg _ _ _))
  obtain ⟨⟨mid1, mid2⟩, H⟩ := q
  simp only [mid1, mid2]
  refine ⟨⟨by omega, by omega⟩, ?_⟩
  refine bWp_mono 12 _ _ _ _ _ (bRn_m fun b s2 _ q => ?_) H
  obtain ⟨e1, e2, e3⟩ := q
  refine w196 (bTt e1 ⟨fun k0 => bTt (by rw [e2 k0]; exact bCmp_self _) ⟨⟨by omega, by omega⟩, nx _ _ _ _ e3⟩, fun _ => ⟨⟨by omega, by omega⟩, nx _ _ _ _ e3⟩⟩)
theorem lc4 (hA : bClosed 13 bm357 (bWp 12) Q A) (h0 : 0 ≤ l4) (h1 : l4 ≤ 3066) (hL : l4 + 6 ≤ (bLen σ 200 : Int)) (hc : bK4 E σ) (nx : bNx A E l4) : A (196, [.ref 200, .ref 11, .ref 12, .ref 154, .int (bn l4), v5, v6, v7], [], σ) := by
  refine sq357_196 (bWp_mono _) hA ⟨by omega, by omega⟩ ?_
  refine ⟨⟨by omega, by omega⟩, ⟨by omega, by omega⟩, ?_⟩
  refine ⟨⟨by omega, by omega⟩, ⟨by omega, by omega⟩, ?_⟩
  refine ⟨⟨by omega, by omega⟩, ⟨by omega, by omega⟩, ?_⟩
  by_cases z3 : bi σ 200 (l4 + 3) = 0
  · refine bTt z3 ?_
    refine sq357_216 (bWp_mono _) hA ⟨by omega, by omega⟩ (by decide) (bi_rg _ _ _) (bi_rg _ _ _) ?_
    refine bWp_mono 12 _ _ _ _ _ (bRn_m fun k s1 _ q => ?_) (hc (bi σ 200 (l4 + 1)) (bi σ 200 (l4 + 2)) 0 (bi_rg _ _ _) (bi_rg _ _ _) (by decide))
    obtain ⟨⟨mid1, mid2⟩, H⟩ := q
    simp only [mid1, mid2]
    refine ⟨⟨by omega, by omega⟩, ⟨by omega, by omega⟩, ?_⟩
    refine ⟨⟨by omega, by omega⟩, ⟨by omega, by omega⟩, ?_⟩
    refine ⟨⟨by omega, by omega⟩, ⟨by omega, by omega⟩, ?_⟩
    refine bTt z3 ?_
    refine bWp_mono 12 _ _ _ _ _ (bRj_m fun b s2 q => ?_) H
    obtain ⟨e1, e2, e3⟩ := q
    refine w196 (bTt e1 ⟨fun k0 => bTt (by rw [e2 k0]; exact bCmp_self _) ⟨⟨by omega, by omega⟩, nx _ _ _ _ e3⟩, fun _ => ⟨⟨by omega, by omega⟩, nx _ _ _ _ e3⟩⟩)
  · refine bFf z3 ?_
    refine sq357_216 (bWp_mono _) hA ⟨by omega, by omega⟩ (by decide) (bi_rg _ _ _) (bi_rg _ _ _) ?_
    refine bWp_mono 12 _ _ _ _ _ (bRn_m fun k s1 _ q => ?_) (hc (bi σ 200 (l4 + 1)) (bi σ 200 (l4 + 2)) 1 (bi_rg _ _ _) (bi_rg _ _ _) (by decide))
    obtain ⟨⟨mid1, mid2⟩, H⟩ := q
    simp only [mid1, mid2]
    refine ⟨⟨by omega, by omega⟩, ⟨by omega, by omega⟩, ?_⟩
    refine ⟨⟨by omega, by omega⟩, ⟨by omega, by omega⟩, ?_⟩
    refine ⟨⟨by omega, by omega⟩, ⟨by omega, by omega⟩, ?_⟩
    refine bFf z3 ?_
    refine bWp_mono 12 _ _ _ _ _ (bRj_m fun b s2 q => ?_) H
    obtain ⟨e1, e2, e3⟩ := q
    refine w196 (bTt e1 ⟨fun k0 => bTt (by rw [e2 k0]; exact bCmp_self _) ⟨⟨by omega, by omega⟩, nx _ _ _ _ e3⟩, fun _ => ⟨⟨by omega, by omega⟩, nx _ _ _ _ e3⟩⟩)
theorem lc5 (hA : bClosed 13 bm357 (bWp 12) Q A) (h0 : 0 ≤ l4) (h1 : l4 ≤ 3066) (hL : l4 + 6 ≤ (bLen σ 200 : Int)) (hc : bK5 E σ) (nx : bNx A E l4) : A (258, [.ref 200, .ref 11, .ref 12, .ref 154, .int (bn l4), v5, v6, v7], [], σ) := by
  refine sq357_258 (bWp_mono _) hA ⟨by omega, by omega⟩ ?_
  refine ⟨⟨by omega, by omega⟩, ⟨by omega, by omega⟩, ?_⟩
  refine ⟨⟨by omega, by omega⟩, ⟨by omega, by omega⟩, ?_⟩
  refine ⟨⟨by omega, by omega⟩, ⟨by omega, by omega⟩, ?_⟩
  refine ⟨⟨by omega, by omega⟩, ⟨by omega, by omega⟩, ?_⟩
  refine ⟨⟨by omega, by omega⟩, ⟨by omega, by omega⟩, ?_⟩
  refine bWp_mono 12 _ _ _ _ _ (bRn_m fun k s1 _ q => ?_) (hc (bi σ 200 (l4 + 1)) (bi σ 200 (l4 + 2)) (bi σ 200 (l4 + 3)) (bi σ 200 (l4 + 4)) (bi σ 200 (l4 + 5)) (bi_rg _ _ _) (bi_rg _ _ _) (bi_rg _ _ _) (bi_rg _ _ _) (bi_rg _ _ _))
  obtain ⟨⟨mid1, mid2⟩, H⟩ := q
  simp only [mid1, mid2]
  refine ⟨⟨by omega, by omega⟩, ?_⟩
  refine ⟨⟨by omega, by omega⟩, ?_⟩
  refine ⟨⟨by omega, by omega⟩, ?_⟩
  refine ⟨⟨by omega, by omega⟩, ?_⟩
  refine ⟨⟨by omega, by omega⟩, ?_⟩
  refine bWp_mono 12 _ _ _ _ _ (bRn_m fun b s2 _ q => ?_) H
  obtain ⟨e1, e2, e3⟩ := q
  refine w196 (bTt e1 ⟨fun k0 => bTt (by rw [e2 k0]; exact bCmp_self _) ⟨⟨by omega, by omega⟩, nx _ _ _ _ e3⟩, fun _ => ⟨⟨by omega, by omega⟩, nx _ _ _ _ e3⟩⟩)
theorem lc6 (hA : bClosed 13 bm357 (bWp 12) Q A) (h0 : 0 ≤ l4) (h1 : l4 ≤ 3066) (hL : l4 + 6 ≤ (bLen σ 200 : Int)) (hc : bK6 E σ) (nx : bNx A E l4) : A (333, [.ref 200, .ref 11, .ref 12, .ref 154, .int (bn l4), v5, v6, v7], [], σ) := by
  refine sq357_333 (bWp_mono _) hA ⟨by omega, by omega⟩ ?_
  refine ⟨⟨by omega, by omega⟩, ⟨by omega, by omega⟩, ?_⟩
  refine ⟨⟨by omega, by omega⟩, ⟨by omega, by omega⟩, ?_⟩
  refine bWp_mono 12 _ _ _ _ _ (bRn_m fun k s1 _ q => ?_) (hc (bi σ 200 (l4 + 1)) (bi σ 200 (l4 + 2)) (bi_rg _ _ _) (bi_rg _ _ _))
  obtain ⟨⟨mid1, mid2⟩, H⟩ := q
  simp only [mid1, mid2]
  refine ⟨⟨by omega, by omega⟩, ?_⟩
  refine ⟨⟨by omega, by omega⟩, ?_⟩
  refine bWp_mono 12 _ _ _ _ _ (bRn_m fun b s2 _ q => ?_) H
  obtain ⟨e1, e2, e3⟩ := q
  refine w196 (bTt e1 ⟨fun k0 => bTt (by rw [e2 k0]; exact bCmp_self _) ⟨⟨by omega, by omega⟩, nx _ _ _ _ e3⟩, fun _ => ⟨⟨by omega, by omega⟩, nx _ _ _ _ e3⟩⟩)
theorem lc7 (hA : bClosed 13 bm357 (bWp 12) Q A) (h0 : 0 ≤ l4) (h1 : l4 ≤ 3066) (hL : l4 + 6 ≤ (bLen σ 200 : Int)) (hc : bK7 E σ) (nx : bNx A E l4) : A (378, [.ref 200, .ref 11, .ref 12, .ref 154, .int (bn l4), v5, v6, v7], [], σ) := by
  refine sq357_378 (bWp_mono _) hA ⟨by omega, by omega⟩ ?_
  refine ⟨⟨by omega, by omega⟩, ⟨by omega, by omega⟩, ?_⟩
  refine ⟨⟨by omega, by omega⟩, ⟨by omega, by omega⟩, ?_⟩
  refine bWp_mono 12 _ _ _ _ _ (bRn_m fun k s1 _ q => ?_) (hc (bi σ 200 (l4 + 1)) (bi σ 200 (l4 + 2)) (bi_rg _ _ _) (bi_rg _ _ _))
  obtain ⟨⟨mid1, mid2⟩, H⟩ := q
  simp only [mid1, mid2]
  refine ⟨⟨by omega, by omega⟩, ?_⟩
  refine ⟨⟨by omega, by omega⟩, ?_⟩
  refine bWp_mono 12 _ _ _ _ _ (bRn_m fun b s2 _ q => ?_) H
  obtain ⟨e1, e2, e3⟩ := q
  refine w196 (bTt e1 ⟨fun k0 => bTt (by rw [e2 k0]; exact bCmp_self _) ⟨⟨by omega, by omega⟩, nx _ _ _ _ e3⟩, fun _ => ⟨⟨by omega, by omega⟩, nx _ _ _ _ e3⟩⟩)
theorem lc8 (hA : bClosed 13 bm357 (bWp 12) Q A) (h0 : 0 ≤ l4) (h1 : l4 ≤ 3066) (hL : l4 + 6 ≤ (bLen σ 200 : Int)) (hc : bK8 E σ) (nx : bNx A E l4) : A (423, [.ref 200, .ref 11, .ref 12, .ref 154, .int (bn l4), v5, v6, v7], [], σ) := by
  refine sq357_423 (bWp_mono _) hA ⟨by omega, by omega⟩ ?_
  refine ⟨⟨by omega, by omega⟩, ⟨by omega, by omega⟩, ?_⟩
  refine ⟨⟨by omega, by omega⟩, ⟨by omega, by omega⟩, ?_⟩
  refine ⟨⟨by omega, by omega⟩, ⟨by omega, by omega⟩, ?_⟩
  refine bWp_mono 12 _ _ _ _ _ (bRn_m fun k s1 _ q => ?_) (hc (bi σ 200 (l4 + 1)) (bi σ 200 (l4 + 2)) (bi σ 200 (l4 + 3)) (bi_rg _ _ _) (bi_rg _ _ _) (bi_rg _ _ _))
  obtain ⟨⟨mid1, mid2⟩, H⟩ := q
  simp only [mid1, mid2]
  refine ⟨⟨by omega, by omega⟩, ?_⟩
  refine ⟨⟨by omega, by omega⟩, ?_⟩
  refine ⟨⟨by omega, by omega⟩, ?_⟩
  refine bWp_mono 12 _ _ _ _ _ (bRn_m fun b s2 _ q => ?_) H
  obtain ⟨e1, e2, e3⟩ := q
  refine w196 (bTt e1 ⟨fun k0 => bTt (by rw [e2 k0]; exact bCmp_self _) ⟨⟨by omega, by omega⟩, nx _ _ _ _ e3⟩, fun _ => ⟨⟨by omega, by omega⟩, nx _ _ _ _ e3⟩⟩)
theorem lc9 (hA : bClosed 13 bm357 (bWp 12) Q A) (h0 : 0 ≤ l4) (h1 : l4 ≤ 3066) (hL : l4 + 6 ≤ (bLen σ 200 : Int)) (hc : bK9 E σ) (nx : bNx A E l4) : A (478, [.ref 200, .ref 11, .ref 12, .ref 154, .int (bn l4), v5, v6, v7], [], σ) := by
  refine sq357_478 (bWp_mono _) hA ⟨by omega, by omega⟩ ?_
  refine ⟨⟨by omega, by omega⟩, ⟨by omega, by omega⟩, ?_⟩
  refine ⟨⟨by omega, by omega⟩, ⟨by omega, by omega⟩, ?_⟩
  refine bWp_mono 12 _ _ _ _ _ (bRn_m fun k s1 _ q => ?_) (hc (bi σ 200 (l4 + 1)) (bi σ 200 (l4 + 2)) (bi_rg _ _ _) (bi_rg _ _ _))
  obtain ⟨⟨mid1, mid2⟩, H⟩ := q
  simp only [mid1, mid2]
  refine ⟨⟨by omega, by omega⟩, ?_⟩
  refine ⟨⟨by omega, by omega⟩, ?_⟩
  refine bWp_mono 12 _ _ _ _ _ (bRn_m fun b s2 _ q => ?_) H
  obtain ⟨e1, e2, e3⟩ := q
  refine w196 (bTt e1 ⟨fun k0 => bTt (by rw [e2 k0]; exact bCmp_self _) ⟨⟨by omega, by omega⟩, nx _ _ _ _ e3⟩, fun _ => ⟨⟨by omega, by omega⟩, nx _ _ _ _ e3⟩⟩)
theorem lc10 (hA : bClosed 13 bm357 (bWp 12) Q A) (h0 : 0 ≤ l4) (h1 : l4 ≤ 3066) (hL : l4 + 6 ≤ (bLen σ 200 : Int)) (hc : bK10 E σ) (nx : bNx A E l4) : A (523, [.ref 200, .ref 11, .ref 12, .ref 154, .int (bn l4), v5, v6, v7], [], σ) := by
  refine sq357_523 (bWp_mono _) hA ⟨by omega, by omega⟩ ?_
  refine ⟨⟨by omega, by omega⟩, ⟨by omega, by omega⟩, ?_⟩
  refine ⟨⟨by omega, by omega⟩, ⟨by omega, by omega⟩, ?_⟩
  refine bWp_mono 12 _ _ _ _ _ (bRn_m fun k s1 _ q => ?_) (hc (bi σ 200 (l4 + 1)) (bi σ 200 (l4 + 2)) (bi_rg _ _ _) (bi_rg _ _ _))
  obtain ⟨⟨mid1, mid2⟩, H⟩ := q
  simp only [mid1, mid2]
  refine ⟨⟨by omega, by omega⟩, ?_⟩
  refine ⟨⟨by omega, by omega⟩, ?_⟩
  refine bWp_mono 12 _ _ _ _ _ (bRn_m fun b s2 _ q => ?_) H
  obtain ⟨e1, e2, e3⟩ := q
  refine w196 (bTt e1 ⟨fun k0 => bTt (by rw [e2 k0]; exact bCmp_self _) ⟨⟨by omega, by omega⟩, nx _ _ _ _ e3⟩, fun _ => ⟨⟨by omega, by omega⟩, nx _ _ _ _ e3⟩⟩)
theorem lc11 (hA : bClosed 13 bm357 (bWp 12) Q A) (h0 : 0 ≤ l4) (h1 : l4 ≤ 3066) (hL : l4 + 6 ≤ (bLen σ 200 : Int)) (hc : bK11 E σ) (nx : bNx A E l4) : A (568, [.ref 200, .ref 11, .ref 12, .ref 154, .int (bn l4), v5, v6, v7], [], σ) := by
  refine sq357_568 (bWp_mono _) hA ⟨by omega, by omega⟩ ?_
  refine ⟨⟨by omega, by omega⟩, ⟨by omega, by omega⟩, ?_⟩
  refine ⟨⟨by omega, by omega⟩, ⟨by omega, by omega⟩, ?_⟩
  refine ⟨⟨by omega, by omega⟩, ⟨by omega, by omega⟩, ?_⟩
  refine ⟨⟨by omega, by omega⟩, ⟨by omega, by omega⟩, ?_⟩
  refine bWp_mono 12 _ _ _ _ _ (bRn_m fun k s1 _ q => ?_) (hc (bi σ 200 (l4 + 1)) (bi σ 200 (l4 + 2)) (bi σ 200 (l4 + 3)) (bi σ 200 (l4 + 4)) (bi_rg _ _ _) (bi_rg _ _ _) (bi_rg _ _ _) (bi_rg _ _ _))
  obtain ⟨⟨mid1, mid2⟩, H⟩ := q
  simp only [mid1, mid2]
  refine ⟨⟨by omega, by omega⟩, ?_⟩
  refine ⟨⟨by omega, by omega⟩, ?_⟩
  refine ⟨⟨by omega, by omega⟩, ?_⟩
  refine ⟨⟨by omega, by omega⟩, ?_⟩
  refine bWp_mono 12 _ _ _ _ _ (bRn_m fun b s2 _ q => ?_) H
  obtain ⟨e1, e2, e3⟩ := q
  refine w196 (bTt e1 ⟨fun k0 => bTt (by rw [e2 k0]; exact bCmp_self _) ⟨⟨by omega, by omega⟩, nx _ _ _ _ e3⟩, fun _ => ⟨⟨by omega, by omega⟩, nx _ _ _ _ e3⟩⟩)
theorem lc12 (hA : bClosed 13 bm357 (bWp 12) Q A) (h0 : 0 ≤ l4) (h1 : l4 ≤ 3066) (hL : l4 + 6 ≤ (bLen σ 200 : Int)) (hc : bK12 E σ) (nx : bNx A E l4) : A (633, [.ref 200, .ref 11, .ref 12, .ref 154, .int (bn l4), v5, v6, v7], [], σ) := by
  refine sq357_633 (bWp_mono _) hA ⟨by omega, by omega⟩ ?_
  refine ⟨⟨by omega, by omega⟩, ⟨by omega, by omega⟩, ?_⟩
  refine bWp_mono 12 _ _ _ _ _ (bRn_m fun k s1 _ q => ?_) (hc (bi σ 200 (l4 + 1)) (bi_rg _ _ _))
  obtain ⟨⟨mid1, mid2⟩, H⟩ := q
  simp only [mid1, mid2]
  refine ⟨⟨by omega, by omega⟩, ?_⟩
  refine bWp_mono 12 _ _ _ _ _ (bRn_m fun b s2 _ q => ?_) H
  obtain ⟨e1, e2, e3⟩ := q
  refine w196 (bTt e1 ⟨fun k0 => bTt (by rw [e2 k0]; exact bCmp_self _) ⟨⟨by omega, by omega⟩, nx _ _ _ _ e3⟩, fun _ => ⟨⟨by omega, by omega⟩, nx _ _ _ _ e3⟩⟩)
theorem lc13 (hA : bClosed 13 bm357 (bWp 12) Q A) (h0 : 0 ≤ l4) (h1 : l4 ≤ 3066) (hL : l4 + 6 ≤ (bLen σ 200 : Int)) (hc : bK13 E σ) (nx : bNx A E l4) : A (668, [.ref 200, .ref 11, .ref 12, .ref 154, .int (bn l4), v5, v6, v7], [], σ) := by
  refine sq357_668 (bWp_mono _) hA ⟨by omega, by omega⟩ ?_
  refine ⟨⟨by omega, by omega⟩, ⟨by omega, by omega⟩, ?_⟩
  refine ⟨⟨by omega, by omega⟩, ⟨by omega, by omega⟩, ?_⟩
  refine ⟨⟨by omega, by omega⟩, ⟨by omega, by omega⟩, ?_⟩
  refine bWp_mono 12 _ _ _ _ _ (bRn_m fun k s1 _ q => ?_) (hc (bi σ 200 (l4 + 1)) (bi σ 200 (l4 + 2)) (bi σ 200 (l4 + 3)) (bi_rg _ _ _) (bi_rg _ _ _) (bi_rg _ _ _))
  obtain ⟨⟨mid1, mid2⟩, H⟩ := q
  simp only [mid1, mid2]
  refine ⟨⟨by omega, by omega⟩, ?_⟩
  refine ⟨⟨by omega, by omega⟩, ?_⟩
  refine ⟨⟨by omega, by omega⟩, ?_⟩
  refine bWp_mono 12 _ _ _ _ _ (bRn_m fun b s2 _ q => ?_) H
  obtain ⟨e1, e2, e3⟩ := q
  refine w196 (bTt e1 ⟨fun k0 => bTt (by rw [e2 k0]; exact bCmp_self _) ⟨⟨by omega, by omega⟩, nx _ _ _ _ e3⟩, fun _ => ⟨⟨by omega, by omega⟩, nx _ _ _ _ e3⟩⟩)
theorem lc14 (hA : bClosed 13 bm357 (bWp 12) Q A) (h0 : 0 ≤ l4) (h1 : l4 ≤ 3066) (hL : l4 + 6 ≤ (bLen σ 200 : Int)) (hc : bK14 E σ) (nx : bNx A E l4) : A (723, [.ref 200, .ref 11, .ref 12, .ref 154, .int (bn l4), v5, v6, v7], [], σ) := by
  refine sq357_723 (bWp_mono _) hA ⟨by omega, by omega⟩ ?_
  refine ⟨⟨by omega, by omega⟩, ⟨by omega, by omega⟩, ?_⟩
  refine ⟨⟨by omega, by omega⟩, ⟨by omega, by omega⟩, ?_⟩
  refine ⟨⟨by omega, by omega⟩, ⟨by omega, by omega⟩, ?_⟩
  refine bWp_mono 12 _ _ _ _ _ (bRn_m fun k s1 _ q => ?_) (hc (bi σ 200 (l4 + 1)) (bi σ 200 (l4 + 2)) (bi σ 200 (l4 + 3)) (bi_rg _ _ _) (bi_rg _ _ _) (bi_rg _ _ _))
  obtain ⟨⟨mid1, mid2⟩, H⟩ := q
  simp only [mid1, mid2]
  refine ⟨⟨by omega, by omega⟩, ?_⟩
  refine ⟨⟨by omega, by omega⟩, ?_⟩
  refine ⟨⟨by omega, by omega⟩, ?_⟩
  refine bWp_mono 12 _ _ _ _ _ (bRv_m fun s2 q => ?_) H
  obtain ⟨e1, e3⟩ := q
  refine w196 (bTt e1 ⟨⟨by omega, by omega⟩, nx _ _ _ _ e3⟩)
theorem lc15 (hA : bClosed 13 bm357 (bWp 12) Q A) (h0 : 0 ≤ l4) (h1 : l4 ≤ 3066) (hL : l4 + 6 ≤ (bLen σ 200 : Int)) (hc : bK15 E σ) (nx : bNx A E l4) : A (765, [.ref 200, .ref 11, .ref 12, .ref 154, .int (bn l4), v5, v6, v7], [], σ) := by
  refine sq357_765 (bWp_mono _) hA ⟨by omega, by omega⟩ ?_
  refine ⟨⟨by omega, by omega⟩, ⟨by omega, by omega⟩, ?_⟩
  refine ⟨⟨by omega, by omega⟩, ⟨by omega, by omega⟩, ?_⟩
  refine ⟨⟨by omega, by omega⟩, ⟨by omega, by omega⟩, ?_⟩
  refine ⟨⟨by omega, by omega⟩, ⟨by omega, by omega⟩, ?_⟩
  refine bWp_mono 12 _ _ _ _ _ (bRn_m fun k s1 _ q => ?_) (hc (bi σ 200 (l4 + 1)) (bi σ 200 (l4 + 2)) (bi σ 200 (l4 + 3)) (bi σ 200 (l4 + 4)) (bi_rg _ _ _) (bi_rg _ _ _) (bi_rg _ _ _) (bi_rg _ _ _))
  obtain ⟨⟨mid1, mid2⟩, H⟩ := q
  simp only [mid1, mid2]
  refine ⟨⟨by omega, by omega⟩, ?_⟩
  refine ⟨⟨by omega, by omega⟩, ?_⟩
  refine ⟨⟨by omega, by omega⟩, ?_⟩
  refine ⟨⟨by omega, by omega⟩, ?_⟩
  refine bWp_mono 12 _ _ _ _ _ (bRn_m fun b s2 _ q => ?_) H
  obtain ⟨e1, e2, e3⟩ := q
  refine w196 (bTt e1 ⟨fun k0 => bTt (by rw [e2 k0]; exact bCmp_self _) ⟨⟨by omega, by omega⟩, nx _ _ _ _ e3⟩, fun _ => ⟨⟨by omega, by omega⟩, nx _ _ _ _ e3⟩⟩)
theorem lc16 (hA : bClosed 13 bm357 (bWp 12) Q A) (h0 : 0 ≤ l4) (h1 : l4 ≤ 3066) (hL : l4 + 6 ≤ (bLen σ 200 : Int)) (hc : bK16 E σ) (nx : bNx A E l4) : A (830, [.ref 200, .ref 11, .ref 12, .ref 154, .int (bn l4), v5, v6, v7], [], σ) := by
  refine sq357_830 (bWp_mono _) hA ⟨by omega, by omega⟩ ?_
  refine ⟨⟨by omega, by omega⟩, ⟨by omega, by omega⟩, ?_⟩
  refine ⟨⟨by omega, by omega⟩, ⟨by omega, by omega⟩, ?_⟩
  refine bWp_mono 12 _ _ _ _ _ (bRn_m fun k s1 _ q => ?_) (hc (bi σ 200 (l4 + 1)) (bi σ 200 (l4 + 2)) (bi_rg _ _ _) (bi_rg _ _ _))
  obtain ⟨⟨mid1, mid2⟩, H⟩ := q
  simp only [mid1, mid2]
  refine ⟨⟨by omega, by omega⟩, ?_⟩
  refine ⟨⟨by omega, by omega⟩, ?_⟩
  refine bWp_mono 12 _ _ _ _ _ (bRn_m fun b s2 _ q => ?_) H
  obtain ⟨e1, e2, e3⟩ := q
  refine w196 (bTt e1 ⟨fun k0 => bTt (by rw [e2 k0]; exact bCmp_self _) ⟨⟨by omega, by omega⟩, nx _ _ _ _ e3⟩, fun _ => ⟨⟨by omega, by omega⟩, nx _ _ _ _ e3⟩⟩)
theorem lc17 (hA : bClosed 13 bm357 (bWp 12) Q A) (h0 : 0 ≤ l4) (h1 : l4 ≤ 3066) (hL : l4 + 6 ≤ (bLen σ 200 : Int)) (hc : bK17 E σ) (nx : bNx A E l4) : A (875, [.ref 200, .ref 11, .ref 12, .ref 154, .int (bn l4), v5, v6, v7], [], σ) := by
  refine sq357_875 (bWp_mono _) hA ⟨by omega, by omega⟩ ?_
  refine ⟨⟨by omega, by omega⟩, ⟨by omega, by omega⟩, ?_⟩
  refine ⟨⟨by omega, by omega⟩, ⟨by omega, by omega⟩, ?_⟩
  refine ⟨⟨by omega, by omega⟩, ⟨by omega, by omega⟩, ?_⟩
  by_cases z3 : bi σ 200 (l4 + 3) = 0
  · refine bTt z3 ?_
    refine sq357_895 (bWp_mono _) hA ⟨by omega, by omega⟩ (by decide) (bi_rg _ _ _) (bi_rg _ _ _) ?_
    refine bWp_mono 12 _ _ _ _ _ (bRn_m fun k s1 _ q => ?_) (hc (bi σ 200 (l4 + 1)) (bi σ 200 (l4 + 2)) 0 (bi_rg _ _ _) (bi_rg _ _ _) (by decide))
    obtain ⟨⟨mid1, mid2⟩, H⟩ := q
    simp only [mid1, mid2]
    refine ⟨⟨by omega, by omega⟩, ⟨by omega, by omega⟩, ?_⟩
    refine ⟨⟨by omega, by omega⟩, ⟨by omega, by omega⟩, ?_⟩
    refine ⟨⟨by omega, by omega⟩, ⟨by omega, by omega⟩, ?_⟩
    refine bTt z3 ?_
    refine bWp_mono 12 _ _ _ _ _ (bRn_m fun b s2 _ q => ?_) H
    obtain ⟨e1, e2, e3⟩ := q
    refine w196 (bTt e1 ⟨fun k0 => bTt (by rw [e2 k0]; exact bCmp_self _) ⟨⟨by omega, by omega⟩, nx _ _ _ _ e3⟩, fun _ => ⟨⟨by omega, by omega⟩, nx _ _ _ _ e3⟩⟩)
  · refine bFf z3 ?_
    refine sq357_895 (bWp_mono _) hA ⟨by omega, by omega⟩ (by decide) (bi_rg _ _ _) (bi_rg _ _ _) ?_
    refine bWp_mono 12 _ _ _ _ _ (bRn_m fun k s1 _ q => ?_) (hc (bi σ 200 (l4 + 1)) (bi σ 200 (l4 + 2)) 1 (bi_rg _ _ _) (bi_rg _ _ _) (by decide))
    obtain ⟨⟨mid1, mid2⟩, H⟩ := q
    simp only [mid1, mid2]
    refine ⟨⟨by omega, by omega⟩, ⟨by omega, by omega⟩, ?_⟩
    refine ⟨⟨by omega, by omega⟩, ⟨by omega, by omega⟩, ?_⟩
    refine ⟨⟨by omega, by omega⟩, ⟨by omega, by omega⟩, ?_⟩
    refine bFf z3 ?_
    refine bWp_mono 12 _ _ _ _ _ (bRn_m fun b s2 _ q => ?_) H
    obtain ⟨e1, e2, e3⟩ := q
    refine w196 (bTt e1 ⟨fun k0 => bTt (by rw [e2 k0]; exact bCmp_self _) ⟨⟨by omega, by omega⟩, nx _ _ _ _ e3⟩, fun _ => ⟨⟨by omega, by omega⟩, nx _ _ _ _ e3⟩⟩)
theorem lc18 (hA : bClosed 13 bm357 (bWp 12) Q A) (h0 : 0 ≤ l4) (h1 : l4 ≤ 3066) (hL : l4 + 6 ≤ (bLen σ 200 : Int)) (hc : bK18 E σ) (nx : bNx A E l4) : A (938, [.ref 200, .ref 11, .ref 12, .ref 154, .int (bn l4), v5, v6, v7], [], σ) := by
  refine sq357_938 (bWp_mono _) hA ⟨by omega, by omega⟩ ?_
  refine ⟨⟨by omega, by omega⟩, ⟨by omega, by omega⟩, ?_⟩
  refine ⟨⟨by omega, by omega⟩, ⟨by omega, by omega⟩, ?_⟩
  refine bWp_mono 12 _ _ _ _ _ (bRn_m fun k s1 _ q => ?_) (hc (bi σ 200 (l4 + 1)) (bi σ 200 (l4 + 2)) (bi_rg _ _ _) (bi_rg _ _ _))
  obtain ⟨⟨mid1, mid2⟩, H⟩ := q
  simp only [mid1, mid2]
  refine ⟨⟨by omega, by omega⟩, ?_⟩
  refine ⟨⟨by omega, by omega⟩, ?_⟩
  refine bWp_mono 12 _ _ _ _ _ (bRn_m fun b s2 _ q => ?_) H
  obtain ⟨e1, e2, e3⟩ := q
  refine w196 (bTt e1 ⟨fun k0 => bTt (by rw [e2 k0]; exact bCmp_self _) ⟨⟨by omega, by omega⟩, nx _ _ _ _ e3⟩, fun _ => ⟨⟨by omega, by omega⟩, nx _ _ _ _ e3⟩⟩)
theorem lc19 (hA : bClosed 13 bm357 (bWp 12) Q A) (h0 : 0 ≤ l4) (h1 : l4 ≤ 3066) (hL : l4 + 6 ≤ (bLen σ 200 : Int)) (hc : bK19 E σ) (nx : bNx A E l4) : A (983, [.ref 200, .ref 11, .ref 12, .ref 154, .int (bn l4), v5, v6, v7], [], σ) := by
  refine sq357_983 (bWp_mono _) hA ⟨by omega, by omega⟩ ?_
  refine ⟨⟨by omega, by omega⟩, ⟨by omega, by omega⟩, ?_⟩
  refine bWp_mono 12 _ _ _ _ _ (bRn_m fun k s1 _ q => ?_) (hc (bi σ 200 (l4 + 1)) (bi_rg _ _ _))
  obtain ⟨⟨mid1, mid2⟩, H⟩ := q
  simp only [mid1, mid2]
  refine ⟨⟨by omega, by omega⟩, ?_⟩
  refine bWp_mono 12 _ _ _ _ _ (bRn_m fun b s2 _ q => ?_) H
  obtain ⟨e1, e2, e3⟩ := q
  refine w196 (bTt e1 ⟨fun k0 => bTt (by rw [e2 k0]; exact bCmp_self _) ⟨⟨by omega, by omega⟩, nx _ _ _ _ e3⟩, fun _ => ⟨⟨by omega, by omega⟩, nx _ _ _ _ e3⟩⟩)
theorem lc20 (hA : bClosed 13 bm357 (bWp 12) Q A) (h0 : 0 ≤ l4) (h1 : l4 ≤ 3066) (hL : l4 + 6 ≤ (bLen σ 200 : Int)) (hc : bK20 E σ) (nx : bNx A E l4) : A (1018, [.ref 200, .ref 11, .ref 12, .ref 154, .int (bn l4), v5, v6, v7], [], σ) := by
  refine sq357_1018 (bWp_mono _) hA ⟨by omega, by omega⟩ ?_
  refine ⟨⟨by omega, by omega⟩, ⟨by omega, by omega⟩, ?_⟩
  refine ⟨⟨by omega, by omega⟩, ⟨by omega, by omega⟩, ?_⟩
  refine bWp_mono 12 _ _ _ _ _ (bRn_m fun k s1 _ q => ?_) (hc (bi σ 200 (l4 + 1)) (bi σ 200 (l4 + 2)) (bi_rg _ _ _) (bi_rg _ _ _))
  obtain ⟨⟨mid1, mid2⟩, H⟩ := q
  simp only [mid1, mid2]
  refine ⟨⟨by omega, by omega⟩, ?_⟩
  refine ⟨⟨by omega, by omega⟩, ?_⟩
  refine bWp_mono 12 _ _ _ _ _ (bRn_m fun b s2 _ q => ?_) H
  obtain ⟨e1, e2, e3⟩ := q
  refine w196 (bTt e1 ⟨fun k0 => bTt (by rw [e2 k0]; exact bCmp_self _) ⟨⟨by omega, by omega⟩, nx _ _ _ _ e3⟩, fun _ => ⟨⟨by omega, by omega⟩, nx _ _ _ _ e3⟩⟩)
theorem lc21 (hA : bClosed 13 bm357 (bWp 12) Q A) (h0 : 0 ≤ l4) (h1 : l4 ≤ 3066) (hL : l4 + 6 ≤ (bLen σ 200 : Int)) (hc : bK21 E σ) (nx : bNx A E l4) : A (1063, [.ref 200, .ref 11, .ref 12, .ref 154, .int (bn l4), v5, v6, v7], [], σ) := by
  refine sq357_1063 (bWp_mono _) hA ⟨by omega, by omega⟩ ?_
  refine ⟨⟨by omega, by omega⟩, ⟨by omega, by omega⟩, ?_⟩
  refine ⟨⟨by omega, by omega⟩, ⟨by omega, by omega⟩, ?_⟩
  refine ⟨⟨by omega, by omega⟩, ⟨by omega, by omega⟩, ?_⟩
  refine bWp_mono 12 _ _ _ _ _ (bRn_m fun k s1 _ q => ?_) (hc (bi σ 200 (l4 + 1)) (bi σ 200 (l4 + 2)) (bi σ 200 (l4 + 3)) (bi_rg _ _ _) (bi_rg _ _ _) (bi_rg _ _ _))
  obtain ⟨⟨mid1, mid2⟩, H⟩ := q
  simp only [mid1, mid2]
  refine ⟨⟨by omega, by omega⟩, ?_⟩
  refine ⟨⟨by omega, by omega⟩, ?_⟩
  refine ⟨⟨by omega, by omega⟩, ?_⟩
  refine bWp_mono 12 _ _ _ _ _ (bRv_m fun s2 q => ?_) H
  obtain ⟨e1, e3⟩ := q
  refine w196 (bTt e1 ⟨⟨by omega, by omega⟩, nx _ _ _ _ e3⟩)
theorem lc22 (hA : bClosed 13 bm357 (bWp 12) Q A) (h0 : 0 ≤ l4) (h1 : l4 ≤ 3066) (hL : l4 + 6 ≤ (bLen σ 200 : Int)) (hc : bK22 E σ) (nx : bNx A E l4) : A (1105, [.ref 200, .ref 11, .ref 12, .ref 154, .int (bn l4), v5, v6, v7], [], σ) := by
  refine sq357_1105 (bWp_mono _) hA ⟨by omega, by omega⟩ ?_
  refine ⟨⟨by omega, by omega⟩, ⟨by omega, by omega⟩, ?_⟩
  refine ⟨⟨by omega, by omega⟩, ⟨by omega, by omega⟩, ?_⟩
  refine ⟨⟨by omega, by omega⟩, ⟨by omega, by omega⟩, ?_⟩
  refine ⟨⟨by omega, by omega⟩, ⟨by omega, by omega⟩, ?_⟩
  by_cases z4 : bi σ 200 (l4 + 4) = 0
  · refine bTt z4 ?_
    refine sq357_1130 (bWp_mono _) hA ⟨by omega, by omega⟩ (by decide) (bi_rg _ _ _) (bi_rg _ _ _) (bi_rg _ _ _) ?_
    refine bWp_mono 12 _ _ _ _ _ (bRn_m fun k s1 _ q => ?_) (hc (bi σ 200 (l4 + 1)) (bi σ 200 (l4 + 2)) (bi σ 200 (l4 + 3)) 0 (bi_rg _ _ _) (bi_rg _ _ _) (bi_rg _ _ _) (by decide))
    obtain ⟨⟨mid1, mid2⟩, H⟩ := q
    simp only [mid1, mid2]
    refine ⟨⟨by omega, by omega⟩, ⟨by omega, by omega⟩, ?_⟩
    refine ⟨⟨by omega, by omega⟩, ⟨by omega, by omega⟩, ?_⟩
    refine ⟨⟨by omega, by omega⟩, ⟨by omega, by omega⟩, ?_⟩
    refine ⟨⟨by omega, by omega⟩, ⟨by omega, by omega⟩, ?_⟩
    refine bTt z4 ?_
    refine bWp_mono 12 _ _ _ _ _ (bRv_m fun s2 q => ?_) H
    obtain ⟨e1, e3⟩ := q
    refine w196 (bTt e1 ⟨⟨by omega, by omega⟩, nx _ _ _ _ e3⟩)
  · refine bFf z4 ?_
    refine sq357_1130 (bWp_mono _) hA ⟨by omega, by omega⟩ (by decide) (bi_rg _ _ _) (bi_rg _ _ _) (bi_rg _ _ _) ?_
    refine bWp_mono 12 _ _ _ _ _ (bRn_m fun k s1 _ q => ?_) (hc (bi σ 200 (l4 + 1)) (bi σ 200 (l4 + 2)) (bi σ 200 (l4 + 3)) 1 (bi_rg _ _ _) (bi_rg _ _ _) (bi_rg _ _ _) (by decide))
    obtain ⟨⟨mid1, mid2⟩, H⟩ := q
    simp only [mid1, mid2]
    refine ⟨⟨by omega, by omega⟩, ⟨by omega, by omega⟩, ?_⟩
    refine ⟨⟨by omega, by omega⟩, ⟨by omega, by omega⟩, ?_⟩
    refine ⟨⟨by omega, by omega⟩, ⟨by omega, by omega⟩, ?_⟩
    refine ⟨⟨by omega, by omega⟩, ⟨by omega, by omega⟩, ?_⟩
    refine bFf z4 ?_
    refine bWp_mono 12 _ _ _ _ _ (bRv_m fun s2 q => ?_) H
    obtain ⟨e1, e3⟩ := q
    refine w196 (bTt e1 ⟨⟨by omega, by omega⟩, nx _ _ _ _ e3⟩)
theorem lc23 (hA : bClosed 13 bm357 (bWp 12) Q A) (h0 : 0 ≤ l4) (h1 : l4 ≤ 3066) (hL : l4 + 6 ≤ (bLen σ 200 : Int)) (hc : bK23 E σ) (nx : bNx A E l4) : A (1165, [.ref 200, .ref 11, .ref 12, .ref 154, .int (bn l4), v5, v6, v7], [], σ) := by
  refine sq357_1165 (bWp_mono _) hA ⟨by omega, by omega⟩ ?_
  refine ⟨⟨by omega, by omega⟩, ⟨by omega, by omega⟩, ?_⟩
  refine ⟨⟨by omega, by omega⟩, ⟨by omega, by omega⟩, ?_⟩
  refine ⟨⟨by omega, by omega⟩, ⟨by omega, by omega⟩, ?_⟩
  refine bWp_mono 12 _ _ _ _ _ (bRn_m fun k s1 _ q => ?_) (hc (bi σ 200 (l4 + 1)) (bi σ 200 (l4 + 2)) (bi σ 200 (l4 + 3)) (bi_rg _ _ _) (bi_rg _ _ _) (bi_rg _ _ _))
  obtain ⟨⟨mid1, mid2⟩, H⟩ := q
  simp only [mid1, mid2]
  refine ⟨⟨by omega, by omega⟩, ?_⟩
  refine ⟨⟨by omega, by omega⟩, ?_⟩
  refine ⟨⟨by omega, by omega⟩, ?_⟩
  refine bWp_mono 12 _ _ _ _ _ (bRv_m fun s2 q => ?_) H
  obtain ⟨e1, e3⟩ := q
  refine w196 (bTt e1 ⟨⟨by omega, by omega⟩, nx _ _ _ _ e3⟩)
theorem lc24 (hA : bClosed 13 bm357 (bWp 12) Q A) (h0 : 0 ≤ l4) (h1 : l4 ≤ 3066) (hL : l4 + 6 ≤ (bLen σ 200 : Int)) (hc : bK24 E σ) (nx : bNx A E l4) : A (1207, [.ref 200, .ref 11, .ref 12, .ref 154, .int (bn l4), v5, v6, v7], [], σ) := by
  refine sq357_1207 (bWp_mono _) hA ⟨by omega, by omega⟩ ?_
  refine ⟨⟨by omega, by omega⟩, ⟨by omega, by omega⟩, ?_⟩
  refine ⟨⟨by omega, by omega⟩, ⟨by omega, by omega⟩, ?_⟩
  refine bWp_mono 12 _ _ _ _ _ (bRn_m fun k s1 _ q => ?_) (hc (bi σ 200 (l4 + 1)) (bi σ 200 (l4 + 2)) (bi_rg _ _ _) (bi_rg _ _ _))
  obtain ⟨⟨mid1, mid2⟩, H⟩ := q
  simp only [mid1, mid2]
  refine ⟨⟨by omega, by omega⟩, ?_⟩
  refine ⟨⟨by omega, by omega⟩, ?_⟩
  refine bWp_mono 12 _ _ _ _ _ (bRn_m fun b s2 _ q => ?_) H
  obtain ⟨e1, e2, e3⟩ := q
  refine w196 (bTt e1 ⟨fun k0 => bTt (by rw [e2 k0]; exact bCmp_self _) ⟨⟨by omega, by omega⟩, nx _ _ _ _ e3⟩, fun _ => ⟨⟨by omega, by omega⟩, nx _ _ _ _ e3⟩⟩)
theorem lc25 (hA : bClosed 13 bm357 (bWp 12) Q A) (h0 : 0 ≤ l4) (h1 : l4 ≤ 3066) (hL : l4 + 6 ≤ (bLen σ 200 : Int)) (hc : bK25 E σ) (nx : bNx A E l4) : A (1252, [.ref 200, .ref 11, .ref 12, .ref 154, .int (bn l4), v5, v6, v7], [], σ) := by
  refine sq357_1252 (bWp_mono _) hA ⟨by omega, by omega⟩ ?_
  refine ⟨⟨by omega, by omega⟩, ⟨by omega, by omega⟩, ?_⟩
  refine ⟨⟨by omega, by omega⟩, ⟨by omega, by omega⟩, ?_⟩
  refine bWp_mono 12 _ _ _ _ _ (bRn_m fun k s1 _ q => ?_) (hc (bi σ 200 (l4 + 1)) (bi σ 200 (l4 + 2)) (bi_rg _ _ _) (bi_rg _ _ _))
  obtain ⟨⟨mid1, mid2⟩, H⟩ := q
  simp only [mid1, mid2]
  refine ⟨⟨by omega, by omega⟩, ?_⟩
  refine ⟨⟨by omega, by omega⟩, ?_⟩
  refine bWp_mono 12 _ _ _ _ _ (bRn_m fun b s2 _ q => ?_) H
  obtain ⟨e1, e2, e3⟩ := q
  refine w196 (bTt e1 ⟨fun k0 => bTt (by rw [e2 k0]; exact bCmp_self _) ⟨⟨by omega, by omega⟩, nx _ _ _ _ e3⟩, fun _ => ⟨⟨by omega, by omega⟩, nx _ _ _ _ e3⟩⟩)
theorem lc26 (hA : bClosed 13 bm357 (bWp 12) Q A) (h0 : 0 ≤ l4) (h1 : l4 ≤ 3066) (hL : l4 + 6 ≤ (bLen σ 200 : Int)) (hc : bK26 E σ) (nx : bNx A E l4) : A (1297, [.ref 200, .ref 11, .ref 12, .ref 154, .int (bn l4), v5, v6, v7], [], σ) := by
  refine sq357_1297 (bWp_mono _) hA ⟨by omega, by omega⟩ ?_
  refine ⟨⟨by omega, by omega⟩, ⟨by omega, by omega⟩, ?_⟩
  by_cases z1 : bi σ 200 (l4 + 1) = 0
  · refine bTt z1 ?_
    refine bWp_mono 12 _ _ _ _ _ (bRn_m fun k s1 _ q => ?_) (hc 0 (by decide))
    obtain ⟨⟨mid1, mid2⟩, H⟩ := q
    simp only [mid1, mid2]
    refine ⟨⟨by omega, by omega⟩, ?_⟩
    refine bTt z1 ?_
    refine bWp_mono 12 _ _ _ _ _ (bRn_m fun b s2 _ q => ?_) H
    obtain ⟨e1, e3⟩ := q
    exact bTt e1 ⟨⟨by omega, by omega⟩, nx _ _ _ _ e3⟩
  · refine bFf z1 ?_
    refine bWp_mono 12 _ _ _ _ _ (bRn_m fun k s1 _ q => ?_) (hc 1 (by decide))
    obtain ⟨⟨mid1, mid2⟩, H⟩ := q
    simp only [mid1, mid2]
    refine ⟨⟨by omega, by omega⟩, ?_⟩
    refine bFf z1 ?_
    refine bWp_mono 12 _ _ _ _ _ (bRn_m fun b s2 _ q => ?_) H
    obtain ⟨e1, e3⟩ := q
    exact bTt e1 ⟨⟨by omega, by omega⟩, nx _ _ _ _ e3⟩
theorem lc27 (hA : bClosed 13 bm357 (bWp 12) Q A) (h0 : 0 ≤ l4) (h1 : l4 ≤ 3066) (hL : l4 + 6 ≤ (bLen σ 200 : Int)) (hc : bK27 E σ) (nx : bNx A E l4) : A (1322, [.ref 200, .ref 11, .ref 12, .ref 154, .int (bn l4), v5, v6, v7], [], σ) := by
  refine sq357_1322 (bWp_mono _) hA ⟨by omega, by omega⟩ ?_
  refine ⟨⟨by omega, by omega⟩, ⟨by omega, by omega⟩, ?_⟩
  by_cases z1 : bi σ 200 (l4 + 1) = 0
  · refine bTt z1 ?_
    refine sq357_1332 (bWp_mono _) hA ⟨by omega, by omega⟩ (by decide) ?_
    refine ⟨⟨by omega, by omega⟩, ⟨by omega, by omega⟩, ?_⟩
    refine bWp_mono 12 _ _ _ _ _ (bRn_m fun k s1 _ q => ?_) (hc 0 (bi σ 200 (l4 + 2)) (by decide) (bi_rg _ _ _))
    obtain ⟨⟨mid1, mid2⟩, H⟩ := q
    simp only [mid1, mid2]
    refine ⟨⟨by omega, by omega⟩, ⟨by omega, by omega⟩, ?_⟩
    refine bTt z1 ?_
    refine ⟨⟨by omega, by omega⟩, ?_⟩
    refine bWp_mono 12 _ _ _ _ _ (bRn_m fun b s2 _ q => ?_) H
    obtain ⟨e1, e2, e3⟩ := q
    refine w196 (bTt e1 ⟨fun k0 => ⟨fun b0 => bTt (by rw [e2 k0, if_pos b0]; exact bCmp_self _) ⟨⟨by omega, by omega⟩, nx _ _ _ _ e3⟩, fun b0 => bTt (by rw [e2 k0, if_neg b0]; exact bCmp_self _) ⟨⟨by omega, by omega⟩, nx _ _ _ _ e3⟩⟩, fun _ => ⟨⟨by omega, by omega⟩, nx _ _ _ _ e3⟩⟩)
  · refine bFf z1 ?_
    refine sq357_1332 (bWp_mono _) hA ⟨by omega, by omega⟩ (by decide) ?_
    refine ⟨⟨by omega, by omega⟩, ⟨by omega, by omega⟩, ?_⟩
    refine bWp_mono 12 _ _ _ _ _ (bRn_m fun k s1 _ q => ?_) (hc 1 (bi σ 200 (l4 + 2)) (by decide) (bi_rg _ _ _))
    obtain ⟨⟨mid1, mid2⟩, H⟩ := q
    simp only [mid1, mid2]
    refine ⟨⟨by omega, by omega⟩, ⟨by omega, by omega⟩, ?_⟩
    refine bFf z1 ?_
    refine ⟨⟨by omega, by omega⟩, ?_⟩
    refine bWp_mono 12 _ _ _ _ _ (bRn_m fun b s2 _ q => ?_) H
    obtain ⟨e1, e2, e3⟩ := q
    refine w196 (bTt e1 ⟨fun k0 => ⟨fun b0 => bTt (by rw [e2 k0, if_pos b0]; exact bCmp_self _) ⟨⟨by omega, by omega⟩, nx _ _ _ _ e3⟩, fun b0 => bTt (by rw [e2 k0, if_neg b0]; exact bCmp_self _) ⟨⟨by omega, by omega⟩, nx _ _ _ _ e3⟩⟩, fun _ => ⟨⟨by omega, by omega⟩, nx _ _ _ _ e3⟩⟩)
theorem lc28 (hA : bClosed 13 bm357 (bWp 12) Q A) (h0 : 0 ≤ l4) (h1 : l4 ≤ 3066) (hL : l4 + 6 ≤ (bLen σ 200 : Int)) (hc : bK28 E σ) (nx : bNx A E l4) : A (1378, [.ref 200, .ref 11, .ref 12, .ref 154, .int (bn l4), v5, v6, v7], [], σ) := by
  refine sq357_1378 (bWp_mono _) hA ⟨by omega, by omega⟩ ?_
  refine ⟨⟨by omega, by omega⟩, ⟨by omega, by omega⟩, ?_⟩
  refine bWp_mono 12 _ _ _ _ _ (bRn_m fun k s1 _ q => ?_) (hc (bi σ 200 (l4 + 1)) (bi_rg _ _ _))
  obtain ⟨⟨mid1, mid2⟩, H⟩ := q
  simp only [mid1, mid2]
  refine ⟨⟨by omega, by omega⟩, ?_⟩
  refine bWp_mono 12 _ _ _ _ _ (bRn_m fun b s2 _ q => ?_) H
  obtain ⟨e1, e2, e3⟩ := q
  refine w196 (bTt e1 ⟨fun k0 => ⟨fun b0 => bTt (by rw [e2 k0, if_pos b0]; exact bCmp_self _) ⟨⟨by omega, by omega⟩, nx _ _ _ _ e3⟩, fun b0 => bTt (by rw [e2 k0, if_neg b0]; exact bCmp_self _) ⟨⟨by omega, by omega⟩, nx _ _ _ _ e3⟩⟩, fun _ => ⟨⟨by omega, by omega⟩, nx _ _ _ _ e3⟩⟩)
theorem lc29 (hA : bClosed 13 bm357 (bWp 12) Q A) (h0 : 0 ≤ l4) (h1 : l4 ≤ 3066) (hL : l4 + 6 ≤ (bLen σ 200 : Int)) (hc : bK29 E σ) (nx : bNx A E l4) : A (1416, [.ref 200, .ref 11, .ref 12, .ref 154, .int (bn l4), v5, v6, v7], [], σ) := by
  refine sq357_1416 (bWp_mono _) hA ⟨by omega, by omega⟩ ?_
  refine ⟨⟨by omega, by omega⟩, ⟨by omega, by omega⟩, ?_⟩
  by_cases z1 : bi σ 200 (l4 + 1) = 0
  · refine bTt z1 ?_
    refine bWp_mono 12 _ _ _ _ _ (bRn_m fun k s1 _ q => ?_) (hc 0 (by decide))
    obtain ⟨⟨mid1, mid2⟩, H⟩ := q
    simp only [mid1, mid2]
    refine ⟨⟨by omega, by omega⟩, ?_⟩
    refine bTt z1 ?_
    refine bWp_mono 12 _ _ _ _ _ (bRn_m fun b s2 _ q => ?_) H
    obtain ⟨e1, e3⟩ := q
    exact bTt e1 ⟨⟨by omega, by omega⟩, nx _ _ _ _ e3⟩
  · refine bFf z1 ?_
    refine bWp_mono 12 _ _ _ _ _ (bRn_m fun k s1 _ q => ?_) (hc 1 (by decide))
    obtain ⟨⟨mid1, mid2⟩, H⟩ := q
    simp only [mid1, mid2]
    refine ⟨⟨by omega, by omega⟩, ?_⟩
    refine bFf z1 ?_
    refine bWp_mono 12 _ _ _ _ _ (bRn_m fun b s2 _ q => ?_) H
    obtain ⟨e1, e3⟩ := q
    exact bTt e1 ⟨⟨by omega, by omega⟩, nx _ _ _ _ e3⟩
theorem lc30 (hA : bClosed 13 bm357 (bWp 12) Q A) (h0 : 0 ≤ l4) (h1 : l4 ≤ 3066) (hL : l4 + 6 ≤ (bLen σ 200 : Int)) (hc : bK30 E σ) (nx : bNx A E l4) : A (1441, [.ref 200, .ref 11, .ref 12, .ref 154, .int (bn l4), v5, v6, v7], [], σ) := by
  refine sq357_1441 (bWp_mono _) hA ⟨by omega, by omega⟩ ?_
  refine ⟨⟨by omega, by omega⟩, ⟨by omega, by omega⟩, ?_⟩
  by_cases z1 : bi σ 200 (l4 + 1) = 0
  · refine bTt z1 ?_
    refine bWp_mono 12 _ _ _ _ _ (bRn_m fun k s1 _ q => ?_) (hc 0 (by decide))
    obtain ⟨⟨mid1, mid2⟩, H⟩ := q
    simp only [mid1, mid2]
    refine ⟨⟨by omega, by omega⟩, ?_⟩
    refine bTt z1 ?_
    refine bWp_mono 12 _ _ _ _ _ (bRn_m fun b s2 _ q => ?_) H
    obtain ⟨e1, e3⟩ := q
    exact bTt e1 ⟨⟨by omega, by omega⟩, nx _ _ _ _ e3⟩
  · refine bFf z1 ?_
    refine bWp_mono 12 _ _ _ _ _ (bRn_m fun k s1 _ q => ?_) (hc 1 (by decide))
    obtain ⟨⟨mid1, mid2⟩, H⟩ := q
    simp only [mid1, mid2]
    refine ⟨⟨by omega, by omega⟩, ?_⟩
    refine bFf z1 ?_
    refine bWp_mono 12 _ _ _ _ _ (bRn_m fun b s2 _ q => ?_) H
    obtain ⟨e1, e3⟩ := q
    exact bTt e1 ⟨⟨by omega, by omega⟩, nx _ _ _ _ e3⟩
theorem lc31 (hA : bClosed 13 bm357 (bWp 12) Q A) (h0 : 0 ≤ l4) (h1 : l4 ≤ 3066) (hL : l4 + 6 ≤ (bLen σ 200 : Int)) (hc : bK31 E σ) (nx : bNx A E l4) : A (1466, [.ref 200, .ref 11, .ref 12, .ref 154, .int (bn l4), v5, v6, v7], [], σ) := by
  refine sq357_1466 (bWp_mono _) hA ⟨by omega, by omega⟩ ?_
  refine ⟨⟨by omega, by omega⟩, ⟨by omega, by omega⟩, ?_⟩
  refine ⟨⟨by omega, by omega⟩, ⟨by omega, by omega⟩, ?_⟩
  by_cases z2 : bi σ 200 (l4 + 2) = 0
  · refine bTt z2 ?_
    refine sq357_1481 (bWp_mono _) hA ⟨by omega, by omega⟩ (by decide) (bi_rg _ _ _) ?_
    refine ⟨⟨by omega, by omega⟩, ⟨by omega, by omega⟩, ?_⟩
    refine bWp_mono 12 _ _ _ _ _ (bRn_m fun k s1 _ q => ?_) (hc (bi σ 200 (l4 + 1)) 0 (bi σ 200 (l4 + 3)) (bi_rg _ _ _) (by decide) (bi_rg _ _ _))
    obtain ⟨⟨mid1, mid2⟩, H⟩ := q
    simp only [mid1, mid2]
    refine ⟨⟨by omega, by omega⟩, ⟨by omega, by omega⟩, ?_⟩
    refine ⟨⟨by omega, by omega⟩, ⟨by omega, by omega⟩, ?_⟩
    refine bTt z2 ?_
    refine ⟨⟨by omega, by omega⟩, ?_⟩
    refine bWp_mono 12 _ _ _ _ _ (bRn_m fun b s2 _ q => ?_) H
    obtain ⟨e1, e2, e3⟩ := q
    refine w196 (bTt e1 ⟨fun k0 => bTt (by rw [e2 k0]; exact bCmp_self _) ⟨⟨by omega, by omega⟩, nx _ _ _ _ e3⟩, fun _ => ⟨⟨by omega, by omega⟩, nx _ _ _ _ e3⟩⟩)
  · refine bFf z2 ?_
    refine sq357_1481 (bWp_mono _) hA ⟨by omega, by omega⟩ (by decide) (bi_rg _ _ _) ?_
    refine ⟨⟨by omega, by omega⟩, ⟨by omega, by omega⟩, ?_⟩
    refine bWp_mono 12 _ _ _ _ _ (bRn_m fun k s1 _ q => ?_) (hc (bi σ 200 (l4 + 1)) 1 (bi σ 200 (l4 + 3)) (bi_rg _ _ _) (by decide) (bi_rg _ _ _))
    obtain ⟨⟨mid1, mid2⟩, H⟩ := q
    simp only [mid1, mid2]
    refine ⟨⟨by omega, by omega⟩, ⟨by omega, by omega⟩, ?_⟩
    refine ⟨⟨by omega, by omega⟩, ⟨by omega, by omega⟩, ?_⟩
    refine bFf z2 ?_
    refine ⟨⟨by omega, by omega⟩, ?_⟩
    refine bWp_mono 12 _ _ _ _ _ (bRn_m fun b s2 _ q => ?_) H
    obtain ⟨e1, e2, e3⟩ := q
    refine w196 (bTt e1 ⟨fun k0 => bTt (by rw [e2 k0]; exact bCmp_self _) ⟨⟨by omega, by omega⟩, nx _ _ _ _ e3⟩, fun _ => ⟨⟨by omega, by omega⟩, nx _ _ _ _ e3⟩⟩)
theorem lc32 (hA : bClosed 13 bm357 (bWp 12) Q A) (h0 : 0 ≤ l4) (h1 : l4 ≤ 3066) (hL : l4 + 6 ≤ (bLen σ 200 : Int)) (hc : bK32 E σ) (nx : bNx A E l4) : A (1529, [.ref 200, .ref 11, .ref 12, .ref 154, .int (bn l4), v5, v6, v7], [], σ) := by
  refine sq357_1529 (bWp_mono _) hA ⟨by omega, by omega⟩ ?_
  refine ⟨⟨by omega, by omega⟩, ⟨by omega, by omega⟩, ?_⟩
  refine bWp_mono 12 _ _ _ _ _ (bRn_m fun k s1 _ q => ?_) (hc (bi σ 200 (l4 + 1)) (bi_rg _ _ _))
  obtain ⟨⟨mid1, mid2⟩, H⟩ := q
  simp only [mid1, mid2]
  refine ⟨⟨by omega, by omega⟩, ?_⟩
  refine bWp_mono 12 _ _ _ _ _ (bRn_m fun b s2 _ q => ?_) H
  obtain ⟨e1, e2, e3⟩ := q
  refine w196 (bTt e1 ⟨fun k0 => bTt (by rw [e2 k0]; exact bCmp_self _) ⟨⟨by omega, by omega⟩, nx _ _ _ _ e3⟩, fun _ => ⟨⟨by omega, by omega⟩, nx _ _ _ _ e3⟩⟩)
theorem lc33 (hA : bClosed 13 bm357 (bWp 12) Q A) (h0 : 0 ≤ l4) (h1 : l4 ≤ 3066) (hL : l4 + 6 ≤ (bLen σ 200 : Int)) (hc : bK33 E σ) (nx : bNx A E l4) : A (1564, [.ref 200, .ref 11, .ref 12, .ref 154, .int (bn l4), v5, v6, v7], [], σ) := by
  refine sq357_1564 (bWp_mono _) hA ⟨by omega, by omega⟩ ?_
  refine bWp_mono 12 _ _ _ _ _ (bRn_m fun k s1 _ q => ?_) (hc  )
  obtain ⟨⟨mid1, mid2⟩, H⟩ := q
  refine bWp_mono 12 _ _ _ _ _ (bRn_m fun b s2 _ q => ?_) H
  obtain ⟨e1, e3⟩ := q
  exact bTt e1 ⟨⟨by omega, by omega⟩, nx _ _ _ _ e3⟩
theorem lc34 (hA : bClosed 13 bm357 (bWp 12) Q A) (h0 : 0 ≤ l4) (h1 : l4 ≤ 3066) (hL : l4 + 6 ≤ (bLen σ 200 : Int)) (hc : bK34 E σ) (nx : bNx A E l4) : A (1571, [.ref 200, .ref 11, .ref 12, .ref 154, .int (bn l4), v5, v6, v7], [], σ) := by
  refine sq357_1571 (bWp_mono _) hA ⟨by omega, by omega⟩ ?_
  refine ⟨⟨by omega, by omega⟩, ⟨by omega, by omega⟩, ?_⟩
  refine bWp_mono 12 _ _ _ _ _ (bRn_m fun k s1 _ q => ?_) (hc (bi σ 200 (l4 + 1)) (bi_rg _ _ _))
  obtain ⟨⟨mid1, mid2⟩, H⟩ := q
  simp only [mid1, mid2]
  refine ⟨⟨by omega, by omega⟩, ?_⟩
  refine bWp_mono 12 _ _ _ _ _ (bRn_m fun b s2 _ q => ?_) H
  obtain ⟨e1, e2, e3⟩ := q
  refine w196 (bTt e1 ⟨fun k0 => bTt (by rw [e2 k0]; exact bCmp_self _) ⟨⟨by omega, by omega⟩, nx _ _ _ _ e3⟩, fun _ => ⟨⟨by omega, by omega⟩, nx _ _ _ _ e3⟩⟩)
theorem lc35 (hA : bClosed 13 bm357 (bWp 12) Q A) (h0 : 0 ≤ l4) (h1 : l4 ≤ 3066) (hL : l4 + 6 ≤ (bLen σ 200 : Int)) (hc : bK35 E σ) (nx : bNx A E l4) : A (1606, [.ref 200, .ref 11, .ref 12, .ref 154, .int (bn l4), v5, v6, v7], [], σ) := by
  refine sq357_1606 (bWp_mono _) hA ⟨by omega, by omega⟩ ?_
  refine bWp_mono 12 _ _ _ _ _ (bRn_m fun k s1 _ q => ?_) (hc  )
  obtain ⟨⟨mid1, mid2⟩, H⟩ := q
  refine bWp_mono 12 _ _ _ _ _ (bRn_m fun b s2 _ q => ?_) H
  obtain ⟨e1, e3⟩ := q
  exact bTt e1 ⟨⟨by omega, by omega⟩, nx _ _ _ _ e3⟩
theorem lc36 (hA : bClosed 13 bm357 (bWp 12) Q A) (h0 : 0 ≤ l4) (h1 : l4 ≤ 3066) (hL : l4 + 6 ≤ (bLen σ 200 : Int)) (hc : bK36 E σ) (nx : bNx A E l4) : A (1613, [.ref 200, .ref 11, .ref 12, .ref 154, .int (bn l4), v5, v6, v7], [], σ) := by
  refine sq357_1613 (bWp_mono _) hA ⟨by omega, by omega⟩ ?_
  refine ⟨⟨by omega, by omega⟩, ⟨by omega, by omega⟩, ?_⟩
  refine bWp_mono 12 _ _ _ _ _ (bRn_m fun k s1 _ q => ?_) (hc (bi σ 200 (l4 + 1)) (bi_rg _ _ _))
  obtain ⟨⟨mid1, mid2⟩, H⟩ := q
  simp only [mid1, mid2]
  refine ⟨⟨by omega, by omega⟩, ?_⟩
  refine bWp_mono 12 _ _ _ _ _ (bRn_m fun b s2 _ q => ?_) H
  obtain ⟨e1, e2, e3⟩ := q
  refine w196 (bTt e1 ⟨fun k0 => bTt (by rw [e2 k0]; exact bCmp_self _) ⟨⟨by omega, by omega⟩, nx _ _ _ _ e3⟩, fun _ => ⟨⟨by omega, by omega⟩, nx _ _ _ _ e3⟩⟩)
theorem lc37 (hA : bClosed 13 bm357 (bWp 12) Q A) (h0 : 0 ≤ l4) (h1 : l4 ≤ 3066) (hL : l4 + 6 ≤ (bLen σ 200 : Int)) (hc : bK37 E σ) (nx : bNx A E l4) : A (1648, [.ref 200, .ref 11, .ref 12, .ref 154, .int (bn l4), v5, v6, v7], [], σ) := by
  refine sq357_1648 (bWp_mono _) hA ⟨by omega, by omega⟩ ?_
  refine ⟨⟨by omega, by omega⟩, ⟨by omega, by omega⟩, ?_⟩
  refine ⟨⟨by omega, by omega⟩, ⟨by omega, by omega⟩, ?_⟩
  refine bWp_mono 12 _ _ _ _ _ (bRn_m fun k s1 _ q => ?_) (hc (bi σ 200 (l4 + 1)) (bi σ 200 (l4 + 2)) (bi_rg _ _ _) (bi_rg _ _ _))
  obtain ⟨⟨mid1, mid2⟩, H⟩ := q
  simp only [mid1, mid2]
  refine ⟨⟨by omega, by omega⟩, ?_⟩
  refine ⟨⟨by omega, by omega⟩, ?_⟩
  refine bWp_mono 12 _ _ _ _ _ (bRn_m fun b s2 _ q => ?_) H
  obtain ⟨e1, e2, e3⟩ := q
  refine w196 (bTt e1 ⟨fun k0 => bTt (by rw [e2 k0]; exact bCmp_self _) ⟨⟨by omega, by omega⟩, nx _ _ _ _ e3⟩, fun _ => ⟨⟨by omega, by omega⟩, nx _ _ _ _ e3⟩⟩)
theorem lc38 (hA : bClosed 13 bm357 (bWp 12) Q A) (h0 : 0 ≤ l4) (h1 : l4 ≤ 3066) (hL : l4 + 6 ≤ (bLen σ 200 : Int)) (hc : bK38 E σ) (nx : bNx A E l4) : A (1693, [.ref 200, .ref 11, .ref 12, .ref 154, .int (bn l4), v5, v6, v7], [], σ) := by
  refine sq357_1693 (bWp_mono _) hA ⟨by omega, by omega⟩ ?_
  refine ⟨⟨by omega, by omega⟩, ⟨by omega, by omega⟩, ?_⟩
  refine ⟨⟨by omega, by omega⟩, ⟨by omega, by omega⟩, ?_⟩
  refine bWp_mono 12 _ _ _ _ _ (bRn_m fun k s1 _ q => ?_) (hc (bi σ 200 (l4 + 1)) (bi σ 200 (l4 + 2)) (bi_rg _ _ _) (bi_rg _ _ _))
  obtain ⟨⟨mid1, mid2⟩, H⟩ := q
  simp only [mid1, mid2]
  refine ⟨⟨by omega, by omega⟩, ?_⟩
  refine ⟨⟨by omega, by omega⟩, ?_⟩
  refine bWp_mono 12 _ _ _ _ _ (bRn_m fun b s2 _ q => ?_) H
  obtain ⟨e1, e2, e3⟩ := q
  refine w196 (bTt e1 ⟨fun k0 => bTt (by rw [e2 k0]; exact bCmp_self _) ⟨⟨by omega, by omega⟩, nx _ _ _ _ e3⟩, fun _ => ⟨⟨by omega, by omega⟩, nx _ _ _ _ e3⟩⟩)
theorem lc39 (hA : bClosed 13 bm357 (bWp 12) Q A) (h0 : 0 ≤ l4) (h1 : l4 ≤ 3066) (hL : l4 + 6 ≤ (bLen σ 200 : Int)) (hc : bK39 E σ) (nx : bNx A E l4) : A (1738, [.ref 200, .ref 11, .ref 12, .ref 154, .int (bn l4), v5, v6, v7], [], σ) := by
  refine sq357_1738 (bWp_mono _) hA ⟨by omega, by omega⟩ ?_
  refine ⟨⟨by omega, by omega⟩, ⟨by omega, by omega⟩, ?_⟩
  refine ⟨⟨by omega, by omega⟩, ⟨by omega, by omega⟩, ?_⟩
  refine bWp_mono 12 _ _ _ _ _ (bRn_m fun k s1 _ q => ?_) (hc (bi σ 200 (l4 + 1)) (bi σ 200 (l4 + 2)) (bi_rg _ _ _) (bi_rg _ _ _))
  obtain ⟨⟨mid1, mid2⟩, H⟩ := q
  simp only [mid1, mid2]
  refine ⟨⟨by omega, by omega⟩, ?_⟩
  refine ⟨⟨by omega, by omega⟩, ?_⟩
  refine bWp_mono 12 _ _ _ _ _ (bRn_m fun b s2 _ q => ?_) H
  obtain ⟨e1, e2, e3⟩ := q
  refine w196 (bTt e1 ⟨fun k0 => bTt (by rw [e2 k0]; exact bCmp_self _) ⟨⟨by omega, by omega⟩, nx _ _ _ _ e3⟩, fun _ => ⟨⟨by omega, by omega⟩, nx _ _ _ _ e3⟩⟩)
theorem lc40 (hA : bClosed 13 bm357 (bWp 12) Q A) (h0 : 0 ≤ l4) (h1 : l4 ≤ 3066) (hL : l4 + 6 ≤ (bLen σ 200 : Int)) (hc : bK40 E σ) (nx : bNx A E l4) : A (1783, [.ref 200, .ref 11, .ref 12, .ref 154, .int (bn l4), v5, v6, v7], [], σ) := by
  refine sq357_1783 (bWp_mono _) hA ⟨by omega, by omega⟩ ?_
  refine ⟨⟨by omega, by omega⟩, ⟨by omega, by omega⟩, ?_⟩
  refine bWp_mono 12 _ _ _ _ _ (bRn_m fun k s1 _ q => ?_) (hc (bi σ 200 (l4 + 1)) (bi_rg _ _ _))
  obtain ⟨⟨mid1, mid2⟩, H⟩ := q
  simp only [mid1, mid2]
  refine ⟨⟨by omega, by omega⟩, ?_⟩
  refine bWp_mono 12 _ _ _ _ _ (bRn_m fun b s2 _ q => ?_) H
  obtain ⟨e1, e2, e3⟩ := q
  refine w196 (bTt e1 ⟨fun k0 => bTt (by rw [e2 k0]; exact bCmp_self _) ⟨⟨by omega, by omega⟩, nx _ _ _ _ e3⟩, fun _ => ⟨⟨by omega, by omega⟩, nx _ _ _ _ e3⟩⟩)
theorem lc41 (hA : bClosed 13 bm357 (bWp 12) Q A) (h0 : 0 ≤ l4) (h1 : l4 ≤ 3066) (hL : l4 + 6 ≤ (bLen σ 200 : Int)) (hc : bK41 E σ) (nx : bNx A E l4) : A (1818, [.ref 200, .ref 11, .ref 12, .ref 154, .int (bn l4), v5, v6, v7], [], σ) := by
  refine sq357_1818 (bWp_mono _) hA ⟨by omega, by omega⟩ ?_
  refine ⟨⟨by omega, by omega⟩, ⟨by omega, by omega⟩, ?_⟩
  refine bWp_mono 12 _ _ _ _ _ (bRn_m fun k s1 _ q => ?_) (hc (bi σ 200 (l4 + 1)) (bi_rg _ _ _))
  obtain ⟨⟨mid1, mid2⟩, H⟩ := q
  simp only [mid1, mid2]
  refine ⟨⟨by omega, by omega⟩, ?_⟩
  refine bWp_mono 12 _ _ _ _ _ (bRn_m fun b s2 _ q => ?_) H
  obtain ⟨e1, e2, e3⟩ := q
  refine w196 (bTt e1 ⟨fun k0 => bTt (by rw [e2 k0]; exact bCmp_self _) ⟨⟨by omega, by omega⟩, nx _ _ _ _ e3⟩, fun _ => ⟨⟨by omega, by omega⟩, nx _ _ _ _ e3⟩⟩)
theorem lc42 (hA : bClosed 13 bm357 (bWp 12) Q A) (h0 : 0 ≤ l4) (h1 : l4 ≤ 3066) (hL : l4 + 6 ≤ (bLen σ 200 : Int)) (hc : bK42 E σ) (nx : bNx A E l4) : A (1853, [.ref 200, .ref 11, .ref 12, .ref 154, .int (bn l4), v5, v6, v7], [], σ) := by
  refine sq357_1853 (bWp_mono _) hA ⟨by omega, by omega⟩ ?_
  refine ⟨⟨by omega, by omega⟩, ⟨by omega, by omega⟩, ?_⟩
  refine bWp_mono 12 _ _ _ _ _ (bRn_m fun k s1 _ q => ?_) (hc (bi σ 200 (l4 + 1)) (bi_rg _ _ _))
  obtain ⟨⟨mid1, mid2⟩, H⟩ := q
  simp only [mid1, mid2]
  refine ⟨⟨by omega, by omega⟩, ?_⟩
  refine bWp_mono 12 _ _ _ _ _ (bRn_m fun b s2 _ q => ?_) H
  obtain ⟨e1, e2, e3⟩ := q
  refine w196 (bTt e1 ⟨fun k0 => bTt (by rw [e2 k0]; exact bCmp_self _) ⟨⟨by omega, by omega⟩, nx _ _ _ _ e3⟩, fun _ => ⟨⟨by omega, by omega⟩, nx _ _ _ _ e3⟩⟩)
theorem lc43 (hA : bClosed 13 bm357 (bWp 12) Q A) (h0 : 0 ≤ l4) (h1 : l4 ≤ 3066) (hL : l4 + 6 ≤ (bLen σ 200 : Int)) (hc : bK43 E σ) (nx : bNx A E l4) : A (1888, [.ref 200, .ref 11, .ref 12, .ref 154, .int (bn l4), v5, v6, v7], [], σ) := by
  refine sq357_1888 (bWp_mono _) hA ⟨by omega, by omega⟩ ?_
  refine ⟨⟨by omega, by omega⟩, ⟨by omega, by omega⟩, ?_⟩
  refine ⟨⟨by omega, by omega⟩, ⟨by omega, by omega⟩, ?_⟩
  refine bWp_mono 12 _ _ _ _ _ (bRn_m fun k s1 _ q => ?_) (hc (bi σ 200 (l4 + 1)) (bi σ 200 (l4 + 2)) (bi_rg _ _ _) (bi_rg _ _ _))
  obtain ⟨⟨mid1, mid2⟩, H⟩ := q
  simp only [mid1, mid2]
  refine ⟨⟨by omega, by omega⟩, ?_⟩
  refine ⟨⟨by omega, by omega⟩, ?_⟩
  refine bWp_mono 12 _ _ _ _ _ (bRn_m fun b s2 _ q => ?_) H
  obtain ⟨e1, e2, e3⟩ := q
  refine w196 (bTt e1 ⟨fun k0 => bTt (by rw [e2 k0]; exact bCmp_self _) ⟨⟨by omega, by omega⟩, nx _ _ _ _ e3⟩, fun _ => ⟨⟨by omega, by omega⟩, nx _ _ _ _ e3⟩⟩)
theorem lc44 (hA : bClosed 13 bm357 (bWp 12) Q A) (h0 : 0 ≤ l4) (h1 : l4 ≤ 3066) (hL : l4 + 6 ≤ (bLen σ 200 : Int)) (hc : bK44 E σ) (nx : bNx A E l4) : A (1933, [.ref 200, .ref 11, .ref 12, .ref 154, .int (bn l4), v5, v6, v7], [], σ) := by
  refine sq357_1933 (bWp_mono _) hA ⟨by omega, by omega⟩ ?_
  refine bWp_mono 12 _ _ _ _ _ (bRn_m fun k s1 _ q => ?_) (hc  )
  obtain ⟨⟨mid1, mid2⟩, H⟩ := q
  refine bWp_mono 12 _ _ _ _ _ (bRn_m fun b s2 _ q => ?_) H
  obtain ⟨e1, e3⟩ := q
  exact bTt e1 ⟨⟨by omega, by omega⟩, nx _ _ _ _ e3⟩
theorem lc45 (hA : bClosed 13 bm357 (bWp 12) Q A) (h0 : 0 ≤ l4) (h1 : l4 ≤ 3066) (hL : l4 + 6 ≤ (bLen σ 200 : Int)) (hc : bK45 E σ) (nx : bNx A E l4) : A (1940, [.ref 200, .ref 11, .ref 12, .ref 154, .int (bn l4), v5, v6, v7], [], σ) := by
  refine sq357_1940 (bWp_mono _) hA ⟨by omega, by omega⟩ ?_
  refine ⟨⟨by omega, by omega⟩, ⟨by omega, by omega⟩, ?_⟩
  refine bWp_mono 12 _ _ _ _ _ (bRn_m fun k s1 _ q => ?_) (hc (bi σ 200 (l4 + 1)) (bi_rg _ _ _))
  obtain ⟨⟨mid1, mid2⟩, H⟩ := q
  simp only [mid1, mid2]
  refine ⟨⟨by omega, by omega⟩, ?_⟩
  refine bWp_mono 12 _ _ _ _ _ (bRv_m fun s2 q => ?_) H
  obtain ⟨e1, e3⟩ := q
  refine w196 (bTt e1 ⟨⟨by omega, by omega⟩, nx _ _ _ _ e3⟩)
theorem lc46 (hA : bClosed 13 bm357 (bWp 12) Q A) (h0 : 0 ≤ l4) (h1 : l4 ≤ 3066) (hL : l4 + 6 ≤ (bLen σ 200 : Int)) (hc : bK46 E σ) (nx : bNx A E l4) : A (1962, [.ref 200, .ref 11, .ref 12, .ref 154, .int (bn l4), v5, v6, v7], [], σ) := by
  refine sq357_1962 (bWp_mono _) hA ⟨by omega, by omega⟩ ?_
  refine ⟨⟨by omega, by omega⟩, ⟨by omega, by omega⟩, ?_⟩
  refine ⟨⟨by omega, by omega⟩, ⟨by omega, by omega⟩, ?_⟩
  refine ⟨⟨by omega, by omega⟩, ⟨by omega, by omega⟩, ?_⟩
  refine bWp_mono 12 _ _ _ _ _ (bRn_m fun k s1 _ q => ?_) (hc (bi σ 200 (l4 + 1)) (bi σ 200 (l4 + 2)) (bi σ 200 (l4 + 3)) (bi_rg _ _ _) (bi_rg _ _ _) (bi_rg _ _ _))
  obtain ⟨⟨mid1, mid2⟩, H⟩ := q
  simp only [mid1, mid2]
  refine ⟨⟨by omega, by omega⟩, ?_⟩
  refine ⟨⟨by omega, by omega⟩, ?_⟩
  refine ⟨⟨by omega, by omega⟩, ?_⟩
  refine bWp_mono 12 _ _ _ _ _ (bRn_m fun b s2 _ q => ?_) H
  obtain ⟨e1, e2, e3⟩ := q
  refine w196 (bTt e1 ⟨fun k0 => bTt (by rw [e2 k0]; exact bCmp_self _) ⟨⟨by omega, by omega⟩, nx _ _ _ _ e3⟩, fun _ => ⟨⟨by omega, by omega⟩, nx _ _ _ _ e3⟩⟩)
theorem lc47 (hA : bClosed 13 bm357 (bWp 12) Q A) (h0 : 0 ≤ l4) (h1 : l4 ≤ 3066) (hL : l4 + 6 ≤ (bLen σ 200 : Int)) (hc : bK47 E σ) (nx : bNx A E l4) : A (2017, [.ref 200, .ref 11, .ref 12, .ref 154, .int (bn l4), v5, v6, v7], [], σ) := by
  refine sq357_2017 (bWp_mono _) hA ⟨by omega, by omega⟩ ?_
  refine ⟨⟨by omega, by omega⟩, ⟨by omega, by omega⟩, ?_⟩
  refine ⟨⟨by omega, by omega⟩, ⟨by omega, by omega⟩, ?_⟩
  refine bWp_mono 12 _ _ _ _ _ (bRn_m fun k s1 _ q => ?_) (hc (bi σ 200 (l4 + 1)) (bi σ 200 (l4 + 2)) (bi_rg _ _ _) (bi_rg _ _ _))
  obtain ⟨⟨mid1, mid2⟩, H⟩ := q
  simp only [mid1, mid2]
  refine ⟨⟨by omega, by omega⟩, ?_⟩
  refine ⟨⟨by omega, by omega⟩, ?_⟩
  refine bWp_mono 12 _ _ _ _ _ (bRn_m fun b s2 _ q => ?_) H
  obtain ⟨e1, e2, e3⟩ := q
  refine w196 (bTt e1 ⟨fun k0 => bTt (by rw [e2 k0]; exact bCmp_self _) ⟨⟨by omega, by omega⟩, nx _ _ _ _ e3⟩, fun _ => ⟨⟨by omega, by omega⟩, nx _ _ _ _ e3⟩⟩)
theorem lc48 (hA : bClosed 13 bm357 (bWp 12) Q A) (h0 : 0 ≤ l4) (h1 : l4 ≤ 3066) (hL : l4 + 6 ≤ (bLen σ 200 : Int)) (hc : bK48 E σ) (nx : bNx A E l4) : A (2062, [.ref 200, .ref 11, .ref 12, .ref 154, .int (bn l4), v5, v6, v7], [], σ) := by
  refine sq357_2062 (bWp_mono _) hA ⟨by omega, by omega⟩ ?_
  refine ⟨⟨by omega, by omega⟩, ⟨by omega, by omega⟩, ?_⟩
  refine bWp_mono 12 _ _ _ _ _ (bRn_m fun k s1 _ q => ?_) (hc (bi σ 200 (l4 + 1)) (bi_rg _ _ _))
  obtain ⟨⟨mid1, mid2⟩, H⟩ := q
  simp only [mid1, mid2]
  refine ⟨⟨by omega, by omega⟩, ?_⟩
  refine bWp_mono 12 _ _ _ _ _ (bRn_m fun b s2 _ q => ?_) H
  obtain ⟨e1, e2, e3⟩ := q
  refine w196 (bTt e1 ⟨fun k0 => bTt (by rw [e2 k0]; exact bCmp_self _) ⟨⟨by omega, by omega⟩, nx _ _ _ _ e3⟩, fun _ => ⟨⟨by omega, by omega⟩, nx _ _ _ _ e3⟩⟩)
end
theorem law_goes {xs : Nat → Int32} {L : Nat} {Q : bPost} (hL : L ≤ 3072) (I : Nat → bSt → Prop) (hscr : ∀ n σ, I n σ → bLen σ 200 = L) (hmono : ∀ n σ, I n σ → I (n + 1) σ)
    (hend : ∀ n σ, n ≤ 512 → I n σ → Q (.inl (some (.int 1))) σ) (hc : ∀ n σ, n < 512 → I n σ → bCas (I (n + 1)) σ) {A : bPt → Prop} (hA : bClosed 13 bm357 (bWp 12) Q A) :
    ∀ (m n : Nat) (v5 v6 v7 : Value) (σ : bSt), n + m = 512 → I n σ → A (13, [.ref 200, .ref 11, .ref 12, .ref 154, .int (bn (6 * (n : Int))), v5, v6, v7], [], σ) := by
  intro m
  induction m with
  | zero =>
    intro n v5 v6 v7 σ hn hI
    have hl := hscr n σ hI
    refine sq357_13 (bWp_mono _) hA ⟨by omega, by omega⟩ ⟨⟨by omega, by omega⟩, ⟨by omega, by omega⟩, bTt (by omega) (hend n σ (by omega) hI)⟩
  | succ m ih =>
    intro n v5 v6 v7 σ hn hI
    have hl := hscr n σ hI
    have nx : bNx A (I (n + 1)) (6 * (n : Int)) := fun w5 w6 w7 s hs => by
      rw [show 6 * (n : Int) + 6 = 6 * ((n + 1 : Nat) : Int) by omega]
      exact ih (n + 1) w5 w6 w7 s (by omega) hs
    refine sq357_13 (bWp_mono _) hA ⟨by omega, by omega⟩ ⟨⟨by omega, by omega⟩, ⟨by omega, by omega⟩, fun _ => hend n σ (by omega) hI, fun hlt => ⟨⟨by omega, by omega⟩, ?_⟩⟩
    have hcs := hc n σ (by omega) hI
    obtain ⟨k0, k1, k2, k3, k4, k5, k6, k7, k8, k9, k10, k11, k12, k13, k14, k15, k16, k17, k18, k19, k20, k21, k22, k23, k24, k25, k26, k27, k28, k29, k30, k31, k32, k33, k34, k35, k36, k37, k38, k39, k40, k41, k42, k43, k44, k45, k46, k47, k48⟩ := hcs
    refine ⟨fun _ => lc0 hA (by omega) (by omega) (by omega) k0 nx, fun _ => ?_⟩
    refine ⟨fun _ => lc1 hA (by omega) (by omega) (by omega) k1 nx, fun _ => ?_⟩
    refine ⟨fun _ => lc2 hA (by omega) (by omega) (by omega) k2 nx, fun _ => ?_⟩
    refine ⟨fun _ => lc3 hA (by omega) (by omega) (by omega) k3 nx, fun _ => ?_⟩
    refine ⟨fun _ => lc4 hA (by omega) (by omega) (by omega) k4 nx, fun _ => ?_⟩
    refine ⟨fun _ => lc5 hA (by omega) (by omega) (by omega) k5 nx, fun _ => ?_⟩
    refine ⟨fun _ => lc6 hA (by omega) (by omega) (by omega) k6 nx, fun _ => ?_⟩
    refine ⟨fun _ => lc7 hA (by omega) (by omega) (by omega) k7 nx, fun _ => ?_⟩
    refine ⟨fun _ => lc8 hA (by omega) (by omega) (by omega) k8 nx, fun _ => ?_⟩
    refine ⟨fun _ => lc9 hA (by omega) (by omega) (by omega) k9 nx, fun _ => ?_⟩
    refine ⟨fun _ => lc10 hA (by omega) (by omega) (by omega) k10 nx, fun _ => ?_⟩
    refine ⟨fun _ => lc11 hA (by omega) (by omega) (by omega) k11 nx, fun _ => ?_⟩
    refine ⟨fun _ => lc12 hA (by omega) (by omega) (by omega) k12 nx, fun _ => ?_⟩
    refine ⟨fun _ => lc13 hA (by omega) (by omega) (by omega) k13 nx, fun _ => ?_⟩
    refine ⟨fun _ => lc14 hA (by omega) (by omega) (by omega) k14 nx, fun _ => ?_⟩
    refine ⟨fun _ => lc15 hA (by omega) (by omega) (by omega) k15 nx, fun _ => ?_⟩
    refine ⟨fun _ => lc16 hA (by omega) (by omega) (by omega) k16 nx, fun _ => ?_⟩
    refine ⟨fun _ => lc17 hA (by omega) (by omega) (by omega) k17 nx, fun _ => ?_⟩
    refine ⟨fun _ => lc18 hA (by omega) (by omega) (by omega) k18 nx, fun _ => ?_⟩
    refine ⟨fun _ => lc19 hA (by omega) (by omega) (by omega) k19 nx, fun _ => ?_⟩
    refine ⟨fun _ => lc20 hA (by omega) (by omega) (by omega) k20 nx, fun _ => ?_⟩
    refine ⟨fun _ => lc21 hA (by omega) (by omega) (by omega) k21 nx, fun _ => ?_⟩
    refine ⟨fun _ => lc22 hA (by omega) (by omega) (by omega) k22 nx, fun _ => ?_⟩
    refine ⟨fun _ => lc23 hA (by omega) (by omega) (by omega) k23 nx, fun _ => ?_⟩
    refine ⟨fun _ => lc24 hA (by omega) (by omega) (by omega) k24 nx, fun _ => ?_⟩
    refine ⟨fun _ => lc25 hA (by omega) (by omega) (by omega) k25 nx, fun _ => ?_⟩
    refine ⟨fun _ => lc26 hA (by omega) (by omega) (by omega) k26 nx, fun _ => ?_⟩
    refine ⟨fun _ => lc27 hA (by omega) (by omega) (by omega) k27 nx, fun _ => ?_⟩
    refine ⟨fun _ => lc28 hA (by omega) (by omega) (by omega) k28 nx, fun _ => ?_⟩
    refine ⟨fun _ => lc29 hA (by omega) (by omega) (by omega) k29 nx, fun _ => ?_⟩
    refine ⟨fun _ => lc30 hA (by omega) (by omega) (by omega) k30 nx, fun _ => ?_⟩
    refine ⟨fun _ => lc31 hA (by omega) (by omega) (by omega) k31 nx, fun _ => ?_⟩
    refine ⟨fun _ => lc32 hA (by omega) (by omega) (by omega) k32 nx, fun _ => ?_⟩
    refine ⟨fun _ => lc33 hA (by omega) (by omega) (by omega) k33 nx, fun _ => ?_⟩
    refine ⟨fun _ => lc34 hA (by omega) (by omega) (by omega) k34 nx, fun _ => ?_⟩
    refine ⟨fun _ => lc35 hA (by omega) (by omega) (by omega) k35 nx, fun _ => ?_⟩
    refine ⟨fun _ => lc36 hA (by omega) (by omega) (by omega) k36 nx, fun _ => ?_⟩
    refine ⟨fun _ => lc37 hA (by omega) (by omega) (by omega) k37 nx, fun _ => ?_⟩
    refine ⟨fun _ => lc38 hA (by omega) (by omega) (by omega) k38 nx, fun _ => ?_⟩
    refine ⟨fun _ => lc39 hA (by omega) (by omega) (by omega) k39 nx, fun _ => ?_⟩
    refine ⟨fun _ => lc40 hA (by omega) (by omega) (by omega) k40 nx, fun _ => ?_⟩
    refine ⟨fun _ => lc41 hA (by omega) (by omega) (by omega) k41 nx, fun _ => ?_⟩
    refine ⟨fun _ => lc42 hA (by omega) (by omega) (by omega) k42 nx, fun _ => ?_⟩
    refine ⟨fun _ => lc43 hA (by omega) (by omega) (by omega) k43 nx, fun _ => ?_⟩
    refine ⟨fun _ => lc44 hA (by omega) (by omega) (by omega) k44 nx, fun _ => ?_⟩
    refine ⟨fun _ => lc45 hA (by omega) (by omega) (by omega) k45 nx, fun _ => ?_⟩
    refine ⟨fun _ => lc46 hA (by omega) (by omega) (by omega) k46 nx, fun _ => ?_⟩
    refine ⟨fun _ => lc47 hA (by omega) (by omega) (by omega) k47 nx, fun _ => ?_⟩
    refine ⟨fun _ => lc48 hA (by omega) (by omega) (by omega) k48 nx, fun _ => ?_⟩
    exact ⟨⟨by omega, by omega⟩, nx _ _ _ _ (hmono n σ hI)⟩

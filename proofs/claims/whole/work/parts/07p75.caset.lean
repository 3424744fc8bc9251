/-! THE CASES OF SETTINGS AND TOOLCHAINS -/
/-- two bits of a configuration; a configuration with two bits changed -/
def bVi (c s : Int) : Int := if s = 0 then c % 4 else if s = 1 then c / 4 % 4 else if s = 2 then c / 16 % 4 else c / 64 % 4
def bChg (c s v : Int) : Int := if s = 0 then c - c % 4 + v else if s = 1 then c - c / 4 % 4 * 4 + v * 4 else if s = 2 then c - c / 16 % 4 * 16 + v * 16 else c - c / 64 % 4 * 64 + v * 64
theorem bVi_c : ∀ s : Fin 4, ∀ c : Fin 256, bAnd (bShr (c.val : Int) (bAnd (2 * (s.val : Int)) 7)) 3 = bVi c.val s.val := by decide +kernel
theorem bVi_r : ∀ s : Fin 4, ∀ c : Fin 256, bAnd (bShr (c.val : Int) (2 * (s.val : Int))) 3 = bVi c.val s.val := by decide +kernel
theorem bChg_c : ∀ s v : Fin 4, ∀ c : Fin 256, bOr (bAnd (c.val : Int) (bXor (bShl 3 (bAnd (2 * (s.val : Int)) 7)) (-1))) (bShl (v.val : Int) (bAnd (2 * (s.val : Int)) 7)) = bChg c.val s.val v.val := by decide +kernel
theorem bFinN {x : Int} {n : Nat} (h0 : 0 ≤ x) (h1 : x < (n : Int)) : ∃ k : Fin n, x = (k.val : Int) := ⟨⟨x.toNat, by omega⟩, (Int.toNat_of_nonneg h0).symm⟩
theorem bVi_rg {c s : Int} : 0 ≤ bVi c s ∧ bVi c s < 4 := by
  unfold bVi
  split
  · omega
  · split
    · omega
    · split <;> omega
theorem bChg_rg {c s v : Int} (h0 : 0 ≤ c) (h1 : c < 256) (v0 : 0 ≤ v) (v1 : v < 4) : 0 ≤ bChg c s v ∧ bChg c s v < 256 := by
  unfold bChg
  split
  · omega
  · split
    · omega
    · split <;> omega
section
variable {d : Nat} {σ : bSt} {f : Int → bSt → Prop} {fv : bSt → Prop} {g : Nat → bSt → Prop} {p c x v y z : Int}
theorem w129 (h0 : 0 ≤ c) (h1 : c < 256) (s0 : 0 ≤ x) (s1 : x < 4) (h : f (bVi c x) σ) : bWp (d + 1) 129 [.int (bn c), .int (bn x)] σ (bRn f) := by
  obtain ⟨k, rfl⟩ := bFinN (n := 256) h0 h1
  obtain ⟨s, rfl⟩ := bFinN (n := 4) s0 s1
  exact ⟨rfl, fun _ hA => sq129_0 (bWp_mono _) hA ⟨by omega, by omega⟩ ⟨by omega, by omega⟩ ⟨⟨by omega, by omega⟩, bRn_i (bRgI _) (by rw [bVi_c s k]; exact h)⟩⟩
theorem w130 (h0 : 0 ≤ c) (h1 : c < 256) (s0 : 0 ≤ x) (s1 : x < 4) (v0 : 0 ≤ v) (v1 : v < 4) (h : f (bChg c x v) σ) : bWp (d + 1) 130 [.int (bn c), .int (bn x), .int (bn v)] σ (bRn f) := by
  obtain ⟨k, rfl⟩ := bFinN (n := 256) h0 h1
  obtain ⟨s, rfl⟩ := bFinN (n := 4) s0 s1
  obtain ⟨w, rfl⟩ := bFinN (n := 4) v0 v1
  exact ⟨rfl, fun _ hA => sq130_0 (bWp_mono _) hA ⟨by omega, by omega⟩ ⟨by omega, by omega⟩ ⟨by omega, by omega⟩ ⟨⟨by omega, by omega⟩, bRn_i (bRgI _) (by rw [bChg_c s w k]; exact h)⟩⟩
theorem w131 (h0 : 0 ≤ bi σ 10 0) (h1 : bi σ 10 0 < 256) (s0 : 0 ≤ x) (s1 : x < 4) (v0 : 0 ≤ v) (v1 : v < 4) (h : f (bVi (bi σ 10 0) x) (bw σ 10 0 (bChg (bi σ 10 0) x v))) : bWp (d + 2) 131 [.ref 10, .int (bn x), .int (bn v)] σ (bRn f) := by
  have hv : bRg (bVi (bi σ 10 0) x) := by
    have := bVi_rg (c := bi σ 10 0) (s := x)
    exact ⟨by omega, by omega⟩
  exact ⟨rfl, fun A hA => sq131_0 (bWp_mono _) hA ⟨by omega, by omega⟩ ⟨by omega, by omega⟩ (w129 h0 h1 s0 s1 (w130 h0 h1 s0 s1 v0 v1 (bRn_i hv h)))⟩
theorem w153 (hc : 0 ≤ bi σ 10 0 ∧ bi σ 10 0 < 256) (hx : bRg x) (hv : bRg v) (hd : 6 ≤ d) (h1 : ¬ (0 ≤ x ∧ x < 4) → g 0 (bC σ 1 6)) (h2 : 0 ≤ x ∧ x < 4 → ¬ (0 ≤ v ∧ v ≤ 3) → g 1 (bC σ 1 6)) (h0 : 0 ≤ x ∧ x < 4 → 0 ≤ v ∧ v ≤ 3 → f (bVi (bi σ 10 0) x) (bw σ 10 0 (bChg (bi σ 10 0) x v))) : bWp (d + 3) 153 [.ref 11, .int (bn x), .int (bn v)] σ (bRnx f g) := by
  have hr : bRg (bVi (bi σ 10 0) x) := by
    have := bVi_rg (c := bi σ 10 0) (s := x)
    exact ⟨by omega, by omega⟩
  exact ⟨rfl, fun A hA => sq153_0 (bWp_mono _) hA hx hv (w136 hx (by decide) (by omega) (fun q => w138 hv (by decide) (by decide) (by omega) (fun q2 => w131 hc.1 hc.2 q.1 q.2 q2.1 (by omega) (bRnx_i hr (h0 q q2))) (fun q2 => h2 q q2)) h1)⟩
theorem w222 (hx : bRg x) (hv : bRg v) (h1 : ¬ (0 ≤ x ∧ x < 4) → f 0 (bw σ 12 0 1)) (h2 : 0 ≤ x ∧ x < 4 → ¬ (0 ≤ v ∧ v ≤ 3) → f 0 (bw σ 12 0 2)) (h0 : 0 ≤ x ∧ x < 4 → 0 ≤ v ∧ v ≤ 3 → f (bi σ 70 x) (bw (bw σ 12 0 0) 70 x v)) : bWp (d + 3) 222 [.ref 12, .int (bn x), .int (bn v)] σ (bRn f) :=
  ⟨rfl, fun A hA => sq222_0 (bWp_mono _) hA hx hv (w199 hx (by decide) (by decide) (fun q => bFf (by decide) (w199 hv (by decide) (by decide) (fun q2 => bFf (by decide) (w197z (bTt rfl ⟨⟨q.1, by omega⟩, bRn_i (bi_rg _ _ _) (by rw [bi_ne (by decide)]; exact h0 ⟨q.1, by omega⟩ q2)⟩))) (fun q2 => bTt rfl (w197n (by decide) (by decide) (bFf (by decide) (bRn_i (by decide) (h2 ⟨q.1, by omega⟩ q2))))))) (fun q => bTt rfl (w197n (by decide) (by decide) (bFf (by decide) (bRn_i (by decide) (h1 (by omega)))))))⟩
/-- a row with a place taken out -/
theorem w142 {a N : Nat} (ht : bTy a = 0) (hw : a % 256 < 200) (hl : ∀ s : bSt, bLen s a = N) (hN : N ≤ 10000) (h0 : 0 ≤ x) (hx : x ≤ (N : Int)) (hy : y ≤ (N : Int)) (hy0 : 0 ≤ y)
    (h : ∀ s, s.2 = σ.2 → (∀ b j, b ≠ a → bi s b j = bi σ b j) → (∀ j, 0 ≤ j → bi s a j = if x ≤ j ∧ j + 1 < y then bi σ a (j + 1) else bi σ a j) → fv s) : bWp (d + 2) 142 [.ref a, .int (bn x), .int (bn y)] σ (bRv fv) := by
  refine ⟨rfl, fun A hA => sq142_0 (bWp_mono _) hA ⟨by omega, by omega⟩ ⟨by omega, by omega⟩ ?_⟩
  have K : ∀ (m : Nat) (k : Int) (v1 : Value) (s : bSt), k + m = N + 1 → x ≤ k → s.2 = σ.2 → (∀ b j, b ≠ a → bi s b j = bi σ b j) → (∀ j, 0 ≤ j → bi s a j = if x ≤ j ∧ j < k ∧ j + 1 < y then bi σ a (j + 1) else bi σ a j) → A (2, [.ref a, v1, .int (bn y), .int (bn k)], [], s) := by
    intro m
    induction m with
    | zero =>
      intro k v1 s hk hxk a1 a2 a3
      refine sq142_2 (bWp_mono _) hA ⟨by omega, by omega⟩ ⟨by omega, by omega⟩ ⟨⟨by omega, by omega⟩, bFf (by omega) (h s a1 a2 fun j q => ?_)⟩
      rw [a3 j q]
      by_cases z : x ≤ j ∧ j + 1 < y
      · rw [if_pos z, if_pos ⟨z.1, by omega, z.2⟩]
      · rw [if_neg z, if_neg (fun t => z ⟨t.1, t.2.2⟩)]
    | succ m ih =>
      intro k v1 s hk hxk a1 a2 a3
      refine sq142_2 (bWp_mono _) hA ⟨by omega, by omega⟩ ⟨by omega, by omega⟩ ⟨⟨by omega, by omega⟩, fun q => w140i ht (hl _) hN (by omega) (by omega) (w141i (bi_rg _ _ _) ht hw (hl _) hN (by omega) (by omega) (ih (k + 1) v1 _ (by omega) (by omega) a1 (fun b j hb => by rw [bi_ne hb]; exact a2 b j hb) fun j q2 => ?_)), fun q => h s a1 a2 fun j q2 => ?_⟩
      · rw [bi_bw (by omega) q2 (bi_rg _ _ _)]
        by_cases z : j = k
        · rw [if_pos ⟨rfl, z⟩, if_pos ⟨by omega, by omega, by omega⟩, a3 _ (by omega), if_neg (by omega), z]
        · rw [if_neg (fun t => z t.2), a3 j q2]
          by_cases z2 : x ≤ j ∧ j < k ∧ j + 1 < y
          · rw [if_pos z2, if_pos ⟨z2.1, by omega, z2.2.2⟩]
          · rw [if_neg z2, if_neg (fun t => z2 ⟨t.1, by omega, t.2.2⟩)]
      · rw [a3 j q2]
        by_cases z : x ≤ j ∧ j + 1 < y
        · rw [if_pos z, if_pos ⟨z.1, by omega, z.2⟩]
        · rw [if_neg z, if_neg (fun t => z ⟨t.1, t.2.2⟩)]
  exact K (N + 1 - x.toNat) x _ σ (by omega) (by omega) rfl (fun _ _ _ => rfl) (fun j q => by rw [if_neg (by omega)])
/-- what taking a toolchain out leaves -/
def bSh (σ s : bSt) (x y : Int) (l : List Nat) : Prop := (∀ a ∈ l, ∀ j, 0 ≤ j → bi s a j = if x ≤ j ∧ j + 1 < y then bi σ a (j + 1) else bi σ a j)
theorem w133 (hc : 0 ≤ bi σ 10 1 ∧ bi σ 10 1 ≤ 8) (h0 : 0 ≤ x) (hx : x < bi σ 10 1)
    (h : ∀ s, s.2 = σ.2 → (∀ b j, b ∉ [52, 53, 54, 55] → bi s b j = bi σ b j) → bSh σ s x (bi σ 10 1) [52, 53, 54, 55] → f (bi σ 10 1 - 1) (bw s 10 1 (bi σ 10 1 - 1))) : bWp (d + 3) 133 [.ref 10, .int (bn x)] σ (bRn f) := by
  refine ⟨rfl, fun A hA => sq133_0 (bWp_mono _) hA ⟨by omega, by omega⟩ ?_⟩
  refine w142 (N := 8) rfl (by decide) (fun _ => rfl) (by decide) h0 (by omega) (by omega) hc.1 fun s1 a1 a2 a3 => ?_
  have e1 : bi s1 10 1 = bi σ 10 1 := a2 10 1 (by decide)
  rw [e1]
  refine w142 (N := 8) rfl (by decide) (fun _ => rfl) (by decide) h0 (by omega) (by omega) hc.1 fun s2 b1 b2 b3 => ?_
  have e2 : bi s2 10 1 = bi σ 10 1 := (b2 10 1 (by decide)).trans e1
  rw [e2]
  refine w142 (N := 8) rfl (by decide) (fun _ => rfl) (by decide) h0 (by omega) (by omega) hc.1 fun s3 c1 c2 c3 => ?_
  have e3 : bi s3 10 1 = bi σ 10 1 := (c2 10 1 (by decide)).trans e2
  rw [e3]
  refine w142 (N := 8) rfl (by decide) (fun _ => rfl) (by decide) h0 (by omega) (by omega) hc.1 fun s4 d1 d2 d3 => ?_
  have e4 : bi s4 10 1 = bi σ 10 1 := (d2 10 1 (by decide)).trans e3
  rw [e4]
  refine ⟨⟨by omega, by omega⟩, bRn_i ⟨by omega, by omega⟩ (h s4 (((d1.trans c1).trans b1).trans a1) (fun b j hb => ?_) ?_)⟩
  · simp only [List.mem_cons, List.not_mem_nil, or_false, not_or] at hb
    rw [d2 b j hb.2.2.2, c2 b j hb.2.2.1, b2 b j hb.2.1, a2 b j hb.1]
  · intro a ha j q
    simp only [List.mem_cons, List.not_mem_nil, or_false] at ha
    rcases ha with rfl | rfl | rfl | rfl
    · rw [d2 52 j (by decide), c2 52 j (by decide), b2 52 j (by decide)]
      exact a3 j q
    · rw [d2 53 j (by decide), c2 53 j (by decide), b3 j q, a2 53 _ (by decide), a2 53 _ (by decide)]
    · rw [d2 54 j (by decide), c3 j q, b2 54 _ (by decide), a2 54 _ (by decide), b2 54 _ (by decide), a2 54 _ (by decide)]
    · rw [d3 j q, c2 55 _ (by decide), b2 55 _ (by decide), a2 55 _ (by decide), c2 55 _ (by decide), b2 55 _ (by decide), a2 55 _ (by decide)]
theorem w155 (hc : 0 ≤ bi σ 10 1 ∧ bi σ 10 1 ≤ 8) (hx : bRg x) (hd : 6 ≤ d) (h1 : ¬ (0 ≤ x ∧ x < bi σ 10 1) → g 0 (bC σ 1 6))
    (h0 : 0 ≤ x ∧ x < bi σ 10 1 → ∀ s, s.2 = σ.2 → (∀ b j, b ∉ [52, 53, 54, 55] → bi s b j = bi σ b j) → bSh σ s x (bi σ 10 1) [52, 53, 54, 55] → f (bi σ 10 1 - 1) (bw s 10 1 (bi σ 10 1 - 1))) : bWp (d + 4) 155 [.ref 11, .int (bn x)] σ (bRnx f g) :=
  ⟨rfl, fun A hA => sq155_0 (bWp_mono _) hA hx (w136 hx (bi_rg _ _ _) (by omega) (fun q => w133 hc q.1 q.2 fun s a1 a2 a3 => bRnx_i ⟨by omega, by omega⟩ (h0 q s a1 a2 a3)) h1)⟩
theorem w224 (hc : 0 ≤ bi σ 12 17 ∧ bi σ 12 17 ≤ 8) (hx : bRg x) (h1 : ¬ (0 ≤ x ∧ x < bi σ 12 17) → f 0 (bw σ 12 0 1))
    (h0 : 0 ≤ x ∧ x < bi σ 12 17 → ∀ s, s.2 = σ.2 → (∀ b j, b ∉ [71, 72, 73, 74] → bi s b j = bi (bw σ 12 0 0) b j) → bSh σ s x (bi σ 12 17) [71, 72, 73, 74] → f (bi σ 12 17 - 1) (bw s 12 17 (bi σ 12 17 - 1))) : bWp (d + 2) 224 [.ref 12, .int (bn x)] σ (bRn f) := by
  refine ⟨rfl, fun A hA => sq224_0 (bWp_mono _) hA hx ⟨⟨by omega, by omega⟩, w199 hx (by decide) ⟨by omega, by omega⟩ (fun q => bFf (by decide) (w197z (bTt rfl ?_))) (fun q => bTt rfl (w197n (by decide) (by decide) (bFf (by decide) (bRn_i (by decide) (h1 (by omega))))))⟩⟩
  have K : ∀ (m : Nat) (k : Int) (v1 : Value) (s : bSt), k + m = bi σ 12 17 → x ≤ k → k ≤ bi σ 12 17 - 1 → s.2 = σ.2 → (∀ b j, b ∉ [71, 72, 73, 74] → bi s b j = bi (bw σ 12 0 0) b j) → (∀ a ∈ [71, 72, 73, 74], ∀ j, 0 ≤ j → bi s a j = if x ≤ j ∧ j < k then bi σ a (j + 1) else bi σ a j) → A (18, [.ref 12, v1, .int (bn k)], [], s) := by
    intro m
    induction m with
    | zero => intro k v1 s hk _ hk2; omega
    | succ m ih =>
      intro k v1 s hk hxk hk2 a1 a2 a3
      have e17 : bi s 12 17 = bi σ 12 17 := by rw [a2 12 17 (by decide), bi_nj (by decide) (by decide) (by decide)]
      refine sq224_18 (bWp_mono _) hA ⟨by omega, by omega⟩ ?_
      rw [e17]
      refine ⟨⟨by omega, by omega⟩, fun q2 => ⟨⟨by omega, by omega⟩, ⟨by omega, by omega⟩, ⟨by omega, by omega⟩, ⟨by omega, by omega⟩, ⟨by omega, by omega⟩, ⟨by omega, by omega⟩, ⟨by omega, by omega⟩, ⟨by omega, by omega⟩, ⟨by omega, by omega⟩, ?_⟩, fun q2 => bRn_i ⟨by omega, by omega⟩ (h0 ⟨by omega, by omega⟩ s a1 a2 fun a ha j q3 => ?_)⟩
      · refine ih (k + 1) _ _ (by omega) (by omega) (by omega) a1 (fun b j hb => ?_) fun a ha j q3 => ?_
        · have hb' := hb
          simp only [List.mem_cons, List.not_mem_nil, or_false, not_or] at hb'
          rw [bi_ne hb'.2.2.2, bi_ne hb'.2.2.1, bi_ne hb'.2.1, bi_ne hb'.1]
          exact a2 b j hb
        · have key : ∀ a' ∈ [71, 72, 73, 74], bi s a' (k + 1) = bi σ a' (k + 1) := fun a' ha' => by rw [a3 a' ha' _ (by omega), if_neg (by omega)]
          have fin : ∀ w : Int, w = (if j = k then bi s a (k + 1) else bi s a j) → w = if x ≤ j ∧ j < k + 1 then bi σ a (j + 1) else bi σ a j := by
            intro w hw
            rw [hw]
            by_cases z : j = k
            · rw [if_pos z, if_pos ⟨by omega, by omega⟩, key a ha, z]
            · rw [if_neg z, a3 a ha j q3]
              by_cases z2 : x ≤ j ∧ j < k
              · rw [if_pos z2, if_pos ⟨z2.1, by omega⟩]
              · rw [if_neg z2, if_neg (fun t => z2 ⟨t.1, by omega⟩)]
          simp only [List.mem_cons, List.not_mem_nil, or_false] at ha
          refine fin _ ?_
          have k0 : 0 ≤ k := by omega
          rcases ha with rfl | rfl | rfl | rfl
          · rw [bi_ne (by decide), bi_ne (by decide), bi_ne (by decide), bi_bw k0 q3 (bi_rg _ _ _)]; simp only [true_and]
          · rw [bi_ne (by decide), bi_ne (by decide), bi_bw k0 q3 (bi_rg _ _ _), bi_ne (by decide)]; simp only [true_and]
          · rw [bi_ne (by decide), bi_bw k0 q3 (bi_rg _ _ _), bi_ne (by decide), bi_ne (by decide)]; simp only [true_and]
          · rw [bi_bw k0 q3 (bi_rg _ _ _), bi_ne (by decide), bi_ne (by decide), bi_ne (by decide)]; simp only [true_and]
      · rw [a3 a ha j q3]
        by_cases z : x ≤ j ∧ j < k
        · rw [if_pos z, if_pos ⟨z.1, by omega⟩]
        · rw [if_neg z, if_neg (fun t => z ⟨t.1, by omega⟩)]
  exact K (bi σ 12 17 - x).toNat x _ _ (by omega) (by omega) (by omega) rfl (fun _ _ _ => rfl) (fun a ha j q3 => by rw [if_neg (by omega), bi_ne (by simp at ha; omega)])
end

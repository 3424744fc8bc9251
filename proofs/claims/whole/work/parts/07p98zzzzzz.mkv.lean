/-! BUILD, 74: the call test, in the reference -/
/-- what is asked behind the build -/
def bqFg (t : Int) (f : Int → bSt → Prop) (r9 : Int) (s : bSt) : Prop := (r9 = 1 → bTl s ∧ (0 ≤ bi s 99 (256 * t + bi s 10 0) ∧ bi s 99 (256 * t + bi s 10 0) < 120) ∧ (0 ≤ bi s 112 (bi s 99 (256 * t + bi s 10 0)) ∧ bi s 112 (bi s 99 (256 * t + bi s 10 0)) < 1000) ∧ bi s 12 111 = 0 ∧ 0 ≤ bi s 12 112 ∧ ∀ r, bGtr t (bi s 112 (bi s 99 (256 * t + bi s 10 0))) (bi s 12 112) 4 s r → f (bPsd (bi s 92 t) (bi s 93 t) (bi s 112 (bi s 99 (256 * t + bi s 10 0))) (fun q => bKbit s (4000 * t + q)) (bi s 12 112) 4) r) ∧ (r9 ≠ 1 → f (-1) s)
section
variable {d lvl : Nat} {σ σ0 σr β s s0 s1 t1 r r1 r2 r3 s' : bSt} {f : Int → bSt → Prop} {fv : bSt → Prop} {Z Z0 Y X Zs Zr T ZE W : bZs} {x y t v a b k i q g l dn : Int} {n n0 m z0 N N' μ L : Nat} {rk rk0 : Int → Nat} {S : List Nat} {F : List Int} {P QB : Int → Bool} {Q : Int → Prop}
theorem r304n (hT : bTg s) (ht : bRg t) (hx : x = bShl 1 t) (h1 : ¬ bTgk s t → f 0 (bw s 12 0 1)) (h2 : bTgk s t → ¬ 0 < bi s 92 t → f 0 (bw s 12 0 2)) (h3 : bTgk s t → 0 < bi s 92 t → bWp (d + 11) 241 [.ref 12, .int (bn x)] s (bRv fun r => bWp (d + 11) 284 [.ref 12, .int (bn x)] r (bRn fun q r => (q = 0 → bWp (d + 11) 283 [.ref 12, .int (bn x)] r (bRn fun q2 r2 => (q2 = 0 → f 0 (bw r2 12 0 2)) ∧ (q2 ≠ 0 → bWp (d + 11) 286 [.ref 12, .int (bn x), .int (bn q), .int (bn 0), .int (bn 0)] (bw (bw r2 12 0 0) 12 111 0) (bRn (bqFg t f))))) ∧ (q ≠ 0 → bWp (d + 11) 286 [.ref 12, .int (bn x), .int (bn q), .int (bn 0), .int (bn 0)] (bw (bw r 12 0 0) 12 111 0) (bRn (bqFg t f)))))) : bWp (d + 12) 304 [.ref 12, .int (bn t)] s (bRn f) := by
  subst hx
  have tc := hT.1
  refine ⟨rfl, fun A hA => sq304_0 (bWp_mono _) hA ht ?_⟩
  have e42 : ∀ (l2 l3 l4 : Int) (v5 v6 v7 v8 : Value) (u : bSt), bRg l2 → bRg l3 → bRg l4 → (l2 = 0 → f 0 (bw u 12 0 1)) → (l2 ≠ 0 → l4 = 0 → f 0 (bw u 12 0 2)) → (l2 ≠ 0 → l4 ≠ 0 → (0 ≤ t ∧ t < 16) ∧ bWp (d + 11) 286 [.ref 12, .int (bn (bShl 1 t)), .int (bn l3), .int (bn 0), .int (bn 0)] (bw (bw u 12 0 0) 12 111 0) (bRn (bqFg t f))) → A (42, [.ref 12, .int (bn t), .int (bn l2), .int (bn l3), .int (bn l4), v5, v6, v7, v8], [], u) := fun l2 l3 l4 v5 v6 v7 v8 u r2 r3 r4 k1 k2 k3 => by
    refine sq304_42 (bWp_mono _) hA ht r2 r3 r4 ⟨fun q => w197 (by decide) (fun w => absurd w (by decide)) (fun _ => ⟨fun w => absurd w (by decide), fun _ => bRn_i (by decide) (k1 q)⟩), fun q => ⟨fun q2 => w197 (by decide) (fun w => absurd w (by decide)) (fun _ => ⟨fun w => absurd w (by decide), fun _ => bRn_i (by decide) (k2 q q2)⟩), fun q2 => w197 (by decide) (fun _ => ⟨fun _ => ?_, fun w => absurd rfl w⟩) (fun w => absurd rfl w)⟩⟩
    obtain ⟨⟨t0, t1⟩, w⟩ := k3 q q2
    refine bWp_mono _ _ _ _ _ _ (bRn_e fun r9 s7 rr hh => bRn_i rr ⟨fun e => ⟨⟨by omega, by omega⟩, ?_⟩, fun e => bRn_i (by decide) (hh.2 e)⟩) w
    obtain ⟨g1, g2, g3, g4, g5, g6⟩ := hh.1 e
    have hc := bCfg g1
    refine w238 g1 ⟨⟨by omega, by omega⟩, ⟨by omega, by omega⟩, g2, n304 (d := d + 10) hA t0 t1 g3.1 g3.2 g4 rfl g5 g6⟩
  refine w225 (d := d + 9) ⟨tc.1, tc.2.1⟩ ht (fun tk => ⟨fun w => absurd w (by decide), fun _ => ⟨⟨tk.1, by have := tk.2; omega⟩, fun p => ?_, fun p => ?_⟩⟩) (fun ntk => ⟨fun _ => e42 _ _ _ _ _ _ _ _ (by decide) (by decide) (by decide) (fun _ => h1 ntk) (fun w => absurd rfl w) (fun w => absurd rfl w), fun w => absurd rfl w⟩)
  · have t16 : 0 ≤ t ∧ t < 16 := ⟨tk.1, by have := tk.2; omega⟩
    refine bWp_mono _ _ _ _ _ _ (bRv_e fun r hh => ?_) (h3 tk p)
    refine bWp_mono _ _ _ _ _ _ (bRn_e fun q1 r' rr hh => bRn_i rr ⟨fun e => ?_, fun e => e42 _ _ _ _ _ _ _ _ (by decide) rr (by decide) (fun w => absurd w (by decide)) (fun _ w => absurd w (by decide)) fun _ _ => ⟨t16, hh.2 e⟩⟩) hh
    refine bWp_mono _ _ _ _ _ _ (bRn_e fun q2 r2 rr2 hh2 => bRn_i rr2 ⟨fun e2 => e42 _ _ _ _ _ _ _ _ (by decide) rr (by decide) (fun w => absurd w (by decide)) (fun _ _ => hh2.1 e2) (fun _ w => absurd rfl w), fun e2 => e42 _ _ _ _ _ _ _ _ (by decide) rr (by decide) (fun w => absurd w (by decide)) (fun _ w => absurd w (by decide)) fun _ _ => ⟨t16, hh2.2 e2⟩⟩) (hh.1 e)
  · exact e42 _ _ _ _ _ _ _ _ (by decide) (by decide) (by decide) (fun w => absurd w (by decide)) (fun _ _ => h2 tk p) (fun _ w => absurd rfl w)
end

/-! BUILD, 48: the order: what stands in it; the class finds actions -/
/-- the order of the targets of P -/
def bmOd (σ : bSt) (P : Int → Bool) : Nat → List Int
  | 0 => []
  | t + 1 => if P t then bpO σ 16 ((t : Int) * 256 + bi σ 10 0) (bmOd σ P t) else bmOd σ P t
section
variable {d lvl : Nat} {σ s s0 t r s' : bSt} {f : Int → bSt → Prop} {fv : bSt → Prop} {A : bPt → Prop} {Z Z0 Y X : bZs} {x y v a b k i q : Int} {V W : List Int} {n n0 m : Nat} {rk : Int → Nat} {P : Int → Bool}
theorem bpO_w (hT : bTg σ) : ∀ (T : Nat) (x : Int) (V : List Int), 0 ≤ x → bTgk σ (x / 256) → x / 256 < (T : Int) → bFx σ x = 0 → V.Nodup → (bpO σ T x V).Nodup ∧ (∃ W, bpO σ T x V = V ++ W ∧ ∀ w ∈ W, w / 256 ≤ x / 256 ∧ 0 ≤ w ∧ bTgk σ (w / 256) ∧ bFx σ w = 0) ∧ x ∈ bpO σ T x V := by
  intro T
  induction T with
  | zero => intro x V x0 _ h; omega
  | succ T ih =>
    intro x V x0 ht hxT hE hV
    have ic := bIc_at hT ht
    have f40 := (bIl_40 (G := fun _ => 0) hT x0 ht hE).2.2.1
    unfold bpO
    by_cases hx : x ∈ V
    · rw [if_pos hx]
      exact ⟨hV, ⟨[], (List.append_nil _).symm, fun w hw => absurd hw List.not_mem_nil⟩, hx⟩
    rw [if_neg hx]
    have go : ∀ m : Nat, (m : Int) ≤ bi σ 85 (x / 256) → (bpI σ (bpO σ T) x m V).Nodup ∧ ∃ W, bpI σ (bpO σ T) x m V = V ++ W ∧ ∀ w ∈ W, w / 256 < x / 256 ∧ 0 ≤ w ∧ bTgk σ (w / 256) ∧ bFx σ w = 0 := fun m => by
      induction m with
      | zero => intro _; exact ⟨hV, [], (List.append_nil _).symm, fun w hw => absurd hw List.not_mem_nil⟩
      | succ m ihm =>
        intro hm
        obtain ⟨h1, W, h2, h3⟩ := ihm (by omega)
        have u : bpI σ (bpO σ T) x (m + 1) V = if bi σ 86 (6 * (x / 256) + (m : Int)) = 2 then bpO σ T (bNod σ x m) (bpI σ (bpO σ T) x m V) else bpI σ (bpO σ T) x m V := rfl
        rw [u]
        by_cases hK : bi σ 86 (6 * (x / 256) + (m : Int)) = 2
        · rw [if_pos hK]
          obtain ⟨y0, y1, y2⟩ := (bNd_at hT ht (i := m) (by omega) (by omega) hK).1
          obtain ⟨g1, ⟨W2, g2, g3⟩, _⟩ := ih (bNod σ x m) (bpI σ (bpO σ T) x m V) y0 y2 (by omega) (f40 m (by omega) (by omega) hK) h1
          refine ⟨g1, W ++ W2, by rw [g2, h2, List.append_assoc], fun w hw => ?_⟩
          rcases List.mem_append.1 hw with q | q
          · exact h3 w q
          · have := g3 w q
            exact ⟨by omega, this.2⟩
        · rw [if_neg hK]; exact ⟨h1, W, h2, h3⟩
    obtain ⟨h1, W, h2, h3⟩ := go (bi σ 85 (x / 256)).toNat (by omega)
    refine ⟨?_, ⟨W ++ [x], by rw [h2, List.append_assoc], fun w hw => ?_⟩, List.mem_append_right _ List.mem_cons_self⟩
    · rw [List.nodup_append]
      refine ⟨h1, by simp, fun y hy z hz => ?_⟩
      rw [List.mem_singleton.1 hz]
      intro e
      rw [e, h2] at hy
      rcases List.mem_append.1 hy with q | q
      · exact hx q
      · have := (h3 x q).1; omega
    · rcases List.mem_append.1 hw with q | q
      · have := h3 w q
        exact ⟨by omega, this.2⟩
      · rw [List.mem_singleton.1 q]
        exact ⟨Int.le_refl _, x0, ht, hE⟩
/-- the order of sound targets -/
theorem bmOd_w (hL : bTl σ) (hT : bTg σ) (h : ∀ t, 0 ≤ t → t < 16 → P t = true → bTgk σ t ∧ bFx σ (t * 256 + bi σ 10 0) = 0) : ∀ m : Nat, m ≤ 16 → (bmOd σ P m).Nodup ∧ (∀ w ∈ bmOd σ P m, 0 ≤ w ∧ bTgk σ (w / 256) ∧ bFx σ w = 0) ∧ ∀ t : Int, 0 ≤ t → t < (m : Int) → P t = true → t * 256 + bi σ 10 0 ∈ bmOd σ P m
  | 0, _ => ⟨List.nodup_nil, fun w hw => absurd hw List.not_mem_nil, fun t t0 t1 => by omega⟩
  | m + 1, hm => by
    obtain ⟨h1, h2, h3⟩ := bmOd_w hL hT h m (by omega)
    have hc : 0 ≤ bi σ 10 0 ∧ bi σ 10 0 < 256 := by
      have e := hL.2.2.2
      have a0 := hL.2.2.1 0 (by decide) (by decide)
      have a1 := hL.2.2.1 1 (by decide) (by decide)
      have a2 := hL.2.2.1 2 (by decide) (by decide)
      have a3 := hL.2.2.1 3 (by decide) (by decide)
      omega
    have u : bmOd σ P (m + 1) = if P m then bpO σ 16 ((m : Int) * 256 + bi σ 10 0) (bmOd σ P m) else bmOd σ P m := rfl
    rw [u]
    by_cases hp : P m = true
    · rw [if_pos hp]
      obtain ⟨tk, e0⟩ := h m (by omega) (by omega) hp
      have e : ((m : Int) * 256 + bi σ 10 0) / 256 = m := by omega
      obtain ⟨g1, ⟨W, g2, g3⟩, g4⟩ := bpO_w hT 16 ((m : Int) * 256 + bi σ 10 0) (bmOd σ P m) (by omega) (by rw [e]; exact tk) (by rw [e]; omega) e0 h1
      refine ⟨g1, fun w hw => ?_, fun t t0 t1 tp => ?_⟩
      · rw [g2] at hw
        rcases List.mem_append.1 hw with q | q
        · exact h2 w q
        · exact (g3 w q).2
      · by_cases e2 : t = m
        · rw [e2]; exact g4
        · rw [g2]; exact List.mem_append_left _ (h3 t t0 (by omega) tp)
    · rw [if_neg hp]
      refine ⟨h1, h2, fun t t0 t1 tp => ?_⟩
      by_cases e2 : t = m
      · rw [e2] at tp; exact absurd tp hp
      · exact h3 t t0 (by omega) tp
theorem w80 (hF : bFi σ) (hL : bTl σ) (hT : bTg σ) (h4 : bR4 σ) (hM : bMks σ) (hr : bRg (bi σ 6 10 + 1)) (hm : bRg x) (hP : ∀ t, 0 ≤ t → t < 16 → (bAnd (bShr x t) 1 = 1 ↔ P t = true)) (hS : ∀ t, 0 ≤ t → t < 16 → P t = true → bTgk σ t ∧ bFx σ (t * 256 + bi σ 10 0) = 0)
    (I0 : bmI0 rk n0 Z0) (I1 : bmI1 σ [] rk n0 Z0) (C : bmC n0 [] Z0 n0 σ)
    (K1 : ∀ s0 t Z n rk, bWk σ s0 → bi s0 6 10 = bi σ 6 10 + 1 → bOl s0 = bmOd σ P 16 → bmAl σ (bmOd σ P 16) Z0 = some Z → bmI0 rk n Z → bmI1 σ (bmOd σ P 16) rk n Z → bmC n0 (bmOd σ P 16) Z n t → bmFr n0 s0 t → f 1 t)
    (K0 : bmAl σ (bmOd σ P 16) Z0 = none → ∀ s0 t, bWk σ s0 → bi s0 6 10 = bi σ 6 10 + 1 → bmFr n0 s0 t → bi t 6 13 = n0 → (∀ a, (n0 : Int) ≤ a → a ≤ 120 → bAm1 t a) → (∀ y, 0 ≤ y → y < 4096 → -1 ≤ bi t 30 y ∧ bi t 30 y < 1000) → f 0 t) : bWp (d + 6) 80 [.ref 6, .int (bn x)] σ (bRn f) := by
  have n120 := I0.1.2.1
  have tc := hT.1
  have hc : 0 ≤ bi σ 10 0 ∧ bi σ 10 0 < 256 := by
    have e := hL.2.2.2
    have a0 := hL.2.2.1 0 (by decide) (by decide)
    have a1 := hL.2.2.1 1 (by decide) (by decide)
    have a2 := hL.2.2.1 2 (by decide) (by decide)
    have a3 := hL.2.2.1 3 (by decide) (by decide)
    omega
  refine ⟨rfl, fun A hA => sq80_0 (bWp_mono _) hA hm (w70 hr ?_)⟩
  have W0 := bWk_0 hM hr
  have e0 : bi (bw (bw σ 6 10 (bi σ 6 10 + 1)) 6 11 0) 6 10 = bi σ 6 10 + 1 := by rw [bi_nj (by decide) (by decide) (by decide), bi_eq hr]
  have e11 : bi (bw (bw σ 6 10 (bi σ 6 10 + 1)) 6 11 0) 6 11 = 0 := bi_eq (by decide)
  have e013 : bi (bw (bw σ 6 10 (bi σ 6 10 + 1)) 6 11 0) 6 13 = bi σ 6 13 := by rw [bi_nj (by decide) (by decide) (by decide), bi_nj (by decide) (by decide) (by decide)]
  have ol0 : bOl (bw (bw σ 6 10 (bi σ 6 10 + 1)) 6 11 0) = [] := by unfold bOl; rw [e11]; rfl
  generalize bw (bw σ 6 10 (bi σ 6 10 + 1)) 6 11 0 = s1 at *
  obtain ⟨wn, wf, wm⟩ := bmOd_w hL hT hS 16 (Nat.le_refl _)
  rw [C.1]
  -- the walk over the targets
  have Lp : ∀ (k m : Nat) (s : bSt) (v4 v5 : Value), m + k = 16 → bWk σ s → bi s 6 10 = bi σ 6 10 + 1 → bi s 6 13 = n0 → bOl s = bmOd σ P m → A (7, [.ref 6, .int (bn x), .int (bn n0), .int (bn m), v4, v5], [], s) := by
    intro k
    induction k with
    | zero =>
      intro m s v4 v5 hk Wk s10 s13 sO
      have em : m = 16 := by omega
      subst em
      refine sq80_7 (bWp_mono _) hA hm ⟨by omega, by omega⟩ (by decide) ⟨fun y => absurd y (by decide), fun _ => ?_⟩
      have vb := bVn_b (s := s)
      have M := Wk.1
      have same : ∀ b, b % 256 ∉ bWkK → ∀ j, bi s b j = bi σ b j := M.2
      have b33 : ∀ a, br s 33 a = br σ 33 a := fun a => by unfold br; rw [M.1]
      have objs : ∀ a b, b ∈ bAd a → ∀ j, bi s b j = bi σ b j := fun a b hb => same b (by
        have := bAd_m hb
        unfold bWkK
        simp only [List.mem_cons, List.not_mem_nil, or_false, not_or] at this ⊢
        omega)
      have mem : ∀ a, bAi a ∈ bAd a ∧ bAi a + 13 ∈ bAd a ∧ bNe a ∈ bAd a ∧ bKe a ∈ bAd a := fun a => by
        unfold bAd bAid bAi bNe bKe
        generalize a.toNat + 1 = q
        exact ⟨by simp, by simp, by simp, by simp⟩
      have f30 : ∀ j, bi s 30 j = bi σ 30 j := same 30 (by decide)
      have Cs : bmC n0 [] Z0 n0 s := ⟨s13, fun a a0 a1 => bmA_m (C.2.1 a a0 a1) (fun b hb => objs a b (by
        have m := mem a
        simp only [List.mem_cons, List.not_mem_nil, or_false] at hb
        rcases hb with rfl | rfl | rfl
        · exact m.1
        · exact m.2.1
        · exact m.2.2.1)) (b33 a) (fun _ _ => rfl) (fun _ _ _ => rfl), fun a a0 a1 => bAm1_o (C.2.2.1 a a0 a1) (fun b hb => objs a b (by
        have m := mem a
        simp only [List.mem_cons, List.not_mem_nil, or_false] at hb
        rcases hb with rfl | rfl
        · exact m.1
        · exact m.2.2.2)) (b33 a) (fun b _ => by rw [M.1]), fun y hy => absurd hy List.not_mem_nil, fun y y0 y1 => by rw [f30]; exact C.2.2.2.2 y y0 y1⟩
      have := w80L (d := d) (s0 := s) (Z0 := Z0) hA hF hL hT h4 M Wk.2.1 (by rw [sO]; exact fun y hy => (wf y hy).2.2) (by rw [sO]; exact wn) (by have := Wk.2.2.2; omega) n120 (fun t Z n rk hZ J0 J1 Ct Ft => ?_) (fun hZ t Ft t13 tA t30 => ?_) (bOl s) [] s Z0 n0 rk (.int (bn x)) v4 v5 (by rw [List.nil_append]) rfl I0 I1 (fun y hy => absurd hy List.not_mem_nil) Cs bmFr_refl (Nat.le_refl _)
      · exact this
      · rw [sO] at hZ J1 Ct
        exact K1 s t Z n rk Wk s10 sO hZ J0 J1 Ct Ft
      · rw [sO] at hZ
        exact K0 hZ s t Wk s10 Ft t13 tA t30
    | succ k ih =>
      intro m s v4 v5 hk Wk s10 s13 sO
      have m16 : (m : Int) < 16 := by omega
      have nx := fun s => ih (m + 1) s v4 v5 (by omega)
      have u : bmOd σ P (m + 1) = if P m then bpO σ 16 ((m : Int) * 256 + bi σ 10 0) (bmOd σ P m) else bmOd σ P m := rfl
      rw [u, show ((m + 1 : Nat) : Int) = (m : Int) + 1 by omega] at nx
      have rm : bRg ((m : Int) + 1) := ⟨by omega, by omega⟩
      have hp := hP m (by omega) m16
      refine sq80_7 (bWp_mono _) hA hm ⟨by omega, by omega⟩ ⟨by omega, by omega⟩ ⟨fun _ => ⟨fun y => ?_, fun y => ?_⟩, fun y => absurd m16 y⟩
      · have hp := hp.1 y
        rw [if_pos hp] at nx
        obtain ⟨tk, e0'⟩ := hS m (by omega) m16 hp
        have ec : bi s 10 0 = bi σ 10 0 := Wk.1.2 10 (by decide) 0
        have e : ((m : Int) * 256 + bi σ 10 0) / 256 = m := by omega
        refine w69 (d := d + 4) ⟨by omega, by omega⟩ (by rw [ec]; exact hc) ?_
        rw [ec]
        refine w71o (d := d) hF hL hT h4 Wk (by omega) (by rw [e]; exact tk) fun s2 hO W2 E2 _ => ⟨rm, nx s2 W2 (E2.1.1.trans s10) (E2.1.2.trans s13) (by rw [hO, sO])⟩
      · have hp : ¬ P m = true := fun w => y (hp.2 w)
        rw [if_neg hp] at nx
        exact ⟨rm, nx s Wk s10 s13 sO⟩
  exact Lp 16 0 s1 _ _ (by omega) W0 e0 (e013.trans C.1) ol0
end

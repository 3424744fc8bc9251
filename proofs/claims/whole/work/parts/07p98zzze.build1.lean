/-! BUILD, 1: the reference forgets the last build -/
def bOblK : List Nat := [139, 140, 142, 143, 144, 145, 146, 147, 148]
/-- nothing is said of the first n actions -/
def bObl (n : Int) (s : bSt) : Prop := ∀ k, 0 ≤ k → k < n → bi s 140 k = 0 ∧ bi s 142 k = -1 ∧ bi s 143 k = -1 ∧ bi s 144 k = -1 ∧ bi s 145 k = -1 ∧ bi s 146 k = -1 ∧ bi s 148 k = -1 ∧ bi s 147 k = 0
section
variable {d : Nat} {σ s : bSt} {f : Int → bSt → Prop} {fv : bSt → Prop} {x y : Int}
theorem w289 (hx : bRg x) (hy : bRg y) (h : f (if x = -1 then y else if y = -1 then x else min x y) σ) : bWp (d + 1) 289 [.int (bn x), .int (bn y)] σ (bRn f) := by
  refine ⟨rfl, fun A hA => sq289_0 (bWp_mono _) hA hx hy ⟨fun a => bRn_i hy ?_, fun a => ⟨fun b => bRn_i hx ?_, fun b => ⟨fun c => bRn_i hx ?_, fun c => bRn_i hy ?_⟩⟩⟩⟩
  · rwa [if_pos a] at h
  · rwa [if_neg a, if_pos b] at h
  · rwa [if_neg a, if_neg b, show min x y = x by omega] at h
  · rwa [if_neg a, if_neg b, show min x y = y by omega] at h
theorem w280 (h : ∀ s, s.2 = σ.2 → bUn bOblK [95, 105, 106] σ s → (∀ k, 0 ≤ k → k < 12 → bi s 139 k = 0) → bObl 120 s → bi s 12 95 = -1 → bi s 12 105 = 0 → bi s 12 106 = 0 → fv s) : bWp (d + 1) 280 [.ref 12] σ (bRv fv) := by
  refine ⟨rfl, fun A hA => sq280_0 (bWp_mono _) hA ?_⟩
  have L2 : ∀ (m : Nat) (l : Int) (s : bSt), l + m = 120 → 0 ≤ l → s.2 = σ.2 → bUn bOblK [95, 105, 106] σ s → (∀ k, 0 ≤ k → k < 12 → bi s 139 k = 0) → bObl l s → bi s 12 95 = -1 → A (17, [.ref 12, .int (bn l)], [], s) := by
    intro m
    induction m with
    | zero =>
      intro l s hl l0 e U H O e95
      have el : l = 120 := by omega
      rw [el] at O ⊢
      refine sq280_17 (bWp_mono _) hA (by decide) ⟨fun w => absurd w (by decide), fun _ => h _ e (bUn_f (bUn_f U (by decide) (by decide)) (by decide) (by decide)) (fun k k0 k1 => by rw [bi_ne (by decide), bi_ne (by decide)]; exact H k k0 k1) (fun k k0 k1 => ?_) (by rw [bi_nj (by decide) (by decide) (by decide), bi_nj (by decide) (by decide) (by decide)]; exact e95) (by rw [bi_nj (by decide) (by decide) (by decide), bi_eq (by decide)]) (bi_eq (by decide))⟩
      have e2 : ∀ a, a ≠ 12 → ∀ j, bi (bw (bw s 12 105 0) 12 106 0) a j = bi s a j := fun a q j => by rw [bi_ne q, bi_ne q]
      rw [e2 140 (by decide), e2 142 (by decide), e2 143 (by decide), e2 144 (by decide), e2 145 (by decide), e2 146 (by decide), e2 148 (by decide), e2 147 (by decide)]
      exact O k k0 k1
    | succ m ih =>
      intro l s hl l0 e U H O e95
      refine sq280_17 (bWp_mono _) hA ⟨by omega, by omega⟩ ⟨fun _ => ⟨⟨l0, by omega⟩, ⟨by omega, by omega⟩, ?_⟩, fun w => absurd (show l < 120 by omega) w⟩
      refine ih (l + 1) _ (by omega) (by omega) e (bUn_w (bUn_w (bUn_w (bUn_w (bUn_w (bUn_w (bUn_w (bUn_w U (by decide) (by decide)) (by decide) (by decide)) (by decide) (by decide)) (by decide) (by decide)) (by decide) (by decide)) (by decide) (by decide)) (by decide) (by decide)) (by decide) (by decide)) (fun k k0 k1 => ?_) (fun k k0 k1 => ?_) ?_
      · rw [bi_ne (by decide), bi_ne (by decide), bi_ne (by decide), bi_ne (by decide), bi_ne (by decide), bi_ne (by decide), bi_ne (by decide), bi_ne (by decide)]; exact H k k0 k1
      · by_cases z : k = l
        · subst z
          refine ⟨?_, ?_, ?_, ?_, ?_, ?_, ?_, ?_⟩
          · rw [bi_ne (by decide), bi_ne (by decide), bi_ne (by decide), bi_ne (by decide), bi_ne (by decide), bi_ne (by decide), bi_ne (by decide), bi_eq (by decide)]
          · rw [bi_ne (by decide), bi_ne (by decide), bi_ne (by decide), bi_ne (by decide), bi_ne (by decide), bi_ne (by decide), bi_eq (by decide)]
          · rw [bi_ne (by decide), bi_ne (by decide), bi_ne (by decide), bi_ne (by decide), bi_ne (by decide), bi_eq (by decide)]
          · rw [bi_ne (by decide), bi_ne (by decide), bi_ne (by decide), bi_ne (by decide), bi_eq (by decide)]
          · rw [bi_ne (by decide), bi_ne (by decide), bi_ne (by decide), bi_eq (by decide)]
          · rw [bi_ne (by decide), bi_ne (by decide), bi_eq (by decide)]
          · rw [bi_ne (by decide), bi_eq (by decide)]
          · rw [bi_eq (by decide)]
        · have o := O k k0 (by omega)
          have st : ∀ (s : bSt) (a b : Nat) (v : Int), bi (bw s b l v) a k = bi s a k := fun s a b v => by
            by_cases q : a = b
            · rw [q]; exact bi_nj l0 k0 z
            · exact bi_ne q
          simp only [st]
          exact o
      · rw [bi_ne (by decide), bi_ne (by decide), bi_ne (by decide), bi_ne (by decide), bi_ne (by decide), bi_ne (by decide), bi_ne (by decide), bi_ne (by decide)]; exact e95
  have L1 : ∀ (m : Nat) (l : Int) (s : bSt), l + m = 12 → 0 ≤ l → s.2 = σ.2 → bUn bOblK [95, 105, 106] σ s → (∀ k, 0 ≤ k → k < l → bi s 139 k = 0) → A (2, [.ref 12, .int (bn l)], [], s) := by
    intro m
    induction m with
    | zero =>
      intro l s hl l0 e U H
      have el : l = 12 := by omega
      rw [el] at H ⊢
      exact sq280_2 (bWp_mono _) hA (by decide) ⟨fun w => absurd w (by decide), fun _ => L2 120 0 _ (by decide) (by decide) e (bUn_f U (by decide) (by decide)) (fun k k0 k1 => by rw [bi_ne (by decide)]; exact H k k0 k1) (fun k k0 k1 => by omega) (bi_eq (by decide))⟩
    | succ m ih =>
      intro l s hl l0 e U H
      refine sq280_2 (bWp_mono _) hA ⟨by omega, by omega⟩ ⟨fun _ => ⟨⟨l0, by omega⟩, ⟨by omega, by omega⟩, ih (l + 1) _ (by omega) (by omega) e (bUn_w U (by decide) (by decide)) (fun k k0 k1 => ?_)⟩, fun w => absurd (show l < 12 by omega) w⟩
      by_cases z : k = l
      · rw [z, bi_eq (by decide)]
      · rw [bi_nj l0 k0 z]; exact H k k0 (by omega)
  exact L1 12 0 σ (by decide) (by decide) rfl bUn_refl (fun k k0 k1 => by omega)
end

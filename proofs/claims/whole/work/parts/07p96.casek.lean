/-! CACHES: how many entries; forget -/
/-- how many of n stamps from lo on are above 0 -/
def bNum (σ : bSt) (lo : Int) : Nat → Int
  | 0 => 0
  | n + 1 => bNum σ lo n + if 0 < bi σ 121 (lo + n) then 1 else 0
theorem bNum_b {σ : bSt} {lo : Int} : ∀ {n : Nat}, 0 ≤ bNum σ lo n ∧ bNum σ lo n ≤ n := fun {n} => by
  induction n with
  | zero => exact ⟨Int.le_refl _, Int.le_refl _⟩
  | succ n ih =>
    unfold bNum
    by_cases w : 0 < bi σ 121 (lo + n)
    · rw [if_pos w]; omega
    · rw [if_neg w]; omega
theorem bNum_m {σ s : bSt} {lo : Int} (h : ∀ t, lo ≤ t → bi s 121 t = bi σ 121 t) : ∀ {n : Nat}, bNum s lo n = bNum σ lo n := fun {n} => by
  induction n with
  | zero => rfl
  | succ n ih => unfold bNum; rw [ih, h (lo + n) (by omega)]
/-- how many entries a cache has: near, far -/
def bCt (σ : bSt) : Prop := bi σ 1 0 = bNum σ 0 32 ∧ bi σ 257 0 = bNum σ 32 48
section
variable {d : Nat} {σ s t : bSt} {f : Int → bSt → Prop} {x y k c : Int} {G : bSt → Prop} {H : bHp} {L n : Nat}
theorem w269 (hx : x = 0 ∨ x = 1) (h : f (if x = 0 then bNum σ 0 32 else bNum σ 32 48) σ) : bWp (d + 1) 269 [.ref 12, .int (bn x)] σ (bRn f) := by
  refine ⟨rfl, fun A hA => sq269_0 (bWp_mono _) hA (b01_rg hx) ?_⟩
  rcases hx with rfl | rfl
  · rw [if_pos rfl] at h
    have K : ∀ (m j : Nat), j + m = 32 → A (8, [.ref 12, .int (bn 0), .int (bn (bNum σ 0 j)), .int (bn j)], [], σ) := by
      intro m
      induction m with
      | zero =>
        intro j hj
        have := bNum_b (σ := σ) (lo := 0) (n := j)
        refine sq269_8 (bWp_mono _) hA (by decide) ⟨by omega, by omega⟩ ⟨by omega, by omega⟩ (bTt rfl (bFf (by omega) (bRn_i ⟨by omega, by omega⟩ ?_)))
        rwa [show j = 32 by omega]
      | succ m ih =>
        intro j hj
        have := bNum_b (σ := σ) (lo := 0) (n := j)
        have hi := ih (j + 1) (by omega)
        unfold bNum at hi
        rw [show (0 : Int) + j = j by omega] at hi
        refine sq269_8 (bWp_mono _) hA (by decide) ⟨by omega, by omega⟩ ⟨by omega, by omega⟩ (bTt rfl (bTt (by omega) ⟨⟨by omega, by omega⟩, fun z => ⟨⟨by omega, by omega⟩, ⟨by omega, by omega⟩, ?_⟩, fun z => ⟨⟨by omega, by omega⟩, ⟨by omega, by omega⟩, ?_⟩⟩))
        · rw [if_pos z] at hi; exact hi
        · rw [if_neg z] at hi; exact hi
    exact bTt rfl (K 32 0 rfl)
  · rw [if_neg (by decide)] at h
    have K : ∀ (m j : Nat), j + m = 48 → A (8, [.ref 12, .int (bn 1), .int (bn (bNum σ 32 j)), .int (bn (32 + j))], [], σ) := by
      intro m
      induction m with
      | zero =>
        intro j hj
        have := bNum_b (σ := σ) (lo := 32) (n := j)
        refine sq269_8 (bWp_mono _) hA (by decide) ⟨by omega, by omega⟩ ⟨by omega, by omega⟩ (bFf (by decide) (bFf (by omega) (bRn_i ⟨by omega, by omega⟩ ?_)))
        rwa [show j = 48 by omega]
      | succ m ih =>
        intro j hj
        have := bNum_b (σ := σ) (lo := 32) (n := j)
        have hi := ih (j + 1) (by omega)
        unfold bNum at hi
        refine sq269_8 (bWp_mono _) hA (by decide) ⟨by omega, by omega⟩ ⟨by omega, by omega⟩ (bFf (by decide) (bTt (by omega) ⟨⟨by omega, by omega⟩, fun z => ⟨⟨by omega, by omega⟩, ⟨by omega, by omega⟩, ?_⟩, fun z => ⟨⟨by omega, by omega⟩, ⟨by omega, by omega⟩, ?_⟩⟩))
        · rw [if_pos z] at hi; rw [show 32 + (j : Int) + 1 = 32 + ((j + 1 : Nat) : Int) by omega]; exact hi
        · rw [if_neg z] at hi; rw [show 32 + (j : Int) + 1 = 32 + ((j + 1 : Nat) : Int) by omega]; exact hi
    exact bFf (by decide) (K 48 0 rfl)
theorem k30 (hT : ∀ s, G s → bCt s) (hG : ∀ σ s, bUn [] [0] σ s → G σ → G s) (hH : ∀ c k σ s, bUn [] [0] σ s → H c k σ → H c k s) (h : bI9 G H L n σ) : bK30 (bI9 G H L (n + 1)) σ := by
  intro p h0
  have hM := hT _ h.2.2.2.1
  have ref : ∀ k : Int, k = (if p = 0 then bNum σ 0 32 else bNum σ 32 48) → bMid σ σ ∧ bWp 12 277 [.ref 12, .int (bn p)] σ (bRn fun b s2 => k = b ∧ bI9 G H L (n + 1) s2) := fun k hk => by
    have b1 := bNum_b (σ := σ) (lo := 0) (n := 32)
    have b2 := bNum_b (σ := σ) (lo := 32) (n := 48)
    have hr : bRg (if p = 0 then bNum σ 0 32 else bNum σ 32 48) := by
      by_cases w : p = 0
      · rw [if_pos w]; exact ⟨by omega, by omega⟩
      · rw [if_neg w]; exact ⟨by omega, by omega⟩
    exact ⟨bMid_un (bUn_refl (S := []) (F := [])) (by decide), rfl, fun A hA => sq277_0 (bWp_mono _) hA (b01_rg h0) (w269 h0 (w198 hr (bRn_i hr ⟨hk, bI9_r hG hH (bUn_f bUn_refl (by decide) (by decide)) (Nat.le_succ _) (Nat.le_add_right _ _) h⟩)))⟩
  refine ⟨rfl, fun A hA => sq173_0 (bWp_mono _) hA (b01_rg h0) ⟨fun z => bRn_i (bi_rg _ _ _) (ref _ ?_), fun z => bRn_i (bi_rg _ _ _) (ref _ ?_)⟩⟩
  · rw [if_pos z]; exact hM.1
  · rw [if_neg z]; exact hM.2
/-- what forget leaves: the cache's count and its stamps are 0 -/
def bFgt (b : Nat) (lo hi : Int) (σ s : bSt) : Prop := bUn [1, 121] [0] σ s ∧ (bi s b 0 = 0 ∧ ∀ a j, a % 256 = 1 → 0 ≤ j → ¬ (a = b ∧ j = 0) → bi s a j = bi σ a j) ∧ (∀ a i, bj s a i = bj σ a i) ∧ (∀ a i, br s a i = br σ a i) ∧ ∀ j, 0 ≤ j → bi s 121 j = if lo ≤ j ∧ j < hi then 0 else bi σ 121 j
theorem w276 (hx : x = 0 ∨ x = 1) (h : ∀ s, bFl 121 (if x = 0 then 0 else 32) (if x = 0 then 32 else 80) 0 σ s → f (if x = 0 then bNum σ 0 32 else bNum σ 32 48) (bw s 12 0 0)) : bWp (d + 2) 276 [.ref 12, .int (bn x)] σ (bRn f) := by
  have b1 := bNum_b (σ := σ) (lo := 0) (n := 32)
  have b2 := bNum_b (σ := σ) (lo := 32) (n := 48)
  refine ⟨rfl, fun A hA => sq276_0 (bWp_mono _) hA (b01_rg hx) (w269 hx ?_)⟩
  rcases hx with rfl | rfl
  · replace h : ∀ s, bFl 121 0 32 0 σ s → f (bNum σ 0 32) (bw s 12 0 0) := h
    rw [if_pos rfl]
    have K : ∀ (m j : Nat) (s : bSt), j + m = 32 → bFl 121 0 j 0 σ s → A (10, [.ref 12, .int (bn 0), .int (bn (bNum σ 0 32)), .int (bn j)], [], s) := by
      intro m
      induction m with
      | zero =>
        intro j s hj a
        refine sq276_10 (bWp_mono _) hA (by decide) ⟨by omega, by omega⟩ ⟨by omega, by omega⟩ (bTt rfl (bFf (by omega) (w198 ⟨by omega, by omega⟩ (bRn_i ⟨by omega, by omega⟩ (h s ?_)))))
        rwa [show j = 32 by omega] at a
      | succ m ih =>
        intro j s hj a
        exact sq276_10 (bWp_mono _) hA (by decide) ⟨by omega, by omega⟩ ⟨by omega, by omega⟩ (bTt rfl (bTt (by omega) ⟨⟨by omega, by omega⟩, ⟨by omega, by omega⟩, ih (j + 1) _ (by omega) (bFl_s a (by decide) (by omega) (by decide))⟩))
    exact bTt rfl (K 32 0 σ rfl (bFl_0 (by decide)))
  · simp only [if_neg (show ¬ (1 : Int) = 0 by decide)] at h ⊢
    have K : ∀ (m j : Nat) (s : bSt), j + m = 80 → 32 ≤ j → bFl 121 32 j 0 σ s → A (10, [.ref 12, .int (bn 1), .int (bn (bNum σ 32 48)), .int (bn j)], [], s) := by
      intro m
      induction m with
      | zero =>
        intro j s hj j0 a
        refine sq276_10 (bWp_mono _) hA (by decide) ⟨by omega, by omega⟩ ⟨by omega, by omega⟩ (bFf (by decide) (bFf (by omega) (w198 ⟨by omega, by omega⟩ (bRn_i ⟨by omega, by omega⟩ (h s ?_)))))
        rwa [show j = 80 by omega] at a
      | succ m ih =>
        intro j s hj j0 a
        exact sq276_10 (bWp_mono _) hA (by decide) ⟨by omega, by omega⟩ ⟨by omega, by omega⟩ (bFf (by decide) (bTt (by omega) ⟨⟨by omega, by omega⟩, ⟨by omega, by omega⟩, ih (j + 1) _ (by omega) (by omega) (bFl_s a (by decide) (by omega) (by decide))⟩))
    exact bFf (by decide) (K 48 32 σ rfl (by decide) (bFl_0 (by decide)))
theorem k29 (hT : ∀ s, G s → bCt s) (hS : ∀ σ s, bFgt 1 0 32 σ s ∨ bFgt 257 32 80 σ s → G σ → G s) (hH : ∀ c k σ s, bFgt 1 0 32 σ s ∨ bFgt 257 32 80 σ s → H c k σ → H c k s) (h : bI9 G H L n σ) : bK29 (bI9 G H L (n + 1)) σ := by
  intro p h0
  have hM := hT _ h.2.2.2.1
  have fin : ∀ {s : bSt} {b : Nat} {lo hi : Int}, (b % 256 = 1 ∧ b ≠ 121 ∧ b ≠ 12) → (bFgt b lo hi σ (bw s 12 0 0) → bFgt 1 0 32 σ (bw s 12 0 0) ∨ bFgt 257 32 80 σ (bw s 12 0 0)) → bFl 121 lo hi 0 (bw σ b 0 0) s → bI9 G H L (n + 1) (bw s 12 0 0) := fun {s b lo hi} hb w a => by
    have u1 : bUn [1, 121] [0] σ (bw σ b 0 0) := bUn_w bUn_refl (by rw [hb.1]; decide) (by rw [hb.1]; decide)
    have u2 : bUn [1, 121] [0] σ (bw s 12 0 0) := bUn_f (bUn_l u1 a (by decide) (by decide)) (by decide) (by decide)
    have k := w ⟨u2, ⟨by rw [bi_ne hb.2.2, a.2.1 _ _ hb.2.1]; exact bi_eq (by decide), fun a0 j h1 h2 h3 => by
      rw [bi_ne (by omega), a.2.1 _ _ (by omega)]
      by_cases z : a0 = b
      · subst z
        rw [bi_nj (by decide) h2 (fun e => h3 ⟨rfl, e⟩)]
      · rw [bi_ne z]⟩, fun a0 i => by
        show bj s a0 i = _
        unfold bj
        rw [a.1]
        rfl, fun a0 i => by
        show br s a0 i = _
        unfold br
        rw [a.1]
        rfl, fun j j0 => by rw [bi_ne (by decide), a.2.2 j j0, bi_ne (Ne.symm hb.2.1)]⟩
    refine bI9_u (by decide) (by decide) u2 (hS _ _ k) (fun c k2 => hH c k2 _ _ k) ?_ ?_ h
    · show s.2.2.2.2.1 ≤ _
      rw [a.1]
      exact Nat.le_succ _
    · show s.2.2.2.2.2 ≤ _
      rw [a.1]
      exact Nat.le_add_right _ _
  refine ⟨rfl, fun A hA => sq172_0 (bWp_mono _) hA (b01_rg h0) ⟨fun z => ⟨rfl, fun A hA => sq19_0 (bWp_mono _) hA (by decide) (bRn_i (bi_rg _ _ _) (bRn_i (bi_rg _ _ _) ?_))⟩, fun z => ⟨rfl, fun A hA => sq19_0 (bWp_mono _) hA (by decide) (bRn_i (bi_rg _ _ _) (bRn_i (bi_rg _ _ _) ?_))⟩⟩⟩
  · refine ⟨bMid_un (S := [1]) (F := []) (bUn_w bUn_refl (by decide) (by decide)) (by decide), w276 h0 fun s a => ?_⟩
    rw [if_pos z, if_pos z] at a
    rw [if_pos z]
    exact ⟨by rw [hM.1]; exact (bNum_m fun t _ => bi_ne (by decide)).symm, fin (by decide) Or.inl a⟩
  · refine ⟨bMid_un (S := [1]) (F := []) (bUn_w bUn_refl (by decide) (by decide)) (by decide), w276 h0 fun s a => ?_⟩
    rw [if_neg z, if_neg z] at a
    rw [if_neg z]
    exact ⟨by rw [hM.2]; exact (bNum_m fun t _ => bi_ne (by decide)).symm, fin (by decide) Or.inr a⟩
end

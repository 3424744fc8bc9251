/-! ACTIONS, 8: the reference knows the action of a target; both know the same -/
/-- what is known of a node, M what is known of all -/
def bCkf (σ : bSt) (M : Int → Int) (x : Int) : Prop := (bFx σ x ≠ 0 ∧ M x = -1) ∨ (bFx σ x = 0 ∧ ((∃ k, 0 ≤ k ∧ k < bi σ 85 (x / 256) ∧ bi σ 86 (6 * (x / 256) + k) = 2 ∧ M (bNod σ x k) = -1) ∧ M x = -1 ∨
  (∀ k, 0 ≤ k → k < bi σ 85 (x / 256) → bi σ 86 (6 * (x / 256) + k) = 2 → M (bNod σ x k) ≠ -1) ∧ ((0 ≤ M x ∧ M x < bi σ 12 49) ∧ bSar σ (M x) (bi σ 76 (x / 256)) (bNu σ (x / 256) (x % 256)) (bVe σ (x / 256) (x % 256)) (bi σ 75 (x / 256)) (bIl σ M x (bi σ 85 (x / 256)).toNat) ∨
    M x = -1 ∧ ∀ a, 0 ≤ a → a < bi σ 12 49 → ¬ bSar σ a (bi σ 76 (x / 256)) (bNu σ (x / 256) (x % 256)) (bVe σ (x / 256) (x % 256)) (bi σ 75 (x / 256)) (bIl σ M x (bi σ 85 (x / 256)).toNat))))
section
variable {d : Nat} {σ s t r : bSt} {f : Int → bSt → Prop} {fv : bSt → Prop} {q x y v i op nu ve ho k m : Int} {L : List Int} {M N : Int → Int}
theorem bCk_f : bCk σ s x ↔ bCkf σ (bMd s) x := Iff.rfl
theorem bCkf_rg (h : bCkf σ M x) : M x = -1 ∨ 0 ≤ M x ∧ M x < bi σ 12 49 := by
  rcases h with ⟨_, e⟩ | ⟨_, ⟨_, e⟩ | ⟨_, ⟨e, _⟩ | ⟨e, _⟩⟩⟩
  · exact Or.inl e
  · exact Or.inl e
  · exact Or.inr e
  · exact Or.inl e
theorem bCkf_c (hT : bTg σ) (ht : bTgk σ (x / 256)) (h : bCkf σ M x) (e0 : N x = M x) (e : ∀ k, 0 ≤ k → k < bi σ 85 (x / 256) → bi σ 86 (6 * (x / 256) + k) = 2 → N (bNod σ x k) = M (bNod σ x k)) : bCkf σ N x := by
  have ic := bIc_at hT ht
  have eL : bIl σ N x (bi σ 85 (x / 256)).toNat = bIl σ M x (bi σ 85 (x / 256)).toNat := bIl_m bPag_refl hT ht e _ (by omega)
  unfold bCkf at h ⊢
  rw [e0, eL]
  refine h.imp id (fun ⟨a, b⟩ => ⟨a, b.imp (fun ⟨⟨k, k0, k1, k2, k3⟩, c⟩ => ⟨⟨k, k0, k1, k2, by rw [e k k0 k1 k2]; exact k3⟩, c⟩) (fun ⟨c1, c2⟩ => ⟨fun k k0 k1 k2 => by rw [e k k0 k1 k2]; exact c1 k k0 k1 k2, c2⟩)⟩)
theorem bCkf_u (hA : bAk σ) (h : bCkf σ M x) (k : bCkf σ N x) (hT : bTg σ) (ht : bTgk σ (x / 256)) (e : bFx σ x = 0 → ∀ k, 0 ≤ k → k < bi σ 85 (x / 256) → bi σ 86 (6 * (x / 256) + k) = 2 → N (bNod σ x k) = M (bNod σ x k)) : M x = N x := by
  have ic := bIc_at hT ht
  rcases h with ⟨a1, a2⟩ | ⟨a1, h⟩
  · rcases k with ⟨b1, b2⟩ | ⟨b1, _⟩
    · rw [a2, b2]
    · exact absurd b1 a1
  · have eL : bIl σ N x (bi σ 85 (x / 256)).toNat = bIl σ M x (bi σ 85 (x / 256)).toNat := bIl_m bPag_refl hT ht (e a1) _ (by omega)
    rcases k with ⟨b1, b2⟩ | ⟨b1, k⟩
    · exact absurd a1 b1
    · rw [eL] at k
      rcases h with ⟨⟨j, j0, j1, j2, j3⟩, h⟩ | ⟨hn, h⟩
      · rcases k with ⟨_, k⟩ | ⟨kn, _⟩
        · rw [h, k]
        · exact absurd (by rw [e a1 j j0 j1 j2]; exact j3) (kn j j0 j1 j2)
      · rcases k with ⟨⟨j, j0, j1, j2, j3⟩, k⟩ | ⟨kn, k⟩
        · exact absurd (by rw [← e a1 j j0 j1 j2]; exact j3) (hn j j0 j1 j2)
        · rcases h with ⟨⟨h1, h2⟩, h3⟩ | ⟨h1, h2⟩
          · rcases k with ⟨⟨k1, k2⟩, k3⟩ | ⟨k1, k2⟩
            · exact bSar_u hA h1 h2 k1 k2 h3 k3
            · exact absurd h3 (k2 _ h1 h2)
          · rcases k with ⟨⟨k1, k2⟩, k3⟩ | ⟨k1, k2⟩
            · exact absurd k3 (h2 _ k1 k2)
            · rw [h1, k1]
/-- the same from another state that agrees -/
theorem bCkf_b (ag : bPag σ s) (e : ∀ b ∈ [76, 101, 102, 103, 104, 105, 106], ∀ j, bi s b j = bi σ b j) (e49 : bi s 12 49 = bi σ 12 49) (hT : bTg σ) (ht : bTgk σ (x / 256)) : bCkf s M x ↔ bCkf σ M x := by
  have ic := bIc_at hT ht
  have en : ∀ k, bNod s x k = bNod σ x k := fun k => by unfold bNod; rw [ag.1 87 (by decide), bBw_m ag]
  have eL : bIl s M x (bi σ 85 (x / 256)).toNat = bIl σ M x (bi σ 85 (x / 256)).toNat := bIl_m ag hT ht (fun _ _ _ _ => rfl) _ (by omega)
  have es : ∀ {a op nu ve ho : Int} {L : List Int}, bSar s a op nu ve ho L ↔ bSar σ a op nu ve ho L := fun {a op nu ve ho L} => bSar_m (fun b hb j => e b (List.mem_cons_of_mem _ hb) j)
  unfold bCkf
  simp only [bFx_m ag, ag.1 85 (by decide), ag.1 86 (by decide), ag.1 75 (by decide), e 76 (by decide), e49, bNu_m ag, bVe_m ag, en, eL, es]
/-- the reference finds the actions of all that it has looked at -/
theorem w247 (hF : bFi σ) (hT : bTg σ) (hA : bAk σ) (N1 : ∀ x, 0 ≤ x → bTgk σ (x / 256) → bi σ 94 x ≠ 0 → bi σ 95 x = bFx σ x % 8 ∧ (bFx σ x = 0 → bi σ 97 x = bNu σ (x / 256) (x % 256) ∧ bi σ 98 x = bVe σ (x / 256) (x % 256)) ∧ ∀ k, 0 ≤ k → k < bi σ 85 (x / 256) → bi σ 86 (6 * (x / 256) + k) = 2 → bi σ 94 (bNod σ x k) ≠ 0)
    (N2 : ∀ x, 0 ≤ x → x < 4096 → bi σ 99 x = -9) (h : ∀ s, bSm [99, 116] σ s → (∀ x, 0 ≤ x → bTgk σ (x / 256) → bi σ 94 x ≠ 0 → bFx σ x = 0 → bCkf σ (bMa s) x) → fv s) : bWp (d + 5) 247 [.ref 12] σ (bRv fv) := by
  have tc := hT.1
  have q0 := hA.1
  refine ⟨rfl, fun A hA' => sq247_0 (bWp_mono _) hA' ?_⟩
  have Lp : ∀ (m : Nat) (l : Int) (u : bSt) (v2 : Value), l + m = 256 * bi σ 12 22 → 0 ≤ l → bSm [99, 116] σ u → (∀ y, 0 ≤ y → y < 4096 → -9 ≤ bi u 99 y ∧ bi u 99 y < 1000) → (∀ y, 0 ≤ y → y < l → bi σ 94 y ≠ 0 → bFx σ y = 0 → bCkf σ (bMa u) y) → A (2, [.ref 12, .int (bn l), v2], [], u) := by
    intro m
    induction m with
    | zero =>
      intro l u v2 hl l0 M R D
      have e22 : bi u 12 22 = bi σ 12 22 := M.2 12 (by decide) 22
      refine sq247_2 (bWp_mono _) hA' ⟨by omega, by omega⟩ ?_
      rw [e22]
      exact ⟨⟨by omega, by omega⟩, fun w => absurd w (by omega), fun _ => h u M (fun x x0 xt n e => D x x0 (by have := xt.2; omega) n e)⟩
    | succ m ih =>
      intro x u v2 hl x0 M R D
      have e22 : bi u 12 22 = bi σ 12 22 := M.2 12 (by decide) 22
      have xt : bTgk σ (x / 256) := ⟨by omega, by omega⟩
      have ic := bIc_at hT xt
      have uu : bUn [99, 116] [] σ u := bUn_S bUn_refl M (by decide)
      have sag : ∀ {s}, bSm [99, 116] σ s → bPag σ s := fun {s} M => ⟨fun a ha i => M.2 a (by
        simp only [List.mem_cons, List.not_mem_nil, or_false] at ha
        rcases ha with rfl | rfl | rfl | rfl | rfl | rfl | rfl | rfl | rfl | rfl | rfl | rfl | rfl | rfl | rfl | rfl | rfl | rfl <;> decide) i, M.2 12 (by decide) 17, M.2 12 (by decide) 22, fun t => M.2 (bTi t) (by rw [bTi_m]; decide) 4⟩
      have ag := sag M
      have nok : ∀ k, 0 ≤ k → k < bi σ 85 (x / 256) → bi σ 86 (6 * (x / 256) + k) = 2 → (0 ≤ bNod σ x k ∧ bNod σ x k < x) := fun k k0 k1 hK => by
        obtain ⟨⟨y0, y1, _⟩, _⟩ := bNd_at hT xt k0 k1 hK
        exact ⟨y0, by omega⟩
      -- on without a word
      have skip : ∀ v2, (bi σ 94 x ≠ 0 → bFx σ x ≠ 0) → bRg (x + 1) ∧ A (2, [.ref 12, .int (bn (x + 1)), v2], [], u) := fun v2 w => ⟨⟨by omega, by omega⟩, ih (x + 1) u v2 (by omega) (by omega) M R (fun y y0 y1 n e => by
        by_cases z : y = x
        · rw [z] at n e; exact absurd e (w n)
        · exact D y y0 (by omega) n e)⟩
      -- on with what was found
      have put : ∀ (u' : bSt) (v : Int) (v2 : Value), bSm [99, 116] σ u' → (∀ j, bi u' 99 j = bi u 99 j) → (-1 ≤ v ∧ v < 1000) → bCkf σ (bMa (bw u' 99 x v)) x → bRg (x + 1) ∧ A (2, [.ref 12, .int (bn (x + 1)), v2], [], bw u' 99 x v) := fun u' v v2 M' e99 hv ck => by
        have e2 : ∀ j, 0 ≤ j → bi (bw u' 99 x v) 99 j = if j = x then v else bi u 99 j := fun j j0 => by
          rw [bi_bw x0 j0 ⟨by omega, by omega⟩, e99]; simp only [true_and]
        refine ⟨⟨by omega, by omega⟩, ih (x + 1) _ v2 (by omega) (by omega) (bSm_trans M' (bSm_bw (by decide))) (fun y y0 y1 => ?_) (fun y y0 y1 n e => ?_)⟩
        · rw [e2 y y0]
          by_cases z : y = x
          · rw [if_pos z]; omega
          · rw [if_neg z]; exact R y y0 y1
        · by_cases z : y = x
          · rw [z]; exact ck
          · have yt : bTgk σ (y / 256) := ⟨by omega, by omega⟩
            refine bCkf_c hT yt (D y y0 (by omega) n e) ?_ (fun k k0 k1 hK => ?_)
            · show bi (bw u' 99 x v) 99 y = bi u 99 y
              rw [e2 y y0, if_neg z]
            · obtain ⟨⟨w0, w1, _⟩, _⟩ := bNd_at hT yt k0 k1 hK
              show bi (bw u' 99 x v) 99 (bNod σ y k) = bi u 99 (bNod σ y k)
              rw [e2 _ w0, if_neg (by omega)]
      have e94 : bi u 94 x = bi σ 94 x := M.2 94 (by decide) x
      have e95 : bi u 95 x = bi σ 95 x := M.2 95 (by decide) x
      refine sq247_2 (bWp_mono _) hA' ⟨by omega, by omega⟩ ?_
      rw [e22, e94, e95]
      refine ⟨⟨by omega, by omega⟩, fun _ => ⟨⟨x0, by omega⟩, fun w => skip _ (fun n => absurd w n), fun w => ?_⟩, fun w => absurd (show x < 256 * bi σ 12 22 by omega) w⟩
      obtain ⟨n1, n2, n3⟩ := N1 x x0 xt w
      refine ⟨fun z => ?_, fun z => skip _ (fun _ e => z (by rw [n1, e]; rfl))⟩
      have fz : bFx σ x = 0 := bFx_z hT x0 xt (by rw [← n1]; exact z)
      obtain ⟨_, _, f40, _, _, _⟩ := bIl_40 (G := fun _ => 0) hT x0 xt fz
      obtain ⟨n97, n98⟩ := n2 fz
      -- those below are known
      have bel : ∀ k, 0 ≤ k → k < bi σ 85 (x / 256) → bi σ 86 (6 * (x / 256) + k) = 2 → bi u 99 (bNod σ x k) = -1 ∨ 0 ≤ bi u 99 (bNod σ x k) := fun k k0 k1 hK => (bCkf_rg (D _ (nok k k0 k1 hK).1 (nok k k0 k1 hK).2 (n3 k k0 k1 hK) (f40 k k0 k1 hK))).imp id (fun q => q.1)
      have en : ∀ k, bNod u x k = bNod σ x k := fun k => by unfold bNod; rw [ag.1 87 (by decide), bBw_m ag]
      have tu := bTg_un uu (by decide) (by decide) hT
      refine w245 (bFi_un uu (by decide) hF) tu x0 ⟨xt.1, by rw [e22]; exact xt.2⟩ (by rw [bFx_m ag]; exact fz) R (fun ⟨k, k0, k1, k2, k3⟩ s4 M4 => ?_) (fun nk s4 M4 HL => ?_)
      · rw [ag.1 85 (by decide)] at k1
        rw [ag.1 86 (by decide)] at k2
        rw [en] at k3
        have k4 : bi u 99 (bNod σ x k) = -1 := (bel k k0 k1 k2).resolve_right (by omega)
        have M5 : bSm [99, 116] σ s4 := bSm_trans M (bSm_mono M4 (by decide))
        have e99 : ∀ j, bi s4 99 j = bi u 99 j := M4.2 99 (by decide)
        refine ⟨fun _ => put s4 (-1) _ M5 e99 (by decide) (Or.inr ⟨fz, Or.inl ⟨⟨k, k0, k1, k2, ?_⟩, bi_eq (by decide)⟩⟩), fun w => absurd rfl w⟩
        show bi (bw s4 99 x (-1)) 99 (bNod σ x k) = -1
        rw [bi_nj x0 (nok k k0 k1 k2).1 (by have := (nok k k0 k1 k2).2; omega), e99]
        exact k4
      · have M5 : bSm [99, 116] σ s4 := bSm_trans M (bSm_mono M4 (by decide))
        have ag4 := sag M5
        have e99 : ∀ j, bi s4 99 j = bi u 99 j := M4.2 99 (by decide)
        have nk2 : ∀ k, 0 ≤ k → k < bi σ 85 (x / 256) → bi σ 86 (6 * (x / 256) + k) = 2 → 0 ≤ bi u 99 (bNod σ x k) := fun k k0 k1 hK => by
          rw [← en]
          exact nk k k0 (by rw [ag.1 85 (by decide)]; exact k1) (by rw [ag.1 86 (by decide)]; exact hK)
        rw [ag.1 85 (by decide)] at HL ⊢
        have len := (bIl_40 (G := bMa u) tu x0 ⟨xt.1, by rw [e22]; exact xt.2⟩ (by rw [bFx_m ag]; exact fz)).1
        rw [ag.1 85 (by decide)] at len
        have eL : ∀ v, bIl u (bMa u) x (bi σ 85 (x / 256)).toNat = bIl σ (bMa (bw s4 99 x v)) x (bi σ 85 (x / 256)).toNat := fun v => bIl_m ag hT xt (fun k k0 k1 hK => by
          show bi u 99 (bNod σ x k) = bi (bw s4 99 x v) 99 (bNod σ x k)
          rw [bi_nj x0 (nok k k0 k1 hK).1 (by have := (nok k k0 k1 hK).2; omega), e99]) _ (by omega)
        have nkv : ∀ v k, 0 ≤ k → k < bi σ 85 (x / 256) → bi σ 86 (6 * (x / 256) + k) = 2 → bMa (bw s4 99 x v) (bNod σ x k) ≠ -1 := fun v k k0 k1 hK => by
          show bi (bw s4 99 x v) 99 (bNod σ x k) ≠ -1
          rw [bi_nj x0 (nok k k0 k1 hK).1 (by have := (nok k k0 k1 hK).2; omega), e99]
          have := nk2 k k0 k1 hK
          omega
        have ref : ∀ b ∈ [101, 102, 103, 104, 105, 106], ∀ j, bi s4 b j = bi σ b j := fun b hb j => M5.2 b (by
          simp only [List.mem_cons, List.not_mem_nil, or_false] at hb
          rcases hb with rfl | rfl | rfl | rfl | rfl | rfl <;> decide) j
        have Ak4 : bAk s4 := bAk_m hA (fun b hb j => M5.2 b (by
          simp only [List.mem_cons, List.not_mem_nil, or_false] at hb ⊢
          omega) j) (M5.2 6 (by decide) 13) (M5.2 12 (by decide) 49) (fun a => by unfold br; rw [M5.1]) (fun a b _ => by rw [M5.1])
        have e49 : bi s4 12 49 = bi σ 12 49 := M5.2 12 (by decide) 49
        have e76 : bi s4 76 (x / 256) = bi σ 76 (x / 256) := M5.2 76 (by decide) _
        have e97 : bi s4 97 x = bNu σ (x / 256) (x % 256) := (M5.2 97 (by decide) x).trans n97
        have e98 : bi s4 98 x = bVe σ (x / 256) (x % 256) := (M5.2 98 (by decide) x).trans n98
        refine ⟨fun w => absurd w (by omega), fun _ => ?_⟩
        refine w246 (d := d + 3) Ak4 x0 ⟨xt.1, by rw [ag4.2.2.1]; exact xt.2⟩ (by rw [ag4.2.2.1]; exact tc.2.1) len HL (fun a a0 a1 hs => ?_) (fun hn => ?_)
        · rw [e49] at a1
          rw [e76, e97, e98, ag4.1 75 (by decide), eL a] at hs
          refine put s4 a _ M5 e99 ⟨by omega, by omega⟩ (Or.inr ⟨fz, Or.inr ⟨nkv a, Or.inl ?_⟩⟩)
          have ea : bMa (bw s4 99 x a) x = a := bi_eq ⟨by omega, by omega⟩
          rw [ea]
          exact ⟨⟨a0, a1⟩, (bSar_m ref).1 hs⟩
        · refine put s4 (-1) _ M5 e99 (by decide) (Or.inr ⟨fz, Or.inr ⟨nkv (-1), Or.inr ⟨bi_eq (by decide), fun a a0 a1 w => hn a a0 (by rw [e49]; exact a1) ?_⟩⟩⟩)
          rw [e76, e97, e98, ag4.1 75 (by decide), eL (-1)]
          exact (bSar_m ref).2 w
  exact Lp (256 * bi σ 12 22).toNat 0 σ _ (by omega) (by decide) bSm_refl (fun y y0 y1 => by rw [N2 y y0 y1]; decide) (fun y y0 y1 => by omega)
end

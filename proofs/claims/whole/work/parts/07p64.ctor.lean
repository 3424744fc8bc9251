/-! WHAT IS MADE: the constructors of the class -/
def bKp (l : List Nat) (σ s : bSt) : Prop := ∀ b, b ∉ l → (∀ j, bi s b j = bi σ b j) ∧ (∀ j, bj s b j = bj σ b j) ∧ (∀ j, br s b j = br σ b j) ∧ s.2.2.2.1 b = σ.2.2.2.1 b
def bCo (σ s : bSt) (c k : Nat) : Prop := s.2.2.2.2.1 ≤ σ.2.2.2.2.1 + c ∧ s.2.2.2.2.2 ≤ σ.2.2.2.2.2 + k
theorem bi_bwr {σ : bSt} {a b : Nat} {i j : Int} {v : Option Nat} : bi (bwr σ a i v) b j = bi σ b j := rfl
theorem bi_nN {σ : bSt} {a x n b : Nat} {j : Int} (h : b ≠ a) : bi (bNew σ a x n) b j = bi σ b j := by rw [bi_bNew, if_neg h]
theorem mk_bwr {σ : bSt} {a b : Nat} {i : Int} {v : Option Nat} : (bwr σ a i v).2.2.2.1 b = σ.2.2.2.1 b := rfl
theorem mk_bw {σ : bSt} {a b : Nat} {i v : Int} : (bw σ a i v).2.2.2.1 b = σ.2.2.2.1 b := rfl
theorem bKp_refl {l : List Nat} {σ : bSt} : bKp l σ σ := fun _ _ => ⟨fun _ => rfl, fun _ => rfl, fun _ => rfl, rfl⟩
theorem bKp_trans {l : List Nat} {σ s t : bSt} (h : bKp l σ s) (k : bKp l s t) : bKp l σ t := fun b hb => ⟨fun j => ((k b hb).1 j).trans ((h b hb).1 j), fun j => ((k b hb).2.1 j).trans ((h b hb).2.1 j), fun j => ((k b hb).2.2.1 j).trans ((h b hb).2.2.1 j), (k b hb).2.2.2.trans (h b hb).2.2.2⟩
theorem bKp_mono {l l' : List Nat} {σ s : bSt} (h : bKp l σ s) (hs : ∀ a ∈ l, a ∈ l') : bKp l' σ s := fun b hb => h b fun q => hb (hs _ q)
theorem bKw {l : List Nat} {σ s : bSt} {a : Nat} {i v : Int} (h : bKp l σ s) (ha : a ∈ l) : bKp l σ (bw s a i v) := bKp_trans h fun _ hb => ⟨fun _ => bi_ne (fun e => hb (e ▸ ha)), fun _ => rfl, fun _ => rfl, rfl⟩
theorem bKr {l : List Nat} {σ s : bSt} {a : Nat} {i : Int} {v : Option Nat} (h : bKp l σ s) (ha : a ∈ l) : bKp l σ (bwr s a i v) := bKp_trans h fun _ hb => ⟨fun _ => rfl, fun _ => rfl, fun _ => br_ne (fun e => hb (e ▸ ha)), rfl⟩
theorem bKj {l : List Nat} {σ s : bSt} {a : Nat} {i : Int} {v : Int64} (h : bKp l σ s) (ha : a ∈ l) : bKp l σ (bwj s a i v) := bKp_trans h fun _ hb => ⟨fun _ => rfl, fun _ => bj_ne (fun e => hb (e ▸ ha)), fun _ => rfl, rfl⟩
theorem bKN {l : List Nat} {σ s : bSt} {a x n : Nat} (h : bKp l σ s) (ha : a ∈ l) : bKp l σ (bNew s a x n) := bKp_trans h fun b hb => by
  have e : b ≠ a := fun e => hb (e ▸ ha)
  exact ⟨fun _ => by rw [bi_bNew, if_neg e], fun _ => by rw [bj_bNew, if_neg e], fun _ => by rw [br_bNew, if_neg e], by rw [mk_bNew, if_neg e]⟩
theorem bKA {l : List Nat} {σ s : bSt} {a x : Nat} (h : bKp l σ s) (ha : a ∈ l) : bKp l σ (bA s a x) := bKp_trans h fun b hb => ⟨fun _ => rfl, fun _ => rfl, fun _ => rfl, by rw [mk_bA, if_neg (fun (e : b = a) => hb (e ▸ ha))]⟩
theorem bKs {l : List Nat} {σ s t : bSt} {a : Nat} (h : bKp l σ s) (ha : a ∈ l) (h2 : t.2 = s.2) (h3 : ∀ b j, b ≠ a → bi t b j = bi s b j) : bKp l σ t := bKp_trans h fun b hb => ⟨fun j => h3 b j (fun e => hb (e ▸ ha)), fun j => by unfold bj; rw [h2], fun j => by unfold br; rw [h2], by rw [h2]⟩
theorem bAll_of {s σ : bSt} {a : Nat} (h : s.2 = σ.2) : ∀ {l : List Nat}, bAll σ a l → bAll s a l
  | [], _ => trivial
  | k :: l, q => ⟨by rw [h]; exact q.1, bAll_of h q.2⟩
theorem bCo_of {σ s t : bSt} {c k : Nat} (h : t.2 = s.2) (hs : bCo σ s c k) : bCo σ t c k := by unfold bCo; rw [h]; exact hs
theorem bCo_add {σ s t : bSt} {c k c' k' c2 k2 : Nat} (h : bCo σ s c k) (h2 : bCo s t c' k') (hc : c + c' ≤ c2) (hk : k + k' ≤ k2) : bCo σ t c2 k2 := ⟨by have := h.1; have := h2.1; omega, by have := h.2; have := h2.2; omega⟩
section
variable {d : Nat} {σ : bSt} {fv : bSt → Prop}
theorem w361 {a N : Nat} {v : Int} (hv : bRg v) (ht : bTy a = 0) (hw : a % 256 < 200) (hl : ∀ s : bSt, bLen s a = N) (hN : N ≤ 10000) (h : ∀ s : bSt, s.2 = σ.2 → (∀ b j, b ≠ a → bi s b j = bi σ b j) → (∀ j, 0 ≤ j → j < (N : Int) → bi s a j = v) → fv s) : bWp (d + 1) 361 [.ref a, .int (bn v)] σ (bRv fv) := by
  refine ⟨rfl, fun A hA => sq361_0 (bWp_mono _) hA hv ⟨by rw [ht]; decide, by rw [hl]; omega, ?_⟩⟩
  rw [hl]
  exact bLoopF (P := fun n s => A (5, [.ref a, .int (bn v), .int (bn n), .int (bn N)], [], s)) (σ1 := σ) (a := a) (N := N) (v := v) hv
    (fun n s hn hs k => sq361_5 (bWp_mono _) hA hv ⟨by omega, by omega⟩ ⟨by omega, by omega⟩ (bTt (by omega) ⟨ht, ⟨by omega, by rw [hl]; omega⟩, hw, ⟨by omega, by omega⟩, k⟩))
    (fun s a1 a2 a3 => sq361_5 (bWp_mono _) hA hv ⟨by omega, by omega⟩ ⟨by omega, by omega⟩ (bFf (by omega) (h s a1 a2 a3)))
theorem w30 (h19 : σ.2.2.2.1 19 = 0) (h20 : σ.2.2.2.1 20 = 0) (h21 : σ.2.2.2.1 21 = 0)
    (h : ∀ s, bKp [3, 19, 20, 21] σ s → bCo σ s 3 60 → s.2.2.2.1 3 = 2 → (∀ j, 0 ≤ j → j < 48 → bi s 19 j = -1) → (∀ j, bi s 20 j = 0) → (∀ j, bi s 21 j = 0) → bi s 3 3 = 1 → fv s) : bWp (d + 2) 30 [.retAddr 3] σ (bRv fv) := by
  refine ⟨rfl, fun A hA => sq30_0 (bWp_mono _) hA ⟨h19, h20, h21, rfl, w361 (N := 48) (by decide) rfl (by decide) (fun _ => rfl) (by decide) fun s a1 a2 a3 => ⟨bAll_of a1 ⟨rfl, rfl, rfl, trivial⟩, h _ ?_ ?_ rfl a3 (fun j => (a2 20 j (by decide)).trans rfl) (fun j => (a2 21 j (by decide)).trans rfl) ((a2 3 3 (by decide)).trans rfl)⟩⟩⟩
  · exact bKA (bKs (bKw (bKr (bKN (bKr (bKN (bKr (bKN bKp_refl (by decide)) (by decide)) (by decide)) (by decide)) (by decide)) (by decide)) (by decide)) (by decide) a1 a2) (by decide)
  · exact ⟨by show s.2.2.2.2.1 ≤ _; rw [a1]; exact Nat.le_refl _, by show s.2.2.2.2.2 ≤ _; rw [a1]; show σ.2.2.2.2.2 + 48 + 6 + 6 ≤ _; omega⟩
theorem w90 (hm : ∀ a, 34 ≤ a → a < 46 → σ.2.2.2.1 a = 0)
    (h : ∀ s, bKp [7, 34, 35, 36, 37, 38, 39, 40, 41, 42, 43, 44, 45] σ s → bCo σ s 12 1096 → s.2.2.2.1 7 = 2 → (∀ a, 34 ≤ a → a < 46 → ∀ j, bi s a j = 0) → (∀ j, 0 ≤ j → bi s 7 j = if j = 15 then -1 else if j = 14 then -1 else bi σ 7 j) → fv s) : bWp (d + 1) 90 [.retAddr 7] σ (bRv fv) := by
  refine ⟨rfl, fun A hA => sq90_0 (bWp_mono _) hA ⟨hm 34 (by decide) (by decide), hm 35 (by decide) (by decide), hm 36 (by decide) (by decide), hm 37 (by decide) (by decide), hm 38 (by decide) (by decide), hm 39 (by decide) (by decide), hm 40 (by decide) (by decide), hm 41 (by decide) (by decide), hm 42 (by decide) (by decide), hm 43 (by decide) (by decide), hm 44 (by decide) (by decide), hm 45 (by decide) (by decide), fun s1 e1 => ?_⟩⟩
  subst e1
  refine ⟨⟨rfl, rfl, rfl, rfl, rfl, rfl, rfl, rfl, rfl, rfl, rfl, rfl, trivial⟩, h _ ?_ ?_ rfl (fun a q1 q2 j => ?_) (fun j q => ?_)⟩
  · exact bKA (bKw (bKw (bKr (bKN (bKr (bKN (bKr (bKN (bKr (bKN (bKr (bKN (bKr (bKN (bKr (bKN (bKr (bKN (bKr (bKN (bKr (bKN (bKr (bKN (bKr (bKN bKp_refl (by decide)) (by decide)) (by decide)) (by decide)) (by decide)) (by decide)) (by decide)) (by decide)) (by decide)) (by decide)) (by decide)) (by decide)) (by decide)) (by decide)) (by decide)) (by decide)) (by decide)) (by decide)) (by decide)) (by decide)) (by decide)) (by decide)) (by decide)) (by decide)) (by decide)) (by decide)) (by decide)
  · exact ⟨Nat.le_refl _, by show σ.2.2.2.2.2 + 6 + 72 + 72 + 72 + 72 + 48 + 6 + 6 + 6 + 72 + 72 + 576 ≤ _; omega⟩
  · have key : a = 34 ∨ a = 35 ∨ a = 36 ∨ a = 37 ∨ a = 38 ∨ a = 39 ∨ a = 40 ∨ a = 41 ∨ a = 42 ∨ a = 43 ∨ a = 44 ∨ a = 45 := by omega
    rcases key with rfl | rfl | rfl | rfl | rfl | rfl | rfl | rfl | rfl | rfl | rfl | rfl <;> rfl
  · show bi (bw (bw _ 7 14 (-1)) 7 15 (-1)) 7 j = _
    rw [bi_bw (by decide) q (by decide), bi_bw (by decide) q (by decide)]
    by_cases z1 : j = 15
    · rw [if_pos ⟨rfl, z1⟩, if_pos z1]
    · rw [if_neg (fun z => z1 z.2), if_neg z1]
      by_cases z2 : j = 14
      · rw [if_pos ⟨rfl, z2⟩, if_pos z2]
      · rw [if_neg (fun z => z2 z.2), if_neg z2]
        rfl
theorem w128 (hm : ∀ a, 52 ≤ a → a < 56 → σ.2.2.2.1 a = 0)
    (h : ∀ s, bKp [10, 52, 53, 54, 55] σ s → bCo σ s 4 32 → s.2.2.2.1 10 = 2 → (∀ a, 52 ≤ a → a < 56 → ∀ j, bi s a j = 0) → (∀ j, bi s 10 j = bi σ 10 j) → fv s) : bWp (d + 1) 128 [.retAddr 10] σ (bRv fv) := by
  refine ⟨rfl, fun A hA => sq128_0 (bWp_mono _) hA ⟨hm 52 (by decide) (by decide), hm 53 (by decide) (by decide), hm 54 (by decide) (by decide), hm 55 (by decide) (by decide), ⟨rfl, rfl, rfl, rfl, trivial⟩, h _ ?_ ?_ rfl (fun a q1 q2 j => ?_) (fun j => rfl)⟩⟩
  · exact bKA (bKr (bKN (bKr (bKN (bKr (bKN (bKr (bKN bKp_refl (by decide)) (by decide)) (by decide)) (by decide)) (by decide)) (by decide)) (by decide)) (by decide)) (by decide)
  · exact ⟨Nat.le_refl _, by show σ.2.2.2.2.2 + 8 + 8 + 8 + 8 ≤ _; omega⟩
  · have key : a = 52 ∨ a = 53 ∨ a = 54 ∨ a = 55 := by omega
    rcases key with rfl | rfl | rfl | rfl <;> rfl
theorem w37 {e : Nat} (he : e % 256 = 4) (hc : σ.2.2.2.1 (256 * (1 * (e / 256) + 0) + 22) = 0) (hf : σ.2.2.2.1 (256 * (1 * (e / 256) + 0) + 23) = 0)
    (h : ∀ s, bKp [e, 256 * (1 * (e / 256) + 0) + 22, 256 * (1 * (e / 256) + 0) + 23] σ s → bCo σ s 2 88 → s.2.2.2.1 e = 2 → (∀ j, 0 ≤ j → bi s e j = if j = 8 then -1 else if j = 0 then -1 else bi σ e j) → (∀ j, bi s (256 * (1 * (e / 256) + 0) + 22) j = 0) → (∀ j, bi s (256 * (1 * (e / 256) + 0) + 23) j = 0) → fv s) : bWp (d + 1) 37 [.retAddr e] σ (bRv fv) := by
  have hl : ∀ s : bSt, bLen s (256 * (1 * (e / 256) + 0) + 22) = 40 ∧ bLen s (256 * (1 * (e / 256) + 0) + 23) = 48 := fun s => ⟨bLen_of (k := 22) (by omega) (by decide) rfl, bLen_of (k := 23) (by omega) (by decide) rfl⟩
  have tt := fun A (hA : bClosed (d + 1) bm37 (bWp d) (bRv fv) A) => sq37_0 (σ := σ) (bWp_mono d) hA he
  refine ⟨rfl, fun A hA => tt A hA ?_⟩
  have hc22 : (256 * (1 * (e / 256) + 0) + 22) % 256 = 22 := by omega
  have hc23 : (256 * (1 * (e / 256) + 0) + 23) % 256 = 23 := by omega
  generalize 256 * (1 * (e / 256) + 0) + 22 = c at hc hl h hc22 ⊢
  generalize 256 * (1 * (e / 256) + 0) + 23 = f at hf hl h hc23 ⊢
  have n1 : e ≠ c := fun q => by rw [q] at he; omega
  have n2 : e ≠ f := fun q => by rw [q] at he; omega
  have n3 : c ≠ f := fun q => by rw [q] at hc22; omega
  refine ⟨hc, by rw [(hl _).1]; rfl, by omega, by rw [(hl _).1]; decide, ?_, by rw [(hl _).2]; rfl, by omega, by rw [(hl _).2]; decide, fun s1 e1 => ?_⟩
  · show (if f = c then _ else σ.2.2.2.1 f) = 0
    rw [if_neg (fun q => n3 q.symm)]
    exact hf
  · subst e1
    refine ⟨⟨?_, ?_, trivial⟩, h _ ?_ ?_ ?_ (fun j q => ?_) (fun j => ?_) (fun j => ?_)⟩
    · show (br (bwr (bNew (bwr (bNew (bw σ e 0 (-1)) c 2 _) e 4 (some c)) f 2 _) e 6 (some f)) e 4).isSome = true
      rw [br_bwr (by decide) (by decide), if_neg (fun z => absurd z.2 (by decide)), br_bNew, if_neg n2, br_bwr (by decide) (by decide), if_pos ⟨rfl, rfl⟩]
      rfl
    · show (br (bwr (bNew (bwr (bNew (bw σ e 0 (-1)) c 2 _) e 4 (some c)) f 2 _) e 6 (some f)) e 6).isSome = true
      rw [br_bwr (by decide) (by decide), if_pos ⟨rfl, rfl⟩]
      rfl
    · exact bKA (bKw (bKr (bKN (bKr (bKN (bKw bKp_refl List.mem_cons_self) (List.mem_cons_of_mem _ List.mem_cons_self)) List.mem_cons_self) (List.mem_cons_of_mem _ (List.mem_cons_of_mem _ List.mem_cons_self))) List.mem_cons_self) List.mem_cons_self) List.mem_cons_self
    · exact ⟨Nat.le_refl _, by show σ.2.2.2.2.2 + bLen _ c + bLen _ f ≤ _; rw [(hl _).1, (hl _).2]; omega⟩
    · rw [mk_bA, if_pos rfl]
    · show bi (bw (bwr (bNew (bwr (bNew (bw σ e 0 (-1)) c 2 _) e 4 (some c)) f 2 _) e 6 (some f)) e 8 (-1)) e j = _
      rw [bi_bw (by decide) q (by decide)]
      by_cases z1 : j = 8
      · rw [if_pos ⟨rfl, z1⟩, if_pos z1]
      · rw [if_neg (fun z => z1 z.2), if_neg z1]
        rw [bi_bwr, bi_bNew, if_neg n2, bi_bwr, bi_bNew, if_neg n1, bi_bw (by decide) q (by decide)]
        by_cases z2 : j = 0
        · rw [if_pos ⟨rfl, z2⟩, if_pos z2]
        · rw [if_neg (fun z => z2 z.2), if_neg z2]
    · show bi (bw (bwr (bNew (bwr (bNew (bw σ e 0 (-1)) c 2 _) e 4 (some c)) f 2 _) e 6 (some f)) e 8 (-1)) c j = _
      rw [bi_ne (Ne.symm n1), bi_bwr, bi_bNew, if_neg n3, bi_bwr, bi_bNew, if_pos rfl]
    · show bi (bw (bwr (bNew (bwr (bNew (bw σ e 0 (-1)) c 2 _) e 4 (some c)) f 2 _) e 6 (some f)) e 8 (-1)) f j = _
      rw [bi_ne (Ne.symm n2), bi_bwr, bi_bNew, if_pos rfl]
end

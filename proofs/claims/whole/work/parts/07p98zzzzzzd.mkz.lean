/-! CASES ANEW: what a case comes to may be weakened, and counters grow (printed by a program) -/
theorem bWp_v {d n : Nat} {as : List Value} {σ : bSt} {f g : bSt → Prop} (h : bWp d n as σ (bRv f)) (k : ∀ t, f t → bLe σ t → g t) : bWp d n as σ (bRv g) :=
  bWp_mono d _ _ _ _ _ (fun o s hh => bRv_e (f := fun t => f t ∧ bLe σ t) (R := bRv g) (fun t hq => k t hq.1 hq.2) o s (by
    obtain ⟨h1, h2⟩ := hh
    revert h1
    unfold bRv
    split
    · exact fun h1 => ⟨h1, h2⟩
    · exact fun h1 => h1)) (bWp_up h)
theorem bWp_j {d n : Nat} {as : List Value} {σ : bSt} {f g : Int64 → bSt → Prop} (h : bWp d n as σ (bRj f)) (k : ∀ r t, f r t → bLe σ t → g r t) : bWp d n as σ (bRj g) :=
  bWp_mono d _ _ _ _ _ (fun o s hh => bRj_e (f := fun r t => f r t ∧ bLe σ t) (R := bRj g) (fun r t hq => k r t hq.1 hq.2) o s (by
    obtain ⟨h1, h2⟩ := hh
    revert h1
    unfold bRj
    split
    · exact fun h1 => ⟨h1, h2⟩
    · exact fun h1 => h1)) (bWp_up h)
section
variable {E E' : bSt → Prop} {σ : bSt}
theorem bKm0 (hE : ∀ s, E s → bLe σ s → E' s) (h : bK0 E σ) : bK0 E' σ := fun p0 p1 h0 h1 => bWp_n (h p0 p1 h0 h1) fun k s1 hh le1 => ⟨hh.1, bWp_n hh.2 fun b s2 h2 le2 => ⟨h2.1, h2.2.1, hE s2 h2.2.2 (le1.tr le2)⟩⟩
theorem bKm1 (hE : ∀ s, E s → bLe σ s → E' s) (h : bK1 E σ) : bK1 E' σ := fun p0 h0 => bWp_n (h p0 h0) fun k s1 hh le1 => ⟨hh.1, bWp_n hh.2 fun b s2 h2 le2 => ⟨h2.1, h2.2.1, hE s2 h2.2.2 (le1.tr le2)⟩⟩
theorem bKm2 (hE : ∀ s, E s → bLe σ s → E' s) (h : bK2 E σ) : bK2 E' σ := fun p0 p1 h0 h1 => bWp_n (h p0 p1 h0 h1) fun k s1 hh le1 => ⟨hh.1, bWp_n hh.2 fun b s2 h2 le2 => ⟨h2.1, h2.2.1, hE s2 h2.2.2 (le1.tr le2)⟩⟩
theorem bKm3 (hE : ∀ s, E s → bLe σ s → E' s) (h : bK3 E σ) : bK3 E' σ := fun p0 h0 => bWp_n (h p0 h0) fun k s1 hh le1 => ⟨hh.1, bWp_n hh.2 fun b s2 h2 le2 => ⟨h2.1, h2.2.1, hE s2 h2.2.2 (le1.tr le2)⟩⟩
theorem bKm4 (hE : ∀ s, E s → bLe σ s → E' s) (h : bK4 E σ) : bK4 E' σ := fun p0 p1 p2 h0 h1 h2 => bWp_n (h p0 p1 p2 h0 h1 h2) fun k s1 hh le1 => ⟨hh.1, bWp_j hh.2 fun b s2 h2 le2 => ⟨h2.1, h2.2.1, hE s2 h2.2.2 (le1.tr le2)⟩⟩
theorem bKm5 (hE : ∀ s, E s → bLe σ s → E' s) (h : bK5 E σ) : bK5 E' σ := fun p0 p1 p2 p3 p4 h0 h1 h2 h3 h4 => bWp_n (h p0 p1 p2 p3 p4 h0 h1 h2 h3 h4) fun k s1 hh le1 => ⟨hh.1, bWp_n hh.2 fun b s2 h2 le2 => ⟨h2.1, h2.2.1, hE s2 h2.2.2 (le1.tr le2)⟩⟩
theorem bKm6 (hE : ∀ s, E s → bLe σ s → E' s) (h : bK6 E σ) : bK6 E' σ := fun p0 p1 h0 h1 => bWp_n (h p0 p1 h0 h1) fun k s1 hh le1 => ⟨hh.1, bWp_n hh.2 fun b s2 h2 le2 => ⟨h2.1, h2.2.1, hE s2 h2.2.2 (le1.tr le2)⟩⟩
theorem bKm7 (hE : ∀ s, E s → bLe σ s → E' s) (h : bK7 E σ) : bK7 E' σ := fun p0 p1 h0 h1 => bWp_n (h p0 p1 h0 h1) fun k s1 hh le1 => ⟨hh.1, bWp_n hh.2 fun b s2 h2 le2 => ⟨h2.1, h2.2.1, hE s2 h2.2.2 (le1.tr le2)⟩⟩
theorem bKm8 (hE : ∀ s, E s → bLe σ s → E' s) (h : bK8 E σ) : bK8 E' σ := fun p0 p1 p2 h0 h1 h2 => bWp_n (h p0 p1 p2 h0 h1 h2) fun k s1 hh le1 => ⟨hh.1, bWp_n hh.2 fun b s2 h2 le2 => ⟨h2.1, h2.2.1, hE s2 h2.2.2 (le1.tr le2)⟩⟩
theorem bKm9 (hE : ∀ s, E s → bLe σ s → E' s) (h : bK9 E σ) : bK9 E' σ := fun p0 p1 h0 h1 => bWp_n (h p0 p1 h0 h1) fun k s1 hh le1 => ⟨hh.1, bWp_n hh.2 fun b s2 h2 le2 => ⟨h2.1, h2.2.1, hE s2 h2.2.2 (le1.tr le2)⟩⟩
theorem bKm10 (hE : ∀ s, E s → bLe σ s → E' s) (h : bK10 E σ) : bK10 E' σ := fun p0 p1 h0 h1 => bWp_n (h p0 p1 h0 h1) fun k s1 hh le1 => ⟨hh.1, bWp_n hh.2 fun b s2 h2 le2 => ⟨h2.1, h2.2.1, hE s2 h2.2.2 (le1.tr le2)⟩⟩
theorem bKm11 (hE : ∀ s, E s → bLe σ s → E' s) (h : bK11 E σ) : bK11 E' σ := fun p0 p1 p2 p3 h0 h1 h2 h3 => bWp_n (h p0 p1 p2 p3 h0 h1 h2 h3) fun k s1 hh le1 => ⟨hh.1, bWp_n hh.2 fun b s2 h2 le2 => ⟨h2.1, h2.2.1, hE s2 h2.2.2 (le1.tr le2)⟩⟩
theorem bKm12 (hE : ∀ s, E s → bLe σ s → E' s) (h : bK12 E σ) : bK12 E' σ := fun p0 h0 => bWp_n (h p0 h0) fun k s1 hh le1 => ⟨hh.1, bWp_n hh.2 fun b s2 h2 le2 => ⟨h2.1, h2.2.1, hE s2 h2.2.2 (le1.tr le2)⟩⟩
theorem bKm13 (hE : ∀ s, E s → bLe σ s → E' s) (h : bK13 E σ) : bK13 E' σ := fun p0 p1 p2 h0 h1 h2 => bWp_n (h p0 p1 p2 h0 h1 h2) fun k s1 hh le1 => ⟨hh.1, bWp_n hh.2 fun b s2 h2 le2 => ⟨h2.1, h2.2.1, hE s2 h2.2.2 (le1.tr le2)⟩⟩
theorem bKm14 (hE : ∀ s, E s → bLe σ s → E' s) (h : bK14 E σ) : bK14 E' σ := fun p0 p1 p2 h0 h1 h2 => bWp_n (h p0 p1 p2 h0 h1 h2) fun k s1 hh le1 => ⟨hh.1, bWp_v hh.2 fun s2 h2 le2 => ⟨h2.1, hE s2 h2.2 (le1.tr le2)⟩⟩
theorem bKm15 (hE : ∀ s, E s → bLe σ s → E' s) (h : bK15 E σ) : bK15 E' σ := fun p0 p1 p2 p3 h0 h1 h2 h3 => bWp_n (h p0 p1 p2 p3 h0 h1 h2 h3) fun k s1 hh le1 => ⟨hh.1, bWp_n hh.2 fun b s2 h2 le2 => ⟨h2.1, h2.2.1, hE s2 h2.2.2 (le1.tr le2)⟩⟩
theorem bKm16 (hE : ∀ s, E s → bLe σ s → E' s) (h : bK16 E σ) : bK16 E' σ := fun p0 p1 h0 h1 => bWp_n (h p0 p1 h0 h1) fun k s1 hh le1 => ⟨hh.1, bWp_n hh.2 fun b s2 h2 le2 => ⟨h2.1, h2.2.1, hE s2 h2.2.2 (le1.tr le2)⟩⟩
theorem bKm17 (hE : ∀ s, E s → bLe σ s → E' s) (h : bK17 E σ) : bK17 E' σ := fun p0 p1 p2 h0 h1 h2 => bWp_n (h p0 p1 p2 h0 h1 h2) fun k s1 hh le1 => ⟨hh.1, bWp_n hh.2 fun b s2 h2 le2 => ⟨h2.1, h2.2.1, hE s2 h2.2.2 (le1.tr le2)⟩⟩
theorem bKm18 (hE : ∀ s, E s → bLe σ s → E' s) (h : bK18 E σ) : bK18 E' σ := fun p0 p1 h0 h1 => bWp_n (h p0 p1 h0 h1) fun k s1 hh le1 => ⟨hh.1, bWp_n hh.2 fun b s2 h2 le2 => ⟨h2.1, h2.2.1, hE s2 h2.2.2 (le1.tr le2)⟩⟩
theorem bKm19 (hE : ∀ s, E s → bLe σ s → E' s) (h : bK19 E σ) : bK19 E' σ := fun p0 h0 => bWp_n (h p0 h0) fun k s1 hh le1 => ⟨hh.1, bWp_n hh.2 fun b s2 h2 le2 => ⟨h2.1, h2.2.1, hE s2 h2.2.2 (le1.tr le2)⟩⟩
theorem bKm20 (hE : ∀ s, E s → bLe σ s → E' s) (h : bK20 E σ) : bK20 E' σ := fun p0 p1 h0 h1 => bWp_n (h p0 p1 h0 h1) fun k s1 hh le1 => ⟨hh.1, bWp_n hh.2 fun b s2 h2 le2 => ⟨h2.1, h2.2.1, hE s2 h2.2.2 (le1.tr le2)⟩⟩
theorem bKm21 (hE : ∀ s, E s → bLe σ s → E' s) (h : bK21 E σ) : bK21 E' σ := fun p0 p1 p2 h0 h1 h2 => bWp_n (h p0 p1 p2 h0 h1 h2) fun k s1 hh le1 => ⟨hh.1, bWp_v hh.2 fun s2 h2 le2 => ⟨h2.1, hE s2 h2.2 (le1.tr le2)⟩⟩
theorem bKm22 (hE : ∀ s, E s → bLe σ s → E' s) (h : bK22 E σ) : bK22 E' σ := fun p0 p1 p2 p3 h0 h1 h2 h3 => bWp_n (h p0 p1 p2 p3 h0 h1 h2 h3) fun k s1 hh le1 => ⟨hh.1, bWp_v hh.2 fun s2 h2 le2 => ⟨h2.1, hE s2 h2.2 (le1.tr le2)⟩⟩
theorem bKm23 (hE : ∀ s, E s → bLe σ s → E' s) (h : bK23 E σ) : bK23 E' σ := fun p0 p1 p2 h0 h1 h2 => bWp_n (h p0 p1 p2 h0 h1 h2) fun k s1 hh le1 => ⟨hh.1, bWp_v hh.2 fun s2 h2 le2 => ⟨h2.1, hE s2 h2.2 (le1.tr le2)⟩⟩
theorem bKm24 (hE : ∀ s, E s → bLe σ s → E' s) (h : bK24 E σ) : bK24 E' σ := fun p0 p1 h0 h1 => bWp_n (h p0 p1 h0 h1) fun k s1 hh le1 => ⟨hh.1, bWp_n hh.2 fun b s2 h2 le2 => ⟨h2.1, h2.2.1, hE s2 h2.2.2 (le1.tr le2)⟩⟩
theorem bKm25 (hE : ∀ s, E s → bLe σ s → E' s) (h : bK25 E σ) : bK25 E' σ := fun p0 p1 h0 h1 => bWp_n (h p0 p1 h0 h1) fun k s1 hh le1 => ⟨hh.1, bWp_n hh.2 fun b s2 h2 le2 => ⟨h2.1, h2.2.1, hE s2 h2.2.2 (le1.tr le2)⟩⟩
theorem bKm26 (hE : ∀ s, E s → bLe σ s → E' s) (h : bK26 E σ) : bK26 E' σ := fun p0 h0 => bWp_n (h p0 h0) fun k s1 hh le1 => ⟨hh.1, bWp_n hh.2 fun b s2 h2 le2 => ⟨h2.1, hE s2 h2.2 (le1.tr le2)⟩⟩
theorem bKm27 (hE : ∀ s, E s → bLe σ s → E' s) (h : bK27 E σ) : bK27 E' σ := fun p0 p1 h0 h1 => bWp_n (h p0 p1 h0 h1) fun k s1 hh le1 => ⟨hh.1, bWp_n hh.2 fun b s2 h2 le2 => ⟨h2.1, h2.2.1, hE s2 h2.2.2 (le1.tr le2)⟩⟩
theorem bKm28 (hE : ∀ s, E s → bLe σ s → E' s) (h : bK28 E σ) : bK28 E' σ := fun p0 h0 => bWp_n (h p0 h0) fun k s1 hh le1 => ⟨hh.1, bWp_n hh.2 fun b s2 h2 le2 => ⟨h2.1, h2.2.1, hE s2 h2.2.2 (le1.tr le2)⟩⟩
theorem bKm29 (hE : ∀ s, E s → bLe σ s → E' s) (h : bK29 E σ) : bK29 E' σ := fun p0 h0 => bWp_n (h p0 h0) fun k s1 hh le1 => ⟨hh.1, bWp_n hh.2 fun b s2 h2 le2 => ⟨h2.1, hE s2 h2.2 (le1.tr le2)⟩⟩
theorem bKm30 (hE : ∀ s, E s → bLe σ s → E' s) (h : bK30 E σ) : bK30 E' σ := fun p0 h0 => bWp_n (h p0 h0) fun k s1 hh le1 => ⟨hh.1, bWp_n hh.2 fun b s2 h2 le2 => ⟨h2.1, hE s2 h2.2 (le1.tr le2)⟩⟩
theorem bKm31 (hE : ∀ s, E s → bLe σ s → E' s) (h : bK31 E σ) : bK31 E' σ := fun p0 p1 p2 h0 h1 h2 => bWp_n (h p0 p1 p2 h0 h1 h2) fun k s1 hh le1 => ⟨hh.1, bWp_n hh.2 fun b s2 h2 le2 => ⟨h2.1, h2.2.1, hE s2 h2.2.2 (le1.tr le2)⟩⟩
theorem bKm32 (hE : ∀ s, E s → bLe σ s → E' s) (h : bK32 E σ) : bK32 E' σ := fun p0 h0 => bWp_n (h p0 h0) fun k s1 hh le1 => ⟨hh.1, bWp_n hh.2 fun b s2 h2 le2 => ⟨h2.1, h2.2.1, hE s2 h2.2.2 (le1.tr le2)⟩⟩
theorem bKm33 (hE : ∀ s, E s → bLe σ s → E' s) (h : bK33 E σ) : bK33 E' σ := bWp_n (h) fun k s1 hh le1 => ⟨hh.1, bWp_n hh.2 fun b s2 h2 le2 => ⟨h2.1, hE s2 h2.2 (le1.tr le2)⟩⟩
theorem bKm34 (hE : ∀ s, E s → bLe σ s → E' s) (h : bK34 E σ) : bK34 E' σ := fun p0 h0 => bWp_n (h p0 h0) fun k s1 hh le1 => ⟨hh.1, bWp_n hh.2 fun b s2 h2 le2 => ⟨h2.1, h2.2.1, hE s2 h2.2.2 (le1.tr le2)⟩⟩
theorem bKm35 (hE : ∀ s, E s → bLe σ s → E' s) (h : bK35 E σ) : bK35 E' σ := bWp_n (h) fun k s1 hh le1 => ⟨hh.1, bWp_n hh.2 fun b s2 h2 le2 => ⟨h2.1, hE s2 h2.2 (le1.tr le2)⟩⟩
theorem bKm36 (hE : ∀ s, E s → bLe σ s → E' s) (h : bK36 E σ) : bK36 E' σ := fun p0 h0 => bWp_n (h p0 h0) fun k s1 hh le1 => ⟨hh.1, bWp_n hh.2 fun b s2 h2 le2 => ⟨h2.1, h2.2.1, hE s2 h2.2.2 (le1.tr le2)⟩⟩
theorem bKm37 (hE : ∀ s, E s → bLe σ s → E' s) (h : bK37 E σ) : bK37 E' σ := fun p0 p1 h0 h1 => bWp_n (h p0 p1 h0 h1) fun k s1 hh le1 => ⟨hh.1, bWp_n hh.2 fun b s2 h2 le2 => ⟨h2.1, h2.2.1, hE s2 h2.2.2 (le1.tr le2)⟩⟩
theorem bKm38 (hE : ∀ s, E s → bLe σ s → E' s) (h : bK38 E σ) : bK38 E' σ := fun p0 p1 h0 h1 => bWp_n (h p0 p1 h0 h1) fun k s1 hh le1 => ⟨hh.1, bWp_n hh.2 fun b s2 h2 le2 => ⟨h2.1, h2.2.1, hE s2 h2.2.2 (le1.tr le2)⟩⟩
theorem bKm39 (hE : ∀ s, E s → bLe σ s → E' s) (h : bK39 E σ) : bK39 E' σ := fun p0 p1 h0 h1 => bWp_n (h p0 p1 h0 h1) fun k s1 hh le1 => ⟨hh.1, bWp_n hh.2 fun b s2 h2 le2 => ⟨h2.1, h2.2.1, hE s2 h2.2.2 (le1.tr le2)⟩⟩
theorem bKm40 (hE : ∀ s, E s → bLe σ s → E' s) (h : bK40 E σ) : bK40 E' σ := fun p0 h0 => bWp_n (h p0 h0) fun k s1 hh le1 => ⟨hh.1, bWp_n hh.2 fun b s2 h2 le2 => ⟨h2.1, h2.2.1, hE s2 h2.2.2 (le1.tr le2)⟩⟩
theorem bKm41 (hE : ∀ s, E s → bLe σ s → E' s) (h : bK41 E σ) : bK41 E' σ := fun p0 h0 => bWp_n (h p0 h0) fun k s1 hh le1 => ⟨hh.1, bWp_n hh.2 fun b s2 h2 le2 => ⟨h2.1, h2.2.1, hE s2 h2.2.2 (le1.tr le2)⟩⟩
theorem bKm42 (hE : ∀ s, E s → bLe σ s → E' s) (h : bK42 E σ) : bK42 E' σ := fun p0 h0 => bWp_n (h p0 h0) fun k s1 hh le1 => ⟨hh.1, bWp_n hh.2 fun b s2 h2 le2 => ⟨h2.1, h2.2.1, hE s2 h2.2.2 (le1.tr le2)⟩⟩
theorem bKm43 (hE : ∀ s, E s → bLe σ s → E' s) (h : bK43 E σ) : bK43 E' σ := fun p0 p1 h0 h1 => bWp_n (h p0 p1 h0 h1) fun k s1 hh le1 => ⟨hh.1, bWp_n hh.2 fun b s2 h2 le2 => ⟨h2.1, h2.2.1, hE s2 h2.2.2 (le1.tr le2)⟩⟩
theorem bKm44 (hE : ∀ s, E s → bLe σ s → E' s) (h : bK44 E σ) : bK44 E' σ := bWp_n (h) fun k s1 hh le1 => ⟨hh.1, bWp_n hh.2 fun b s2 h2 le2 => ⟨h2.1, hE s2 h2.2 (le1.tr le2)⟩⟩
theorem bKm45 (hE : ∀ s, E s → bLe σ s → E' s) (h : bK45 E σ) : bK45 E' σ := fun p0 h0 => bWp_n (h p0 h0) fun k s1 hh le1 => ⟨hh.1, bWp_v hh.2 fun s2 h2 le2 => ⟨h2.1, hE s2 h2.2 (le1.tr le2)⟩⟩
theorem bKm46 (hE : ∀ s, E s → bLe σ s → E' s) (h : bK46 E σ) : bK46 E' σ := fun p0 p1 p2 h0 h1 h2 => bWp_n (h p0 p1 p2 h0 h1 h2) fun k s1 hh le1 => ⟨hh.1, bWp_n hh.2 fun b s2 h2 le2 => ⟨h2.1, h2.2.1, hE s2 h2.2.2 (le1.tr le2)⟩⟩
theorem bKm47 (hE : ∀ s, E s → bLe σ s → E' s) (h : bK47 E σ) : bK47 E' σ := fun p0 p1 h0 h1 => bWp_n (h p0 p1 h0 h1) fun k s1 hh le1 => ⟨hh.1, bWp_n hh.2 fun b s2 h2 le2 => ⟨h2.1, h2.2.1, hE s2 h2.2.2 (le1.tr le2)⟩⟩
theorem bKm48 (hE : ∀ s, E s → bLe σ s → E' s) (h : bK48 E σ) : bK48 E' σ := fun p0 h0 => bWp_n (h p0 h0) fun k s1 hh le1 => ⟨hh.1, bWp_n hh.2 fun b s2 h2 le2 => ⟨h2.1, h2.2.1, hE s2 h2.2.2 (le1.tr le2)⟩⟩
end

-- ===== the island in the making, the reference's; eats, market, house =====
section
variable {T : Nat → Nat} {n z D : Nat} {C0 R0 M Mc Mr : Mem} {j : Nat} {J : IS} {mx my : Nat} {b1 b3 : Bool} {a b c : Int32}
theorem IsR.p (h : IsR M J mx my) {a k : Nat} {v : Int32} (hp : (91 ≤ a ∧ a ≤ 93 ∧ 8 + iH J ≤ k) ∨ (94 ≤ a ∧ a ≤ 96 ∧ 9 + iP J ≤ k) ∨ (a = 97 ∧ 10 + iN J ≤ k)) : IsR (si M a k v) J mx my := by
  obtain ⟨⟨q1, q2, q3, q4, q5, q6, q7, q8⟩, r1, r2, r3, r4, r5⟩ := h
  have e : ∀ x i, ¬ (x = a ∧ i = k) → gi (si M a k v) x i = gi M x i := fun x i hx => by rw [gi_si, if_neg hx]
  refine ⟨?_, fun i hi => ?_, fun i hi => ?_, fun i hi => ?_, fun i hi => ?_, fun i hi => ?_⟩
  · rw [e 90 8 (by omega), e 90 9 (by omega), e 90 10 (by omega), e 90 11 (by omega), e 90 12 (by omega), e 90 13 (by omega), e 90 14 (by omega), e 90 15 (by omega)]
    exact ⟨q1, q2, q3, q4, q5, q6, q7, q8⟩
  · rw [e 91 _ (by omega), e 92 _ (by omega), e 93 _ (by omega)]; exact r1 i hi
  · rw [e 94 _ (by omega), e 95 _ (by omega), e 96 _ (by omega)]; exact r2 i hi
  · rw [e 97 _ (by omega)]; exact r3 i hi
  · rw [e 98 _ (by omega)]; exact r4 i hi
  · rw [e 99 _ (by omega)]; exact r5 i hi
theorem IsR.E (h : IsR M J mx my) {v : Int32} : IsR (si M 90 11 v) (setE J v) mx my := by
  obtain ⟨⟨q1, q2, q3, q4, q5, q6, q7, q8⟩, r1, r2, r3, r4, r5⟩ := h
  refine ⟨⟨?_, ?_, ?_, gi_si_s, ?_, ?_, ?_, ?_⟩, fun i hi => ?_, fun i hi => ?_, fun i hi => ?_, fun i hi => ?_, fun i hi => ?_⟩
  · rw [gi_si_k (by decide)]; exact q1
  · rw [gi_si_k (by decide)]; exact q2
  · rw [gi_si_k (by decide)]; exact q3
  · rw [gi_si_k (by decide)]; exact q5
  · rw [gi_si_k (by decide)]; exact q6
  · rw [gi_si_k (by decide)]; exact q7
  · rw [gi_si_k (by decide)]; exact q8
  · rw [gi_si_a (by decide), gi_si_a (by decide), gi_si_a (by decide)]; exact r1 i hi
  · rw [gi_si_a (by decide), gi_si_a (by decide), gi_si_a (by decide)]; exact r2 i hi
  · rw [gi_si_a (by decide)]; exact r3 i hi
  · rw [gi_si_a (by decide)]; exact r4 i hi
  · rw [gi_si_a (by decide)]; exact r5 i hi
theorem IsR.X (h : IsR M J mx my) {v : Nat} : IsR (si M 90 12 (nI v)) J v my := by
  obtain ⟨⟨q1, q2, q3, q4, q5, q6, q7, q8⟩, r1, r2, r3, r4, r5⟩ := h
  refine ⟨⟨?_, ?_, ?_, ?_, gi_si_s, ?_, ?_, ?_⟩, fun i hi => ?_, fun i hi => ?_, fun i hi => ?_, fun i hi => ?_, fun i hi => ?_⟩
  · rw [gi_si_k (by decide)]; exact q1
  · rw [gi_si_k (by decide)]; exact q2
  · rw [gi_si_k (by decide)]; exact q3
  · rw [gi_si_k (by decide)]; exact q4
  · rw [gi_si_k (by decide)]; exact q6
  · rw [gi_si_k (by decide)]; exact q7
  · rw [gi_si_k (by decide)]; exact q8
  · rw [gi_si_a (by decide), gi_si_a (by decide), gi_si_a (by decide)]; exact r1 i hi
  · rw [gi_si_a (by decide), gi_si_a (by decide), gi_si_a (by decide)]; exact r2 i hi
  · rw [gi_si_a (by decide)]; exact r3 i hi
  · rw [gi_si_a (by decide)]; exact r4 i hi
  · rw [gi_si_a (by decide)]; exact r5 i hi
theorem IsR.Y (h : IsR M J mx my) {v : Nat} : IsR (si M 90 13 (nI v)) J mx v := by
  obtain ⟨⟨q1, q2, q3, q4, q5, q6, q7, q8⟩, r1, r2, r3, r4, r5⟩ := h
  refine ⟨⟨?_, ?_, ?_, ?_, ?_, gi_si_s, ?_, ?_⟩, fun i hi => ?_, fun i hi => ?_, fun i hi => ?_, fun i hi => ?_, fun i hi => ?_⟩
  · rw [gi_si_k (by decide)]; exact q1
  · rw [gi_si_k (by decide)]; exact q2
  · rw [gi_si_k (by decide)]; exact q3
  · rw [gi_si_k (by decide)]; exact q4
  · rw [gi_si_k (by decide)]; exact q5
  · rw [gi_si_k (by decide)]; exact q7
  · rw [gi_si_k (by decide)]; exact q8
  · rw [gi_si_a (by decide), gi_si_a (by decide), gi_si_a (by decide)]; exact r1 i hi
  · rw [gi_si_a (by decide), gi_si_a (by decide), gi_si_a (by decide)]; exact r2 i hi
  · rw [gi_si_a (by decide)]; exact r3 i hi
  · rw [gi_si_a (by decide)]; exact r4 i hi
  · rw [gi_si_a (by decide)]; exact r5 i hi
theorem IsR.H (h : IsR M J mx my) (g1 : gi M 91 (8 + iH J) = a) (g2 : gi M 92 (8 + iH J) = b) (g3 : gi M 93 (8 + iH J) = c) : IsR (si M 90 8 (nI (iH J + 1))) (addH J a b c) mx my := by
  obtain ⟨⟨q1, q2, q3, q4, q5, q6, q7, q8⟩, r1, r2, r3, r4, r5⟩ := h
  refine ⟨⟨gi_si_s, ?_, ?_, ?_, ?_, ?_, ?_, ?_⟩, fun i hi => ?_, fun i hi => ?_, fun i hi => ?_, fun i hi => ?_, fun i hi => ?_⟩
  · rw [gi_si_k (by decide)]; exact q2
  · rw [gi_si_k (by decide)]; exact q3
  · rw [gi_si_k (by decide)]; exact q4
  · rw [gi_si_k (by decide)]; exact q5
  · rw [gi_si_k (by decide)]; exact q6
  · rw [gi_si_k (by decide)]; exact q7
  · rw [gi_si_k (by decide)]; exact q8
  · have hi : i < iH J + 1 := hi
    show _ = up (up (up (iA J) 0 (iH J) a) 1 (iH J) b) 2 (iH J) c 0 i ∧ _ = up (up (up (iA J) 0 (iH J) a) 1 (iH J) b) 2 (iH J) c 1 i ∧ _ = up (up (up (iA J) 0 (iH J) a) 1 (iH J) b) 2 (iH J) c 2 i
    rw [gi_si_a (by decide), gi_si_a (by decide), gi_si_a (by decide), up_a (show (0 : Nat) ≠ 2 by decide), up_a (show (0 : Nat) ≠ 1 by decide), up_a (show (1 : Nat) ≠ 2 by decide)]
    by_cases e : i = iH J
    · rw [e, up_s, up_s, up_s]
      exact ⟨g1, g2, g3⟩
    · simp only [up_k e]
      exact r1 i (by omega)
  · show _ = up (up (up (iA J) 0 (iH J) a) 1 (iH J) b) 2 (iH J) c 3 i ∧ _ = up (up (up (iA J) 0 (iH J) a) 1 (iH J) b) 2 (iH J) c 4 i ∧ _ = up (up (up (iA J) 0 (iH J) a) 1 (iH J) b) 2 (iH J) c 5 i
    have e : ∀ x, 3 ≤ x → up (up (up (iA J) 0 (iH J) a) 1 (iH J) b) 2 (iH J) c x i = iA J x i := fun x hx => by rw [up_a (by omega), up_a (by omega), up_a (by omega)]
    rw [gi_si_a (by decide), gi_si_a (by decide), gi_si_a (by decide), e 3 (by decide), e 4 (by decide), e 5 (by decide)]; exact r2 i hi
  · show _ = up (up (up (iA J) 0 (iH J) a) 1 (iH J) b) 2 (iH J) c 6 i
    rw [gi_si_a (by decide), up_a (by decide), up_a (by decide), up_a (by decide)]; exact r3 i hi
  · rw [gi_si_a (by decide)]; exact r4 i hi
  · rw [gi_si_a (by decide)]; exact r5 i hi
theorem IsR.P (h : IsR M J mx my) (g1 : gi M 94 (9 + iP J) = a) (g2 : gi M 95 (9 + iP J) = b) (g3 : gi M 96 (9 + iP J) = c) : IsR (si M 90 9 (nI (iP J + 1))) (addP J a b c) mx my := by
  obtain ⟨⟨q1, q2, q3, q4, q5, q6, q7, q8⟩, r1, r2, r3, r4, r5⟩ := h
  refine ⟨⟨?_, gi_si_s, ?_, ?_, ?_, ?_, ?_, ?_⟩, fun i hi => ?_, fun i hi => ?_, fun i hi => ?_, fun i hi => ?_, fun i hi => ?_⟩
  · rw [gi_si_k (by decide)]; exact q1
  · rw [gi_si_k (by decide)]; exact q3
  · rw [gi_si_k (by decide)]; exact q4
  · rw [gi_si_k (by decide)]; exact q5
  · rw [gi_si_k (by decide)]; exact q6
  · rw [gi_si_k (by decide)]; exact q7
  · rw [gi_si_k (by decide)]; exact q8
  · show _ = up (up (up (iA J) 3 (iP J) a) 4 (iP J) b) 5 (iP J) c 0 i ∧ _ = up (up (up (iA J) 3 (iP J) a) 4 (iP J) b) 5 (iP J) c 1 i ∧ _ = up (up (up (iA J) 3 (iP J) a) 4 (iP J) b) 5 (iP J) c 2 i
    have e : ∀ x, x ≤ 2 → up (up (up (iA J) 3 (iP J) a) 4 (iP J) b) 5 (iP J) c x i = iA J x i := fun x hx => by rw [up_a (by omega), up_a (by omega), up_a (by omega)]
    rw [gi_si_a (by decide), gi_si_a (by decide), gi_si_a (by decide), e 0 (by decide), e 1 (by decide), e 2 (by decide)]; exact r1 i hi
  · have hi : i < iP J + 1 := hi
    show _ = up (up (up (iA J) 3 (iP J) a) 4 (iP J) b) 5 (iP J) c 3 i ∧ _ = up (up (up (iA J) 3 (iP J) a) 4 (iP J) b) 5 (iP J) c 4 i ∧ _ = up (up (up (iA J) 3 (iP J) a) 4 (iP J) b) 5 (iP J) c 5 i
    rw [gi_si_a (by decide), gi_si_a (by decide), gi_si_a (by decide), up_a (show (3 : Nat) ≠ 5 by decide), up_a (show (3 : Nat) ≠ 4 by decide), up_a (show (4 : Nat) ≠ 5 by decide)]
    by_cases e : i = iP J
    · rw [e, up_s, up_s, up_s]
      exact ⟨g1, g2, g3⟩
    · simp only [up_k e]
      exact r2 i (by omega)
  · show _ = up (up (up (iA J) 3 (iP J) a) 4 (iP J) b) 5 (iP J) c 6 i
    rw [gi_si_a (by decide), up_a (by decide), up_a (by decide), up_a (by decide)]; exact r3 i hi
  · rw [gi_si_a (by decide)]; exact r4 i hi
  · rw [gi_si_a (by decide)]; exact r5 i hi
theorem IsR.N (h : IsR M J mx my) (g1 : gi M 97 (10 + iN J) = a) : IsR (si M 90 10 (nI (iN J + 1))) (addN J a) mx my := by
  obtain ⟨⟨q1, q2, q3, q4, q5, q6, q7, q8⟩, r1, r2, r3, r4, r5⟩ := h
  refine ⟨⟨?_, ?_, gi_si_s, ?_, ?_, ?_, ?_, ?_⟩, fun i hi => ?_, fun i hi => ?_, fun i hi => ?_, fun i hi => ?_, fun i hi => ?_⟩
  · rw [gi_si_k (by decide)]; exact q1
  · rw [gi_si_k (by decide)]; exact q2
  · rw [gi_si_k (by decide)]; exact q4
  · rw [gi_si_k (by decide)]; exact q5
  · rw [gi_si_k (by decide)]; exact q6
  · rw [gi_si_k (by decide)]; exact q7
  · rw [gi_si_k (by decide)]; exact q8
  · show _ = up (iA J) 6 (iN J) a 0 i ∧ _ = up (iA J) 6 (iN J) a 1 i ∧ _ = up (iA J) 6 (iN J) a 2 i
    rw [up_a (by decide), up_a (by decide), up_a (by decide), gi_si_a (by decide), gi_si_a (by decide), gi_si_a (by decide)]; exact r1 i hi
  · show _ = up (iA J) 6 (iN J) a 3 i ∧ _ = up (iA J) 6 (iN J) a 4 i ∧ _ = up (iA J) 6 (iN J) a 5 i
    rw [up_a (by decide), up_a (by decide), up_a (by decide), gi_si_a (by decide), gi_si_a (by decide), gi_si_a (by decide)]; exact r2 i hi
  · have hi : i < iN J + 1 := hi
    show _ = up (iA J) 6 (iN J) a 6 i
    rw [gi_si_a (by decide)]
    by_cases e : i = iN J
    · rw [e, up_s]; exact g1
    · rw [up_k e]; exact r3 i (by omega)
  · rw [gi_si_a (by decide)]; exact r4 i hi
  · rw [gi_si_a (by decide)]; exact r5 i hi
theorem AtR.w (h : AtR T n M j) {a k : Nat} {v : Int32} (ha : a ≠ 87) : AtR T n (si M a k v) j := by
  have e : ∀ i, gi (si M a k v) 87 i = gi M 87 i := fun i => gi_si_a (fun z => ha z.symm)
  unfold AtR TkR at h ⊢
  simp only [e]
  exact h
theorem RLn.kr {M' : Mem} {j' : Nat} (h : RLn T n R0 M j J mx my) (K : KR M M') (at' : AtR T n M' j') : RLn T n R0 M' j' J mx my := ⟨h.1.kr K, at', h.2.2.eq (fun a h1 h2 k => K.1.i (by rw [List.mem_singleton]; omega) k)⟩
theorem RLn.w (h : RLn T n R0 M j J mx my) {a k : Nat} {v : Int32} (hp : (91 ≤ a ∧ a ≤ 93 ∧ 8 + iH J ≤ k) ∨ (94 ≤ a ∧ a ≤ 96 ∧ 9 + iP J ≤ k) ∨ (a = 97 ∧ 10 + iN J ≤ k)) : RLn T n R0 (si M a k v) j J mx my := by
  refine ⟨h.1.w (by omega) ?_, h.2.1.w (by omega), h.2.2.p hp⟩
  unfold low
  rcases hp with ⟨a1, a2, a3⟩ | ⟨a1, a2, a3⟩ | ⟨a1, a3⟩
  · rw [if_pos a2]; omega
  · rw [if_neg (by omega), if_pos a2]; omega
  · rw [if_neg (by omega), if_neg (by omega), if_pos a1]; omega
theorem RLn.flt (h : RLn T n R0 M j J mx my) (k p : Nat) : RX R0 (fltR M k p) k p := by
  refine ⟨(h.1.m (by omega)).m (by omega), ?_, gi_si_s⟩
  unfold fltR
  rw [gi_si_k (by decide), gi_si_s]
theorem RX.w {k p : Nat} (h : RX R0 M k p) {a i : Nat} {v : Int32} (ha : 90 ≤ a ∧ a ≤ 99) (hi : low a ≤ i) : RX R0 (si M a i v) k p := ⟨h.1.w ha hi, by rw [gi_si_a (by omega)]; exact h.2.1, by rw [gi_si_a (by omega)]; exact h.2.2⟩
theorem RX.f {k p : Nat} (h : RX R0 M k p) (hk : 1 ≤ k ∧ k ≤ 5) : gi M 87 23 ≠ 0 := by rw [h.2.1]; exact nIk0 hk.1 (by omega)
theorem CX.f {k p : Nat} (h : CX T n z D C0 M k p) (hk : 1 ≤ k ∧ k ≤ 5) : gi M 17 6 ≠ 0 := by rw [h.2.1]; exact nIk0 hk.1 (by omega)
theorem fltR_o {k p a i : Nat} (ha : a ≠ 87) : gi (fltR M k p) a i = gi M a i := by
  unfold fltR
  rw [gi_si_a ha, gi_si_a ha]
theorem movC_o {k a i : Nat} (ha : a ≠ 17) : gi (movC T n M k) a i = gi M a i := by
  unfold movC
  rw [gi_si_a ha, gi_si_a ha]
/-- a field of the class's island is told -/
theorem CL.x (X : LX T n z D C0 R0) (h : CL T n D C0 M j J mx my b1 b3) {k : Nat} {v : Int32} {J' : IS} {mx' my' : Nat} {b1' b3' : Bool} (hI : IsC D (si M D k v) J' mx' my' b1' b3') : CL T n D C0 (si M D k v) j J' mx' my' b1' b3' := by
  have hD := X.2.2.2.1
  refine ⟨h.1.w (Or.inr ⟨by omega, by omega⟩), by rw [gi_si_a (by omega)]; exact h.2.1, ?_, hI⟩
  unfold AtC
  rw [gi_si_a (by omega), gi_si_a (by omega), gi_si_a (by omega)]
  exact h.2.2.1
theorem eats_both (X : LX T n z D C0 R0) (hc : CL T n D C0 Mc j J mx my b1 false) (hr : RLn T n R0 Mr (j + 1) J mx my) (hj : j < z) (hJ : JOk J) (Kc Kr : Mem → RS) :
    LOut T n z D C0 R0 j (fl J b1 true) Kc Kr (bV (fX5_readEats Mc) Kc) (bI (fX12_readNumber Mr 0 20) (fun M27 v28 => wr (si M27 90 11 v28) (fun M29 => Kr M29))) := by
  have hD := X.2.2.2.1
  unfold fX5_readEats
  have h1 := hc.mov X (j + 1)
  rw [hc.1.is X, hc.2.2.2.2.2.2.2, if_pos (show b01 false = 0 from rfl), advC (hc.1.tk X) X.1 hc.2.2.1 hj, bV_ok, h1.1.is X, wr_eq]
  have h2 : CL T n D C0 (si (movC T n Mc (j + 1)) D 16 1) (j + 1) J mx my b1 true := by
    obtain ⟨i1, i2, i3, i4, i5⟩ := h1.2.2.2
    exact h1.x X ⟨i1.x (by decide), by rw [gi_si_k (by decide)]; exact i2, by rw [gi_si_k (by decide)]; exact i3, by rw [gi_si_k (by decide)]; exact i4, gi_si_s⟩
  rcases num_both X.1 (h2.1.tk X) (hr.1.tx X) h2.2.2.1 hr.2.1 (by omega) (top := 20) (t1 := 20) (t2 := 20) rfl rfl (by decide) with ⟨v, Mr', hv, hj2, e1, e2, K, at2⟩ | ⟨k, w, hk, e1, e2⟩
  · have h3 := h2.mov X (j + 1 + 1)
    have h4 := hr.kr K at2
    rw [e1, bI_ok, h2.1.is X, wr_eq, bV_ok, e2, bI_ok, wr_eq]
    obtain ⟨i1, i2, i3, i4, i5⟩ := h3.2.2.2
    refine Or.inl ⟨_, _, j + 1 + 1, setE J (nI v), mx, my, b1, true, rfl, rfl, h3.x X ⟨i1.E, by rw [gi_si_k (by decide)]; exact i2, by rw [gi_si_k (by decide)]; exact i3, by rw [gi_si_k (by decide)]; exact i4, by rw [gi_si_k (by decide)]; exact i5⟩, ⟨h4.1.w (by decide) (by decide), h4.2.1.w (by decide), h4.2.2.E⟩, by omega, by omega, hJ.E hv, rfl⟩
  · rw [e1, bI_ok, h2.1.is X, wr_eq, bV_ok, e2, bI_ok, wr_eq]
    exact Or.inr ⟨_, _, k, _, rfl, rfl, (h2.flt X (by omega) k).w hD (by omega), (hr.flt k _).w (by decide) (by decide), hk⟩
theorem market_both (X : LX T n z D C0 R0) (hc : CL T n D C0 Mc j J mx my false b3) (hr : RLn T n R0 Mr (j + 1) J mx my) (hj : j < z) (hJ : JOk J) (Kc Kr : Mem → RS) :
    LOut T n z D C0 R0 j (fl J true b3) Kc Kr (bV (fX5_readMarket Mc) Kc) (bI (fX12_readNumber Mr 0 20) (fun M32 v33 => wr (si M32 90 12 v33) (fun M34 => bI (fX12_readNumber M34 0 20) (fun M35 v36 => wr (si M35 90 13 v36) (fun M37 => Kr M37))))) := by
  have hD := X.2.2.2.1
  have h7 : z ≤ 700 := by have := X.1.1; have := X.1.2.2.1; omega
  unfold fX5_readMarket
  have h1 := hc.mov X (j + 1)
  rw [hc.1.is X, hc.2.2.2.2.2.2.1, if_pos (show b01 false = 0 from rfl), advC (hc.1.tk X) X.1 hc.2.2.1 hj, bV_ok, h1.1.is X, wr_eq]
  have h2 : CL T n D C0 (si (movC T n Mc (j + 1)) D 15 1) (j + 1) J mx my true b3 := by
    obtain ⟨i1, i2, i3, i4, i5⟩ := h1.2.2.2
    exact h1.x X ⟨i1.x (by decide), by rw [gi_si_k (by decide)]; exact i2, by rw [gi_si_k (by decide)]; exact i3, gi_si_s, by rw [gi_si_k (by decide)]; exact i5⟩
  rcases num_both X.1 (h2.1.tk X) (hr.1.tx X) h2.2.2.1 hr.2.1 (by omega) (top := 20) (t1 := 20) (t2 := 20) rfl rfl (by decide) with ⟨v, Mr', hv, hj2, e1, e2, K, at2⟩ | ⟨k, w, hk, e1, e2⟩
  · have h3 := h2.mov X (j + 1 + 1)
    have h4 := hr.kr K at2
    have h5 : CL T n D C0 (si (movC T n (si (movC T n Mc (j + 1)) D 15 1) (j + 1 + 1)) D 12 (nI v)) (j + 1 + 1) J v my true b3 := by
      obtain ⟨i1, i2, i3, i4, i5⟩ := h3.2.2.2
      exact h3.x X ⟨i1.x (by decide), gi_si_s, by rw [gi_si_k (by decide)]; exact i3, by rw [gi_si_k (by decide)]; exact i4, by rw [gi_si_k (by decide)]; exact i5⟩
    have h6 : RLn T n R0 (si Mr' 90 12 (nI v)) (j + 1 + 1) J v my := ⟨h4.1.w (by decide) (by decide), h4.2.1.w (by decide), h4.2.2.X⟩
    rw [e1, bI_ok, h2.1.is X, wr_eq, e2, bI_ok, wr_eq]
    rcases num_both X.1 (h5.1.tk X) (h6.1.tx X) h5.2.2.1 h6.2.1 (by omega) (top := 20) (t1 := 20) (t2 := 20) rfl rfl (by decide) with ⟨v2, Mr2, hv2, hj3, e3, e4, K2, at3⟩ | ⟨k, w, hk, e3, e4⟩
    · have h7 := h5.mov X (j + 1 + 1 + 1)
      have h8 := h6.kr K2 at3
      rw [e3, bI_ok, h5.1.is X, wr_eq, bV_ok, e4, bI_ok, wr_eq]
      obtain ⟨i1, i2, i3, i4, i5⟩ := h7.2.2.2
      exact Or.inl ⟨_, _, j + 1 + 1 + 1, J, v, v2, true, b3, rfl, rfl, h7.x X ⟨i1.x (by decide), by rw [gi_si_k (by decide)]; exact i2, gi_si_s, by rw [gi_si_k (by decide)]; exact i4, by rw [gi_si_k (by decide)]; exact i5⟩, ⟨h8.1.w (by decide) (by decide), h8.2.1.w (by decide), h8.2.2.Y⟩, by omega, by omega, hJ, rfl⟩
    · rw [e3, bI_ok, h5.1.is X, wr_eq, bV_ok, e4, bI_ok, wr_eq]
      exact Or.inr ⟨_, _, k, _, rfl, rfl, (h5.flt X (by omega) k).w hD (by omega), (h6.flt k _).w (by decide) (by decide), hk⟩
  · have f1 := h2.flt X (by omega) k
    have f2 := f1.w hD (a := D) (i := 12) (v := w) (by omega)
    have f3 := hr.flt k (ps T n (j + 1))
    have f4 := f3.w (a := 90) (i := 12) (v := 0) (by decide) (by decide)
    obtain ⟨w2, e3⟩ := c_numF (z := z) (f2.f hk) (f2.1.tk X).2.1 h7 20
    rw [e1, bI_ok, h2.1.is X, wr_eq, e3, bI_ok, f2.1.is X, wr_eq, bV_ok, e2, bI_ok, wr_eq, r_numF (f4.f hk), bI_ok, wr_eq]
    exact Or.inr ⟨_, _, k, _, rfl, rfl, f2.w hD (by omega), f4.w (by decide) (by decide), hk⟩
end

-- ===== founders of the reference =====
section
variable {X : WX}
theorem fd_r (hX : WOk X) (w : Int32) {n yn : Nat} (hn : n ≤ 30) (hyn : yn ≤ 2) {M : Mem} (hM : RI M X) : ∃ M1, fX12_founders M w (nI n) (nI yn) = okI M1 (fdV (nI yn) (foldN (fdT (xE X) (xI X)) n 0 ((lS (xL X), w), 0, 0, 0))) ∧ RT (si M 87 3 0) (lS (xL X)) M1 (lS (xL X)) := by
  have hk := hX.1
  have h8 := hk.1.1
  have hO := hX.2.2.1.1.1
  have R0 := hM.z0
  obtain ⟨M1, e1, R1⟩ := RT.pack R0.2.1.1
  have R1' : RT (si M 87 3 0) (lS (xL X)) (si M1 87 43 w) (lS (xL X)) := R1.go (l := [87]) (Fr.rf.wi (by decide)) (by decide) (fun k _ b => gi_si_k b) (R1.2.2.2.eq (fun k _ _ => gi_si_k (by omega)) (fun _ => gi_si_a (by decide)) (fun _ => gi_si_a (by decide)) (fun _ => gi_si_a (by decide)))
  -- one founding of the reference
  have one : ∀ f (M2 : Mem) (k : Nat) (a : FA), RT (si M 87 3 0) (lS (xL X)) M2 a.1.1 → gi M2 87 43 = a.1.2 → DOk (xI X) a.1.1 → a.2.2.1 ≤ 999 → k < n → ∃ M9, RT (si M 87 3 0) (lS (xL X)) M9 (fdT (xE X) (xI X) k a).1.1 ∧ gi M9 87 43 = (fdT (xE X) (xI X) k a).1.2 ∧ DOk (xI X) (fdT (xE X) (xI X) k a).1.1 ∧ (fdT (xE X) (xI X) k a).2.2.1 ≤ 999 ∧ fX12_founders_b67 (f + 1) M2 (nI n) (nI yn) (nI a.2.1) (nI a.2.2.1) (nI a.2.2.2) (nI k) = fX12_founders_b67 f M9 (nI n) (nI yn) (nI (fdT (xE X) (xI X) k a).2.1) (nI (fdT (xE X) (xI X) k a).2.2.1) (nI (fdT (xE X) (xI X) k a).2.2.2) (nI (k + 1)) := by
    intro f M2 k a R2 hv O2 hm hkk
    obtain ⟨⟨S, v⟩, g, m, u⟩ := a
    dsimp only at R2 hv O2 hm ⊢
    rw [fX12_founders_b67]
    dsimp only
    rw [if_pos (nI_lt hkk (by omega)), wr_eq, wr_eq]
    -- stores are emptied
    obtain ⟨M3, ⟨F3, q31, q32, q33, q34⟩, e3⟩ := loopI (fun d M j (_ : Nat) => fX12_founders_b86 (fX12_founders_b67 f) d M (nI n) (nI yn) (nI g) (nI m) (nI u) (nI k) (nI j)) (fun j M' _ => Fr [87, 102] M2 M' ∧ gi M' 87 31 = 0 ∧ gi M' 87 32 = 0 ∧ (∀ i, i ≠ 31 → i ≠ 32 → gi M' 87 i = gi M2 87 i) ∧ ∀ i, i < j → gi M' 102 i = 0) 8 (fun _ a => a) (fun M _ => bV (fX12_drawLots M) (fun M17 => bV (fX12_goOn M17 5) (fun M19 => bI (fX12_bitsOf M19 (gi M19 87 32)) (fun M21 v22 => if (gi M21 87 32) = 0 then fX12_founders_b142 (fX12_founders_b67 f) M21 (nI n) (nI yn) (nI g + v22) (nI m) (nI k) 1 (nI u) else fX12_founders_b142 (fX12_founders_b67 f) M21 (nI n) (nI yn) (nI g + v22) (nI m) (nI k) 0 (nI u)))))
      (by
        intro d M4 j b ⟨hF, q1, q2, q3, q4⟩ hj
        rw [fX12_founders_b86]
        dsimp only
        rw [if_pos (ltL 8 hj (by decide)), chk_in hj (by decide), ix_nI (by omega), wr_eq, nI_p1]
        refine ⟨_, ⟨hF.wi (by decide), (gi_si_a (by decide)).trans q1, (gi_si_a (by decide)).trans q2, fun i a b => (gi_si_a (by decide)).trans (q3 i a b), fun i hi => ?_⟩, rfl⟩
        by_cases e : i = j
        · rw [e]; exact gi_si_s
        · exact (gi_si_k e).trans (q4 i (by omega)))
      (by
        intro d M4 b _
        rw [fX12_founders_b86]
        dsimp only
        rw [if_neg (nltL 8 (Nat.le_refl _) (by decide))])
      8 0 (by omega) FU (FU_gt (by omega)) (si (si M2 87 31 0) 87 32 0) 0 ⟨(Fr.rf.wi (by decide)).wi (by decide), (gi_si_k (by decide)).trans gi_si_s, gi_si_s, fun i a b => (gi_si_k b).trans (gi_si_k a), fun i hi => by omega⟩
    have e3 : fX12_founders_b86 (fX12_founders_b67 f) FU (si (si M2 87 31 0) 87 32 0) (nI n) (nI yn) (nI g) (nI m) (nI u) (nI k) 0 = _ := e3
    rw [e3]
    obtain ⟨⟨a0, a1, a2, a3, a4, a5, a6⟩, b1, b2, b3⟩ := R2.2.2.2
    have R3 : RT (si M 87 3 0) (lS (xL X)) M3 (bgS S) := R2.go F3 (by decide) (fun i h1 h2 => q33 i (by omega) (by omega)) ⟨⟨(q33 35 (by decide) (by decide)).trans a0, q32, (q33 36 (by decide) (by decide)).trans a2, (q33 37 (by decide) (by decide)).trans a3, q31, (q33 33 (by decide) (by decide)).trans a5, (q33 34 (by decide) (by decide)).trans a6⟩, fun z i hi => by rw [F3.i (by decide)]; exact b1 z i hi, fun z i hi => by rw [F3.i (by decide)]; exact b2 z i hi, fun i hi => q34 i hi⟩
    obtain ⟨M4, e4, F4, p1, p2, p3⟩ := r_draw (w := v) (R3.i R0.1) hk ((q33 43 (by decide) (by decide)).trans hv)
    have R4 := R3.lc F4 p1 p3
    have O4 : DOk (xI X) (setLC (bgS S) (drS (iH (xI X)) v).2 (dC S)) := LC_ok (bg_ok O2) (drS_lt h8 v)
    obtain ⟨M5, e5, R5⟩ := R4.take R0.1 hk O4 R0.2.2.2.2.2
    have k5 : gi M5 87 43 = gi M4 87 43 := by
      obtain ⟨h1, h2, h3, h4⟩ := R4.2.2.2
      obtain ⟨M5', e5', _, F5'⟩ := r_take (ab := none) (R4.i R0.1) hk h1 h2 h4 O4 (fun _ c => by cases c) ((R4.2.1 42 (by decide) (by decide)).trans R0.2.2.2.2.2)
      have : M5 = M5' := (Prod.mk.inj (Option.some.inj (e5.symm.trans e5'))).1
      rw [this]
      exact F5'.i (by decide) 43
    have hN5 : dN (setH (setLC (bgS S) (drS (iH (xI X)) v).2 (dC S)) (tkS (xI X) (setLC (bgS S) (drS (iH (xI X)) v).2 (dC S)) none)) + 5 < 2000 := by
      show (0 : Nat) + 5 < 2000
      decide
    obtain ⟨M6, e6, D6, F6, mf6⟩ := r_years (n := 5) (R5.i R0.1) hk R5.2.2.2 (tk_ok hk O4 none) hX.2.1.1 hX.2.1.2 hN5
    have e6 : fX12_goOn M5 5 = okV M6 := e6
    have D6 : DRf M6 (fdS (xE X) (xI X) S v) := D6
    have R6 := R5.go F6 (by unfold scrY; decide) (fun i h1 _ => mf6 i (by omega) (by omega) (by omega)) D6
    have k6 : gi M6 87 43 = (drS (iH (xI X)) v).1 := by rw [mf6 43 (by decide) (by decide) (by decide), k5, p2]
    have O6 := fd_ok hk O2 (xE X) v
    have g6 := O6.1.2.1
    have m7 := mx_le O6 (n := 8) (a := m) (by decide) hm
    rw [e4, e5, bV_ok, bV_ok, e6, bV_ok, D6.1.2.1, r_bits (show dG (fdS (xE X) (xI X) S v) < 512 by omega), bI_ok, D6.1.2.1, nadd]
    -- the greatest store
    have big : ∀ u', fX12_founders_b148 (fX12_founders_b67 f) FU M6 (nI n) (nI yn) (nI (g + pcn 10 (dG (fdS (xE X) (xI X) S v)))) (nI m) u' (nI k) 0 = fX12_founders_b67 f M6 (nI n) (nI yn) (nI (g + pcn 10 (dG (fdS (xE X) (xI X) S v)))) (nI (mxS (fdS (xE X) (xI X) S v) 8 m)) u' (nI (k + 1)) := by
      intro u'
      rw [mx_i hk O6 m]
      obtain ⟨M7, ⟨hM7, _⟩, e7⟩ := loopI (fun d M j (b : Nat) => fX12_founders_b148 (fX12_founders_b67 f) d M (nI n) (nI yn) (nI (g + pcn 10 (dG (fdS (xE X) (xI X) S v)))) (nI b) u' (nI k) (nI j)) (fun _ M' b => M' = M6 ∧ b ≤ 999) (iH (xI X)) (fun h a => if a < dR (fdS (xE X) (xI X) S v) h then dR (fdS (xE X) (xI X) S v) h else a) (fun M b => fX12_founders_b67 f M (nI n) (nI yn) (nI (g + pcn 10 (dG (fdS (xE X) (xI X) S v)))) (nI b) u' (nI (k + 1)))
        (by
          intro d M7 j b ⟨hM7, hb⟩ hj
          subst hM7
          have hl := O6.2.2.2.2.1 j (by omega)
          rw [fX12_founders_b148]
          dsimp only
          rw [(R6.i R0.1).1.1, if_pos (nI_lt hj (by omega)), chk_in (by omega) (by decide), ix_nI (by omega), D6.2.2.2 j (by omega), nI_p1]
          refine ⟨M7, ⟨rfl, by split <;> omega⟩, ?_⟩
          by_cases c : b < dR (fdS (xE X) (xI X) S v) j
          · rw [if_pos (nI_lt c (by omega)), if_pos c]
          · rw [if_neg (nI_nlt (by omega) (by omega)), if_neg c])
        (by
          intro d M7 b ⟨hM7, _⟩
          subst hM7
          rw [fX12_founders_b148]
          dsimp only
          rw [(R6.i R0.1).1.1, if_neg (nI_nlt (Nat.le_refl _) (by omega)), nI_p1])
        (iH (xI X)) 0 (by omega) FU (FU_gt (by omega)) M6 m ⟨rfl, hm⟩
      subst hM7
      exact e7
    unfold fX12_founders_b142
    rw [big, big]
    refine ⟨M6, R6, k6, O6, m7, ?_⟩
    unfold fdT
    dsimp only
    by_cases c : dG (fdS (xE X) (xI X) S v) = 0
    · rw [if_pos (show nI (dG (fdS (xE X) (xI X) S v)) = 0 by rw [c]; rfl), if_pos c, nI_p1]
    · rw [if_neg (show ¬ nI (dG (fdS (xE X) (xI X) S v)) = 0 from c_lit (b := 0) (by omega) (by decide) c), if_neg c, Int32.add_zero] <;> rfl
  obtain ⟨M2, ⟨R2, _⟩, e2⟩ := loopI (fun f M k (a : FA) => fX12_founders_b67 f M (nI n) (nI yn) (nI a.2.1) (nI a.2.2.1) (nI a.2.2.2) (nI k)) (fun k M' a => RT (si M 87 3 0) (lS (xL X)) M' a.1.1 ∧ gi M' 87 43 = a.1.2 ∧ DOk (xI X) a.1.1 ∧ a.2.2.1 ≤ 999) n (fdT (xE X) (xI X)) (fun M a => bV (fX12_unpack 111 M 0) (fun M13 => some (M13, .inr (some (.int (fdV (nI yn) a))))))
    (by
      intro f M2 k a ⟨R2, hv, O2, hm⟩ hkk
      obtain ⟨M9, r1, r2, r3, r4, r5⟩ := one f M2 k a R2 hv O2 hm hkk
      exact ⟨M9, ⟨r1, r2, r3, r4⟩, r5⟩)
    (by
      intro f M2 a _
      rw [fX12_founders_b67]
      dsimp only
      rw [if_neg (nI_nlt (Nat.le_refl _) (by omega))]
      unfold fdV
      by_cases c0 : nI yn = 0
      · simp only [if_pos c0]
      · by_cases c1 : nI yn = 1
        · simp only [if_neg c0, if_pos c1]
        · simp only [if_neg c0, if_neg c1])
    n 0 (by omega) FU (FU_gt (by omega)) (si M1 87 43 w) ((lS (xL X), w), 0, 0, 0) ⟨R1', gi_si_s, hO, Nat.zero_le _⟩
  obtain ⟨M3, e3, R3⟩ := R2.un
  refine ⟨M3, ?_, R3⟩
  show fX12_founders M w (nI n) (nI yn) = _
  unfold fX12_founders
  rw [wr_eq, r_inN (lo := 0) (hi := 2) (by decide) (by decide) (by omega) hyn (by decide), bI_ok, if_neg n10, r_inN (lo := 0) (hi := 30) (by decide) (by decide) (by omega) hn (by decide), bI_ok, if_neg n10, e1, bV_ok, wr_eq]
  refine e2.trans ?_
  rw [e3, bV_ok]
theorem a_founders (hX : WOk X) (w t y : Int32) : Ag (fun M => fX11_founders M w t y) (fun M => fX12_founders M w t y) kN X := by
  have hk := hX.1
  have h8 := hk.1.1
  have hO := hX.2.2.1.1.1
  rcases w_cases y 0 2 (by decide) (by decide) with ⟨yn, _, hyn, rfl⟩ | hy
  · have cw : ∀ M, fX11_needWhat M (nI yn) 3 = okV M := fun M => c_what (nI_pos (by omega)) (ltL 3 (by omega) (by decide))
    rcases w_cases t 0 30 (by decide) (by decide) with ⟨n, _, hn, rfl⟩ | ht
    · exact Ag.t hX (fdV (nI yn) (foldN (fdT (xE X) (xI X)) n 0 ((lS (xL X), w), 0, 0, 0))) (fun M hM => fd_c hX w hn hyn hM) (fun M hM => fd_r hX w hn hyn hM)
    · exact Ag.x hX 2 (Or.inr rfl) (fun M h => by unfold fX11_founders; rw [cw, bV_ok, c_withx (a := 0) (b := 30) ht, bV_x]) (fun M h => ⟨0, by
        unfold fX12_founders
        rw [wr_eq, r_inN (lo := 0) (hi := 2) (by decide) (by decide) (by omega) hyn (by decide), bI_ok, if_neg n10, r_inX (lo := 0) (hi := 30) (by decide) (by decide) ht, bI_ok, if_pos rfl, x2x]
        rfl⟩)
  · have cx : y < 0 ∨ ¬ y < 3 := by
      rcases hy with a | a
      · exact Or.inl a
      · refine Or.inr (fun c => ?_)
        have h1 := Int32.lt_iff_toInt_lt.mp a
        have h2 := Int32.lt_iff_toInt_lt.mp c
        have h3 : (nI 2).toInt = 2 := by decide
        have h4 : (3 : Int32).toInt = 3 := by decide
        omega
    exact Ag.x hX 1 (Or.inl rfl) (fun M h => by unfold fX11_founders; rw [c_whatx cx, bV_x]) (fun M h => ⟨0, by
      unfold fX12_founders
      rw [wr_eq, r_inX (lo := 0) (hi := 2) (by decide) (by decide) hy, bI_ok, if_pos rfl, x1x]
      rfl⟩)
end

-- ===== both sides read a line: plot =====
section
variable {T : Nat → Nat} {n z D : Nat} {C0 R0 M Mc Mr : Mem} {j : Nat} {J : IS} {mx my : Nat} {b1 b3 : Bool} {a b c : Int32}
def plA (J : IS) (a b : Int32) (q : Nat) : Bool := decide (iA J 3 q = a ∧ iA J 4 q = b)
theorem c_hasAt (h : IC D M J) (hP : iP J ≤ 9) : fX2_hasPlotAt D M a b = okI M (if anyF (plA J a b) (iP J) 0 = true then 1 else 0) := by
  unfold fX2_hasPlotAt
  have key : ∀ d q, q + d = iP J → ∀ f, d < f → fX2_hasPlotAt_b2 D f M a b (nI q) = okI M (if anyF (plA J a b) d q = true then 1 else 0) := by
    intro d
    induction d with
    | zero =>
      intro q hq f hf
      obtain ⟨m, rfl⟩ : ∃ m, f = m + 1 := ⟨f - 1, by omega⟩
      rw [fX2_hasPlotAt_b2]
      dsimp only
      rw [h.1.2.1, if_neg (nI_nlt (by omega) (by omega))]
      rfl
    | succ d ih =>
      intro q hq f hf
      obtain ⟨m, rfl⟩ : ∃ m, f = m + 1 := ⟨f - 1, by omega⟩
      have hp := h.2.2.1 q (by omega)
      have ihk := ih (q + 1) (by omega) m (by omega)
      rw [fX2_hasPlotAt_b2]
      dsimp only
      unfold fX2_hasPlotAt_b32 anyF
      rw [h.1.2.1, if_pos (nI_lt (by omega) (by omega)), chk_in (by omega) (by decide), chk_in (by omega) (by decide), ix_nI (by omega), hp.1, hp.2.1, nI_p1]
      by_cases c1 : iA J 3 q = a
      · rw [if_pos c1]
        by_cases c2 : iA J 4 q = b
        · rw [if_pos c2, if_pos (show plA J a b q = true from decide_eq_true ⟨c1, c2⟩)]
          rfl
        · rw [if_neg c2, if_neg (show ¬ plA J a b q = true from fun z => c2 (of_decide_eq_true z).2)]
          exact ihk
      · rw [if_neg c1, if_neg (show ¬ plA J a b q = true from fun z => c1 (of_decide_eq_true z).1)]
        exact ihk
  exact key (iP J) 0 (by omega) FU (FU_gt (by omega))
theorem r_hasAt (h : RLn T n R0 M j J mx my) (hP : iP J < 9) (g1 : gi M 94 (9 + iP J) = a) (g2 : gi M 95 (9 + iP J) = b) : fX12_sayPlot_b51 FU M (nI (9 + iP J)) 9 = fX12_sayPlot_b104 (if anyF (plA J a b) (iP J) 0 = true then fltR M 4 (ps T n j) else M) (nI (9 + iP J)) := by
  have key : ∀ d q, q + d = iP J → ∀ f, d + 1 < f → fX12_sayPlot_b51 f M (nI (9 + iP J)) (nI (9 + q)) = fX12_sayPlot_b104 (if anyF (plA J a b) d q = true then fltR M 4 (ps T n j) else M) (nI (9 + iP J)) := by
    intro d
    induction d with
    | zero =>
      intro q hq f hf
      obtain ⟨m, rfl⟩ : ∃ m, f = m + 1 := ⟨f - 1, by omega⟩
      rw [fX12_sayPlot_b51]
      dsimp only
      rw [if_pos h.2.1.2, if_neg (nI_nlt (by omega) (by omega))]
      rfl
    | succ d ih =>
      intro q hq f hf
      obtain ⟨m, rfl⟩ : ∃ m, f = m + 1 := ⟨f - 1, by omega⟩
      have hp := h.2.2.2.2.1 q (by omega)
      have ihk := ih (q + 1) (by omega) m (by omega)
      rw [fX12_sayPlot_b51]
      dsimp only
      unfold fX12_sayPlot_b98 anyF
      rw [if_pos h.2.1.2, if_pos (nI_lt (by omega) (by omega)), chk_in (by omega) (by decide), chk_in (by omega) (by decide), chk_in (by omega) (by decide), chk_in (by omega) (by decide), ix_nI (by omega), ix_nI (by omega), hp.1, hp.2.1, g1, g2, nI_p1]
      by_cases c1 : iA J 3 q = a
      · rw [if_pos c1]
        by_cases c2 : iA J 4 q = b
        · rw [if_pos c2, if_pos (show plA J a b q = true from decide_eq_true ⟨c1, c2⟩), wrR h.2.1 (k := 4) (K := 4) rfl, bV_ok]
          obtain ⟨m', rfl⟩ : ∃ m', m = m' + 1 := ⟨m - 1, by omega⟩
          rw [fX12_sayPlot_b51]
          dsimp only
          rw [if_neg (fltR_f (by decide))]
          rfl
        · rw [if_neg c2, if_neg (show ¬ plA J a b q = true from fun z => c2 (of_decide_eq_true z).2)]
          exact ihk
      · rw [if_neg c1, if_neg (show ¬ plA J a b q = true from fun z => c1 (of_decide_eq_true z).1)]
        exact ihk
  exact key (iP J) 0 (by omega) FU (FU_gt (by omega))
theorem c_60F (X : LX T n z D C0 R0) {k p h : Nat} (hk : 1 ≤ k ∧ k ≤ 5) (f1 : CX T n z D C0 M k p) (h9 : gi M D 10 = nI h) (h8 : h < 9) : ∃ M', fX5_readPlot_b60 M a b = okV M' ∧ CX T n z D C0 M' k p := by
  have hD := X.2.2.2.1
  have h7 : z ≤ 700 := by have := X.1.1; have := X.1.2.2.1; omega
  obtain ⟨w2, e4⟩ := c_numF (z := z) (f1.f hk) (f1.1.tk X).2.1 h7 20
  obtain ⟨w3, e5⟩ := c_numF (z := z) (f1.f hk) (f1.1.tk X).2.1 h7 9
  unfold fX5_readPlot_b60
  rw [e4, bI_ok, e5, bI_ok, f1.1.is X, c_addP hD h9 h8, bV_ok]
  exact ⟨_, rfl, f1.add hD (a1 := 4) (a2 := 5) (a3 := 6) (by decide) (by decide) (by decide)⟩
theorem r_104F {k p h : Nat} (hk : 1 ≤ k ∧ k ≤ 5) (f1 : RX R0 M k p) (h8 : h < 9) : ∃ M', fX12_sayPlot_b104 M (nI (9 + h)) = okV M' ∧ RX R0 M' k p := by
  unfold fX12_sayPlot_b104 fX12_sayPlot_b115
  have l1 : low 96 ≤ 9 + h := Nat.le_add_right 9 h
  rw [if_neg (f1.f hk), r_numF (f1.f hk), bI_ok, chk_in (by omega) (by decide), ix_nI (by omega), wr_eq, wr_eq]
  exact ⟨_, rfl, (f1.w (by decide) l1).w (by decide) (by decide)⟩
theorem r_51F {k p h : Nat} (hk : 1 ≤ k ∧ k ≤ 5) (f1 : RX R0 M k p) (h8 : h < 9) : ∃ M', fX12_sayPlot_b51 FU M (nI (9 + h)) 9 = okV M' ∧ RX R0 M' k p := by
  obtain ⟨f, hf⟩ := FU_s
  rw [hf, fX12_sayPlot_b51]
  dsimp only
  rw [if_neg (f1.f hk)]
  exact r_104F hk f1 h8
theorem plot_both (X : LX T n z D C0 R0) (hc : CL T n D C0 Mc j J mx my b1 b3) (hr : RLn T n R0 Mr j J mx my) (hj : j < z) (hJ : JOk J) (Kc Kr : Mem → RS) :
    LOut T n z D C0 R0 j (fl J b1 b3) Kc Kr (bV (fX5_readPlot Mc) Kc) (bV (fX12_sayPlot Mr) Kr) := by
  have hD := X.2.2.2.1
  have h7 : z ≤ 700 := by have := X.1.1; have := X.1.2.2.1; omega
  have hP := hJ.1.1.2.1
  unfold fX5_readPlot fX12_sayPlot fX12_another fX12_another_b18
  have g90 : gi Mr 90 (ix (8 + 1)) = nI (iP J) := hr.2.2.1.2.1
  rw [hc.1.is X, hc.2.2.2.1.1.2.1, chk_tt (show inb (8 + 1) 16 = true by decide), g90]
  by_cases h8 : iP J < 9
  · obtain ⟨Mr1, er1, K1, at1⟩ := advR X.1 (hr.1.tx X) hr.2.1
    have c1 := hc.mov X (j + 1)
    have r1 := hr.kr K1 at1
    have hidx : (9 : Int32) + gi Mr1 90 9 = nI (9 + iP J) := by rw [r1.2.2.1.2.1]; exact nadd 9 _
    have l1 : ∀ x, 94 ≤ x → x ≤ 96 → low x ≤ 9 + iP J := fun x h1 h2 => by unfold low; rw [if_neg (by omega), if_pos h2]; omega
    rw [if_pos (ltL 9 h8 (by decide)), advC (hc.1.tk X) X.1 hc.2.2.1 hj, bV_ok, if_neg (neL 9 (by omega) (by omega) (by decide)), if_pos hr.2.1.2, er1, bV_ok, bI_ok, if_neg n10, hidx]
    rcases num_both X.1 (c1.1.tk X) (r1.1.tx X) c1.2.2.1 r1.2.1 (by omega) (top := 20) (t1 := 20) (t2 := 20) rfl rfl (by decide) with ⟨v, Mr2, hv, hj2, e1, e2, K2, at2⟩ | ⟨k, w, hk, e1, e2⟩
    · have c2 := c1.mov X (j + 1 + 1)
      have r2 := (r1.kr K2 at2).w (a := 94) (k := 9 + iP J) (v := nI v) (Or.inr (Or.inl (by omega)))
      rw [e1, bI_ok, e2, bI_ok, chk_in (by omega) (by decide), ix_nI (by omega), wr_eq]
      rcases peek_both X.1 (c2.1.tk X) c2.2.2.1 r2.2.1 (by omega) (top := 20) (t1 := 20) (t2 := 20) rfl rfl (by decide) with ⟨v2, hv2, hs1, e3, e4⟩ | ⟨k, w, hk, e3, e4⟩
      · have hj3 : j + 1 + 1 < z := j_lt X.1.2.2.2 (by omega) (by rw [hs1]; decide)
        have r3 := r2.w (a := 95) (k := 9 + iP J) (v := nI v2) (Or.inr (Or.inl (by omega)))
        rw [e3, bI_ok, if_pos c2.2.2.1.2.2, c2.1.is X, c_hasAt c2.2.2.2.1 hP, bI_ok, e4, bI_ok, chk_in (by omega) (by decide), wr_eq, r_hasAt r3 h8 ((gi_si_a (by decide)).trans gi_si_s) gi_si_s]
        by_cases ca : anyF (plA J (nI v) (nI v2)) (iP J) 0 = true
        · rw [if_pos ca, if_neg n10, if_pos ca, fusC (c2.1.tk X) X.1 c2.2.2.1 (by omega) (k := 4) (K := 4) rfl, bV_ok]
          obtain ⟨M5, e5, f5⟩ := c_60F X (a := nI v) (b := nI v2) (by decide) (c2.flt X (by omega) 4) ((fltC_D (by omega)).trans c2.2.2.2.1.1.2.1) h8
          obtain ⟨M6, e6, f6⟩ := r_104F (by decide) (r3.flt 4 (ps T n (j + 1 + 1))) h8
          rw [e5, bV_ok, e6, bV_ok]
          exact Or.inr ⟨_, _, 4, _, rfl, rfl, f5, f6, by decide⟩
        · obtain ⟨Mr4, er4, K4, at4⟩ := advR X.1 (r3.1.tx X) r3.2.1
          have c3 := c2.mov X (j + 1 + 1 + 1)
          have r4 := r3.kr K4 at4
          have en : fX5_readNumber (movC T n (movC T n Mc (j + 1)) (j + 1 + 1)) 20 = okI (movC T n (movC T n (movC T n Mc (j + 1)) (j + 1 + 1)) (j + 1 + 1 + 1)) (nI v2) := by
            unfold fX5_readNumber
            rw [e3, bI_ok, if_pos c2.2.2.1.2.2, advC (c2.1.tk X) X.1 c2.2.2.1 hj3, bV_ok]
          unfold fX5_readPlot_b60 fX12_sayPlot_b104 fX12_sayPlot_b115
          rw [if_neg ca, if_pos rfl, if_neg ca, en, bI_ok, if_pos r3.2.1.2, er4, bV_ok]
          rcases num_both X.1 (c3.1.tk X) (r4.1.tx X) c3.2.2.1 r4.2.1 (by omega) (top := 9) (t1 := 9) (t2 := 9) rfl rfl (by decide) with ⟨v3, Mr5, hv3, hj4, e5, e6, K5, at5⟩ | ⟨k, w, hk, e5, e6⟩
          · have c4 := c3.mov X (j + 1 + 1 + 1 + 1)
            have r5 := (r4.kr K5 at5).w (a := 96) (k := 9 + iP J) (v := nI v3) (Or.inr (Or.inl (by omega)))
            rw [e5, bI_ok, c4.1.is X, c_addP hD c4.2.2.2.1.1.2.1 h8, bV_ok, bV_ok, e6, bI_ok, chk_in (by omega) (by decide), ix_nI (by omega), wr_eq, r5.2.2.1.2.1, wr_eq, bV_ok, nI_p1]
            refine Or.inl ⟨_, _, j + 1 + 1 + 1 + 1, addP J (nI v) (nI v2) (nI v3), mx, my, b1, b3, rfl, rfl, c4.add X (a1 := 4) (a2 := 5) (a3 := 6) (by omega) (by omega) (by omega) (by omega) c4.2.2.2.1.P, ⟨r5.1.w (by decide) (by decide), r5.2.1.w (by decide), r5.2.2.P ?_ ?_ gi_si_s⟩, by omega, by omega, hJ.P h8 hv hv2, rfl⟩
            · rw [gi_si_a (by decide), K5.1.i (by decide), K4.1.i (by decide), gi_si_a (by decide), gi_si_s]
            · rw [gi_si_a (by decide), K5.1.i (by decide), K4.1.i (by decide), gi_si_s]
          · have f1 := c3.flt X (by omega) k
            have f2 := ((r4.flt k (ps T n (j + 1 + 1 + 1))).w (a := 96) (i := 9 + iP J) (v := 0) (by decide) (l1 96 (by decide) (by decide)))
            have g9 : gi (fltC (movC T n (movC T n (movC T n Mc (j + 1)) (j + 1 + 1)) (j + 1 + 1 + 1)) k (ps T n (j + 1 + 1 + 1))) D 10 = nI (iP J) := (fltC_D (by omega)).trans c3.2.2.2.1.1.2.1
            rw [e5, bI_ok, f1.1.is X, c_addP hD g9 h8, bV_ok, bV_ok, e6, bI_ok, chk_in (by omega) (by decide), ix_nI (by omega), wr_eq, wr_eq, bV_ok]
            exact Or.inr ⟨_, _, k, _, rfl, rfl, f1.add hD (a1 := 4) (a2 := 5) (a3 := 6) (by decide) (by decide) (by decide), f2.w (by decide) (by decide), hk⟩
      · have f1 := c2.flt X (by omega) k
        have f2 := ((r2.flt k (ps T n (j + 1 + 1))).w (a := 95) (i := 9 + iP J) (v := 0) (by decide) (l1 95 (by decide) (by decide)))
        obtain ⟨M5, e5, f5⟩ := c_60F X (a := nI v) (b := w) hk f1 ((fltC_D (by omega)).trans c2.2.2.2.1.1.2.1) h8
        obtain ⟨M6, e6, f6⟩ := r_51F hk f2 h8
        rw [e3, bI_ok, if_neg (f1.f hk), e5, bV_ok, e4, bI_ok, chk_in (by omega) (by decide), wr_eq, e6, bV_ok]
        exact Or.inr ⟨_, _, k, _, rfl, rfl, f5, f6, hk⟩
    · have f1 := c1.flt X (by omega) k
      have f2 := ((r1.flt k (ps T n (j + 1))).w (a := 94) (i := 9 + iP J) (v := 0) (by decide) (l1 94 (by decide) (by decide)))
      have f3 := f2.w (a := 95) (i := 9 + iP J) (v := 0) (by decide) (l1 95 (by decide) (by decide))
      obtain ⟨w2, e3⟩ := c_peekF (z := z) (f1.f hk) (f1.1.tk X).2.1 h7 20
      obtain ⟨M5, e5, f5⟩ := c_60F X (a := w) (b := w2) hk f1 ((fltC_D (by omega)).trans c1.2.2.2.1.1.2.1) h8
      obtain ⟨M6, e6, f6⟩ := r_51F hk f3 h8
      rw [e1, bI_ok, e3, bI_ok, if_neg (f1.f hk), e5, bV_ok, e2, bI_ok, chk_in (by omega) (by decide), ix_nI (by omega), wr_eq, r_nowF (f2.f hk), bI_ok, chk_in (by omega) (by decide), wr_eq, e6, bV_ok]
      exact Or.inr ⟨_, _, k, _, rfl, rfl, f5, f6, hk⟩
  · rw [if_neg (nltL 9 (by omega) (by omega)), fusC (hc.1.tk X) X.1 hc.2.2.1 (by omega) (k := 2) (K := 2) rfl, bV_ok, bV_ok, if_pos (eqL 9 (show iP J = 9 by omega)), wrR hr.2.1 (k := 2) (K := 2) rfl, bV_ok, if_neg (fltR_f (by decide)), bI_ok, if_pos rfl, bV_ok]
    exact Or.inr ⟨_, _, 2, _, rfl, rfl, hc.flt X (by omega) 2, hr.flt 2 _, by decide⟩
end

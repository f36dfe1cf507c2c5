-- ===== both sides read a line: house, plot =====
section
variable {T : Nat → Nat} {n z D : Nat} {C0 R0 M Mc Mr : Mem} {j : Nat} {J : IS} {mx my : Nat} {b1 b3 : Bool} {a b c : Int32}
theorem c_addH {h : Nat} (hD : D = 3 ∨ D = 24) (h9 : gi M D 9 = nI h) (h8 : h < 8) : fX2_addHouse D M a b c = okV (si (si (si (si M (D + 1) h a) (D + 2) h b) (D + 3) h c) D 9 (nI (h + 1))) := by
  unfold fX2_addHouse
  have g1 : gi (si M (D + 1) h a) D 9 = nI h := (gi_si_a (by omega)).trans h9
  have g2 : gi (si (si M (D + 1) h a) (D + 2) h b) D 9 = nI h := (gi_si_a (by omega)).trans g1
  have g3 : gi (si (si (si M (D + 1) h a) (D + 2) h b) (D + 3) h c) D 9 = nI h := (gi_si_a (by omega)).trans g2
  rw [h9, if_pos (ltL 8 h8 (by decide)), chk_in h8 (by decide), ix_nI (by omega), wr_eq, g1, chk_in h8 (by decide), ix_nI (by omega), wr_eq, g2, chk_in h8 (by decide), ix_nI (by omega), wr_eq, g3, wr_eq, nI_p1]
theorem c_addP {h : Nat} (hD : D = 3 ∨ D = 24) (h9 : gi M D 10 = nI h) (h8 : h < 9) : fX2_addPlot D M a b c = okV (si (si (si (si M (D + 4) h a) (D + 5) h b) (D + 6) h c) D 10 (nI (h + 1))) := by
  unfold fX2_addPlot
  have g1 : gi (si M (D + 4) h a) D 10 = nI h := (gi_si_a (by omega)).trans h9
  have g2 : gi (si (si M (D + 4) h a) (D + 5) h b) D 10 = nI h := (gi_si_a (by omega)).trans g1
  have g3 : gi (si (si (si M (D + 4) h a) (D + 5) h b) (D + 6) h c) D 10 = nI h := (gi_si_a (by omega)).trans g2
  rw [h9, if_pos (ltL 9 h8 (by decide)), chk_in h8 (by decide), ix_nI (by omega), wr_eq, g1, chk_in h8 (by decide), ix_nI (by omega), wr_eq, g2, chk_in h8 (by decide), ix_nI (by omega), wr_eq, g3, wr_eq, nI_p1]
/-- rows of the class's island told: behind a fault -/
theorem CX.add {k p : Nat} (h : CX T n z D C0 M k p) (hD : D = 3 ∨ D = 24) {i a1 a2 a3 f : Nat} {v1 v2 v3 v4 : Int32} (h1 : a1 ≤ 13) (h2 : a2 ≤ 13) (h3 : a3 ≤ 13) : CX T n z D C0 (si (si (si (si M (D + a1) i v1) (D + a2) i v2) (D + a3) i v3) D f v4) k p := (((h.w hD (by omega)).w hD (by omega)).w hD (by omega)).w hD (by omega)
theorem CL.add (X : LX T n z D C0 R0) (h : CL T n D C0 M j J mx my b1 b3) {i a1 a2 a3 f : Nat} {v1 v2 v3 v4 : Int32} {J' : IS} (h1 : 1 ≤ a1 ∧ a1 ≤ 13) (h2 : 1 ≤ a2 ∧ a2 ≤ 13) (h3 : 1 ≤ a3 ∧ a3 ≤ 13) (hf : f < 12) (hI : IC D (si (si (si (si M (D + a1) i v1) (D + a2) i v2) (D + a3) i v3) D f v4) J') : CL T n D C0 (si (si (si (si M (D + a1) i v1) (D + a2) i v2) (D + a3) i v3) D f v4) j J' mx my b1 b3 := by
  have hD := X.2.2.2.1
  obtain ⟨g1, g2, ⟨g3, g4, g5⟩, i1, i2, i3, i4, i5⟩ := h
  have e17 : ∀ q, gi (si (si (si (si M (D + a1) i v1) (D + a2) i v2) (D + a3) i v3) D f v4) 17 q = gi M 17 q := fun q => by rw [gi_si_a (by omega), gi_si_a (by omega), gi_si_a (by omega), gi_si_a (by omega)]
  have eD : ∀ q, 12 ≤ q → gi (si (si (si (si M (D + a1) i v1) (D + a2) i v2) (D + a3) i v3) D f v4) D q = gi M D q := fun q hq => by rw [gi_si_k (by omega), gi_si_a (by omega), gi_si_a (by omega), gi_si_a (by omega)]
  exact ⟨(((g1.w (by omega)).w (by omega)).w (by omega)).w (by omega), (e17 7).trans g2, ⟨(e17 4).trans g3, (e17 5).trans g4, (e17 6).trans g5⟩, hI, (eD 12 (by decide)).trans i2, (eD 13 (by decide)).trans i3, (eD 15 (by decide)).trans i4, (eD 16 (by decide)).trans i5⟩
theorem house_both (X : LX T n z D C0 R0) (hc : CL T n D C0 Mc j J mx my b1 b3) (hr : RLn T n R0 Mr j J mx my) (hj : j < z) (hJ : JOk J) (Kc Kr : Mem → RS) :
    LOut T n z D C0 R0 j (fl J b1 b3) Kc Kr (bV (fX5_readHouse Mc) Kc) (bV (fX12_sayHouse Mr) Kr) := by
  have hD := X.2.2.2.1
  have h7 : z ≤ 700 := by have := X.1.1; have := X.1.2.2.1; omega
  have hH := hJ.1.1.1
  unfold fX5_readHouse fX12_sayHouse fX12_another fX12_another_b18
  have g90 : gi Mr 90 (ix (8 + 0)) = nI (iH J) := hr.2.2.1.1
  rw [hc.1.is X, hc.2.2.2.1.1.1, chk_tt (show inb (8 + 0) 16 = true by decide), g90]
  by_cases h8 : iH J < 8
  · obtain ⟨Mr1, er1, K1, at1⟩ := advR X.1 (hr.1.tx X) hr.2.1
    have c1 := hc.mov X (j + 1)
    have r1 := hr.kr K1 at1
    have hidx : (8 : Int32) + gi Mr1 90 8 = nI (8 + iH J) := by rw [r1.2.2.1.1]; exact nadd 8 _
    have l1 : ∀ x, 91 ≤ x → x ≤ 93 → low x ≤ 8 + iH J := fun x h1 h2 => by unfold low; rw [if_pos h2]; omega
    rw [if_pos (ltL 8 h8 (by decide)), advC (hc.1.tk X) X.1 hc.2.2.1 hj, bV_ok, if_neg (neL 8 (by omega) (by omega) (by decide)), if_pos hr.2.1.2, er1, bV_ok, bI_ok, if_neg n10, hidx]
    rcases num_both X.1 (c1.1.tk X) (r1.1.tx X) c1.2.2.1 r1.2.1 (by omega) (top := 9) (t1 := 9) (t2 := 9) rfl rfl (by decide) with ⟨v, Mr2, hv, hj2, e1, e2, K2, at2⟩ | ⟨k, w, hk, e1, e2⟩
    · have c2 := c1.mov X (j + 1 + 1)
      have r2 := (r1.kr K2 at2).w (a := 91) (k := 8 + iH J) (v := nI v) (Or.inl (by omega))
      rw [e1, bI_ok, e2, bI_ok, chk_in (by omega) (by decide), ix_nI (by omega), wr_eq]
      rcases num_both X.1 (c2.1.tk X) (r2.1.tx X) c2.2.2.1 r2.2.1 (by omega) (top := 9) (t1 := 9) (t2 := 9) rfl rfl (by decide) with ⟨v2, Mr3, hv2, hj3, e3, e4, K3, at3⟩ | ⟨k, w, hk, e3, e4⟩
      · have c3 := c2.mov X (j + 1 + 1 + 1)
        have r3 := (r2.kr K3 at3).w (a := 92) (k := 8 + iH J) (v := nI v2) (Or.inl (by omega))
        rw [e3, bI_ok, e4, bI_ok, chk_in (by omega) (by decide), wr_eq]
        rcases num_both X.1 (c3.1.tk X) (r3.1.tx X) c3.2.2.1 r3.2.1 (by omega) (top := 2) (t1 := 2) (t2 := 2) rfl rfl (by decide) with ⟨v3, Mr4, hv3, hj4, e5, e6, K4, at4⟩ | ⟨k, w, hk, e5, e6⟩
        · have c4 := c3.mov X (j + 1 + 1 + 1 + 1)
          have r4 := (r3.kr K4 at4).w (a := 93) (k := 8 + iH J) (v := nI v3) (Or.inl (by omega))
          rw [e5, bI_ok, c4.1.is X, c_addH hD c4.2.2.2.1.1.1 h8, bV_ok, bV_ok, e6, bI_ok, chk_in (by omega) (by decide), wr_eq, r4.2.2.1.1, wr_eq, bV_ok, nI_p1]
          refine Or.inl ⟨_, _, j + 1 + 1 + 1 + 1, addH J (nI v) (nI v2) (nI v3), mx, my, b1, b3, rfl, rfl, c4.add X (a1 := 1) (a2 := 2) (a3 := 3) (by omega) (by omega) (by omega) (by omega) c4.2.2.2.1.H, ⟨r4.1.w (by decide) (by decide), r4.2.1.w (by decide), r4.2.2.H ?_ ?_ gi_si_s⟩, by omega, by omega, hJ.H h8, rfl⟩
          · rw [gi_si_a (by decide), K4.1.i (by decide), gi_si_a (by decide), K3.1.i (by decide), gi_si_s]
          · rw [gi_si_a (by decide), K4.1.i (by decide), gi_si_s]
        · have f1 := c3.flt X (by omega) k
          have f2 := ((r3.flt k (ps T n (j + 1 + 1 + 1))).w (a := 93) (i := 8 + iH J) (v := 0) (by decide) (l1 93 (by decide) (by decide)))
          have g9 : gi (fltC (movC T n (movC T n (movC T n Mc (j + 1)) (j + 1 + 1)) (j + 1 + 1 + 1)) k (ps T n (j + 1 + 1 + 1))) D 9 = nI (iH J) := (fltC_D (by omega)).trans c3.2.2.2.1.1.1
          rw [e5, bI_ok, f1.1.is X, c_addH hD g9 h8, bV_ok, bV_ok, e6, bI_ok, chk_in (by omega) (by decide), wr_eq, wr_eq, bV_ok]
          exact Or.inr ⟨_, _, k, _, rfl, rfl, f1.add hD (a1 := 1) (a2 := 2) (a3 := 3) (by decide) (by decide) (by decide), f2.w (by decide) (by decide), hk⟩
      · have f1 := c2.flt X (by omega) k
        have f2 := ((r2.flt k (ps T n (j + 1 + 1))).w (a := 92) (i := 8 + iH J) (v := 0) (by decide) (l1 92 (by decide) (by decide)))
        have f3 := f2.w (a := 93) (i := 8 + iH J) (v := 0) (by decide) (l1 93 (by decide) (by decide))
        have g9 : gi (fltC (movC T n (movC T n Mc (j + 1)) (j + 1 + 1)) k (ps T n (j + 1 + 1))) D 9 = nI (iH J) := (fltC_D (by omega)).trans c2.2.2.2.1.1.1
        obtain ⟨w3, e5⟩ := c_numF (z := z) (f1.f hk) (f1.1.tk X).2.1 h7 2
        rw [e3, bI_ok, e5, bI_ok, f1.1.is X, c_addH hD g9 h8, bV_ok, bV_ok, e4, bI_ok, chk_in (by omega) (by decide), wr_eq, r_numF (f2.f hk), bI_ok, chk_in (by omega) (by decide), wr_eq, wr_eq, bV_ok]
        exact Or.inr ⟨_, _, k, _, rfl, rfl, f1.add hD (a1 := 1) (a2 := 2) (a3 := 3) (by decide) (by decide) (by decide), f3.w (by decide) (by decide), hk⟩
    · have f1 := c1.flt X (by omega) k
      have f2 := ((r1.flt k (ps T n (j + 1))).w (a := 91) (i := 8 + iH J) (v := 0) (by decide) (l1 91 (by decide) (by decide)))
      have f3 := f2.w (a := 92) (i := 8 + iH J) (v := 0) (by decide) (l1 92 (by decide) (by decide))
      have f4 := f3.w (a := 93) (i := 8 + iH J) (v := 0) (by decide) (l1 93 (by decide) (by decide))
      have g9 : gi (fltC (movC T n Mc (j + 1)) k (ps T n (j + 1))) D 9 = nI (iH J) := (fltC_D (by omega)).trans c1.2.2.2.1.1.1
      obtain ⟨w2, e4⟩ := c_numF (z := z) (f1.f hk) (f1.1.tk X).2.1 h7 9
      obtain ⟨w3, e5⟩ := c_numF (z := z) (f1.f hk) (f1.1.tk X).2.1 h7 2
      rw [e1, bI_ok, e4, bI_ok, e5, bI_ok, f1.1.is X, c_addH hD g9 h8, bV_ok, bV_ok, e2, bI_ok, chk_in (by omega) (by decide), ix_nI (by omega), wr_eq, r_numF (f2.f hk), bI_ok, chk_in (by omega) (by decide), wr_eq, r_numF (f3.f hk), bI_ok, chk_in (by omega) (by decide), wr_eq, wr_eq, bV_ok]
      exact Or.inr ⟨_, _, k, _, rfl, rfl, f1.add hD (a1 := 1) (a2 := 2) (a3 := 3) (by decide) (by decide) (by decide), f4.w (by decide) (by decide), hk⟩
  · rw [if_neg (nltL 8 (by omega) (by omega)), fusC (hc.1.tk X) X.1 hc.2.2.1 (by omega) (k := 2) (K := 2) rfl, bV_ok, bV_ok, if_pos (eqL 8 (show iH J = 8 by omega)), wrR hr.2.1 (k := 2) (K := 2) rfl, bV_ok, if_neg (fltR_f (by decide)), bI_ok, if_pos rfl, bV_ok]
    exact Or.inr ⟨_, _, 2, _, rfl, rfl, hc.flt X (by omega) 2, hr.flt 2 _, by decide⟩
end

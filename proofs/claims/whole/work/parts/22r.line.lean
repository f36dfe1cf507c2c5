-- ===== both sides read a line: rain =====
section
variable {T : Nat → Nat} {n z D : Nat} {C0 R0 M Mc Mr : Mem} {j : Nat} {J : IS} {mx my : Nat} {b1 b3 : Bool} {a b c : Int32}
theorem c_addN {h : Nat} (hD : D = 3 ∨ D = 24) (h9 : gi M D 11 = nI h) (h8 : h < 10) : fX2_addRain D M a = okV (si (si M (D + 7) h a) D 11 (nI (h + 1))) := by
  unfold fX2_addRain
  have g1 : gi (si M (D + 7) h a) D 11 = nI h := (gi_si_a (by omega)).trans h9
  rw [h9, if_pos (ltL 10 h8 (by decide)), chk_in h8 (by decide), ix_nI (by omega), wr_eq, g1, wr_eq, nI_p1]
theorem CL.addN (X : LX T n z D C0 R0) (h : CL T n D C0 M j J mx my b1 b3) {i : Nat} {v1 v4 : Int32} {J' : IS} (hI : IC D (si (si M (D + 7) i v1) D 11 v4) J') : CL T n D C0 (si (si M (D + 7) i v1) D 11 v4) j J' mx my b1 b3 := by
  have hD := X.2.2.2.1
  obtain ⟨g1, g2, ⟨g3, g4, g5⟩, i1, i2, i3, i4, i5⟩ := h
  have e17 : ∀ q, gi (si (si M (D + 7) i v1) D 11 v4) 17 q = gi M 17 q := fun q => by rw [gi_si_a (by omega), gi_si_a (by omega)]
  have eD : ∀ q, 12 ≤ q → gi (si (si M (D + 7) i v1) D 11 v4) D q = gi M D q := fun q hq => by rw [gi_si_k (by omega), gi_si_a (by omega)]
  exact ⟨(g1.w (by omega)).w (by omega), (e17 7).trans g2, ⟨(e17 4).trans g3, (e17 5).trans g4, (e17 6).trans g5⟩, hI, (eD 12 (by decide)).trans i2, (eD 13 (by decide)).trans i3, (eD 15 (by decide)).trans i4, (eD 16 (by decide)).trans i5⟩
theorem c_74F (h0 : gi M 17 6 ≠ 0) : fX5_readRain_b74 M = okV M := by
  unfold fX5_readRain_b74 fX5_isNumber fX5_isNumber_b16
  by_cases c1 : gi M 17 5 = 1
  · rw [if_pos c1, bI_ok, if_neg n10, c_refF h0, bV_ok]
  · rw [if_neg c1]
    by_cases c2 : gi M 17 5 = 2
    · rw [if_pos c2, bI_ok, if_neg n10, c_refF h0, bV_ok]
    · rw [if_neg c2, bI_ok, if_pos rfl]
theorem c_35F {f : Nat} {x : Int32} (h0 : gi M 17 6 ≠ 0) : fX5_readRain_b35 (f + 1) M x = okV M := by
  rw [fX5_readRain_b35]
  dsimp only
  rw [if_neg h0, c_74F h0]
  split <;> rfl
theorem fl_N (hi : 0 < iN J) : fl (addN J a) b1 b3 = fl J b1 b3 := by
  unfold fl
  have e : iN (addN J a) = iN J + 1 := rfl
  rw [e, decide_eq_true (show 0 < iN J + 1 by omega), decide_eq_true hi]
  rfl
theorem num_kinds (T : Nat → Nat) (n s : Nat) : ((syA T n s = 1 ∨ syA T n s = 2) ∧ kdA T n s = 2) ∨ (syA T n s ≠ 1 ∧ syA T n s ≠ 2 ∧ kdA T n s ≠ 2 ∧ kdA T n s < 9) := by
  rcases sy_kinds T n s with ⟨a1, b1, _⟩ | ⟨a1, b1, _⟩ | ⟨a1, b1, _⟩ | ⟨a1, b1, b2, b3, _⟩ | ⟨a1, b1, _⟩ <;> omega
theorem c_isNum (h : AtC T n M j) : fX5_isNumber M = okI M (if kdA T n (ps T n j) = 2 then 1 else 0) := by
  have := sy_lt (T := T) (n := n) (s := ps T n j)
  unfold fX5_isNumber fX5_isNumber_b16
  rw [h.2.1]
  rcases num_kinds T n (ps T n j) with ⟨q, q2⟩ | ⟨q1, q2, q3, q4⟩
  · rw [if_pos q2]
    by_cases c : syA T n (ps T n j) = 1
    · rw [if_pos (eqL 1 c)]
    · rw [if_neg (neL 1 c (by omega) (by decide)), if_pos (eqL 2 (q.resolve_left c))]
  · rw [if_neg q3, if_neg (neL 1 q1 (by omega) (by decide)), if_neg (neL 2 q2 (by omega) (by decide))]
theorem rain_loop (X : LX T n z D C0 R0) {j0 tt : Nat} (Kc Kr : Mem → RS) : ∀ d i, i + d = 10 → ∀ f f', d + 1 < f → d + 1 < f' → ∀ Mc Mr j J, CL T n D C0 Mc j J mx my b1 b3 → RLn T n R0 Mr j J mx my → j0 < j → j ≤ z → JOk J → iN J = i → 0 < i → fl J b1 b3 = tt → LOut T n z D C0 R0 j0 tt Kc Kr (bV (fX5_readRain_b35 f Mc (nI i)) Kc) (bV (fX12_sayRain_b2 f' Mr 0) Kr) := by
  have hD := X.2.2.2.1
  intro d
  induction d with
  | zero =>
    intro i hi f f' hf hf' Mc Mr j J hc hr h0 hj hJ hN hpos ht
    obtain ⟨g, rfl⟩ : ∃ g, f = g + 1 := ⟨f - 1, by omega⟩
    obtain ⟨g', rfl⟩ : ∃ g, f' = g + 1 := ⟨f' - 1, by omega⟩
    rw [fX5_readRain_b35, fX12_sayRain_b2]
    dsimp only
    unfold fX5_readRain_b74 fX12_sayRain_b21 fX12_sayRain_b48
    rw [if_neg (nltL 10 (by omega) (by omega)), c_isNum hc.2.2.1, bI_ok, if_pos hr.2.1.2, if_pos rfl, hr.2.1.1.2.2.2.1]
    by_cases c : kdA T n (ps T n j) = 2
    · rw [if_pos c, if_neg n10, fusC (hc.1.tk X) X.1 hc.2.2.1 hj (k := 2) (K := 2) rfl, bV_ok, bV_ok, if_pos (eqL 2 c), if_pos (eqL 2 c), hr.2.2.1.2.2.1, if_pos (eqL 10 (show iN J = 10 by omega)), wrR hr.2.1 (k := 2) (K := 2) rfl, bV_ok, r_nowF (fltR_f (by decide)), bI_ok, if_neg (fltR_f (by decide)), bV_ok]
      exact Or.inr ⟨_, _, 2, _, rfl, rfl, hc.flt X (by omega) 2, hr.flt 2 _, by decide⟩
    · have hk9 : kdA T n (ps T n j) < 9 := by rcases num_kinds T n (ps T n j) with ⟨_, q2⟩ | ⟨_, _, _, q⟩ <;> omega
      rw [if_neg c, if_pos rfl, bV_ok, if_neg (neL 2 c (by omega) (by decide)), bV_ok]
      exact Or.inl ⟨_, _, j, J, mx, my, b1, b3, rfl, rfl, hc, hr, h0, hj, hJ, ht⟩
  | succ d ih =>
    intro i hi f f' hf hf' Mc Mr j J hc hr h0 hj hJ hN hpos ht
    obtain ⟨g, rfl⟩ : ∃ g, f = g + 1 := ⟨f - 1, by omega⟩
    obtain ⟨g', rfl⟩ : ∃ g, f' = g + 1 := ⟨f' - 1, by omega⟩
    rw [fX5_readRain_b35, fX12_sayRain_b2]
    dsimp only
    unfold fX12_sayRain_b21 fX12_sayRain_b48
    rw [if_pos (ltL 10 (by omega) (by decide)), if_pos hc.2.2.1.2.2, c_isNum hc.2.2.1, bI_ok, if_pos hr.2.1.2, if_pos rfl, hr.2.1.1.2.2.2.1]
    by_cases c : kdA T n (ps T n j) = 2
    · rw [if_pos c, if_neg n10, if_pos (eqL 2 c), if_pos (eqL 2 c), hr.2.2.1.2.2.1, if_neg (neL 10 (show iN J ≠ 10 by omega) (by omega) (by decide)), hc.1.is X]
      rcases peek_both X.1 (hc.1.tk X) hc.2.2.1 hr.2.1 hj (top := 9) (t1 := 9) (t2 := 9) rfl rfl (by decide) with ⟨v, hv, hs1, e3, e4⟩ | ⟨k, w, hk, e3, e4⟩
      · have hj3 : j < z := j_lt X.1.2.2.2 hj (by rw [hs1]; decide)
        obtain ⟨Mr4, er4, K4, at4⟩ := advR X.1 (hr.1.tx X) hr.2.1
        have c3 := hc.mov X (j + 1)
        have r4 := hr.kr K4 at4
        have hidx : (10 : Int32) + gi Mr4 90 10 = nI (10 + iN J) := by rw [r4.2.2.1.2.2.1]; exact nadd 10 _
        have r5 := r4.w (a := 97) (k := 10 + iN J) (v := nI v) (Or.inr (Or.inr (by omega)))
        have en : fX5_readNumber Mc 9 = okI (movC T n Mc (j + 1)) (nI v) := by
          unfold fX5_readNumber
          rw [e3, bI_ok, if_pos hc.2.2.1.2.2, advC (hc.1.tk X) X.1 hc.2.2.1 hj3, bV_ok]
        rw [en, bI_ok, c_addN hD c3.2.2.2.1.1.2.2.1 (by omega), bV_ok, e4, bI_ok, if_pos hr.2.1.2, er4, bV_ok, hidx, chk_in (by omega) (by decide), ix_nI (by omega), wr_eq, r5.2.2.1.2.2.1, wr_eq, nI_p1, nI_p1]
        refine ih (i + 1) (by omega) g g' (by omega) (by omega) _ _ (j + 1) (addN J (nI v)) (c3.addN X c3.2.2.2.1.N) ⟨r5.1.w (by decide) (by decide), r5.2.1.w (by decide), r5.2.2.N gi_si_s⟩ (by omega) (by omega) (hJ.N (by omega)) (show iN J + 1 = i + 1 by omega) (by omega) ((fl_N (by omega)).trans ht)
      · have f1 := hc.flt X (by omega) k
        have en : fX5_readNumber Mc 9 = okI (fltC Mc k (ps T n j)) w := by
          unfold fX5_readNumber
          rw [e3, bI_ok, if_neg (f1.f hk)]
        have g9 : gi (fltC Mc k (ps T n j)) D 11 = nI (iN J) := (fltC_D (by omega)).trans hc.2.2.2.1.1.2.2.1
        have f2 : CX T n z D C0 (si (si (fltC Mc k (ps T n j)) (D + 7) (iN J) w) D 11 (nI (iN J + 1))) k (ps T n j) := (f1.w hD (by omega)).w hD (by omega)
        obtain ⟨g2, rfl⟩ : ∃ g2, g = g2 + 1 := ⟨g - 1, by omega⟩
        rw [en, bI_ok, c_addN hD g9 (by omega), bV_ok, c_35F (f2.f hk), bV_ok, e4, bI_ok, if_neg (fltR_f hk), bV_ok]
        exact Or.inr ⟨_, _, k, _, rfl, rfl, f2, hr.flt k _, hk⟩
    · have hk9 : kdA T n (ps T n j) < 9 := by rcases num_kinds T n (ps T n j) with ⟨_, q2⟩ | ⟨_, _, _, q⟩ <;> omega
      unfold fX5_readRain_b74
      rw [if_neg c, if_pos rfl, c_isNum hc.2.2.1, bI_ok, if_neg c, if_pos rfl, bV_ok, if_neg (neL 2 c (by omega) (by decide)), bV_ok]
      exact Or.inl ⟨_, _, j, J, mx, my, b1, b3, rfl, rfl, hc, hr, h0, hj, hJ, ht⟩
theorem rain_both (X : LX T n z D C0 R0) (hc : CL T n D C0 Mc j J mx my b1 b3) (hr : RLn T n R0 Mr (j + 1) J mx my) (hj : j < z) (hJ : JOk J) (hN : iN J = 0) (Kc Kr : Mem → RS) :
    LOut T n z D C0 R0 j (fl (addN J 0) b1 b3) Kc Kr (bV (fX5_readRain Mc) Kc) (bV (fX12_sayRain Mr) Kr) := by
  have hD := X.2.2.2.1
  unfold fX5_readRain fX12_sayRain
  have c1 := hc.mov X (j + 1)
  obtain ⟨f', hf'⟩ := FU_s
  have hf2 : 11 < f' := by have : FU = 100000 := rfl; omega
  rw [hc.1.is X, hc.2.2.2.1.1.2.2.1, hN, if_neg (show ¬ 0 < nI 0 by decide), advC (hc.1.tk X) X.1 hc.2.2.1 hj, bV_ok, c1.1.is X]
  rw [show fX12_sayRain_b2 FU Mr 1 = fX12_sayRain_b2 (f' + 1) Mr 1 by rw [hf'], fX12_sayRain_b2]
  dsimp only
  rw [if_pos hr.2.1.2, if_neg n10]
  have e21 : fX12_sayRain_b21 (fX12_sayRain_b2 f') Mr = fX12_sayRain_b48 (fX12_sayRain_b2 f') Mr 0 := by
    unfold fX12_sayRain_b21
    rw [hr.2.2.1.2.2.1, hN, if_neg (show ¬ nI 0 = 10 by decide)]
    split <;> rfl
  rw [e21]
  unfold fX12_sayRain_b48
  rcases peek_both X.1 (c1.1.tk X) c1.2.2.1 hr.2.1 (by omega) (top := 9) (t1 := 9) (t2 := 9) rfl rfl (by decide) with ⟨v, hv, hs1, e3, e4⟩ | ⟨k, w, hk, e3, e4⟩
  · have hj3 : j + 1 < z := j_lt X.1.2.2.2 (by omega) (by rw [hs1]; decide)
    obtain ⟨Mr4, er4, K4, at4⟩ := advR X.1 (hr.1.tx X) hr.2.1
    have c3 := c1.mov X (j + 1 + 1)
    have r4 := hr.kr K4 at4
    have hidx : (10 : Int32) + gi Mr4 90 10 = nI (10 + iN J) := by rw [r4.2.2.1.2.2.1]; exact nadd 10 _
    have r5 := r4.w (a := 97) (k := 10 + iN J) (v := nI v) (Or.inr (Or.inr (by omega)))
    have en : fX5_readNumber (movC T n Mc (j + 1)) 9 = okI (movC T n (movC T n Mc (j + 1)) (j + 1 + 1)) (nI v) := by
      unfold fX5_readNumber
      rw [e3, bI_ok, if_pos c1.2.2.1.2.2, advC (c1.1.tk X) X.1 c1.2.2.1 hj3, bV_ok]
    rw [en, bI_ok, c_addN hD c3.2.2.2.1.1.2.2.1 (by omega), bV_ok, e4, bI_ok, if_pos hr.2.1.2, er4, bV_ok, hidx, chk_in (by omega) (by decide), ix_nI (by omega), wr_eq, r5.2.2.1.2.2.1, wr_eq, nI_p1]
    exact rain_loop X Kc Kr 9 1 (by omega) FU f' (FU_gt (by omega)) (by omega) _ _ (j + 1 + 1) (addN J (nI v)) (c3.addN X c3.2.2.2.1.N) ⟨r5.1.w (by decide) (by decide), r5.2.1.w (by decide), r5.2.2.N gi_si_s⟩ (by omega) (by omega) (hJ.N (by omega)) (show iN J + 1 = 1 by omega) (by omega) rfl
  · have f1 := c1.flt X (by omega) k
    have en : fX5_readNumber (movC T n Mc (j + 1)) 9 = okI (fltC (movC T n Mc (j + 1)) k (ps T n (j + 1))) w := by
      unfold fX5_readNumber
      rw [e3, bI_ok, if_neg (f1.f hk)]
    have g9 : gi (fltC (movC T n Mc (j + 1)) k (ps T n (j + 1))) D 11 = nI (iN J) := (fltC_D (by omega)).trans c1.2.2.2.1.1.2.2.1
    have f2 : CX T n z D C0 (si (si (fltC (movC T n Mc (j + 1)) k (ps T n (j + 1))) (D + 7) (iN J) w) D 11 (nI (iN J + 1))) k (ps T n (j + 1)) := (f1.w hD (by omega)).w hD (by omega)
    rw [en, bI_ok, c_addN hD g9 (by omega), bV_ok, hf', c_35F (f2.f hk), bV_ok, e4, bI_ok, if_neg (fltR_f hk), bV_ok]
    exact Or.inr ⟨_, _, k, _, rfl, rfl, f2, hr.flt k _, hk⟩
end

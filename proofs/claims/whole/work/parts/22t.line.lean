-- ===== both sides read a line =====
def fl5 (x1 x2 x3 x4 x5 : Bool) : Nat := x1.toNat + 2 * x2.toNat + 4 * x3.toNat + 8 * x4.toNat + 16 * x5.toNat
theorem fl_1 : ∀ x1 x2 x3 x4 x5 : Bool, ((1 : Int32) &&& nI (fl5 x1 x2 x3 x4 x5) = 0 ↔ x1 = false) ∧ nI (fl5 x1 x2 x3 x4 x5) ||| 1 = nI (fl5 true x2 x3 x4 x5) := by decide
theorem fl_2 : ∀ x1 x2 x3 x4 x5 : Bool, ((2 : Int32) &&& nI (fl5 x1 x2 x3 x4 x5) = 0 ↔ x2 = false) ∧ nI (fl5 x1 x2 x3 x4 x5) ||| 2 = nI (fl5 x1 true x3 x4 x5) := by decide
theorem fl_4 : ∀ x1 x2 x3 x4 x5 : Bool, ((4 : Int32) &&& nI (fl5 x1 x2 x3 x4 x5) = 0 ↔ x3 = false) ∧ nI (fl5 x1 x2 x3 x4 x5) ||| 4 = nI (fl5 x1 x2 true x4 x5) := by decide
theorem fl_8 : ∀ x1 x2 x3 x4 x5 : Bool, ((8 : Int32) &&& nI (fl5 x1 x2 x3 x4 x5) = 0 ↔ x4 = false) ∧ nI (fl5 x1 x2 x3 x4 x5) ||| 8 = nI (fl5 x1 x2 x3 true x5) := by decide
theorem fl_16 : ∀ x1 x2 x3 x4 x5 : Bool, ((16 : Int32) &&& nI (fl5 x1 x2 x3 x4 x5) = 0 ↔ x5 = false) ∧ nI (fl5 x1 x2 x3 x4 x5) ||| 16 = nI (fl5 x1 x2 x3 x4 true) := by decide
theorem fl_0 : ∀ x1 x2 x3 x4 x5 : Bool, (0 : Int32) &&& nI (fl5 x1 x2 x3 x4 x5) = 0 ∧ nI (fl5 x1 x2 x3 x4 x5) ||| 0 = nI (fl5 x1 x2 x3 x4 x5) := by decide
section
variable {T : Nat → Nat} {n z D : Nat} {C0 R0 M Mc Mr : Mem} {j : Nat} {J : IS} {mx my : Nat} {b1 b3 : Bool}
theorem fl_is : fl J b1 b3 = fl5 b1 (decide (0 < iN J)) b3 (decide (iW J ≠ [])) (decide (iY J ≠ [])) := rfl
/-- a whole line is read -/
def LnO (T : Nat → Nat) (n z D : Nat) (C0 R0 : Mem) (j : Nat) (cr rr : RS) : Prop :=
  (∃ Mc Mr j' J mx my b1 b3, cr = okV Mc ∧ rr = okI Mr (nI (fl J b1 b3)) ∧ CL T n D C0 Mc j' J mx my b1 b3 ∧ RLn T n R0 Mr j' J mx my ∧ j < j' ∧ j' ≤ z ∧ JOk J) ∨
  ∃ Mc Mr k p w, cr = okV Mc ∧ rr = okI Mr w ∧ CX T n z D C0 Mc k p ∧ RX R0 Mr k p ∧ 1 ≤ k ∧ k ≤ 5
theorem line_end (X : LX T n z D C0 R0) {tt : Nat} {x1 x2 : Int32} (hx : x1 ||| x2 = nI tt) {cr rr : RS} (h : LOut T n z D C0 R0 j tt (fun M1 => fX5_readLine_b163 M1) (fun M => fX12_readLine_b226 M x1 x2) cr rr) : LnO T n z D C0 R0 j cr rr := by
  rcases h with ⟨Mc, Mr, j', J, mx, my, b1, b3, rfl, rfl, hc, hr, q1, q2, hJ, ht⟩ | ⟨Mc, Mr, k, p, rfl, rfl, fc, fr, hk⟩
  · have slt := sy_lt (T := T) (n := n) (s := ps T n j')
    have mk := r_mkd (c := 59) (C := 59) rfl (by decide) X.1.1 X.1.2.1 (hr.1.tx X) hr.2.1.1 hr.2.1.2
    unfold fX5_readLine_b163 fX12_readLine_b226 fX5_readSign fX5_readSign_b13 fX12_mark fX12_mark_b20
    dsimp only
    rw [hc.2.2.1.2.1, if_pos hr.2.1.2, mk, bI_ok]
    by_cases c : syA T n (ps T n j') = 59
    · have hj1 := j_lt X.1.2.2.2 q2 (by omega)
      obtain ⟨Mr1, e1, K, at1⟩ := advR X.1 (hr.1.tx X) hr.2.1
      rw [if_pos (eqL 59 c), if_pos hc.2.2.1.2.2, advC (hc.1.tk X) X.1 hc.2.2.1 hj1, bV_ok, bV_ok, if_pos c, if_neg n10, if_pos hr.2.1.2, e1, bV_ok, bV_ok, hx, ← ht]
      exact Or.inl ⟨_, _, j' + 1, J, mx, my, b1, b3, rfl, rfl, hc.mov X (j' + 1), hr.kr K at1, by omega, by omega, hJ⟩
    · have f1 := hc.flt X (by omega) 1
      rw [if_neg (neL 59 c (by omega) (by decide)), fusC (hc.1.tk X) X.1 hc.2.2.1 q2 (k := 1) (K := 1) rfl, bV_ok, if_neg (fltC_f (by decide)), bV_ok, if_neg c, if_pos rfl, wrR hr.2.1 (k := 1) (K := 1) rfl, bV_ok, if_neg (fltR_f (by decide)), bV_ok]
      exact Or.inr ⟨_, _, 1, _, _, rfl, rfl, f1, hr.flt 1 _, by decide⟩
  · unfold fX5_readLine_b163 fX12_readLine_b226
    dsimp only
    rw [c_sgnF (fc.f hk), bV_ok, r_mkF (fr.f hk), bV_ok]
    exact Or.inr ⟨_, _, k, p, _, rfl, rfl, fc, fr, hk⟩
theorem RX.sb {k p : Nat} (h : RX R0 M k p) {v : Bool} : RX R0 (sb M 5 v) k p := ⟨⟨h.1.1, h.1.2.1, fun i hi => by rw [gb_sb, if_neg hi]; exact h.1.2.2.1 i hi, h.1.2.2.2⟩, h.2⟩
theorem RX.m {k p : Nat} (h : RX R0 M k p) {v : Int32} : RX R0 (si M 87 26 v) k p := ⟨h.1.m (by omega), by rw [gi_si_k (by decide)]; exact h.2.1, by rw [gi_si_k (by decide)]; exact h.2.2⟩
theorem r_99F {k p : Nat} (hk : 1 ≤ k ∧ k ≤ 5) (f : RX R0 M k p) {x1 x2 : Int32} (hx : x2 = 1 ∨ x2 = 2 ∨ x2 = 4 ∨ x2 = 8 ∨ x2 = 16) : ∃ M', fX12_readLine_b99 M x1 x2 = fX12_readLine_b226 M' x1 x2 ∧ RX R0 M' k p := by
  have f0 := f.f hk
  have rule : ∀ x : Int32, (x = 0 ∨ x = 1) → ∃ M', fX12_sayRule M x = okV M' ∧ RX R0 M' k p := by
    intro x hx
    unfold fX12_sayRule fX12_sayRule_b21
    rcases hx with rfl | rfl
    · have f1 := (f.m (v := 0)).sb (v := vaB 88)
      rw [chk_tt (by decide), wr_eq, if_pos rfl, wr_eq, r_exF (by decide) (f1.f hk), bV_ok]
      exact ⟨_, rfl, f1⟩
    · have f1 := (f.m (v := 1)).sb (v := vaB 89)
      rw [chk_tt (by decide), wr_eq, if_neg n10, wr_eq, r_exF (by decide) (f1.f hk), bV_ok]
      exact ⟨_, rfl, f1⟩
  unfold fX12_readLine_b99 fX12_readLine_b181
  rcases hx with rfl | rfl | rfl | rfl | rfl
  · have f1 := f.w (a := 90) (i := 12) (v := 0) (by decide) (by decide)
    rw [if_pos rfl, r_numF f0, bI_ok, wr_eq, r_numF (f1.f hk), bI_ok, wr_eq]
    exact ⟨_, rfl, f1.w (by decide) (by decide)⟩
  · obtain ⟨f', hf'⟩ := FU_s
    have e : fX12_sayRain M = okV M := by
      unfold fX12_sayRain
      rw [hf', fX12_sayRain_b2]
      dsimp only
      rw [if_neg f0]
    rw [if_neg (show ¬ (2 : Int32) = 1 by decide), if_pos rfl, e, bV_ok]
    exact ⟨_, rfl, f⟩
  · rw [if_neg (show ¬ (4 : Int32) = 1 by decide), if_neg (show ¬ (4 : Int32) = 2 by decide), if_pos rfl, r_numF f0, bI_ok, wr_eq]
    exact ⟨_, rfl, f.w (by decide) (by decide)⟩
  · obtain ⟨M', e, f'⟩ := rule 0 (Or.inl rfl)
    rw [if_neg (show ¬ (8 : Int32) = 1 by decide), if_neg (show ¬ (8 : Int32) = 2 by decide), if_neg (show ¬ (8 : Int32) = 4 by decide), if_neg (show ¬ (8 : Int32) = 16 by decide), e, bV_ok]
    exact ⟨_, rfl, f'⟩
  · obtain ⟨M', e, f'⟩ := rule 1 (Or.inr rfl)
    rw [if_neg (show ¬ (16 : Int32) = 1 by decide), if_neg (show ¬ (16 : Int32) = 2 by decide), if_neg (show ¬ (16 : Int32) = 4 by decide), if_pos rfl, e, bV_ok]
    exact ⟨_, rfl, f'⟩
theorem r_disp (X : LX T n z D C0 R0) (hr : RLn T n R0 Mr j J mx my) (x1 : Int32) : fX12_readLine Mr x1 = fX12_readLine_b72 Mr x1 (if syA T n (ps T n j) = 130 then 1 else if syA T n (ps T n j) = 145 then 2 else if syA T n (ps T n j) = 131 then 4 else if syA T n (ps T n j) = 132 then 8 else if syA T n (ps T n j) = 133 then 16 else 0) := by
  have is : ∀ k, k < 16 → fX12_is k Mr = okI Mr (if syA T n (ps T n j) = wcd (some k) then 1 else 0) := fun k hk => r_isw hk (ps_le j) X.1.1 (hr.1.tx X) hr.2.1.1 hr.2.1.2
  have w9 : wcd (some 9) = 130 := rfl
  have w5 : wcd (some 5) = 145 := rfl
  have w10 : wcd (some 10) = 131 := rfl
  have w11 : wcd (some 11) = 132 := rfl
  have w12 : wcd (some 12) = 133 := rfl
  unfold fX12_readLine
  rw [is 9 (by decide), bI_ok, is 5 (by decide), bI_ok, is 10 (by decide), bI_ok, is 11 (by decide), bI_ok, is 12 (by decide), bI_ok, w9, w5, w10, w11, w12]
  by_cases a1 : syA T n (ps T n j) = 130
  · rw [if_pos a1, if_pos a1, if_neg n10]
  · rw [if_neg a1, if_neg a1, if_pos rfl]
    by_cases a2 : syA T n (ps T n j) = 145
    · rw [if_pos a2, if_pos a2, if_neg n10]
    · rw [if_neg a2, if_neg a2, if_pos rfl]
      by_cases a3 : syA T n (ps T n j) = 131
      · rw [if_pos a3, if_pos a3, if_neg n10]
      · rw [if_neg a3, if_neg a3, if_pos rfl]
        by_cases a4 : syA T n (ps T n j) = 132
        · rw [if_pos a4, if_pos a4, if_neg n10]
        · rw [if_neg a4, if_neg a4, if_pos rfl]
          by_cases a5 : syA T n (ps T n j) = 133
          · rw [if_pos a5, if_pos a5, if_neg n10]
          · rw [if_neg a5, if_neg a5, if_pos rfl]
/-- told twice -/
theorem twice (X : LX T n z D C0 R0) (hc : CL T n D C0 Mc j J mx my b1 b3) (hr : RLn T n R0 Mr j J mx my) (hj : j ≤ z) {x1 x2 : Int32} (hx : x2 = 1 ∨ x2 = 2 ∨ x2 = 4 ∨ x2 = 8 ∨ x2 = 16) (hb : ¬ x2 &&& x1 = 0) (tt : Nat) {cr : RS} (ecr : cr = fX5_readLine_b163 (fltC Mc 5 (ps T n j))) : LOut T n z D C0 R0 j tt (fun M1 => fX5_readLine_b163 M1) (fun M => fX12_readLine_b226 M x1 x2) cr (fX12_readLine_b72 Mr x1 x2) := by
  obtain ⟨M', e, f⟩ := r_99F (x1 := x1) (x2 := x2) (by decide) (hr.flt 5 (ps T n j)) hx
  have hp : 0 < x2 := by rcases hx with rfl | rfl | rfl | rfl | rfl <;> decide
  unfold fX12_readLine_b72 fX12_readLine_b84
  rw [if_neg hb, wrR hr.2.1 (k := 5) (K := 5) rfl, bV_ok, if_pos hp, if_neg (fltR_f (by decide)), e, ecr]
  exact Or.inr ⟨_, _, 5, _, rfl, rfl, hc.flt X (by omega) 5, f, by decide⟩
theorem r_once (X : LX T n z D C0 R0) (hr : RLn T n R0 Mr j J mx my) {x1 x2 : Int32} (hp : 0 < x2) (hb : x2 &&& x1 = 0) : ∃ Mr1, RLn T n R0 Mr1 (j + 1) J mx my ∧ fX12_readLine_b72 Mr x1 x2 = fX12_readLine_b99 Mr1 x1 x2 := by
  obtain ⟨Mr1, e1, K, at1⟩ := advR X.1 (hr.1.tx X) hr.2.1
  refine ⟨Mr1, hr.kr K at1, ?_⟩
  unfold fX12_readLine_b72 fX12_readLine_b84
  rw [if_pos hb, if_pos hp, if_pos hr.2.1.2, e1, bV_ok]
theorem line_both (X : LX T n z D C0 R0) (hc : CL T n D C0 Mc j J mx my b1 b3) (hr : RLn T n R0 Mr j J mx my) (hj : j < z) (hJ : JOk J) : LnO T n z D C0 R0 j (fX5_readLine Mc) (fX12_readLine Mr (nI (fl J b1 b3))) := by
  have hD := X.2.2.2.1
  have slt := sy_lt (T := T) (n := n) (s := ps T n j)
  obtain ⟨y, hy⟩ : ∃ y, y = syA T n (ps T n j) := ⟨_, rfl⟩
  have c5 : gi Mc 17 5 = nI y := by rw [hy]; exact hc.2.2.1.2.1
  have is : ∀ k, k < 16 → fX12_is k Mr = okI Mr (if y = wcd (some k) then 1 else 0) := fun k hk => by rw [hy]; exact r_isw hk (ps_le j) X.1.1 (hr.1.tx X) hr.2.1.1 hr.2.1.2
  have w7 : wcd (some 7) = 128 := rfl
  have w8 : wcd (some 8) = 129 := rfl
  rw [r_disp X hr, ← hy]
  rw [← hy] at slt
  unfold fX5_readLine
  rw [c5]
  have no : y ≠ 130 → y ≠ 145 → y ≠ 131 → y ≠ 132 → y ≠ 133 → fX12_readLine_b72 Mr (nI (fl J b1 b3)) (if y = 130 then 1 else if y = 145 then 2 else if y = 131 then 4 else if y = 132 then 8 else if y = 133 then 16 else 0) = bI (fX12_is 7 Mr) (fun M13 v14 => if v14 = 0 then bI (fX12_is 8 M13) (fun M15 v16 => if v16 = 0 then bV (fX12_wrong M15 1) (fun M17 => fX12_readLine_b226 M17 (nI (fl J b1 b3)) 0) else bV (fX12_sayPlot M15) (fun M19 => fX12_readLine_b226 M19 (nI (fl J b1 b3)) 0)) else bV (fX12_sayHouse M13) (fun M21 => fX12_readLine_b226 M21 (nI (fl J b1 b3)) 0)) := by
    intro a1 a2 a3 a4 a5
    rw [if_neg a1, if_neg a2, if_neg a3, if_neg a4, if_neg a5]
    unfold fX12_readLine_b72 fX12_readLine_b84
    rw [fl_is, if_pos (fl_0 _ _ _ _ _).1, if_neg (show ¬ (0 : Int32) < 0 by decide)]
  have e0 : nI (fl J b1 b3) ||| 0 = nI (fl J b1 b3) := by rw [fl_is]; exact (fl_0 _ _ _ _ _).2
  by_cases a7 : y = 128
  · rw [if_pos (eqL 128 a7), no (by omega) (by omega) (by omega) (by omega) (by omega), is 7 (by decide), bI_ok, w7, if_pos a7, if_neg n10]
    exact line_end X e0 (house_both X hc hr hj hJ (fun M1 => fX5_readLine_b163 M1) (fun M => fX12_readLine_b226 M (nI (fl J b1 b3)) 0))
  · rw [if_neg (neL 128 a7 (by omega) (by decide))]
    by_cases a8 : y = 129
    · rw [if_pos (eqL 129 a8), no (by omega) (by omega) (by omega) (by omega) (by omega), is 7 (by decide), bI_ok, w7, if_neg a7, if_pos rfl, is 8 (by decide), bI_ok, w8, if_pos a8, if_neg n10]
      exact line_end X e0 (plot_both X hc hr hj hJ (fun M1 => fX5_readLine_b163 M1) (fun M => fX12_readLine_b226 M (nI (fl J b1 b3)) 0))
    · rw [if_neg (neL 129 a8 (by omega) (by decide))]
      by_cases a1 : y = 130
      · have bit := fl_1 b1 (decide (0 < iN J)) b3 (decide (iW J ≠ [])) (decide (iY J ≠ []))
        rw [if_pos (eqL 130 a1), if_pos a1]
        cases b1 with
        | false =>
          obtain ⟨Mr1, h1, e1⟩ := r_once X hr (x1 := nI (fl J false b3)) (x2 := 1) (by decide) (bit.1.mpr rfl)
          rw [e1]
          unfold fX12_readLine_b99
          rw [if_pos rfl]
          exact line_end X bit.2 (market_both X hc h1 hj hJ (fun M1 => fX5_readLine_b163 M1) (fun M => fX12_readLine_b226 M (nI (fl J false b3)) 1))
        | true =>
          refine line_end X bit.2 (twice X hc hr (by omega) (by decide) (fun z => by cases bit.1.mp z) _ ?_)
          unfold fX5_readMarket
          rw [hc.1.is X, hc.2.2.2.2.2.2.1, if_neg (show ¬ b01 true = 0 by decide), fusC (hc.1.tk X) X.1 hc.2.2.1 (by omega) (k := 5) (K := 5) rfl, bV_ok, bV_ok]
      · rw [if_neg (neL 130 a1 (by omega) (by decide)), if_neg a1]
        rw [if_neg a1] at no
        by_cases a3 : y = 131
        · have bit := fl_4 b1 (decide (0 < iN J)) b3 (decide (iW J ≠ [])) (decide (iY J ≠ []))
          rw [if_pos (eqL 131 a3), if_neg (show ¬ y = 145 by omega), if_pos a3]
          cases b3 with
          | false =>
            obtain ⟨Mr1, h1, e1⟩ := r_once X hr (x1 := nI (fl J b1 false)) (x2 := 4) (by decide) (bit.1.mpr rfl)
            rw [e1]
            unfold fX12_readLine_b99
            rw [if_neg (show ¬ (4 : Int32) = 1 by decide), if_neg (show ¬ (4 : Int32) = 2 by decide), if_pos rfl]
            exact line_end X bit.2 (eats_both X hc h1 hj hJ (fun M1 => fX5_readLine_b163 M1) (fun M => fX12_readLine_b226 M (nI (fl J b1 false)) 4))
          | true =>
            refine line_end X bit.2 (twice X hc hr (by omega) (by decide) (fun z => by cases bit.1.mp z) _ ?_)
            unfold fX5_readEats
            rw [hc.1.is X, hc.2.2.2.2.2.2.2, if_neg (show ¬ b01 true = 0 by decide), fusC (hc.1.tk X) X.1 hc.2.2.1 (by omega) (k := 5) (K := 5) rfl, bV_ok, bV_ok]
        · rw [if_neg (neL 131 a3 (by omega) (by decide))]
          by_cases a4 : y = 132
          · have bit := fl_8 b1 (decide (0 < iN J)) b3 (decide (iW J ≠ [])) (decide (iY J ≠ []))
            rw [if_pos (eqL 132 a4), if_neg (show ¬ y = 145 by omega), if_neg a3, if_pos a4, hc.1.is X]
            by_cases hW : iW J = []
            · obtain ⟨Mr1, h1, e1⟩ := r_once X hr (x1 := nI (fl J b1 b3)) (x2 := 8) (by decide) (bit.1.mpr (decide_eq_false (fun z => z hW)))
              rw [e1]
              unfold fX12_readLine_b99 fX12_readLine_b181
              rw [if_neg (show ¬ (8 : Int32) = 1 by decide), if_neg (show ¬ (8 : Int32) = 2 by decide), if_neg (show ¬ (8 : Int32) = 4 by decide), if_neg (show ¬ (8 : Int32) = 16 by decide)]
              exact line_end X bit.2 (worth_both X hc h1 hj hJ hW (fun M1 => fX5_readLine_b163 M1) (fun M => fX12_readLine_b226 M (nI (fl J b1 b3)) 8))
            · have hl := hJ.1.2.1.1
              have hpos : 0 < (iW J).length := List.length_pos_iff.mpr hW
              refine line_end X bit.2 (twice X hc hr (by omega) (by decide) (fun z => absurd (of_decide_eq_false (bit.1.mp z)) (fun q => q hW)) _ ?_)
              unfold fX5_readRule fX6_isTold
              rw [hc.2.2.2.1.2.2.2.2.1.1, if_pos (gtL 0 hpos (by omega)), bI_ok, if_neg n10, fusC (hc.1.tk X) X.1 hc.2.2.1 (by omega) (k := 5) (K := 5) rfl, bV_ok, bV_ok]
          · rw [if_neg (neL 132 a4 (by omega) (by decide))]
            by_cases a5 : y = 133
            · have bit := fl_16 b1 (decide (0 < iN J)) b3 (decide (iW J ≠ [])) (decide (iY J ≠ []))
              rw [if_pos (eqL 133 a5), if_neg (show ¬ y = 145 by omega), if_neg a3, if_neg a4, if_pos a5, hc.1.is X]
              by_cases hY : iY J = []
              · obtain ⟨Mr1, h1, e1⟩ := r_once X hr (x1 := nI (fl J b1 b3)) (x2 := 16) (by decide) (bit.1.mpr (decide_eq_false (fun z => z hY)))
                rw [e1]
                unfold fX12_readLine_b99 fX12_readLine_b181
                rw [if_neg (show ¬ (16 : Int32) = 1 by decide), if_neg (show ¬ (16 : Int32) = 2 by decide), if_neg (show ¬ (16 : Int32) = 4 by decide), if_pos rfl]
                exact line_end X bit.2 (yields_both X hc h1 hj hJ hY (fun M1 => fX5_readLine_b163 M1) (fun M => fX12_readLine_b226 M (nI (fl J b1 b3)) 16))
              · have hl := hJ.1.2.1.2
                have hpos : 0 < (iY J).length := List.length_pos_iff.mpr hY
                refine line_end X bit.2 (twice X hc hr (by omega) (by decide) (fun z => absurd (of_decide_eq_false (bit.1.mp z)) (fun q => q hY)) _ ?_)
                unfold fX5_readRule fX6_isTold
                rw [hc.2.2.2.1.2.2.2.2.2.1, if_pos (gtL 0 hpos (by omega)), bI_ok, if_neg n10, fusC (hc.1.tk X) X.1 hc.2.2.1 (by omega) (k := 5) (K := 5) rfl, bV_ok, bV_ok]
            · rw [if_neg (neL 133 a5 (by omega) (by decide))]
              by_cases a2 : y = 145
              · have bit := fl_2 b1 (decide (0 < iN J)) b3 (decide (iW J ≠ [])) (decide (iY J ≠ []))
                rw [if_pos (eqL 145 a2), if_pos a2]
                by_cases hN : iN J = 0
                · obtain ⟨Mr1, h1, e1⟩ := r_once X hr (x1 := nI (fl J b1 b3)) (x2 := 2) (by decide) (bit.1.mpr (decide_eq_false (by omega)))
                  rw [e1]
                  unfold fX12_readLine_b99
                  rw [if_neg (show ¬ (2 : Int32) = 1 by decide), if_pos rfl]
                  exact line_end X bit.2 (rain_both X hc h1 hj hJ hN (fun M1 => fX5_readLine_b163 M1) (fun M => fX12_readLine_b226 M (nI (fl J b1 b3)) 2))
                · have hl := hJ.1.1.2.2
                  refine line_end X bit.2 (twice X hc hr (by omega) (by decide) (fun z => absurd (of_decide_eq_false (bit.1.mp z)) (fun q => q (by omega))) _ ?_)
                  unfold fX5_readRain
                  rw [hc.1.is X, hc.2.2.2.1.1.2.2.1, if_pos (gtL 0 (show 0 < iN J by omega) (by omega)), fusC (hc.1.tk X) X.1 hc.2.2.1 (by omega) (k := 5) (K := 5) rfl, bV_ok, bV_ok]
              · rw [if_neg (neL 145 a2 (by omega) (by decide)), fusC (hc.1.tk X) X.1 hc.2.2.1 (by omega) (k := 1) (K := 1) rfl, bV_ok, no a1 a2 a3 a4 a5, is 7 (by decide), bI_ok, w7, if_neg a7, if_pos rfl, is 8 (by decide), bI_ok, w8, if_neg a8, if_pos rfl, wrR hr.2.1 (k := 1) (K := 1) rfl, bV_ok]
                exact line_end (tt := fl J b1 b3) X e0 (Or.inr ⟨_, _, 1, _, rfl, rfl, hc.flt X (by omega) 1, hr.flt 1 _, by decide⟩)
end

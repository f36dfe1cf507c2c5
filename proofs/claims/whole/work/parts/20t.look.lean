-- ===== whom to look at next; a game =====
set_option maxRecDepth 20000 in
theorem abs_sym : ∀ a, a < 100 → ∀ b, b < 100 → absI (nI a - nI b) = absI (nI b - nI a) ∧ absI (nI a - nI b) = nI (if a < b then b - a else a - b) := by decide +kernel
def whatX (y : Int32) : Prop := y < 0 ∨ 1 < y
theorem what_c {y : Int32} (c : y < 0 ∨ 1 < y) : y < 0 ∨ ¬ y < 2 := by
  rcases c with a | a
  · exact Or.inl a
  · refine Or.inr (fun z => ?_)
    have h1 := Int32.lt_iff_toInt_lt.mp a
    have h2 := Int32.lt_iff_toInt_lt.mp z
    have h3 : (1 : Int32).toInt = 1 := by decide
    have h4 : (2 : Int32).toInt = 2 := by decide
    omega
theorem what_lt {y : Int32} (c : ¬ 1 < y) : y < 2 := by
  rw [Int32.lt_iff_toInt_lt] at c ⊢
  have h3 : (1 : Int32).toInt = 1 := by decide
  have h4 : (2 : Int32).toInt = 2 := by decide
  omega
def dfB (X : WX) (h yr : Nat) : Nat := (absI (cpB (xI X) (lS (xL X)) 0 h yr - cpB (xI X) (lS (xL X)) 1 h yr)).toNatClampNeg
theorem dfB_is (X : WX) (h yr : Nat) : absI (cpB (xI X) (lS (xL X)) 0 h yr - cpB (xI X) (lS (xL X)) 1 h yr) = nI (dfB X h yr) ∧ absI (cpB (xI X) (lS (xL X)) 1 h yr - cpB (xI X) (lS (xL X)) 0 h yr) = nI (dfB X h yr) ∧ dfB X h yr < 1000 := by
  obtain ⟨a, ha, ea⟩ := cpB_is (xI X) (lS (xL X)) 0 h yr
  obtain ⟨b, hb, eb⟩ := cpB_is (xI X) (lS (xL X)) 1 h yr
  obtain ⟨s1, s2⟩ := abs_sym a (by omega) b (by omega)
  unfold dfB
  rw [ea, eb, ← s1, s2]
  have hl : (if a < b then b - a else a - b) < 1000 := by split <;> omega
  rw [nI_clamp (show (if a < b then b - a else a - b) < 2 ^ 31 by omega)]
  exact ⟨rfl, rfl, hl⟩
def lkT (X : WX) (h yr : Nat) (a : Option Nat × Nat) : Option Nat × Nat := if a.2 < dfB X h yr then (some yr, dfB X h yr) else a
section
variable {X : WX}
theorem a_look (hX : WOk X) (x y : Int32) : Ag (fun M => fX11_look M x y) (fun M => fX12_look M x y) kA X := by
  have hk := hX.1
  have h8 := hk.1.1
  have hO := hX.2.2.1.1.1
  rcases h_cases x (iH (xI X)) (by omega) with ⟨h, hh, rfl⟩ | hx
  · by_cases cy : y < 0 ∨ 1 < y
    · exact Ag.x hX 1 (Or.inl rfl) (fun M h0 => by unfold fX11_look; rw [c_needH h0.1.1 hk hh, bV_ok, c_whatx (what_c cy), bV_x]) (fun M h0 => ⟨0, by
        unfold fX12_look fX12_look_b22
        rw [wr_eq, r_isH h0.z0.1 hk hh, bI_ok, if_neg n10, x1x]
        by_cases c : y < 0
        · rw [if_pos c]; rfl
        · rw [if_neg c, if_pos (cy.resolve_left c)]; rfl⟩)
    · obtain ⟨cy1, cy2⟩ := not_or.mp cy
      refine Ag.u hX (if y = 0 then shE (foldN (lkT X h) 100 0 (none, 0)).1 else nI (foldN (lkT X h) 100 0 (none, 0)).2) (fun M hM => ?_) (fun M hM => ?_)
      · obtain ⟨M', ⟨F', _⟩, e'⟩ := loopI (fun n M k (a : Option Nat × Nat) => fX11_look_b19 n M (nI h) y (shE a.1) (nI a.2) (nI k)) (fun k M' a => Fr scrC M M' ∧ a.2 < 1000) 100 (lkT X h) (fun M a => okI M (if y = 0 then shE a.1 else nI a.2))
          (by
            intro n M1 k a ⟨F1, ha⟩ hkk
            have hM1 := hM.q (scrQ_c F1)
            obtain ⟨M2, e2, F2⟩ := c_cropB (lot := 0) (yr := k) hM1.1.1 hk hM1.2.1.1 hO hh (Or.inl rfl) (by omega)
            have hM2 := hM1.q (scrQ_c F2)
            obtain ⟨M3, e3, F3⟩ := c_cropB (lot := 1) (yr := k) hM2.1.1 hk hM2.2.1.1 hO hh (Or.inr rfl) (by omega)
            have e2 : fX11_cropOfBrother M1 (nI h) 0 (nI k) = okI M2 (cpB (xI X) (lS (xL X)) 0 h k) := e2
            have e3 : fX11_cropOfBrother M2 (nI h) 1 (nI k) = okI M3 (cpB (xI X) (lS (xL X)) 1 h k) := e3
            obtain ⟨d1, _, d3⟩ := dfB_is X h k
            have d1 : (if 0 ≤ cpB (xI X) (lS (xL X)) 0 h k - cpB (xI X) (lS (xL X)) 1 h k then cpB (xI X) (lS (xL X)) 0 h k - cpB (xI X) (lS (xL X)) 1 h k else 0 - (cpB (xI X) (lS (xL X)) 0 h k - cpB (xI X) (lS (xL X)) 1 h k)) = nI (dfB X h k) := d1
            rw [fX11_look_b19]
            dsimp only
            unfold fX11_look_b62
            rw [if_neg (ngtL 99 (by omega) (by decide)), e2, bI_ok, e3, bI_ok, d1, nI_p1]
            unfold lkT
            by_cases c : a.2 < dfB X h k
            · rw [if_pos (nI_lt c (by omega)), if_pos c]
              exact ⟨M3, ⟨(F1.tr F2).tr F3, d3⟩, rfl⟩
            · rw [if_neg (nI_nlt (by omega) (by omega)), if_neg c]
              exact ⟨M3, ⟨(F1.tr F2).tr F3, ha⟩, rfl⟩)
          (by
            intro n M1 a _
            rw [fX11_look_b19]
            dsimp only
            rw [if_pos (gtL 99 (by decide) (by decide))]
            split <;> rfl)
          100 0 (by omega) FU (FU_gt (by omega)) M (none, 0) ⟨Fr.rf, (by decide : (0 : Nat) < 1000)⟩
        refine ⟨M', ?_, scrQ_c F'⟩
        show fX11_look M (nI h) y = _
        unfold fX11_look
        rw [c_needH hM.1.1 hk hh, bV_ok, c_what cy1 (what_lt cy2), bV_ok]
        exact e'
      · have R0 := hM.z0
        have D0 := R0.2.1.1
        obtain ⟨M', ⟨F', m', D', _⟩, e'⟩ := loopI (fun n M k (a : Option Nat × Nat) => fX12_look_b42 n M (nI h) y (nI (dL (lS (xL X)))) (shE a.1) (nI a.2) (nI k)) (fun k M' a => Fr [87, 106, 107] (si M 87 3 0) M' ∧ (∀ j, j ≠ 35 → gi M' 87 j = gi (si M 87 3 0) 87 j) ∧ DRf M' (lS (xL X)) ∧ a.2 < 1000) 100 (lkT X h) (fun M a => okI M (if y = 0 then shE a.1 else nI a.2))
          (by
            intro n M1 k a ⟨F1, m1, D1, ha⟩ hkk
            have hb := bitN_2 (dL (lS (xL X))) h
            have I1 := R0.1.fr F1 (by unfold apart; decide)
            obtain ⟨M2, e2, F2⟩ := r_ownB (yr := k) I1 hk D1 hO hh (by omega)
            obtain ⟨M3, hM3⟩ : ∃ M3, M3 = si M2 87 35 (nI (dL (lS (xL X)) ^^^ 2 ^ h)) := ⟨_, rfl⟩
            have F3 : Fr [87, 106, 107] (si M 87 3 0) M3 := by rw [hM3]; exact (F1.tr (F2.mono (by unfold scrR; decide))).wi (by decide)
            have m3 : ∀ j, j ≠ 35 → gi M3 87 j = gi (si M 87 3 0) 87 j := fun j hj => by rw [hM3, gi_si_k hj, F2.i (by decide)]; exact m1 j hj
            have D2 := D1.fr F2 apRd
            have D3 : DRf M3 (setLC (lS (xL X)) (dL (lS (xL X)) ^^^ 2 ^ h) (dC (lS (xL X)))) := by
              rw [hM3]
              exact ⟨LC_DR D2.1 gi_si_s ((gi_si_k (by decide)).trans D2.1.2.2.2.2.2.2) (fun j _ _ a _ => gi_si_k a), fun z j hj => by rw [gi_si_a (by decide)]; exact D2.2.1 z j hj, fun z j hj => by rw [gi_si_a (by decide)]; exact D2.2.2.1 z j hj, fun j hj => by rw [gi_si_a (by decide)]; exact D2.2.2.2 j hj⟩
            have O3 : DOk (xI X) (setLC (lS (xL X)) (dL (lS (xL X)) ^^^ 2 ^ h) (dC (lS (xL X)))) := LC_ok hO (xor_lt hO.1.1 (by omega))
            obtain ⟨M4, e4, F4⟩ := r_ownB (yr := k) (R0.1.fr F3 (by unfold apart; decide)) hk D3 O3 hh (by omega)
            rw [show dL (setLC (lS (xL X)) (dL (lS (xL X)) ^^^ 2 ^ h) (dC (lS (xL X)))) = dL (lS (xL X)) ^^^ 2 ^ h from rfl, bit_x hO.1.1 (by omega), show cpB (xI X) (setLC (lS (xL X)) (dL (lS (xL X)) ^^^ 2 ^ h) (dC (lS (xL X)))) (1 - bitN (dL (lS (xL X))) h) h k = cpB (xI X) (lS (xL X)) (1 - bitN (dL (lS (xL X))) h) h k from rfl] at e4
            have D4 := D3.fr F4 apRd
            obtain ⟨d1, d2, d3⟩ := dfB_is X h k
            have dd : (if 0 ≤ cpB (xI X) (lS (xL X)) (bitN (dL (lS (xL X))) h) h k - cpB (xI X) (lS (xL X)) (1 - bitN (dL (lS (xL X))) h) h k then cpB (xI X) (lS (xL X)) (bitN (dL (lS (xL X))) h) h k - cpB (xI X) (lS (xL X)) (1 - bitN (dL (lS (xL X))) h) h k else 0 - (cpB (xI X) (lS (xL X)) (bitN (dL (lS (xL X))) h) h k - cpB (xI X) (lS (xL X)) (1 - bitN (dL (lS (xL X))) h) h k)) = nI (dfB X h k) := by
              rcases hb with e | e
              · rw [e]; exact d1
              · rw [e]; exact d2
            rw [fX12_look_b42]
            dsimp only
            unfold fX12_look_b105
            rw [if_pos (ltL 100 hkk (by decide)), e2, bI_ok, wr_eq, or_bit h (by omega), nx_xor, ← hM3, e4, bI_ok, wr_eq, dd, nI_p1]
            have FF : Fr [87, 106, 107] (si M 87 3 0) (si M4 87 35 (nI (dL (lS (xL X))))) := (F3.tr (F4.mono (by unfold scrR; decide))).wi (by decide)
            have mm : ∀ j, j ≠ 35 → gi (si M4 87 35 (nI (dL (lS (xL X))))) 87 j = gi (si M 87 3 0) 87 j := fun j hj => by rw [gi_si_k hj, F4.i (by decide)]; exact m3 j hj
            have DD : DRf (si M4 87 35 (nI (dL (lS (xL X))))) (lS (xL X)) := ⟨⟨gi_si_s, (gi_si_k (by decide)).trans D4.1.2.1, (gi_si_k (by decide)).trans D4.1.2.2.1, (gi_si_k (by decide)).trans D4.1.2.2.2.1, (gi_si_k (by decide)).trans D4.1.2.2.2.2.1, (gi_si_k (by decide)).trans D4.1.2.2.2.2.2.1, (gi_si_k (by decide)).trans D4.1.2.2.2.2.2.2⟩, fun z j hj => by rw [gi_si_a (by decide)]; exact D4.2.1 z j hj, fun z j hj => by rw [gi_si_a (by decide)]; exact D4.2.2.1 z j hj, fun j hj => by rw [gi_si_a (by decide)]; exact D4.2.2.2 j hj⟩
            unfold lkT
            by_cases c : a.2 < dfB X h k
            · rw [if_pos (nI_lt c (by omega)), if_pos c]
              exact ⟨_, ⟨FF, mm, DD, d3⟩, rfl⟩
            · rw [if_neg (nI_nlt (by omega) (by omega)), if_neg c]
              exact ⟨_, ⟨FF, mm, DD, ha⟩, rfl⟩)
          (by
            intro n M1 a _
            rw [fX12_look_b42]
            dsimp only
            rw [if_neg (nltL 100 (by decide) (by decide))]
            split <;> rfl)
          100 0 (by omega) FU (FU_gt (by omega)) (si M 87 3 0) (none, 0) ⟨Fr.rf, fun _ _ => rfl, D0, (by decide : (0 : Nat) < 1000)⟩
        refine ⟨M', ?_, F'.mono (by unfold scrU; decide), fun k _ b _ => m' k (by omega), D', (m' 3 (by decide)).trans gi_si_s⟩
        show fX12_look M (nI h) y = _
        unfold fX12_look
        rw [wr_eq, r_isH R0.1 hk hh, bI_ok, if_neg n10, if_neg cy1, if_neg cy2, D0.1.1]
        exact e'
  · exact Ag.x hX 1 (Or.inl rfl) (fun M h => by unfold fX11_look; rw [c_needHx h.1.1 hx, bV_x]) (fun M h => ⟨0, by
      unfold fX12_look fX12_look_b22
      rw [wr_eq, r_isHx h.z0.1 hk hx, bI_ok, if_pos rfl, x1x]
      rfl⟩)
/-- what a has of a game over p against b, by what both choose -/
def gnS (I : IS) (S : DS) (a b p : Nat) (own oth : Bool) : Int64 := if own = false then ownW I S a 0 else if oth = false then (wrt I S a p).toInt64 else if strO I (bitN (dL S) b) b < strO I (bitN (dL S) a) a then (wrt I S a p).toInt64 - 5 else 0
theorem c_gain {M : Mem} (hM : CI M X) (hX : WOk X) {a b p : Nat} (ha : a < iH (xI X)) (hb : b < iH (xI X)) (hp : p < iP (xI X)) (own oth : Bool) : ∃ M', fX11_gain M (nI a) (nI b) (nI p) (bI32 own) (bI32 oth) = okL M' (gnS (xI X) (lS (xL X)) a b p own oth) ∧ Fr scrC M M' := by
  have hk := hX.1
  have hO := hX.2.2.1.1.1
  unfold fX11_gain gnS
  cases own with
  | false =>
    obtain ⟨M1, e1, F1⟩ := c_wos hM.1.1 hk hM.2.1.1 hO (by decide) ha 0
    rw [if_pos (show bI32 false = 0 from rfl), e1, bL_ok, if_pos rfl]
    exact ⟨M1, rfl, F1⟩
  | true =>
    obtain ⟨M1, e1, F1⟩ := c_worth hM.1.1 hk hM.2.1.1.1 hO.1.1 (by decide) ha hp
    rw [if_neg (show ¬ bI32 true = 0 by decide), e1, bI_ok, if_neg (show ¬ (true = false) by decide)]
    cases oth with
    | false =>
      rw [if_pos (show bI32 false = 0 from rfl), if_pos rfl]
      exact ⟨M1, rfl, F1⟩
    | true =>
      have hM1 := hM.q (scrQ_c F1)
      unfold fX11_gain_b87
      rw [if_neg (show ¬ bI32 true = 0 by decide), c_str hM1.1.1 hk hM1.2.1.1.1 hO.1.1 ha, bI_ok, c_str hM1.1.1 hk hM1.2.1.1.1 hO.1.1 hb, bI_ok, if_neg (show ¬ (true = false) by decide)]
      by_cases c : strO (xI X) (bitN (dL (lS (xL X))) b) b < strO (xI X) (bitN (dL (lS (xL X))) a) a
      · rw [if_pos c, if_pos c, if_neg n10]
        exact ⟨M1, rfl, F1⟩
      · rw [if_neg c, if_neg c, if_pos rfl]
        exact ⟨M1, rfl, F1⟩
theorem r_gain {M : Mem} (hM : RI M X) (hX : WOk X) {a b p : Nat} (ha : a < iH (xI X)) (hb : b < iH (xI X)) (hp : p < iP (xI X)) (own oth : Bool) : ∃ M', fX12_gain M (nI a) (nI b) (nI p) (bI32 own) (bI32 oth) = okL M' (gnS (xI X) (lS (xL X)) a b p own oth) ∧ Fr scrR M M' := by
  have hk := hX.1
  have h8 := hk.1.1
  have h9 := hk.1.2.1
  have hO := hX.2.2.1.1.1
  unfold fX12_gain gnS
  cases own with
  | false =>
    unfold ownW
    rw [if_pos (show bI32 false = 0 from rfl), if_pos rfl, chk_in (by omega) (by decide), ix_nI (by omega), hM.2.1.1.2.2.1 (hO.z (by omega)) a (by omega)]
    cases hq : dH (lS (xL X)) a with
    | none =>
      rw [if_pos (show shE none = -1 from rfl)]
      exact ⟨M, rfl, Fr.rf⟩
    | some q =>
      have hqi := hO.2.2.1 a q (by omega) hq
      obtain ⟨M1, e1, F1⟩ := r_worth hM.1 hk hM.2.1.1.1 hO.1.1 ha hqi
      rw [if_neg (sh_m1 (by omega)), chk_in (by omega) (by decide), show shE (some q) = nI q from rfl, e1, bI_ok]
      exact ⟨M1, rfl, F1⟩
  | true =>
    obtain ⟨M1, e1, F1⟩ := r_worth hM.1 hk hM.2.1.1.1 hO.1.1 ha hp
    rw [if_neg (show ¬ bI32 true = 0 by decide), if_neg (show ¬ (true = false) by decide)]
    cases oth with
    | false =>
      rw [if_pos (show bI32 false = 0 from rfl), if_pos rfl, e1, bI_ok]
      exact ⟨M1, rfl, F1⟩
    | true =>
      rw [if_neg (show ¬ bI32 true = 0 by decide), r_str hM.1 hk hM.2.1.1.1 hO.1.1 ha, bI_ok, r_str hM.1 hk hM.2.1.1.1 hO.1.1 hb, bI_ok, if_neg (show ¬ (true = false) by decide)]
      by_cases c : strO (xI X) (bitN (dL (lS (xL X))) b) b < strO (xI X) (bitN (dL (lS (xL X))) a) a
      · rw [if_pos c, if_pos c, e1, bI_ok]
        exact ⟨M1, rfl, F1⟩
      · rw [if_neg c, if_neg c]
        exact ⟨M, rfl, Fr.rf⟩
end

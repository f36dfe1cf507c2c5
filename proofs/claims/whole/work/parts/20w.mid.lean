-- ===== tribes of leftovers; the middle =====
def mxm (a b c : Int32) : Int32 := (if a < (if b < c then c else b) then (if b < c then c else b) else a) - (if (if c < b then c else b) < a then (if c < b then c else b) else a)
def mn3 (v4 v6 v8 : Int32) : Int32 := if (if v8 < v6 then v8 else v6) < v4 then (if v8 < v6 then v8 else v6) else v4
def spS (st : Nat → Int32) : Nat → Nat → Int32 → Int32 → Int32 → Int32
  | 0, _, a, b, c => mxm a b c
  | d + 1, h, a, b, c => mn3 (spS st d (h + 1) (a + st h) b c) (spS st d (h + 1) a (b + st h) c) (spS st d (h + 1) a b (c + st h))
theorem mn_eq (a b c : Int32) : (if c < (if b < (if a < 2147483647 then a else 2147483647) then b else (if a < 2147483647 then a else 2147483647)) then c else (if b < (if a < 2147483647 then a else 2147483647) then b else (if a < 2147483647 then a else 2147483647))) = mn3 a b c := by
  have hm : (2147483647 : Int32).toInt = 2147483647 := by decide
  have hmx : Int32.maxValue.toInt = 2147483647 := by decide
  have ha := Int32.toInt_le a
  rw [hmx] at ha
  have e : (if a < 2147483647 then a else 2147483647) = a := by
    by_cases h : a < 2147483647
    · rw [if_pos h]
    · rw [if_neg h]
      apply Int32.toInt_inj.mp
      rw [Int32.lt_iff_toInt_lt, hm] at h
      rw [hm]
      omega
  rw [e]
  unfold mn3
  by_cases h1 : c < b <;> by_cases h2 : b < a <;> by_cases h3 : c < a <;> simp only [h1, h2, h3, if_true, if_false]
  all_goals (rw [Int32.lt_iff_toInt_lt] at h1 h2 h3; first | omega | (apply Int32.toInt_inj.mp; omega))
section
variable {M : Mem} {X : WX}
theorem c_spread (hM : CI M X) (hX : WOk X) : ∀ d h, h + d = iH (xI X) → ∀ n, d < n → ∀ a b c, fX11_leastSpread n M (nI h) a b c = okI M (spS (fun h => strO (xI X) (bitN (dL (lS (xL X))) h) h) d h a b c) := by
  have hk := hX.1
  have h8 := hk.1.1
  have hO := hX.2.2.1.1.1
  intro d
  induction d with
  | zero =>
    intro h hh n hn a b c
    obtain ⟨m, rfl⟩ : ∃ m, n = m + 1 := ⟨n - 1, by omega⟩
    rw [fX11_leastSpread]
    dsimp only
    unfold fX11_leastSpreadF fX11_leastSpread_b20
    rw [hM.1.1.1.1, if_neg (nI_nlt (by omega) (by omega))]
    rfl
  | succ d ih =>
    intro h hh n hn a b c
    obtain ⟨m, rfl⟩ : ∃ m, n = m + 1 := ⟨n - 1, by omega⟩
    rw [fX11_leastSpread]
    dsimp only
    unfold fX11_leastSpreadF
    rw [hM.1.1.1.1, if_pos (nI_lt (by omega) (by omega)), if_pos (ltL 8 (by omega) (by decide)), c_str hM.1.1 hk hM.2.1.1.1 hO.1.1 (by omega), bI_ok, nI_p1, ih (h + 1) (by omega) m (by omega), bI_ok, ih (h + 1) (by omega) m (by omega), bI_ok, ih (h + 1) (by omega) m (by omega), bI_ok]
    rfl
theorem r_spread (hM : RI M X) (hX : WOk X) : ∀ d h, h + d = iH (xI X) → ∀ n, d < n → ∀ M1, Fr [110] M M1 → ∃ M2, fX12_spreadFrom n M1 (nI h) = okI M2 (spS (fun h => strO (xI X) (bitN (dL (lS (xL X))) h) h) d h (gi M1 110 0) (gi M1 110 1) (gi M1 110 2)) ∧ Fr [110] M M2 ∧ ∀ k, gi M2 110 k = gi M1 110 k := by
  have hk := hX.1
  have h8 := hk.1.1
  have hO := hX.2.2.1.1.1
  intro d
  induction d with
  | zero =>
    intro h hh n hn M1 F1
    obtain ⟨m, rfl⟩ : ∃ m, n = m + 1 := ⟨n - 1, by omega⟩
    rw [fX12_spreadFrom]
    dsimp only
    unfold fX12_spreadFromF
    rw [(hM.1.fr F1 (by unfold apart; decide)).1.1, if_pos (by rw [show h = iH (xI X) by omega])]
    exact ⟨M1, rfl, F1, fun _ => rfl⟩
  | succ d ih =>
    intro h hh n hn M1 F1
    obtain ⟨m, rfl⟩ : ∃ m, n = m + 1 := ⟨n - 1, by omega⟩
    have str : ∀ M', Fr [110] M M' → fX12_strengthOf M' (nI h) = okI M' (strO (xI X) (bitN (dL (lS (xL X))) h) h) := fun M' F => r_str (hM.1.fr F (by unfold apart; decide)) hk (hM.2.1.1.1.fr F (by decide)) hO.1.1 (by omega)
    -- one of the three
    have step : ∀ (M2 : Mem) (g f : Nat) (x2 : Int32), g < 3 → Fr [110] M M2 → ∃ M3 v, fX12_spreadFrom_b68 (fX12_spreadFrom m) (f + 1) M2 (nI h) x2 (nI g) = fX12_spreadFrom_b68 (fX12_spreadFrom m) f M3 (nI h) (if v < x2 then v else x2) (nI (g + 1)) ∧ Fr [110] M M3 ∧ (∀ k, gi M3 110 k = gi M2 110 k) ∧
        v = spS (fun h => strO (xI X) (bitN (dL (lS (xL X))) h) h) d (h + 1) (if 0 = g then gi M2 110 0 + strO (xI X) (bitN (dL (lS (xL X))) h) h else gi M2 110 0) (if 1 = g then gi M2 110 1 + strO (xI X) (bitN (dL (lS (xL X))) h) h else gi M2 110 1) (if 2 = g then gi M2 110 2 + strO (xI X) (bitN (dL (lS (xL X))) h) h else gi M2 110 2) := by
      intro M2 g f x2 hg F2
      obtain ⟨M3, hM3⟩ : ∃ M3, M3 = si M2 110 g (gi M2 110 g + strO (xI X) (bitN (dL (lS (xL X))) h) h) := ⟨_, rfl⟩
      have F3 : Fr [110] M M3 := by rw [hM3]; exact F2.wi (by decide)
      obtain ⟨M4, e4, F4, q4⟩ := ih (h + 1) (by omega) m (by omega) M3 F3
      have q3 : ∀ k, gi M3 110 k = if k = g then gi M2 110 k + strO (xI X) (bitN (dL (lS (xL X))) h) h else gi M2 110 k := fun k => by
        rw [hM3]
        by_cases e : k = g
        · rw [e, gi_si_s, if_pos rfl]
        · rw [gi_si_k e, if_neg e]
      rw [q3, q3, q3] at e4
      rw [fX12_spreadFrom_b68]
      dsimp only
      rw [if_pos (ltL 3 hg (by decide)), chk_in hg (by decide), str M2 F2, bI_ok, chk_in hg (by decide), ix_nI (by omega), wr_eq, ← hM3, nI_p1, e4, bI_ok, chk_in hg (by decide), str M4 F4, bI_ok, chk_in hg (by decide), wr_eq, q4, q3, if_pos rfl, Int32.add_sub_cancel, nI_p1]
      refine ⟨_, _, rfl, F4.wi (by decide), fun k => ?_, rfl⟩
      by_cases e : k = g
      · rw [e, gi_si_s]
      · rw [gi_si_k e, q4, q3, if_neg e]
    rw [fX12_spreadFrom]
    dsimp only
    unfold fX12_spreadFromF
    rw [(hM.1.fr F1 (by unfold apart; decide)).1.1, if_neg (c_lit (by omega) (by omega) (by omega)), show FU = 99996 + 1 + 1 + 1 + 1 from rfl]
    obtain ⟨M2, v2, e2, F2, q2, w2⟩ := step M1 0 (99996 + 1 + 1 + 1) 2147483647 (by decide) F1
    obtain ⟨M3, v3, e3, F3, q3, w3⟩ := step M2 1 (99996 + 1 + 1) (if v2 < 2147483647 then v2 else 2147483647) (by decide) F2
    obtain ⟨M4, v4, e4, F4, q4, w4⟩ := step M3 2 (99996 + 1) (if v3 < (if v2 < 2147483647 then v2 else 2147483647) then v3 else (if v2 < 2147483647 then v2 else 2147483647)) (by decide) F3
    have e2 : fX12_spreadFrom_b68 (fX12_spreadFrom m) (99996 + 1 + 1 + 1 + 1) M1 (nI h) 2147483647 0 = fX12_spreadFrom_b68 (fX12_spreadFrom m) (99996 + 1 + 1 + 1) M2 (nI h) (if v2 < 2147483647 then v2 else 2147483647) (nI 1) := e2
    rw [e2, e3, e4, fX12_spreadFrom_b68]
    dsimp only
    rw [if_neg (show ¬ nI (2 + 1) < 3 by decide), mn_eq]
    refine ⟨M4, ?_, F4, fun k => by rw [q4, q3, q2]⟩
    rw [w2, w3, w4, q3, q3, q3, q2, q2, q2]
    rfl
theorem a_tribes (hX : WOk X) : Ag (fun M => fX11_tribes M) (fun M => fX12_tribes M) k0 X := by
  have h8 := hX.1.1.1
  refine Ag.p hX (spS (fun h => strO (xI X) (bitN (dL (lS (xL X))) h) h) (iH (xI X)) 0 0 0 0) (fun M hM => ⟨M, ?_, Fr.rf⟩) (fun M hM => ?_)
  · show fX11_tribes M = _
    unfold fX11_tribes
    have := c_spread hM hX (iH (xI X)) 0 (by omega) FR (show iH (xI X) < 10 by omega) 0 0 0
    have this : fX11_leastSpread FR M 0 0 0 0 = okI M (spS (fun h => strO (xI X) (bitN (dL (lS (xL X))) h) h) (iH (xI X)) 0 0 0 0) := this
    rw [this, bI_ok]
  · have R0 := hM.z0
    obtain ⟨M1, ⟨F1, q1⟩, e1⟩ := loopI (fun n M k (_ : Nat) => fX12_tribes_b7 n M (nI k)) (fun k M' _ => Fr [110] (si M 87 3 0) M' ∧ ∀ j, j < k → gi M' 110 j = 0) 3 (fun _ a => a) (fun M _ => bI (fX12_spreadFrom FR M 0) (fun M2 v3 => some (M2, .inr (some (.int v3)))))
      (by
        intro n M1 k a ⟨F1, q1⟩ hk
        rw [fX12_tribes_b7]
        dsimp only
        rw [if_pos (ltL 3 hk (by decide)), chk_in hk (by decide), ix_nI (by omega), wr_eq, nI_p1]
        refine ⟨_, ⟨F1.wi (by decide), fun j hj => ?_⟩, rfl⟩
        by_cases e : j = k
        · rw [e]; exact gi_si_s
        · exact (gi_si_k e).trans (q1 j (by omega)))
      (by
        intro n M1 a _
        rw [fX12_tribes_b7]
        dsimp only
        rw [if_neg (nltL 3 (Nat.le_refl _) (by decide))])
      3 0 (by omega) FU (FU_gt (by omega)) (si M 87 3 0) 0 ⟨Fr.rf, fun j hj => by omega⟩
    obtain ⟨M2, e2, F2, _⟩ := r_spread R0 hX (iH (xI X)) 0 (by omega) FR (show iH (xI X) < 10 by omega) M1 F1
    rw [q1 0 (by decide), q1 1 (by decide), q1 2 (by decide)] at e2
    have e2 : fX12_spreadFrom FR M1 0 = okI M2 (spS (fun h => strO (xI X) (bitN (dL (lS (xL X))) h) h) (iH (xI X)) 0 0 0 0) := e2
    refine ⟨M2, ?_, F2.mono (by unfold scrP; decide)⟩
    show fX12_tribes M = _
    unfold fX12_tribes
    rw [wr_eq]
    refine e1.trans ?_
    rw [e2, bI_ok]
/-- the walks from (x, y) to all shares -/
def wkN (X : WX) (x y : Nat) : Nat := foldN (fun h a => a + match dH (lS (xL X)) h with
  | none => 0
  | some p => (wlk (xI X) (nI x) (nI y) p).toNatClampNeg) (iH (xI X)) 0 0
theorem wlk_is (hX : WOk X) {x y p : Nat} (hx : x ≤ 20) (hy : y ≤ 20) (hp : p < iP (xI X)) : wlk (xI X) (nI x) (nI y) p = nI (wlk (xI X) (nI x) (nI y) p).toNatClampNeg ∧ (wlk (xI X) (nI x) (nI y) p).toNatClampNeg ≤ 40 := by
  obtain ⟨a, b, ha, hb, ea, eb⟩ := hX.2.2.2.2.2 p hp
  have e : wlk (xI X) (nI x) (nI y) p = nI ((if a < x then x - a else a - x) + (if b < y then y - b else b - y)) := by
    unfold wlk
    rw [ea, eb, (abs_sym a (by omega) x (by omega)).2, (abs_sym b (by omega) y (by omega)).2, nadd]
  have hl : (if a < x then x - a else a - x) + (if b < y then y - b else b - y) ≤ 40 := by
    split <;> split <;> omega
  rw [e, nI_clamp (show (if a < x then x - a else a - x) + (if b < y then y - b else b - y) < 2 ^ 31 by omega)]
  exact ⟨rfl, hl⟩
theorem wkN_le (hX : WOk X) {x y : Nat} (hx : x ≤ 20) (hy : y ≤ 20) : wkN X x y < 1000 := by
  have h8 := hX.1.1.1
  have hO := hX.2.2.1.1.1
  have := foldN_inv (f := fun h a => a + match dH (lS (xL X)) h with
    | none => 0
    | some p => (wlk (xI X) (nI x) (nI y) p).toNatClampNeg) (fun k a => a ≤ 40 * k) (iH (xI X)) 0 0 (Nat.le_refl _) (by
      intro j a _ hj ha
      cases hp : dH (lS (xL X)) j with
      | none => dsimp only; show a + 0 ≤ _; omega
      | some p =>
        have := (wlk_is hX hx hy (hO.2.2.1 j p (by omega) hp)).2
        show a + (wlk (xI X) (nI x) (nI y) p).toNatClampNeg ≤ _
        omega)
  unfold wkN
  omega
theorem c_walks (hM : CI M X) (hX : WOk X) {x y : Nat} (hx : x ≤ 20) (hy : y ≤ 20) : fX3_walksToShares M (nI x) (nI y) = okI M (nI (wkN X x y)) := by
  have hk := hX.1
  have h8 := hk.1.1
  have hO := hX.2.2.1.1.1
  unfold fX3_walksToShares
  obtain ⟨M', hM', e'⟩ := loopI (fun n M k (a : Nat) => fX3_walksToShares_b6 n M (nI x) (nI y) (nI a) (nI k)) (fun _ M' _ => M' = M) (iH (xI X)) (fun h a => a + match dH (lS (xL X)) h with
      | none => 0
      | some p => (wlk (xI X) (nI x) (nI y) p).toNatClampNeg) (fun M a => okI M (nI a))
    (by
      intro n M1 k a hM1 hkk
      subst hM1
      rw [fX3_walksToShares_b6]
      dsimp only
      rw [hM.1.1.1.1, if_pos (nI_lt hkk (by omega)), chk_in (by omega) (by decide), ix_nI (by omega), show gi M1 41 k = shE (dH (lS (xL X)) k) from hM.2.1.1.2.2.1 (hO.z (by omega)) k (by omega)]
      cases hp : dH (lS (xL X)) k with
      | none =>
        unfold fX2_hasPlot fX3_walksToShares_b69
        rw [if_pos (show shE none < 0 by decide), bI_ok, if_pos rfl, nI_p1]
        exact ⟨M1, rfl, rfl⟩
      | some p =>
        have hpi := hO.2.2.1 k p (by omega) hp
        have h9 := hk.1.2.1
        rw [show shE (some p) = nI p from rfl, c_hasP hM.1.1 hk hpi, bI_ok, if_neg (by decide), chk_in (by omega) (by decide), chk_in (by omega) (by decide), ix_nI (by omega), (hM.1.1.2.2.1 p hpi).1, (hM.1.1.2.2.1 p hpi).2.1, w_wk, bI_ok]
        unfold fX3_walksToShares_b69
        rw [(wlk_is hX hx hy hpi).1, nadd, nI_p1]
        exact ⟨M1, rfl, rfl⟩)
    (by
      intro n M1 a hM1
      subst hM1
      rw [fX3_walksToShares_b6]
      dsimp only
      rw [hM.1.1.1.1, if_neg (nI_nlt (Nat.le_refl _) (by omega))])
    (iH (xI X)) 0 (by omega) FU (FU_gt (by omega)) M 0 rfl
  subst hM'
  exact e'
theorem r_walks (hM : RI M X) (hX : WOk X) {x y : Nat} (hx : x ≤ 20) (hy : y ≤ 20) : fX12_walksTo M (nI x) (nI y) = okI M (nI (wkN X x y)) := by
  have hk := hX.1
  have h8 := hk.1.1
  have h9 := hk.1.2.1
  have hO := hX.2.2.1.1.1
  unfold fX12_walksTo
  obtain ⟨M', hM', e'⟩ := loopI (fun n M k (a : Nat) => fX12_walksTo_b5 n M (nI x) (nI y) (nI a) (nI k)) (fun _ M' _ => M' = M) (iH (xI X)) (fun h a => a + match dH (lS (xL X)) h with
      | none => 0
      | some p => (wlk (xI X) (nI x) (nI y) p).toNatClampNeg) (fun M a => okI M (nI a))
    (by
      intro n M1 k a hM1 hkk
      subst hM1
      rw [fX12_walksTo_b5]
      dsimp only
      unfold fX12_walksTo_b67
      rw [hM.1.1.1, if_pos (nI_lt hkk (by omega)), chk_in (by omega) (by decide), ix_nI (by omega), hM.2.1.1.2.2.1 (hO.z (by omega)) k (by omega), nI_p1]
      cases hp : dH (lS (xL X)) k with
      | none =>
        rw [if_pos (show shE none = -1 from rfl), Int32.add_zero]
        exact ⟨M1, rfl, rfl⟩
      | some p =>
        have hpi := hO.2.2.1 k p (by omega) hp
        rw [if_neg (sh_m1 (by omega)), chk_in (by omega) (by decide), show shE (some p) = nI p from rfl, chk_in (by omega) (by decide), chk_in (by omega) (by decide), chk_in (by omega) (by decide), ix_nI (show p < 2 ^ 31 by omega), (hM.1.2.2.1 p hpi).1, (hM.1.2.2.1 p hpi).2.1]
        have e := (wlk_is hX hx hy hpi).1
        refine ⟨M1, rfl, ?_⟩
        show fX12_walksTo_b5 n M1 (nI x) (nI y) (nI a + wlk (xI X) (nI x) (nI y) p) (nI (k + 1)) = _
        rw [e, nadd] <;> rfl)
    (by
      intro n M1 a hM1
      subst hM1
      rw [fX12_walksTo_b5]
      dsimp only
      rw [hM.1.1.1, if_neg (nI_nlt (Nat.le_refl _) (by omega))])
    (iH (xI X)) 0 (by omega) FU (FU_gt (by omega)) M 0 rfl
  subst hM'
  exact e'
end

-- ===== what is asked of the state =====
theorem Ag.u {cf rf : Mem → RS} {kx : Nat → Int32} {X : WX} (hX : WOk X) (v : Int32) (hc : ∀ M, CI M X → ∃ M1, cf M = okI M1 v ∧ Fr scrQ M M1)
    (hr : ∀ M, RI M X → ∃ M2, rf M = okI M2 v ∧ Fr scrU (si M 87 3 0) M2 ∧ MU (si M 87 3 0) M2 ∧ DRf M2 (lS (xL X)) ∧ gi M2 87 3 = 0) : Ag cf rf kx X := by
  refine ⟨X, hX, Or.inl ⟨v, fun M h => ?_, fun M h => ?_⟩⟩
  · obtain ⟨M1, e1, F1⟩ := hc M h
    exact ⟨M1, e1, h.q F1, F1.C (by unfold scrQ; decide)⟩
  · obtain ⟨M2, e2, F2, m2, S2, z2⟩ := hr M h
    exact ⟨M2, e2, z2, h.z0.q F2 m2 S2, FrR.rf.z.tr (F2.R (by unfold scrU; decide))⟩
def scrP : List Nat := [106, 107, 108, 109, 110, 111]
theorem Ag.p {cf rf : Mem → RS} {kx : Nat → Int32} {X : WX} (hX : WOk X) (v : Int32) (hc : ∀ M, CI M X → ∃ M1, cf M = okI M1 v ∧ Fr scrQ M M1)
    (hr : ∀ M, RI M X → ∃ M2, rf M = okI M2 v ∧ Fr scrP (si M 87 3 0) M2) : Ag cf rf kx X := by
  refine Ag.u hX v hc (fun M h => ?_)
  obtain ⟨M2, e2, F2⟩ := hr M h
  exact ⟨M2, e2, F2.mono (by unfold scrP scrU; decide), fun k _ _ _ => F2.i (by decide) k, h.z0.2.1.1.fr F2 (by unfold apart; decide), (F2.i (by decide) _).trans gi_si_s⟩
theorem apP : apart scrP irCells := by unfold apart; decide
theorem scrQ_c {M M' : Mem} (h : Fr scrC M M') : Fr scrQ M M' := h.mono (by unfold scrC scrQ; decide)
theorem scrP_r {M M' : Mem} (h : Fr scrR M M') : Fr scrP M M' := h.mono (by unfold scrR scrP; decide)
theorem lft_bits {I : IS} {S : DS} (hk : IOk I) (hO : DOk I S) : ∀ q, q < iP I → (bitN (lftS I (dH S)) q = 1 ↔ freeP 8 (dH S) q = true) := by
  have h8 := hk.1.1
  have h9 := hk.1.2.1
  obtain ⟨ma1, ma2, ma3⟩ := m_all (iP I) h9
  have key := foldN_inv (f := fun h L => match dH S h with
    | none => L
    | some p => clr L p) (fun k (L : Nat) => L < 512 ∧ ∀ q, q < iP I → (bitN L q = 1 ↔ ∀ h, h < k → dH S h ≠ some q)) (iH I) 0 (2 ^ iP I - 1) ⟨ma2, fun q hq => by
      rw [ma3 q (by omega), if_pos hq]
      exact ⟨fun _ x hx => by omega, fun _ => rfl⟩⟩ (by
    intro k L _ hkk ⟨hL, hb⟩
    cases hp : dH S k with
    | none =>
      refine ⟨hL, fun q hq => ?_⟩
      rw [hb q hq]
      constructor
      · intro z x hx
        by_cases hxk : x = k
        · rw [hxk, hp]; intro c; cases c
        · exact z x (by omega)
      · intro z x hx; exact z x (by omega)
    | some p =>
      have hpi := hO.2.2.1 k p (by omega) hp
      refine ⟨Nat.lt_of_le_of_lt (clr_le L p) hL, fun q hq => ?_⟩
      show bitN (clr L p) q = 1 ↔ _
      rw [m_clrb L hL p (by omega) q (by omega)]
      by_cases hqp : q = p
      · rw [if_pos hqp]
        constructor
        · intro c; cases c
        · intro z; exact absurd (by rw [hp, hqp]) (z k (by omega))
      · rw [if_neg hqp, hb q hq]
        constructor
        · intro z x hx
          by_cases hxk : x = k
          · rw [hxk, hp]; intro c; cases c; exact hqp rfl
          · exact z x (by omega)
        · intro z x hx; exact z x (by omega))
  intro q hq
  refine (key.2 q hq).trans ?_
  rw [freeP_iff]
  constructor
  · intro z x hx
    by_cases hxi : x < iH I
    · exact z x (by omega)
    · rw [hO.2.2.2.1 x (by omega) hx]; intro c; cases c
  · intro z x hx; exact z x (by omega)
section
variable {X : WX}
theorem a_fault (hX : WOk X) : Ag (fun M => fX11_fault M) (fun M => fX12_fault M) k0 X := by
  refine Ag.p hX (xF X) (fun M h => ⟨M, ?_, Fr.rf⟩) (fun M h => ⟨si M 87 3 0, ?_, Fr.rf⟩)
  · show fX11_fault M = _
    unfold fX11_fault
    rw [h.2.2.2.2]
  · show fX12_fault M = _
    unfold fX12_fault
    rw [wr_eq, h.z0.2.2.2.2.1]
theorem a_free (hX : WOk X) : Ag (fun M => fX11_free M) (fun M => fX12_free M) k0 X := by
  have hk := hX.1
  have hO := hX.2.2.1.1.1
  have cl : ∀ M, CI M X → _ := fun M (h : CI M X) => c_left (S := lS (xL X)) h.1.1 hk (fun x hx => h.2.1.1.2.2.1 (hO.z (by omega)) x (by have := hk.1.1; omega)) hO
  refine ⟨X, hX, Or.inl ⟨nI (lftS (xI X) (dH (lS (xL X)))), fun M h => ⟨M, ?_, h, FrC.rf⟩, fun M h => ⟨si M 87 3 0, ?_, gi_si_s, h.z0, FrR.rf.z⟩⟩⟩
  · show fX11_free M = _
    unfold fX11_free
    rw [(cl M h).1, bI_ok]
  · show fX12_free M = _
    unfold fX12_free
    rw [wr_eq]
    exact r_left h.z0.1 hk (fun x hx => h.z0.2.1.1.2.2.1 (hO.z (by omega)) x (by have := hk.1.1; omega)) hO (lft_bits hk hO)
theorem a_count (hX : WOk X) (x : Int32) : Ag (fun M => fX11_count M x) (fun M => fX12_count M x) kA X := by
  have hk := hX.1
  have hO := hX.2.2.1.1.1
  by_cases c0 : x = 0
  · subst c0
    exact Ag.p hX (nI (iH (xI X))) (fun M h => ⟨M, (show fX11_count M 0 = okI M (gi M (isA (gb M 0)) 9) from rfl).trans (congrArg (okI M) (h.1.1.1.1)), Fr.rf⟩) (fun M h => ⟨si M 87 3 0, (show fX12_count M 0 = okI (si M 87 3 0) (gi (si M 87 3 0) 90 0) from rfl).trans (congrArg (okI (si M 87 3 0)) (h.z0.1.1.1)), Fr.rf⟩)
  by_cases c1 : x = 1
  · subst c1
    exact Ag.p hX (nI (iP (xI X))) (fun M h => ⟨M, (show fX11_count M 1 = okI M (gi M (isA (gb M 0)) 10) from rfl).trans (congrArg (okI M) (h.1.1.1.2.1)), Fr.rf⟩) (fun M h => ⟨si M 87 3 0, (show fX12_count M 1 = okI (si M 87 3 0) (gi (si M 87 3 0) 90 1) from rfl).trans (congrArg (okI (si M 87 3 0)) (h.z0.1.1.2.1)), Fr.rf⟩)
  by_cases c2 : x = 2
  · subst c2
    refine Ag.p hX (100 * dY (lS (xL X)) + dX (lS (xL X))) (fun M h => ⟨M, (show fX11_count M 2 = okI M (100 * gi M 39 3 + gi M 39 2) from rfl).trans ?_, Fr.rf⟩) (fun M h => ⟨si M 87 3 0, (show fX12_count M 2 = okI (si M 87 3 0) (100 * gi (si M 87 3 0) 87 37 + gi (si M 87 3 0) 87 36) from rfl).trans ?_, Fr.rf⟩)
    · rw [h.2.1.1.1.2.2.1, h.2.1.1.1.2.2.2.1]
    · rw [h.z0.2.1.1.1.2.2.1, h.z0.2.1.1.1.2.2.2.1]
  by_cases c3 : x = 3
  · subst c3
    exact Ag.p hX (iE (xI X)) (fun M h => ⟨M, (show fX11_count M 3 = okI M (gi M (isA (gb M 0)) 14) from rfl).trans (congrArg (okI M) (h.1.1.1.2.2.2)), Fr.rf⟩) (fun M h => ⟨si M 87 3 0, (show fX12_count M 3 = okI (si M 87 3 0) (gi (si M 87 3 0) 90 3) from rfl).trans (congrArg (okI (si M 87 3 0)) (h.z0.1.1.2.2.2.1)), Fr.rf⟩)
  by_cases c4 : x = 4
  · subst c4
    exact Ag.p hX (nI (dN (lS (xL X)))) (fun M h => ⟨M, (show fX11_count M 4 = okI M (gi M 39 4) from rfl).trans (congrArg (okI M) (h.2.1.1.1.2.2.2.2.1)), Fr.rf⟩) (fun M h => ⟨si M 87 3 0, (show fX12_count M 4 = okI (si M 87 3 0) (gi (si M 87 3 0) 87 31) from rfl).trans (congrArg (okI (si M 87 3 0)) (h.z0.2.1.1.1.2.2.2.2.1)), Fr.rf⟩)
  by_cases c5 : x = 5
  · subst c5
    have hy : dN (lS (xL X)) < 2 ^ 31 := by have := hO.1.2.2; omega
    refine Ag.p hX (rnO (xI X) (dN (lS (xL X)))) (fun M h => ⟨M, (show fX11_count M 5 = bI (fX2_rainIn (isA (gb M 0)) M (gi M 39 4)) (fun M3 v4 => some (M3, .inr (some (.int v4)))) from rfl).trans ?_, Fr.rf⟩) (fun M h => ⟨si M 87 3 0, (show fX12_count M 5 = bI (fX12_rainOf (si M 87 3 0) (gi (si M 87 3 0) 87 31)) (fun M4 v5 => some (M4, .inr (some (.int v5)))) from rfl).trans ?_, Fr.rf⟩)
    · rw [h.2.1.1.1.2.2.2.2.1, c_rain h.1.1 hk hy, bI_ok]
    · rw [h.z0.2.1.1.1.2.2.2.2.1, r_rain h.z0.1 hk hy, bI_ok]
  by_cases c6 : x = 6
  · subst c6
    exact Ag.p hX (nI (dG (lS (xL X)))) (fun M h => ⟨M, (show fX11_count M 6 = okI M (gi M 39 1) from rfl).trans (congrArg (okI M) (h.2.1.1.1.2.1)), Fr.rf⟩) (fun M h => ⟨si M 87 3 0, (show fX12_count M 6 = okI (si M 87 3 0) (gi (si M 87 3 0) 87 32) from rfl).trans (congrArg (okI (si M 87 3 0)) (h.z0.2.1.1.1.2.1)), Fr.rf⟩)
  by_cases c7 : x = 7
  · subst c7
    exact Ag.p hX (dT (lS (xL X))) (fun M h => ⟨M, (show fX11_count M 7 = okI M (gi M 39 5) from rfl).trans (congrArg (okI M) (h.2.1.1.1.2.2.2.2.2.1)), Fr.rf⟩) (fun M h => ⟨si M 87 3 0, (show fX12_count M 7 = okI (si M 87 3 0) (gi (si M 87 3 0) 87 33) from rfl).trans (congrArg (okI (si M 87 3 0)) (h.z0.2.1.1.1.2.2.2.2.2.1)), Fr.rf⟩)
  by_cases c8 : x = 8
  · subst c8
    exact Ag.p hX (dC (lS (xL X))) (fun M h => ⟨M, (show fX11_count M 8 = okI M (gi M 39 6) from rfl).trans (congrArg (okI M) (h.2.1.1.1.2.2.2.2.2.2)), Fr.rf⟩) (fun M h => ⟨si M 87 3 0, (show fX12_count M 8 = okI (si M 87 3 0) (gi (si M 87 3 0) 87 34) from rfl).trans (congrArg (okI (si M 87 3 0)) (h.z0.2.1.1.1.2.2.2.2.2.2)), Fr.rf⟩)
  by_cases c9 : x = 9
  · subst c9
    exact Ag.p hX (nI (dL (lS (xL X)))) (fun M h => ⟨M, (show fX11_count M 9 = okI M (gi M 39 0) from rfl).trans (congrArg (okI M) (h.2.1.1.1.1)), Fr.rf⟩) (fun M h => ⟨si M 87 3 0, (show fX12_count M 9 = okI (si M 87 3 0) (gi (si M 87 3 0) 87 35) from rfl).trans (congrArg (okI (si M 87 3 0)) (h.z0.2.1.1.1.1)), Fr.rf⟩)
  by_cases c10 : x = 10
  · subst c10
    exact Ag.p hX (nI (lA (xL X))) (fun M h => ⟨M, (show fX11_count M 10 = okI M (gi M 43 2) from rfl).trans (congrArg (okI M) (h.2.1.2.1.choose_spec.2.2.1)), Fr.rf⟩) (fun M h => ⟨si M 87 3 0, (show fX12_count M 10 = okI (si M 87 3 0) (gi (si M 87 3 0) 87 38) from rfl).trans (congrArg (okI (si M 87 3 0)) (h.z0.2.1.2.1.1)), Fr.rf⟩)
  by_cases c11 : x = 11
  · subst c11
    exact Ag.p hX (nI (lM (xL X))) (fun M h => ⟨M, (show fX11_count M 11 = okI M (gi M 45 3) from rfl).trans (congrArg (okI M) (h.2.1.2.2.1.1)), Fr.rf⟩) (fun M h => ⟨si M 87 3 0, (show fX12_count M 11 = okI (si M 87 3 0) (gi (si M 87 3 0) 87 39) from rfl).trans (congrArg (okI (si M 87 3 0)) (h.z0.2.1.2.2.1.1)), Fr.rf⟩)
  by_cases c12 : x = 12
  · subst c12
    exact Ag.p hX (nI (xN X)) (fun M h => ⟨M, (show fX11_count M 12 = okI M (gi M 1 1) from rfl).trans (congrArg (okI M) (h.2.2.2.1.1)), Fr.rf⟩) (fun M h => ⟨si M 87 3 0, (show fX12_count M 12 = okI (si M 87 3 0) (gi (si M 87 3 0) 87 16) from rfl).trans (congrArg (okI (si M 87 3 0)) (h.z0.2.2.2.1.1)), Fr.rf⟩)
  by_cases c13 : x = 13
  · subst c13
    exact Ag.p hX (lR (xL X) 0) (fun M h => ⟨M, (show fX11_count M 13 = okI M (gi M 49 0) from rfl).trans (congrArg (okI M) (h.2.1.2.2.2 0 (by decide))), Fr.rf⟩) (fun M h => ⟨si M 87 3 0, (show fX12_count M 13 = okI (si M 87 3 0) (gi (si M 87 3 0) 100 0) from rfl).trans (congrArg (okI (si M 87 3 0)) (h.z0.2.1.2.2.2 0 (by decide))), Fr.rf⟩)
  by_cases c14 : x = 14
  · subst c14
    exact Ag.p hX (lR (xL X) 1) (fun M h => ⟨M, (show fX11_count M 14 = okI M (gi M 49 1) from rfl).trans (congrArg (okI M) (h.2.1.2.2.2 1 (by decide))), Fr.rf⟩) (fun M h => ⟨si M 87 3 0, (show fX12_count M 14 = okI (si M 87 3 0) (gi (si M 87 3 0) 100 1) from rfl).trans (congrArg (okI (si M 87 3 0)) (h.z0.2.1.2.2.2 1 (by decide))), Fr.rf⟩)
  by_cases c15 : x = 15
  · subst c15
    exact Ag.p hX (lR (xL X) 2) (fun M h => ⟨M, (show fX11_count M 15 = okI M (gi M 49 2) from rfl).trans (congrArg (okI M) (h.2.1.2.2.2 2 (by decide))), Fr.rf⟩) (fun M h => ⟨si M 87 3 0, (show fX12_count M 15 = okI (si M 87 3 0) (gi (si M 87 3 0) 100 2) from rfl).trans (congrArg (okI (si M 87 3 0)) (h.z0.2.1.2.2.2 2 (by decide))), Fr.rf⟩)
  exact Ag.x hX 1 (Or.inl rfl) (fun M h => by unfold fX11_count; rw [if_neg c0, if_neg c1, if_neg c2, if_neg c3, if_neg c4, if_neg c5, if_neg c6, if_neg c7, if_neg c8, if_neg c9, if_neg c10, if_neg c11, if_neg c12, if_neg c13, if_neg c14, if_neg c15]) (fun M h => ⟨0, by unfold fX12_count; rw [wr_eq, if_neg c0, if_neg c1, if_neg c2, if_neg c3, if_neg c4, if_neg c5, if_neg c6, if_neg c7, if_neg c8, if_neg c9, if_neg c10, if_neg c11, if_neg c12, if_neg c13, if_neg c14, if_neg c15, x1x]; rfl⟩)
theorem a_house (hX : WOk X) (x y : Int32) : Ag (fun M => fX11_house M x y) (fun M => fX12_house M x y) kA X := by
  have hk := hX.1
  have h8 := hk.1.1
  have hO := hX.2.2.1.1.1
  rcases h_cases x (iH (xI X)) (by omega) with ⟨h, hh, rfl⟩ | hx
  · have hz := hO.z (show 0 < iH (xI X) by omega)
    obtain ⟨w, hw, hwe⟩ := inj_surj (iH (xI X)) (dO (lS (xL X))) hO.2.1.2.2.1 (fun i j hi hj e => hO.2.1.2.1 i j (by omega) (by omega) e) h hh
    by_cases c0 : y = 0
    · refine Ag.p hX (iA (xI X) 0 h) (fun M h0 => ⟨M, ?_, Fr.rf⟩) (fun M h0 => ⟨si M 87 3 0, ?_, Fr.rf⟩)
      · show fX11_house M (nI h) y = _
        unfold fX11_house
        rw [c_needH h0.1.1 hk hh, bV_ok, if_pos c0, chk_in (by omega) (by decide), ix_nI (by omega), (h0.1.1.2.1 h hh).1]
      · show fX12_house M (nI h) y = _
        unfold fX12_house
        rw [wr_eq, r_isH h0.z0.1 hk hh, bI_ok, if_neg (show ¬ (1 : Int32) = 0 by decide), if_pos c0, chk_in (by omega) (by decide), ix_nI (by omega), (h0.z0.1.2.1 h hh).1]
    by_cases c1 : y = 1
    · refine Ag.p hX (iA (xI X) 1 h) (fun M h0 => ⟨M, ?_, Fr.rf⟩) (fun M h0 => ⟨si M 87 3 0, ?_, Fr.rf⟩)
      · show fX11_house M (nI h) y = _
        unfold fX11_house
        rw [c_needH h0.1.1 hk hh, bV_ok, if_neg c0, if_pos c1, chk_in (by omega) (by decide), ix_nI (by omega), (h0.1.1.2.1 h hh).2.1]
      · show fX12_house M (nI h) y = _
        unfold fX12_house
        rw [wr_eq, r_isH h0.z0.1 hk hh, bI_ok, if_neg (show ¬ (1 : Int32) = 0 by decide), if_neg c0, if_pos c1, chk_in (by omega) (by decide), ix_nI (by omega), (h0.z0.1.2.1 h hh).2.1]
    by_cases c2 : y = 2
    · refine Ag.p hX (iA (xI X) 2 h) (fun M h0 => ⟨M, ?_, Fr.rf⟩) (fun M h0 => ⟨si M 87 3 0, ?_, Fr.rf⟩)
      · show fX11_house M (nI h) y = _
        unfold fX11_house
        rw [c_needH h0.1.1 hk hh, bV_ok, if_neg c0, if_neg c1, if_pos c2, chk_in (by omega) (by decide), ix_nI (by omega), (h0.1.1.2.1 h hh).2.2]
      · show fX12_house M (nI h) y = _
        unfold fX12_house
        rw [wr_eq, r_isH h0.z0.1 hk hh, bI_ok, if_neg (show ¬ (1 : Int32) = 0 by decide), if_neg c0, if_neg c1, if_pos c2, chk_in (by omega) (by decide), ix_nI (by omega), (h0.z0.1.2.1 h hh).2.2]
    by_cases c3 : y = 3
    · refine Ag.p hX (nI (bitN (dL (lS (xL X))) h)) (fun M h0 => ⟨M, ?_, Fr.rf⟩) (fun M h0 => ⟨si M 87 3 0, ?_, Fr.rf⟩)
      · show fX11_house M (nI h) y = _
        unfold fX11_house
        rw [c_needH h0.1.1 hk hh, bV_ok, if_neg c0, if_neg c1, if_neg c2, if_pos c3, c_lot h0.2.1.1.1 hO.1.1 (by omega), bI_ok]
      · show fX12_house M (nI h) y = _
        unfold fX12_house
        rw [wr_eq, r_isH h0.z0.1 hk hh, bI_ok, if_neg (show ¬ (1 : Int32) = 0 by decide), if_neg c0, if_neg c1, if_neg c2, if_pos c3, h0.z0.2.1.1.1.1, r_bit hO.1.1 (by omega)]
    by_cases c4 : y = 4
    · refine Ag.p hX (shE (dH (lS (xL X)) h)) (fun M h0 => ⟨M, ?_, Fr.rf⟩) (fun M h0 => ⟨si M 87 3 0, ?_, Fr.rf⟩)
      · show fX11_house M (nI h) y = _
        unfold fX11_house
        rw [c_needH h0.1.1 hk hh, bV_ok, if_neg c0, if_neg c1, if_neg c2, if_neg c3, if_pos c4, chk_in (by omega) (by decide), ix_nI (by omega), show gi M 41 h = shE (dH (lS (xL X)) h) from h0.2.1.1.2.2.1 hz h (by omega)]
      · show fX12_house M (nI h) y = _
        unfold fX12_house
        rw [wr_eq, r_isH h0.z0.1 hk hh, bI_ok, if_neg (show ¬ (1 : Int32) = 0 by decide), if_neg c0, if_neg c1, if_neg c2, if_neg c3, if_pos c4, chk_in (by omega) (by decide), ix_nI (by omega), h0.z0.2.1.1.2.2.1 hz h (by omega)]
    by_cases c5 : y = 5
    · refine Ag.p hX (nI (dR (lS (xL X)) h)) (fun M h0 => ⟨M, ?_, Fr.rf⟩) (fun M h0 => ⟨si M 87 3 0, ?_, Fr.rf⟩)
      · show fX11_house M (nI h) y = _
        unfold fX11_house
        rw [c_needH h0.1.1 hk hh, bV_ok, if_neg c0, if_neg c1, if_neg c2, if_neg c3, if_neg c4, if_pos c5, chk_in (by omega) (by decide), ix_nI (by omega), show gi M 42 h = nI (dR (lS (xL X)) h) from h0.2.1.1.2.2.2 h (by omega)]
      · show fX12_house M (nI h) y = _
        unfold fX12_house
        rw [wr_eq, r_isH h0.z0.1 hk hh, bI_ok, if_neg (show ¬ (1 : Int32) = 0 by decide), if_neg c0, if_neg c1, if_neg c2, if_neg c3, if_neg c4, if_pos c5, chk_in (by omega) (by decide), ix_nI (by omega), h0.z0.2.1.1.2.2.2 h (by omega)]
    by_cases c6 : y = 6
    · refine Ag.p hX (nI w) (fun M h0 => ⟨M, ?_, Fr.rf⟩) (fun M h0 => ⟨si M 87 3 0, ?_, Fr.rf⟩)
      · show fX11_house M (nI h) y = _
        unfold fX11_house
        have q : gi M 40 h = nI w := by rw [← hwe]; exact h0.2.1.1.2.1 hz w (by omega)
        rw [c_needH h0.1.1 hk hh, bV_ok, if_neg c0, if_neg c1, if_neg c2, if_neg c3, if_neg c4, if_neg c5, if_pos c6, chk_in (by omega) (by decide), ix_nI (by omega), q]
      · show fX12_house M (nI h) y = _
        unfold fX12_house
        rw [wr_eq, r_isH h0.z0.1 hk hh, bI_ok, if_neg (show ¬ (1 : Int32) = 0 by decide), if_neg c0, if_neg c1, if_neg c2, if_neg c3, if_neg c4, if_neg c5, if_pos c6, ← hwe, r_place (h0.z0.2.1.1.2.1 hz) hO (by omega), bI_ok]
    by_cases c7 : y = 7
    · refine Ag.p hX (nI (envS (xI X) (lS (xL X)) h)) (fun M h0 => ?_) (fun M h0 => ?_)
      · obtain ⟨M1, e1, F1⟩ := c_envy h0.1.1 hk h0.2.1.1 hO hh
        refine ⟨M1, ?_, scrQ_c F1⟩
        show fX11_house M (nI h) y = _
        unfold fX11_house
        rw [c_needH h0.1.1 hk hh, bV_ok, if_neg c0, if_neg c1, if_neg c2, if_neg c3, if_neg c4, if_neg c5, if_neg c6, if_pos c7, e1, bI_ok]
      · obtain ⟨M1, e1, F1⟩ := r_envy h0.z0.1 hk h0.z0.2.1.1 hO hh
        refine ⟨M1, ?_, scrP_r F1⟩
        show fX12_house M (nI h) y = _
        unfold fX12_house
        rw [wr_eq, r_isH h0.z0.1 hk hh, bI_ok, if_neg (show ¬ (1 : Int32) = 0 by decide), if_neg c0, if_neg c1, if_neg c2, if_neg c3, if_neg c4, if_neg c5, if_neg c6, if_pos c7, e1, bI_ok]
    exact Ag.x hX 1 (Or.inl rfl) (fun M h0 => by unfold fX11_house; rw [c_needH h0.1.1 hk hh, bV_ok, if_neg c0, if_neg c1, if_neg c2, if_neg c3, if_neg c4, if_neg c5, if_neg c6, if_neg c7]) (fun M h0 => ⟨0, by unfold fX12_house; rw [wr_eq, r_isH h0.z0.1 hk hh, bI_ok, if_neg (show ¬ (1 : Int32) = 0 by decide), if_neg c0, if_neg c1, if_neg c2, if_neg c3, if_neg c4, if_neg c5, if_neg c6, if_neg c7, x1x]; rfl⟩)
  · exact Ag.x hX 1 (Or.inl rfl) (fun M h => by unfold fX11_house; rw [c_needHx h.1.1 hx, bV_x]) (fun M h => ⟨0, by
      unfold fX12_house
      rw [wr_eq, r_isHx h.z0.1 hk hx, bI_ok, if_pos rfl, x1x]
      rfl⟩)
end

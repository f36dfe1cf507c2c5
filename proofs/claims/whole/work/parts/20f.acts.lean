-- ===== the other acts =====
theorem r_is2 {M : Mem} {x a b : Int32} {A B : Int64} (hA : A = a.toInt64) (hB : B = b.toInt64) (h1 : ¬ x < a) (h2 : ¬ b < x) : fX12_isIn M x.toInt64 A B = okI M 1 := by
  rw [hA, hB, r_isIn, if_neg h1, if_neg h2]
theorem r_is2x {M : Mem} {x a b : Int32} {A B : Int64} (hA : A = a.toInt64) (hB : B = b.toInt64) (h : x < a ∨ b < x) : fX12_isIn M x.toInt64 A B = okI M 0 := by
  rw [hA, hB, r_isIn]
  by_cases c : x < a
  · rw [if_pos c]
  · rw [if_neg c, if_pos (h.resolve_left c)]
def kF : List Nat := [3, 16, 25, 38, 39, 42, 51, 52, 53]
section
variable {M M1 M3 : Mem} {X : WX} {S : DS}
theorem c_actN (hM : CI M X) (C1 : CCc 39 43 45 49 M1 (keepL (xL X))) (F1 : Fr [43, 44] M M1) {l : List Nat} (F3 : Fr l M1 M3) (hl : ∀ x ∈ l, x ∈ [39, 40, 41, 42] ++ scrQ) (D3 : DC 39 M3 S) : CI M3 (setL X (setS (keepL (xL X)) S)) ∧ FrC M M3 := by
  have FF : Fr (scrW ++ scrQ) M M3 := (F1.mono (by unfold scrW scrQ; decide)).tr ((F3.mono hl).mono (by unfold scrW scrQ; decide))
  refine ⟨hM.l FF (C1.s D3 (fun x hx k => F3.i (fun c => ?_) k)), FF.C (by unfold scrW scrQ; decide)⟩
  have := hl x c
  clear c
  revert this
  unfold scrQ
  revert x
  decide
theorem c_actT (hM : CI M X) (hk : IOk (xI X)) (C1 : CCc 39 43 45 49 M1 (keepL (xL X))) (F1 : Fr [43, 44] M M1) (F3 : Fr [39, 40, 41, 42] M1 M3) (D3 : DC 39 M3 S) (hO : DOk (xI X) S) :
    ∃ M4, fX3_takeShares 39 M3 (-1) = okV M4 ∧ DC 39 M4 (setH S (tkS (xI X) S none)) ∧ CI M4 (setL X (setS (keepL (xL X)) (setH S (tkS (xI X) S none)))) ∧ FrC M M4 := by
  obtain ⟨M4, e4, C4, F4⟩ := c_retake C1 ((hM.1.1.fr F1 ap4344).fr F3 (by unfold apart; decide)) hk D3 hO (fun x hx k => F3.i (by revert x; decide) k)
  have FF : Fr (scrW ++ scrQ) M M4 := ((F1.mono (by unfold scrW scrQ; decide)).tr (F3.mono (by unfold scrW scrQ; decide))).tr (F4.mono scrW_a)
  exact ⟨M4, e4, C4.1, hM.l FF C4, FF.C (by unfold scrW scrQ; decide)⟩
theorem r_actN (hM : RI M X) (C1 : CRr M1 (keepL (xL X))) (F1 : Fr [87, 105] M M1) (m1 : ∀ k, k ≠ 38 → gi M1 87 k = gi M 87 k) {l : List Nat} (F3 : Fr l M1 M3) (hl : ∀ x ∈ l, x ∈ [87, 102, 103, 104, 106, 107]) (m3 : ∀ k ∈ kF, gi M3 87 k = gi M1 87 k) (D3 : DRf M3 S) : gi M3 87 3 = gi M 87 3 ∧ RI M3 (setL X (setS (keepL (xL X)) S)) ∧ FrR M M3 := by
  have F3' := F3.mono hl
  have FF : Fr scrM M M3 := (F1.mono (by unfold scrM; decide)).tr (F3'.mono (by unfold scrM; decide))
  refine ⟨by rw [m3 3 (by decide), m1 3 (by decide)], hM.l FF (fun k hk => ?_) (C1.s D3 (fun x hx k => F3'.i (by revert x; decide) k) (m3 38 (by decide)) (m3 39 (by decide))), FF.R (by unfold scrM; decide)⟩
  rw [m3 k (by revert k; decide), m1 k (by revert k; decide)]
theorem r_actT (hM : RI M X) (hk : IOk (xI X)) (C1 : CRr M1 (keepL (xL X))) (F1 : Fr [87, 105] M M1) (m1 : ∀ k, k ≠ 38 → gi M1 87 k = gi M 87 k) (F3 : Fr [87, 102, 103, 104] M1 M3) (m3 : ∀ k ∈ kF, gi M3 87 k = gi M1 87 k) (D3 : DR0 M3 S) (ho : dO S 8 = 8 → ∀ k, k < 8 → gi M3 104 k = nI (dO S k)) (hr : ∀ h, h < 8 → gi M3 102 h = nI (dR S h)) (hO : DOk (xI X) S) :
    ∃ M4, fX12_takeShares M3 = okV M4 ∧ DRf M4 (setH S (tkS (xI X) S none)) ∧ gi M4 87 3 = gi M 87 3 ∧ RI M4 (setL X (setS (keepL (xL X)) (setH S (tkS (xI X) S none)))) ∧ FrR M M4 := by
  obtain ⟨M4, e4, D4, F4⟩ := r_take (ab := none) ((hM.1.fr F1 (by unfold apart; decide)).fr F3 (by unfold apart; decide)) hk D3 ho hr hO (fun h c => by cases c) (by rw [m3 42 (by decide), m1 42 (by decide)]; exact hM.2.2.2.2.2)
  have FF : Fr [87, 102, 103, 104, 106, 107] M1 M4 := (F3.mono (by decide)).tr (F4.mono (by unfold scrT; decide))
  obtain ⟨a, b, c⟩ := r_actN hM C1 F1 m1 FF (fun _ h => h) (fun k hk => by rw [F4.i (by decide)]; exact m3 k hk) D4
  exact ⟨M4, e4, D4, a, b, c⟩
end
section
variable {X : WX}
theorem a_lots (hX : WOk X) (w : Int32) : Ag (fun M => fX11_lots M w) (fun M => fX12_lots M w) k0 X := by
  have hk := hX.1
  have h8 := hk.1.1
  have hL := hX.2.2.1
  have hO := hL.1.1
  have hl := drS_lt h8 w
  obtain ⟨S', hS'⟩ : ∃ S', S' = setLC (lS (xL X)) (drS (iH (xI X)) w).2 (dC (lS (xL X))) := ⟨_, rfl⟩
  have O' : DOk (xI X) S' := by rw [hS']; exact LC_ok hO hl
  refine ⟨setL X (setS (keepL (xL X)) (setH S' (tkS (xI X) S' none))), hX.l (setS_ok (keep_ok hL) (tk_ok hk O' none) (by rw [hS']; exact hL.1.2)), Or.inl ⟨nI (dL S'), fun M hM => ?_, fun M hM => ?_⟩⟩
  · obtain ⟨M1, e1, C1, F1⟩ := c_keep hM.2.1 hL
    show ∃ M1, fX11_lots M w = _ ∧ _
    unfold fX11_lots
    rw [e1, bV_ok, c_draw (hM.1.1.fr F1 ap4344) hk, bI_ok]
    have F3 : Fr [39, 40, 41, 42] M1 (si M1 39 0 (nI (drS (iH (xI X)) w).2)) := Fr.rf.wi (by decide)
    obtain ⟨M4, e4, D4, R4, f4⟩ := c_actT (S := S') hM hk C1 F1 F3 (by
      rw [hS']
      exact LC_DC C1.1 gi_si_s ((gi_si_k (by decide)).trans C1.1.1.2.2.2.2.2.2) (fun k a _ => gi_si_k a) (fun _ => gi_si_a (by decide)) (fun _ => gi_si_a (by decide)) (fun _ => gi_si_a (by decide))) O'
    rw [e4, bV_ok, D4.1.1]
    exact ⟨M4, rfl, R4, f4⟩
  · obtain ⟨M1, e1, C1, F1, m1⟩ := r_keep hM.z.2.1 hL.2.1.1
    show ∃ M1, fX12_lots M w = _ ∧ _
    unfold fX12_lots
    rw [wr_eq, e1, bV_ok, wr_eq]
    have F2 : Fr [87] M1 (si M1 87 43 w) := Fr.rf.wi (by decide)
    obtain ⟨M3, e3, F3, q1, q2, q3⟩ := r_draw (w := w) ((hM.z.1.fr F1 (by unfold apart; decide)).fr F2 (by unfold apart; decide)) hk gi_si_s
    rw [e3]
    have F23 : Fr [87] M1 M3 := F2.tr F3
    have m3 : ∀ k, k ≠ 35 → k ≠ 43 → gi M3 87 k = gi M1 87 k := fun k a b => by rw [q3 k a b, gi_si_k b]
    obtain ⟨M4, e4, D4, z4, R4, f4⟩ := r_actT (S := S') hM.z hk C1 F1 m1 (F23.mono (by decide)) (fun k hk => m3 k (by revert k; decide) (by revert k; decide)) (by
      rw [hS']
      exact LC_DR C1.1.1 q1 ((m3 34 (by decide) (by decide)).trans C1.1.1.2.2.2.2.2.2) (fun k _ _ a _ => m3 k a (by omega))) (fun z k hk => by rw [F23.i (by decide)]; rw [hS'] at z ⊢; exact C1.1.2.1 z k hk) (fun k hk => by rw [F23.i (by decide), hS']; exact C1.1.2.2.2 k hk) O'
    rw [e4, bV_ok, bV_ok, D4.1.1]
    exact ⟨M4, rfl, z4.trans gi_si_s, R4, FrR.rf.z.tr f4⟩
theorem a_market (hX : WOk X) (x y : Int32) : Ag (fun M => fX11_market M x y) (fun M => fX12_market M x y) k0 X := by
  have hk := hX.1
  have h8 := hk.1.1
  have hL := hX.2.2.1
  have hO := hL.1.1
  by_cases c : (x < 0 ∨ 20 < x) ∨ (y < 0 ∨ 20 < y)
  · refine ⟨setL X (refL (xL X) 1), hX.l (ref_ok hL), Or.inl ⟨-1, fun M hM => ?_, fun M hM => ?_⟩⟩
    · obtain ⟨M1, e1, C1, F1⟩ := c_refuse hM.2.1 (k := 1) (by decide)
      have FF : Fr (scrW ++ scrQ) M M1 := F1.mono (by unfold scrW scrQ; decide)
      refine ⟨M1, ?_, hM.l FF C1, FF.C (by unfold scrW scrQ; decide)⟩
      have e : fX11_market_b20 M = okI M1 (-1) := by
        unfold fX11_market_b20
        rw [show fX11_refuse M 1 = okI M1 (-1) from e1, bI_ok]
      show fX11_market M x y = _
      unfold fX11_market
      rw [e]
      by_cases c1 : x < 0
      · rw [if_pos c1]
      · by_cases c2 : 20 < x
        · rw [if_neg c1, if_pos c2]
        · have c3 := c.resolve_left (fun z => z.elim c1 c2)
          rw [if_neg c1, if_neg c2]
          by_cases c4 : y < 0
          · rw [if_pos c4]
          · rw [if_neg c4, if_pos (c3.resolve_left c4)]
    · obtain ⟨M1, e1, C1, F1⟩ := r_refuse hM.z.2.1 (k := 1) (by decide)
      have FF : Fr scrM (si M 87 3 0) M1 := F1.mono (by unfold scrM; decide)
      refine ⟨M1, ?_, (F1.i (by decide) _).trans gi_si_s, hM.z.l FF (fun k _ => F1.i (by decide) k) C1, FrR.rf.z.tr (FF.R (by unfold scrM; decide))⟩
      have e : fX12_market_b29 (si M 87 3 0) = okI M1 (-1) := by
        unfold fX12_market_b29
        rw [show fX12_refuse (si M 87 3 0) 1 = okI M1 (-1) from e1, bI_ok]
      show fX12_market M x y = _
      unfold fX12_market
      rw [wr_eq]
      by_cases c1 : x < 0 ∨ 20 < x
      · rw [r_inX (lo := 0) (hi := 20) (by decide) (by decide) c1, bI_ok, if_pos rfl, e]
      · have c3 := c.resolve_left c1
        rw [r_is2 (x := x) (a := 0) (b := 20) (by decide) (by decide) (fun z => c1 (Or.inl z)) (fun z => c1 (Or.inr z)), bI_ok, if_neg (by decide), r_inX (lo := 0) (hi := 20) (by decide) (by decide) c3, bI_ok, if_pos rfl, e]
  · obtain ⟨c1, c2⟩ := not_or.mp c
    obtain ⟨S', hS'⟩ : ∃ S', S' = setXY (lS (xL X)) x y := ⟨_, rfl⟩
    have O' : DOk (xI X) S' := by rw [hS']; exact XY_ok hO
    refine ⟨setL X (setS (keepL (xL X)) (setH S' (tkS (xI X) S' none))), hX.l (setS_ok (keep_ok hL) (tk_ok hk O' none) (by rw [hS']; exact hL.1.2)), Or.inl ⟨100 * dY (lS (xL X)) + dX (lS (xL X)), fun M hM => ?_, fun M hM => ?_⟩⟩
    · obtain ⟨M1, e1, C1, F1⟩ := c_keep hM.2.1 hL
      show ∃ M1, fX11_market M x y = _ ∧ _
      unfold fX11_market fX11_marketPlace
      rw [if_neg (fun z => c1 (Or.inl z)), if_neg (fun z => c1 (Or.inr z)), if_neg (fun z => c2 (Or.inl z)), if_neg (fun z => c2 (Or.inr z)), e1, bV_ok, bI_ok, wr_eq, wr_eq]
      have F3 : Fr [39, 40, 41, 42] M1 (si (si M1 39 2 x) 39 3 y) := (Fr.rf.wi (by decide)).wi (by decide)
      obtain ⟨M4, e4, D4, R4, f4⟩ := c_actT (S := S') hM hk C1 F1 F3 (by
        rw [hS']
        exact XY_DC C1.1 ((gi_si_k (by decide)).trans gi_si_s) gi_si_s (fun k a b => (gi_si_k b).trans (gi_si_k a)) (fun k => (gi_si_a (by decide)).trans (gi_si_a (by decide))) (fun k => (gi_si_a (by decide)).trans (gi_si_a (by decide))) (fun k => (gi_si_a (by decide)).trans (gi_si_a (by decide)))) O'
      rw [e4, bV_ok, C1.1.1.2.2.1, C1.1.1.2.2.2.1]
      exact ⟨M4, rfl, R4, f4⟩
    · obtain ⟨M1, e1, C1, F1, m1⟩ := r_keep hM.z.2.1 hL.2.1.1
      show ∃ M1, fX12_market M x y = _ ∧ _
      unfold fX12_market
      rw [wr_eq, r_is2 (x := x) (a := 0) (b := 20) (by decide) (by decide) (fun z => c1 (Or.inl z)) (fun z => c1 (Or.inr z)), bI_ok, if_neg (by decide), r_is2 (x := y) (a := 0) (b := 20) (by decide) (by decide) (fun z => c2 (Or.inl z)) (fun z => c2 (Or.inr z)), bI_ok, if_neg (by decide), e1, bV_ok, wr_eq, wr_eq]
      obtain ⟨M3, hM3⟩ : ∃ M3, M3 = si (si M1 87 36 x) 87 37 y := ⟨_, rfl⟩
      rw [← hM3]
      have F3 : Fr [87] M1 M3 := by rw [hM3]; exact (Fr.rf.wi (by decide)).wi (by decide)
      have m3 : ∀ k, k ≠ 36 → k ≠ 37 → gi M3 87 k = gi M1 87 k := fun k a b => by rw [hM3, gi_si_k b, gi_si_k a]
      obtain ⟨M4, e4, D4, z4, R4, f4⟩ := r_actT (S := S') hM.z hk C1 F1 m1 (F3.mono (by decide)) (fun k hk => m3 k (by revert k; decide) (by revert k; decide)) (by
        rw [hS']
        exact XY_DR C1.1.1 (by rw [hM3, gi_si_k (by decide), gi_si_s]) (by rw [hM3, gi_si_s]) (fun k _ _ a b => m3 k a b)) (fun z k hk => by rw [F3.i (by decide)]; rw [hS'] at z ⊢; exact C1.1.2.1 z k hk) (fun k hk => by rw [F3.i (by decide), hS']; exact C1.1.2.2.2 k hk) O'
      rw [e4, bV_ok, C1.1.1.2.2.1, C1.1.1.2.2.2.1]
      exact ⟨M4, rfl, z4.trans gi_si_s, R4, FrR.rf.z.tr f4⟩
end

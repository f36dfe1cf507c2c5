-- ===== order, exchange, years, undo =====
theorem RI.z0 {M : Mem} {X : WX} (h : RI M X) : RI (si M 87 3 0) X := h.z
section
variable {M : Mem} {X : WX}
theorem refC (hM : CI M X) {k : Nat} (hk : k < 3) : ∃ M1, fX11_refuse M (nI k) = okI M1 (-1) ∧ CI M1 (setL X (refL (xL X) k)) ∧ FrC M M1 := by
  obtain ⟨M1, e1, C1, F1⟩ := c_refuse hM.2.1 hk
  have FF : Fr (scrW ++ scrQ) M M1 := F1.mono (by unfold scrW scrQ; decide)
  exact ⟨M1, e1, hM.l FF C1, FF.C (by unfold scrW scrQ; decide)⟩
theorem refR (hM : RI M X) {k : Nat} (hk : k < 3) : ∃ M1, fX12_refuse (si M 87 3 0) (nI k) = okI M1 (-1) ∧ gi M1 87 3 = 0 ∧ RI M1 (setL X (refL (xL X) k)) ∧ FrR M M1 := by
  obtain ⟨M1, e1, C1, F1⟩ := r_refuse hM.z0.2.1 hk
  have FF : Fr scrM (si M 87 3 0) M1 := F1.mono (by unfold scrM; decide)
  exact ⟨M1, e1, (F1.i (by decide) _).trans gi_si_s, hM.z0.l FF (fun k _ => F1.i (by decide) k) C1, FrR.rf.z.tr (FF.R (by unfold scrM; decide))⟩
theorem a_order (hX : WOk X) (x y : Int32) : Ag (fun M => fX11_order M x y) (fun M => fX12_order M x y) kA X := by
  have hk := hX.1
  have h8 := hk.1.1
  have hL := hX.2.2.1
  have hO := hL.1.1
  rcases h_cases x (iH (xI X)) (by omega) with ⟨h, hh, rfl⟩ | hx
  · rcases h_cases y (iH (xI X)) (by omega) with ⟨t, ht, rfl⟩ | hy
    · have hz := hO.z (show 0 < iH (xI X) by omega)
      obtain ⟨w, hw, rfl⟩ := inj_surj (iH (xI X)) (dO (lS (xL X))) hO.2.1.2.2.1 (fun i j hi hj e => hO.2.1.2.1 i j (by omega) (by omega) e) h hh
      obtain ⟨S', hS'⟩ : ∃ S', S' = setO (lS (xL X)) (mvO (dO (lS (xL X))) w t) := ⟨_, rfl⟩
      have O' : DOk (xI X) S' := by rw [hS']; exact mv_ok hk hO hw ht
      refine ⟨setL X (setS (keepL (xL X)) (setH S' (tkS (xI X) S' none))), hX.l (setS_ok (keep_ok hL) (tk_ok hk O' none) (by rw [hS']; exact hL.1.2)), Or.inl ⟨nI w, fun M hM => ?_, fun M hM => ?_⟩⟩
      · obtain ⟨M1, e1, C1, F1⟩ := c_keep hM.2.1 hL
        show ∃ M1, fX11_order M (nI (dO (lS (xL X)) w)) (nI t) = _ ∧ _
        unfold fX11_order
        obtain ⟨M3, e3, D3, F3⟩ := c_move (w := w) (t := t) C1.1 hO hz (by omega) (by omega)
        have q : gi M1 40 (dO (lS (xL X)) w) = nI w := C1.1.2.1 hz w (by omega)
        have e3 : fX8_moveInOrder 39 M1 (nI (dO (lS (xL X)) w)) (nI t) = okV M3 := e3
        rw [c_needH hM.1.1 hk hh, bV_ok, if_neg (nI_pos (by omega)), hM.1.1.1.1, if_pos (nI_lt ht (by omega)), e1, bV_ok, chk_in (by omega) (by decide), ix_nI (by omega), q, e3, bV_ok]
        obtain ⟨M4, e4, D4, R4, f4⟩ := c_actT (S := S') hM hk C1 F1 (F3.mono (by decide)) (by rw [hS']; exact D3) O'
        rw [e4, bV_ok]
        exact ⟨M4, rfl, R4, f4⟩
      · obtain ⟨M1, e1, C1, F1, m1⟩ := r_keep hM.z0.2.1 hL.2.1.1
        show ∃ M1, fX12_order M (nI (dO (lS (xL X)) w)) (nI t) = _ ∧ _
        unfold fX12_order
        obtain ⟨M3, e3, D3, F3⟩ := r_move (w := w) (t := t) (hM.z0.1.fr F1 (by unfold apart; decide)) hk C1.1 hO (by rw [m1 42 (by decide)]; exact hM.z0.2.2.2.2.2) hw ht
        have e3 : fX12_moveTo M1 (nI (dO (lS (xL X)) w)) (nI t) = okI M3 (nI w) := e3
        rw [wr_eq, r_isH hM.z0.1 hk hh, bI_ok, if_neg (by decide), hM.z0.1.1.1, r_in0 (by omega) ht, bI_ok, if_neg (by decide), e1, bV_ok, e3, bI_ok]
        obtain ⟨a, b, c⟩ := r_actN (S := setH S' (tkS (xI X) S' none)) hM.z0 C1 F1 m1 F3 (by unfold scrV; decide) (fun k _ => F3.i (by decide) k) (by rw [hS']; exact D3)
        exact ⟨M3, rfl, a.trans gi_si_s, b, FrR.rf.z.tr c⟩
    · refine ⟨setL X (refL (xL X) 1), hX.l (ref_ok hL), Or.inl ⟨-1, fun M hM => ?_, fun M hM => ?_⟩⟩
      · obtain ⟨M1, e1, R1, f1⟩ := refC hM (k := 1) (by decide)
        refine ⟨M1, ?_, R1, f1⟩
        have e : fX11_order_b23 M = okI M1 (-1) := by
          unfold fX11_order_b23
          rw [show fX11_refuse M 1 = okI M1 (-1) from e1, bI_ok]
        show fX11_order M (nI h) y = _
        unfold fX11_order
        rw [c_needH hM.1.1 hk hh, bV_ok, e]
        by_cases c : y < 0
        · rw [if_pos c]
        · rw [if_neg c, hM.1.1.1.1, if_neg (le_nlt (hy.resolve_left c))]
      · obtain ⟨M1, e1, z1, R1, f1⟩ := refR hM (k := 1) (by decide)
        refine ⟨M1, ?_, z1, R1, f1⟩
        show fX12_order M (nI h) y = _
        unfold fX12_order
        rw [wr_eq, r_isH hM.z0.1 hk hh, bI_ok, if_neg (by decide), hM.z0.1.1.1, r_in0x (by omega) hy, bI_ok, if_pos rfl, show fX12_refuse (si M 87 3 0) 1 = okI M1 (-1) from e1, bI_ok]
  · exact Ag.x hX 1 (Or.inl rfl) (fun M h => by unfold fX11_order; rw [c_needHx h.1.1 hx, bV_x]) (fun M h => ⟨0, by
      unfold fX12_order
      rw [wr_eq, r_isHx h.z0.1 hk hx, bI_ok, if_pos rfl, x1x]
      rfl⟩)
def swp (f : Nat → Option Nat) (a b : Nat) : Nat → Option Nat := fun k => if k = b then f a else if k = a then f b else f k
theorem a_exchange (hX : WOk X) (x y : Int32) : Ag (fun M => fX11_exchange M x y) (fun M => fX12_exchange M x y) kA X := by
  have hk := hX.1
  have h8 := hk.1.1
  have hL := hX.2.2.1
  have hO := hL.1.1
  rcases h_cases x (iH (xI X)) (by omega) with ⟨a, ha, rfl⟩ | hx
  · rcases h_cases y (iH (xI X)) (by omega) with ⟨b, hb, rfl⟩ | hy
    · by_cases hab : a = b
      · subst hab
        refine ⟨setL X (refL (xL X) 1), hX.l (ref_ok hL), Or.inl ⟨0, fun M hM => ?_, fun M hM => ?_⟩⟩
        · obtain ⟨M1, e1, R1, f1⟩ := refC hM (k := 1) (by decide)
          refine ⟨M1, ?_, R1, f1⟩
          show fX11_exchange M (nI a) (nI a) = _
          unfold fX11_exchange
          rw [c_needH hM.1.1 hk ha, bV_ok, c_needH hM.1.1 hk ha, bV_ok, if_pos rfl, show fX11_refuse M 1 = okI M1 (-1) from e1, bI_ok]
        · have R0 := hM.z (v := 0)
          show ∃ M1, fX12_exchange M (nI a) (nI a) = _ ∧ _
          obtain ⟨M1, e1, z1, R1, f1⟩ := refR hM (k := 1) (by decide)
          unfold fX12_exchange
          rw [wr_eq, r_isH R0.1 hk ha, bI_ok, if_neg (by decide), r_isH R0.1 hk ha, bI_ok, if_neg (by decide), if_pos rfl, wr_eq]
          have : okI M1 (-1) = okI (si (si M 87 3 0) 100 1 (gi (si M 87 3 0) 100 1 + 1)) (-1) := e1.symm.trans rfl
          have hM1 : M1 = si (si M 87 3 0) 100 1 (gi (si M 87 3 0) 100 1 + 1) := by
            have h1 := Option.some.inj this
            exact (Prod.mk.inj h1).1
          rw [← hM1]
          exact ⟨M1, rfl, z1, R1, f1⟩
      · obtain ⟨S', hS'⟩ : ∃ S', S' = setH (lS (xL X)) (swp (dH (lS (xL X))) a b) := ⟨_, rfl⟩
        have hz := hO.z (show 0 < iH (xI X) by omega)
        have O' : DOk (xI X) S' := by
          rw [hS']
          obtain ⟨o1, o2, o3, o4, o5⟩ := hO
          refine ⟨o1, o2, fun h p hh e => ?_, fun h h1 h2 => ?_, o5⟩
          · have e : swp (dH (lS (xL X))) a b h = some p := e
            unfold swp at e
            by_cases q : h = b
            · rw [if_pos q] at e; exact o3 a p (by omega) e
            · rw [if_neg q] at e
              by_cases q2 : h = a
              · rw [if_pos q2] at e; exact o3 b p (by omega) e
              · rw [if_neg q2] at e; exact o3 h p hh e
          · show swp (dH (lS (xL X))) a b h = none
            unfold swp
            rw [if_neg (by omega), if_neg (by omega)]
            exact o4 h h1 h2
        have sw : ∀ (M1 : Mem) (c : Nat), (∀ k, k < 8 → gi M1 c k = shE (dH (lS (xL X)) k)) → ∀ k, k < 8 → gi (si (si M1 c a (gi M1 c b)) c b (gi M1 c a)) c k = shE (swp (dH (lS (xL X))) a b k) := by
          intro M1 c q k hk8
          unfold swp
          by_cases e : k = b
          · rw [e, gi_si_s, if_pos rfl]; exact q a (by omega)
          · rw [gi_si_k e, if_neg e]
            by_cases e2 : k = a
            · rw [e2, gi_si_s, if_pos rfl]; exact q b (by omega)
            · rw [gi_si_k e2, if_neg e2]; exact q k hk8
        refine ⟨setL X (setS (keepL (xL X)) S'), hX.l (setS_ok (keep_ok hL) O' (by rw [hS']; exact hL.1.2)), Or.inl ⟨1, fun M hM => ?_, fun M hM => ?_⟩⟩
        · obtain ⟨M1, e1, C1, F1⟩ := c_keep hM.2.1 hL
          show ∃ M1, fX11_exchange M (nI a) (nI b) = _ ∧ _
          unfold fX11_exchange
          rw [c_needH hM.1.1 hk ha, bV_ok, c_needH hM.1.1 hk hb, bV_ok, if_neg (fun c => hab ((nI_eq (by omega) (by omega)).mp c)), e1, bV_ok]
          simp only [chk_in (show a < 8 by omega) (show 8 < 2 ^ 31 by decide), chk_in (show b < 8 by omega) (show 8 < 2 ^ 31 by decide), ix_nI (show a < 2 ^ 31 by omega), ix_nI (show b < 2 ^ 31 by omega), wr_eq]
          have F3 : Fr [41] M1 (si (si M1 41 a (gi M1 41 b)) 41 b (gi M1 41 a)) := (Fr.rf.wi (by decide)).wi (by decide)
          obtain ⟨R4, f4⟩ := c_actN (S := S') hM C1 F1 F3 (by unfold scrQ; decide) (by
            rw [hS']
            exact ⟨C1.1.1.fr F3 (by decide), fun z k hk8 => by rw [F3.i (by decide)]; exact C1.1.2.1 z k hk8, fun z k hk8 => sw M1 41 (C1.1.2.2.1 z) k hk8, fun k hk8 => by rw [F3.i (by decide)]; exact C1.1.2.2.2 k hk8⟩)
          exact ⟨_, rfl, R4, f4⟩
        · obtain ⟨M1, e1, C1, F1, m1⟩ := r_keep hM.z0.2.1 hL.2.1.1
          show ∃ M1, fX12_exchange M (nI a) (nI b) = _ ∧ _
          unfold fX12_exchange
          rw [wr_eq, r_isH hM.z0.1 hk ha, bI_ok, if_neg (by decide), r_isH hM.z0.1 hk hb, bI_ok, if_neg (by decide), if_neg (fun c => hab ((nI_eq (by omega) (by omega)).mp c)), e1, bV_ok]
          simp only [chk_in (show a < 8 by omega) (show 8 < 2 ^ 31 by decide), chk_in (show b < 8 by omega) (show 8 < 2 ^ 31 by decide), ix_nI (show a < 2 ^ 31 by omega), ix_nI (show b < 2 ^ 31 by omega), wr_eq]
          have F3 : Fr [103] M1 (si (si M1 103 a (gi M1 103 b)) 103 b (gi M1 103 a)) := (Fr.rf.wi (by decide)).wi (by decide)
          obtain ⟨z4, R4, f4⟩ := r_actN (S := S') hM.z0 C1 F1 m1 F3 (by decide) (fun k _ => F3.i (by decide) k) (by
            rw [hS']
            exact ⟨C1.1.1.fr F3 (by decide), fun z k hk8 => by rw [F3.i (by decide)]; exact C1.1.2.1 z k hk8, fun z k hk8 => sw M1 103 (C1.1.2.2.1 z) k hk8, fun k hk8 => by rw [F3.i (by decide)]; exact C1.1.2.2.2 k hk8⟩)
          exact ⟨_, rfl, z4.trans gi_si_s, R4, FrR.rf.z.tr f4⟩
    · exact Ag.x hX 1 (Or.inl rfl) (fun M h => by unfold fX11_exchange; rw [c_needH h.1.1 hk ha, bV_ok, c_needHx h.1.1 hy, bV_x]) (fun M h => ⟨0, by
        unfold fX12_exchange fX12_exchange_b21 fX12_failing
        rw [wr_eq, r_isH h.z0.1 hk ha, bI_ok, if_neg (by decide), r_isHx h.z0.1 hk hy, bI_ok, if_pos rfl, wr_eq, bI_ok, chk_tt (by decide)]
        rfl⟩)
  · exact Ag.x hX 1 (Or.inl rfl) (fun M h => by unfold fX11_exchange; rw [c_needHx h.1.1 hx, bV_x]) (fun M h => ⟨0, by
      unfold fX12_exchange fX12_exchange_b21 fX12_failing
      rw [wr_eq, r_isHx h.z0.1 hk hx, bI_ok, if_pos rfl, wr_eq, bI_ok, chk_tt (by decide)]
      rfl⟩)
theorem a_years (hX : WOk X) (x : Int32) : Ag (fun M => fX11_years M x) (fun M => fX12_years M x) k0 X := by
  have hk := hX.1
  have h8 := hk.1.1
  have hL := hX.2.2.1
  have hO := hL.1.1
  have hN := hL.1.2
  by_cases c : (x < 1 ∨ 30 < x) ∨ 999 < nI (dN (lS (xL X))) + x
  · refine ⟨setL X (refL (xL X) 1), hX.l (ref_ok hL), Or.inl ⟨-1, fun M hM => ?_, fun M hM => ?_⟩⟩
    · obtain ⟨M1, e1, R1, f1⟩ := refC hM (k := 1) (by decide)
      refine ⟨M1, ?_, R1, f1⟩
      have e : fX11_years_b29 M = okI M1 (-1) := by
        unfold fX11_years_b29
        rw [show fX11_refuse M 1 = okI M1 (-1) from e1, bI_ok]
      show fX11_years M x = _
      unfold fX11_years
      rw [e, hM.2.1.1.1.2.2.2.2.1]
      by_cases c1 : x < 1
      · rw [if_pos c1]
      · rw [if_neg c1]
        by_cases c2 : 30 < x
        · rw [if_pos c2]
        · rw [if_neg c2, if_pos (c.resolve_left (fun z => z.elim c1 c2))]
    · obtain ⟨M1, e1, z1, R1, f1⟩ := refR hM (k := 1) (by decide)
      refine ⟨M1, ?_, z1, R1, f1⟩
      have e : fX12_years_b29 (si M 87 3 0) = okI M1 (-1) := by
        unfold fX12_years_b29
        rw [show fX12_refuse (si M 87 3 0) 1 = okI M1 (-1) from e1, bI_ok]
      show fX12_years M x = _
      unfold fX12_years
      rw [wr_eq]
      by_cases c1 : x < 1 ∨ 30 < x
      · rw [r_is2x (a := 1) (b := 30) (by decide) (by decide) c1, bI_ok, if_pos rfl, e]
      · rw [r_is2 (a := 1) (b := 30) (by decide) (by decide) (fun z => c1 (Or.inl z)) (fun z => c1 (Or.inr z)), bI_ok, if_neg (by decide), hM.z0.2.1.1.1.2.2.2.2.1, if_pos (c.resolve_left c1), e]
  · obtain ⟨c1, c2⟩ := not_or.mp c
    rcases w_cases x 1 30 (by decide) (by decide) with ⟨n, hn1, hn2, rfl⟩ | hx
    · have hs : dN (lS (xL X)) + n ≤ 999 := Nat.le_of_not_lt (fun z => c2 (by rw [nadd]; exact gtL 999 z (by omega)))
      obtain ⟨O', N'⟩ := yrs_ok (n := n) hk hO (by omega) (xE X)
      refine ⟨setL X (setS (keepL (xL X)) (yrsS (xE X) (xI X) n (lS (xL X)))), hX.l (setS_ok (keep_ok hL) O' (by rw [N']; exact hs)), Or.inl ⟨nI (dN (lS (xL X)) + n), fun M hM => ?_, fun M hM => ?_⟩⟩
      · obtain ⟨M1, e1, C1, F1⟩ := c_keep hM.2.1 hL
        show ∃ M1, fX11_years M (nI n) = _ ∧ _
        obtain ⟨M3, e3, D3, F3⟩ := c_years (a := 39) (n := n) (hM.1.1.fr F1 ap4344) hk C1.1 hO (by decide) hX.2.1.1 hX.2.1.2 (show dN (lS (xL X)) + n < 2000 by omega)
        unfold fX11_years
        rw [hM.2.1.1.1.2.2.2.2.1, if_neg (fun z => c1 (Or.inl z)), if_neg (fun z => c1 (Or.inr z)), if_neg c2, e1, bV_ok, e3, bV_ok, D3.1.2.2.2.2.1]
        have N2 : dN (yrsS (xE X) (xI X) n (lS (keepL (xL X)))) = dN (lS (xL X)) + n := N'
        rw [N2]
        obtain ⟨R4, f4⟩ := c_actN (S := yrsS (xE X) (xI X) n (lS (xL X))) hM C1 F1 F3 (by unfold scrL scrQ; decide) D3
        exact ⟨M3, rfl, R4, f4⟩
      · obtain ⟨M1, e1, C1, F1, m1⟩ := r_keep hM.z0.2.1 hL.2.1.1
        show ∃ M1, fX12_years M (nI n) = _ ∧ _
        obtain ⟨M3, e3, D3, F3, m3⟩ := r_years (n := n) (hM.z0.1.fr F1 (by unfold apart; decide)) hk C1.1 hO hX.2.1.1 hX.2.1.2 (show dN (lS (xL X)) + n < 2000 by omega)
        unfold fX12_years
        rw [wr_eq, r_is2 (a := 1) (b := 30) (by decide) (by decide) (fun z => c1 (Or.inl z)) (fun z => c1 (Or.inr z)), bI_ok, if_neg (by decide), hM.z0.2.1.1.1.2.2.2.2.1, if_neg c2, e1, bV_ok, e3, bV_ok, D3.1.2.2.2.2.1]
        have N2 : dN (yrsS (xE X) (xI X) n (lS (keepL (xL X)))) = dN (lS (xL X)) + n := N'
        rw [N2]
        obtain ⟨z4, R4, f4⟩ := r_actN (S := yrsS (xE X) (xI X) n (lS (xL X))) hM.z0 C1 F1 m1 F3 (by unfold scrY; decide) (fun k hk => m3 k (by revert k; decide) (by revert k; decide) (by revert k; decide)) D3
        exact ⟨M3, rfl, z4.trans gi_si_s, R4, FrR.rf.z.tr f4⟩
    · exact absurd hx c1
theorem a_undo (hX : WOk X) : Ag (fun M => fX11_undo M) (fun M => fX12_undo M) k0 X := by
  have hL := hX.2.2.1
  have hO := hL.1.1
  have hn := hL.2.1.1
  by_cases c : lA (xL X) = 0
  · refine ⟨X, hX, Or.inl ⟨-1, fun M hM => ⟨M, ?_, hM, FrC.rf⟩, fun M hM => ⟨si M 87 3 0, ?_, gi_si_s, hM.z0, FrR.rf.z⟩⟩⟩
    · show fX11_undo M = _
      obtain ⟨o, ho, o1, o2, o3⟩ := hM.2.1.2.1
      unfold fX11_undo
      rw [o2, c, if_pos (show nI 0 = 0 from rfl)]
    · show fX12_undo M = _
      unfold fX12_undo
      rw [wr_eq, hM.z0.2.1.2.1.1, c, if_pos (show nI 0 = 0 from rfl)]
  · refine ⟨setL X (undoL (xL X)), hX.l (undo_ok hL c), Or.inl ⟨nI (lA (xL X) - 1), fun M hM => ?_, fun M hM => ?_⟩⟩
    · obtain ⟨M1, e1, C1, F1, q1⟩ := c_undo hM.2.1 hL c
      obtain ⟨o, ho, o1, o2, o3⟩ := hM.2.1.2.1
      have FF : Fr (scrW ++ scrQ) M M1 := F1.mono (by unfold scrW scrQ; decide)
      refine ⟨M1, ?_, hM.l FF C1, FF.C (by unfold scrW scrQ; decide)⟩
      show fX11_undo M = _
      unfold fX11_undo
      rw [o2, if_neg (show ¬ nI (lA (xL X)) = 0 from fun z => c ((nI_eq (a := lA (xL X)) (b := 0) (by omega) (by decide)).mp z)), e1, bV_ok, q1]
    · have R0 := hM.z (v := 0)
      obtain ⟨hS, ⟨hA, hH⟩, ⟨hm, hQ⟩, hR⟩ := R0.2.1
      show ∃ M1, fX12_undo M = _ ∧ _
      unfold fX12_undo
      rw [wr_eq, hA, if_neg (show ¬ nI (lA (xL X)) = 0 from fun z => c ((nI_eq (a := lA (xL X)) (b := 0) (by omega) (by decide)).mp z)), wr_eq, nI_m1 (by omega), gi_si_s]
      obtain ⟨M2, hM2⟩ : ∃ M2, M2 = si (si M 87 3 0) 87 38 (nI (lA (xL X) - 1)) := ⟨_, rfl⟩
      rw [← hM2]
      have em : 31 * nI (lA (xL X) - 1) = nI (31 * (lA (xL X) - 1)) := pk_mul 31 _
      have F2 : Fr [87] (si M 87 3 0) M2 := by rw [hM2]; exact Fr.rf.wi (by decide)
      have m2 : ∀ k, k ≠ 38 → gi M2 87 k = gi (si M 87 3 0) 87 k := fun k a => by rw [hM2, gi_si_k a]
      obtain ⟨M3, e3, D3, F3, m3⟩ := r_unpack (M := M2) (b := 105) (p := 31 * (lA (xL X) - 1)) ((hH (lA (xL X) - 1) (by omega)).at (fun j _ => F2.i (by decide) _)) (by decide) (by rw [kd105]; omega) (by decide)
      rw [em, e3, bV_ok, m3 38 (by decide), hM2, gi_si_s]
      have FF : Fr scrM (si M 87 3 0) M3 := (F2.mono (by unfold scrM; decide)).tr (F3.mono (by unfold scrM; decide))
      have F23 : Fr [87, 102, 103, 104] (si M 87 3 0) M3 := (F2.mono (by decide)).tr F3
      have mm : ∀ k, k ≠ 38 → k < 31 ∨ 37 < k → gi M3 87 k = gi (si M 87 3 0) 87 k := fun k a b => by rw [m3 k b, m2 k a]
      refine ⟨M3, rfl, by rw [mm 3 (by decide) (by decide), gi_si_s], R0.l FF (fun k hk => mm k (by revert k; decide) (by revert k; decide)) ⟨D3, ⟨by rw [m3 38 (by decide), hM2, gi_si_s]; rfl, fun k hk => ?_⟩, ⟨(mm 39 (by decide) (by decide)).trans hm, ?_⟩, fun k hk => (F23.i (by decide) k).trans (hR k hk)⟩, FrR.rf.z.tr (FF.R (by unfold scrM; decide))⟩
      · have hk : k < lA (xL X) - 1 := hk
        exact (hH k (by omega)).at (fun j _ => F23.i (by decide) _)
      · exact hQ.eq (F23.i (by decide)) (F23.i (by decide)) (F23.i (by decide))
end

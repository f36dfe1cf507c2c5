-- ===== without one; the last place =====
section
variable {X : WX}
theorem a_without (hX : WOk X) (x y : Int32) : Ag (fun M => fX11_without M x y) (fun M => fX12_without M x y) kN X := by
  have hk := hX.1
  have h8 := hk.1.1
  have hO := hX.2.2.1.1.1
  rcases h_cases x (iH (xI X)) (by omega) with ⟨a, ha, rfl⟩ | hx
  · rcases h_cases y (iH (xI X)) (by omega) with ⟨b, hb, rfl⟩ | hy
    · have hz := hO.z (show 0 < iH (xI X) by omega)
      by_cases hab : a = b
      · subst hab
        exact Ag.x hX 2 (Or.inr rfl) (fun M h => by unfold fX11_without; rw [c_needH h.1.1 hk ha, bV_ok, c_needH h.1.1 hk ha, bV_ok, if_pos rfl]) (fun M h => ⟨0, by
          unfold fX12_without
          rw [wr_eq, r_isH h.z0.1 hk ha, bI_ok, if_neg n10, r_isH h.z0.1 hk ha, bI_ok, if_neg n10, if_pos rfl, x2x]
          rfl⟩)
      · refine Ag.t hX (shE (tkS (xI X) (lS (xL X)) (some a) b)) (fun M hM => ?_) (fun M hM => ?_)
        · obtain ⟨M1, e1, D1, F1⟩ := c_try hM hO
          obtain ⟨M2, e2, D2, F2⟩ := c_take (ab := some a) (hM.1.1.fr F1 apQ) hk D1 hO (by decide) (fun h c => by cases c; omega)
          have e2 : fX3_takeShares 62 M1 (nI a) = okV M2 := e2
          refine ⟨M2, ?_, F1.tr (F2.mono (by unfold scrA scrQ; decide))⟩
          show fX11_without M (nI a) (nI b) = _
          unfold fX11_without
          rw [c_needH hM.1.1 hk ha, bV_ok, c_needH hM.1.1 hk hb, bV_ok, if_neg (c_lit (by omega) (by omega) hab), e1, bV_ok, e2, bV_ok, chk_in (by omega) (by decide), ix_nI (by omega), show gi M2 64 b = shE (tkS (xI X) (lS (xL X)) (some a) b) from D2.2.2.1 hz b (by omega)]
        · have R0 := hM.z0
          obtain ⟨M1, e1, R1⟩ := RT.pack R0.2.1.1
          have q1 : gi M1 87 42 = -1 := (R1.2.1 42 (by decide) (by decide)).trans R0.2.2.2.2.2
          have F2 : Fr [87] M1 (si M1 87 42 (nI a)) := Fr.rf.wi (by decide)
          have D2 : DRf (si M1 87 42 (nI a)) (lS (xL X)) := R1.2.2.2.eq (fun k _ h37 => gi_si_k (by omega)) (fun _ => gi_si_a (by decide)) (fun _ => gi_si_a (by decide)) (fun _ => gi_si_a (by decide))
          obtain ⟨M3, e3, D3, F3⟩ := r_take (ab := some a) ((R1.i R0.1).fr F2 (by unfold apart; decide)) hk D2.1 D2.2.1 D2.2.2.2 hO (fun h c => by cases c; omega) gi_si_s
          have F4 : Fr [87, 103, 106, 107] M1 (si M3 87 42 (-1)) := ((F2.mono (by decide)).tr (F3.mono (by unfold scrT; decide))).wi (by decide)
          have D4 : DRf (si M3 87 42 (-1)) (setH (lS (xL X)) (tkS (xI X) (lS (xL X)) (some a))) := D3.eq (fun k _ h37 => gi_si_k (by omega)) (fun _ => gi_si_a (by decide)) (fun _ => gi_si_a (by decide)) (fun _ => gi_si_a (by decide))
          have R4 := R1.go F4 (by decide) (fun k _ _ => by
            by_cases c : k = 42
            · rw [c, gi_si_s, q1]
            · rw [gi_si_k c, F3.i (by decide), gi_si_k c]) D4
          obtain ⟨M5, e5, R5⟩ := R4.un
          refine ⟨M5, ?_, R5⟩
          show fX12_without M (nI a) (nI b) = _
          unfold fX12_without
          rw [wr_eq, r_isH R0.1 hk ha, bI_ok, if_neg n10, r_isH R0.1 hk hb, bI_ok, if_neg n10, if_neg (c_lit (by omega) (by omega) hab), e1, bV_ok, wr_eq, e3, bV_ok, wr_eq, chk_in (by omega) (by decide), e5, bV_ok, ix_nI (by omega), show gi (si M3 87 42 (-1)) 103 b = shE (tkS (xI X) (lS (xL X)) (some a) b) from D4.2.2.1 hz b (by omega)]
    · exact Ag.x hX 1 (Or.inl rfl) (fun M h => by unfold fX11_without; rw [c_needH h.1.1 hk ha, bV_ok, c_needHx h.1.1 hy, bV_x]) (fun M h => ⟨0, by
        unfold fX12_without fX12_without_b21
        rw [wr_eq, r_isH h.z0.1 hk ha, bI_ok, if_neg n10, r_isHx h.z0.1 hk hy, bI_ok, if_pos rfl, x1x]
        rfl⟩)
  · exact Ag.x hX 1 (Or.inl rfl) (fun M h => by unfold fX11_without; rw [c_needHx h.1.1 hx, bV_x]) (fun M h => ⟨0, by
      unfold fX12_without fX12_without_b21
      rw [wr_eq, r_isHx h.z0.1 hk hx, bI_ok, if_pos rfl, x1x]
      rfl⟩)
def lstQ (Q : Nat → Bool) (n : Nat) : Option Nat := foldN (fun t a => if Q t = true then some t else a) n 0 none
theorem lstQ_succ (Q : Nat → Bool) (n : Nat) : lstQ Q (n + 1) = if Q n = true then some n else lstQ Q n := by
  unfold lstQ
  rw [foldN_snoc, Nat.zero_add]
/-- the state, were household at place w moved to t, shares taken -/
def mvS (I : IS) (S : DS) (w t : Nat) : DS := setH (setO S (mvO (dO S) w t)) (tkS I (setO S (mvO (dO S) w t)) none)
def lpQ (I : IS) (S : DS) (h w t : Nat) : Bool := match dH S h with
  | none => true
  | some p => match dH (mvS I S w t) h with
    | none => false
    | some q => decide (¬ wrt I S h q < wrt I S h p)
theorem min_le (v : Int64) : ¬ v < (-9223372036854775808 : Int64) := by
  rw [Int64.lt_iff_toInt_lt]
  have h1 : (-9223372036854775808 : Int64).toInt = -9223372036854775808 := by decide
  have h2 := Int64.le_toInt v
  rw [h1]
  omega
theorem a_lastPlace (hX : WOk X) (x : Int32) : Ag (fun M => fX11_lastPlace M x) (fun M => fX12_lastPlace M x) kA X := by
  have hk := hX.1
  have h8 := hk.1.1
  have h9 := hk.1.2.1
  have hO := hX.2.2.1.1.1
  rcases h_cases x (iH (xI X)) (by omega) with ⟨h, hh, rfl⟩ | hx
  · have hz := hO.z (show 0 < iH (xI X) by omega)
    obtain ⟨w, hw, hwe⟩ := inj_surj (iH (xI X)) (dO (lS (xL X))) hO.2.1.2.2.1 (fun i j hi hj e => hO.2.1.2.1 i j (by omega) (by omega) e) h hh
    have Ot : ∀ t, t < iH (xI X) → DOk (xI X) (setO (lS (xL X)) (mvO (dO (lS (xL X))) w t)) := fun t ht => mv_ok hk hO hw ht
    have Om : ∀ t, t < iH (xI X) → DOk (xI X) (mvS (xI X) (lS (xL X)) w t) := fun t ht => tk_ok hk (Ot t ht) none
    refine Ag.t hX (shE (lstQ (lpQ (xI X) (lS (xL X)) h w) (iH (xI X)))) (fun M hM => ?_) (fun M hM => ?_)
    · have key : ∀ k, k ≤ iH (xI X) → ∀ f, k < f → ∀ M1, Fr scrQ M M1 → ∃ M2, fX11_lastPlace_b38 f M1 (nI h) (ownW (xI X) (lS (xL X)) h (-9223372036854775808)) (nI k - 1) = okI M2 (shE (lstQ (lpQ (xI X) (lS (xL X)) h w) k)) ∧ Fr scrQ M M2 := by
        intro k
        induction k with
        | zero =>
          intro _ f hf M1 F1
          obtain ⟨m, rfl⟩ : ∃ m, f = m + 1 := ⟨f - 1, by omega⟩
          rw [fX11_lastPlace_b38]
          dsimp only
          rw [if_pos (show nI 0 - 1 < 0 by decide)]
          exact ⟨M1, rfl, F1⟩
        | succ k ih =>
          intro hki f hf M1 F1
          obtain ⟨m, rfl⟩ : ∃ m, f = m + 1 := ⟨f - 1, by omega⟩
          obtain ⟨M2, e2, D2, F2⟩ := c_try (hM.q F1) hO
          obtain ⟨M3, e3, D3, F3⟩ := c_move (w := w) (t := k) D2 hO hz (by omega) (by omega)
          have F13 : Fr scrQ M M3 := (F1.tr F2).tr (F3.mono (by unfold scrQ; decide))
          obtain ⟨M4, e4, D4, F4⟩ := c_retry hM hX F13 D3 (Ot k (by omega))
          have D4 : DC 62 M4 (mvS (xI X) (lS (xL X)) w k) := D4
          obtain ⟨M5, e5, F5⟩ := c_wos (hM.1.1.fr F4 apQ) hk D4 (Om k (by omega)) (by decide) hh (-9223372036854775808)
          have F15 := F4.tr (scrQ_c F5)
          rw [hwe] at e3
          rw [fX11_lastPlace_b38]
          dsimp only
          rw [nI_m1 (by omega), show k + 1 - 1 = k by omega, if_neg (nI_pos (by omega)), e2, bV_ok, e3, bV_ok, e4, bV_ok, e5, bL_ok, lstQ_succ, show nI k + (-1) = nI k - 1 from (Int32.sub_eq_add_neg _ _).symm]
          have go : lpQ (xI X) (lS (xL X)) h w k = true → ¬ ownW (xI X) (mvS (xI X) (lS (xL X)) w k) h (-9223372036854775808) < ownW (xI X) (lS (xL X)) h (-9223372036854775808) := by
            unfold lpQ ownW
            cases hp : dH (lS (xL X)) h with
            | none => intro _; exact min_le _
            | some p =>
              cases hq : dH (mvS (xI X) (lS (xL X)) w k) h with
              | none => intro c; cases c
              | some q =>
                intro c z
                have c : ¬ wrt (xI X) (lS (xL X)) h q < wrt (xI X) (lS (xL X)) h p := of_decide_eq_true c
                exact c (Int32.toInt64_lt.mp z)
          have no : ¬ lpQ (xI X) (lS (xL X)) h w k = true → ownW (xI X) (mvS (xI X) (lS (xL X)) w k) h (-9223372036854775808) < ownW (xI X) (lS (xL X)) h (-9223372036854775808) := by
            unfold lpQ ownW
            cases hp : dH (lS (xL X)) h with
            | none => intro c; exact absurd rfl c
            | some p =>
              cases hq : dH (mvS (xI X) (lS (xL X)) w k) h with
              | none => intro _; exact min_lt _
              | some q =>
                intro c
                by_cases c2 : wrt (xI X) (lS (xL X)) h q < wrt (xI X) (lS (xL X)) h p
                · exact Int32.toInt64_lt.mpr c2
                · exact absurd (decide_eq_true c2) c
          by_cases c : lpQ (xI X) (lS (xL X)) h w k = true
          · rw [if_neg (fun z => go c ((lg_cmp_lt _ _).mp z)), if_pos c]
            exact ⟨M5, rfl, F15⟩
          · rw [if_pos ((lg_cmp_lt _ _).mpr (no c)), if_neg c]
            exact ih (by omega) m (by omega) M5 F15
      obtain ⟨M1, e1, F1⟩ := c_wos hM.1.1 hk hM.2.1.1 hO (by decide) hh (-9223372036854775808)
      obtain ⟨M2, e2, F2⟩ := key (iH (xI X)) (Nat.le_refl _) FU (FU_gt (by omega)) M1 (scrQ_c F1)
      refine ⟨M2, ?_, F2⟩
      show fX11_lastPlace M (nI h) = _
      unfold fX11_lastPlace
      rw [c_needH hM.1.1 hk hh, bV_ok, e1, bL_ok, (hM.1.1.fr F1 apS).1.1]
      exact e2
    · have R0 := hM.z0
      obtain ⟨M1, e1, R1⟩ := RT.pack R0.2.1.1
      have q1 : gi M1 103 h = shE (dH (lS (xL X)) h) := R1.2.2.2.2.2.1 hz h (by omega)
      obtain ⟨M2, R2, e2⟩ := loopI (fun f M t (a : Option Nat) => fX12_lastPlace_b40 f M (nI h) (shE (dH (lS (xL X)) h)) (shE a) (nI t)) (fun t M' a => RT (si M 87 3 0) (lS (xL X)) M' (lS (xL X))) (iH (xI X)) (fun t a => if lpQ (xI X) (lS (xL X)) h w t = true then some t else a) (fun M a => okI M (shE a))
        (by
          intro f M2 t a R2 ht
          have I2 := R2.i R0.1
          obtain ⟨M3, e3, D3, F3⟩ := r_move (w := w) (t := t) I2 hk R2.2.2.2 hO ((R2.2.1 42 (by decide) (by decide)).trans R0.2.2.2.2.2) hw ht
          have D3 : DRf M3 (mvS (xI X) (lS (xL X)) w t) := D3
          have R3 := R2.go F3 (by unfold scrV; decide) (fun k _ _ => F3.i (by decide) k) D3
          have q3 : gi M3 103 h = shE (dH (mvS (xI X) (lS (xL X)) w t) h) := D3.2.2.1 (Om t ht |>.z (by omega)) h (by omega)
          rw [hwe] at e3
          rw [fX12_lastPlace_b40]
          dsimp only
          unfold fX12_lastPlace_b94 fX12_lastPlace_b97
          rw [I2.1.1, if_pos (nI_lt ht (by omega)), e3, bI_ok, nI_p1]
          unfold lpQ
          cases hp : dH (lS (xL X)) h with
          | none =>
            obtain ⟨M4, e4, R4⟩ := R3.un
            rw [if_pos (show shE none = -1 from rfl), e4, bV_ok, if_pos rfl]
            exact ⟨M4, R4, rfl⟩
          | some p =>
            have hpi := hO.2.2.1 h p (by omega) hp
            rw [if_neg (sh_m1 (show p < 1000 by omega)), chk_in (by omega) (by decide), ix_nI (by omega), q3]
            cases hq : dH (mvS (xI X) (lS (xL X)) w t) h with
            | none =>
              obtain ⟨M4, e4, R4⟩ := R3.un
              rw [if_pos (show shE none = -1 from rfl), e4, bV_ok, if_neg (fun z => by cases z)]
              exact ⟨M4, R4, rfl⟩
            | some q =>
              have hqi := (Om t ht).2.2.1 h q (by omega) hq
              obtain ⟨M4, e4, F4⟩ := r_worth (R3.i R0.1) hk D3.1 (Om t ht).1.1 hh hqi
              have R4 := R3.go F4 (by unfold scrR; decide) (fun k _ _ => F4.i (by decide) k) (D3.fr F4 apRd)
              obtain ⟨M5, e5, F5⟩ := r_worth (R4.i R0.1) hk R4.2.2.2.1 (Om t ht).1.1 hh hpi
              have R5 := R4.go F5 (by unfold scrR; decide) (fun k _ _ => F5.i (by decide) k) (R4.2.2.2.fr F5 apRd)
              obtain ⟨M6, e6, R6⟩ := R5.un
              rw [if_neg (sh_m1 (show q < 1000 by omega)), chk_in (by omega) (by decide), show shE (some q) = nI q from rfl, e4, bI_ok, show shE (some p) = nI p from rfl, e5, bI_ok, e6, bV_ok, bV_ok]
              have wq : wrt (xI X) (mvS (xI X) (lS (xL X)) w t) h q = wrt (xI X) (lS (xL X)) h q := rfl
              have wp : wrt (xI X) (mvS (xI X) (lS (xL X)) w t) h p = wrt (xI X) (lS (xL X)) h p := rfl
              rw [wq, wp]
              by_cases c : wrt (xI X) (lS (xL X)) h q < wrt (xI X) (lS (xL X)) h p
              · have dc : ¬ decide (¬ wrt (xI X) (lS (xL X)) h q < wrt (xI X) (lS (xL X)) h p) = true := by simpa using c
                rw [if_pos c, if_neg dc]
                exact ⟨M6, R6, rfl⟩
              · have dc : decide (¬ wrt (xI X) (lS (xL X)) h q < wrt (xI X) (lS (xL X)) h p) = true := by simpa using c
                rw [if_neg c, if_pos dc]
                exact ⟨M6, R6, rfl⟩)
        (by
          intro f M2 a R2
          rw [fX12_lastPlace_b40]
          dsimp only
          rw [(R2.i R0.1).1.1, if_neg (nI_nlt (Nat.le_refl _) (by omega))])
        (iH (xI X)) 0 (by omega) FU (FU_gt (by omega)) M1 none R1
      refine ⟨M2, ?_, R2⟩
      show fX12_lastPlace M (nI h) = _
      unfold fX12_lastPlace
      rw [wr_eq, r_isH R0.1 hk hh, bI_ok, if_neg n10, e1, bV_ok, chk_in (by omega) (by decide), ix_nI (by omega), q1]
      exact e2
  · exact Ag.x hX 1 (Or.inl rfl) (fun M h => by unfold fX11_lastPlace; rw [c_needHx h.1.1 hx, bV_x]) (fun M h => ⟨0, by
      unfold fX12_lastPlace
      rw [wr_eq, r_isHx h.z0.1 hk hx, bI_ok, if_pos rfl, x1x]
      rfl⟩)
end

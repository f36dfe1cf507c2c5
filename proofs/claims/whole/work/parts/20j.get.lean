-- ===== plots, worth, harvest, what is seen =====
section
variable {X : WX}
theorem c_lit {a b : Nat} (ha : a < 2 ^ 31) (hb : b < 2 ^ 31) (h : a ≠ b) : ¬ nI a = nI b := fun c => h ((nI_eq ha hb).mp c)
theorem a_plot (hX : WOk X) (x y : Int32) : Ag (fun M => fX11_plot M x y) (fun M => fX12_plot M x y) kA X := by
  have hk := hX.1
  have h8 := hk.1.1
  have h9 := hk.1.2.1
  have hO := hX.2.2.1.1.1
  rcases h_cases x (iP (xI X)) (by omega) with ⟨p, hp, rfl⟩ | hx
  · by_cases cy : y < 0 ∨ 4 < y
    · have n0 : ¬ y = 0 := fun e => by rw [e] at cy; exact absurd cy (by decide)
      have n1 : ¬ y = 1 := fun e => by rw [e] at cy; exact absurd cy (by decide)
      have n2 : ¬ y = 2 := fun e => by rw [e] at cy; exact absurd cy (by decide)
      have n3 : ¬ y = 3 := fun e => by rw [e] at cy; exact absurd cy (by decide)
      have n4 : ¬ y = 4 := fun e => by rw [e] at cy; exact absurd cy (by decide)
      exact Ag.x hX 1 (Or.inl rfl) (fun M h => by unfold fX11_plot; rw [c_needP h.1.1 hk hp, bV_ok, if_neg n0, if_neg n1, if_neg n2, if_neg n3, if_neg n4]) (fun M h => ⟨0, by
        unfold fX12_plot fX12_plot_b25
        rw [wr_eq, r_isP h.z0.1 hk hp, bI_ok, if_neg (show ¬ (1 : Int32) = 0 by decide), r_is2x (a := 0) (b := 4) (by decide) (by decide) cy, bI_ok, if_pos rfl, x1x]
        rfl⟩)
    · have hc : ∀ M, CI M X → ∀ r : RS, (bV (fX11_needPlot M (nI p)) (fun _ => r) : RS) = r := fun M h r => by rw [c_needP h.1.1 hk hp, bV_ok]
      have hr : ∀ M, RI M X → fX12_isIn (si M 87 3 0) y.toInt64 0 4 = okI (si M 87 3 0) 1 := fun M h => r_is2 (a := 0) (b := 4) (by decide) (by decide) (fun z => cy (Or.inl z)) (fun z => cy (Or.inr z))
      have n10 : ¬ (1 : Int32) = 0 := by decide
      by_cases c0 : y = 0
      · refine Ag.p hX (iA (xI X) 3 p) (fun M h => ⟨M, ?_, Fr.rf⟩) (fun M h => ⟨si M 87 3 0, ?_, Fr.rf⟩)
        · show fX11_plot M (nI p) y = _
          unfold fX11_plot
          rw [c_needP h.1.1 hk hp, bV_ok, if_pos c0, chk_in (by omega) (by decide), ix_nI (by omega), (h.1.1.2.2.1 p hp).1]
        · show fX12_plot M (nI p) y = _
          unfold fX12_plot
          rw [wr_eq, r_isP h.z0.1 hk hp, bI_ok, if_neg n10, hr M h, bI_ok, if_neg n10, if_pos c0, chk_in (by omega) (by decide), ix_nI (by omega), (h.z0.1.2.2.1 p hp).1]
      · by_cases c1 : y = 1
        · refine Ag.p hX (iA (xI X) 4 p) (fun M h => ⟨M, ?_, Fr.rf⟩) (fun M h => ⟨si M 87 3 0, ?_, Fr.rf⟩)
          · show fX11_plot M (nI p) y = _
            unfold fX11_plot
            rw [c_needP h.1.1 hk hp, bV_ok, if_neg c0, if_pos c1, chk_in (by omega) (by decide), ix_nI (by omega), (h.1.1.2.2.1 p hp).2.1]
          · show fX12_plot M (nI p) y = _
            unfold fX12_plot
            rw [wr_eq, r_isP h.z0.1 hk hp, bI_ok, if_neg n10, hr M h, bI_ok, if_neg n10, if_neg c0, if_pos c1, chk_in (by omega) (by decide), ix_nI (by omega), (h.z0.1.2.2.1 p hp).2.1]
        · by_cases c2 : y = 2
          · refine Ag.p hX (iA (xI X) 5 p) (fun M h => ⟨M, ?_, Fr.rf⟩) (fun M h => ⟨si M 87 3 0, ?_, Fr.rf⟩)
            · show fX11_plot M (nI p) y = _
              unfold fX11_plot
              rw [c_needP h.1.1 hk hp, bV_ok, if_neg c0, if_neg c1, if_pos c2, chk_in (by omega) (by decide), ix_nI (by omega), (h.1.1.2.2.1 p hp).2.2]
            · show fX12_plot M (nI p) y = _
              unfold fX12_plot
              rw [wr_eq, r_isP h.z0.1 hk hp, bI_ok, if_neg n10, hr M h, bI_ok, if_neg n10, if_neg c0, if_neg c1, if_pos c2, chk_in (by omega) (by decide), ix_nI (by omega), (h.z0.1.2.2.1 p hp).2.2]
          · by_cases c3 : y = 3
            · refine Ag.p hX (wlk (xI X) (dX (lS (xL X))) (dY (lS (xL X))) p) (fun M h => ⟨M, ?_, Fr.rf⟩) (fun M h => ⟨si M 87 3 0, ?_, Fr.rf⟩)
              · show fX11_plot M (nI p) y = _
                unfold fX11_plot
                rw [c_needP h.1.1 hk hp, bV_ok, if_neg c0, if_neg c1, if_neg c2, if_pos c3, c_walk h.1.1 hk hp h.2.1.1.1.2.2.1 h.2.1.1.1.2.2.2.1, bI_ok]
              · show fX12_plot M (nI p) y = _
                unfold fX12_plot
                rw [wr_eq, r_isP h.z0.1 hk hp, bI_ok, if_neg n10, hr M h, bI_ok, if_neg n10, if_neg c0, if_neg c1, if_neg c2, if_pos c3, r_walk h.z0.1 hk h.z0.2.1.1.1 hp, bI_ok]
            · have c4 : y = 4 := by
                rcases w_cases y 0 4 (by decide) (by decide) with ⟨n, _, hn, rfl⟩ | z
                · have : n = 0 ∨ n = 1 ∨ n = 2 ∨ n = 3 ∨ n = 4 := by omega
                  rcases this with rfl | rfl | rfl | rfl | rfl
                  · exact absurd rfl c0
                  · exact absurd rfl c1
                  · exact absurd rfl c2
                  · exact absurd rfl c3
                  · rfl
                · exact absurd z cy
              refine Ag.p hX (shE (ownF (dH (lS (xL X))) p (iH (xI X)) 0)) (fun M h => ⟨M, ?_, Fr.rf⟩) (fun M h => ⟨si M 87 3 0, ?_, Fr.rf⟩)
              · show fX11_plot M (nI p) y = _
                unfold fX11_plot
                rw [c_needP h.1.1 hk hp, bV_ok, if_neg c0, if_neg c1, if_neg c2, if_neg c3, if_pos c4, c_owner h.1.1 hk (fun x hx => h.2.1.1.2.2.1 (hO.z (by omega)) x (by omega)) (fun x q hx e => by have := hO.2.2.1 x q hx e; omega) (by omega), bI_ok]
              · show fX12_plot M (nI p) y = _
                unfold fX12_plot
                rw [wr_eq, r_isP h.z0.1 hk hp, bI_ok, if_neg n10, hr M h, bI_ok, if_neg n10, if_neg c0, if_neg c1, if_neg c2, if_neg c3, r_owner h.z0.1 hk (fun x hx => h.z0.2.1.1.2.2.1 (hO.z (by omega)) x (by omega)) (fun x q hx e => by have := hO.2.2.1 x q hx e; omega) (by omega), bI_ok]
  · exact Ag.x hX 1 (Or.inl rfl) (fun M h => by unfold fX11_plot; rw [c_needPx h.1.1 hx, bV_x]) (fun M h => ⟨0, by
      unfold fX12_plot fX12_plot_b25
      rw [wr_eq, r_isPx h.z0.1 hk hx, bI_ok, if_pos rfl, x1x]
      rfl⟩)
theorem a_worth (hX : WOk X) (x y : Int32) : Ag (fun M => fX11_worth M x y) (fun M => fX12_worth M x y) kA X := by
  have hk := hX.1
  have h8 := hk.1.1
  have h9 := hk.1.2.1
  have hO := hX.2.2.1.1.1
  have n10 : ¬ (1 : Int32) = 0 := by decide
  rcases h_cases x (iH (xI X)) (by omega) with ⟨a, ha, rfl⟩ | hx
  · rcases h_cases y (iP (xI X)) (by omega) with ⟨p, hp, rfl⟩ | hy
    · refine Ag.p hX (wrt (xI X) (lS (xL X)) a p) (fun M h => ?_) (fun M h => ?_)
      · obtain ⟨M1, e1, F1⟩ := c_worth h.1.1 hk h.2.1.1.1 hO.1.1 (by decide) ha hp
        refine ⟨M1, ?_, scrQ_c F1⟩
        show fX11_worth M (nI a) (nI p) = _
        unfold fX11_worth
        rw [c_needH h.1.1 hk ha, bV_ok, c_needP h.1.1 hk hp, bV_ok, e1, bI_ok]
      · obtain ⟨M1, e1, F1⟩ := r_worth h.z0.1 hk h.z0.2.1.1.1 hO.1.1 ha hp
        refine ⟨M1, ?_, scrP_r F1⟩
        show fX12_worth M (nI a) (nI p) = _
        unfold fX12_worth
        rw [wr_eq, r_isH h.z0.1 hk ha, bI_ok, if_neg n10, r_isP h.z0.1 hk hp, bI_ok, if_neg n10, e1, bI_ok]
    · exact Ag.x hX 1 (Or.inl rfl) (fun M h => by unfold fX11_worth; rw [c_needH h.1.1 hk ha, bV_ok, c_needPx h.1.1 hy, bV_x]) (fun M h => ⟨0, by
        unfold fX12_worth fX12_worth_b30
        rw [wr_eq, r_isH h.z0.1 hk ha, bI_ok, if_neg n10, r_isPx h.z0.1 hk hy, bI_ok, if_pos rfl, x1x]
        rfl⟩)
  · exact Ag.x hX 1 (Or.inl rfl) (fun M h => by unfold fX11_worth; rw [c_needHx h.1.1 hx, bV_x]) (fun M h => ⟨0, by
      unfold fX12_worth fX12_worth_b30
      rw [wr_eq, r_isHx h.z0.1 hk hx, bI_ok, if_pos rfl, x1x]
      rfl⟩)
theorem a_harvest (hX : WOk X) (x y t : Int32) : Ag (fun M => fX11_harvest M x y t) (fun M => fX12_harvest M x y t) kN X := by
  have hk := hX.1
  have h8 := hk.1.1
  have h9 := hk.1.2.1
  have hO := hX.2.2.1.1.1
  have n10 : ¬ (1 : Int32) = 0 := by decide
  rcases h_cases x (iH (xI X)) (by omega) with ⟨a, ha, rfl⟩ | hx
  · rcases h_cases y (iP (xI X)) (by omega) with ⟨p, hp, rfl⟩ | hy
    · rcases w_cases t 0 999 (by decide) (by decide) with ⟨n, _, hn, rfl⟩ | ht
      · refine Ag.p hX (crp (xI X) (lS (xL X)) (bitN (dL (lS (xL X))) a) a p n) (fun M h => ?_) (fun M h => ?_)
        · obtain ⟨M1, e1, F1⟩ := c_crop (lot := bitN (dL (lS (xL X))) a) (yr := n) h.1.1 hk h.2.1.1.1 (by decide) ha hp (bitN_2 _ _) (by omega)
          refine ⟨M1, ?_, scrQ_c F1⟩
          show fX11_harvest M (nI a) (nI p) (nI n) = _
          unfold fX11_harvest
          rw [c_needH h.1.1 hk ha, bV_ok, c_needP h.1.1 hk hp, bV_ok, c_with (nI_pos (by omega)) (ngtL 999 hn (by decide)), bV_ok, c_lot h.2.1.1.1 hO.1.1 (by omega), bI_ok, e1, bI_ok]
        · obtain ⟨M1, e1, F1⟩ := r_harv (yr := n) h.z0.1 hk h.z0.2.1.1.1 hO.1.1 ha hp (by omega)
          refine ⟨M1, ?_, scrP_r F1⟩
          show fX12_harvest M (nI a) (nI p) (nI n) = _
          unfold fX12_harvest
          rw [wr_eq, r_isH h.z0.1 hk ha, bI_ok, if_neg n10, r_isP h.z0.1 hk hp, bI_ok, if_neg n10, r_inN (lo := 0) (hi := 999) (by decide) (by decide) (by omega) hn (by decide), bI_ok, if_neg n10, e1, bI_ok]
      · exact Ag.x hX 2 (Or.inr rfl) (fun M h => by unfold fX11_harvest; rw [c_needH h.1.1 hk ha, bV_ok, c_needP h.1.1 hk hp, bV_ok, c_withx (a := 0) (b := 999) ht, bV_x]) (fun M h => ⟨0, by
          unfold fX12_harvest
          rw [wr_eq, r_isH h.z0.1 hk ha, bI_ok, if_neg n10, r_isP h.z0.1 hk hp, bI_ok, if_neg n10, r_inX (lo := 0) (hi := 999) (by decide) (by decide) ht, bI_ok, if_pos rfl, x2x]
          rfl⟩)
    · exact Ag.x hX 1 (Or.inl rfl) (fun M h => by unfold fX11_harvest; rw [c_needH h.1.1 hk ha, bV_ok, c_needPx h.1.1 hy, bV_x]) (fun M h => ⟨0, by
        unfold fX12_harvest fX12_harvest_b21
        rw [wr_eq, r_isH h.z0.1 hk ha, bI_ok, if_neg n10, r_isPx h.z0.1 hk hy, bI_ok, if_pos rfl, x1x]
        rfl⟩)
  · exact Ag.x hX 1 (Or.inl rfl) (fun M h => by unfold fX11_harvest; rw [c_needHx h.1.1 hx, bV_x]) (fun M h => ⟨0, by
      unfold fX12_harvest fX12_harvest_b21
      rw [wr_eq, r_isHx h.z0.1 hk hx, bI_ok, if_pos rfl, x1x]
      rfl⟩)
def seeL (L : LV) (a y v : Nat) : LV := (lS L, (lA L, lH L), (lM L + 1, fun k => if k = lM L then (a, y, v) else lQ L k), lR L)
theorem a_see (hX : WOk X) (x y v : Int32) : Ag (fun M => fX11_see M x y v) (fun M => fX12_see M x y v) kA X := by
  have hk := hX.1
  have h8 := hk.1.1
  have hL := hX.2.2.1
  have hm8 := hL.2.2.1
  have n10 : ¬ (1 : Int32) = 0 := by decide
  rcases h_cases x (iH (xI X)) (by omega) with ⟨a, ha, rfl⟩ | hx
  · have key : ((y < 0 ∨ 99 < y) ∨ (v < 0 ∨ 99 < v)) ∨ lM (xL X) = 8 → Ag (fun M => fX11_see M (nI a) y v) (fun M => fX12_see M (nI a) y v) kA X := by
      intro c
      refine ⟨setL X (refL (xL X) 2), hX.l (ref_ok hL), Or.inl ⟨-1, fun M hM => ?_, fun M hM => ?_⟩⟩
      · obtain ⟨M1, e1, R1, f1⟩ := refC hM (k := 2) (by decide)
        refine ⟨M1, ?_, R1, f1⟩
        have e : fX11_see_b52 M = okI M1 (-1) := by
          unfold fX11_see_b52
          rw [show fX11_refuse M 2 = okI M1 (-1) from e1, bI_ok]
        show fX11_see M (nI a) y v = _
        unfold fX11_see fX11_see_b29 fX11_see_b30
        rw [c_needH hM.1.1 hk ha, bV_ok, e, if_pos rfl]
        by_cases c1 : y < 0
        · rw [if_pos c1]
        · by_cases c2 : 99 < y
          · rw [if_neg c1, if_pos c2]
          · by_cases c3 : v < 0
            · rw [if_neg c1, if_neg c2, if_pos c3]
            · by_cases c4 : 99 < v
              · rw [if_neg c1, if_neg c2, if_neg c3, if_pos c4]
              · have c5 : lM (xL X) = 8 := c.resolve_left (fun z => z.elim (fun z => z.elim c1 c2) (fun z => z.elim c3 c4))
                rw [if_neg c1, if_neg c2, if_neg c3, if_neg c4, if_neg n10, hM.2.1.2.2.1.1, c5, if_neg (show ¬ nI 8 < 8 by decide)]
      · obtain ⟨M1, e1, z1, R1, f1⟩ := refR hM (k := 2) (by decide)
        refine ⟨M1, ?_, z1, R1, f1⟩
        have e : fX12_see_b52 (si M 87 3 0) = okI M1 (-1) := by
          unfold fX12_see_b52
          rw [show fX12_refuse (si M 87 3 0) 2 = okI M1 (-1) from e1, bI_ok]
        show fX12_see M (nI a) y v = _
        unfold fX12_see
        rw [wr_eq, r_isH hM.z0.1 hk ha, bI_ok, if_neg n10, hM.z0.2.1.2.2.1.1, e]
        by_cases c5 : lM (xL X) = 8
        · rw [c5, if_pos (show nI 8 = 8 from rfl)]
        · have c6 := c.resolve_right c5
          rw [if_neg (show ¬ nI (lM (xL X)) = 8 from c_lit (b := 8) (by omega) (by decide) c5)]
          by_cases c1 : y < 0 ∨ 99 < y
          · rw [r_is2x (a := 0) (b := 99) (by decide) (by decide) c1, bI_ok, if_pos rfl, e]
          · rw [r_is2 (a := 0) (b := 99) (by decide) (by decide) (fun z => c1 (Or.inl z)) (fun z => c1 (Or.inr z)), bI_ok, if_neg n10, r_is2x (a := 0) (b := 99) (by decide) (by decide) (c6.resolve_left c1), bI_ok, if_pos rfl, e]
    rcases w_cases y 0 99 (by decide) (by decide) with ⟨yn, _, hy, rfl⟩ | hy
    · rcases w_cases v 0 99 (by decide) (by decide) with ⟨vn, _, hv, rfl⟩ | hv
      · by_cases c5 : lM (xL X) = 8
        · exact key (Or.inr c5)
        · refine ⟨setL X (seeL (xL X) a yn vn), hX.l ⟨hL.1, hL.2.1, (by omega : lM (xL X) + 1 ≤ 8), fun k hk9 => ?_⟩, Or.inl ⟨nI (lM (xL X) + 1), fun M hM => ?_, fun M hM => ?_⟩⟩
          · have hk9 : k < lM (xL X) + 1 := hk9
            show (if k = lM (xL X) then (a, yn, vn) else lQ (xL X) k).1 < 8 ∧ (if k = lM (xL X) then (a, yn, vn) else lQ (xL X) k).2.1 ≤ 99 ∧ (if k = lM (xL X) then (a, yn, vn) else lQ (xL X) k).2.2 ≤ 99
            by_cases e : k = lM (xL X)
            · rw [if_pos e]; exact ⟨by omega, hy, hv⟩
            · rw [if_neg e]; exact hL.2.2.2 k (by omega)
          · show ∃ M1, fX11_see M (nI a) (nI yn) (nI vn) = _ ∧ _
            obtain ⟨hS, hH, ⟨q3, hQ⟩, hR⟩ := hM.2.1
            unfold fX11_see fX11_see_b30 fX7_add
            rw [c_needH hM.1.1 hk ha, bV_ok, if_neg (nI_pos (by omega)), if_neg (ngtL 99 hy (by decide)), if_neg (nI_pos (by omega)), if_neg (ngtL 99 hv (by decide)), if_neg n10, q3, if_pos (ltL 8 (by omega) (by decide))]
            have hlt8 : nI (lM (xL X)) < 8 := ltL 8 (by omega) (by decide)
            simp only [if_pos hlt8, chk_in (show lM (xL X) < 8 by omega) (show 8 < 2 ^ 31 by decide), wr_eq, gi_si_a (show (45 : Nat) ≠ 46 by decide), gi_si_a (show (45 : Nat) ≠ 47 by decide), gi_si_a (show (45 : Nat) ≠ 48 by decide), q3, ix_nI (show lM (xL X) < 2 ^ 31 by omega), nI_p1, bV_ok, gi_si_s]
            obtain ⟨M3, hM3⟩ : ∃ M3, M3 = si (si (si (si M 46 (lM (xL X)) (nI a)) 47 (lM (xL X)) (nI yn)) 48 (lM (xL X)) (nI vn)) 45 3 (nI (lM (xL X) + 1)) := ⟨_, rfl⟩
            rw [← hM3]
            have F3 : Fr [45, 46, 47, 48] M M3 := by rw [hM3]; exact (((Fr.rf.wi (by decide)).wi (by decide)).wi (by decide)).wi (by decide)
            have FF : Fr (scrW ++ scrQ) M M3 := F3.mono (by unfold scrW scrQ; decide)
            refine ⟨M3, rfl, hM.l FF ⟨hS.eq (F3.i (by decide)) (F3.i (by decide)) (F3.i (by decide)) (F3.i (by decide)), ?_, ⟨?_, fun k hk9 => ?_⟩, fun k hk9 => (F3.i (by decide) k).trans (hR k hk9)⟩, FF.C (by unfold scrW scrQ; decide)⟩
            · have := hH.eq (M' := M3) (F3.i (by decide)) (F3.i (by decide)); exact this
            · rw [hM3, gi_si_s]; rfl
            · have hk9 : k < lM (xL X) + 1 := hk9
              show gi M3 46 k = nI (if k = lM (xL X) then (a, yn, vn) else lQ (xL X) k).1 ∧ gi M3 47 k = nI (if k = lM (xL X) then (a, yn, vn) else lQ (xL X) k).2.1 ∧ gi M3 48 k = nI (if k = lM (xL X) then (a, yn, vn) else lQ (xL X) k).2.2
              rw [hM3]
              by_cases e : k = lM (xL X)
              · rw [if_pos e, e]; simp [gi_si]
              · rw [if_neg e]
                have := hQ k (by omega)
                simp only [gi_si_a (show (46 : Nat) ≠ 45 by decide), gi_si_a (show (47 : Nat) ≠ 45 by decide), gi_si_a (show (48 : Nat) ≠ 45 by decide), gi_si_k e]
                exact this
          · show ∃ M1, fX12_see M (nI a) (nI yn) (nI vn) = _ ∧ _
            have R0 := hM.z0
            obtain ⟨hS, ⟨hA, hH⟩, ⟨q3, hQ⟩, hR⟩ := R0.2.1
            unfold fX12_see
            rw [wr_eq, r_isH R0.1 hk ha, bI_ok, if_neg n10, q3, if_neg (show ¬ nI (lM (xL X)) = 8 from c_lit (b := 8) (by omega) (by decide) c5), r_inN (lo := 0) (hi := 99) (by decide) (by decide) (by omega) hy (by decide), bI_ok, if_neg n10, r_inN (lo := 0) (hi := 99) (by decide) (by decide) (by omega) hv (by decide), bI_ok, if_neg n10]
            simp only [chk_in (show lM (xL X) < 8 by omega) (show 8 < 2 ^ 31 by decide), wr_eq, gi_si_a (show (87 : Nat) ≠ 112 by decide), gi_si_a (show (87 : Nat) ≠ 113 by decide), gi_si_a (show (87 : Nat) ≠ 114 by decide), q3, ix_nI (show lM (xL X) < 2 ^ 31 by omega), nI_p1, gi_si_s]
            obtain ⟨M3, hM3⟩ : ∃ M3, M3 = si (si (si (si (si M 87 3 0) 112 (lM (xL X)) (nI a)) 113 (lM (xL X)) (nI yn)) 114 (lM (xL X)) (nI vn)) 87 39 (nI (lM (xL X) + 1)) := ⟨_, rfl⟩
            rw [← hM3]
            have F3 : Fr [87, 112, 113, 114] (si M 87 3 0) M3 := by rw [hM3]; exact (((Fr.rf.wi (by decide)).wi (by decide)).wi (by decide)).wi (by decide)
            have m3 : ∀ k, k ≠ 39 → gi M3 87 k = gi (si M 87 3 0) 87 k := fun k e => by rw [hM3, gi_si_k e, gi_si_a (by decide), gi_si_a (by decide), gi_si_a (by decide)]
            have FF : Fr scrM (si M 87 3 0) M3 := F3.mono (by unfold scrM; decide)
            refine ⟨M3, rfl, (m3 3 (by decide)).trans gi_si_s, R0.l FF (fun k hk9 => m3 k (by revert k; decide)) ⟨hS.eq (fun k _ h37 => m3 k (by omega)) (F3.i (by decide)) (F3.i (by decide)) (F3.i (by decide)), ⟨(m3 38 (by decide)).trans hA, ?_⟩, ⟨?_, fun k hk9 => ?_⟩, fun k hk9 => (F3.i (by decide) k).trans (hR k hk9)⟩, FrR.rf.z.tr (FF.R (by unfold scrM; decide))⟩
            · have := hH.eq (M' := M3) (F3.i (by decide)); exact this
            · rw [hM3, gi_si_s]; rfl
            · have hk9 : k < lM (xL X) + 1 := hk9
              show gi M3 112 k = nI (if k = lM (xL X) then (a, yn, vn) else lQ (xL X) k).1 ∧ gi M3 113 k = nI (if k = lM (xL X) then (a, yn, vn) else lQ (xL X) k).2.1 ∧ gi M3 114 k = nI (if k = lM (xL X) then (a, yn, vn) else lQ (xL X) k).2.2
              rw [hM3]
              by_cases e : k = lM (xL X)
              · rw [if_pos e, e]; simp [gi_si]
              · rw [if_neg e]
                have := hQ k (by omega)
                simp only [gi_si_a (show (112 : Nat) ≠ 87 by decide), gi_si_a (show (113 : Nat) ≠ 87 by decide), gi_si_a (show (114 : Nat) ≠ 87 by decide), gi_si_k e]
                exact this
      · exact key (Or.inl (Or.inr hv))
    · exact key (Or.inl (Or.inl hy))
  · exact Ag.x hX 1 (Or.inl rfl) (fun M h => by unfold fX11_see; rw [c_needHx h.1.1 hx, bV_x]) (fun M h => ⟨0, by
      unfold fX12_see
      rw [wr_eq, r_isHx h.z0.1 hk hx, bI_ok, if_pos rfl, x1x]
      rfl⟩)
/-- both sides of a call that answers nothing -/
def AgV (cf rf : Mem → RS) (X : WX) : Prop := ∃ X', WOk X' ∧ (∀ M, CI M X → ∃ M1, cf M = okV M1 ∧ CI M1 X' ∧ FrC M M1) ∧ ∀ M, RI M X → ∃ M2, rf M = okV M2 ∧ RI M2 X' ∧ FrR M M2
def forL (L : LV) : LV := (lS L, (lA L, lH L), (0, lQ L), lR L)
theorem a_forget (hX : WOk X) : AgV (fun M => fX11_forget M) (fun M => fX12_forget M) X := by
  have hL := hX.2.2.1
  refine ⟨setL X (forL (xL X)), hX.l ⟨hL.1, hL.2.1, Nat.zero_le _, fun k hk => absurd hk (Nat.not_lt_zero _)⟩, fun M hM => ?_, fun M hM => ?_⟩
  · obtain ⟨hS, hH, ⟨q3, hQ⟩, hR⟩ := hM.2.1
    have F3 : Fr [45] M (si M 45 3 0) := Fr.rf.wi (by decide)
    have FF : Fr (scrW ++ scrQ) M (si M 45 3 0) := F3.mono (by unfold scrW scrQ; decide)
    refine ⟨si M 45 3 0, rfl, hM.l FF ⟨hS.eq (F3.i (by decide)) (F3.i (by decide)) (F3.i (by decide)) (F3.i (by decide)), ?_, ⟨gi_si_s, fun k hk => absurd hk (Nat.not_lt_zero _)⟩, fun k hk9 => (F3.i (by decide) k).trans (hR k hk9)⟩, FF.C (by unfold scrW scrQ; decide)⟩
    have := hH.eq (M' := si M 45 3 0) (F3.i (by decide)) (F3.i (by decide)); exact this
  · have R0 := hM.z0
    obtain ⟨hS, ⟨hA, hH⟩, ⟨q3, hQ⟩, hR⟩ := R0.2.1
    have F3 : Fr [87] (si M 87 3 0) (si (si M 87 3 0) 87 39 0) := Fr.rf.wi (by decide)
    have FF : Fr scrM (si M 87 3 0) (si (si M 87 3 0) 87 39 0) := F3.mono (by unfold scrM; decide)
    have m3 : ∀ k, k ≠ 39 → gi (si (si M 87 3 0) 87 39 0) 87 k = gi (si M 87 3 0) 87 k := fun k e => gi_si_k e
    refine ⟨_, rfl, R0.l FF (fun k hk9 => m3 k (by revert k; decide)) ⟨hS.eq (fun k _ h37 => m3 k (by omega)) (F3.i (by decide)) (F3.i (by decide)) (F3.i (by decide)), ⟨(m3 38 (by decide)).trans hA, ?_⟩, ⟨gi_si_s, fun k hk => absurd hk (Nat.not_lt_zero _)⟩, fun k hk9 => (F3.i (by decide) k).trans (hR k hk9)⟩, FrR.rf.z.tr (FF.R (by unfold scrM; decide))⟩
    have := hH.eq (M' := si (si M 87 3 0) 87 39 0) (F3.i (by decide)); exact this
end

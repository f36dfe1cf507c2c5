-- ===== a game over a plot =====
section
variable {X : WX}
def rsB (I : IS) (S : DS) (a b p : Nat) (x y : Bool) : Bool := decide (¬ gnS I S a b p x y < gnS I S a b p (!x) y)
theorem c_content {M : Mem} (hM : CI M X) (hX : WOk X) {a b p : Nat} (ha : a < iH (xI X)) (hb : b < iH (xI X)) (hp : p < iP (xI X)) (x y : Bool) : ∃ M', fX11_isContent M (nI a) (nI b) (nI p) (bI32 x) (bI32 y) = okI M' (bI32 (rsB (xI X) (lS (xL X)) a b p x y)) ∧ Fr scrC M M' := by
  obtain ⟨M1, e1, F1⟩ := c_gain hM hX ha hb hp (!x) y
  obtain ⟨M2, e2, F2⟩ := c_gain (hM.q (scrQ_c F1)) hX ha hb hp x y
  have e : fX11_isContent_b14 M (nI a) (nI b) (nI p) (bI32 x) (bI32 y) (bI32 (!x)) (nI p) (nI b) (nI a) = okI M2 (bI32 (rsB (xI X) (lS (xL X)) a b p x y)) := by
    unfold fX11_isContent_b14 rsB
    rw [e1, bL_ok, e2, bL_ok]
    by_cases c : gnS (xI X) (lS (xL X)) a b p x y < gnS (xI X) (lS (xL X)) a b p (!x) y
    · rw [if_pos ((lg_cmp_gt _ _).mpr c)]
      have : decide (¬ gnS (xI X) (lS (xL X)) a b p x y < gnS (xI X) (lS (xL X)) a b p (!x) y) = false := by simpa using c
      rw [this]
      rfl
    · rw [if_neg (fun z => c ((lg_cmp_gt _ _).mp z))]
      have : decide (¬ gnS (xI X) (lS (xL X)) a b p x y < gnS (xI X) (lS (xL X)) a b p (!x) y) = true := by simpa using c
      rw [this]
      rfl
  refine ⟨M2, ?_, F1.tr F2⟩
  unfold fX11_isContent
  cases x with
  | false => rw [if_pos (show bI32 false = 0 from rfl)]; exact e
  | true => rw [if_neg (show ¬ bI32 true = 0 by decide)]; exact e
def gmT (I : IS) (S : DS) (a b p c : Nat) (s : Int32 × Int32) : Int32 × Int32 :=
  if rsB I S a b p (decide (c / 2 = 1)) (decide (c % 2 = 1)) = true ∧ rsB I S b a p (decide (c % 2 = 1)) (decide (c / 2 = 1)) = true then (s.1 + 1, if s.2 = -1 then 10 * nI (c / 2) + nI (c % 2) else s.2) else s
theorem gm_y {I : IS} {S : DS} {a b p c : Nat} {s : Int32 × Int32} (h1 : rsB I S a b p (decide (c / 2 = 1)) (decide (c % 2 = 1)) = true) (h2 : rsB I S b a p (decide (c % 2 = 1)) (decide (c / 2 = 1)) = true) : gmT I S a b p c s = (s.1 + 1, if s.2 = -1 then 10 * nI (c / 2) + nI (c % 2) else s.2) := if_pos ⟨h1, h2⟩
theorem gm_n {I : IS} {S : DS} {a b p c : Nat} {s : Int32 × Int32} (h : rsB I S a b p (decide (c / 2 = 1)) (decide (c % 2 = 1)) = false ∨ rsB I S b a p (decide (c % 2 = 1)) (decide (c / 2 = 1)) = false) : gmT I S a b p c s = s := if_neg (fun w => h.elim (fun z => by rw [w.1] at z; cases z) (fun z => by rw [w.2] at z; cases z))
theorem c4 {c : Nat} (h : c < 4) : c = 0 ∨ c = 1 ∨ c = 2 ∨ c = 3 := by omega
theorem a_game (hX : WOk X) (x y z t : Int32) : Ag (fun M => fX11_game M x y z t) (fun M => fX12_game M x y z t) kN X := by
  have hk := hX.1
  have h8 := hk.1.1
  have h9 := hk.1.2.1
  have hO := hX.2.2.1.1.1
  rcases h_cases x (iH (xI X)) (by omega) with ⟨a, ha, rfl⟩ | hx
  · rcases h_cases y (iH (xI X)) (by omega) with ⟨b, hb, rfl⟩ | hy
    · rcases h_cases z (iP (xI X)) (by omega) with ⟨p, hp, rfl⟩ | hz
      · by_cases cy : t < 0 ∨ 1 < t
        · exact Ag.x hX 1 (Or.inl rfl) (fun M h0 => by unfold fX11_game; rw [c_needH h0.1.1 hk ha, bV_ok, c_needH h0.1.1 hk hb, bV_ok, c_needP h0.1.1 hk hp, bV_ok, c_whatx (what_c cy), bV_x]) (fun M h0 => ⟨0, by
            unfold fX12_game fX12_game_b40
            rw [wr_eq, r_isH h0.z0.1 hk ha, bI_ok, if_neg n10, r_isH h0.z0.1 hk hb, bI_ok, if_neg n10, r_isP h0.z0.1 hk hp, bI_ok, if_neg n10, x1x]
            by_cases c : t < 0
            · rw [if_pos c]; rfl
            · rw [if_neg c, if_pos (cy.resolve_left c)]; rfl⟩)
        · obtain ⟨cy1, cy2⟩ := not_or.mp cy
          by_cases hab : a = b
          · subst hab
            exact Ag.x hX 2 (Or.inr rfl) (fun M h0 => by unfold fX11_game; rw [c_needH h0.1.1 hk ha, bV_ok, c_needH h0.1.1 hk ha, bV_ok, c_needP h0.1.1 hk hp, bV_ok, c_what cy1 (what_lt cy2), bV_ok, if_pos rfl]) (fun M h0 => ⟨0, by
              unfold fX12_game
              rw [wr_eq, r_isH h0.z0.1 hk ha, bI_ok, if_neg n10, r_isH h0.z0.1 hk ha, bI_ok, if_neg n10, r_isP h0.z0.1 hk hp, bI_ok, if_neg n10, if_neg cy1, if_neg cy2, if_pos rfl, x2x]
              rfl⟩)
          · refine Ag.p hX (if t = 0 then (foldN (gmT (xI X) (lS (xL X)) a b p) 4 0 (0, -1)).1 else (foldN (gmT (xI X) (lS (xL X)) a b p) 4 0 (0, -1)).2) (fun M hM => ?_) (fun M hM => ?_)
            · obtain ⟨M', F', e'⟩ := loopI (fun n M c (s : Int32 × Int32) => fX11_game_b44 n M (nI a) (nI b) (nI p) t s.1 s.2 (nI c)) (fun c M' s => Fr scrC M M') 4 (gmT (xI X) (lS (xL X)) a b p) (fun M s => okI M (if t = 0 then s.1 else s.2))
                (by
                  intro n M1 c s F1 hc
                  have hM1 := hM.q (scrQ_c F1)
                  obtain ⟨M2, e2, F2⟩ := c_content hM1 hX ha hb hp (decide (c / 2 = 1)) (decide (c % 2 = 1))
                  obtain ⟨M3, e3, F3⟩ := c_content (hM1.q (scrQ_c F2)) hX hb ha hp (decide (c % 2 = 1)) (decide (c / 2 = 1))
                  have body : fX11_game_b44 (n + 1) M1 (nI a) (nI b) (nI p) t s.1 s.2 (nI c) = fX11_game_b76 (fX11_game_b44 n) M1 (nI a) (nI b) (nI p) t s.1 s.2 (nI c) (bI32 (decide (c / 2 = 1))) (bI32 (decide (c % 2 = 1))) := by
                    rw [fX11_game_b44]
                    dsimp only
                    unfold fX11_game_b62
                    rw [if_pos (ltL 4 hc (by decide))]
                    rcases c4 hc with rfl | rfl | rfl | rfl
                    · rw [if_pos (show nI 0 &&& 2 = 0 by decide), if_pos (show nI 0 &&& 1 = 0 by decide)]; rfl
                    · rw [if_pos (show nI 1 &&& 2 = 0 by decide), if_neg (show ¬ nI 1 &&& 1 = 0 by decide)]; rfl
                    · rw [if_neg (show ¬ nI 2 &&& 2 = 0 by decide), if_pos (show nI 2 &&& 1 = 0 by decide)]; rfl
                    · rw [if_neg (show ¬ nI 3 &&& 2 = 0 by decide), if_neg (show ¬ nI 3 &&& 1 = 0 by decide)]; rfl
                  have fst : 10 * (nI c >>> ((1 : Int32) &&& 31)) + (nI c &&& 1) = 10 * nI (c / 2) + nI (c % 2) := by
                    rcases c4 hc with rfl | rfl | rfl | rfl <;> decide
                  show ∃ M', _ ∧ fX11_game_b44 (n + 1) M1 (nI a) (nI b) (nI p) t s.1 s.2 (nI c) = _
                  rw [body]
                  unfold fX11_game_b76 fX11_game_b132 fX11_game_b134
                  rw [e2, bI_ok, nI_p1, fst]
                  cases q1 : rsB (xI X) (lS (xL X)) a b p (decide (c / 2 = 1)) (decide (c % 2 = 1)) with
                  | false =>
                    rw [if_pos (show bI32 false = 0 from rfl), gm_n (Or.inl q1)]
                    exact ⟨M2, F1.tr F2, rfl⟩
                  | true =>
                    rw [if_neg (show ¬ bI32 true = 0 by decide), e3, bI_ok]
                    cases q2 : rsB (xI X) (lS (xL X)) b a p (decide (c % 2 = 1)) (decide (c / 2 = 1)) with
                    | false =>
                      rw [if_pos (show bI32 false = 0 from rfl), gm_n (Or.inr q2)]
                      exact ⟨M3, (F1.tr F2).tr F3, rfl⟩
                    | true =>
                      rw [if_neg (show ¬ bI32 true = 0 by decide), gm_y q1 q2]
                      refine ⟨M3, (F1.tr F2).tr F3, ?_⟩
                      by_cases cf : s.2 = -1
                      · rw [if_pos cf, if_pos cf]
                      · rw [if_neg cf, if_neg cf])
                (by
                  intro n M1 s _
                  rw [fX11_game_b44]
                  dsimp only
                  rw [if_neg (nltL 4 (Nat.le_refl _) (by decide))]
                  split <;> rfl)
                4 0 (by omega) FU (FU_gt (by omega)) M (0, -1) Fr.rf
              refine ⟨M', ?_, scrQ_c F'⟩
              show fX11_game M (nI a) (nI b) (nI p) t = _
              unfold fX11_game
              rw [c_needH hM.1.1 hk ha, bV_ok, c_needH hM.1.1 hk hb, bV_ok, c_needP hM.1.1 hk hp, bV_ok, c_what cy1 (what_lt cy2), bV_ok, if_neg (c_lit (by omega) (by omega) hab)]
              exact e'
            · have R0 := hM.z0
              obtain ⟨M', F', e'⟩ := loopI (fun n M c (s : Int32 × Int32) => fX12_game_b66 n M (nI a) (nI b) (nI p) t s.1 s.2 (nI c)) (fun c M' s => Fr scrR (si M 87 3 0) M') 4 (gmT (xI X) (lS (xL X)) a b p) (fun M s => okI M (if t = 0 then s.1 else s.2))
                (by
                  intro n M1 c s F1 hc
                  have rq : ∀ M', Fr scrR (si M 87 3 0) M' → RI M' X := fun M' F => R0.q (F.mono (by unfold scrR; decide)) (fun k _ _ _ => F.i (by decide) k) (R0.2.1.1.fr F apRd)
                  obtain ⟨M2, e2, F2⟩ := r_gain (rq M1 F1) hX ha hb hp (!decide (c / 2 = 1)) (decide (c % 2 = 1))
                  obtain ⟨M3, e3, F3⟩ := r_gain (rq M2 (F1.tr F2)) hX ha hb hp (decide (c / 2 = 1)) (decide (c % 2 = 1))
                  obtain ⟨M4, e4, F4⟩ := r_gain (rq M3 ((F1.tr F2).tr F3)) hX hb ha hp (!decide (c % 2 = 1)) (decide (c / 2 = 1))
                  obtain ⟨M5, e5, F5⟩ := r_gain (rq M4 (((F1.tr F2).tr F3).tr F4)) hX hb ha hp (decide (c % 2 = 1)) (decide (c / 2 = 1))
                  have d1 : nI c / 2 = bI32 (decide (c / 2 = 1)) ∧ nI c - nI c / 2 * 2 = bI32 (decide (c % 2 = 1)) ∧ 1 - nI c / 2 = bI32 (!decide (c / 2 = 1)) ∧ 1 - (nI c - nI c / 2 * 2) = bI32 (!decide (c % 2 = 1)) ∧ 10 * (nI c / 2) + (nI c - nI c / 2 * 2) = 10 * nI (c / 2) + nI (c % 2) := by
                    rcases c4 hc with rfl | rfl | rfl | rfl <;> decide
                  obtain ⟨d1, d2, d3, d4, d5⟩ := d1
                  rw [fX12_game_b66]
                  dsimp only
                  unfold fX12_game_b165 fX12_game_b167
                  rw [if_pos (ltL 4 hc (by decide)), d5, d3, d4, d2, d1, e2, bL_ok, e3, bL_ok, nI_p1]
                  by_cases c1 : gnS (xI X) (lS (xL X)) a b p (decide (c / 2 = 1)) (decide (c % 2 = 1)) < gnS (xI X) (lS (xL X)) a b p (!decide (c / 2 = 1)) (decide (c % 2 = 1))
                  · rw [if_pos ((lg_cmp_gt _ _).mpr c1), gm_n (Or.inl (by unfold rsB; simpa using c1))]
                    exact ⟨M3, (F1.tr F2).tr F3, rfl⟩
                  · rw [if_neg (fun w => c1 ((lg_cmp_gt _ _).mp w)), e4, bL_ok, e5, bL_ok]
                    by_cases c2 : gnS (xI X) (lS (xL X)) b a p (decide (c % 2 = 1)) (decide (c / 2 = 1)) < gnS (xI X) (lS (xL X)) b a p (!decide (c % 2 = 1)) (decide (c / 2 = 1))
                    · rw [if_pos ((lg_cmp_gt _ _).mpr c2), gm_n (Or.inr (by unfold rsB; simpa using c2))]
                      exact ⟨M5, (((F1.tr F2).tr F3).tr F4).tr F5, rfl⟩
                    · rw [if_neg (fun w => c2 ((lg_cmp_gt _ _).mp w)), gm_y (by unfold rsB; simpa using c1) (by unfold rsB; simpa using c2)]
                      refine ⟨M5, (((F1.tr F2).tr F3).tr F4).tr F5, ?_⟩
                      by_cases cf : s.2 = -1
                      · rw [if_pos cf, if_pos cf]
                      · rw [if_neg cf, if_neg cf])
                (by
                  intro n M1 s _
                  rw [fX12_game_b66]
                  dsimp only
                  rw [if_neg (nltL 4 (Nat.le_refl _) (by decide))]
                  split <;> rfl)
                4 0 (by omega) FU (FU_gt (by omega)) (si M 87 3 0) (0, -1) Fr.rf
              refine ⟨M', ?_, scrP_r F'⟩
              show fX12_game M (nI a) (nI b) (nI p) t = _
              unfold fX12_game
              rw [wr_eq, r_isH R0.1 hk ha, bI_ok, if_neg n10, r_isH R0.1 hk hb, bI_ok, if_neg n10, r_isP R0.1 hk hp, bI_ok, if_neg n10, if_neg cy1, if_neg cy2, if_neg (c_lit (by omega) (by omega) hab)]
              exact e'
      · exact Ag.x hX 1 (Or.inl rfl) (fun M h => by unfold fX11_game; rw [c_needH h.1.1 hk ha, bV_ok, c_needH h.1.1 hk hb, bV_ok, c_needPx h.1.1 hz, bV_x]) (fun M h => ⟨0, by
          unfold fX12_game fX12_game_b40
          rw [wr_eq, r_isH h.z0.1 hk ha, bI_ok, if_neg n10, r_isH h.z0.1 hk hb, bI_ok, if_neg n10, r_isPx h.z0.1 hk hz, bI_ok, if_pos rfl, x1x]
          rfl⟩)
    · exact Ag.x hX 1 (Or.inl rfl) (fun M h => by unfold fX11_game; rw [c_needH h.1.1 hk ha, bV_ok, c_needHx h.1.1 hy, bV_x]) (fun M h => ⟨0, by
        unfold fX12_game fX12_game_b40
        rw [wr_eq, r_isH h.z0.1 hk ha, bI_ok, if_neg n10, r_isHx h.z0.1 hk hy, bI_ok, if_pos rfl, x1x]
        rfl⟩)
  · exact Ag.x hX 1 (Or.inl rfl) (fun M h => by unfold fX11_game; rw [c_needHx h.1.1 hx, bV_x]) (fun M h => ⟨0, by
      unfold fX12_game fX12_game_b40
      rw [wr_eq, r_isHx h.z0.1 hk hx, bI_ok, if_pos rfl, x1x]
      rfl⟩)
end

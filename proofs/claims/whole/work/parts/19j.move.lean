-- ===== another place in the order =====
def msrc (w t k : Nat) : Nat := if k = t then w else if w ≤ k ∧ k < t then k + 1 else if t < k ∧ k ≤ w then k - 1 else k
def mvO (O : Nat → Nat) (w t : Nat) : Nat → Nat := fun k => O (msrc w t k)
def adj (w t j : Nat) : Nat := if (if w < j then j - 1 else j) < t then (if w < j then j - 1 else j) else (if w < j then j - 1 else j) + 1
def setO (S : DS) (o : Nat → Nat) : DS := (dL S, dG S, dX S, dY S, dN S, dT S, dC S, o, dH S, dR S)
theorem msrc_lt {w t k n : Nat} (hw : w < n) (ht : t < n) (hk : k < n) : msrc w t k < n := by
  unfold msrc
  repeat' split
  all_goals omega
theorem msrc_inj {w t i j : Nat} (h : msrc w t i = msrc w t j) : i = j := by
  unfold msrc at h
  repeat' split at h
  all_goals omega
theorem adj_msrc {w t k : Nat} (h : k ≠ t) : msrc w t k ≠ w ∧ adj w t (msrc w t k) = k := by
  unfold msrc adj
  rw [if_neg h]
  constructor
  · repeat' split
    all_goals omega
  · repeat' split
    all_goals omega
theorem mv_ok {I : IS} {S : DS} {w t : Nat} (hk : IOk I) (hO : DOk I S) (hw : w < iH I) (ht : t < iH I) : DOk I (setO S (mvO (dO S) w t)) := by
  have h8 := hk.1.1
  obtain ⟨a, ⟨b1, b2, b3, b4, b5⟩, c⟩ := hO
  refine ⟨a, ⟨fun k hk8 => b1 _ (msrc_lt (by omega) (by omega) hk8), fun i j hi hj e => msrc_inj (w := w) (t := t) (b2 _ _ (msrc_lt (by omega) (by omega) hi) (msrc_lt (by omega) (by omega) hj) e), fun k hk9 => b3 _ (msrc_lt hw ht hk9), fun k h1 h2 => ?_, Or.inl ?_⟩, c⟩
  · show dO S (msrc w t k) = k
    have : msrc w t k = k := by unfold msrc; rw [if_neg (by omega), if_neg (by omega), if_neg (by omega)]
    rw [this]
    exact b4 k h1 h2
  · show dO S (msrc w t 8) = 8
    have : msrc w t 8 = 8 := by unfold msrc; rw [if_neg (by omega), if_neg (by omega), if_neg (by omega)]
    rw [this]
    exact b5.resolve_right (by omega)
def scrV : List Nat := [103, 104, 106, 107]
theorem apV : apart scrV irCells := by unfold apart; decide
theorem scrV_t {M M' : Mem} (h : Fr scrT M M') : Fr scrV M M' := h.mono (by unfold scrT scrV; decide)
section
variable {M : Mem} {I : IS} {S : DS} {a w t : Nat}
theorem c_move (hS : DC a M S) (hO : DOk I S) (hz : dO S 8 = 8) (hw : w < 8) (ht : t < 8) :
    ∃ M', fX8_moveInOrder a M (nI (dO S w)) (nI t) = okV M' ∧ DC a M' (setO S (mvO (dO S) w t)) ∧ Fr [a + 1] M M' := by
  have hb := hO.2.1.1 w hw
  unfold fX8_moveInOrder
  rw [if_neg (nI_pos (by omega)), if_pos (ltL 8 hb (by decide)), chk_in hb (by decide), ix_nI (by omega), hS.2.1 hz w hw]
  obtain ⟨M', ⟨hF, hq⟩, e'⟩ := loopI (fun n M k (_ : Nat) => fX8_moveInOrder_b21 a n M (nI (dO S w)) (nI t) (nI w) (nI k))
    (fun k M' _ => Fr [a + 1] M M' ∧ ∀ j, j < 8 → gi M' (a + 1) (dO S j) = nI (if dO S j < k then adj w t j else j)) 8 (fun _ x => x) (fun M _ => okV (si M (a + 1) (dO S w) (nI t)))
    (by
      intro n M1 k x ⟨hF, hq⟩ hk
      obtain ⟨j, hj, ej⟩ := inj_surj 8 (dO S) hO.2.1.1 (fun i j hi hj e => hO.2.1.2.1 i j hi hj e) k hk
      have hv : gi M1 (a + 1) k = nI j := by
        have := hq j hj
        rw [ej, if_neg (by omega)] at this
        exact this
      have fin : ∀ M2 : Mem, gi M2 (a + 1) k = nI (adj w t j) → (∀ x, x ≠ k → gi M2 (a + 1) x = gi M1 (a + 1) x) → Fr [a + 1] M M2 → (Fr [a + 1] M M2 ∧ ∀ j, j < 8 → gi M2 (a + 1) (dO S j) = nI (if dO S j < k + 1 then adj w t j else j)) := by
        intro M2 h1 h2 h3
        refine ⟨h3, fun i hi => ?_⟩
        by_cases e : dO S i = k
        · have : i = j := hO.2.1.2.1 i j hi hj (by rw [e, ej])
          rw [e, h1, if_pos (by omega), this]
        · rw [h2 _ e, hq i hi]
          by_cases e2 : dO S i < k
          · rw [if_pos e2, if_pos (by omega)]
          · rw [if_neg e2, if_neg (by omega)]
      rw [fX8_moveInOrder_b21]
      dsimp only
      rw [if_pos (ltL 8 hk (by decide))]
      unfold fX8_moveInOrder_b50 fX8_moveInOrder_b72
      by_cases c : w < j
      · have hc : nI w < nI j := nI_lt c (by omega)
        simp only [chk_in hk (show 8 < 2 ^ 31 by decide), ix_nI (show k < 2 ^ 31 by omega), hv, wr_eq, if_pos hc, gi_si_s, nI_m1 (show 1 ≤ j by omega), nI_p1]
        by_cases c2 : j - 1 < t
        · rw [if_pos (nI_lt c2 (by omega))]
          exact ⟨_, fin _ (by rw [gi_si_s]; unfold adj; rw [if_pos c, if_pos c2]) (fun x hx => gi_si_k hx) (hF.wi (by simp)), rfl⟩
        · rw [if_neg (nI_nlt (by omega) (by omega))]
          exact ⟨_, fin _ (by rw [gi_si_s]; unfold adj; rw [if_pos c, if_neg c2]) (fun x hx => by rw [gi_si_k hx, gi_si_k hx]) ((hF.wi (by simp)).wi (by simp)), rfl⟩
      · have hc : ¬ nI w < nI j := nI_nlt (by omega) (by omega)
        simp only [chk_in hk (show 8 < 2 ^ 31 by decide), ix_nI (show k < 2 ^ 31 by omega), hv, wr_eq, if_neg hc, gi_si_s, nI_p1]
        by_cases c2 : j < t
        · rw [if_pos (nI_lt c2 (by omega))]
          exact ⟨_, fin _ (by rw [hv]; unfold adj; rw [if_neg c, if_pos c2]) (fun x hx => rfl) hF, rfl⟩
        · rw [if_neg (nI_nlt (by omega) (by omega))]
          exact ⟨_, fin _ (by rw [gi_si_s]; unfold adj; rw [if_neg c, if_neg c2]) (fun x hx => gi_si_k hx) (hF.wi (by simp)), rfl⟩)
    (by
      intro n M1 x _
      rw [fX8_moveInOrder_b21]
      dsimp only
      rw [if_neg (nltL 8 (Nat.le_refl _) (by decide)), chk_in hb (by decide), ix_nI (by omega), wr_eq])
    8 0 (by omega) FU (FU_gt (by omega)) M 0 ⟨Fr.rf, fun j hj => by rw [if_neg (by omega)]; exact hS.2.1 hz j hj⟩
  have hF2 : Fr [a + 1] M (si M' (a + 1) (dO S w) (nI t)) := hF.wi (by simp)
  refine ⟨_, e', ⟨hS.1.fr hF2 (by simp), fun _ k hk => ?_, fun _ k hk => ?_, fun k hk => ?_⟩, hF2⟩
  · show gi (si M' (a + 1) (dO S w) (nI t)) (a + 1) (dO S (msrc w t k)) = nI k
    by_cases e : k = t
    · have : msrc w t k = w := by unfold msrc; rw [if_pos e]
      rw [this, gi_si_s, e]
    · obtain ⟨e1, e2⟩ := adj_msrc (w := w) e
      have hm := msrc_lt hw ht hk
      rw [gi_si_k (fun c => e1 (hO.2.1.2.1 _ _ hm hw c)), hq _ hm, if_pos (hO.2.1.1 _ hm), e2]
  · rw [hF2.i (by simp)]; exact hS.2.2.1 hz k hk
  · rw [hF2.i (by simp)]; exact hS.2.2.2 k hk
theorem r_move (hI : IR M I) (hk : IOk I) (hS : DRf M S) (hO : DOk I S) (hn : gi M 87 42 = -1) (hw : w < iH I) (ht : t < iH I) :
    ∃ M', fX12_moveTo M (nI (dO S w)) (nI t) = okI M' (nI w) ∧ DRf M' (setH (setO S (mvO (dO S) w t)) (tkS I (setO S (mvO (dO S) w t)) none)) ∧ Fr scrV M M' := by
  have h8 := hk.1.1
  have hz := hO.z (show 0 < iH I by omega)
  have fin : ∀ M2, Fr scrV M M2 → (∀ x, x < 8 → x ≠ t → gi M2 104 x = nI (mvO (dO S) w t x)) → (∀ x, gi M2 102 x = gi M 102 x) →
      ∃ M', chk (inb (nI t) 8) (wr (si M2 104 (ix (nI t)) (nI (dO S w))) (fun M7 => bV (fX12_takeShares M7) (fun M8 => some (M8, .inr (some (.int (nI w))))))) = okI M' (nI w) ∧ DRf M' (setH (setO S (mvO (dO S) w t)) (tkS I (setO S (mvO (dO S) w t)) none)) ∧ Fr scrV M M' := by
    intro M2 F2 q2 q3
    rw [chk_in (by omega) (by decide), ix_nI (by omega), wr_eq]
    have F3 : Fr scrV M (si M2 104 t (nI (dO S w))) := F2.wi (by unfold scrV; decide)
    obtain ⟨M4, e4, D4, F4⟩ := r_take (S := setO S (mvO (dO S) w t)) (ab := none) (hI.fr F3 apV) hk (hS.1.fr F3 (by decide)) (fun _ k hk8 => by
        show _ = nI (mvO (dO S) w t k)
        by_cases e : k = t
        · rw [e, gi_si_s]; unfold mvO msrc; rw [if_pos rfl]
        · rw [gi_si_k e]; exact q2 k hk8 e) (fun h hh => by rw [gi_si_a (by decide), q3]; exact hS.2.2.2 h hh) (mv_ok hk hO hw ht) (fun h c => by cases c) (by rw [F3.i (by decide)]; exact hn)
    rw [e4, bV_ok]
    exact ⟨M4, rfl, D4, F3.tr (scrV_t F4)⟩
  unfold fX12_moveTo
  rw [r_place (hS.2.1 hz) hO (by omega), bI_ok]
  by_cases c : w ≤ t
  · obtain ⟨M1, ⟨_, F1, q1, q2⟩, e1⟩ := loopI (fun n M k (_ : Nat) => fX12_moveTo_b9 n M (nI (dO S w)) (nI t) (nI w) (nI k))
      (fun k M' _ => w ≤ k ∧ Fr scrV M M' ∧ (∀ x, x < 8 → gi M' 104 x = nI (dO S (if w ≤ x ∧ x < k then x + 1 else x))) ∧ ∀ x, gi M' 102 x = gi M 102 x) t (fun _ x => x) (fun M _ => fX12_moveTo_b40 FU M (nI (dO S w)) (nI t) (nI w) (nI w))
      (by
        intro n M1 k x ⟨cw, hF, hq, hr⟩ hkt
        rw [fX12_moveTo_b9]
        dsimp only
        rw [if_pos (nI_lt hkt (by omega)), nI_p1, chk_in (by omega) (by decide), chk_in (by omega) (by decide), ix_nI (by omega), ix_nI (by omega), wr_eq]
        · refine ⟨_, ⟨by omega, hF.wi (by unfold scrV; decide), fun x hx => ?_, fun x => by rw [gi_si_a (by decide)]; exact hr x⟩, rfl⟩
          by_cases e : x = k
          · rw [e, gi_si_s, hq (k + 1) (by omega), if_neg (by omega), if_pos (by omega)]
          · rw [gi_si_k e, hq x hx]
            by_cases e2 : w ≤ x ∧ x < k
            · rw [if_pos e2, if_pos (by omega)]
            · rw [if_neg e2, if_neg (by omega)])
      (by
        intro n M1 x _
        rw [fX12_moveTo_b9]
        dsimp only
        rw [if_neg (nI_nlt (Nat.le_refl _) (by omega))])
      (t - w) w (by omega) FU (FU_gt (by omega)) M 0 ⟨Nat.le_refl _, Fr.rf, fun x hx => by rw [if_neg (by omega)]; exact hS.2.1 hz x hx, fun _ => rfl⟩
    have e1 : fX12_moveTo_b9 FU M (nI (dO S w)) (nI t) (nI w) (nI w) = fX12_moveTo_b40 FU M1 (nI (dO S w)) (nI t) (nI w) (nI w) := e1
    rw [e1, show FU = 99999 + 1 from rfl, fX12_moveTo_b40]
    dsimp only
    rw [if_neg (nI_nlt c (by omega))]
    refine fin M1 F1 (fun x hx hxt => ?_) q2
    rw [q1 x hx]
    unfold mvO msrc
    rw [if_neg hxt]
    by_cases e2 : w ≤ x ∧ x < t
    · rw [if_pos e2, if_pos e2]
    · rw [if_neg e2, if_neg e2, if_neg (by omega)]
  · rw [show fX12_moveTo_b9 FU M (nI (dO S w)) (nI t) (nI w) (nI w) = fX12_moveTo_b40 FU M (nI (dO S w)) (nI t) (nI w) (nI w) by
      rw [show FU = 99999 + 1 from rfl, fX12_moveTo_b9]
      dsimp only
      rw [if_neg (nI_nlt (by omega) (by omega))]
      rfl]
    obtain ⟨M1, h1, e1⟩ := loopI (fun n M k (_ : Nat) => fX12_moveTo_b40 n M (nI (dO S w)) (nI t) (nI w) (nI (w - k)))
      (fun k M' _ => Fr scrV M M' ∧ (∀ x, x < 8 → gi M' 104 x = nI (dO S (if w - k < x ∧ x ≤ w then x - 1 else x))) ∧ ∀ x, gi M' 102 x = gi M 102 x) (w - t) (fun _ x => x) (fun M _ => chk (inb (nI t) 8) (wr (si M 104 (ix (nI t)) (nI (dO S w))) (fun M7 => bV (fX12_takeShares M7) (fun M8 => some (M8, .inr (some (.int (nI w))))))))
      (by
        intro n M1 k x ⟨hF, hq, hr⟩ hkt
        rw [fX12_moveTo_b40]
        dsimp only
        rw [if_pos (nI_lt (show t < w - k by omega) (by omega)), nI_m1 (show 1 ≤ w - k by omega), nI_m1' (show 1 ≤ w - k by omega), chk_in (by omega) (by decide), chk_in (by omega) (by decide), ix_nI (by omega), ix_nI (by omega), wr_eq, show w - k - 1 = w - (k + 1) by omega]
        refine ⟨_, ⟨hF.wi (by unfold scrV; decide), fun x hx => ?_, fun x => by rw [gi_si_a (by decide)]; exact hr x⟩, rfl⟩
        by_cases e : x = w - k
        · rw [e, gi_si_s, hq (w - (k + 1)) (by omega), if_neg (by omega), if_pos (by omega), show w - k - 1 = w - (k + 1) by omega]
        · rw [gi_si_k e, hq x hx]
          by_cases e2 : w - k < x ∧ x ≤ w
          · rw [if_pos e2, if_pos (by omega)]
          · rw [if_neg e2, if_neg (by omega)])
      (by
        intro n M1 x _
        rw [fX12_moveTo_b40]
        dsimp only
        rw [if_neg (nI_nlt (show w - (w - t) ≤ t by omega) (by omega))])
      (w - t) 0 (by omega) FU (FU_gt (by omega)) M 0 ⟨Fr.rf, fun x hx => by rw [if_neg (by omega)]; exact hS.2.1 hz x hx, fun _ => rfl⟩
    obtain ⟨F1, q1, q2⟩ := h1
    have e1 : fX12_moveTo_b40 FU M (nI (dO S w)) (nI t) (nI w) (nI w) = _ := e1
    rw [e1]
    refine fin M1 F1 (fun x hx hxt => ?_) q2
    rw [q1 x hx]
    unfold mvO msrc
    rw [if_neg hxt, if_neg (show ¬ (w ≤ x ∧ x < t) by omega), show w - (w - t) = t by omega]
end

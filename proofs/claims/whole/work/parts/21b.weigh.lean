-- ===== worths of all plots to all settlers, in a table =====
section
variable {M : Mem} {X : WX}
/-- the class's table: 66 houses and plots, 68 .. 75 the worths -/
def WTc (M : Mem) (X : WX) : Prop := gi M 66 2 = nI (iH (xI X)) ∧ gi M 66 3 = nI (iP (xI X)) ∧ ∀ h p, h < iH (xI X) → p < iP (xI X) → gi M (68 + h) p = wrt (xI X) (lS (xL X)) h p
def WTr (M : Mem) (X : WX) : Prop := ∀ h p, h < iH (xI X) → p < iP (xI X) → gi M 109 (9 * h + p) = wrt (xI X) (lS (xL X)) h p
theorem c_weigh (hM : CI M X) (hX : WOk X) : ∃ M', fX4_weigh M = okV M' ∧ Fr scrQ M M' ∧ WTc M' X := by
  have hk := hX.1
  have h8 := hk.1.1
  have h9 := hk.1.2.1
  have hO := hX.2.2.1.1.1
  unfold fX4_weigh
  rw [hM.1.1.1.1, if_neg (ngtL 8 (by omega) (by decide)), wr_eq]
  have F0 : Fr scrQ M (si M 66 2 (nI (iH (xI X)))) := Fr.rf.wi (by unfold scrQ; decide)
  rw [show gi (si M 66 2 (nI (iH (xI X)))) (isA (gb (si M 66 2 (nI (iH (xI X)))) 0)) 10 = nI (iP (xI X)) from (hM.q F0).1.1.1.2.1, if_neg (ngtL 9 (by omega) (by decide)), wr_eq]
  obtain ⟨M2, hM2⟩ : ∃ M2, M2 = si (si M 66 2 (nI (iH (xI X)))) 66 3 (nI (iP (xI X))) := ⟨_, rfl⟩
  rw [← hM2]
  have F2 : Fr scrQ M M2 := by rw [hM2]; exact F0.wi (by unfold scrQ; decide)
  have q2 : gi M2 66 2 = nI (iH (xI X)) := by rw [hM2, gi_si_k (by decide), gi_si_s]
  have q3 : gi M2 66 3 = nI (iP (xI X)) := by rw [hM2, gi_si_s]
  obtain ⟨M', ⟨F', r2, r3, g'⟩, e'⟩ := loopI (fun n M h (_ : Nat) => fX4_weigh_b34 n M (nI h)) (fun h M' _ => Fr scrQ M M' ∧ gi M' 66 2 = nI (iH (xI X)) ∧ gi M' 66 3 = nI (iP (xI X)) ∧ ∀ j p, j < h → p < iP (xI X) → gi M' (68 + j) p = wrt (xI X) (lS (xL X)) j p) (iH (xI X)) (fun _ a => a) (fun M _ => okV M)
    (by
      intro n M1 h a ⟨F1, r2, r3, g1⟩ hh
      obtain ⟨M3, ⟨F3, s2, s3, g3, g4⟩, e3⟩ := loopI (fun d M p (_ : Nat) => fX4_weigh_b45 (fX4_weigh_b34 n) d M (nI h) (nI p)) (fun p M' _ => Fr scrQ M M' ∧ gi M' 66 2 = nI (iH (xI X)) ∧ gi M' 66 3 = nI (iP (xI X)) ∧ (∀ j p, j < h → p < iP (xI X) → gi M' (68 + j) p = wrt (xI X) (lS (xL X)) j p) ∧ ∀ j, j < p → gi M' (68 + h) j = wrt (xI X) (lS (xL X)) h j) (iP (xI X)) (fun _ a => a) (fun M _ => fX4_weigh_b34 n M (nI (h + 1)))
        (by
          intro d M4 p b ⟨F4, s2, s3, g3, g4⟩ hp
          have hM4 := hM.q F4
          obtain ⟨M5, e5, F5⟩ := c_worth hM4.1.1 hk hM4.2.1.1.1 hO.1.1 (by decide) hh hp
          rw [fX4_weigh_b45]
          dsimp only
          rw [s3, if_pos (nI_lt hp (by omega)), chk_in (by omega) (by decide), e5, bI_ok, chk_in (by omega) (by decide), ix_nI (by omega), ix_nI (by omega), wr_eq, nI_p1]
          have nc : ∀ x, 66 ≤ x → x < 80 → x ∉ scrC := fun x a b => by unfold scrC; simp only [List.mem_cons, List.not_mem_nil, or_false]; omega
          refine ⟨_, ⟨(F4.tr (scrQ_c F5)).wi (by unfold scrQ; simp only [List.mem_cons, List.not_mem_nil, or_false]; omega), ?_, ?_, fun j p' hj hp' => ?_, fun j hj => ?_⟩, rfl⟩
          · rw [gi_si_a (by omega), F5.i (nc _ (by decide) (by decide))]; exact s2
          · rw [gi_si_a (by omega), F5.i (nc _ (by decide) (by decide))]; exact s3
          · rw [gi_si_a (by omega), F5.i (nc _ (by omega) (by omega))]; exact g3 j p' hj hp'
          · by_cases e : j = p
            · rw [e, gi_si_s]
            · rw [gi_si_k e, F5.i (nc _ (by omega) (by omega))]; exact g4 j (by omega))
        (by
          intro d M4 b ⟨_, _, s3, _⟩
          rw [fX4_weigh_b45]
          dsimp only
          rw [s3, if_neg (nI_nlt (Nat.le_refl _) (by omega)), nI_p1])
        (iP (xI X)) 0 (by omega) FU (FU_gt (by omega)) M1 0 ⟨F1, r2, r3, g1, fun j hj => by omega⟩
      refine ⟨M3, ⟨F3, s2, s3, fun j p hj hp => ?_⟩, ?_⟩
      · by_cases e : j = h
        · rw [e]; exact g4 p hp
        · exact g3 j p (by omega) hp
      · rw [fX4_weigh_b34]
        dsimp only
        rw [r2, if_pos (nI_lt hh (by omega))]
        exact e3)
    (by
      intro n M1 a ⟨_, r2, _⟩
      rw [fX4_weigh_b34]
      dsimp only
      rw [r2, if_neg (nI_nlt (Nat.le_refl _) (by omega))])
    (iH (xI X)) 0 (by omega) FU (FU_gt (by omega)) M2 0 ⟨F2, q2, q3, fun j p hj => by omega⟩
  exact ⟨M', e', F', r2, r3, g'⟩
def scrWt : List Nat := [106, 107, 109]
theorem r_worths (hM : RI M X) (hX : WOk X) : ∃ M', fX12_tellWorths M = okV M' ∧ Fr scrWt M M' ∧ WTr M' X := by
  have hk := hX.1
  have h8 := hk.1.1
  have h9 := hk.1.2.1
  have hO := hX.2.2.1.1.1
  have ap : apart scrWt irCells := by unfold apart; decide
  have apd' : apart scrWt [87, 102, 103, 104] := by unfold apart; decide
  unfold fX12_tellWorths
  obtain ⟨M', ⟨F', g'⟩, e'⟩ := loopI (fun n M h (_ : Nat) => fX12_tellWorths_b2 n M (nI h)) (fun h M' _ => Fr scrWt M M' ∧ ∀ j p, j < h → p < iP (xI X) → gi M' 109 (9 * j + p) = wrt (xI X) (lS (xL X)) j p) (iH (xI X)) (fun _ a => a) (fun M _ => okV M)
    (by
      intro n M1 h a ⟨F1, g1⟩ hh
      obtain ⟨M3, ⟨F3, g3, g4⟩, e3⟩ := loopI (fun d M p (_ : Nat) => fX12_tellWorths_b14 (fX12_tellWorths_b2 n) d M (nI h) (nI p)) (fun p M' _ => Fr scrWt M M' ∧ (∀ j p, j < h → p < iP (xI X) → gi M' 109 (9 * j + p) = wrt (xI X) (lS (xL X)) j p) ∧ ∀ j, j < p → gi M' 109 (9 * h + j) = wrt (xI X) (lS (xL X)) h j) (iP (xI X)) (fun _ a => a) (fun M _ => fX12_tellWorths_b2 n M (nI (h + 1)))
        (by
          intro d M4 p b ⟨F4, g3, g4⟩ hp
          obtain ⟨M5, e5, F5⟩ := r_worth (hM.1.fr F4 ap) hk (hM.2.1.1.fr F4 apd').1 hO.1.1 hh hp
          have e9 : 9 * nI h + nI p = nI (9 * h + p) := by rw [show 9 * nI h = nI (9 * h) from pk_mul 9 h, nadd]
          rw [fX12_tellWorths_b14]
          dsimp only
          rw [(hM.1.fr F4 ap).1.2.1, if_pos (nI_lt hp (by omega)), e5, bI_ok, e9, chk_in (by omega) (by decide), ix_nI (by omega), wr_eq, nI_p1]
          refine ⟨_, ⟨(F4.tr (F5.mono (by unfold scrR scrWt; decide))).wi (by unfold scrWt; decide), fun j p' hj hp' => ?_, fun j hj => ?_⟩, rfl⟩
          · rw [gi_si_k (by omega), F5.i (by decide)]; exact g3 j p' hj hp'
          · by_cases e : j = p
            · rw [e, gi_si_s]
            · rw [gi_si_k (by omega), F5.i (by decide)]; exact g4 j (by omega))
        (by
          intro d M4 b ⟨F4, _⟩
          rw [fX12_tellWorths_b14]
          dsimp only
          rw [(hM.1.fr F4 ap).1.2.1, if_neg (nI_nlt (Nat.le_refl _) (by omega)), nI_p1])
        (iP (xI X)) 0 (by omega) FU (FU_gt (by omega)) M1 0 ⟨F1, g1, fun j hj => by omega⟩
      refine ⟨M3, ⟨F3, fun j p hj hp => ?_⟩, ?_⟩
      · by_cases e : j = h
        · rw [e]; exact g4 p hp
        · exact g3 j p (by omega) hp
      · rw [fX12_tellWorths_b2]
        dsimp only
        rw [(hM.1.fr F1 ap).1.1, if_pos (nI_lt hh (by omega))]
        exact e3)
    (by
      intro n M1 a ⟨F1, _⟩
      rw [fX12_tellWorths_b2]
      dsimp only
      rw [(hM.1.fr F1 ap).1.1, if_neg (nI_nlt (Nat.le_refl _) (by omega))])
    (iH (xI X)) 0 (by omega) FU (FU_gt (by omega)) M 0 ⟨Fr.rf, fun j p hj => by omega⟩
  exact ⟨M', e', F', g'⟩
end

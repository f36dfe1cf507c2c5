-- ===== years =====
section
variable {M M' : Mem} {I : IS} {S : DS} {a h e n : Nat}
theorem year_fold (hk : IOk I) (hO : DOk I S) (e : Nat) : DOk I (foldN (livH e I) (iH I) 0 S) ∧ dN (foldN (livH e I) (iH I) 0 S) = dN S := by
  have := foldN_inv (f := livH e I) (fun _ (S' : DS) => DOk I S' ∧ dN S' = dN S) (iH I) 0 S ⟨hO, rfl⟩ (by
    intro j S' _ hj ⟨h1, h2⟩
    exact ⟨livH_ok hk h1 (by omega), by rw [livH_N]; exact h2⟩)
  exact this
theorem year_ok (hk : IOk I) (hO : DOk I S) (hn : dN S + 1 < 2000) (e : Nat) : DOk I (yearS e I S) ∧ dN (yearS e I S) = dN S + 1 := by
  obtain ⟨h1, h2⟩ := year_fold hk hO e
  unfold yearS
  generalize foldN (livH e I) (iH I) 0 S = Sn at h1 h2
  obtain ⟨⟨a1, a2, a3⟩, b, c1, c2, c3, c4⟩ := h1
  refine ⟨⟨⟨a1, a2, ?_⟩, b, c1, c2, c3, c4⟩, ?_⟩
  · show dN Sn + 1 < 2000
    omega
  · show dN Sn + 1 = dN S + 1
    omega
def yrsS (e : Nat) (I : IS) (n : Nat) (S : DS) : DS := foldN (fun _ S => yearS e I S) n 0 S
theorem yrs_ok (hk : IOk I) (hO : DOk I S) (hn : dN S + n < 2000) (e : Nat) : DOk I (yrsS e I n S) ∧ dN (yrsS e I n S) = dN S + n := by
  have := foldN_inv (f := fun _ S => yearS e I S) (fun k (S' : DS) => DOk I S' ∧ dN S' = dN S + k) n 0 S ⟨hO, rfl⟩ (by
    intro j S' _ hj ⟨h1, h2⟩
    obtain ⟨g1, g2⟩ := year_ok hk h1 (by omega) e
    exact ⟨g1, by rw [g2, h2]; omega⟩)
  rw [Nat.zero_add] at this
  exact this
theorem c_years (hI : ICn M I) (hk : IOk I) (hS : DC a M S) (hO : DOk I S) (ha : a ∈ [39, 51, 62]) (he : iE I = nI e) (he9 : e ≤ 9999) (hn : dN S + n < 2000) :
    ∃ M', fX3_passYears a M (nI n) = okV M' ∧ DC a M' (yrsS e I n S) ∧ Fr (scrL a) M M' := by
  obtain ⟨l0, l1, l2⟩ := scrL_is ha
  unfold fX3_passYears
  obtain ⟨M1, ⟨hF, hD, hO1, _⟩, e'⟩ := loopI (fun d M k (_ : DS) => fX3_passYears_b2 a d M (nI n) (nI k)) (fun k M' S' => Fr (scrL a) M M' ∧ DC a M' S' ∧ DOk I S' ∧ dN S' = dN S + k) n (fun _ S => yearS e I S) (fun M _ => okV M)
    (by
      intro d M1 k S1 ⟨hF, hD, hO1, hN⟩ hkk
      rw [fX3_passYears_b2]
      dsimp only
      rw [if_pos (nI_lt hkk (by omega))]
      obtain ⟨M2, e2, D2, F2⟩ := c_year (hI.fr hF l0) hk hD hO1 ha he he9 (fX3_passYears_b2 a d) (nI n) (nI k)
      obtain ⟨g1, g2⟩ := year_ok hk hO1 (by omega) e
      rw [e2, nI_p1]
      exact ⟨M2, ⟨hF.tr F2, D2, g1, by rw [g2, hN]; omega⟩, rfl⟩)
    (by
      intro d M1 S1 _
      rw [fX3_passYears_b2]
      dsimp only
      rw [if_neg (nI_nlt (Nat.le_refl _) (by omega))])
    n 0 (by omega) FU (FU_gt (by omega)) M S ⟨Fr.rf, hS, hO, rfl⟩
  exact ⟨M1, e', hD, hF⟩
theorem r_years (hI : IR M I) (hk : IOk I) (hS : DRf M S) (hO : DOk I S) (he : iE I = nI e) (he9 : e ≤ 9999) (hn : dN S + n < 2000) :
    ∃ M', fX12_goOn M (nI n) = okV M' ∧ DRf M' (yrsS e I n S) ∧ Fr scrY M M' ∧ MF M M' := by
  unfold fX12_goOn
  obtain ⟨M1, ⟨hF, hD, hO1, _, hm⟩, e'⟩ := loopI (fun d M k (_ : DS) => fX12_goOn_b2 d M (nI n) (nI k)) (fun k M' S' => Fr scrY M M' ∧ DRf M' S' ∧ DOk I S' ∧ dN S' = dN S + k ∧ MF M M') n (fun _ S => yearS e I S) (fun M _ => okV M)
    (by
      intro d M1 k S1 ⟨hF, hD, hO1, hN, hm⟩ hkk
      rw [fX12_goOn_b2]
      dsimp only
      rw [if_pos (nI_lt hkk (by omega))]
      obtain ⟨M2, e2, D2, F2, m2⟩ := r_year (hI.fr hF apY) hk hD hO1 he he9
      obtain ⟨g1, g2⟩ := year_ok hk hO1 (by omega) e
      rw [e2, bV_ok, nI_p1]
      exact ⟨M2, ⟨hF.tr F2, D2, g1, by rw [g2, hN]; omega, hm.tr m2⟩, rfl⟩)
    (by
      intro d M1 S1 _
      rw [fX12_goOn_b2]
      dsimp only
      rw [if_neg (nI_nlt (Nat.le_refl _) (by omega))])
    n 0 (by omega) FU (FU_gt (by omega)) M S ⟨Fr.rf, hS, hO, rfl, fun _ _ _ _ => rfl⟩
  exact ⟨M1, e', hD, hF, hm⟩
end

-- ===== a year of the reference, whole =====
section
variable {M M' : Mem} {I : IS} {S : DS} {a h e : Nat}
theorem MF.tr {M M' M'' : Mem} (h : MF M M') (h' : MF M' M'') : MF M M'' := fun k a b c => (h' k a b c).trans (h k a b c)
theorem r_year (hI : IR M I) (hk : IOk I) (hS : DRf M S) (hO : DOk I S) (he : iE I = nI e) (he9 : e ≤ 9999) :
    ∃ M', fX12_aYear M = okV M' ∧ DRf M' (yearS e I S) ∧ Fr scrY M M' ∧ MF M M' := by
  have h8 := hk.1.1
  unfold fX12_aYear
  obtain ⟨M1, ⟨hF, hD, hO1, hm⟩, e'⟩ := loopI (fun n M k (_ : DS) => fX12_aYear_b2 n M (nI k)) (fun _ M' S' => Fr scrY M M' ∧ DRf M' S' ∧ DOk I S' ∧ MF M M') (iH I) (livH e I) (fun M S' => okV (si M 87 31 (gi M 87 31 + 1)))
    (by
      intro n M1 k S1 ⟨hF, hD, hO1, hm⟩ hkk
      have I1 := hI.fr hF apY
      rw [fX12_aYear_b2]
      dsimp only
      rw [I1.1.1, if_pos (nI_lt hkk (by omega)), hD.1.2.1, r_isOf hO1.1.2.1 (by omega), bI_ok]
      have hok := livH_ok (e := e) hk hO1 hkk
      unfold livH at hok ⊢
      by_cases c : bitN (dG S1) k = 0
      · rw [if_pos c] at hok ⊢
        rw [if_pos (by rw [c]; rfl), chk_in (by omega) (by decide), ix_nI (by omega), hD.2.2.1 (hO1.z (by omega)) k (by omega)]
        cases hp : dH S1 k with
        | none =>
          obtain ⟨M2, e2, D2, F2, m2⟩ := r_live I1 hk hD hO1 hkk he he9 (fX12_aYear_b2 n)
          have hr0 : nI (reap I S1 k) = 0 := by unfold reap; rw [hp]; rfl
          rw [hr0] at e2
          rw [if_pos (show shE none = -1 from rfl), e2]
          exact ⟨M2, ⟨hF.tr F2, D2, hok, hm.tr m2⟩, rfl⟩
        | some p =>
          have hpi := hO1.2.2.1 k p (by omega) hp
          rw [if_neg (show ¬ shE (some p) = -1 from nI_nem1 (by have := hk.1.2.1; omega)), chk_in (by omega) (by decide), hD.1.2.2.2.2.1]
          obtain ⟨M3, e3, F3⟩ := r_harv (yr := dN S1) I1 hk hD.1 hO1.1.1 hkk hpi (by have := hO1.1.2.2; omega)
          rw [show shE (some p) = nI p from rfl, e3, bI_ok]
          have D3 : DRf M3 S1 := ⟨hD.1.fr F3 (by decide), fun z k hk => by rw [F3.i (by decide)]; exact hD.2.1 z k hk, fun z k hk => by rw [F3.i (by decide)]; exact hD.2.2.1 z k hk, fun k hk => by rw [F3.i (by decide)]; exact hD.2.2.2 k hk⟩
          obtain ⟨M2, e2, D2, F2, m2⟩ := r_live (I1.fr F3 apR) hk D3 hO1 hkk he he9 (fX12_aYear_b2 n)
          have hr0 : nI (reap I S1 k) = crp I S1 (bitN (dL S1) k) k p (dN S1) := by
            unfold reap
            rw [hp]
            exact (crp_is I S1 (bitN (dL S1) k) k p (dN S1)).2.symm
          rw [hr0] at e2
          rw [e2]
          exact ⟨M2, ⟨(hF.tr (scrY_r F3)).tr F2, D2, hok, (hm.tr (fun k _ _ _ => F3.i (by decide) k)).tr m2⟩, rfl⟩
      · rw [if_neg c] at hok ⊢
        have c1 : bitN (dG S1) k = 1 := by unfold bitN at c ⊢; omega
        rw [c1, if_neg (by decide)]
        unfold fX12_aYear_b144
        rw [nI_p1]
        exact ⟨M1, ⟨hF, hD, hok, hm⟩, rfl⟩)
    (by
      intro n M1 S1 ⟨hF, hD, hO1, _⟩
      have I1 := hI.fr hF apY
      rw [fX12_aYear_b2]
      dsimp only
      rw [I1.1.1, if_neg (nI_nlt (Nat.le_refl _) (by omega)), wr_eq])
    (iH I) 0 (by omega) FU (FU_gt (by omega)) M S ⟨Fr.rf, hS, hO, fun _ _ _ _ => rfl⟩
  refine ⟨_, e', ?_, hF.wi (by decide), fun k k1 k2 k3 => by rw [gi_si_k k1]; exact hm k k1 k2 k3⟩
  generalize hSn : foldN (livH e I) (iH I) 0 S = Sn at hD hO1
  unfold yearS
  rw [hSn]
  obtain ⟨⟨a0, a1, a2, a3, a4, a5, a6⟩, b1, b2, b3⟩ := hD
  refine ⟨⟨?_, ?_, ?_, ?_, ?_, ?_, ?_⟩, ?_, ?_, ?_⟩
  · rw [gi_si_k (by decide)]; exact a0
  · rw [gi_si_k (by decide)]; exact a1
  · rw [gi_si_k (by decide)]; exact a2
  · rw [gi_si_k (by decide)]; exact a3
  · rw [gi_si_s, a4, nI_p1]; rfl
  · rw [gi_si_k (by decide)]; exact a5
  · rw [gi_si_k (by decide)]; exact a6
  · intro z k hk; rw [gi_si_a (by decide)]; exact b1 z k hk
  · intro z k hk; rw [gi_si_a (by decide)]; exact b2 z k hk
  · intro k hk; rw [gi_si_a (by decide)]; exact b3 k hk
end

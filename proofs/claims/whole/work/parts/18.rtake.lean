-- ===== the reference takes shares, whole =====
section
variable {M : Mem} {I : IS} {S : DS}
theorem r_clearS (M : Mem) : ∃ M1, fX12_takeShares_b2 FU M 0 = fX12_takeShares_b23 FU M1 0 ∧ Fr scrT M M1 ∧ ∀ h, h < 8 → gi M1 103 h = -1 := by
  obtain ⟨M', ⟨h1, h2⟩, e'⟩ := loopI (fun n M k (_ : Nat) => fX12_takeShares_b2 n M (nI k)) (fun k M' _ => Fr scrT M M' ∧ ∀ h, h < k → gi M' 103 h = -1) 8 (fun _ x => x) (fun M _ => fX12_takeShares_b23 FU M 0)
    (by
      intro n M1 k x ⟨hF, hq⟩ hk
      rw [fX12_takeShares_b2]
      dsimp only
      rw [if_pos (ltL 8 hk (by decide)), chk_in hk (by decide), ix_nI (by omega), wr_eq, nI_p1]
      refine ⟨_, ⟨hF.wi (by unfold scrT; decide), fun h hh => ?_⟩, rfl⟩
      by_cases e : h = k
      · subst e; exact gi_si_s
      · rw [gi_si_k e]; exact hq h (by omega))
    (by
      intro n M1 x _
      rw [fX12_takeShares_b2]
      dsimp only
      rw [if_neg (nltL 8 (Nat.le_refl _) (by decide))])
    8 0 (by omega) FU (FU_gt (by omega)) M 0 ⟨Fr.rf, fun h hh => by omega⟩
  exact ⟨M', e', h1, h2⟩
theorem r_take (hI : IR M I) (hk : IOk I) (h0 : DR0 M S) (ho : dO S 8 = 8 → ∀ k, k < 8 → gi M 104 k = nI (dO S k)) (hr : ∀ h, h < 8 → gi M 102 h = nI (dR S h)) (hO : DOk I S) {ab : Option Nat} (hab : ∀ h, ab = some h → h < 8) (hn : gi M 87 42 = abE ab) :
    ∃ M', fX12_takeShares M = okV M' ∧ DRf M' (setH S (tkS I S ab)) ∧ Fr scrT M M' := by
  have h8 := hk.1.1
  have h9 := hk.1.2.1
  unfold fX12_takeShares
  obtain ⟨Mc, ec, Fc, hc⟩ := r_clearS M
  rw [ec]
  obtain ⟨M', ⟨hF, hf, hs⟩, e'⟩ := loopI (fun n M k (_ : Nat → Option Nat) => fX12_takeShares_b23 n M (nI k))
    (fun k M' f => Fr scrT M M' ∧ f = foldN (tkStep I S ab) k 0 (fun _ => none) ∧ ∀ h, h < 8 → gi M' 103 h = shE (f h))
    (iH I) (tkStep I S ab) (fun M _ => okV M)
    (by
      intro n M1 k f ⟨hF, hf, hs⟩ hkk
      have I1 := hI.fr hF apT
      have S1 := h0.fr hF (by decide)
      have hok := hO.2.1.1 k (by omega)
      have hoi := hO.2.1.2.2.1 k hkk
      have hsn : tkStep I S ab k f = foldN (tkStep I S ab) (k + 1) 0 (fun _ => none) := by
        rw [foldN_snoc, Nat.zero_add, ← hf]
      have tf := tk_facts hk hO ab k (by omega)
      rw [← hf] at tf
      have hfn : f (dO S k) = none := tf.2 _ (fun j hj e => by have := hO.2.1.2.1 j k (by omega) (by omega) e; omega)
      have hoth : ∀ h, h ≠ dO S k → tkStep I S ab k f h = f h := fun h hh => by
        unfold tkStep ups
        rw [if_neg hh]
      have hoK : gi M1 104 k = nI (dO S k) := by rw [hF.i (by decide)]; exact ho (hO.z (by omega)) k (by omega)
      have hnn : gi M1 87 42 = abE ab := by rw [hF.i (by decide)]; exact hn
      rw [fX12_takeShares_b23]
      dsimp only
      rw [I1.1.1, if_pos (nI_lt hkk (by omega)), chk_in (by omega) (by decide), ix_nI (by omega), hoK, hnn]
      by_cases hz : ab = some (dO S k)
      · rw [if_pos (by rw [hz]; rfl)]
        unfold fX12_takeShares_b127
        rw [nI_p1]
        refine ⟨M1, ⟨hF, hsn, fun h hh => ?_⟩, rfl⟩
        rw [hs h hh]
        by_cases e : h = dO S k
        · rw [e, hfn]
          unfold tkStep ups
          rw [if_pos rfl, if_pos hz]
        · rw [hoth h e]
      · rw [if_neg (fun e => hz ?_)]
        · obtain ⟨M2, e2, F2⟩ := r_choose (f := f) I1 hk S1 hO.1.1 hoi hs tf.1 (fun h hh => tf.2 h (fun j hj e => by have := hO.2.1.2.2.1 j (by omega); omega)) (fX12_takeShares_b23 n) (nI k)
          rw [e2, nI_p1]
          refine ⟨_, ⟨(hF.tr (scrT_r F2)).wi (by unfold scrT; decide), hsn, fun h hh => ?_⟩, rfl⟩
          by_cases e : h = dO S k
          · rw [e, gi_si_s]
            unfold tkStep ups
            rw [if_pos rfl, if_neg hz]
          · rw [gi_si_k e, hoth h e, F2.i (by decide)]
            exact hs h hh
        · cases hab9 : ab with
          | none => rw [hab9] at e; exact absurd e (nI_nem1 (by omega))
          | some h =>
            rw [hab9] at e
            have e : nI (dO S k) = nI h := e
            have := hab h hab9
            rw [(nI_eq (by omega) (by omega)).mp e])
    (by
      intro n M1 x ⟨hF, _⟩
      have I1 := hI.fr hF apT
      rw [fX12_takeShares_b23]
      dsimp only
      rw [I1.1.1, if_neg (nI_nlt (Nat.le_refl _) (by omega))])
    (iH I) 0 (by omega) FU (FU_gt (by omega)) Mc (fun _ => none) ⟨Fc, rfl, fun h hh => hc h hh⟩
  refine ⟨M', e', ⟨?_, ?_, ?_, ?_⟩, hF⟩
  · exact h0.fr hF (by decide)
  · intro z k hk8; rw [hF.i (by decide)]; exact ho z k hk8
  · intro _ h hh; exact hs h hh
  · intro h hh; rw [hF.i (by decide)]; exact hr h hh
end

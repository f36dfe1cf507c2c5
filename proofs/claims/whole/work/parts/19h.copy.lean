-- ===== one state copied to another =====
def stA (a : Nat) : List Nat := [a, a + 1, a + 2, a + 3]
theorem stA_in {a x : Nat} : x ∈ stA a ↔ x = a ∨ x = a + 1 ∨ x = a + 2 ∨ x = a + 3 := by
  unfold stA
  simp only [List.mem_cons, List.not_mem_nil, or_false]
theorem c_copy {M : Mem} {S : DS} {I : IS} {a b : Nat} (hS : DC b M S) (hO : DOk I S) (hab : a + 3 < b ∨ b + 3 < a) :
    ∃ M', fX8_copyFrom a b M = okV M' ∧ DC a M' S ∧ Fr (stA a) M M' := by
  unfold fX8_copyFrom
  obtain ⟨⟨a0, a1, a2, a3, a4, a5, a6⟩, b1, b2, b3⟩ := hS
  have nb : b ≠ a := by omega
  rw [wr_eq, wr_eq, wr_eq, wr_eq, wr_eq, wr_eq, wr_eq]
  simp only [gi_si_a nb, a0, a1, a2, a3, a4, a5, a6]
  obtain ⟨M7, hM7⟩ : ∃ M7, M7 = si (si (si (si (si (si (si M a 0 (nI (dL S))) a 1 (nI (dG S))) a 2 (dX S)) a 3 (dY S)) a 4 (nI (dN S))) a 5 (dT S)) a 6 (dC S) := ⟨_, rfl⟩
  rw [← hM7]
  have F7 : Fr (stA a) M M7 := by
    have q : a ∈ stA a := stA_in.mpr (Or.inl rfl)
    rw [hM7]
    exact ((((((Fr.rf.wi q).wi q).wi q).wi q).wi q).wi q).wi q
  have D7 : DC0 a M7 S := by
    rw [hM7]
    refine ⟨?_, ?_, ?_, ?_, ?_, ?_, ?_⟩ <;> simp [gi_si]
  have ni : ∀ x, x = b + 1 ∨ x = b + 2 ∨ x = b + 3 → x ∉ stA a := fun x hx c => by have := stA_in.mp c; omega
  obtain ⟨M', ⟨hF, hD, hc⟩, e'⟩ := loopI (fun n M k (_ : Nat) => fX8_copyFrom_b58 a b n M (nI k)) (fun k M' _ => Fr (stA a) M M' ∧ DC0 a M' S ∧ ∀ j, j < k → gi M' (a + 1) j = gi M (b + 1) j ∧ gi M' (a + 2) j = gi M (b + 2) j ∧ gi M' (a + 3) j = gi M (b + 3) j) 8 (fun _ x => x) (fun M _ => okV M)
    (by
      intro n M1 k x ⟨hF, hD, hc⟩ hk
      rw [fX8_copyFrom_b58]
      dsimp only
      rw [if_pos (ltL 8 hk (by decide)), ix_nI (by omega)]
      simp only [chk_in hk (show 8 < 2 ^ 31 by decide), wr_eq]
      rw [nI_p1]
      refine ⟨_, ⟨((hF.wi (stA_in.mpr (by omega))).wi (stA_in.mpr (by omega))).wi (stA_in.mpr (by omega)), ?_, fun j hj => ?_⟩, rfl⟩
      · unfold DC0 at hD ⊢
        simp only [gi_si_a (show a ≠ a + 1 by omega), gi_si_a (show a ≠ a + 2 by omega), gi_si_a (show a ≠ a + 3 by omega)]
        exact hD
      · by_cases e : j = k
        · subst e
          refine ⟨?_, ?_, ?_⟩
          · rw [gi_si_a (by omega), gi_si_a (by omega), gi_si_s]; exact hF.i (ni _ (by omega)) j
          · rw [gi_si_a (by omega), gi_si_s, gi_si_a (by omega)]; exact hF.i (ni _ (by omega)) j
          · rw [gi_si_s, gi_si_a (by omega), gi_si_a (by omega)]; exact hF.i (ni _ (by omega)) j
        · rw [gi_si_k e, gi_si_k e, gi_si_k e, gi_si_k e, gi_si_k e, gi_si_k e, gi_si_k e, gi_si_k e, gi_si_k e]
          exact hc j (by omega))
    (by
      intro n M1 x _
      rw [fX8_copyFrom_b58]
      dsimp only
      rw [if_neg (nltL 8 (Nat.le_refl _) (by decide))])
    8 0 (by omega) FU (FU_gt (by omega)) M7 0 ⟨F7, D7, fun j hj => by omega⟩
  refine ⟨M', e', ⟨hD, fun z k hk => ?_, fun z k hk => ?_, fun k hk => ?_⟩, hF⟩
  · rw [(hc _ (hO.2.1.1 k hk)).1]; exact b1 z k hk
  · rw [(hc k hk).2.1]; exact b2 z k hk
  · rw [(hc k hk).2.2]; exact b3 k hk

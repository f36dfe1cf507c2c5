-- ===== founders =====
/-- years begin anew -/
def bgS (S : DS) : DS := setY S 0 0 (dT S) (fun _ => 0)
theorem bg_ok {I : IS} {S : DS} (hO : DOk I S) : DOk I (bgS S) := by
  obtain ⟨⟨a1, a2, a3⟩, b, c1, c2, c3, c4⟩ := hO
  exact ⟨⟨a1, (by decide : (0 : Nat) < 256), (by decide : (0 : Nat) < 2000)⟩, b, c1, c2, fun _ _ => Nat.zero_le _, fun _ _ _ => rfl⟩
/-- one founding: the state behind it -/
def fdS (e : Nat) (I : IS) (S : DS) (w : Int32) : DS := yrsS e I 5 (setH (setLC (bgS S) (drS (iH I) w).2 (dC S)) (tkS I (setLC (bgS S) (drS (iH I) w).2 (dC S)) none))
theorem fd_ok {I : IS} {S : DS} (hk : IOk I) (hO : DOk I S) (e : Nat) (w : Int32) : DOk I (fdS e I S w) :=
  (yrs_ok hk (tk_ok hk (LC_ok (bg_ok hO) (drS_lt hk.1.1 w)) none) (show 0 + 5 < 2000 by decide) e).1
def mxS (S : DS) (n a : Nat) : Nat := foldN (fun h a => if a < dR S h then dR S h else a) n 0 a
theorem mx_le {S : DS} {I : IS} (hO : DOk I S) {n a : Nat} (hn : n ≤ 8) (ha : a ≤ 999) : mxS S n a ≤ 999 := by
  have := foldN_inv (f := fun h a => if a < dR S h then dR S h else a) (fun _ a => a ≤ 999) n 0 a ha (by
    intro j a _ hj ha
    have := hO.2.2.2.2.1 j (by omega)
    show (if a < dR S j then dR S j else a) ≤ 999
    split <;> omega)
  exact this
/-- the greatest of all with a: first all from nothing, or from a on -/
theorem mx_from {S : DS} : ∀ (n : Nat) (a : Nat), mxS S n a = if a < mxS S n 0 then mxS S n 0 else a := by
  intro n
  induction n with
  | zero =>
    intro a
    unfold mxS foldN
    rw [if_neg (by omega)]
  | succ n ih =>
    intro a
    have e : ∀ a, mxS S (n + 1) a = if mxS S n a < dR S n then dR S n else mxS S n a := fun a => by unfold mxS; rw [foldN_snoc, Nat.zero_add]
    rw [e, e, ih a]
    repeat' split
    all_goals omega
theorem mx_i {I : IS} {S : DS} (hk : IOk I) (hO : DOk I S) (a : Nat) : mxS S 8 a = mxS S (iH I) a := by
  have h8 := hk.1.1
  unfold mxS
  obtain ⟨m, hm⟩ : ∃ m, 8 = iH I + m := ⟨8 - iH I, by omega⟩
  rw [hm, foldN_add]
  have := foldN_inv (f := fun h a => if a < dR S h then dR S h else a) (fun _ x => x = foldN (fun h a => if a < dR S h then dR S h else a) (iH I) 0 a) m (0 + iH I) (foldN (fun h a => if a < dR S h then dR S h else a) (iH I) 0 a) rfl (by
    intro j x hj hj2 hx
    show (if x < dR S j then dR S j else x) = _
    rw [hO.2.2.2.2.2 j (by omega) (by omega), if_neg (by omega)]
    exact hx)
  exact this
section
variable {M : Mem} {I : IS} {S : DS}
theorem c_most (hO : DOk I S) (hS : ∀ h, h < 8 → gi M 65 h = nI (dR S h)) : fX8_mostStore M = okI M (nI (mxS S 8 0)) := by
  unfold fX8_mostStore
  obtain ⟨M', ⟨hM, _⟩, e'⟩ := loopI (fun n M k (a : Nat) => fX8_mostStore_b4 n M (nI a) (nI k)) (fun _ M' a => M' = M ∧ a ≤ 999) 8 (fun h a => if a < dR S h then dR S h else a) (fun M a => okI M (nI a))
    (by
      intro n M1 k a ⟨hM, ha⟩ hk
      subst hM
      have hl := hO.2.2.2.2.1 k hk
      rw [fX8_mostStore_b4]
      dsimp only
      rw [if_pos (ltL 8 hk (by decide)), chk_in hk (by decide), ix_nI (by omega), hS k hk, nI_p1]
      refine ⟨M1, ⟨rfl, by split <;> omega⟩, ?_⟩
      by_cases c : a < dR S k
      · rw [if_pos (nI_lt c (by omega)), if_pos c]
      · rw [if_neg (nI_nlt (by omega) (by omega)), if_neg c])
    (by
      intro n M1 a hM
      rw [fX8_mostStore_b4]
      dsimp only
      rw [if_neg (nltL 8 (Nat.le_refl _) (by decide))])
    8 0 (by omega) FU (FU_gt (by omega)) M 0 ⟨rfl, Nat.zero_le _⟩
  subst hM
  exact e'
theorem c_begin62 (hS : DC 62 M S) : ∃ M1, fX8_beginYears 62 M = okV M1 ∧ DC 62 M1 (bgS S) ∧ Fr [62, 65] M M1 := by
  unfold fX8_beginYears
  rw [wr_eq, wr_eq]
  have F0 : Fr [62, 65] M (si (si M 62 4 0) 62 1 0) := (Fr.rf.wi (by decide)).wi (by decide)
  obtain ⟨M', ⟨F', q1, q2⟩, e'⟩ := loopI (fun n M k (_ : Nat) => fX8_beginYears_b12 62 n M (nI k)) (fun k M' _ => Fr [62, 65] M M' ∧ (∀ j, gi M' 62 j = gi (si (si M 62 4 0) 62 1 0) 62 j) ∧ ∀ j, j < k → gi M' 65 j = 0) 8 (fun _ a => a) (fun M _ => okV M)
    (by
      intro n M1 k a ⟨hF, q1, q2⟩ hk
      rw [fX8_beginYears_b12]
      dsimp only
      rw [if_pos (ltL 8 hk (by decide)), chk_in hk (by decide), ix_nI (by omega), wr_eq, nI_p1]
      refine ⟨_, ⟨hF.wi (by decide), fun j => (gi_si_a (by decide)).trans (q1 j), fun j hj => ?_⟩, rfl⟩
      by_cases e : j = k
      · rw [e]; exact gi_si_s
      · exact (gi_si_k e).trans (q2 j (by omega)))
    (by
      intro n M1 a _
      rw [fX8_beginYears_b12]
      dsimp only
      rw [if_neg (nltL 8 (Nat.le_refl _) (by decide))])
    8 0 (by omega) FU (FU_gt (by omega)) (si (si M 62 4 0) 62 1 0) 0 ⟨F0, fun _ => rfl, fun j hj => by omega⟩
  obtain ⟨⟨a0, a1, a2, a3, a4, a5, a6⟩, b1, b2, b3⟩ := hS
  refine ⟨M', e', ⟨⟨?_, ?_, ?_, ?_, ?_, ?_, ?_⟩, fun z k hk => ?_, fun z k hk => ?_, fun k hk => q2 k hk⟩, F'⟩
  · rw [q1, gi_si_k (by decide), gi_si_k (by decide)]; exact a0
  · rw [q1, gi_si_s]; rfl
  · rw [q1, gi_si_k (by decide), gi_si_k (by decide)]; exact a2
  · rw [q1, gi_si_k (by decide), gi_si_k (by decide)]; exact a3
  · rw [q1, gi_si_k (by decide), gi_si_s]; rfl
  · rw [q1, gi_si_k (by decide), gi_si_k (by decide)]; exact a5
  · rw [q1, gi_si_k (by decide), gi_si_k (by decide)]; exact a6
  · rw [F'.i (by decide)]; exact b1 z k hk
  · rw [F'.i (by decide)]; exact b2 z k hk
end

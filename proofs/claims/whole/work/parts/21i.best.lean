-- ===== the class's table is filled =====
section
variable {M : Mem} {X : WX}
def scrG : List Nat := [77, 78, 79, 80, 81, 82, 83, 84, 85]
theorem scrG_in {h : Nat} (hh : h ≤ 8) : 77 + h ∈ scrG := by
  unfold scrG
  simp only [List.mem_cons, List.not_mem_nil, or_false]
  omega
theorem WTc.g {M' : Mem} (hw : WTc M X) (F : Fr scrG M M') (hX : WOk X) : WTc M' X := by
  have h8 := hX.1.1.1
  obtain ⟨a, b, c⟩ := hw
  refine ⟨(F.i (by decide) _).trans a, (F.i (by decide) _).trans b, fun h p hh hp => (F.i ?_ _).trans (c h p hh hp)⟩
  unfold scrG
  simp only [List.mem_cons, List.not_mem_nil, or_false]
  omega
theorem c_fill (hX : WOk X) (hw : WTc M X) : ∃ M', fX4_fill M 0 = okV M' ∧ Fr scrG M M' ∧ BTc M' X 0 := by
  have h8 := hX.1.1.1
  have h9 := hX.1.1.2.1
  have hP5 : 2 ^ iP (xI X) ≤ 512 := Nat.pow_le_pow_right (n := 2) (by decide) h9
  have hq : bq X < 2 ^ 31 := by unfold bq; split <;> omega
  obtain ⟨M2, ⟨F2, b2⟩, e2⟩ := loopI (fun f M g (_ : Nat) => fX4_fill_b27 f M 0 (nI (bq X)) 0 (nI g)) (fun g M' _ => Fr scrG M M' ∧ ∀ g', g' < g → gl M' (77 + iH (xI X)) g' = eMi (cBW X (iH (xI X)) g')) (2 ^ iP (xI X)) (fun _ a => a) (fun M _ => fX4_fill_b80 FU M 0 (nI (iH (xI X)) - 1))
    (by
      intro f M2 g a ⟨F2, b2⟩ hg
      have hw2 := hw.g F2 hX
      have hpc := (pce_is g (by omega)).2
      have ev : eMi (cBW X (iH (xI X)) g) = if pcn 10 g = bq X then 0 else -9223372036854775808 := by
        unfold cBW
        rw [if_pos (Or.inl rfl)]
        unfold BW
        rw [Nat.sub_self]
        unfold bWs
        split <;> rfl
      rw [fX4_fill_b27]
      dsimp only
      unfold fX4_fill_b65
      rw [hw2.2.1, or_bitP _ (by omega), if_pos (nI_lt hg (by omega)), hw2.1, chk_in (by omega) (by decide), c_bits (by omega), bI_ok, chk_in (by omega) (by decide), chk_in (by omega) (by decide), ix_nI (by omega), ix_nI (by omega), wr_eq, wr_eq, nI_p1]
      have fin : ∀ v, v = eMi (cBW X (iH (xI X)) g) → (Fr scrG M (sl M2 (77 + iH (xI X)) g v) ∧ ∀ g', g' < g + 1 → gl (sl M2 (77 + iH (xI X)) g v) (77 + iH (xI X)) g' = eMi (cBW X (iH (xI X)) g')) := by
        intro v hv
        refine ⟨F2.wl (scrG_in h8), fun g' hg' => ?_⟩
        rw [gl_sl]
        by_cases e : g' = g
        · rw [e, if_pos ⟨rfl, rfl⟩]; exact hv
        · rw [if_neg (fun z => e z.2)]; exact b2 g' (by omega)
      by_cases c : pcn 10 g = bq X
      · rw [if_pos (by rw [c])]
        exact ⟨_, fin 0 (by rw [ev, if_pos c]), rfl⟩
      · rw [if_neg (c_lit (by omega) hq c)]
        exact ⟨_, fin (-9223372036854775808) (by rw [ev, if_neg c]), rfl⟩)
    (by
      intro f M2 a ⟨F2, _⟩
      have hw2 := hw.g F2 hX
      rw [fX4_fill_b27]
      dsimp only
      rw [hw2.2.1, or_bitP _ (by omega), if_neg (nI_nlt (Nat.le_refl _) (by omega)), hw2.1])
    (2 ^ iP (xI X)) 0 (by omega) FU (FU_gt (by omega)) M 0 ⟨Fr.rf, fun g' hg' => by omega⟩
  have down : ∀ k, k ≤ iH (xI X) → ∀ f, k < f → ∀ M3, Fr scrG M M3 → BTc M3 X k → ∃ M4, fX4_fill_b80 f M3 0 (nI k - 1) = okV M4 ∧ Fr scrG M M4 ∧ BTc M4 X 0 := by
    intro k
    induction k with
    | zero =>
      intro _ f hf M3 F3 b3
      obtain ⟨m, rfl⟩ : ∃ m, f = m + 1 := ⟨f - 1, by omega⟩
      rw [fX4_fill_b80]
      dsimp only
      rw [if_pos (show nI 0 - 1 < 0 by decide)]
      exact ⟨M3, rfl, F3, b3⟩
    | succ h ih =>
      intro hki f hf M3 F3 b3
      obtain ⟨m, rfl⟩ : ∃ m, f = m + 1 := ⟨f - 1, by omega⟩
      obtain ⟨M4, ⟨F4, b4, c4⟩, e4⟩ := loopI (fun d M g (_ : Nat) => fX4_fill_b88 (fX4_fill_b80 m) d M 0 (nI h) (nI g)) (fun g M' _ => Fr scrG M M' ∧ BTc M' X (h + 1) ∧ ∀ g', g' < g → gl M' (77 + h) g' = eMi (cBW X h g')) (2 ^ iP (xI X)) (fun _ a => a) (fun M _ => fX4_fill_b80 m M 0 (nI h - 1))
        (by
          intro d M4 g a ⟨F4, b4, c4⟩ hg
          have hw4 := hw.g F4 hX
          rw [fX4_fill_b88]
          dsimp only
          rw [hw4.2.1, or_bitP _ (by omega), if_pos (nI_lt hg (by omega)), chk_in (by omega) (by decide), c_from hX hw4 b4 (by omega) hg, bL_ok, chk_in (by omega) (by decide), ix_nI (by omega), ix_nI (by omega), wr_eq, nI_p1]
          refine ⟨_, ⟨F4.wl (scrG_in (by omega)), fun h' g' h1 h2 h3 => ?_, fun g' hg' => ?_⟩, rfl⟩
          · rw [gl_sl, if_neg (fun z => by omega)]; exact b4 h' g' h1 h2 h3
          · rw [gl_sl]
            by_cases e : g' = g
            · rw [e, if_pos ⟨rfl, rfl⟩]
            · rw [if_neg (fun z => e z.2)]; exact c4 g' (by omega))
        (by
          intro d M4 a ⟨F4, _⟩
          have hw4 := hw.g F4 hX
          rw [fX4_fill_b88]
          dsimp only
          rw [hw4.2.1, or_bitP _ (by omega), if_neg (nI_nlt (Nat.le_refl _) (by omega)), show nI h + (-1) = nI h - 1 from (Int32.sub_eq_add_neg _ _).symm])
        (2 ^ iP (xI X)) 0 (by omega) FU (FU_gt (by omega)) M3 0 ⟨F3, b3, fun g' hg' => by omega⟩
      have e4 : fX4_fill_b88 (fX4_fill_b80 m) FU M3 0 (nI h) 0 = fX4_fill_b80 m M4 0 (nI h - 1) := e4
      rw [fX4_fill_b80]
      dsimp only
      rw [nI_m1 (by omega), show h + 1 - 1 = h by omega, if_neg (nI_pos (by omega)), e4]
      refine ih (by omega) m (by omega) M4 F4 (fun h' g' h1 h2 h3 => ?_)
      by_cases e : h' = h
      · rw [e]; exact c4 g' h3
      · exact b4 h' g' (by omega) h2 h3
  obtain ⟨M4, e4, F4, b4⟩ := down (iH (xI X)) (Nat.le_refl _) FU (FU_gt (by omega)) M2 F2 (fun h g h1 h2 h3 => by rw [show h = iH (xI X) by omega]; exact b2 g h3)
  refine ⟨M4, ?_, F4, b4⟩
  unfold fX4_fill fX4_fill_b23
  rw [if_pos rfl, hw.1, hw.2.1, q_min X hX]
  exact e2.trans e4
end

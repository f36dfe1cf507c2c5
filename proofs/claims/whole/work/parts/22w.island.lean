-- ===== island =====
section
variable {M : Mem} {X : WX}
theorem c_begin {D mx my : Nat} (hD : D = 3 ∨ D = 24) (h12 : gi M D 12 = nI mx) (h13 : gi M D 13 = nI my) : ∃ M', fX0_begin D M = okV M' ∧ DC 39 M' (S00 mx my) ∧ (gi M' 43 1 = 0 ∧ gi M' 43 2 = 0 ∧ gi M' 45 3 = 0) ∧ Fr [39, 40, 41, 42, 43, 45] M M' := by
  unfold fX0_begin fX8_begin fX1_clear
  have q12 : gi (si M 39 0 0) D 12 = nI mx := (gi_si_a (by omega)).trans h12
  have q13 : gi (si (si M 39 0 0) 39 2 (nI mx)) D 13 = nI my := by rw [gi_si_a (by omega), gi_si_a (by omega)]; exact h13
  rw [wr_eq, wr_eq, q12, wr_eq, q13, wr_eq, wr_eq]
  obtain ⟨M1, hM1⟩ : ∃ M1, M1 = si (si (si (si (si M 39 0 0) 39 2 (nI mx)) 39 3 (nI my)) 39 5 0) 39 6 0 := ⟨_, rfl⟩
  rw [← hM1]
  obtain ⟨M2, ⟨F2, a2, b2⟩, e2⟩ := loopI (fun f M k (_ : Nat) => fX8_begin_b33 D f M (nI k)) (fun k M' _ => Fr [40, 41] M1 M' ∧ (∀ i, i < k → gi M' 40 i = nI i) ∧ ∀ i, i < k → gi M' 41 i = -1) 8 (fun _ a => a) (fun M _ => bV (fX8_beginYears 39 M) (fun M6 => some (M6, .inr none)))
    (by
      intro f N k _ ⟨G1, p1, p2⟩ hkk
      rw [fX8_begin_b33]
      dsimp only
      rw [if_pos (ltL 8 hkk (by decide)), chk_in hkk (by decide), ix_nI (by omega), wr_eq, chk_in hkk (by decide), wr_eq, nI_p1]
      refine ⟨_, ⟨(G1.wi (by decide)).wi (by decide), fun i hi => ?_, fun i hi => ?_⟩, rfl⟩
      · rw [gi_si_a (by decide)]
        by_cases e : i = k
        · rw [e, gi_si_s]
        · rw [gi_si_k e]; exact p1 i (by omega)
      · by_cases e : i = k
        · rw [e, gi_si_s]
        · rw [gi_si_k e, gi_si_a (by decide)]; exact p2 i (by omega))
    (by
      intro f N _ _
      rw [fX8_begin_b33]
      dsimp only
      rw [if_neg (show ¬ nI 8 < 8 by decide)])
    8 0 (by omega) FU (FU_gt (by omega)) M1 0 ⟨Fr.rf, fun i hi => by omega, fun i hi => by omega⟩
  have e2 : fX8_begin_b33 D FU M1 0 = bV (fX8_beginYears 39 M2) (fun M6 => some (M6, .inr none)) := e2
  obtain ⟨M3, ⟨F3, a3⟩, e3⟩ := loopI (fun f M k (_ : Nat) => fX8_beginYears_b12 39 f M (nI k)) (fun k M' _ => Fr [42] (si (si M2 39 4 0) 39 1 0) M' ∧ ∀ i, i < k → gi M' 42 i = nI 0) 8 (fun _ a => a) (fun M _ => okV M)
    (by
      intro f N k _ ⟨G1, p1⟩ hkk
      rw [fX8_beginYears_b12]
      dsimp only
      rw [if_pos (ltL 8 hkk (by decide)), chk_in hkk (by decide), ix_nI (by omega), wr_eq, nI_p1]
      refine ⟨_, ⟨G1.wi (by decide), fun i hi => ?_⟩, rfl⟩
      by_cases e : i = k
      · rw [e]; exact gi_si_s
      · rw [gi_si_k e]; exact p1 i (by omega))
    (by
      intro f N _ _
      rw [fX8_beginYears_b12]
      dsimp only
      rw [if_neg (show ¬ nI 8 < 8 by decide)])
    8 0 (by omega) FU (FU_gt (by omega)) (si (si M2 39 4 0) 39 1 0) 0 ⟨Fr.rf, fun i hi => by omega⟩
  have e3 : fX8_beginYears_b12 39 FU (si (si M2 39 4 0) 39 1 0) 0 = okV M3 := e3
  unfold fX8_beginYears at e2
  rw [wr_eq, wr_eq, e3, bV_ok] at e2
  have g39 : ∀ k, gi M3 39 k = gi (si (si M2 39 4 0) 39 1 0) 39 k := fun k => F3.i (by decide) k
  have m1 : ∀ k, gi M2 39 k = gi M1 39 k := fun k => F2.i (by decide) k
  rw [e2, bV_ok, wr_eq, wr_eq, bV_ok, wr_eq]
  refine ⟨_, rfl, ?_, ⟨?_, ?_, gi_si_s⟩, ?_⟩
  · have base : DC 39 M3 (S00 mx my) := by
      refine ⟨⟨?_, ?_, ?_, ?_, ?_, ?_, ?_⟩, fun _ k hk => ?_, fun _ h hh => ?_, fun h hh => a3 h hh⟩
      · rw [g39, gi_si_k (by decide), gi_si_k (by decide), m1, hM1, gi_si_k (by decide), gi_si_k (by decide), gi_si_k (by decide), gi_si_k (by decide), gi_si_s]; rfl
      · rw [g39, gi_si_s]; rfl
      · rw [g39, gi_si_k (by decide), gi_si_k (by decide), m1, hM1, gi_si_k (by decide), gi_si_k (by decide), gi_si_k (by decide), gi_si_s]; rfl
      · rw [g39, gi_si_k (by decide), gi_si_k (by decide), m1, hM1, gi_si_k (by decide), gi_si_k (by decide), gi_si_s]; rfl
      · rw [g39, gi_si_k (by decide), gi_si_s]; rfl
      · rw [g39, gi_si_k (by decide), gi_si_k (by decide), m1, hM1, gi_si_k (by decide), gi_si_s]; rfl
      · rw [g39, gi_si_k (by decide), gi_si_k (by decide), m1, hM1, gi_si_s]; rfl
      · show gi M3 40 k = nI k
        rw [F3.i (by decide), gi_si_a (by decide), gi_si_a (by decide)]; exact a2 k hk
      · show gi M3 41 h = -1
        rw [F3.i (by decide), gi_si_a (by decide), gi_si_a (by decide)]; exact b2 h hh
    exact base.eq (fun k => by rw [gi_si_a (by decide), gi_si_a (by decide), gi_si_a (by decide)]) (fun k => by rw [gi_si_a (by decide), gi_si_a (by decide), gi_si_a (by decide)]) (fun k => by rw [gi_si_a (by decide), gi_si_a (by decide), gi_si_a (by decide)]) (fun k => by rw [gi_si_a (by decide), gi_si_a (by decide), gi_si_a (by decide)])
  · rw [gi_si_a (by decide), gi_si_k (by decide), gi_si_s]
  · rw [gi_si_a (by decide), gi_si_s]
  · have FM1 : Fr [39, 40, 41, 42, 43, 45] M M1 := by rw [hM1]; exact ((((Fr.rf.wi (by decide)).wi (by decide)).wi (by decide)).wi (by decide)).wi (by decide)
    exact (((((((FM1.tr (F2.mono (by decide))).wi (by decide)).wi (by decide)).tr (F3.mono (by decide))).wi (by decide)).wi (by decide)).wi (by decide))
/-- both sides, from two memories -/
def AgW (cf rf : Mem → RS) (kx : Nat → Int32) (X : WX) : Prop := ∀ Mc Mr, CI Mc X → RI Mr X → ∃ X', WOk X' ∧
  ((∃ v M1 M2, (cf Mc = okI M1 v ∧ CI M1 X' ∧ FrC Mc M1) ∧ rf Mr = okI M2 v ∧ gi M2 87 3 = 0 ∧ RI M2 X' ∧ FrR Mr M2) ∨
   ∃ x M1 M2 w, ((x = 1 ∨ x = 2) ∧ kx x ≠ 0) ∧ (cf Mc = some (M1, .inl x) ∧ CI M1 X' ∧ FrC Mc M1) ∧ rf Mr = okI M2 w ∧ gi M2 87 3 = kx x ∧ RI M2 X' ∧ FrR Mr M2)
theorem IR.lo {M' : Mem} {I : IS} (h : IR M I) (hk : IOk I) (e : ∀ a, 90 ≤ a → a ≤ 99 → ∀ k, k < low a → gi M' a k = gi M a k) : IR M' I := by
  obtain ⟨⟨q1, q2, q3, q4, q5, q6⟩, r1, r2, r3, r4, r5⟩ := h
  have h8 := hk.1.1
  have h9 := hk.1.2.1
  have h10 := hk.1.2.2
  have hW := hk.2.1.1
  have hY := hk.2.1.2
  refine ⟨⟨?_, ?_, ?_, ?_, ?_, ?_⟩, fun k hkk => ?_, fun k hkk => ?_, fun k hkk => ?_, fun k hkk => ?_, fun k hkk => ?_⟩
  · rw [e 90 (by decide) (by decide) 0 (by decide)]; exact q1
  · rw [e 90 (by decide) (by decide) 1 (by decide)]; exact q2
  · rw [e 90 (by decide) (by decide) 2 (by decide)]; exact q3
  · rw [e 90 (by decide) (by decide) 3 (by decide)]; exact q4
  · rw [e 90 (by decide) (by decide) 6 (by decide)]; exact q5
  · rw [e 90 (by decide) (by decide) 7 (by decide)]; exact q6
  · have : k < 8 := by omega
    rw [e 91 (by decide) (by decide) k this, e 92 (by decide) (by decide) k this, e 93 (by decide) (by decide) k this]; exact r1 k hkk
  · have : k < 9 := by omega
    rw [e 94 (by decide) (by decide) k this, e 95 (by decide) (by decide) k this, e 96 (by decide) (by decide) k this]; exact r2 k hkk
  · have : k < 10 := by omega
    rw [e 97 (by decide) (by decide) k this]; exact r3 k hkk
  · have : k < 700 := by omega
    rw [e 98 (by decide) (by decide) k this]; exact r4 k hkk
  · have : k < 700 := by omega
    rw [e 99 (by decide) (by decide) k this]; exact r5 k hkk
def xFlt (X : WX) (p : Nat) : WX := (xI X, xE X, (lS (xL X), (lA (xL X), lH (xL X)), (lM (xL X), lQ (xL X)), fun i => if i = 0 then lR (xL X) 0 + 1 else lR (xL X) i), xG X, (0, xT X), nI p)
def xNew (X : WX) (J : IS) (e mx my : Nat) : WX := (J, e, (setH (S00 mx my) (tkS J (S00 mx my) none), (0, lH (xL X)), (0, lQ (xL X)), lR (xL X)), none, (0, xT X), -1)
theorem xFlt_ok (hX : WOk X) (p : Nat) : WOk (xFlt X p) := ⟨hX.1, hX.2.1, hX.2.2.1, hX.2.2.2.1, ⟨Nat.zero_le _, fun k hk => absurd hk (Nat.not_lt_zero _)⟩, hX.2.2.2.2.2⟩
theorem xNew_ok (X : WX) {J : IS} {e mx my : Nat} (hJ : JOk J) (he : iE J = nI e ∧ e ≤ 9999) : WOk (xNew X J e mx my) := by
  refine ⟨hJ.1, he, ⟨⟨tk_ok hJ.1 (S00_ok hJ.1.1.1) none, Nat.zero_le _⟩, ⟨Nat.zero_le _, fun k hk => absurd hk (Nat.not_lt_zero _)⟩, Nat.zero_le _, fun k hk => absurd hk (Nat.not_lt_zero _)⟩, fun L hL => (by cases hL), ⟨Nat.zero_le _, fun k hk => absurd hk (Nat.not_lt_zero _)⟩, hJ.2.2⟩
/-- the class's memory, once a text is read, beside the draft -/
def rcC (D : Nat) (M M' : Mem) : Prop := (∀ a, a < 17 ∨ 21 < a → (a < D ∨ D + 13 < a) → ∀ k, gi M' a k = gi M a k) ∧ gb M' 0 = gb M 0 ∧ gb M' 1 = gb M 1
theorem c_fault {D p : Nat} {M' : Mem} (hM : CI M X) (hD : isA (gb M 1) = D) (h : rcC D M M') (h7 : gi M' 17 7 = nI p) : CI (si (si M' 1 1 0) 49 0 (gi M' 49 0 + 1)) (xFlt X p) := by
  obtain ⟨⟨h1, h0⟩, ⟨h2, h3, h4, h5⟩, ⟨h6, h7'⟩, _, _⟩ := hM
  obtain ⟨r1, r2, r3⟩ := h
  have hD2 : (D = 3 ∧ isA (gb M 0) = 24) ∨ (D = 24 ∧ isA (gb M 0) = 3) := by
    rw [h0] at hD
    cases hb : gb M 0 with
    | true => rw [hb] at hD; exact Or.inl ⟨hD.symm, rfl⟩
    | false => rw [hb] at hD; exact Or.inr ⟨hD.symm, rfl⟩
  have e : ∀ a, a ≠ 1 → a ≠ 49 → a < 17 ∨ 21 < a → (a < D ∨ D + 13 < a) → ∀ k, gi (si (si M' 1 1 0) 49 0 (gi M' 49 0 + 1)) a k = gi M a k := fun a q1 q2 q3 q4 k => by
    rw [gi_si_a q2, gi_si_a q1]; exact r1 a q3 q4 k
  refine ⟨⟨?_, ?_⟩, ⟨h2.eq (e 39 (by decide) (by decide) (by decide) (by omega)) (e 40 (by decide) (by decide) (by decide) (by omega)) (e 41 (by decide) (by decide) (by decide) (by omega)) (e 42 (by decide) (by decide) (by decide) (by omega)), h3.eq (e 43 (by decide) (by decide) (by decide) (by omega)) (e 44 (by decide) (by decide) (by decide) (by omega)), h4.eq (e 45 (by decide) (by decide) (by decide) (by omega)) (e 46 (by decide) (by decide) (by decide) (by omega)) (e 47 (by decide) (by decide) (by decide) (by omega)) (e 48 (by decide) (by decide) (by decide) (by omega)), fun k hk => ?_⟩, ⟨(e 0 (by decide) (by decide) (by decide) (by omega) _).trans h6, fun L hL => ?_⟩, ⟨?_, fun k hk => absurd hk (Nat.not_lt_zero _)⟩, ?_⟩
  · show IC (isA (gb M' 0)) _ (xI X)
    rw [r2]
    exact IC.eqD h1 (fun a q1 q2 k => e a (by omega) (by omega) (by omega) (by omega) k)
  · show gb M' 1 = !gb M' 0
    rw [r2, r3]; exact h0
  · show _ = if k = 0 then lR (xL X) 0 + 1 else lR (xL X) k
    by_cases c : k = 0
    · rw [c, gi_si_s, if_pos rfl, r1 49 (by decide) (by omega) 0, h5 0 (by decide)]
    · rw [gi_si_k c, gi_si_a (by decide), if_neg c, r1 49 (by decide) (by omega) k]
      exact h5 k hk
  · obtain ⟨g2, g3, g4, g5⟩ := h7' L hL
    exact ⟨g2.eq (e 51 (by decide) (by decide) (by decide) (by omega)) (e 52 (by decide) (by decide) (by decide) (by omega)) (e 53 (by decide) (by decide) (by decide) (by omega)) (e 54 (by decide) (by decide) (by decide) (by omega)), g3.eq (e 55 (by decide) (by decide) (by decide) (by omega)) (e 56 (by decide) (by decide) (by decide) (by omega)), g4.eq (e 57 (by decide) (by decide) (by decide) (by omega)) (e 58 (by decide) (by decide) (by decide) (by omega)) (e 59 (by decide) (by decide) (by decide) (by omega)) (e 60 (by decide) (by decide) (by decide) (by omega)), fun k hk => (e 61 (by decide) (by decide) (by decide) (by omega) k).trans (g5 k hk)⟩
  · rw [gi_si_a (by decide), gi_si_s]; rfl
  · rw [gi_si_a (by decide), gi_si_a (by decide)]; exact h7
end

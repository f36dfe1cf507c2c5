-- ===== the island in the making: single changes =====
def setE (J : IS) (v : Int32) : IS := ((iH J, iP J, iN J), iA J, v, iW J, iY J)
def addH (J : IS) (a b c : Int32) : IS := ((iH J + 1, iP J, iN J), up (up (up (iA J) 0 (iH J) a) 1 (iH J) b) 2 (iH J) c, iE J, iW J, iY J)
def addP (J : IS) (a b c : Int32) : IS := ((iH J, iP J + 1, iN J), up (up (up (iA J) 3 (iP J) a) 4 (iP J) b) 5 (iP J) c, iE J, iW J, iY J)
def addN (J : IS) (a : Int32) : IS := ((iH J, iP J, iN J + 1), up (iA J) 6 (iN J) a, iE J, iW J, iY J)
def setWl (J : IS) (l : List RSt) : IS := ((iH J, iP J, iN J), iA J, iE J, l, iY J)
def setYl (J : IS) (l : List RSt) : IS := ((iH J, iP J, iN J), iA J, iE J, iW J, l)
section
variable {T : Nat → Nat} {n z D : Nat} {C0 R0 M : Mem} {j : Nat} {J : IS} {mx my : Nat} {b1 b3 : Bool} {a b c : Int32}
theorem JOk.E (h : JOk J) {v : Nat} (hv : v ≤ 20) : JOk (setE J (nI v)) := ⟨h.1, ⟨v, by omega, rfl⟩, h.2.2⟩
theorem JOk.H (h : JOk J) (h8 : iH J < 8) : JOk (addH J a b c) := by
  obtain ⟨⟨⟨q1, q2, q3⟩, q4⟩, q5, q6⟩ := h
  refine ⟨⟨⟨h8, q2, q3⟩, q4⟩, q5, fun p hp => ?_⟩
  show ∃ x y, x ≤ 20 ∧ y ≤ 20 ∧ up (up (up (iA J) 0 (iH J) a) 1 (iH J) b) 2 (iH J) c 3 p = nI x ∧ up (up (up (iA J) 0 (iH J) a) 1 (iH J) b) 2 (iH J) c 4 p = nI y
  rw [up_a (by decide), up_a (by decide), up_a (by decide), up_a (by decide), up_a (by decide), up_a (by decide)]
  exact q6 p hp
theorem JOk.P (h : JOk J) (h9 : iP J < 9) {x y : Nat} (hx : x ≤ 20) (hy : y ≤ 20) : JOk (addP J (nI x) (nI y) c) := by
  obtain ⟨⟨⟨q1, q2, q3⟩, q4⟩, q5, q6⟩ := h
  refine ⟨⟨⟨q1, h9, q3⟩, q4⟩, q5, fun p hp => ?_⟩
  have hp : p < iP J + 1 := hp
  show ∃ u v, u ≤ 20 ∧ v ≤ 20 ∧ up (up (up (iA J) 3 (iP J) (nI x)) 4 (iP J) (nI y)) 5 (iP J) c 3 p = nI u ∧ up (up (up (iA J) 3 (iP J) (nI x)) 4 (iP J) (nI y)) 5 (iP J) c 4 p = nI v
  rw [up_a (show (3 : Nat) ≠ 5 by decide), up_a (show (3 : Nat) ≠ 4 by decide), up_a (show (4 : Nat) ≠ 5 by decide)]
  by_cases e : p = iP J
  · rw [e, up_s, up_s]
    exact ⟨x, y, hx, hy, rfl, rfl⟩
  · simp only [up_k e]
    exact q6 p (by omega)
theorem JOk.N (h : JOk J) (h9 : iN J < 10) : JOk (addN J a) := by
  obtain ⟨⟨⟨q1, q2, q3⟩, q4⟩, q5, q6⟩ := h
  refine ⟨⟨⟨q1, q2, h9⟩, q4⟩, q5, fun p hp => ?_⟩
  show ∃ x y, x ≤ 20 ∧ y ≤ 20 ∧ up (iA J) 6 (iN J) a 3 p = nI x ∧ up (iA J) 6 (iN J) a 4 p = nI y
  rw [up_a (by decide), up_a (by decide)]
  exact q6 p hp
theorem JOk.W (h : JOk J) {l : List RSt} (hl : l.length ≤ 700) (hw : wfs 5 l 0 = true) : JOk (setWl J l) := by
  obtain ⟨⟨q1, ⟨q2, q3⟩, q4, q5⟩, q6, q7⟩ := h
  exact ⟨⟨q1, ⟨hl, q3⟩, Or.inr hw, q5⟩, q6, q7⟩
theorem JOk.Y (h : JOk J) {l : List RSt} (hl : l.length ≤ 700) (hw : wfs 7 l 0 = true) : JOk (setYl J l) := by
  obtain ⟨⟨q1, ⟨q2, q3⟩, q4, q5⟩, q6, q7⟩ := h
  exact ⟨⟨q1, ⟨q2, hl⟩, q4, Or.inr hw⟩, q6, q7⟩
/-- a field of the class's island that IC does not read -/
theorem IC.x (h : IC D M J) {k : Nat} {v : Int32} (hk : k ≠ 9 ∧ k ≠ 10 ∧ k ≠ 11 ∧ k ≠ 14) : IC D (si M D k v) J := by
  obtain ⟨⟨q1, q2, q3, q4⟩, r1, r2, r3, ⟨r4, r5⟩, r6, r7⟩ := h
  refine ⟨⟨?_, ?_, ?_, ?_⟩, fun i hi => ?_, fun i hi => ?_, fun i hi => ?_, ⟨?_, fun i hi => ?_⟩, ?_, fun i hi => ?_⟩
  · rw [gi_si_k (by omega)]; exact q1
  · rw [gi_si_k (by omega)]; exact q2
  · rw [gi_si_k (by omega)]; exact q3
  · rw [gi_si_k (by omega)]; exact q4
  · rw [gi_si_a (by omega), gi_si_a (by omega), gi_si_a (by omega)]; exact r1 i hi
  · rw [gi_si_a (by omega), gi_si_a (by omega), gi_si_a (by omega)]; exact r2 i hi
  · rw [gi_si_a (by omega)]; exact r3 i hi
  · rw [gi_si_a (by omega)]; exact r4
  · rw [gi_si_a (by omega)]; exact r5 i hi
  · rw [gi_si_a (by omega)]; exact r6
  · rw [gi_si_a (by omega)]; exact r7 i hi
theorem IC.E (h : IC D M J) {v : Int32} : IC D (si M D 14 v) (setE J v) := by
  obtain ⟨⟨q1, q2, q3, q4⟩, r1, r2, r3, ⟨r4, r5⟩, r6, r7⟩ := h
  refine ⟨⟨?_, ?_, ?_, gi_si_s⟩, fun i hi => ?_, fun i hi => ?_, fun i hi => ?_, ⟨?_, fun i hi => ?_⟩, ?_, fun i hi => ?_⟩
  · rw [gi_si_k (by omega)]; exact q1
  · rw [gi_si_k (by omega)]; exact q2
  · rw [gi_si_k (by omega)]; exact q3
  · rw [gi_si_a (by omega), gi_si_a (by omega), gi_si_a (by omega)]; exact r1 i hi
  · rw [gi_si_a (by omega), gi_si_a (by omega), gi_si_a (by omega)]; exact r2 i hi
  · rw [gi_si_a (by omega)]; exact r3 i hi
  · rw [gi_si_a (by omega)]; exact r4
  · rw [gi_si_a (by omega)]; exact r5 i hi
  · rw [gi_si_a (by omega)]; exact r6
  · rw [gi_si_a (by omega)]; exact r7 i hi
theorem IC.H (h : IC D M J) : IC D (si (si (si (si M (D + 1) (iH J) a) (D + 2) (iH J) b) (D + 3) (iH J) c) D 9 (nI (iH J + 1))) (addH J a b c) := by
  obtain ⟨⟨q1, q2, q3, q4⟩, r1, r2, r3, ⟨r4, r5⟩, r6, r7⟩ := h
  refine ⟨⟨gi_si_s, ?_, ?_, ?_⟩, fun i hi => ?_, fun i hi => ?_, fun i hi => ?_, ⟨?_, fun i hi => ?_⟩, ?_, fun i hi => ?_⟩
  · rw [gi_si_k (by omega), gi_si_a (by omega), gi_si_a (by omega), gi_si_a (by omega)]; exact q2
  · rw [gi_si_k (by omega), gi_si_a (by omega), gi_si_a (by omega), gi_si_a (by omega)]; exact q3
  · rw [gi_si_k (by omega), gi_si_a (by omega), gi_si_a (by omega), gi_si_a (by omega)]; exact q4
  · have hi : i < iH J + 1 := hi
    show _ = up (up (up (iA J) 0 (iH J) a) 1 (iH J) b) 2 (iH J) c 0 i ∧ _ = up (up (up (iA J) 0 (iH J) a) 1 (iH J) b) 2 (iH J) c 1 i ∧ _ = up (up (up (iA J) 0 (iH J) a) 1 (iH J) b) 2 (iH J) c 2 i
    rw [gi_si_a (show D + 1 ≠ D by omega), gi_si_a (show D + 1 ≠ D + 3 by omega), gi_si_a (show D + 1 ≠ D + 2 by omega), gi_si_a (show D + 2 ≠ D by omega), gi_si_a (show D + 2 ≠ D + 3 by omega), gi_si_a (show D + 3 ≠ D by omega), up_a (show (0 : Nat) ≠ 2 by decide), up_a (show (0 : Nat) ≠ 1 by decide), up_a (show (1 : Nat) ≠ 2 by decide)]
    by_cases e : i = iH J
    · rw [e, gi_si_s, gi_si_s, gi_si_s, up_s, up_s, up_s]
      exact ⟨rfl, rfl, rfl⟩
    · simp only [gi_si_k e, up_k e]
      exact r1 i (by omega)
  · show _ = up (up (up (iA J) 0 (iH J) a) 1 (iH J) b) 2 (iH J) c 3 i ∧ _ = up (up (up (iA J) 0 (iH J) a) 1 (iH J) b) 2 (iH J) c 4 i ∧ _ = up (up (up (iA J) 0 (iH J) a) 1 (iH J) b) 2 (iH J) c 5 i
    simp only [gi_si, up]
    rw [if_neg (by omega), if_neg (by omega), if_neg (by omega), if_neg (by omega), if_neg (by omega), if_neg (by omega), if_neg (by omega), if_neg (by omega), if_neg (by omega), if_neg (by omega), if_neg (by omega), if_neg (by omega), if_neg (by omega), if_neg (by omega), if_neg (by omega), if_neg (by omega), if_neg (by omega), if_neg (by omega), if_neg (by omega), if_neg (by omega), if_neg (by omega)]
    exact r2 i hi
  · show _ = up (up (up (iA J) 0 (iH J) a) 1 (iH J) b) 2 (iH J) c 6 i
    rw [gi_si_a (by omega), gi_si_a (by omega), gi_si_a (by omega), gi_si_a (by omega), up_a (by decide), up_a (by decide), up_a (by decide)]; exact r3 i hi
  · rw [gi_si_a (by omega), gi_si_a (by omega), gi_si_a (by omega), gi_si_a (by omega)]; exact r4
  · rw [gi_si_a (by omega), gi_si_a (by omega), gi_si_a (by omega), gi_si_a (by omega)]; exact r5 i hi
  · rw [gi_si_a (by omega), gi_si_a (by omega), gi_si_a (by omega), gi_si_a (by omega)]; exact r6
  · rw [gi_si_a (by omega), gi_si_a (by omega), gi_si_a (by omega), gi_si_a (by omega)]; exact r7 i hi
theorem IC.P (h : IC D M J) : IC D (si (si (si (si M (D + 4) (iP J) a) (D + 5) (iP J) b) (D + 6) (iP J) c) D 10 (nI (iP J + 1))) (addP J a b c) := by
  obtain ⟨⟨q1, q2, q3, q4⟩, r1, r2, r3, ⟨r4, r5⟩, r6, r7⟩ := h
  refine ⟨⟨?_, gi_si_s, ?_, ?_⟩, fun i hi => ?_, fun i hi => ?_, fun i hi => ?_, ⟨?_, fun i hi => ?_⟩, ?_, fun i hi => ?_⟩
  · rw [gi_si_k (by omega), gi_si_a (by omega), gi_si_a (by omega), gi_si_a (by omega)]; exact q1
  · rw [gi_si_k (by omega), gi_si_a (by omega), gi_si_a (by omega), gi_si_a (by omega)]; exact q3
  · rw [gi_si_k (by omega), gi_si_a (by omega), gi_si_a (by omega), gi_si_a (by omega)]; exact q4
  · show _ = up (up (up (iA J) 3 (iP J) a) 4 (iP J) b) 5 (iP J) c 0 i ∧ _ = up (up (up (iA J) 3 (iP J) a) 4 (iP J) b) 5 (iP J) c 1 i ∧ _ = up (up (up (iA J) 3 (iP J) a) 4 (iP J) b) 5 (iP J) c 2 i
    simp only [gi_si, up]
    rw [if_neg (by omega), if_neg (by omega), if_neg (by omega), if_neg (by omega), if_neg (by omega), if_neg (by omega), if_neg (by omega), if_neg (by omega), if_neg (by omega), if_neg (by omega), if_neg (by omega), if_neg (by omega), if_neg (by omega), if_neg (by omega), if_neg (by omega), if_neg (by omega), if_neg (by omega), if_neg (by omega), if_neg (by omega), if_neg (by omega), if_neg (by omega)]
    exact r1 i hi
  · have hi : i < iP J + 1 := hi
    show _ = up (up (up (iA J) 3 (iP J) a) 4 (iP J) b) 5 (iP J) c 3 i ∧ _ = up (up (up (iA J) 3 (iP J) a) 4 (iP J) b) 5 (iP J) c 4 i ∧ _ = up (up (up (iA J) 3 (iP J) a) 4 (iP J) b) 5 (iP J) c 5 i
    rw [gi_si_a (show D + 4 ≠ D by omega), gi_si_a (show D + 4 ≠ D + 6 by omega), gi_si_a (show D + 4 ≠ D + 5 by omega), gi_si_a (show D + 5 ≠ D by omega), gi_si_a (show D + 5 ≠ D + 6 by omega), gi_si_a (show D + 6 ≠ D by omega), up_a (show (3 : Nat) ≠ 5 by decide), up_a (show (3 : Nat) ≠ 4 by decide), up_a (show (4 : Nat) ≠ 5 by decide)]
    by_cases e : i = iP J
    · rw [e, gi_si_s, gi_si_s, gi_si_s, up_s, up_s, up_s]
      exact ⟨rfl, rfl, rfl⟩
    · simp only [gi_si_k e, up_k e]
      exact r2 i (by omega)
  · show _ = up (up (up (iA J) 3 (iP J) a) 4 (iP J) b) 5 (iP J) c 6 i
    rw [gi_si_a (by omega), gi_si_a (by omega), gi_si_a (by omega), gi_si_a (by omega), up_a (by decide), up_a (by decide), up_a (by decide)]; exact r3 i hi
  · rw [gi_si_a (by omega), gi_si_a (by omega), gi_si_a (by omega), gi_si_a (by omega)]; exact r4
  · rw [gi_si_a (by omega), gi_si_a (by omega), gi_si_a (by omega), gi_si_a (by omega)]; exact r5 i hi
  · rw [gi_si_a (by omega), gi_si_a (by omega), gi_si_a (by omega), gi_si_a (by omega)]; exact r6
  · rw [gi_si_a (by omega), gi_si_a (by omega), gi_si_a (by omega), gi_si_a (by omega)]; exact r7 i hi
theorem IC.N (h : IC D M J) : IC D (si (si M (D + 7) (iN J) a) D 11 (nI (iN J + 1))) (addN J a) := by
  obtain ⟨⟨q1, q2, q3, q4⟩, r1, r2, r3, ⟨r4, r5⟩, r6, r7⟩ := h
  refine ⟨⟨?_, ?_, gi_si_s, ?_⟩, fun i hi => ?_, fun i hi => ?_, fun i hi => ?_, ⟨?_, fun i hi => ?_⟩, ?_, fun i hi => ?_⟩
  · rw [gi_si_k (by omega), gi_si_a (by omega)]; exact q1
  · rw [gi_si_k (by omega), gi_si_a (by omega)]; exact q2
  · rw [gi_si_k (by omega), gi_si_a (by omega)]; exact q4
  · show _ = up (iA J) 6 (iN J) a 0 i ∧ _ = up (iA J) 6 (iN J) a 1 i ∧ _ = up (iA J) 6 (iN J) a 2 i
    rw [up_a (by decide), up_a (by decide), up_a (by decide), gi_si_a (by omega), gi_si_a (by omega), gi_si_a (by omega), gi_si_a (by omega), gi_si_a (by omega), gi_si_a (by omega)]; exact r1 i hi
  · show _ = up (iA J) 6 (iN J) a 3 i ∧ _ = up (iA J) 6 (iN J) a 4 i ∧ _ = up (iA J) 6 (iN J) a 5 i
    rw [up_a (by decide), up_a (by decide), up_a (by decide), gi_si_a (by omega), gi_si_a (by omega), gi_si_a (by omega), gi_si_a (by omega), gi_si_a (by omega), gi_si_a (by omega)]; exact r2 i hi
  · have hi : i < iN J + 1 := hi
    show _ = up (iA J) 6 (iN J) a 6 i
    rw [gi_si_a (by omega)]
    by_cases e : i = iN J
    · rw [e, gi_si_s, up_s]
    · rw [gi_si_k e, up_k e]; exact r3 i (by omega)
  · rw [gi_si_a (by omega), gi_si_a (by omega)]; exact r4
  · rw [gi_si_a (by omega), gi_si_a (by omega)]; exact r5 i hi
  · rw [gi_si_a (by omega), gi_si_a (by omega)]; exact r6
  · rw [gi_si_a (by omega), gi_si_a (by omega)]; exact r7 i hi
end

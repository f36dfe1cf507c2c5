-- ===== the island and the state, as the class and as the reference hold them =====
abbrev IS : Type := (Nat × Nat × Nat) × (Nat → Nat → Int32) × Int32 × List RSt × List RSt
def iH (I : IS) : Nat := I.1.1
def iP (I : IS) : Nat := I.1.2.1
def iN (I : IS) : Nat := I.1.2.2
def iA (I : IS) : Nat → Nat → Int32 := I.2.1
def iE (I : IS) : Int32 := I.2.2.1
def iW (I : IS) : List RSt := I.2.2.2.1
def iY (I : IS) : List RSt := I.2.2.2.2
def IOk (I : IS) : Prop := (iH I ≤ 8 ∧ iP I ≤ 9 ∧ iN I ≤ 10) ∧ ((iW I).length ≤ 700 ∧ (iY I).length ≤ 700) ∧ (iW I = [] ∨ wfs 5 (iW I) 0 = true) ∧ (iY I = [] ∨ wfs 7 (iY I) 0 = true)
/-- the island at A in the class's memory -/
def IC (A : Nat) (M : Mem) (I : IS) : Prop :=
  (gi M A 9 = nI (iH I) ∧ gi M A 10 = nI (iP I) ∧ gi M A 11 = nI (iN I) ∧ gi M A 14 = iE I) ∧
  (∀ k, k < iH I → gi M (A + 1) k = iA I 0 k ∧ gi M (A + 2) k = iA I 1 k ∧ gi M (A + 3) k = iA I 2 k) ∧
  (∀ k, k < iP I → gi M (A + 4) k = iA I 3 k ∧ gi M (A + 5) k = iA I 4 k ∧ gi M (A + 6) k = iA I 5 k) ∧
  (∀ k, k < iN I → gi M (A + 7) k = iA I 6 k) ∧
  (gi M (A + 8) 2 = nI (iW I).length ∧ ∀ k, k < (iW I).length → gi M (A + 8 + 1) k = encC ((iW I).getD k (0, 0))) ∧
  (gi M (A + 11) 2 = nI (iY I).length ∧ ∀ k, k < (iY I).length → gi M (A + 11 + 1) k = encC ((iY I).getD k (0, 0)))
/-- the reference's island -/
def IR (M : Mem) (I : IS) : Prop :=
  (gi M 90 0 = nI (iH I) ∧ gi M 90 1 = nI (iP I) ∧ gi M 90 2 = nI (iN I) ∧ gi M 90 3 = iE I ∧ gi M 90 6 = nI (iW I).length ∧ gi M 90 7 = nI (iY I).length) ∧
  (∀ k, k < iH I → gi M 91 k = iA I 0 k ∧ gi M 92 k = iA I 1 k ∧ gi M 93 k = iA I 2 k) ∧
  (∀ k, k < iP I → gi M 94 k = iA I 3 k ∧ gi M 95 k = iA I 4 k ∧ gi M 96 k = iA I 5 k) ∧
  (∀ k, k < iN I → gi M 97 k = iA I 6 k) ∧
  (∀ k, k < (iW I).length → gi M 98 k = encR ((iW I).getD k (0, 0))) ∧
  (∀ k, k < (iY I).length → gi M 99 k = encR ((iY I).getD k (0, 0)))
def isCells : List Nat := [3, 4, 5, 6, 7, 8, 9, 10, 11, 12, 14, 15, 24, 25, 26, 27, 28, 29, 30, 31, 32, 33, 35, 36]
def irCells : List Nat := [90, 91, 92, 93, 94, 95, 96, 97, 98, 99]
/-- l has nothing of c -/
def apart (l c : List Nat) : Prop := ∀ x ∈ c, x ∉ l
theorem IC.fr {l : List Nat} {M M' : Mem} {I : IS} {b : Bool} (h : IC (isA b) M I) (hF : Fr l M M') (hl : apart l isCells) : IC (isA b) M' I := by
  have e : ∀ x ∈ isCells, ∀ k, gi M' x k = gi M x k := fun x hx k => hF.i (hl x hx) k
  unfold IC at h ⊢
  cases b
  · simp only [isA] at h ⊢
    rw [e 3 (by decide), e 3 (by decide), e 3 (by decide), e 3 (by decide), e 11 (by decide), e 14 (by decide)]
    refine ⟨h.1, fun k hk => ?_, fun k hk => ?_, fun k hk => ?_, ⟨h.2.2.2.2.1.1, fun k hk => ?_⟩, h.2.2.2.2.2.1, fun k hk => ?_⟩
    · rw [e 4 (by decide), e 5 (by decide), e 6 (by decide)]; exact h.2.1 k hk
    · rw [e 7 (by decide), e 8 (by decide), e 9 (by decide)]; exact h.2.2.1 k hk
    · rw [e 10 (by decide)]; exact h.2.2.2.1 k hk
    · rw [e 12 (by decide)]; exact h.2.2.2.2.1.2 k hk
    · rw [e 15 (by decide)]; exact h.2.2.2.2.2.2 k hk
  · simp only [isA] at h ⊢
    rw [e 24 (by decide), e 24 (by decide), e 24 (by decide), e 24 (by decide), e 32 (by decide), e 35 (by decide)]
    refine ⟨h.1, fun k hk => ?_, fun k hk => ?_, fun k hk => ?_, ⟨h.2.2.2.2.1.1, fun k hk => ?_⟩, h.2.2.2.2.2.1, fun k hk => ?_⟩
    · rw [e 25 (by decide), e 26 (by decide), e 27 (by decide)]; exact h.2.1 k hk
    · rw [e 28 (by decide), e 29 (by decide), e 30 (by decide)]; exact h.2.2.1 k hk
    · rw [e 31 (by decide)]; exact h.2.2.2.1 k hk
    · rw [e 33 (by decide)]; exact h.2.2.2.2.1.2 k hk
    · rw [e 36 (by decide)]; exact h.2.2.2.2.2.2 k hk
theorem IR.fr {l : List Nat} {M M' : Mem} {I : IS} (h : IR M I) (hF : Fr l M M') (hl : apart l irCells) : IR M' I := by
  have e : ∀ x ∈ irCells, ∀ k, gi M' x k = gi M x k := fun x hx k => hF.i (hl x hx) k
  unfold IR at h ⊢
  rw [e 90 (by decide), e 90 (by decide), e 90 (by decide), e 90 (by decide), e 90 (by decide), e 90 (by decide)]
  refine ⟨h.1, fun k hk => ?_, fun k hk => ?_, fun k hk => ?_, fun k hk => ?_, fun k hk => ?_⟩
  · rw [e 91 (by decide), e 92 (by decide), e 93 (by decide)]; exact h.2.1 k hk
  · rw [e 94 (by decide), e 95 (by decide), e 96 (by decide)]; exact h.2.2.1 k hk
  · rw [e 97 (by decide)]; exact h.2.2.2.1 k hk
  · rw [e 98 (by decide)]; exact h.2.2.2.2.1 k hk
  · rw [e 99 (by decide)]; exact h.2.2.2.2.2 k hk
/-- the island now -/
def ICn (M : Mem) (I : IS) : Prop := IC (isA (gb M 0)) M I
theorem ICn.fr {l : List Nat} {M M' : Mem} {I : IS} (h : ICn M I) (hF : Fr l M M') (hl : apart l isCells) : ICn M' I := by
  unfold ICn at h ⊢
  rw [hF.b 0]
  exact IC.fr h hF hl
/-- what acts change: lots, who is gone, market, year, tithe, curses, order, shares, stores -/
abbrev DS : Type := Nat × Nat × Int32 × Int32 × Nat × Int32 × Int32 × (Nat → Nat) × (Nat → Option Nat) × (Nat → Nat)
def dL (S : DS) : Nat := S.1
def dG (S : DS) : Nat := S.2.1
def dX (S : DS) : Int32 := S.2.2.1
def dY (S : DS) : Int32 := S.2.2.2.1
def dN (S : DS) : Nat := S.2.2.2.2.1
def dT (S : DS) : Int32 := S.2.2.2.2.2.1
def dC (S : DS) : Int32 := S.2.2.2.2.2.2.1
def dO (S : DS) : Nat → Nat := S.2.2.2.2.2.2.2.1
def dH (S : DS) : Nat → Option Nat := S.2.2.2.2.2.2.2.2.1
def dR (S : DS) : Nat → Nat := S.2.2.2.2.2.2.2.2.2
def shE : Option Nat → Int32
  | none => -1
  | some p => nI p
/-- a state of the class at a -/
def DC0 (a : Nat) (M : Mem) (S : DS) : Prop := gi M a 0 = nI (dL S) ∧ gi M a 1 = nI (dG S) ∧ gi M a 2 = dX S ∧ gi M a 3 = dY S ∧ gi M a 4 = nI (dN S) ∧ gi M a 5 = dT S ∧ gi M a 6 = dC S
def DC (a : Nat) (M : Mem) (S : DS) : Prop :=
  DC0 a M S ∧
  (dO S 8 = 8 → ∀ k, k < 8 → gi M (a + 1) (dO S k) = nI k) ∧ (dO S 8 = 8 → ∀ h, h < 8 → gi M (a + 2) h = shE (dH S h)) ∧ ∀ h, h < 8 → gi M (a + 3) h = nI (dR S h)
/-- the reference's state -/
def DR0 (M : Mem) (S : DS) : Prop := gi M 87 35 = nI (dL S) ∧ gi M 87 32 = nI (dG S) ∧ gi M 87 36 = dX S ∧ gi M 87 37 = dY S ∧ gi M 87 31 = nI (dN S) ∧ gi M 87 33 = dT S ∧ gi M 87 34 = dC S
def DRf (M : Mem) (S : DS) : Prop :=
  DR0 M S ∧
  (dO S 8 = 8 → ∀ k, k < 8 → gi M 104 k = nI (dO S k)) ∧ (dO S 8 = 8 → ∀ h, h < 8 → gi M 103 h = shE (dH S h)) ∧ ∀ h, h < 8 → gi M 102 h = nI (dR S h)
/-- a state of an island -/
def DOk (I : IS) (S : DS) : Prop :=
  (dL S < 256 ∧ dG S < 256 ∧ dN S < 2000) ∧ ((∀ k, k < 8 → dO S k < 8) ∧ (∀ i j, i < 8 → j < 8 → dO S i = dO S j → i = j) ∧ (∀ k, k < iH I → dO S k < iH I) ∧ (∀ k, iH I ≤ k → k < 8 → dO S k = k) ∧ (dO S 8 = 8 ∨ iH I = 0)) ∧
  (∀ h p, h < 8 → dH S h = some p → p < iP I) ∧ (∀ h, iH I ≤ h → h < 8 → dH S h = none) ∧ (∀ h, h < 8 → dR S h ≤ 999) ∧ ∀ h, iH I ≤ h → h < 8 → dR S h = 0
theorem DOk.z {I : IS} {S : DS} (h : DOk I S) (hi : 0 < iH I) : dO S 8 = 8 := h.2.1.2.2.2.2.resolve_right (by omega)
theorem DC0.fr {l : List Nat} {a : Nat} {M M' : Mem} {S : DS} (h : DC0 a M S) (hF : Fr l M M') (hl : a ∉ l) : DC0 a M' S := by
  unfold DC0 at h ⊢
  rw [hF.i hl, hF.i hl, hF.i hl, hF.i hl, hF.i hl, hF.i hl, hF.i hl]
  exact h
theorem DR0.fr {l : List Nat} {M M' : Mem} {S : DS} (h : DR0 M S) (hF : Fr l M M') (hl : 87 ∉ l) : DR0 M' S := by
  unfold DR0 at h ⊢
  rw [hF.i hl, hF.i hl, hF.i hl, hF.i hl, hF.i hl, hF.i hl, hF.i hl]
  exact h
theorem DC.fr {l : List Nat} {a : Nat} {M M' : Mem} {S : DS} (h : DC a M S) (hF : Fr l M M') (hl : apart l [a, a + 1, a + 2, a + 3]) : DC a M' S := by
  have e : ∀ x ∈ [a, a + 1, a + 2, a + 3], ∀ k, gi M' x k = gi M x k := fun x hx k => hF.i (hl x hx) k
  refine ⟨h.1.fr hF (hl a (by simp)), fun z k hk => ?_, fun z k hk => ?_, fun k hk => ?_⟩
  · rw [e (a + 1) (by simp)]; exact h.2.1 z k hk
  · rw [e (a + 2) (by simp)]; exact h.2.2.1 z k hk
  · rw [e (a + 3) (by simp)]; exact h.2.2.2 k hk
theorem DRf.fr {l : List Nat} {M M' : Mem} {S : DS} (h : DRf M S) (hF : Fr l M M') (hl : apart l [87, 102, 103, 104]) : DRf M' S := by
  have e : ∀ x ∈ [87, 102, 103, 104], ∀ k, gi M' x k = gi M x k := fun x hx k => hF.i (hl x hx) k
  refine ⟨h.1.fr hF (hl 87 (by decide)), fun z k hk => ?_, fun z k hk => ?_, fun k hk => ?_⟩
  · rw [e 104 (by decide)]; exact h.2.1 z k hk
  · rw [e 103 (by decide)]; exact h.2.2.1 z k hk
  · rw [e 102 (by decide)]; exact h.2.2.2 k hk
-- ===== what the words mean =====
def bitN (x h : Nat) : Nat := x / 2 ^ h % 2
def absI (d : Int32) : Int32 := if 0 ≤ d then d else 0 - d
def strO (I : IS) (lot h : Nat) : Int32 := if lot = 0 then iA I 0 h else iA I 1 h
def wlk (I : IS) (x y : Int32) (p : Nat) : Int32 := absI (iA I 3 p - x) + absI (iA I 4 p - y)
def vls (I : IS) (x y : Int32) (lot h p : Nat) : Nat → Int32 := fun k =>
  if k = 0 then strO I lot h else if k = 1 then iA I 2 h else if k = 2 then iA I 5 p else if k = 3 then wlk I x y p else nI lot
def wrt (I : IS) (S : DS) (h p : Nat) : Int32 := if iW I = [] then 2 * iA I 5 p - wlk I (dX S) (dY S) p else rval (vls I (dX S) (dY S) (bitN (dL S) h) h p) (iW I)
def rnO (I : IS) (y : Nat) : Int32 := if iN I = 0 then 3 else iA I 6 (y % iN I)
def vlY (I : IS) (x y : Int32) (lot h p yr : Nat) : Nat → Int32 := fun k => if k = 5 then rnO I yr else if k = 6 then nI yr else vls I x y lot h p k
def clm (x : Int32) : Int32 := if 0 < (if x < 99 then x else 99) then (if x < 99 then x else 99) else 0
def crp (I : IS) (S : DS) (lot h p yr : Nat) : Int32 := clm (if iY I = [] then iA I 5 p + rnO I yr else rval (vlY I (dX S) (dY S) lot h p yr) (iY I))
theorem lot_bit {L h : Nat} (hL : L < 256) (hh : h < 8) : (nI L >>> (nI h &&& 31)) &&& 1 = nI (bitN L h) := by
  have e : ((nI h &&& 31).toBitVec.smod 32).toNat = h := by
    have : ∀ n, n < 8 → ((nI n &&& 31).toBitVec.smod 32).toNat = n := by decide
    exact this h hh
  rw [pk_shrN (by omega) _ h e, pk_andN (by have : L / 2 ^ h ≤ L := Nat.div_le_self _ _; omega) 1 (by decide)]
  rfl
theorem bitN_2 (x h : Nat) : bitN x h = 0 ∨ bitN x h = 1 := by unfold bitN; omega
section
variable {M : Mem} {I : IS} {S : DS} {a h p : Nat}
theorem c_hasH (hI : ICn M I) (hk : IOk I) (hh : h < iH I) : fX2_hasHouse (isA (gb M 0)) M (nI h) = okI M 1 := by
  have := hk.1.1
  unfold fX2_hasHouse
  rw [if_neg (nI_pos (by omega)), hI.1.1, if_pos (nI_lt hh (by omega)), if_pos (ltL 8 (by omega) (by decide))]
theorem c_hasP (hI : ICn M I) (hk : IOk I) (hp : p < iP I) : fX2_hasPlot (isA (gb M 0)) M (nI p) = okI M 1 := by
  have := hk.1.2.1
  unfold fX2_hasPlot
  rw [if_neg (nI_pos (by omega)), hI.1.2.1, if_pos (nI_lt hp (by omega)), if_pos (ltL 9 (by omega) (by decide))]
theorem c_lot (hS : DC0 a M S) (hL : dL S < 256) (hh : h < 8) : fX8_lotOf a M (nI h) = okI M (nI (bitN (dL S) h)) := by
  unfold fX8_lotOf
  rw [hS.1, lot_bit hL hh]
theorem absI_sw (u v : Int32) : absI (u - v) = absI (v - u) := by
  rw [show v - u = -(u - v) from (Int32.neg_sub).symm]
  generalize u - v = d
  unfold absI
  rw [Int32.zero_sub, Int32.zero_sub, Int32.neg_neg]
  have e := Int32.toInt_neg d
  have b1 := Int32.le_toInt d
  have b2 := Int32.toInt_lt d
  by_cases q : 0 ≤ d
  · rw [if_pos q]
    by_cases r : 0 ≤ -d
    · rw [if_pos r]
      apply Int32.toInt_inj.mp
      have q' := Int32.le_iff_toInt_le.mp q
      have r' := Int32.le_iff_toInt_le.mp r
      rw [show (0 : Int32).toInt = 0 from rfl] at q' r'
      rw [e] at r' ⊢
      unfold Int.bmod at r' ⊢
      dsimp only at r' ⊢
      split at r' <;> split <;> omega
    · rw [if_neg r]
  · rw [if_neg q]
    by_cases r : 0 ≤ -d
    · rw [if_pos r]
    · rw [if_neg r]
      apply Int32.toInt_inj.mp
      have q' : ¬ (0 : Int32).toInt ≤ d.toInt := fun x => q (Int32.le_iff_toInt_le.mpr x)
      have r' : ¬ (0 : Int32).toInt ≤ (-d).toInt := fun x => r (Int32.le_iff_toInt_le.mpr x)
      rw [show (0 : Int32).toInt = 0 from rfl] at q' r'
      rw [e] at r' ⊢
      unfold Int.bmod at r' ⊢
      dsimp only at r' ⊢
      split at r' <;> split <;> omega
theorem w_wk {x y : Int32} : fX3_walk M x y (iA I 3 p) (iA I 4 p) = okI M (wlk I x y p) := rfl
theorem w_kw {x y : Int32} : fX3_walk M (iA I 3 p) (iA I 4 p) x y = okI M (wlk I x y p) := by
  show okI M (absI (x - iA I 3 p) + absI (y - iA I 4 p)) = _
  rw [absI_sw x, absI_sw y]
  rfl
theorem c_walk {x y : Int32} (hI : ICn M I) (hk : IOk I) (hp : p < iP I) (hx : gi M 39 2 = x) (hy : gi M 39 3 = y) : fX3_walkToMarket M (nI p) = okI M (wlk I x y p) := by
  have := hk.1.2.1
  unfold fX3_walkToMarket
  rw [c_hasP hI hk hp, bI_ok, if_neg (by decide), chk_in (by omega) (by decide), chk_in (by omega) (by decide), ix_nI (by omega), (hI.2.2.1 p hp).1, (hI.2.2.1 p hp).2.1, hx, hy, w_kw, bI_ok]
theorem c_str (hI : ICn M I) (hk : IOk I) (hS : DC0 a M S) (hL : dL S < 256) (hh : h < iH I) : fX3_strengthOf a M (nI h) = okI M (strO I (bitN (dL S) h) h) := by
  have := hk.1.1
  unfold fX3_strengthOf
  rw [c_hasH hI hk hh, bI_ok, if_neg (by decide), c_lot hS hL (by omega), bI_ok, chk_in (by omega) (by decide), chk_in (by omega) (by decide), ix_nI (by omega), (hI.2.1 h hh).1, (hI.2.1 h hh).2.1]
  unfold strO
  rcases bitN_2 (dL S) h with e | e
  · rw [e, if_pos (by decide), if_pos rfl]
  · rw [e, if_neg (by decide), if_neg (by decide)]
end

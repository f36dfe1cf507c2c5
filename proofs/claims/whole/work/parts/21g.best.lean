-- ===== the class's table of best shares =====
def eMi : Option Int → Int64
  | none => -9223372036854775808
  | some v => Int64.ofInt v
theorem mi_i : (-9223372036854775808 : Int64).toInt = -9223372036854775808 := by decide
theorem eMi_none {o : Option Int} (ho : okO o) : lg_cmp (eMi o) (-9223372036854775808) = 0 ↔ o = none := by
  rw [lg_cmp_eq]
  cases o with
  | none => exact ⟨fun _ => rfl, fun _ => rfl⟩
  | some v =>
    have hv := ho v rfl
    constructor
    · intro e
      have e := congrArg Int64.toInt e
      have e : (Int64.ofInt v).toInt = (-9223372036854775808 : Int64).toInt := e
      rw [ofI hv, mi_i] at e
      omega
    · intro e; cases e
/-- Math.max(found, new) -/
theorem eMi_max {a : Option Int} {y : Int} (ha : okO a) (hy : -1099511627776 ≤ y ∧ y ≤ 1099511627776) : (if Int64.ofInt y < eMi a then eMi a else Int64.ofInt y) = eMi (omx a (some y)) := by
  cases a with
  | none =>
    rw [if_neg (fun c => by
      have c : Int64.ofInt y < -9223372036854775808 := c
      rw [Int64.lt_iff_toInt_lt, mi_i, ofI hy] at c
      omega)]
    rfl
  | some z =>
    have hz := ha z rfl
    show (if Int64.ofInt y < Int64.ofInt z then Int64.ofInt z else Int64.ofInt y) = Int64.ofInt (if z < y then y else z)
    by_cases c : y < z
    · rw [if_pos (by rw [Int64.lt_iff_toInt_lt, ofI hy, ofI hz]; exact c), if_neg (by omega)]
    · rw [if_neg (by rw [Int64.lt_iff_toInt_lt, ofI hy, ofI hz]; exact c)]
      by_cases c2 : z < y
      · rw [if_pos c2]
      · rw [if_neg c2, show y = z by omega]
section
variable {M : Mem} {X : WX}
/-- g can have been given to just the settlers ahead of h -/
def canG (X : WX) (h g : Nat) : Prop := pcn 10 g ≤ h ∧ h - pcn 10 g ≤ iH (xI X) - bq X
theorem bq_is (X : WX) : bq X ≤ iH (xI X) ∧ bq X ≤ iP (xI X) ∧ (bq X = iH (xI X) ∨ bq X = iP (xI X)) := by
  unfold bq
  split <;> omega
theorem q_min (X : WX) (hX : WOk X) : (if nI (iP (xI X)) < nI (iH (xI X)) then nI (iP (xI X)) else nI (iH (xI X))) = nI (bq X) := by
  have h8 := hX.1.1.1
  have h9 := hX.1.1.2.1
  unfold bq
  by_cases c : iP (xI X) < iH (xI X)
  · rw [if_pos (nI_lt c (by omega)), if_pos c]
  · rw [if_neg (nI_nlt (by omega) (by omega)), if_neg c]
theorem c_can (hX : WOk X) (hw : WTc M X) {h g : Nat} (hh : h ≤ iH (xI X)) (hg : g < 512) : (canG X h g → fX4_canBeGiven M (nI h) (nI g) = okI M 1) ∧ (¬ canG X h g → fX4_canBeGiven M (nI h) (nI g) = okI M 0) := by
  have h8 := hX.1.1.1
  have hp := (pce_is g hg).2
  obtain ⟨b1, b2, b3⟩ := bq_is X
  unfold fX4_canBeGiven canG
  rw [c_bits hg, bI_ok, hw.1, hw.2.1, q_min X hX, pk_sub b1]
  by_cases c : pcn 10 g ≤ h
  · rw [pk_sub c, if_neg (nI_pos (by omega))]
    by_cases c2 : h - pcn 10 g ≤ iH (xI X) - bq X
    · rw [if_neg (nI_nlt c2 (by omega))]
      exact ⟨fun _ => rfl, fun z => absurd ⟨c, c2⟩ z⟩
    · rw [if_pos (nI_lt (by omega) (by omega))]
      exact ⟨fun z => absurd z.2 c2, fun _ => rfl⟩
  · rw [if_pos (pk_sneg (by omega) (by omega))]
    exact ⟨fun z => absurd z.1 c, fun _ => rfl⟩
/-- what the class's row h holds for g -/
def cBW (X : WX) (h g : Nat) : Option Int := if h = iH (xI X) ∨ (pcn 10 g ≤ h ∧ h - pcn 10 g ≤ iH (xI X) - bq X) then BW X h g else none
/-- the next row, seen from a place that can be given -/
theorem cBW_next (hX : WOk X) {h g : Nat} (hh : h < iH (xI X)) (hg : g < 2 ^ iP (xI X)) (hc : canG X h g) : cBW X (h + 1) g = BW X (h + 1) g := by
  obtain ⟨b1, b2, b3⟩ := bq_is X
  unfold cBW
  by_cases c : h + 1 = iH (xI X) ∨ (pcn 10 g ≤ h + 1 ∧ h + 1 - pcn 10 g ≤ iH (xI X) - bq X)
  · rw [if_pos c]
  · rw [if_neg c]
    have hc1 := hc.1
    exact (bW_few (w := bw X) hX.1.1.2.1 (iH (xI X) - (h + 1)) (h + 1) g hg (by omega)).symm
theorem cBW_give (hX : WOk X) {h g p : Nat} (hh : h < iH (xI X)) (hg : g < 2 ^ iP (xI X)) (hp : p < iP (xI X)) (hb : bitN g p = 0) (hc : canG X h g) : cBW X (h + 1) (g ||| 2 ^ p) = BW X (h + 1) (g ||| 2 ^ p) ∧ (h + 1 < iH (xI X) → canG X (h + 1) (g ||| 2 ^ p)) := by
  have h9 := hX.1.1.2.1
  have h512 : g < 512 := Nat.lt_of_lt_of_le hg (Nat.pow_le_pow_right (n := 2) (by decide) h9)
  obtain ⟨c1, c2⟩ := hc
  have e := pc_or g h512 p (by omega) hb
  have cg : canG X (h + 1) (g ||| 2 ^ p) := ⟨by omega, by omega⟩
  exact ⟨by unfold cBW; exact if_pos (Or.inr cg), fun _ => cg⟩
end

-- ===== the reference's table of best shares =====
def eLo : Option Int → Int64
  | none => -1152921504606846976
  | some v => Int64.ofInt v
def okO (o : Option Int) : Prop := ∀ v, o = some v → -1099511627776 ≤ v ∧ v ≤ 1099511627776
theorem ofI {v : Int} (h : -1099511627776 ≤ v ∧ v ≤ 1099511627776) : (Int64.ofInt v).toInt = v := Int64.toInt_ofInt_of_le (by omega) (by omega)
theorem low_i : (-1152921504606846976 : Int64).toInt = -1152921504606846976 := by decide
theorem eLo_add {o : Option Int} (ho : okO o) (w : Int32) : (if 0 < lg_cmp (eLo o) (-1152921504606846976) then eLo o + w.toInt64 else (-1152921504606846976 : Int64)) = eLo (o.map (fun v => v + w.toInt)) := by
  cases o with
  | none =>
    rw [if_neg (fun c => by have := (lg_cmp_gt _ _).mp c; exact absurd this (by decide))]
    rfl
  | some v =>
    have hv := ho v rfl
    have hlt : (-1152921504606846976 : Int64) < Int64.ofInt v := by
      rw [Int64.lt_iff_toInt_lt, low_i, ofI hv]
      omega
    rw [if_pos (show 0 < lg_cmp (eLo (some v)) (-1152921504606846976) from (lg_cmp_gt _ _).mpr hlt)]
    show Int64.ofInt v + w.toInt64 = Int64.ofInt (v + w.toInt)
    rw [Int64.ofInt_add, Int64.ofInt_int32ToInt]
theorem eLo_max {a b : Option Int} (ha : okO a) (hb : okO b) : (if eLo b < eLo a then eLo a else eLo b) = eLo (omx a b) := by
  cases a with
  | none =>
    cases b with
    | none => rw [if_neg (by decide)]; rfl
    | some y =>
      have hy := hb y rfl
      rw [if_neg (fun c => by
        have c : Int64.ofInt y < -1152921504606846976 := c
        rw [Int64.lt_iff_toInt_lt, low_i, ofI hy] at c
        omega)]
      rfl
  | some z =>
    have hz := ha z rfl
    cases b with
    | none =>
      have hlt : (-1152921504606846976 : Int64) < Int64.ofInt z := by
        rw [Int64.lt_iff_toInt_lt, low_i, ofI hz]
        omega
      rw [if_pos (show eLo none < eLo (some z) from hlt)]
      rfl
    | some y =>
      have hy := hb y rfl
      show (if Int64.ofInt y < Int64.ofInt z then Int64.ofInt z else Int64.ofInt y) = Int64.ofInt (if z < y then y else z)
      by_cases c : y < z
      · rw [if_pos (by rw [Int64.lt_iff_toInt_lt, ofI hy, ofI hz]; exact c), if_neg (by omega)]
      · rw [if_neg (by rw [Int64.lt_iff_toInt_lt, ofI hy, ofI hz]; exact c)]
        by_cases c2 : z < y
        · rw [if_pos c2]
        · rw [if_neg c2, show y = z by omega]
section
variable {X : WX}
def bw (X : WX) (h p : Nat) : Int := (wrt (xI X) (lS (xL X)) h p).toInt
def bq (X : WX) : Nat := if iP (xI X) < iH (xI X) then iP (xI X) else iH (xI X)
/-- what the settlers from h on can have, g being given -/
def BW (X : WX) (h g : Nat) : Option Int := bWs (bw X) (iP (xI X)) (bq X) (iH (xI X) - h) h g
theorem bw_in (X : WX) (h p : Nat) : -2147483648 ≤ bw X h p ∧ bw X h p ≤ 2147483647 := by
  unfold bw
  have h1 := Int32.le_toInt (wrt (xI X) (lS (xL X)) h p)
  have h2 := Int32.toInt_lt (wrt (xI X) (lS (xL X)) h p)
  omega
theorem BW_ok (hX : WOk X) (h g : Nat) : okO (BW X h g) := by
  intro v hv
  have := bW_le (bw_in X) (iH (xI X) - h) h g v hv
  have h8 := hX.1.1.1
  omega
theorem BW_ok1 (hX : WOk X) (h g : Nat) (w : Int32) : okO ((BW X (h + 1) g).map (fun v => v + w.toInt)) := by
  intro v hv
  cases hb : BW X (h + 1) g with
  | none => rw [hb] at hv; cases hv
  | some u =>
    rw [hb] at hv
    have hv : some (u + w.toInt) = some v := hv
    cases hv
    have := bW_le (bw_in X) (iH (xI X) - (h + 1)) (h + 1) g u hb
    have h8 := hX.1.1.1
    have h1 := Int32.le_toInt w
    have h2 := Int32.toInt_lt w
    omega
/-- one settler's row from the next one's -/
def BWt (X : WX) (h g p : Nat) (a : Option Int) : Option Int := bWt (bw X h) (fun p => BW X (h + 1) (g ||| 2 ^ p)) g p a
theorem BW_step {h g : Nat} (hh : h < iH (xI X)) : BW X h g = foldN (BWt X h g) (iP (xI X)) 0 (BW X (h + 1) g) := by
  obtain ⟨d, hd⟩ : ∃ d, iH (xI X) - h = d + 1 := ⟨iH (xI X) - h - 1, by omega⟩
  have e1 : ∀ g, BW X (h + 1) g = bWs (bw X) (iP (xI X)) (bq X) d (h + 1) g := fun g => by
    unfold BW
    rw [show iH (xI X) - (h + 1) = d by omega]
  have e2 : BWt X h g = bWt (bw X h) (fun p => bWs (bw X) (iP (xI X)) (bq X) d (h + 1) (g ||| 2 ^ p)) g := by
    funext p a
    unfold BWt bWt
    dsimp only
    rw [e1]
  rw [e1, e2]
  unfold BW
  rw [hd]
  rfl
theorem BWt_ok (hX : WOk X) {h g p : Nat} {a : Option Int} (ha : okO a) : okO (BWt X h g p a) := by
  unfold BWt bWt
  by_cases c : bitN g p = 0
  · rw [if_pos c]
    intro v hv
    have hb := BW_ok1 hX h (g ||| 2 ^ p) (wrt (xI X) (lS (xL X)) h p)
    cases a with
    | none => exact hb v hv
    | some z =>
      cases hm : (BW X (h + 1) (g ||| 2 ^ p)).map (fun v => v + bw X h p) with
      | none =>
        have hv : omx (some z) ((BW X (h + 1) (g ||| 2 ^ p)).map (fun v => v + bw X h p)) = some v := hv
        rw [hm] at hv
        exact ha v hv
      | some y =>
        have hv : omx (some z) ((BW X (h + 1) (g ||| 2 ^ p)).map (fun v => v + bw X h p)) = some v := hv
        rw [hm] at hv
        have hv : some (if z < y then y else z) = some v := hv
        by_cases c2 : z < y
        · rw [if_pos c2] at hv; exact hb v (hm.trans hv)
        · rw [if_neg c2] at hv; exact ha v hv
  · rw [if_neg c]; exact ha
theorem sh9 {h : Nat} (hh : h < 100) : nI h <<< ((9 : Int32) &&& 31) = nI (512 * h) := by
  rw [pk_shlN (n := h) _ 9 (by decide) (by omega), show h * 2 ^ 9 = 512 * h by omega]
/-- rows from h0 on stand -/
def BTr (M : Mem) (X : WX) (h0 : Nat) : Prop := ∀ h g, h0 ≤ h → h ≤ iH (xI X) → g < 2 ^ iP (xI X) → gl M 108 (512 * h + g) = eLo (BW X h g)
theorem r_by {M : Mem} (hX : WOk X) (hw : WTr M X) {h g p : Nat} (hb : BTr M X (h + 1)) (hh : h < iH (xI X)) (hg : g < 2 ^ iP (xI X)) (hp : p < iP (xI X)) : fX12_bestBy M (nI h) (nI g) (nI p) = okL M (eLo ((BW X (h + 1) (g ||| 2 ^ p)).map (fun v => v + bw X h p))) := by
  have h8 := hX.1.1.1
  have h9 := hX.1.1.2.1
  have hP := or_P hg hp
  have hP5 : 2 ^ iP (xI X) ≤ 512 := Nat.pow_le_pow_right (n := 2) (by decide) h9
  have e9 : 9 * nI h + nI p = nI (9 * h + p) := by rw [show 9 * nI h = nI (9 * h) from pk_mul 9 h, nadd]
  unfold fX12_bestBy
  rw [if_neg (nI_nem1 (by omega)), nI_p1, sh9 (by omega), or_bit9 p (by omega), nI_or, nadd, chk_in (by omega) (by decide), ix_nI (by omega), hb (h + 1) (g ||| 2 ^ p) (Nat.le_refl _) (by omega) hP, e9, chk_in (by omega) (by decide), ix_nI (by omega), hw h p hh hp]
  have := eLo_add (BW_ok hX (h + 1) (g ||| 2 ^ p)) (wrt (xI X) (lS (xL X)) h p)
  have e : (BW X (h + 1) (g ||| 2 ^ p)).map (fun v => v + bw X h p) = (BW X (h + 1) (g ||| 2 ^ p)).map (fun v => v + (wrt (xI X) (lS (xL X)) h p).toInt) := rfl
  rw [e, ← this]
  split <;> rfl
theorem r_by0 {M : Mem} (hX : WOk X) {h g : Nat} (hb : BTr M X (h + 1)) (hh : h < iH (xI X)) (hg : g < 2 ^ iP (xI X)) : fX12_bestBy M (nI h) (nI g) (-1) = okL M (eLo (BW X (h + 1) g)) := by
  have h8 := hX.1.1.1
  have h9 := hX.1.1.2.1
  have hP5 : 2 ^ iP (xI X) ≤ 512 := Nat.pow_le_pow_right (n := 2) (by decide) h9
  unfold fX12_bestBy
  rw [if_pos rfl, nI_p1, sh9 (by omega), nadd, chk_in (by omega) (by decide), ix_nI (by omega), hb (h + 1) g (Nat.le_refl _) (by omega) hg]
end

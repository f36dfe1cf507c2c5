-- ===== a household lives through a year =====
theorem clm_is (x : Int32) : ∃ n, n ≤ 99 ∧ clm x = nI n := by
  unfold clm
  by_cases h : x < 99
  · rw [if_pos h]
    by_cases h0 : 0 < x
    · rw [if_pos h0]
      have hx : ¬ x < 0 := fun c => by
        have := Int32.lt_iff_toInt_lt.mp c
        have := Int32.lt_iff_toInt_lt.mp h0
        omega
      obtain ⟨j, hj, rfl⟩ := nI_of hx
      exact ⟨j, by have := (nI_ltI hj (show 99 < 2 ^ 31 by decide)).mp h; omega, rfl⟩
    · rw [if_neg h0]; exact ⟨0, by omega, rfl⟩
  · rw [if_neg h, if_pos (by decide)]; exact ⟨99, by omega, rfl⟩
def clN (x : Int32) : Nat := (clm x).toNatClampNeg
theorem clN_is (x : Int32) : clN x ≤ 99 ∧ clm x = nI (clN x) := by
  obtain ⟨n, hn, e⟩ := clm_is x
  have : clN x = n := by unfold clN; rw [e]; exact nI_clamp (by omega)
  rw [this]
  exact ⟨hn, e⟩
/-- what household h reaps in the state's year -/
def reap (I : IS) (S : DS) (h : Nat) : Nat :=
  match dH S h with
  | none => 0
  | some p => (crp I S (bitN (dL S) h) h p (dN S)).toNatClampNeg
theorem crp_is (I : IS) (S : DS) (lot h p yr : Nat) : (crp I S lot h p yr).toNatClampNeg ≤ 99 ∧ crp I S lot h p yr = nI (crp I S lot h p yr).toNatClampNeg := by
  unfold crp
  exact clN_is _
theorem reap_le (I : IS) (S : DS) (h : Nat) : reap I S h ≤ 99 := by
  unfold reap
  cases dH S h with
  | none => exact Nat.zero_le _
  | some p => exact (crp_is I S _ h p _).1
def got (I : IS) (S : DS) (h : Nat) : Nat := if dR S h + reap I S h - reap I S h / 10 < 999 then dR S h + reap I S h - reap I S h / 10 else 999
def setY (S : DS) (g n : Nat) (t : Int32) (r : Nat → Nat) : DS := (dL S, g, dX S, dY S, n, t, dC S, dO S, dH S, r)
def upn (f : Nat → Nat) (h v : Nat) : Nat → Nat := fun x => if x = h then v else f x
/-- household h lives through the year; e: what a household eats -/
def liv (e : Nat) (I : IS) (S : DS) (h : Nat) : DS :=
  setY S (if got I S h < e then dG S ||| 2 ^ h else dG S) (dN S) (dT S + nI (reap I S h / 10)) (upn (dR S) h (got I S h - e))
theorem or_bit : ∀ h, h < 8 → (1 : Int32) <<< (nI h &&& 31) = nI (2 ^ h) := by decide
theorem nI_or (a b : Nat) : nI a ||| nI b = nI (a ||| b) := by
  apply Int32.toBitVec_inj.mp
  show BitVec.ofNat 32 a ||| BitVec.ofNat 32 b = BitVec.ofNat 32 (a ||| b)
  exact BitVec.ofNat_or.symm
section
variable {M : Mem} {I : IS} {S : DS} {a h : Nat}
theorem c_cropOn (hI : ICn M I) (hk : IOk I) (hS : DC a M S) (hO : DOk I S) (ha : a ∈ [39, 51, 62]) (hh : h < iH I) :
    ∃ M', fX3_cropOnShare a M (nI h) = okI M' (nI (reap I S h)) ∧ Fr scrC M M' := by
  have h8 := hk.1.1
  unfold fX3_cropOnShare
  rw [c_hasH hI hk hh, bI_ok, if_neg (by decide), c_lot hS.1 hO.1.1 (by omega), bI_ok, chk_in (by omega) (by decide), ix_nI (by omega), hS.2.2.1 (hO.z (by omega)) h (by omega), hS.1.2.2.2.2.1]
  unfold reap
  cases hp : dH S h with
  | none =>
    unfold fX3_cropOf fX2_hasPlot
    rw [if_pos (show shE none < 0 by decide), bI_ok, if_pos rfl, bI_ok]
    exact ⟨M, rfl, Fr.rf⟩
  | some p =>
    have hpi := hO.2.2.1 h p (by omega) hp
    obtain ⟨M1, e1, F1⟩ := c_crop (lot := bitN (dL S) h) (yr := dN S) hI hk hS.1 ha hh hpi (by unfold bitN; omega) (by have := hO.1.2.2; omega)
    rw [show shE (some p) = nI p from rfl, e1, bI_ok]
    refine ⟨M1, ?_, F1⟩
    rw [← (crp_is I S (bitN (dL S) h) h p (dN S)).2]
end

-- ===== what a call needs; how both sides answer =====
theorem r_isIn (M : Mem) (x a b : Int32) : fX12_isIn M x.toInt64 a.toInt64 b.toInt64 = okI M (if x < a then 0 else if b < x then 0 else 1) := by
  unfold fX12_isIn
  simp only [lg_cmp_lt, lg_cmp_gt, Int32.toInt64_lt]
  split
  · rfl
  · split <;> rfl
theorem r_inN {M : Mem} {n lo hi : Nat} {A B : Int64} (hA : A = (nI lo).toInt64) (hB : B = (nI hi).toInt64) (h1 : lo ≤ n) (h2 : n ≤ hi) (hh : hi < 2 ^ 31) : fX12_isIn M (nI n).toInt64 A B = okI M 1 := by
  rw [hA, hB, r_isIn, if_neg (nI_nlt h1 (by omega)), if_neg (nI_nlt h2 (by omega))]
theorem r_inX {M : Mem} {lo hi : Nat} {x : Int32} {A B : Int64} (hA : A = (nI lo).toInt64) (hB : B = (nI hi).toInt64) (h : x < nI lo ∨ nI hi < x) : fX12_isIn M x.toInt64 A B = okI M 0 := by
  rw [hA, hB, r_isIn]
  by_cases c : x < nI lo
  · rw [if_pos c]
  · rw [if_neg c, if_pos (h.resolve_left c)]
theorem w_cases (x : Int32) (lo hi : Nat) (h : hi < 2 ^ 31) (hlo : lo ≤ hi) : (∃ n, lo ≤ n ∧ n ≤ hi ∧ x = nI n) ∨ (x < nI lo ∨ nI hi < x) := by
  by_cases c : x < nI lo
  · exact Or.inr (Or.inl c)
  · by_cases c2 : nI hi < x
    · exact Or.inr (Or.inr c2)
    · have hx : ¬ x < 0 := fun z => c (by
        have z1 := Int32.lt_iff_toInt_lt.mp z
        rw [Int32.lt_iff_toInt_lt, nI_toInt (by omega)]
        have : (0 : Int32).toInt = 0 := by decide
        omega)
      obtain ⟨n, hn, rfl⟩ := nI_of hx
      refine Or.inl ⟨n, ?_, ?_, rfl⟩
      · exact Nat.le_of_not_lt (fun z => c (nI_lt z (by omega)))
      · exact Nat.le_of_not_lt (fun z => c2 (nI_lt z hn))
/-- a house, or none -/
theorem h_cases (x : Int32) (n : Nat) (h : n < 2 ^ 31) : (∃ k, k < n ∧ x = nI k) ∨ (x < 0 ∨ nI n ≤ x) := by
  rcases pk_ix x h with a | a | a
  · exact Or.inr (Or.inl a)
  · exact Or.inr (Or.inr a)
  · exact Or.inl a
theorem le_nlt {x y : Int32} (h : y ≤ x) : ¬ x < y := fun c => by
  have a := Int32.lt_iff_toInt_lt.mp c
  have b := Int32.le_iff_toInt_le.mp h
  omega
section
variable {M : Mem} {I : IS} {h : Nat} {x : Int32}
theorem c_needH (hI : ICn M I) (hk : IOk I) (hh : h < iH I) : fX11_needHouse M (nI h) = okV M := by
  unfold fX11_needHouse
  rw [c_hasH hI hk hh, bI_ok, if_neg (by decide)]
theorem c_needP (hI : ICn M I) (hk : IOk I) (hh : h < iP I) : fX11_needPlot M (nI h) = okV M := by
  unfold fX11_needPlot
  rw [c_hasP hI hk hh, bI_ok, if_neg (by decide)]
theorem c_needHx (hI : ICn M I) (hx : x < 0 ∨ nI (iH I) ≤ x) : fX11_needHouse M x = some (M, .inl 1) := by
  unfold fX11_needHouse fX2_hasHouse
  by_cases c : x < 0
  · rw [if_pos c, bI_ok, if_pos rfl]
  · rw [if_neg c, hI.1.1, if_neg (le_nlt (hx.resolve_left c)), bI_ok, if_pos rfl]
theorem c_needPx (hI : ICn M I) (hx : x < 0 ∨ nI (iP I) ≤ x) : fX11_needPlot M x = some (M, .inl 1) := by
  unfold fX11_needPlot fX2_hasPlot
  by_cases c : x < 0
  · rw [if_pos c, bI_ok, if_pos rfl]
  · rw [if_neg c, hI.1.2.1, if_neg (le_nlt (hx.resolve_left c)), bI_ok, if_pos rfl]
theorem m1_lt {n : Nat} (hn : n < 1000) (hx : x < 0 ∨ nI n ≤ x) : x < 0 ∨ nI n - 1 < x := by
  rcases hx with c | c
  · exact Or.inl c
  · refine Or.inr ?_
    rw [Int32.lt_iff_toInt_lt, show nI n - 1 = nI n - nI 1 from rfl, pk_sub_toInt (by omega) (by decide)]
    have := Int32.le_iff_toInt_le.mp c
    rw [nI_toInt (by omega)] at this
    omega
theorem m1_ok {n : Nat} (hn : n < 1000) (hh : h < n) : ¬ nI h < 0 ∧ ¬ nI n - 1 < nI h := by
  refine ⟨nI_pos (by omega), fun c => ?_⟩
  rw [Int32.lt_iff_toInt_lt, show nI n - 1 = nI n - nI 1 from rfl, pk_sub_toInt (by omega) (by decide), nI_toInt (by omega)] at c
  omega
theorem r_in0 {n : Nat} (hn : n < 1000) (hh : h < n) : fX12_isIn M (nI h).toInt64 0 (nI n - 1).toInt64 = okI M 1 := by
  obtain ⟨a, b⟩ := m1_ok hn hh
  rw [show (0 : Int64) = (0 : Int32).toInt64 by decide, r_isIn, if_neg a, if_neg b]
theorem r_in0x {n : Nat} (hn : n < 1000) (hx : x < 0 ∨ nI n ≤ x) : fX12_isIn M x.toInt64 0 (nI n - 1).toInt64 = okI M 0 := by
  rw [show (0 : Int64) = (0 : Int32).toInt64 by decide, r_isIn]
  by_cases c : x < 0
  · rw [if_pos c]
  · rw [if_neg c, if_pos ((m1_lt hn hx).resolve_left c)]
theorem r_isH (hI : IR M I) (hk : IOk I) (hh : h < iH I) : fX12_isHouse M (nI h) = okI M 1 := by
  unfold fX12_isHouse
  rw [hI.1.1, r_in0 (by have := hk.1.1; omega) hh, bI_ok, chk_tt (by decide)]
theorem r_isP (hI : IR M I) (hk : IOk I) (hh : h < iP I) : fX12_isPlot M (nI h) = okI M 1 := by
  unfold fX12_isPlot
  rw [hI.1.2.1, r_in0 (by have := hk.1.2.1; omega) hh, bI_ok, chk_tt (by decide)]
theorem r_isHx (hI : IR M I) (hk : IOk I) (hx : x < 0 ∨ nI (iH I) ≤ x) : fX12_isHouse M x = okI M 0 := by
  unfold fX12_isHouse
  rw [hI.1.1, r_in0x (by have := hk.1.1; omega) hx, bI_ok, chk_tt (by decide)]
theorem r_isPx (hI : IR M I) (hk : IOk I) (hx : x < 0 ∨ nI (iP I) ≤ x) : fX12_isPlot M x = okI M 0 := by
  unfold fX12_isPlot
  rw [hI.1.2.1, r_in0x (by have := hk.1.2.1; omega) hx, bI_ok, chk_tt (by decide)]
theorem c_with {a b : Int32} (h1 : ¬ x < a) (h2 : ¬ b < x) : fX11_needWithin M x a b = okV M := by
  unfold fX11_needWithin
  rw [if_neg h1, if_neg h2]
theorem c_withx {a b : Int32} (hx : x < a ∨ b < x) : fX11_needWithin M x a b = some (M, .inl 2) := by
  unfold fX11_needWithin fX11_needWithin_b10
  by_cases c : x < a
  · rw [if_pos c]
  · rw [if_neg c, if_pos (hx.resolve_left c)]
theorem c_what {a : Int32} (h1 : ¬ x < 0) (h2 : x < a) : fX11_needWhat M x a = okV M := by
  unfold fX11_needWhat
  rw [if_neg h1, if_pos h2]
theorem c_whatx {a : Int32} (hx : x < 0 ∨ ¬ x < a) : fX11_needWhat M x a = some (M, .inl 1) := by
  unfold fX11_needWhat fX11_needWhat_b9
  by_cases c : x < 0
  · rw [if_pos c]
  · rw [if_neg c, if_neg (hx.resolve_left c)]
end
/-- both sides, from any memory that holds the world: alike in answer, throw and the world after -/
def Ag (cf rf : Mem → RS) (kx : Nat → Int32) (X : WX) : Prop := ∃ X', WOk X' ∧
  ((∃ v, (∀ M, CI M X → ∃ M1, cf M = okI M1 v ∧ CI M1 X' ∧ FrC M M1) ∧ ∀ M, RI M X → ∃ M2, rf M = okI M2 v ∧ gi M2 87 3 = 0 ∧ RI M2 X' ∧ FrR M M2) ∨
   ∃ x, ((x = 1 ∨ x = 2) ∧ kx x ≠ 0) ∧ (∀ M, CI M X → ∃ M1, cf M = some (M1, .inl x) ∧ CI M1 X' ∧ FrC M M1) ∧ ∀ M, RI M X → ∃ M2 w, rf M = okI M2 w ∧ gi M2 87 3 = kx x ∧ RI M2 X' ∧ FrR M M2)
theorem FrC.rf {M : Mem} : FrC M M := fun _ _ _ => rfl
theorem FrR.rf {M : Mem} : FrR M M := ⟨fun _ _ _ => rfl, fun _ _ => rfl, rfl⟩
theorem FrR.z {M M' : Mem} {k : Nat} {v : Int32} (h : FrR M M') : FrR M (si M' 87 k v) := ⟨fun a ha j => by rw [gi_si_a (by omega)]; exact h.1 a ha j, h.2.1, h.2.2⟩
theorem RI.z {M : Mem} {X : WX} {v : Int32} (h : RI M X) : RI (si M 87 3 v) X := by
  refine h.q (Fr.rf.wi (by decide)) (fun k hk _ _ => gi_si_k hk) (h.2.1.1.eq (fun k hk _ => gi_si_k (by omega)) (fun _ => gi_si_a (by decide)) (fun _ => gi_si_a (by decide)) (fun _ => gi_si_a (by decide)))
/-- a call that throws and changes nothing -/
theorem Ag.x {cf rf : Mem → RS} {kx : Nat → Int32} {X : WX} (hX : WOk X) (x : Nat) (hx : x = 1 ∨ x = 2) (hc : ∀ M, CI M X → cf M = some (M, .inl x)) (hr : ∀ M, RI M X → ∃ w, rf M = okI (si (si M 87 3 0) 87 3 (kx x)) w) (hz : kx x ≠ 0 := by decide) : Ag cf rf kx X := by
  refine ⟨X, hX, Or.inr ⟨x, ⟨hx, hz⟩, fun M h => ⟨M, hc M h, h, FrC.rf⟩, fun M h => ?_⟩⟩
  obtain ⟨w, e⟩ := hr M h
  exact ⟨_, w, e, gi_si_s, h.z.z, FrR.rf.z.z⟩
/-- the cells that a question of the reference may change -/
def scrU : List Nat := [87, 102, 103, 104, 106, 107, 108, 109, 110, 111]
/-- the model's fields that a question leaves -/
def MU (M M' : Mem) : Prop := ∀ k, k ≠ 3 → k < 31 ∨ 37 < k → k ≠ 43 → gi M' 87 k = gi M 87 k
/-- a question: nothing that later calls show has changed -/
theorem Ag.q {cf rf rf' : Mem → RS} {kx : Nat → Int32} {X : WX} (hX : WOk X) (v : Int32) (hc : ∀ M, CI M X → ∃ M1, cf M = okI M1 v ∧ Fr scrQ M M1)
    (hr : ∀ M, RI M X → gi M 87 3 = 0 → ∃ M2, rf' M = okI M2 v ∧ Fr scrU M M2 ∧ MU M M2 ∧ DRf M2 (lS (xL X)) ∧ gi M2 87 3 = 0) (hf : ∀ M, rf M = rf' (si M 87 3 0)) : Ag cf rf kx X := by
  refine ⟨X, hX, Or.inl ⟨v, fun M h => ?_, fun M h => ?_⟩⟩
  · obtain ⟨M1, e1, F1⟩ := hc M h
    exact ⟨M1, e1, h.q F1, F1.C (by unfold scrQ; decide)⟩
  · obtain ⟨M2, e2, F2, m2, S2, z2⟩ := hr (si M 87 3 0) h.z gi_si_s
    rw [hf]
    exact ⟨M2, e2, z2, h.z.q F2 m2 S2, FrR.rf.z.tr (F2.R (by unfold scrU; decide))⟩

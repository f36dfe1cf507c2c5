-- ===== envy =====
def ownW (I : IS) (S : DS) (h : Nat) (z : Int64) : Int64 := match dH S h with
  | none => z
  | some p => (wrt I S h p).toInt64
def envB (I : IS) (S : DS) (h o : Nat) : Bool := decide (o ≠ h) && match dH S o with
  | none => false
  | some q => match dH S h with
    | none => true
    | some p => decide (wrt I S h p < wrt I S h q)
def envT (I : IS) (S : DS) (h o m : Nat) : Nat := if envB I S h o = true then m ||| 2 ^ o else m
def envS (I : IS) (S : DS) (h : Nat) : Nat := foldN (envT I S h) (iH I) 0 0
theorem envT_lt {I : IS} {S : DS} {h o m : Nat} (ho : o < 8) (hm : m < 256) : envT I S h o m < 256 := by
  unfold envT
  by_cases c : envB I S h o = true
  · rw [if_pos c]; exact or_lt hm ho
  · rw [if_neg c]; exact hm
theorem envS_lt {I : IS} {S : DS} {h : Nat} (hk : IOk I) : envS I S h < 256 := by
  have := foldN_inv (f := envT I S h) (fun _ m => m < 256) (iH I) 0 0 (by decide) (fun j m _ hj hm => envT_lt (by have := hk.1.1; omega) hm)
  exact this
theorem min_lt (v : Int32) : (-9223372036854775808 : Int64) < v.toInt64 := by
  rw [Int64.lt_iff_toInt_lt, Int32.toInt_toInt64]
  have h1 : (-9223372036854775808 : Int64).toInt = -9223372036854775808 := by decide
  have h2 := Int32.le_toInt v
  rw [h1]
  omega
section
variable {M : Mem} {I : IS} {S : DS} {a h : Nat}
theorem sh_m1 {p : Nat} (hp : p < 1000) : ¬ shE (some p) = -1 := nI_nem1 (by omega)
theorem c_wos (hI : ICn M I) (hk : IOk I) (hS : DC a M S) (hO : DOk I S) (ha : a ∈ [39, 51, 62]) (hh : h < iH I) (z : Int64) :
    ∃ M', fX3_worthOfShare a M (nI h) z = okL M' (ownW I S h z) ∧ Fr scrC M M' := by
  have h8 := hk.1.1
  have h9 := hk.1.2.1
  unfold fX3_worthOfShare ownW
  rw [c_hasH hI hk hh, bI_ok, if_neg (by decide), chk_in (by omega) (by decide), ix_nI (by omega), hS.2.2.1 (hO.z (by omega)) h (by omega)]
  cases hp : dH S h with
  | none =>
    rw [if_pos (show shE none = -1 from rfl)]
    exact ⟨M, rfl, Fr.rf⟩
  | some p =>
    have hpi := hO.2.2.1 h p (by omega) hp
    obtain ⟨M1, e1, F1⟩ := c_worth hI hk hS.1 hO.1.1 ha hh hpi
    rw [if_neg (sh_m1 (by omega)), chk_in (by omega) (by decide), show shE (some p) = nI p from rfl, e1, bI_ok]
    exact ⟨M1, rfl, F1⟩
theorem c_envy (hI : ICn M I) (hk : IOk I) (hS : DC 39 M S) (hO : DOk I S) (hh : h < iH I) :
    ∃ M', fX3_enviedBy M (nI h) = okI M' (nI (envS I S h)) ∧ Fr scrC M M' := by
  have h8 := hk.1.1
  have h9 := hk.1.2.1
  have hz := hO.z (show 0 < iH I by omega)
  unfold fX3_enviedBy
  obtain ⟨M0', e0, F0⟩ := c_wos hI hk hS hO (by decide) hh (-9223372036854775808)
  rw [e0, bL_ok]
  obtain ⟨M', ⟨F', _⟩, e'⟩ := loopI (fun n M k (m : Nat) => fX3_enviedBy_b16 n M (nI h) (ownW I S h (-9223372036854775808)) (nI m) (nI k)) (fun k M' m => Fr scrC M M' ∧ m < 256) (iH I) (envT I S h) (fun M m => okI M (nI m))
    (by
      intro n M1 k m ⟨hF, hm⟩ hkk
      have I1 := hI.fr hF apS
      have S1 : DC 39 M1 S := hS.fr hF (apSa (by decide))
      have hlt := envT_lt (I := I) (S := S) (h := h) (show k < 8 by omega) hm
      have q : gi M1 41 k = shE (dH S k) := S1.2.2.1 hz k (by omega)
      rw [fX3_enviedBy_b16]
      dsimp only
      unfold fX3_enviedBy_b72
      rw [I1.1.1, if_pos (nI_lt hkk (by omega)), chk_in (by omega) (by decide), ix_nI (by omega), q, nI_p1]
      unfold envT envB at hlt ⊢
      by_cases c : k = h
      · subst c
        rw [if_pos rfl]
        have : (decide (k ≠ k) && match dH S k with
            | none => false
            | some q => match dH S k with
              | none => true
              | some p => decide (wrt I S k p < wrt I S k q)) ≠ true := by simp
        rw [if_neg this]
        exact ⟨M1, ⟨hF, hm⟩, rfl⟩
      · rw [if_neg (fun z => c ((nI_eq (by omega) (by omega)).mp z))]
        have dc : decide (k ≠ h) = true := by simpa using c
        rw [dc, Bool.true_and] at hlt ⊢
        cases hq : dH S k with
        | none =>
          rw [if_pos (show shE none = -1 from rfl)]
          exact ⟨M1, ⟨hF, hm⟩, rfl⟩
        | some q' =>
          have hqi := hO.2.2.1 k q' (by omega) hq
          obtain ⟨M2, e2, F2⟩ := c_worth I1 hk S1.1 hO.1.1 (by decide) hh hqi
          rw [if_neg (sh_m1 (by omega)), show shE (some q') = nI q' from rfl, e2, bI_ok, or_bit k (by omega), nI_or]
          rw [hq] at hlt
          unfold ownW
          cases hp : dH S h with
          | none =>
            rw [hp] at hlt
            dsimp only at hlt ⊢
            rw [if_pos ((lg_cmp_gt _ _).mpr (min_lt _)), if_pos rfl]
            rw [if_pos rfl] at hlt
            exact ⟨M2, ⟨hF.tr F2, hlt⟩, rfl⟩
          | some p =>
            rw [hp] at hlt
            dsimp only at hlt ⊢
            by_cases c2 : wrt I S h p < wrt I S h q'
            · have dc2 : decide (wrt I S h p < wrt I S h q') = true := by simpa using c2
              rw [if_pos dc2] at hlt
              rw [if_pos ((lg_cmp_gt _ _).mpr (Int32.toInt64_lt.mpr c2)), if_pos dc2]
              exact ⟨M2, ⟨hF.tr F2, hlt⟩, rfl⟩
            · have dc2 : decide (wrt I S h p < wrt I S h q') = false := by simpa using c2
              rw [if_neg (fun z => c2 (Int32.toInt64_lt.mp ((lg_cmp_gt _ _).mp z))), if_neg (by rw [dc2]; decide)]
              exact ⟨M2, ⟨hF.tr F2, hm⟩, rfl⟩)
    (by
      intro n M1 m ⟨hF, _⟩
      have I1 := hI.fr hF apS
      rw [fX3_enviedBy_b16]
      dsimp only
      rw [I1.1.1, if_neg (nI_nlt (Nat.le_refl _) (by omega))])
    (iH I) 0 (by omega) FU (FU_gt (by omega)) M0' 0 ⟨F0, by decide⟩
  exact ⟨M', e', F'⟩
theorem r_envy (hI : IR M I) (hk : IOk I) (hS : DRf M S) (hO : DOk I S) (hh : h < iH I) :
    ∃ M', fX12_envyOf M (nI h) = okI M' (nI (envS I S h)) ∧ Fr scrR M M' := by
  have h8 := hk.1.1
  have h9 := hk.1.2.1
  have hz := hO.z (show 0 < iH I by omega)
  unfold fX12_envyOf
  obtain ⟨M', ⟨F', _⟩, e'⟩ := loopI (fun n M k (m : Nat) => fX12_envyOf_b4 n M (nI h) (nI m) (nI k)) (fun k M' m => Fr scrR M M' ∧ m < 256) (iH I) (envT I S h) (fun M m => okI M (nI m))
    (by
      intro n M1 k m ⟨hF, hm⟩ hkk
      have I1 := hI.fr hF apR
      have S1 : DRf M1 S := hS.fr hF apRd
      have hlt := envT_lt (I := I) (S := S) (h := h) (show k < 8 by omega) hm
      have q : gi M1 103 k = shE (dH S k) := S1.2.2.1 hz k (by omega)
      have qh : gi M1 103 h = shE (dH S h) := S1.2.2.1 hz h (by omega)
      rw [fX12_envyOf_b4]
      dsimp only
      unfold fX12_envyOf_b68 fX12_envyOf_b75 fX12_envyOf_b77
      rw [I1.1.1, if_pos (nI_lt hkk (by omega)), nI_p1]
      unfold envT envB at hlt ⊢
      by_cases c : k = h
      · subst c
        rw [if_pos rfl]
        have : (decide (k ≠ k) && match dH S k with
            | none => false
            | some q => match dH S k with
              | none => true
              | some p => decide (wrt I S k p < wrt I S k q)) ≠ true := by simp
        rw [if_neg this]
        exact ⟨M1, ⟨hF, hm⟩, rfl⟩
      · rw [if_neg (fun z => c ((nI_eq (by omega) (by omega)).mp z)), chk_in (by omega) (by decide), ix_nI (show k < 2 ^ 31 by omega), q]
        have dc : decide (k ≠ h) = true := by simpa using c
        rw [dc, Bool.true_and] at hlt ⊢
        cases hq : dH S k with
        | none =>
          rw [if_pos (show shE none = -1 from rfl)]
          exact ⟨M1, ⟨hF, hm⟩, rfl⟩
        | some q' =>
          have hqi := hO.2.2.1 k q' (by omega) hq
          rw [if_neg (sh_m1 (by omega)), chk_in (show h < 8 by omega) (by decide), ix_nI (show h < 2 ^ 31 by omega), qh]
          rw [hq] at hlt
          cases hp : dH S h with
          | none =>
            rw [hp] at hlt
            dsimp only at hlt ⊢
            rw [if_pos (show shE none = -1 from rfl), or_bit k (by omega), nI_or, if_pos rfl]
            rw [if_pos rfl] at hlt
            exact ⟨M1, ⟨hF, hlt⟩, rfl⟩
          | some p =>
            have hpi := hO.2.2.1 h p (by omega) hp
            obtain ⟨M2, e2, F2⟩ := r_worth I1 hk S1.1 hO.1.1 hh hqi
            have S2 : DRf M2 S := S1.fr F2 apRd
            have qh2 : gi M2 103 h = shE (dH S h) := S2.2.2.1 hz h (by omega)
            obtain ⟨M3, e3, F3⟩ := r_worth (I1.fr F2 apR) hk S2.1 hO.1.1 hh hpi
            rw [hp] at hlt
            dsimp only at hlt ⊢
            rw [if_neg (sh_m1 (by omega)), chk_in (show k < 8 by omega) (by decide), show shE (some q') = nI q' from rfl, e2, bI_ok, chk_in (show h < 8 by omega) (by decide), qh2, hp, show shE (some p) = nI p from rfl, e3, bI_ok]
            by_cases c2 : wrt I S h p < wrt I S h q'
            · have dc2 : decide (wrt I S h p < wrt I S h q') = true := by simpa using c2
              rw [if_pos dc2] at hlt
              rw [if_pos c2, or_bit k (by omega), nI_or, if_pos dc2]
              exact ⟨M3, ⟨(hF.tr F2).tr F3, hlt⟩, rfl⟩
            · have dc2 : decide (wrt I S h p < wrt I S h q') = false := by simpa using c2
              rw [if_neg c2, show (0 : Int32) = nI 0 from rfl, nI_or, Nat.or_zero, if_neg (by rw [dc2]; decide)]
              exact ⟨M3, ⟨(hF.tr F2).tr F3, hm⟩, rfl⟩)
    (by
      intro n M1 m ⟨hF, _⟩
      have I1 := hI.fr hF apR
      rw [fX12_envyOf_b4]
      dsimp only
      rw [I1.1.1, if_neg (nI_nlt (Nat.le_refl _) (by omega))])
    (iH I) 0 (by omega) FU (FU_gt (by omega)) M 0 ⟨Fr.rf, by decide⟩
  exact ⟨M', e', F'⟩
end

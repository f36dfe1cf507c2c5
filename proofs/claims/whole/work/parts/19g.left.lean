-- ===== plots left in the reference =====
theorem mask_sum : ∀ a, a < 512 → a = bitN a 0 + 2 * bitN a 1 + 4 * bitN a 2 + 8 * bitN a 3 + 16 * bitN a 4 + 32 * bitN a 5 + 64 * bitN a 6 + 128 * bitN a 7 + 256 * bitN a 8 := by decide +kernel
theorem mask_ext {a b : Nat} (ha : a < 512) (hb : b < 512) (h : ∀ q, q < 9 → bitN a q = bitN b q) : a = b := by
  rw [mask_sum a ha, mask_sum b hb, h 0 (by decide), h 1 (by decide), h 2 (by decide), h 3 (by decide), h 4 (by decide), h 5 (by decide), h 6 (by decide), h 7 (by decide), h 8 (by decide)]
theorem mask_or : ∀ a, a < 512 → ∀ p, p < 9 → a ||| 2 ^ p < 512 ∧ ∀ q, q < 9 → bitN (a ||| 2 ^ p) q = if q = p then 1 else bitN a q := by decide +kernel
theorem or_bit9 : ∀ h, h < 9 → (1 : Int32) <<< (nI h &&& 31) = nI (2 ^ h) := by decide
section
variable {M : Mem} {I : IS} {S : DS}
theorem lft_high (hk : IOk I) (hO : DOk I S) : lftS I (dH S) < 512 ∧ ∀ q, iP I ≤ q → q < 9 → bitN (lftS I (dH S)) q = 0 := by
  have h8 := hk.1.1
  have h9 := hk.1.2.1
  obtain ⟨ma1, ma2, ma3⟩ := m_all (iP I) h9
  have := foldN_inv (f := fun h L => match dH S h with
    | none => L
    | some p => clr L p) (fun _ (L : Nat) => L < 512 ∧ ∀ q, iP I ≤ q → q < 9 → bitN L q = 0) (iH I) 0 (2 ^ iP I - 1) ⟨ma2, fun q h1 h2 => by rw [ma3 q h2, if_neg (by omega)]⟩ (by
      intro j L _ hj ⟨h1, h2⟩
      cases hp : dH S j with
      | none => exact ⟨h1, h2⟩
      | some p =>
        have hpi := hO.2.2.1 j p (by omega) hp
        refine ⟨Nat.lt_of_le_of_lt (clr_le L p) h1, fun q q1 q2 => ?_⟩
        show bitN (clr L p) q = 0
        rw [m_clrb L h1 p (by omega) q q2, if_neg (by omega)]
        exact h2 q q1 q2)
  exact this
theorem r_left (hI : IR M I) (hk : IOk I) (hf : ∀ h, h < iH I → gi M 103 h = shE (dH S h)) (hO : DOk I S) (hl : ∀ q, q < iP I → (bitN (lftS I (dH S)) q = 1 ↔ freeP 8 (dH S) q = true)) : fX12_free_b9 FU M 0 0 = okI M (nI (lftS I (dH S))) := by
  have h8 := hk.1.1
  have h9 := hk.1.2.1
  obtain ⟨t1, t2⟩ := lft_high hk hO
  have hfp : ∀ h p, h < 8 → dH S h = some p → p < 2 ^ 31 := fun h p hh e => by have := hO.2.2.1 h p hh e; omega
  obtain ⟨M', ⟨hM, hL, hb⟩, e'⟩ := loopI (fun n M k (L : Nat) => fX12_free_b9 n M (nI L) (nI k)) (fun k M' L => M' = M ∧ L < 512 ∧ ∀ q, q < 9 → bitN L q = if q < k then bitN (lftS I (dH S)) q else 0) (iP I) (fun k L => if freeP 8 (dH S) k = true then L ||| 2 ^ k else L) (fun M L => okI M (nI L))
    (by
      intro n M1 k L ⟨hM, hL, hb⟩ hkk
      subst hM
      rw [fX12_free_b9]
      dsimp only
      rw [hI.1.2.1, if_pos (nI_lt hkk (by omega)), r_owner hI hk hf hfp (by omega), bI_ok]
      unfold fX12_free_b36
      have b01 : bitN (lftS I (dH S)) k = 0 ∨ bitN (lftS I (dH S)) k = 1 := by unfold bitN; omega
      by_cases hb1 : freeP 8 (dH S) k = true
      · have ho : ownF (dH S) k (iH I) 0 = none := (ownF_none _ _).mpr (fun x _ hx => freeP_iff.mp hb1 x (by omega))
        obtain ⟨m1, m2⟩ := mask_or L hL k (by omega)
        rw [ho, if_pos (show shE none = -1 from rfl), if_pos hb1, nI_p1, or_bit9 k (by omega), nI_or]
        refine ⟨M1, ⟨rfl, m1, fun q hq => ?_⟩, rfl⟩
        rw [m2 q hq]
        by_cases hqk : q = k
        · rw [if_pos hqk, if_pos (by omega), hqk, (hl k hkk).mpr hb1]
        · rw [if_neg hqk, hb q hq]
          by_cases c : q < k
          · rw [if_pos c, if_pos (by omega)]
          · rw [if_neg c, if_neg (by omega)]
      · have ho : ownF (dH S) k (iH I) 0 ≠ none := fun c => hb1 (freeP_iff.mpr (fun x hx => by
          by_cases hx2 : x < iH I
          · exact (ownF_none _ _).mp c x (by omega) (by omega)
          · rw [hO.2.2.2.1 x (by omega) hx]; intro z; cases z))
        have hz : bitN (lftS I (dH S)) k = 0 := by
          rcases b01 with z | z
          · exact z
          · exact absurd ((hl k hkk).mp z) hb1
        cases hoo : ownF (dH S) k (iH I) 0 with
        | none => exact absurd hoo ho
        | some x =>
          have := ownF_lt _ _ _ hoo
          rw [if_neg (show ¬ shE (some x) = -1 from nI_nem1 (by omega)), if_neg hb1, nI_p1, show (0 : Int32) = nI 0 from rfl, nI_or, Nat.or_zero]
          refine ⟨M1, ⟨rfl, hL, fun q hq => ?_⟩, rfl⟩
          rw [hb q hq]
          by_cases c : q < k
          · rw [if_pos c, if_pos (by omega)]
          · rw [if_neg c]
            by_cases c2 : q < k + 1
            · rw [if_pos c2, show q = k by omega, hz]
            · rw [if_neg c2])
    (by
      intro n M1 L ⟨hM, _⟩
      subst hM
      rw [fX12_free_b9]
      dsimp only
      rw [hI.1.2.1, if_neg (nI_nlt (Nat.le_refl _) (by omega))])
    (iP I) 0 (by omega) FU (FU_gt (by omega)) M 0 ⟨rfl, by decide, fun q _ => by
      rw [if_neg (by omega)]
      unfold bitN
      rw [Nat.zero_div]⟩
  subst hM
  refine Eq.trans e' ?_
  exact congrArg (fun L => okI M' (nI L)) (mask_ext hL t1 (fun q hq => by
    rw [hb q hq]
    by_cases c : q < iP I
    · rw [if_pos c]
    · rw [if_neg c, t2 q (by omega) hq]))
end

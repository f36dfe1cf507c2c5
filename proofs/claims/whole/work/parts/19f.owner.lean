-- ===== owners and plots left =====
section
variable {M : Mem} {I : IS} {S : DS} {h p : Nat}
theorem c_owner (hI : ICn M I) (hk : IOk I) {f : Nat → Option Nat} (hf : ∀ h, h < iH I → gi M 41 h = shE (f h)) (hfp : ∀ h p, h < 8 → f h = some p → p < 2 ^ 31) (hp : p < 2 ^ 31) : fX3_ownerOf M (nI p) = okI M (shE (ownF f p (iH I) 0)) := by
  have h8 := hk.1.1
  have key : ∀ d k, k + d = iH I → ∀ n, d < n → fX3_ownerOf_b2 n M (nI p) (nI k) = okI M (shE (ownF f p d k)) := by
    intro d
    induction d with
    | zero =>
      intro k hkd n hn
      obtain ⟨m, rfl⟩ : ∃ m, n = m + 1 := ⟨n - 1, by omega⟩
      rw [fX3_ownerOf_b2]
      dsimp only
      rw [hI.1.1, if_neg (nI_nlt (by omega) (by omega))]
      rfl
    | succ d ih =>
      intro k hkd n hn
      obtain ⟨m, rfl⟩ : ∃ m, n = m + 1 := ⟨n - 1, by omega⟩
      rw [fX3_ownerOf_b2]
      dsimp only
      rw [hI.1.1, if_pos (nI_lt (by omega) (by omega)), chk_in (by omega) (by decide), ix_nI (by omega), hf k (by omega)]
      unfold ownF
      by_cases e : f k = some p
      · rw [if_pos ((shE_some hp (fun q hq => hfp k q (by omega) hq)).mpr e), if_pos e]
        rfl
      · rw [if_neg (fun c => e ((shE_some hp (fun q hq => hfp k q (by omega) hq)).mp c)), if_neg e, nI_p1]
        exact ih (k + 1) (by omega) m (by omega)
  exact key (iH I) 0 (by omega) FU (FU_gt (by omega))
/-- the plots that nobody has, as a mask -/
def lftS (I : IS) (f : Nat → Option Nat) : Nat := foldN (fun h L => match f h with
  | none => L
  | some p => clr L p) (iH I) 0 (2 ^ iP I - 1)
theorem c_left (hI : ICn M I) (hk : IOk I) (hf : ∀ h, h < iH I → gi M 41 h = shE (dH S h)) (hO : DOk I S) : fX3_plotsLeft M = okI M (nI (lftS I (dH S))) ∧ lftS I (dH S) < 512 ∧ ∀ q, q < iP I → (bitN (lftS I (dH S)) q = 1 ↔ freeP 8 (dH S) q = true) := by
  have h8 := hk.1.1
  have h9 := hk.1.2.1
  obtain ⟨ma1, ma2, ma3⟩ := m_all (iP I) h9
  unfold fX3_plotsLeft fX3_allPlots
  rw [hI.1.2.1, ma1, bI_ok]
  obtain ⟨M', ⟨hM, hL, hb⟩, e'⟩ := loopI (fun n M k (L : Nat) => fX3_plotsLeft_b7 n M (nI L) (nI k)) (fun k M' L => M' = M ∧ L < 512 ∧ ∀ q, q < iP I → (bitN L q = 1 ↔ ∀ h, h < k → dH S h ≠ some q)) (iH I) (fun h L => match dH S h with
  | none => L
  | some p => clr L p) (fun M L => okI M (nI L))
    (by
      intro n M1 k L ⟨hM, hL, hb⟩ hkk
      subst hM
      rw [fX3_plotsLeft_b7]
      dsimp only
      rw [hI.1.1, if_pos (nI_lt hkk (by omega)), chk_in (by omega) (by decide), ix_nI (by omega), hf k (by omega)]
      unfold fX3_plotsLeft_b41
      cases hp : dH S k with
      | none =>
        rw [if_pos (show shE none = -1 from rfl), nI_p1]
        refine ⟨M1, ⟨rfl, hL, fun q hq => ?_⟩, rfl⟩
        rw [hb q hq]
        constructor
        · intro z x hx
          by_cases hxk : x = k
          · rw [hxk, hp]; intro c; cases c
          · exact z x (by omega)
        · intro z x hx; exact z x (by omega)
      | some p =>
        have hpi := hO.2.2.1 k p (by omega) hp
        rw [if_neg (show ¬ shE (some p) = -1 from nI_nem1 (by omega)), chk_in (by omega) (by decide), nI_p1, show shE (some p) = nI p from rfl, m_clr L hL p (by omega)]
        refine ⟨M1, ⟨rfl, Nat.lt_of_le_of_lt (clr_le L p) hL, fun q hq => ?_⟩, rfl⟩
        show bitN (clr L p) q = 1 ↔ _
        rw [m_clrb L hL p (by omega) q (by omega)]
        by_cases hqp : q = p
        · rw [if_pos hqp]
          constructor
          · intro c; cases c
          · intro z; exact absurd (by rw [hp, hqp]) (z k (by omega))
        · rw [if_neg hqp, hb q hq]
          constructor
          · intro z x hx
            by_cases hxk : x = k
            · rw [hxk, hp]; intro c; cases c; exact hqp rfl
            · exact z x (by omega)
          · intro z x hx; exact z x (by omega))
    (by
      intro n M1 L ⟨hM, _⟩
      subst hM
      rw [fX3_plotsLeft_b7]
      dsimp only
      rw [hI.1.1, if_neg (nI_nlt (Nat.le_refl _) (by omega))])
    (iH I) 0 (by omega) FU (FU_gt (by omega)) M (2 ^ iP I - 1) ⟨rfl, ma2, fun q hq => by
      rw [ma3 q (by omega), if_pos hq]
      exact ⟨fun _ x hx => by omega, fun _ => rfl⟩⟩
  subst hM
  refine ⟨e', hL, fun q hq => ?_⟩
  refine (hb q hq).trans ?_
  rw [freeP_iff]
  constructor
  · intro z x hx
    by_cases hxi : x < iH I
    · exact z x hxi
    · rw [hO.2.2.2.1 x (by omega) hx]; intro c; cases c
  · intro z x hx; exact z x (by omega)
end

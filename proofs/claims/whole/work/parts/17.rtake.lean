-- ===== the reference takes shares =====
def ownF (f : Nat → Option Nat) (p : Nat) : Nat → Nat → Option Nat
  | 0, _ => none
  | d + 1, k => if f k = some p then some k else ownF f p d (k + 1)
theorem ownF_none {f : Nat → Option Nat} {p : Nat} : ∀ d k, ownF f p d k = none ↔ ∀ h, k ≤ h → h < k + d → f h ≠ some p := by
  intro d
  induction d with
  | zero => intro k; exact ⟨fun _ h h1 h2 => by omega, fun _ => rfl⟩
  | succ d ih =>
    intro k
    unfold ownF
    by_cases e : f k = some p
    · rw [if_pos e]
      exact ⟨fun c => (by cases c), fun c => absurd e (c k (Nat.le_refl _) (by omega))⟩
    · rw [if_neg e, ih]
      constructor
      · intro c h h1 h2
        by_cases hk : h = k
        · rw [hk]; exact e
        · exact c h (by omega) (by omega)
      · intro c h h1 h2
        exact c h (by omega) (by omega)
theorem ownF_lt {f : Nat → Option Nat} {p : Nat} : ∀ d k h, ownF f p d k = some h → h < k + d := by
  intro d
  induction d with
  | zero => intro k h e; cases e
  | succ d ih =>
    intro k h e
    unfold ownF at e
    by_cases c : f k = some p
    · rw [if_pos c] at e; cases e; omega
    · rw [if_neg c] at e; have := ih (k + 1) h e; omega
theorem shE_some {o : Option Nat} {p : Nat} (hp : p < 2 ^ 31) (ho : ∀ q, o = some q → q < 2 ^ 31) : shE o = nI p ↔ o = some p := by
  cases o with
  | none => exact ⟨fun e => absurd e.symm (nI_nem1 hp), fun e => by cases e⟩
  | some q => exact ⟨fun e => by rw [(nI_eq (ho q rfl) hp).mp e], fun e => by cases e; rfl⟩
section
variable {M : Mem} {I : IS} {S : DS} {h p : Nat}
theorem r_owner (hI : IR M I) (hk : IOk I) {f : Nat → Option Nat} (hf : ∀ h, h < iH I → gi M 103 h = shE (f h)) (hfp : ∀ h p, h < 8 → f h = some p → p < 2 ^ 31) (hp : p < 2 ^ 31) : fX12_ownerOf M (nI p) = okI M (shE (ownF f p (iH I) 0)) := by
  have h8 := hk.1.1
  have key : ∀ d k, k + d = iH I → ∀ n, d < n → fX12_ownerOf_b2 n M (nI p) (nI k) = okI M (shE (ownF f p d k)) := by
    intro d
    induction d with
    | zero =>
      intro k hkd n hn
      obtain ⟨m, rfl⟩ : ∃ m, n = m + 1 := ⟨n - 1, by omega⟩
      rw [fX12_ownerOf_b2]
      dsimp only
      rw [hI.1.1, if_neg (nI_nlt (by omega) (by omega))]
      rfl
    | succ d ih =>
      intro k hkd n hn
      obtain ⟨m, rfl⟩ : ∃ m, n = m + 1 := ⟨n - 1, by omega⟩
      rw [fX12_ownerOf_b2]
      dsimp only
      rw [hI.1.1, if_pos (nI_lt (by omega) (by omega)), chk_in (by omega) (by decide), ix_nI (by omega), hf k (by omega)]
      unfold ownF
      by_cases e : f k = some p
      · rw [if_pos ((shE_some hp (fun q hq => hfp k q (by omega) hq)).mpr e), if_pos e]
        rfl
      · rw [if_neg (fun c => e ((shE_some hp (fun q hq => hfp k q (by omega) hq)).mp c)), if_neg e, nI_p1]
        exact ih (k + 1) (by omega) m (by omega)
  exact key (iH I) 0 (by omega) FU (FU_gt (by omega))
def scrT : List Nat := [106, 107, 103]
theorem apT : apart scrT irCells := by unfold apart; decide
theorem scrT_r {M M' : Mem} (h : Fr scrR M M') : Fr scrT M M' := h.mono (by unfold scrR scrT; decide)
/-- one settler chooses -/
theorem r_choose (hI : IR M I) (hk : IOk I) (hS : DR0 M S) (hD : dL S < 256) (hh : h < iH I) {f : Nat → Option Nat} (hf : ∀ h, h < 8 → gi M 103 h = shE (f h)) (hfp : ∀ h p, f h = some p → p < iP I) (hfn : ∀ h, iH I ≤ h → f h = none) (rec23 : Mem → Int32 → RS) (k : Int32) :
    ∃ M', fX12_takeShares_b59 rec23 FU M k (nI h) (-1) 0 0 = rec23 (si M' 103 h (shE (dear I (wrt I S h) (freeP 8 f)))) (k + 1) ∧ Fr scrR M M' := by
  have h8 := hk.1.1
  have h9 := hk.1.2.1
  obtain ⟨M', F', e'⟩ := loopI (fun n M j (acc : Option (Nat × Int32)) => fX12_takeShares_b59 rec23 n M k (nI h) (acc1 acc) (acc2 acc) (nI j)) (fun j M' acc => Fr scrR M M' ∧ ∀ q m, acc = some (q, m) → q < j) (iP I) (dearStep (wrt I S h) (freeP 8 f)) (fun M acc => rec23 (si M 103 h (acc1 acc)) (k + 1))
    (by
      intro n M1 j acc ⟨hF, hq⟩ hj
      have I1 := hI.fr hF apR
      have S1 := hS.fr hF (by decide)
      have hf1 : ∀ h, h < 8 → gi M1 103 h = shE (f h) := fun h hh => by rw [hF.i (by decide)]; exact hf h hh
      rw [fX12_takeShares_b59]
      dsimp only
      rw [I1.1.2.1, if_pos (nI_lt hj (by omega)), r_owner I1 hk (fun h hh => hf1 h (by have := hk.1.1; omega)) (fun h p _ e => by have := hfp h p e; omega) (by omega), bI_ok]
      unfold dearStep
      by_cases hb : freeP 8 f j = true
      · have ho : ownF f j (iH I) 0 = none := (ownF_none _ _).mpr (fun x _ hx => freeP_iff.mp hb x (by omega))
        rw [ho, if_pos (show shE none = -1 from rfl), if_pos hb]
        obtain ⟨M2, e2, F2⟩ := r_worth I1 hk S1 hD hh hj
        rw [e2, bI_ok]
        unfold fX12_takeShares_b107 fX12_takeShares_b114
        rw [nI_p1]
        match acc, hq with
        | none, hq =>
          refine ⟨M2, ⟨hF.tr F2, fun q m e => by cases e; omega⟩, ?_⟩
          rw [if_pos (show acc1 none = -1 from rfl)]
          rfl
        | some (q, m), hq =>
          have hqk := hq q m rfl
          rw [if_neg (show ¬ acc1 (some (q, m)) = -1 from nI_nem1 (by omega))]
          show ∃ M', (Fr scrR M M' ∧ ∀ q' m', (if m < wrt I S h j then some (j, wrt I S h j) else some (q, m)) = some (q', m') → q' < j + 1) ∧ (if m < wrt I S h j then _ else _) = fX12_takeShares_b59 rec23 n M' k (nI h) (acc1 (if m < wrt I S h j then some (j, wrt I S h j) else some (q, m))) (acc2 (if m < wrt I S h j then some (j, wrt I S h j) else some (q, m))) (nI (j + 1))
          by_cases hm : m < wrt I S h j
          · rw [if_pos hm, if_pos hm]
            exact ⟨M2, ⟨hF.tr F2, fun q m e => by cases e; omega⟩, rfl⟩
          · rw [if_neg hm, if_neg hm]
            exact ⟨M2, ⟨hF.tr F2, fun q m e => by cases e; omega⟩, rfl⟩
      · have ho : ownF f j (iH I) 0 ≠ none := fun c => hb (freeP_iff.mpr (fun x hx => by
          by_cases hx2 : x < iH I
          · exact (ownF_none _ _).mp c x (by omega) (by omega)
          · rw [hfn x (by omega)]; intro z; cases z))
        rw [if_neg hb]
        cases hoo : ownF f j (iH I) 0 with
        | none => exact absurd hoo ho
        | some x =>
          have := ownF_lt _ _ _ hoo
          rw [if_neg (show ¬ shE (some x) = -1 from nI_nem1 (by omega))]
          refine ⟨M1, ⟨hF, fun q m e => by have := hq q m e; omega⟩, ?_⟩
          unfold fX12_takeShares_b114
          rw [nI_p1])
    (by
      intro n M1 acc ⟨hF, _⟩
      have I1 := hI.fr hF apR
      rw [fX12_takeShares_b59]
      dsimp only
      rw [I1.1.2.1, if_neg (nI_nlt (Nat.le_refl _) (by omega)), chk_in (by omega) (by decide), ix_nI (by omega), wr_eq]
      rfl)
    (iP I) 0 (by omega) FU (FU_gt (by omega)) M none ⟨Fr.rf, fun q m e => by cases e⟩
  refine ⟨M', ?_, F'.1⟩
  refine e'.trans ?_
  unfold dear
  congr 2
  cases foldN (dearStep (wrt I S h) (freeP 8 f)) (iP I) 0 none with
  | none => rfl
  | some q => rfl
end

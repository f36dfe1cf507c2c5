-- ===== shares are taken, in the class and in the reference =====
theorem inj_surj : ∀ (n : Nat) (f : Nat → Nat), (∀ k, k < n → f k < n) → (∀ i j, i < n → j < n → f i = f j → i = j) → ∀ h, h < n → ∃ k, k < n ∧ f k = h := by
  intro n
  induction n with
  | zero => intro f _ _ h hh; omega
  | succ n ih =>
    intro f hf hi h hh
    have g1 : ∀ k, k < n → (if f k = n then f n else f k) < n := by
      intro k hk
      by_cases e : f k = n
      · rw [if_pos e]
        have h1 := hf n (by omega)
        rcases Nat.lt_or_ge (f n) n with q | q
        · exact q
        · have : f n = n := by omega
          have := hi k n (by omega) (by omega) (e.trans this.symm)
          omega
      · rw [if_neg e]
        have := hf k (by omega)
        omega
    have g2 : ∀ i j, i < n → j < n → (if f i = n then f n else f i) = (if f j = n then f n else f j) → i = j := by
      intro i j hin hjn e
      by_cases e1 : f i = n <;> by_cases e2 : f j = n
      · exact hi i j (by omega) (by omega) (e1.trans e2.symm)
      · rw [if_pos e1, if_neg e2] at e
        have := hi n j (by omega) (by omega) e
        omega
      · rw [if_neg e1, if_pos e2] at e
        have := hi i n (by omega) (by omega) e
        omega
      · rw [if_neg e1, if_neg e2] at e
        exact hi i j (by omega) (by omega) e
    have s := ih (fun k => if f k = n then f n else f k) g1 g2
    by_cases hm : h = f n
    · exact ⟨n, by omega, hm.symm⟩
    · by_cases hn : h = n
      · subst hn
        have h1 := hf h (by omega)
        obtain ⟨k, hk, e⟩ := s (f h) (by omega)
        by_cases e1 : f k = h
        · exact ⟨k, by omega, e1⟩
        · rw [if_neg e1] at e
          have := hi k h (by omega) (by omega) e
          omega
      · obtain ⟨k, hk, e⟩ := s h (by omega)
        by_cases e1 : f k = n
        · rw [if_pos e1] at e; exact absurd e.symm hm
        · rw [if_neg e1] at e; exact ⟨k, by omega, e⟩
section
variable {M : Mem} {I : IS} {S : DS} {a h p : Nat}
theorem place_iff (hS : ∀ k, k < 8 → gi M (a + 1) (dO S k) = nI k) (hO : DOk I S) {j : Nat} (hh : h < 8) (hj : j < 8) : gi M (a + 1) h = nI j ↔ h = dO S j := by
  constructor
  · intro e
    obtain ⟨k, hk, rfl⟩ := inj_surj 8 (dO S) hO.2.1.1 hO.2.1.2.1 h hh
    rw [hS k hk] at e
    rw [(nI_eq (by omega) (by omega)).mp e]
  · intro e
    rw [e]
    exact hS j hj
theorem c_houseAt (hS : ∀ k, k < 8 → gi M (a + 1) (dO S k) = nI k) (hO : DOk I S) {j : Nat} (hj : j < 8) : fX8_houseAt a M (nI j) = okI M (nI (dO S j)) := by
  have key : ∀ d k, k + d = dO S j → ∀ n, d < n → fX8_houseAt_b2 a n M (nI j) (nI k) = okI M (nI (dO S j)) := by
    have h8 := hO.2.1.1 j hj
    intro d
    induction d with
    | zero =>
      intro k hk n hn
      obtain ⟨m, rfl⟩ : ∃ m, n = m + 1 := ⟨n - 1, by omega⟩
      have : k = dO S j := by omega
      subst this
      rw [fX8_houseAt_b2]
      dsimp only
      rw [if_pos (ltL 8 h8 (by decide)), chk_in h8 (by decide), ix_nI (by omega), if_pos ((place_iff hS hO h8 hj).mpr rfl)]
    | succ d ih =>
      intro k hk n hn
      obtain ⟨m, rfl⟩ : ∃ m, n = m + 1 := ⟨n - 1, by omega⟩
      rw [fX8_houseAt_b2]
      dsimp only
      rw [if_pos (ltL 8 (by omega) (by decide)), chk_in (by omega) (by decide), ix_nI (by omega), if_neg (fun e => by have := (place_iff hS hO (by omega) hj).mp e; omega), nI_p1]
      exact ih (k + 1) (by omega) m (by omega)
  have h8 := hO.2.1.1 j hj
  exact key (dO S j) 0 (by omega) FU (FU_gt (by omega))
theorem shE_m1 {o : Option Nat} (h : ∀ p, o = some p → p < 2 ^ 31) : shE o = -1 ↔ o = none := by
  cases o with
  | none => exact ⟨fun _ => rfl, fun _ => rfl⟩
  | some p => exact ⟨fun e => absurd e (nI_nem1 (h p rfl)), fun e => by cases e⟩
theorem dear_lt {w : Nat → Int32} {left : Nat → Bool} {q : Nat} (h : dear I w left = some q) : q < iP I ∧ left q = true := by
  unfold dear at h
  have := foldN_inv (f := dearStep w left) (fun k (acc : Option (Nat × Int32)) => ∀ q m, acc = some (q, m) → q < k ∧ left q = true) (iP I) 0 none (fun q m e => by cases e) (by
    intro j acc _ _ hP q m e
    unfold dearStep at e
    by_cases hl : left j = true
    · rw [if_pos hl] at e
      match acc, hP with
      | none, _ => cases e; exact ⟨by omega, hl⟩
      | some (q', m'), hP =>
        dsimp only at e
        by_cases hm : m' < w j
        · rw [if_pos hm] at e; cases e; exact ⟨by omega, hl⟩
        · rw [if_neg hm] at e; cases e
          have := hP q m rfl
          exact ⟨by omega, this.2⟩
    · rw [if_neg hl] at e
      have := hP q m e
      exact ⟨by omega, this.2⟩)
  rw [Nat.zero_add] at this
  cases hf : foldN (dearStep w left) (iP I) 0 none with
  | none => rw [hf] at h; cases h
  | some r =>
    rw [hf] at h this
    cases h
    exact this r.1 r.2 rfl
theorem freeP_iff {n : Nat} {f : Nat → Option Nat} : freeP n f p = true ↔ ∀ h, h < n → f h ≠ some p := by
  unfold freeP
  rw [List.all_eq_true]
  constructor
  · intro q h hh
    simpa using q h (List.mem_range.mpr hh)
  · intro q x hx
    simpa using q x (List.mem_range.mp hx)
/-- what is known while shares are taken: the first k of the order have theirs -/
theorem tk_facts (hk : IOk I) (hO : DOk I S) (ab : Option Nat) : ∀ k, k ≤ iH I → (∀ h p, foldN (tkStep I S ab) k 0 (fun _ => none) h = some p → p < iP I) ∧ (∀ h, (∀ j, j < k → dO S j ≠ h) → foldN (tkStep I S ab) k 0 (fun _ => none) h = none) := by
  intro k hki
  have := foldN_inv (f := tkStep I S ab) (fun k (f : Nat → Option Nat) => (∀ h p, f h = some p → p < iP I) ∧ ∀ h, (∀ j, j < k → dO S j ≠ h) → f h = none) k 0 (fun _ => none) ⟨fun h p e => (by cases e), fun _ _ => rfl⟩ (by
    intro j f _ hj hP
    refine ⟨fun h p e => ?_, fun h hh => ?_⟩
    · unfold tkStep ups at e
      by_cases q : h = dO S j
      · rw [if_pos q] at e
        by_cases z : ab = some (dO S j)
        · rw [if_pos z] at e; cases e
        · rw [if_neg z] at e; exact (dear_lt e).1
      · rw [if_neg q] at e; exact hP.1 h p e
    · unfold tkStep ups
      rw [if_neg (fun q => hh j (by omega) q.symm)]
      exact hP.2 h (fun i hi => hh i (by omega)))
  rw [Nat.zero_add] at this
  exact this
end

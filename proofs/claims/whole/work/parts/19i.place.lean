-- ===== the reference finds a place =====
theorem r_place {M : Mem} {I : IS} {S : DS} {k : Nat} (ho : ∀ k, k < 8 → gi M 104 k = nI (dO S k)) (hO : DOk I S) (hk8 : k < 8) : fX12_placeOf M (nI (dO S k)) = okI M (nI k) := by
  have key : ∀ d j, j + d = k → ∀ n, d < n → fX12_placeOf_b2 n M (nI (dO S k)) (nI j) = okI M (nI k) := by
    intro d
    induction d with
    | zero =>
      intro j hj n hn
      obtain ⟨m, rfl⟩ : ∃ m, n = m + 1 := ⟨n - 1, by omega⟩
      have : j = k := by omega
      subst this
      rw [fX12_placeOf_b2]
      dsimp only
      rw [chk_in hk8 (by decide), ix_nI (by omega), ho j hk8, if_pos rfl]
    | succ d ih =>
      intro j hj n hn
      obtain ⟨m, rfl⟩ : ∃ m, n = m + 1 := ⟨n - 1, by omega⟩
      have h1 := hO.2.1.1 j (by omega)
      have h2 := hO.2.1.1 k hk8
      rw [fX12_placeOf_b2]
      dsimp only
      rw [chk_in (by omega) (by decide), ix_nI (by omega), ho j (by omega), if_neg (fun c => by
        have := hO.2.1.2.1 j k (by omega) hk8 ((nI_eq (by omega) (by omega)).mp c)
        omega), nI_p1]
      exact ih (j + 1) (by omega) m (by omega)
  exact key k 0 (by omega) FU (FU_gt (by omega))

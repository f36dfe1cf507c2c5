-- ===== the law: every run =====
def S01 : DS := (0, 0, 10, 10, 0, 0, 0, fun k => if k = 8 then 0 else k, fun _ => none, fun _ => 0)
def X00 : WX := (J00, 4, (S01, (0, fun _ => S01), (0, fun _ => (0, 0, 0)), fun _ => 0), none, (0, fun _ => 0), -1)
theorem S01_k {k : Nat} (hk : k < 8) : dO S01 k = k := by
  show (if k = 8 then 0 else k) = k
  rw [if_neg (by omega)]
theorem X00_ok : WOk X00 := by
  refine ⟨J00_ok.1, ⟨rfl, by decide⟩, ⟨⟨⟨⟨by decide, by decide, by decide⟩, ⟨fun k hk => ?_, fun i j hi hj h => ?_, fun k hk => absurd hk (Nat.not_lt_zero _), fun k _ hk => S01_k hk, Or.inr rfl⟩, fun _ _ _ e => (by cases e), fun _ _ _ => rfl, fun _ _ => Nat.zero_le _, fun _ _ _ => rfl⟩, Nat.zero_le _⟩, ⟨Nat.zero_le _, fun k hk => absurd hk (Nat.not_lt_zero _)⟩, Nat.zero_le _, fun k hk => absurd hk (Nat.not_lt_zero _)⟩, fun L hL => (by cases hL), ⟨Nat.zero_le _, fun k hk => absurd hk (Nat.not_lt_zero _)⟩, J00_ok.2.2⟩
  · show dO S01 k < 8
    rw [S01_k hk]; exact hk
  · have h : dO S01 i = dO S01 j := h
    rw [S01_k hi, S01_k hj] at h
    exact h
theorem X00_c : CI M0 X00 := by
  have no : ∀ {P : Prop}, dO S01 8 = 8 → P := fun h => absurd h (by decide)
  refine ⟨⟨⟨⟨rfl, rfl, rfl, rfl⟩, fun k hk => absurd hk (Nat.not_lt_zero _), fun k hk => absurd hk (Nat.not_lt_zero _), fun k hk => absurd hk (Nat.not_lt_zero _), ⟨rfl, fun k hk => absurd hk (Nat.not_lt_zero _)⟩, rfl, fun k hk => absurd hk (Nat.not_lt_zero _)⟩, rfl⟩, ⟨⟨⟨rfl, rfl, rfl, rfl, rfl, rfl, rfl⟩, fun h => no h, fun h => no h, fun _ _ => rfl⟩, ⟨0, by decide, rfl, rfl, fun k hk => absurd hk (Nat.not_lt_zero _)⟩, ⟨rfl, fun k hk => absurd hk (Nat.not_lt_zero _)⟩, fun _ _ => rfl⟩, ⟨rfl, fun L hL => (by cases hL)⟩, ⟨rfl, fun k hk => absurd hk (Nat.not_lt_zero _)⟩, rfl⟩
theorem X00_r : RI M0 X00 := by
  have no : ∀ {P : Prop}, dO S01 8 = 8 → P := fun h => absurd h (by decide)
  refine ⟨⟨⟨rfl, rfl, rfl, rfl, rfl, rfl⟩, fun k hk => absurd hk (Nat.not_lt_zero _), fun k hk => absurd hk (Nat.not_lt_zero _), fun k hk => absurd hk (Nat.not_lt_zero _), fun k hk => absurd hk (Nat.not_lt_zero _), fun k hk => absurd hk (Nat.not_lt_zero _)⟩, ⟨⟨⟨rfl, rfl, rfl, rfl, rfl, rfl, rfl⟩, fun h => no h, fun h => no h, fun _ _ => rfl⟩, ⟨rfl, fun k hk => absurd hk (Nat.not_lt_zero _)⟩, ⟨rfl, fun k hk => absurd hk (Nat.not_lt_zero _)⟩, fun _ _ => rfl⟩, ⟨rfl, fun L hL => (by cases hL)⟩, ⟨rfl, fun k hk => absurd hk (Nat.not_lt_zero _)⟩, rfl, rfl⟩
theorem law_runs {N : Nat} {xs : Nat → Int32} (hN : N ≤ 3072) : ∀ f p M X, INV M X → N < p + 6 * f → p ≤ N → ∃ M', flaw N xs f M (nI p) = some (M', .inr (some (.int 1))) := by
  intro f
  induction f with
  | zero =>
    intro p M X hI h hp
    exact absurd h (by omega)
  | succ f ih =>
    intro p M X hI h hp
    by_cases c : p + 6 ≤ N
    · obtain ⟨M', X', hI', e⟩ := law_step (f := f) (xs := xs) hN c hI
      obtain ⟨M2, e2⟩ := ih (p + 6) M' X' hI' (by omega) (by omega)
      refine ⟨M2, ?_⟩
      rw [e]
      unfold flaw_b2209
      rw [show nI p + 6 = nI (p + 6) from nadd p 6]
      exact e2
    · refine ⟨M, ?_⟩
      rw [flaw]
      dsimp only
      have hlt : Int32.ofNat N - 6 < nI p := by
        show nI N - nI 6 < nI p
        rw [Int32.lt_iff_toInt_lt, pk_sub_toInt (by omega) (by decide), nI_toInt (by omega)]
        omega
      rw [if_pos hlt]
theorem pure_law (N : Nat) (xs : Nat → Int32) (hN : N ≤ 3072) : ∃ M', flaw N xs 600 M0 0 = some (M', .inr (some (.int 1))) := law_runs hN 600 0 M0 X00 ⟨X00_ok, X00_c, X00_r⟩ (by omega) (Nat.zero_le _)

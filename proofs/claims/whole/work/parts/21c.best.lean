-- ===== the best shares: what the settlers from one on can have =====
def omx : Option Int → Option Int → Option Int
  | none, b => b
  | some x, none => some x
  | some x, some y => some (if x < y then y else x)
def bWt (w : Nat → Int) (f : Nat → Option Int) (g p : Nat) (a : Option Int) : Option Int := if bitN g p = 0 then omx a ((f p).map (fun v => v + w p)) else a
def bWs (w : Nat → Nat → Int) (P q : Nat) : Nat → Nat → Nat → Option Int
  | 0, _, g => if pcn 10 g = q then some 0 else none
  | d + 1, h, g => foldN (bWt (w h) (fun p => bWs w P q d (h + 1) (g ||| 2 ^ p)) g) P 0 (bWs w P q d (h + 1) g)
set_option maxRecDepth 20000 in
theorem pc_or : ∀ g, g < 512 → ∀ p, p < 9 → bitN g p = 0 → pcn 10 (g ||| 2 ^ p) = pcn 10 g + 1 := by decide +kernel
set_option maxRecDepth 20000 in
theorem pc_free : ∀ P, P ≤ 9 → ∀ g, g < 512 → g < 2 ^ P → (pcn 10 g ≤ P ∧ (pcn 10 g < P → ∃ p, p < P ∧ bitN g p = 0)) := by decide +kernel
theorem or_P {g p P : Nat} (hg : g < 2 ^ P) (hp : p < P) : g ||| 2 ^ p < 2 ^ P := Nat.or_lt_two_pow hg (Nat.pow_lt_pow_right (by decide) hp)
theorem omx_none {a b : Option Int} (h : omx a b = none) : a = none ∧ b = none := by
  cases a with
  | none => exact ⟨rfl, h⟩
  | some x => cases b with
    | none => cases h
    | some y => cases h
/-- too few can still come: no way -/
theorem bW_few {w : Nat → Nat → Int} {P q : Nat} (hP : P ≤ 9) : ∀ d h g, g < 2 ^ P → pcn 10 g + d < q → bWs w P q d h g = none := by
  intro d
  induction d with
  | zero =>
    intro h g hg hq
    unfold bWs
    rw [if_neg (by omega)]
  | succ d ih =>
    intro h g hg hq
    have h512 : g < 512 := Nat.lt_of_lt_of_le hg (Nat.pow_le_pow_right (n := 2) (by decide) hP)
    unfold bWs
    have := foldN_inv (f := bWt (w h) (fun p => bWs w P q d (h + 1) (g ||| 2 ^ p)) g) (fun _ (a : Option Int) => a = none) P 0 (bWs w P q d (h + 1) g) (ih (h + 1) g hg (by omega)) (by
      intro p a _ hp ha
      unfold bWt
      by_cases c : bitN g p = 0
      · dsimp only
        rw [if_pos c, ha, ih (h + 1) (g ||| 2 ^ p) (or_P hg (by omega)) (by rw [pc_or g h512 p (by omega) c]; omega)]
        rfl
      · rw [if_neg c]; exact ha)
    exact this
/-- else there is one -/
theorem bW_some {w : Nat → Nat → Int} {P q : Nat} (hP : P ≤ 9) (hq : q ≤ P) : ∀ d h g, g < 2 ^ P → pcn 10 g ≤ q → q ≤ pcn 10 g + d → bWs w P q d h g ≠ none := by
  intro d
  induction d with
  | zero =>
    intro h g hg h1 h2
    unfold bWs
    rw [if_pos (by omega)]
    intro c
    cases c
  | succ d ih =>
    intro h g hg h1 h2
    have h512 : g < 512 := Nat.lt_of_lt_of_le hg (Nat.pow_le_pow_right (n := 2) (by decide) hP)
    unfold bWs
    -- what is found stays
    have keep : ∀ n k (a : Option Int), a ≠ none → foldN (bWt (w h) (fun p => bWs w P q d (h + 1) (g ||| 2 ^ p)) g) n k a ≠ none := by
      intro n k a ha
      have := foldN_inv (f := bWt (w h) (fun p => bWs w P q d (h + 1) (g ||| 2 ^ p)) g) (fun _ (a : Option Int) => a ≠ none) n k a ha (by
        intro p a _ _ ha
        unfold bWt
        by_cases c : bitN g p = 0
        · rw [if_pos c]; exact fun z => ha (omx_none z).1
        · rw [if_neg c]; exact ha)
      exact this
    by_cases c : q ≤ pcn 10 g + d
    · exact keep P 0 _ (ih (h + 1) g hg h1 c)
    · obtain ⟨p, hp, hb⟩ := (pc_free P hP g h512 hg).2 (by omega)
      obtain ⟨m, hm⟩ : ∃ m, P = p + 1 + m := ⟨P - (p + 1), by omega⟩
      have e : ∀ a : Option Int, foldN (bWt (w h) (fun p => bWs w P q d (h + 1) (g ||| 2 ^ p)) g) P 0 a = foldN (bWt (w h) (fun p => bWs w P q d (h + 1) (g ||| 2 ^ p)) g) m (0 + (p + 1)) (bWt (w h) (fun p => bWs w P q d (h + 1) (g ||| 2 ^ p)) g (0 + p) (foldN (bWt (w h) (fun p => bWs w P q d (h + 1) (g ||| 2 ^ p)) g) p 0 a)) := by
        intro a
        have : foldN (bWt (w h) (fun p => bWs w P q d (h + 1) (g ||| 2 ^ p)) g) P 0 a = foldN (bWt (w h) (fun p => bWs w P q d (h + 1) (g ||| 2 ^ p)) g) (p + 1 + m) 0 a := congrArg (fun n => foldN (bWt (w h) (fun p => bWs w P q d (h + 1) (g ||| 2 ^ p)) g) n 0 a) hm
        rw [this, foldN_add, foldN_snoc]
      rw [e]
      refine keep m _ _ ?_
      unfold bWt
      rw [Nat.zero_add, if_pos hb]
      intro z
      have z2 : (bWs w P q d (h + 1) (g ||| 2 ^ p)).map (fun v => v + w h p) = none := (omx_none z).2
      have hne := ih (h + 1) (g ||| 2 ^ p) (or_P hg hp) (by rw [pc_or g h512 p (by omega) hb]; omega) (by rw [pc_or g h512 p (by omega) hb]; omega)
      cases hv : bWs w P q d (h + 1) (g ||| 2 ^ p) with
      | none => exact hne hv
      | some v => rw [hv] at z2; cases z2
/-- no sum is far off -/
theorem bW_le {w : Nat → Nat → Int} {P q : Nat} (hw : ∀ h p, -2147483648 ≤ w h p ∧ w h p ≤ 2147483647) : ∀ d h g v, bWs w P q d h g = some v → -2147483648 * (d : Int) ≤ v ∧ v ≤ 2147483648 * (d : Int) := by
  intro d
  induction d with
  | zero =>
    intro h g v e
    unfold bWs at e
    by_cases c : pcn 10 g = q
    · rw [if_pos c] at e; cases e; decide
    · rw [if_neg c] at e; cases e
  | succ d ih =>
    intro h g v e
    unfold bWs at e
    have := foldN_inv (f := bWt (w h) (fun p => bWs w P q d (h + 1) (g ||| 2 ^ p)) g) (fun _ (a : Option Int) => ∀ v, a = some v → -2147483648 * ((d + 1 : Nat) : Int) ≤ v ∧ v ≤ 2147483648 * ((d + 1 : Nat) : Int)) P 0 (bWs w P q d (h + 1) g) (fun v hv => by
      have := ih (h + 1) g v hv
      omega) (by
      intro p a _ _ ha v hv
      unfold bWt at hv
      by_cases c : bitN g p = 0
      · rw [if_pos c] at hv
        dsimp only at hv
        have hwp := hw h p
        cases hf : bWs w P q d (h + 1) (g ||| 2 ^ p) with
        | none =>
          rw [hf] at hv
          cases a with
          | none => cases hv
          | some x' => exact ha v hv
        | some y =>
          rw [hf] at hv
          have hy := ih (h + 1) (g ||| 2 ^ p) y hf
          cases a with
          | none =>
            have hv : some (y + w h p) = some v := hv
            cases hv
            omega
          | some x =>
            have hx := ha x rfl
            have hv : some (if x < y + w h p then y + w h p else x) = some v := hv
            by_cases c2 : x < y + w h p
            · rw [if_pos c2] at hv; cases hv; omega
            · rw [if_neg c2] at hv; cases hv; exact hx
      · rw [if_neg c] at hv
        exact ha v hv)
    exact this v e

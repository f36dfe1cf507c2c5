-- ===== whose share is best: the reference =====
theorem eLo_inj {a b : Option Int} (ha : okO a) (hb : okO b) : eLo a = eLo b ↔ a = b := by
  constructor
  · intro e
    have e := congrArg Int64.toInt e
    cases a with
    | none =>
      cases b with
      | none => rfl
      | some y =>
        have e : (-1152921504606846976 : Int64).toInt = (Int64.ofInt y).toInt := e
        have hy := hb y rfl
        rw [low_i, ofI hy] at e
        omega
    | some z =>
      have hz := ha z rfl
      cases b with
      | none =>
        have e : (Int64.ofInt z).toInt = (-1152921504606846976 : Int64).toInt := e
        rw [low_i, ofI hz] at e
        omega
      | some y =>
        have e : (Int64.ofInt z).toInt = (Int64.ofInt y).toInt := e
        rw [ofI hz, ofI (hb y rfl)] at e
        rw [e]
  · intro e; rw [e]
section
variable {M : Mem} {X : WX}
def bQ (X : WX) (h g p : Nat) : Bool := decide (bitN g p = 0 ∧ (BW X (h + 1) (g ||| 2 ^ p)).map (fun v => v + bw X h p) = BW X h g)
def orO (g : Nat) : Option Nat → Nat
  | none => g
  | some p => g ||| 2 ^ p
/-- given, and the last one's plot, behind n settlers -/
def bPt (X : WX) (h : Nat) (a : Nat × Option Nat) : Nat × Option Nat := (orO a.1 (seek (bQ X h a.1) (iP (xI X)) 0), seek (bQ X h a.1) (iP (xI X)) 0)
theorem seek_lt {Q : Nat → Bool} : ∀ d k p, seek Q d k = some p → k ≤ p ∧ p < k + d ∧ Q p = true := by
  intro d
  induction d with
  | zero => intro k p e; cases e
  | succ d ih =>
    intro k p e
    unfold seek at e
    by_cases c : Q k = true
    · rw [if_pos c] at e; cases e; exact ⟨Nat.le_refl _, by omega, c⟩
    · rw [if_neg c] at e
      have := ih (k + 1) p e
      exact ⟨by omega, by omega, this.2.2⟩
theorem bPt_lt {h : Nat} {a : Nat × Option Nat} (ha : a.1 < 2 ^ iP (xI X)) : (bPt X h a).1 < 2 ^ iP (xI X) := by
  unfold bPt orO
  dsimp only
  cases e : seek (bQ X h a.1) (iP (xI X)) 0 with
  | none => exact ha
  | some p => exact or_P ha (by have := (seek_lt _ _ _ e).2.1; omega)
/-- from any memory that has the table -/
theorem r_path (hI : IR M (xI X)) (hX : WOk X) (hw : WTr M X) (hb : BTr M X 0) {n : Nat} (hn : n < iH (xI X)) : fX12_best_b55 FU M (nI n) 0 (-1) 0 = okL M (shE (foldN (bPt X) (n + 1) 0 (0, none)).2).toInt64 := by
  have hk := hX.1
  have h8 := hk.1.1
  have h9 := hk.1.2.1
  have hP5 : 2 ^ iP (xI X) ≤ 512 := Nat.pow_le_pow_right (n := 2) (by decide) h9
  have hb1 : ∀ h, BTr M X (h + 1) := fun h h' g h1 h2 h3 => hb h' g (Nat.zero_le _) h2 h3
  -- from the last plot down
  have down : ∀ (rec55 : Mem → Int32 → Int32 → Int32 → Int32 → RS) (x1 : Int32) (h g : Nat), h < iH (xI X) → g < 2 ^ iP (xI X) → ∀ k, k ≤ iP (xI X) → ∀ f, k < f → fX12_best_b73 rec55 f M x1 (nI g) (shE (seek (bQ X h g) (iP (xI X) - k) k)) (nI h) (nI k - 1) = rec55 M x1 (nI (orO g (seek (bQ X h g) (iP (xI X)) 0))) (shE (seek (bQ X h g) (iP (xI X)) 0)) (nI (h + 1)) := by
    intro rec55 x1 h g hh hg k
    induction k with
    | zero =>
      intro _ f hf
      obtain ⟨m, rfl⟩ : ∃ m, f = m + 1 := ⟨f - 1, by omega⟩
      rw [fX12_best_b73]
      dsimp only
      unfold fX12_best_b134
      rw [if_pos (show nI 0 - 1 < 0 by decide), Nat.sub_zero, nI_p1]
      cases e : seek (bQ X h g) (iP (xI X)) 0 with
      | none =>
        rw [if_pos (show shE none = -1 from rfl), Int32.or_zero]
        rfl
      | some p =>
        have hp := (seek_lt _ _ _ e).2.1
        rw [if_neg (sh_m1 (by omega)), show shE (some p) = nI p from rfl, or_bit9 p (by omega), nI_or]
        rfl
    | succ k ih =>
      intro hki f hf
      obtain ⟨m, rfl⟩ : ∃ m, f = m + 1 := ⟨f - 1, by omega⟩
      have sk : seek (bQ X h g) (iP (xI X) - k) k = if bQ X h g k = true then some k else seek (bQ X h g) (iP (xI X) - (k + 1)) (k + 1) := by
        rw [show iP (xI X) - k = (iP (xI X) - (k + 1)) + 1 by omega]
        rfl
      have ihk := ih (by omega) m (by omega)
      rw [sk] at ihk
      rw [fX12_best_b73]
      dsimp only
      unfold fX12_best_b115
      rw [nI_m1 (by omega), show k + 1 - 1 = k by omega, if_neg (nI_pos (by omega)), r_isOf9 (show g < 512 by omega) (by omega), bI_ok, r_by hX hw (hb1 h) hh hg (show k < iP (xI X) by omega), bL_ok, sh9 (by omega), nadd, chk_in (by omega) (by decide), ix_nI (by omega), hb h g (Nat.zero_le _) (by omega) hg, show nI k + (-1) = nI k - 1 from (Int32.sub_eq_add_neg _ _).symm]
      have hj : eLo ((BW X (h + 1) (g ||| 2 ^ k)).map (fun v => v + bw X h k)) = eLo (BW X h g) ↔ (BW X (h + 1) (g ||| 2 ^ k)).map (fun v => v + bw X h k) = BW X h g := eLo_inj (BW_ok1 hX h (g ||| 2 ^ k) (wrt (xI X) (lS (xL X)) h k)) (BW_ok hX h g)
      rcases bitN_2 g k with e | e
      · rw [e, if_pos (show nI 0 = 0 from rfl)]
        by_cases c : (BW X (h + 1) (g ||| 2 ^ k)).map (fun v => v + bw X h k) = BW X h g
        · rw [if_pos ((lg_cmp_eq _ _).mpr (hj.mpr c))]
          rw [if_pos (show bQ X h g k = true from decide_eq_true ⟨e, c⟩)] at ihk
          exact ihk
        · rw [if_neg (fun z => c (hj.mp ((lg_cmp_eq _ _).mp z)))]
          rw [if_neg (show ¬ bQ X h g k = true from fun z => c (of_decide_eq_true z).2)] at ihk
          exact ihk
      · rw [e, if_neg (show ¬ nI 1 = 0 by decide)]
        rw [if_neg (show ¬ bQ X h g k = true from fun z => by have := (of_decide_eq_true z).1; omega)] at ihk
        exact ihk
  obtain ⟨M', ⟨hM', _⟩, e'⟩ := loopI (fun f M h (a : Nat × Option Nat) => fX12_best_b55 f M (nI n) (nI a.1) (shE a.2) (nI h)) (fun _ M' a => M' = M ∧ a.1 < 2 ^ iP (xI X)) (n + 1) (bPt X) (fun M a => okL M (shE a.2).toInt64)
    (by
      intro f M1 h a ⟨hM1, ha⟩ hh
      subst hM1
      refine ⟨M1, ⟨rfl, bPt_lt ha⟩, ?_⟩
      rw [fX12_best_b55]
      dsimp only
      rw [if_neg (nI_nlt (by omega) (by omega)), hI.1.2.1]
      have := down (fX12_best_b55 f) (nI n) h a.1 (by omega) ha (iP (xI X)) (Nat.le_refl _) FU (FU_gt (by omega))
      rw [Nat.sub_self] at this
      exact this)
    (by
      intro f M1 a _
      rw [fX12_best_b55]
      dsimp only
      rw [if_pos (nI_lt (by omega) (by omega))])
    (n + 1) 0 (by omega) FU (FU_gt (by omega)) M (0, none) ⟨rfl, Nat.two_pow_pos _⟩
  subst hM'
  exact e'
end

-- ===== the text's tokens =====
theorem si_si (M : Mem) (a k : Nat) (v w : Int32) : si (si M a k v) a k w = si M a k w := by
  unfold si
  refine Prod.ext ?_ rfl
  funext b j
  show (if b = a ∧ j = k then w else if b = a ∧ j = k then v else M.1 b j) = if b = a ∧ j = k then w else M.1 b j
  by_cases c : b = a ∧ j = k
  · rw [if_pos c, if_pos c]
  · rw [if_neg c, if_neg c, if_neg c]
theorem si_self (M : Mem) (a k : Nat) (v : Int32) (h : gi M a k = v) : si M a k v = M := by
  unfold si
  refine Prod.ext ?_ rfl
  funext b j
  show (if b = a ∧ j = k then v else M.1 b j) = M.1 b j
  by_cases c : b = a ∧ j = k
  · rw [if_pos c, ← h, c.1, c.2]; rfl
  · rw [if_neg c]
def run (Q : Nat → Bool) : Nat → Nat → Nat
  | 0, s => s
  | d + 1, s => if Q s = true then run Q d (s + 1) else s
theorem run_in {Q : Nat → Bool} : ∀ d s, s ≤ run Q d s ∧ run Q d s ≤ s + d := by
  intro d
  induction d with
  | zero => intro s; exact ⟨Nat.le_refl _, Nat.le_refl _⟩
  | succ d ih =>
    intro s
    unfold run
    by_cases c : Q s = true
    · rw [if_pos c]; have := ih (s + 1); omega
    · rw [if_neg c]; omega
theorem run_all {Q : Nat → Bool} : ∀ d s k, s ≤ k → k < run Q d s → Q k = true := by
  intro d
  induction d with
  | zero => intro s k h1 h2; unfold run at h2; omega
  | succ d ih =>
    intro s k h1 h2
    unfold run at h2
    by_cases c : Q s = true
    · rw [if_pos c] at h2
      by_cases e : k = s
      · rw [e]; exact c
      · exact ih (s + 1) k (by omega) h2
    · rw [if_neg c] at h2; omega
def isL (c : Nat) : Bool := decide (97 ≤ c ∧ c ≤ 122)
def isD (c : Nat) : Bool := decide (48 ≤ c ∧ c ≤ 57)
def isBl (c : Nat) : Bool := decide (c = 32 ∨ c = 10)
def sgn (c : Nat) : Nat := if c = 40 ∨ c = 41 ∨ c = 42 ∨ c = 43 ∨ c = 45 ∨ c = 47 ∨ c = 59 ∨ c = 60 ∨ c = 61 then c else 3
def allF (P : Nat → Bool) : Nat → Nat → Bool
  | 0, _ => true
  | d + 1, k => if P k = true then allF P d (k + 1) else false
theorem allF_is {P : Nat → Bool} : ∀ d k, allF P d k = true ↔ ∀ i, k ≤ i → i < k + d → P i = true := by
  intro d
  induction d with
  | zero => intro k; exact ⟨fun _ i h1 h2 => by omega, fun _ => rfl⟩
  | succ d ih =>
    intro k
    unfold allF
    by_cases c : P k = true
    · rw [if_pos c, ih]
      refine ⟨fun h i h1 h2 => ?_, fun h i h1 h2 => h i (by omega) (by omega)⟩
      by_cases e : i = k
      · rw [e]; exact c
      · exact h i (by omega) (by omega)
    · rw [if_neg c]
      exact ⟨fun h => (by cases h), fun h => absurd (h k (Nat.le_refl _) (by omega)) c⟩
section
variable (T : Nat → Nat) (n : Nat)
/-- behind the blanks -/
def skp (s : Nat) : Nat := run (fun k => isBl (T k)) (n - s) s
/-- behind the token at s -/
def stop (s : Nat) : Nat := if s < n then (if isL (T s) = true then run (fun k => isL (T k)) (n - s) s else if isD (T s) = true then run (fun k => isD (T k)) (n - s) s else s + 1) else s
def ps : Nat → Nat
  | 0 => skp T n 0
  | j + 1 => skp T n (stop T n (ps j))
def sameW (k s : Nat) : Bool := decide (stop T n s - s = sLen.getD k 0) && allF (fun i => decide (nI (T (s + i)) = sch k i)) (sLen.getD k 0) 0
def wid (s : Nat) : Option Nat := seek (fun k => sameW T n k s) 16 0
def wcd : Option Nat → Nat
  | none => 137
  | some k => if k < 7 then 140 + k else 121 + k
/-- digits' value: only the first four count -/
def nmr (s : Nat) : Nat → Nat
  | 0 => 0
  | c + 1 => if c < 4 then 10 * nmr s c + T (s + c) - 48 else nmr s c
def syA (s : Nat) : Nat := if s < n then (if isL (T s) = true then wcd (wid T n s) else if isD (T s) = true then (if 4 < stop T n s - s then 2 else 1) else sgn (T s)) else 0
def kdA (s : Nat) : Nat := if s < n then (if isL (T s) = true then 1 else if isD (T s) = true then 2 else if sgn (T s) = 3 then 4 else 3) else 0
def nmA (s : Nat) : Nat := if s < n ∧ isD (T s) = true then nmr T s (stop T n s - s) else 0
end
section
variable {T : Nat → Nat} {n : Nat}
theorem skp_in {s : Nat} (h : s ≤ n) : s ≤ skp T n s ∧ skp T n s ≤ n := by
  have := run_in (Q := fun k => isBl (T k)) (n - s) s
  unfold skp
  omega
theorem stop_in {s : Nat} (h : s ≤ n) : s ≤ stop T n s ∧ stop T n s ≤ n ∧ (s < n → s < stop T n s) := by
  unfold stop
  by_cases c : s < n
  · rw [if_pos c]
    obtain ⟨d, hd⟩ : ∃ d, n - s = d + 1 := ⟨n - s - 1, by omega⟩
    by_cases c1 : isL (T s) = true
    · rw [if_pos c1, hd]
      unfold run
      have := run_in (Q := fun k => isL (T k)) d (s + 1)
      rw [if_pos c1]
      omega
    · rw [if_neg c1]
      by_cases c2 : isD (T s) = true
      · rw [if_pos c2, hd]
        unfold run
        have := run_in (Q := fun k => isD (T k)) d (s + 1)
        rw [if_pos c2]
        omega
      · rw [if_neg c2]; omega
  · rw [if_neg c]; omega
theorem stop_L {s : Nat} (h : s < n) (c : isL (T s) = true) : stop T n s = run (fun k => isL (T k)) (n - s) s := by unfold stop; rw [if_pos h, if_pos c]
theorem LD {c : Nat} (h : isL c = true) : ¬ isD c = true := fun z => by
  have a := of_decide_eq_true h
  have b := of_decide_eq_true z
  omega
theorem stop_D {s : Nat} (h : s < n) (c : isD (T s) = true) : stop T n s = run (fun k => isD (T k)) (n - s) s := by unfold stop; rw [if_pos h, if_neg (fun z => LD z c), if_pos c]
theorem ps_le : ∀ j, ps T n j ≤ n := by
  intro j
  induction j with
  | zero => exact (skp_in (Nat.zero_le _)).2
  | succ j ih => exact (skp_in (stop_in ih).2.1).2
theorem ps_next {j : Nat} (h : ps T n j < n) : ps T n j < ps T n (j + 1) := by
  have a := (stop_in (T := T) (ps_le (T := T) (n := n) j)).2.2 h
  have b := (skp_in (T := T) (stop_in (T := T) (ps_le (T := T) (n := n) j)).2.1).1
  show ps T n j < skp T n (stop T n (ps T n j))
  omega
set_option maxRecDepth 10000 in
theorem w_one : ∀ k, k < 16 → ∀ k', k' < 16 → sLen.getD k 0 = sLen.getD k' 0 → (∀ i, i < sLen.getD k 0 → sch k i = sch k' i) → k = k' := by decide
theorem sameW_is {k s : Nat} : sameW T n k s = true ↔ stop T n s - s = sLen.getD k 0 ∧ ∀ i, i < sLen.getD k 0 → nI (T (s + i)) = sch k i := by
  unfold sameW
  rw [Bool.and_eq_true, decide_eq_true_iff, allF_is]
  refine ⟨fun h => ⟨h.1, fun i hi => of_decide_eq_true (h.2 i (Nat.zero_le _) (by omega))⟩, fun h => ⟨h.1, fun i _ hi => decide_eq_true (h.2 i (by omega))⟩⟩
theorem wid_is {k s : Nat} (hk : k < 16) : sameW T n k s = true ↔ wid T n s = some k := by
  constructor
  · intro h
    unfold wid
    cases e : seek (fun k => sameW T n k s) 16 0 with
    | none => exact absurd h (seek_none _ _ e k (Nat.zero_le _) (by omega))
    | some k' =>
      obtain ⟨_, h2, h3⟩ := seek_lt _ _ _ e
      obtain ⟨a1, a2⟩ := sameW_is.mp h
      obtain ⟨b1, b2⟩ := sameW_is.mp h3
      rw [w_one k hk k' (by omega) (by omega) (fun i hi => (a2 i hi).symm.trans (b2 i (by omega)))]
  · intro h
    exact (seek_lt _ _ _ h).2.2
theorem wid_lt {k s : Nat} (h : wid T n s = some k) : k < 16 := by have := (seek_lt _ _ _ h).2.1; omega
theorem nmr_lt {s : Nat} : ∀ c, c ≤ 4 → (∀ i, i < c → isD (T (s + i)) = true) → nmr T s c < 10 ^ c := by
  intro c
  induction c with
  | zero => intro _ _; exact Nat.zero_lt_one
  | succ c ih =>
    intro h hd
    have := ih (by omega) (fun i hi => hd i (by omega))
    have b := of_decide_eq_true (hd c (by omega))
    unfold nmr
    rw [if_pos (by omega), Nat.pow_succ]
    omega
theorem nmr_4 {s : Nat} : ∀ c, nmr T s (4 + c) = nmr T s 4 := by
  intro c
  induction c with
  | zero => rfl
  | succ c ih =>
    rw [← Nat.add_assoc]
    show (if 4 + c < 4 then 10 * nmr T s (4 + c) + T (s + (4 + c)) - 48 else nmr T s (4 + c)) = nmr T s 4
    rw [if_neg (by omega), ih]
theorem nmr_le {s c : Nat} (hd : ∀ i, i < c → isD (T (s + i)) = true) : nmr T s c < 10000 := by
  by_cases h : c ≤ 4
  · have a := nmr_lt c h hd
    have b : 10 ^ c ≤ 10 ^ 4 := Nat.pow_le_pow_right (by decide) h
    omega
  · rw [show c = 4 + (c - 4) by omega, nmr_4]
    exact nmr_lt 4 (by decide) (fun i hi => hd i (by omega))
theorem nmA_le (s : Nat) : nmA T n s < 10000 := by
  unfold nmA
  by_cases c : s < n ∧ isD (T s) = true
  · rw [if_pos c]
    refine nmr_le (fun i hi => ?_)
    rw [stop_D c.1 c.2] at hi
    exact run_all (Q := fun k => isD (T k)) (n - s) s (s + i) (by omega) (by omega)
  · rw [if_neg c]; decide
end
set_option maxRecDepth 10000 in
theorem by_lo : ∀ v, v < 128 → byC v = nI v := by decide
set_option maxRecDepth 10000 in
theorem by_L : ∀ v, v < 256 → (isL v = true → ¬ byC v < 97 ∧ ¬ 122 < byC v) ∧ (¬ isL v = true → byC v < 97 ∨ 122 < byC v) := by decide
set_option maxRecDepth 10000 in
theorem by_D : ∀ v, v < 256 → (isD v = true → ¬ byC v < 48 ∧ ¬ 57 < byC v) ∧ (¬ isD v = true → byC v < 48 ∨ 57 < byC v) := by decide
set_option maxRecDepth 10000 in
theorem by_B : ∀ v, v < 256 → (byC v = 32 ↔ v = 32) ∧ (byC v = 10 ↔ v = 10) := by decide
set_option maxRecDepth 10000 in
theorem n_L : ∀ v, v < 256 → (isL v = true → ¬ nI v < 97 ∧ ¬ 122 < nI v) ∧ (¬ isL v = true → nI v < 97 ∨ 122 < nI v) := by decide
set_option maxRecDepth 10000 in
theorem n_D : ∀ v, v < 256 → (isD v = true → ¬ nI v < 48 ∧ ¬ 57 < nI v) ∧ (¬ isD v = true → nI v < 48 ∨ 57 < nI v) := by decide
set_option maxRecDepth 10000 in
theorem n_B : ∀ v, v < 256 → (nI v = 32 ↔ v = 32) ∧ (nI v = 10 ↔ v = 10) := by decide
theorem L_lo {v : Nat} (h : isL v = true) : v < 128 := by have := of_decide_eq_true h; omega
theorem D_lo {v : Nat} (h : isD v = true) : v < 128 := by have := of_decide_eq_true h; omega

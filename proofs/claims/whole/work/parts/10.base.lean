-- ===== the pure part: memory, frames, loops =====
theorem gi_si (M : Mem) (a k : Nat) (v : Int32) (b j : Nat) : gi (si M a k v) b j = if b = a ∧ j = k then v else gi M b j := rfl
theorem gi_si_s {M : Mem} {a k : Nat} {v : Int32} : gi (si M a k v) a k = v := by rw [gi_si, if_pos ⟨rfl, rfl⟩]
theorem gi_si_a {M : Mem} {a k : Nat} {v : Int32} {b j : Nat} (h : b ≠ a) : gi (si M a k v) b j = gi M b j := by rw [gi_si, if_neg (fun q => h q.1)]
theorem gi_si_k {M : Mem} {a k : Nat} {v : Int32} {b j : Nat} (h : j ≠ k) : gi (si M a k v) b j = gi M b j := by rw [gi_si, if_neg (fun q => h q.2)]
theorem gi_sl (M : Mem) (a k : Nat) (v : Int64) (b j : Nat) : gi (sl M a k v) b j = gi M b j := rfl
theorem gi_sb (M : Mem) (k : Nat) (v : Bool) (b j : Nat) : gi (sb M k v) b j = gi M b j := rfl
theorem gl_si (M : Mem) (a k : Nat) (v : Int32) (b j : Nat) : gl (si M a k v) b j = gl M b j := rfl
theorem gl_sb (M : Mem) (k : Nat) (v : Bool) (b j : Nat) : gl (sb M k v) b j = gl M b j := rfl
theorem gl_sl (M : Mem) (a k : Nat) (v : Int64) (b j : Nat) : gl (sl M a k v) b j = if b = a ∧ j = k then v else gl M b j := rfl
theorem gb_si (M : Mem) (a k : Nat) (v : Int32) (j : Nat) : gb (si M a k v) j = gb M j := rfl
theorem gb_sl (M : Mem) (a k : Nat) (v : Int64) (j : Nat) : gb (sl M a k v) j = gb M j := rfl
theorem gb_sb (M : Mem) (k : Nat) (v : Bool) (j : Nat) : gb (sb M k v) j = if j = k then v else gb M j := rfl
theorem gb_scp (M : Mem) (b p a r n j : Nat) : gb (scp M b p a r n) j = gb M j := rfl
theorem gl_scp (M : Mem) (b p a r n c j : Nat) : gl (scp M b p a r n) c j = gl M c j := rfl
theorem gi_scp (M : Mem) (b p a r n c j : Nat) : gi (scp M b p a r n) c j = if c = a ∧ r ≤ j ∧ j < r + n then gi M b (p + (j - r)) else gi M c j := rfl
/-- nothing but the cells of l has changed -/
def Fr (l : List Nat) (M M' : Mem) : Prop := (∀ a, a ∉ l → ∀ k, gi M' a k = gi M a k) ∧ (∀ a, a ∉ l → ∀ k, gl M' a k = gl M a k) ∧ ∀ j, gb M' j = gb M j
theorem Fr.rf {l : List Nat} {M : Mem} : Fr l M M := ⟨fun _ _ _ => rfl, fun _ _ _ => rfl, fun _ => rfl⟩
theorem Fr.tr {l : List Nat} {M M' M'' : Mem} (h : Fr l M M') (h' : Fr l M' M'') : Fr l M M'' := ⟨fun a ha k => (h'.1 a ha k).trans (h.1 a ha k), fun a ha k => (h'.2.1 a ha k).trans (h.2.1 a ha k), fun j => (h'.2.2 j).trans (h.2.2 j)⟩
theorem Fr.mono {l l' : List Nat} {M M' : Mem} (h : Fr l M M') (hl : ∀ a ∈ l, a ∈ l') : Fr l' M M' := ⟨fun a ha k => h.1 a (fun q => ha (hl a q)) k, fun a ha k => h.2.1 a (fun q => ha (hl a q)) k, h.2.2⟩
theorem Fr.i {l : List Nat} {M M' : Mem} (h : Fr l M M') {a : Nat} (ha : a ∉ l) (k : Nat) : gi M' a k = gi M a k := h.1 a ha k
theorem Fr.l {l : List Nat} {M M' : Mem} (h : Fr l M M') {a : Nat} (ha : a ∉ l) (k : Nat) : gl M' a k = gl M a k := h.2.1 a ha k
theorem Fr.b {l : List Nat} {M M' : Mem} (h : Fr l M M') (j : Nat) : gb M' j = gb M j := h.2.2 j
theorem Fr.wi {l : List Nat} {M M' : Mem} (h : Fr l M M') {a k : Nat} {v : Int32} (ha : a ∈ l) : Fr l M (si M' a k v) := ⟨fun b hb j => by rw [gi_si_a (fun q : b = a => hb (by rw [q]; exact ha))]; exact h.1 b hb j, fun b hb j => h.2.1 b hb j, h.2.2⟩
theorem Fr.wl {l : List Nat} {M M' : Mem} (h : Fr l M M') {a k : Nat} {v : Int64} (ha : a ∈ l) : Fr l M (sl M' a k v) := ⟨fun b hb j => h.1 b hb j, fun b hb j => by rw [gl_sl, if_neg (fun q : b = a ∧ j = k => hb (by rw [q.1]; exact ha))]; exact h.2.1 b hb j, h.2.2⟩
theorem Fr.wc {l : List Nat} {M M' : Mem} (h : Fr l M M') {b p a r n : Nat} (ha : a ∈ l) : Fr l M (scp M' b p a r n) := ⟨fun c hc j => by rw [gi_scp, if_neg (fun q : c = a ∧ r ≤ j ∧ j < r + n => hc (by rw [q.1]; exact ha))]; exact h.1 c hc j, fun c hc j => h.2.1 c hc j, h.2.2⟩
-- results
abbrev okI (M : Mem) (v : Int32) : RS := some (M, .inr (some (.int v)))
abbrev okL (M : Mem) (v : Int64) : RS := some (M, .inr (some (.long v)))
abbrev okV (M : Mem) : RS := some (M, .inr none)
theorem bI_ok {M : Mem} {v : Int32} {k : Mem → Int32 → RS} : bI (okI M v) k = k M v := rfl
theorem bL_ok {M : Mem} {v : Int64} {k : Mem → Int64 → RS} : bL (okL M v) k = k M v := rfl
theorem bV_ok {M : Mem} {k : Mem → RS} : bV (okV M) k = k M := rfl
theorem bI_x {M : Mem} {x : Nat} {k : Mem → Int32 → RS} : bI (some (M, .inl x)) k = some (M, .inl x) := rfl
theorem bV_x {M : Mem} {x : Nat} {k : Mem → RS} : bV (some (M, .inl x)) k = some (M, .inl x) := rfl
theorem chk_tt {b : Bool} {k : RS} (h : b = true) : chk b k = k := by unfold chk; rw [if_pos h]
theorem inb_nI {k n : Nat} (h : k < n) (hn : n < 2 ^ 31) : inb (nI k) n = true := inb_iff.mpr (vp_in_nI h hn)
theorem ix_nI {k : Nat} (h : k < 2 ^ 31) : ix (nI k) = k := nI_clamp h
theorem chk_in {k n : Nat} {r : RS} (h : k < n) (hn : n < 2 ^ 31) : chk (inb (nI k) n) r = r := chk_tt (inb_nI h hn)
theorem isZ_ite {c : Prop} [Decidable c] : isZ (if c then 1 else 0) = true := by split <;> decide
-- ints
theorem nI_nI {k : Nat} : nI k = Int32.ofNat k := rfl
theorem nadd (a b : Nat) : nI a + nI b = nI (a + b) := nI_add a b
theorem nlt {a b : Nat} (ha : a < 2 ^ 31) (hb : b < 2 ^ 31) : (nI a < nI b) = (a < b) := propext (nI_ltI ha hb)
theorem nle {a b : Nat} (ha : a < 2 ^ 31) (hb : b < 2 ^ 31) : (nI a ≤ nI b) = (a ≤ b) := propext (nI_leI ha hb)
theorem neqn {a b : Nat} (ha : a < 2 ^ 31) (hb : b < 2 ^ 31) : (nI a = nI b) = (a = b) := propext (nI_eq ha hb)
theorem nI_nem1 {a : Nat} (ha : a < 2 ^ 31) : nI a ≠ -1 := by
  intro h
  have h1 := congrArg Int32.toInt h
  rw [nI_toInt ha] at h1
  have : ((-1 : Int32)).toInt = -1 := by decide
  omega
theorem ltL (c : Nat) {k : Nat} (h : k < c) (hc : c < 2 ^ 31) : nI k < (OfNat.ofNat c : Int32) := nI_lt h hc
theorem nltL (c : Nat) {k : Nat} (h : c ≤ k) (hk : k < 2 ^ 31) : ¬ nI k < (OfNat.ofNat c : Int32) := nI_nlt h hk
theorem gtL (c : Nat) {k : Nat} (h : c < k) (hk : k < 2 ^ 31) : (OfNat.ofNat c : Int32) < nI k := nI_lt h hk
theorem ngtL (c : Nat) {k : Nat} (h : k ≤ c) (hc : c < 2 ^ 31) : ¬ (OfNat.ofNat c : Int32) < nI k := nI_nlt h hc
/-- loops with a way out: from k on, below c -/
def foldE {α β : Type} (step : Nat → α → α ⊕ β) : Nat → Nat → α → α ⊕ β
  | 0, _, a => .inl a
  | n + 1, k, a => match step k a with
    | .inl a' => foldE step n (k + 1) a'
    | .inr b => .inr b
theorem loopE {α β : Type} (F : Nat → Mem → Nat → α → RS) (P : Mem → Prop) (c : Nat) (step : Nat → α → α ⊕ β) (ex : Mem → α → RS) (rt : Mem → β → RS)
    (h1 : ∀ n M k a, P M → k < c → ∃ M', P M' ∧ F (n + 1) M k a = match step k a with
      | .inl a' => F n M' (k + 1) a'
      | .inr b => rt M' b)
    (h2 : ∀ n M a, P M → F (n + 1) M c a = ex M a) :
    ∀ d k, k + d = c → ∀ n, d < n → ∀ M a, P M → ∃ M', P M' ∧ F n M k a = match foldE step d k a with
      | .inl a' => ex M' a'
      | .inr b => rt M' b := by
  intro d
  induction d with
  | zero =>
    intro k hk n hn M a hP
    obtain ⟨m, rfl⟩ : ∃ m, n = m + 1 := ⟨n - 1, by omega⟩
    have : k = c := by omega
    subst this
    exact ⟨M, hP, h2 m M a hP⟩
  | succ d ih =>
    intro k hk n hn M a hP
    obtain ⟨m, rfl⟩ : ∃ m, n = m + 1 := ⟨n - 1, by omega⟩
    obtain ⟨M1, hP1, e1⟩ := h1 m M k a hP (by omega)
    rw [e1]
    unfold foldE
    cases hs : step k a with
    | inr b => exact ⟨M1, hP1, rfl⟩
    | inl a' => exact ih (k + 1) (by omega) m (by omega) M1 a' hP1
/-- loops without: from k on, below c -/
def foldN {α : Type} (step : Nat → α → α) : Nat → Nat → α → α
  | 0, _, a => a
  | n + 1, k, a => foldN step n (k + 1) (step k a)
theorem loopN {α : Type} (F : Nat → Mem → Nat → α → RS) (P : Mem → Prop) (c : Nat) (step : Nat → α → α) (ex : Mem → α → RS)
    (h1 : ∀ n M k a, P M → k < c → ∃ M', P M' ∧ F (n + 1) M k a = F n M' (k + 1) (step k a))
    (h2 : ∀ n M a, P M → F (n + 1) M c a = ex M a) :
    ∀ d k, k + d = c → ∀ n, d < n → ∀ M a, P M → ∃ M', P M' ∧ F n M k a = ex M' (foldN step d k a) := by
  intro d
  induction d with
  | zero =>
    intro k hk n hn M a hP
    obtain ⟨m, rfl⟩ : ∃ m, n = m + 1 := ⟨n - 1, by omega⟩
    have : k = c := by omega
    subst this
    exact ⟨M, hP, h2 m M a hP⟩
  | succ d ih =>
    intro k hk n hn M a hP
    obtain ⟨m, rfl⟩ : ∃ m, n = m + 1 := ⟨n - 1, by omega⟩
    obtain ⟨M1, hP1, e1⟩ := h1 m M k a hP (by omega)
    rw [e1]
    exact ih (k + 1) (by omega) m (by omega) M1 _ hP1
/-- loops whose state is the memory itself: the invariant goes by k -/
theorem loopM (F : Nat → Mem → Nat → RS) (P : Nat → Mem → Prop) (c : Nat) (ex : Mem → RS)
    (h1 : ∀ n M k, P k M → k < c → ∃ M', P (k + 1) M' ∧ F (n + 1) M k = F n M' (k + 1))
    (h2 : ∀ n M, P c M → F (n + 1) M c = ex M) :
    ∀ d k, k + d = c → ∀ n, d < n → ∀ M, P k M → ∃ M', P c M' ∧ F n M k = ex M' := by
  intro d
  induction d with
  | zero =>
    intro k hk n hn M hP
    obtain ⟨m, rfl⟩ : ∃ m, n = m + 1 := ⟨n - 1, by omega⟩
    have : k = c := by omega
    subst this
    exact ⟨M, hP, h2 m M hP⟩
  | succ d ih =>
    intro k hk n hn M hP
    obtain ⟨m, rfl⟩ : ∃ m, n = m + 1 := ⟨n - 1, by omega⟩
    obtain ⟨M1, hP1, e1⟩ := h1 m M k hP (by omega)
    rw [e1]
    exact ih (k + 1) (by omega) m (by omega) M1 hP1
theorem FU_gt {d : Nat} (h : d < 100000) : d < FU := h
theorem foldN_congr {α : Type} {f g : Nat → α → α} : ∀ (n k : Nat) (a : α), (∀ j, k ≤ j → j < k + n → ∀ a, f j a = g j a) → foldN f n k a = foldN g n k a := by
  intro n
  induction n with
  | zero => intro k a _; rfl
  | succ n ih =>
    intro k a h
    unfold foldN
    rw [h k (by omega) (by omega)]
    exact ih (k + 1) _ (fun j h1 h2 => h j (by omega) (by omega))
theorem foldE_congr {α β : Type} {f g : Nat → α → α ⊕ β} : ∀ (n k : Nat) (a : α), (∀ j, k ≤ j → j < k + n → ∀ a, f j a = g j a) → foldE f n k a = foldE g n k a := by
  intro n
  induction n with
  | zero => intro k a _; rfl
  | succ n ih =>
    intro k a h
    unfold foldE
    rw [h k (by omega) (by omega)]
    cases g k a with
    | inr b => rfl
    | inl a' => exact ih (k + 1) _ (fun j h1 h2 => h j (by omega) (by omega))

-- ===== shares are taken =====
/-- loops, with an invariant of place, memory and state -/
theorem loopI {α : Type} (F : Nat → Mem → Nat → α → RS) (P : Nat → Mem → α → Prop) (c : Nat) (step : Nat → α → α) (ex : Mem → α → RS)
    (h1 : ∀ n M k a, P k M a → k < c → ∃ M', P (k + 1) M' (step k a) ∧ F (n + 1) M k a = F n M' (k + 1) (step k a))
    (h2 : ∀ n M a, P c M a → F (n + 1) M c a = ex M a) :
    ∀ d k, k + d = c → ∀ n, d < n → ∀ M a, P k M a → ∃ M', P c M' (foldN step d k a) ∧ F n M k a = ex M' (foldN step d k a) := by
  intro d
  induction d with
  | zero =>
    intro k hk n hn M a hP
    obtain ⟨m, rfl⟩ : ∃ m, n = m + 1 := ⟨n - 1, by omega⟩
    have : k = c := by omega
    subst this
    exact ⟨M, hP, h2 m M a hP⟩
  | succ d ih =>
    intro k hk n hn M a hP
    obtain ⟨m, rfl⟩ : ∃ m, n = m + 1 := ⟨n - 1, by omega⟩
    obtain ⟨M1, hP1, e1⟩ := h1 m M k a hP (by omega)
    rw [e1]
    exact ih (k + 1) (by omega) m (by omega) M1 _ hP1
def setH (S : DS) (f : Nat → Option Nat) : DS := (dL S, dG S, dX S, dY S, dN S, dT S, dC S, dO S, f, dR S)
def dearStep (w : Nat → Int32) (left : Nat → Bool) (p : Nat) (acc : Option (Nat × Int32)) : Option (Nat × Int32) :=
  if left p = true then (match acc with
    | none => some (p, w p)
    | some (q, m) => if m < w p then some (p, w p) else some (q, m)) else acc
def dear (I : IS) (w : Nat → Int32) (left : Nat → Bool) : Option Nat := (foldN (dearStep w left) (iP I) 0 none).map Prod.fst
def ups (f : Nat → Option Nat) (h : Nat) (v : Option Nat) : Nat → Option Nat := fun x => if x = h then v else f x
/-- nobody below n has p -/
def freeP (n : Nat) (f : Nat → Option Nat) (p : Nat) : Bool := (List.range n).all (fun h => decide (f h ≠ some p))
def tkStep (I : IS) (S : DS) (ab : Option Nat) (k : Nat) (f : Nat → Option Nat) : Nat → Option Nat :=
  ups f (dO S k) (if ab = some (dO S k) then none else dear I (wrt I S (dO S k)) (freeP 8 f))
def tkS (I : IS) (S : DS) (ab : Option Nat) : Nat → Option Nat := foldN (tkStep I S ab) (iH I) 0 (fun _ => none)
-- masks
def clr (L p : Nat) : Nat := L - bitN L p * 2 ^ p
theorem m_clr : ∀ L, L < 512 → ∀ p, p < 9 → nI L &&& (((1 : Int32) <<< (nI p &&& 31)) ^^^ (-1)) = nI (clr L p) := by decide +kernel
theorem m_clrb : ∀ L, L < 512 → ∀ p, p < 9 → ∀ q, q < 9 → bitN (clr L p) q = if q = p then 0 else bitN L q := by decide +kernel
theorem m_all : ∀ n, n ≤ 9 → ((1 : Int32) <<< (nI n &&& 31)) - 1 = nI (2 ^ n - 1) ∧ 2 ^ n - 1 < 512 ∧ ∀ q, q < 9 → bitN (2 ^ n - 1) q = if q < n then 1 else 0 := by decide +kernel
theorem m_bit {L p : Nat} (hL : L < 512) (hp : p < 9) : (nI L >>> (nI p &&& 31)) &&& 1 = nI (bitN L p) := by
  have e : ((nI p &&& 31).toBitVec.smod 32).toNat = p := by
    have : ∀ n, n < 9 → ((nI n &&& 31).toBitVec.smod 32).toNat = n := by decide
    exact this p hp
  rw [pk_shrN (by omega) _ p e, pk_andN (by have : L / 2 ^ p ≤ L := Nat.div_le_self _ _; omega) 1 (by decide)]
  rfl
theorem clr_le (L p : Nat) : clr L p ≤ L := Nat.sub_le _ _
def acc1 : Option (Nat × Int32) → Int32
  | none => -1
  | some (q, _) => nI q
def acc2 : Option (Nat × Int32) → Int32
  | none => 0
  | some (_, m) => m
theorem foldN_inv {α : Type} {f : Nat → α → α} (P : Nat → α → Prop) : ∀ (n k : Nat) (a : α), P k a → (∀ j a, k ≤ j → j < k + n → P j a → P (j + 1) (f j a)) → P (k + n) (foldN f n k a) := by
  intro n
  induction n with
  | zero => intro k a h _; exact h
  | succ n ih =>
    intro k a h hs
    have := ih (k + 1) (f k a) (hs k a (Nat.le_refl _) (by omega) h) (fun j a h1 h2 => hs j a (by omega) (by omega))
    rw [show k + (n + 1) = k + 1 + n by omega]
    exact this
section
variable {M : Mem} {I : IS} {S : DS} {a h p : Nat}
theorem c_dear (hI : ICn M I) (hk : IOk I) (hS : DC0 a M S) (hD : dL S < 256) (ha : a ∈ [39, 51, 62]) (hh : h < iH I) {L : Nat} (hL : L < 512) {left : Nat → Bool} (hl : ∀ q, q < iP I → (bitN L q = 1 ↔ left q = true)) :
    ∃ M', fX3_dearest a M (nI h) (nI L) = okI M' (shE (dear I (wrt I S h) left)) ∧ Fr scrC M M' := by
  have h9 := hk.1.2.1
  obtain ⟨M', F', e'⟩ := loopI (fun n M k (acc : Option (Nat × Int32)) => fX3_dearest_b9 a n M (nI h) (nI L) (acc1 acc) (acc2 acc) (nI k)) (fun k M' acc => Fr scrC M M' ∧ ∀ q m, acc = some (q, m) → q < k) (iP I) (dearStep (wrt I S h) left) (fun M acc => okI M (acc1 acc))
    (by
      intro n M1 k acc ⟨hF, hq⟩ hkk
      have I1 := hI.fr hF apS
      have S1 := hS.fr hF (apSb ha)
      rw [fX3_dearest_b9]
      dsimp only
      rw [I1.1.2.1, if_pos (nI_lt hkk (by omega)), m_bit hL (by omega)]
      unfold dearStep
      by_cases hb : bitN L k = 1
      · rw [hb, if_neg (show ¬ nI 1 = 0 by decide), if_pos ((hl k hkk).mp hb)]
        obtain ⟨M2, e2, F2⟩ := c_worth I1 hk S1 hD ha hh hkk
        rw [e2, bI_ok]
        unfold fX3_dearest_b56 fX3_dearest_b64
        rw [nI_p1]
        match acc, hq with
        | none, hq =>
          refine ⟨M2, ⟨hF.tr F2, fun q m e => by cases e; omega⟩, ?_⟩
          rw [if_pos (show acc1 none = -1 from rfl)]
          rfl
        | some (q, m), hq =>
          have hqk := hq q m rfl
          rw [if_neg (show ¬ acc1 (some (q, m)) = -1 from nI_nem1 (by omega))]
          show ∃ M', (Fr scrC M M' ∧ ∀ q' m', (if m < wrt I S h k then some (k, wrt I S h k) else some (q, m)) = some (q', m') → q' < k + 1) ∧ (if m < wrt I S h k then _ else _) = fX3_dearest_b9 a n M' (nI h) (nI L) (acc1 (if m < wrt I S h k then some (k, wrt I S h k) else some (q, m))) (acc2 (if m < wrt I S h k then some (k, wrt I S h k) else some (q, m))) (nI (k + 1))
          by_cases hm : m < wrt I S h k
          · rw [if_pos hm, if_pos hm]
            exact ⟨M2, ⟨hF.tr F2, fun q m e => by cases e; omega⟩, rfl⟩
          · rw [if_neg hm, if_neg hm]
            exact ⟨M2, ⟨hF.tr F2, fun q m e => by cases e; omega⟩, rfl⟩
      · have hb0 : bitN L k = 0 := (bitN_2 L k).resolve_right hb
        rw [hb0, if_pos (show nI 0 = 0 from rfl), if_neg (fun q => hb ((hl k hkk).mpr q))]
        refine ⟨M1, ⟨hF, fun q m e => by have := hq q m e; omega⟩, ?_⟩
        unfold fX3_dearest_b64
        rw [nI_p1])
    (by
      intro n M1 acc ⟨hF, _⟩
      have I1 := hI.fr hF apS
      rw [fX3_dearest_b9]
      dsimp only
      rw [I1.1.2.1, if_neg (nI_nlt (Nat.le_refl _) (by omega))])
    (iP I) 0 (by omega) FU (FU_gt (by omega)) M none ⟨Fr.rf, fun q m e => by cases e⟩
  refine ⟨M', ?_, F'.1⟩
  unfold fX3_dearest
  refine e'.trans ?_
  unfold dear
  congr 1
  cases foldN (dearStep (wrt I S h) left) (iP I) 0 none with
  | none => rfl
  | some q => rfl
end

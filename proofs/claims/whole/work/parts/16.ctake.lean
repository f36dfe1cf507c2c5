-- ===== the class takes shares =====
theorem foldN_fst {α β : Type} {f : Nat → α × β → α × β} {g : Nat → α → α} (h : ∀ k x, (f k x).1 = g k x.1) : ∀ (n k : Nat) (x : α × β), (foldN f n k x).1 = foldN g n k x.1 := by
  intro n
  induction n with
  | zero => intro k x; rfl
  | succ n ih =>
    intro k x
    unfold foldN
    rw [ih, h]
theorem foldN_snoc {α : Type} {f : Nat → α → α} : ∀ (n k : Nat) (x : α), foldN f (n + 1) k x = f (k + n) (foldN f n k x) := by
  intro n
  induction n with
  | zero => intro k x; rfl
  | succ n ih =>
    intro k x
    show foldN f (n + 1) (k + 1) (f k x) = _
    rw [ih]
    show _ = f (k + (n + 1)) (foldN f n (k + 1) (f k x))
    rw [show k + 1 + n = k + (n + 1) by omega]
def scrA (a : Nat) : List Nat := [13, 16, 23, 34, 37, a + 2]
theorem scrA_is {a : Nat} (ha : a ∈ [39, 51, 62]) : apart (scrA a) isCells ∧ a ∉ scrA a ∧ a + 1 ∉ scrA a ∧ a + 3 ∉ scrA a := by
  simp only [List.mem_cons, List.not_mem_nil, or_false] at ha
  rcases ha with rfl | rfl | rfl <;> unfold apart <;> decide
theorem scrA_c {a : Nat} {M M' : Mem} (h : Fr scrC M M') : Fr (scrA a) M M' := h.mono (fun x hx => by
  unfold scrC at hx
  unfold scrA
  simp only [List.mem_cons, List.not_mem_nil, or_false] at hx ⊢
  omega)
def abE : Option Nat → Int32 := shE
def tk2 (I : IS) (S : DS) (ab : Option Nat) (k : Nat) (x : (Nat → Option Nat) × Nat) : (Nat → Option Nat) × Nat :=
  (tkStep I S ab k x.1, match tkStep I S ab k x.1 (dO S k) with
    | none => x.2
    | some p => clr x.2 p)
section
variable {M : Mem} {I : IS} {S : DS} {a : Nat}
theorem c_take (hI : ICn M I) (hk : IOk I) (hS : DC a M S) (hO : DOk I S) (ha : a ∈ [39, 51, 62]) {ab : Option Nat} (hab : ∀ h, ab = some h → h < 8) :
    ∃ M', fX3_takeShares a M (abE ab) = okV M' ∧ DC a M' (setH S (tkS I S ab)) ∧ Fr (scrA a) M M' := by
  have h8 := hk.1.1
  have h9 := hk.1.2.1
  obtain ⟨sa1, sa2, sa3, sa4⟩ := scrA_is ha
  obtain ⟨ma1, ma2, ma3⟩ := m_all (iP I) h9
  unfold fX3_takeShares fX3_allPlots
  rw [hI.1.2.1, ma1, bI_ok]
  obtain ⟨M', ⟨hF, hL, hb, hf, hs1, hs2⟩, e'⟩ := loopI (fun n M k (x : (Nat → Option Nat) × Nat) => fX3_takeShares_b8 a n M (abE ab) (nI x.2) (nI k))
    (fun k M' x => Fr (scrA a) M M' ∧ x.2 < 512 ∧ (∀ q, q < iP I → (bitN x.2 q = 1 ↔ freeP 8 x.1 q = true)) ∧ x.1 = foldN (tkStep I S ab) k 0 (fun _ => none) ∧ (∀ j, j < k → gi M' (a + 2) (dO S j) = shE (x.1 (dO S j))) ∧ ∀ h, h < 8 → (∀ j, j < k → dO S j ≠ h) → gi M' (a + 2) h = gi M (a + 2) h)
    (iH I) (tk2 I S ab) (fun M _ => okV M)
    (by
      intro n M1 k x ⟨hF, hL, hb, hf, hs1, hs2⟩ hkk
      obtain ⟨f, L⟩ := x
      dsimp only at hL hb hf hs1 ⊢
      have I1 := hI.fr hF sa1
      have S1 := hS.1.fr hF sa2
      have hok := hO.2.1.1 k (by omega)
      have hoi := hO.2.1.2.2.1 k hkk
      have P1 : fX8_houseAt a M1 (nI k) = okI M1 (nI (dO S k)) := by
        refine c_houseAt (S := setH S (fun h => if h < 8 then (if gi M1 (a + 2) h = -1 then none else some (ix (gi M1 (a + 2) h))) else none)) (I := I) ?_ ?_ (by omega)
        · sorry
        · sorry
      rw [fX3_takeShares_b8]
      dsimp only
      rw [I1.1.1, if_pos (nI_lt hkk (by omega)), P1, bI_ok, if_neg (nI_nem1 (by omega))]
      -- the new share
      have fin : ∀ M2, Fr (scrA a) M M2 → (∀ j, j < k → gi M2 (a + 2) (dO S j) = shE (f (dO S j))) → (∀ h, h < 8 → (∀ j, j < k → dO S j ≠ h) → gi M2 (a + 2) h = gi M (a + 2) h) →
          ∃ M', (Fr (scrA a) M M' ∧ (tk2 I S ab k (f, L)).2 < 512 ∧ (∀ q, q < iP I → (bitN (tk2 I S ab k (f, L)).2 q = 1 ↔ freeP 8 (tk2 I S ab k (f, L)).1 q = true)) ∧ (tk2 I S ab k (f, L)).1 = foldN (tkStep I S ab) (k + 1) 0 (fun _ => none) ∧ (∀ j, j < k + 1 → gi M' (a + 2) (dO S j) = shE ((tk2 I S ab k (f, L)).1 (dO S j))) ∧ ∀ h, h < 8 → (∀ j, j < k + 1 → dO S j ≠ h) → gi M' (a + 2) h = gi M (a + 2) h) ∧
            fX3_takeShares_b61 a (fX3_takeShares_b8 a n) M2 (abE ab) (nI L) (nI k) (nI (dO S k)) (shE (tkStep I S ab k f (dO S k))) (nI (dO S k)) = fX3_takeShares_b8 a n M' (abE ab) (nI (tk2 I S ab k (f, L)).2) (nI (k + 1)) := by
        sorry
      by_cases hz : ab = some (dO S k)
      · rw [if_pos (by rw [hz]; rfl)]
        have e0 : shE (tkStep I S ab k f (dO S k)) = -1 := by
          unfold tkStep ups
          rw [if_pos rfl, if_pos hz]
          rfl
        have := fin M1 hF hs1 hs2
        rw [e0] at this
        exact this
      · rw [if_neg (fun e => hz ?_)]
        · obtain ⟨M2, e2, F2⟩ := c_dear (L := L) (left := freeP 8 f) I1 hk S1 hO.1.1 ha hoi hL hb
          rw [e2, bI_ok]
          have e0 : shE (tkStep I S ab k f (dO S k)) = shE (dear I (wrt I S (dO S k)) (freeP 8 f)) := by
            unfold tkStep ups
            rw [if_pos rfl, if_neg hz]
          have hn : a + 2 ∉ scrC := by
            simp only [List.mem_cons, List.not_mem_nil, or_false] at ha
            rcases ha with rfl | rfl | rfl <;> decide
          have := fin M2 (hF.tr (scrA_c F2)) (fun j hj => by rw [F2.i hn]; exact hs1 j hj) (fun h hh hj => by rw [F2.i hn]; exact hs2 h hh hj)
          rw [e0] at this
          exact this
        · cases hab9 : ab with
          | none => rw [hab9] at e; exact absurd e (nI_nem1 (by omega))
          | some h =>
            rw [hab9] at e
            have e : nI (dO S k) = nI h := e
            have := hab h hab9
            rw [(nI_eq (by omega) (by omega)).mp e])
    (by
      intro n M1 x ⟨hF, _⟩
      have I1 := hI.fr hF sa1
      rw [fX3_takeShares_b8]
      dsimp only
      rw [I1.1.1, if_neg (nI_nlt (Nat.le_refl _) (by omega))])
    (iH I) 0 (by omega) FU (FU_gt (by omega)) M (fun _ => none, 2 ^ iP I - 1) ⟨Fr.rf, ma2, fun q hq => by
      dsimp only
      rw [ma3 q (by omega), if_pos hq]
      exact ⟨fun _ => freeP_iff.mpr (fun h _ e => by cases e), fun _ => rfl⟩, rfl, fun j hj => by omega, fun h _ _ => rfl⟩
  refine ⟨M', e', ⟨?_, ?_, ?_, ?_⟩, hF⟩
  · exact hS.1.fr hF sa2
  · intro k hk8; rw [hF.i sa3]; exact hS.2.1 k hk8
  · intro h hh
    sorry
  · intro h hh; rw [hF.i sa4]; exact hS.2.2.2 h hh
end

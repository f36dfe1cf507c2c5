-- ===== the class takes shares =====
theorem foldN_fst {α β : Type} {f : Nat → α × β → α × β} {g : Nat → α → α} (h : ∀ k x, (f k x).1 = g k x.1) : ∀ (n k : Nat) (x : α × β), (foldN f n k x).1 = foldN g n k x.1 := by
  intro n
  induction n with
  | zero => intro k x; rfl
  | succ n ih =>
    intro k x
    unfold foldN
    rw [ih, h]
theorem foldN_snoc {α : Type} {f : Nat → α → α} : ∀ (n k : Nat) (x : α), foldN f (n + 1) k x = f (k + n) (foldN f n k x) := by
  intro n
  induction n with
  | zero => intro k x; rfl
  | succ n ih =>
    intro k x
    show foldN f (n + 1) (k + 1) (f k x) = _
    rw [ih]
    show _ = f (k + (n + 1)) (foldN f n (k + 1) (f k x))
    rw [show k + 1 + n = k + (n + 1) by omega]
def scrA (a : Nat) : List Nat := [13, 16, 23, 34, 37, a + 2]
theorem scrA_is {a : Nat} (ha : a ∈ [39, 51, 62]) : apart (scrA a) isCells ∧ a ∉ scrA a ∧ a + 1 ∉ scrA a ∧ a + 3 ∉ scrA a := by
  simp only [List.mem_cons, List.not_mem_nil, or_false] at ha
  rcases ha with rfl | rfl | rfl <;> unfold apart <;> decide
theorem scrA_c {a : Nat} {M M' : Mem} (h : Fr scrC M M') : Fr (scrA a) M M' := h.mono (fun x hx => by
  unfold scrC at hx
  unfold scrA
  simp only [List.mem_cons, List.not_mem_nil, or_false] at hx ⊢
  omega)
def abE : Option Nat → Int32 := shE
def tk2 (I : IS) (S : DS) (ab : Option Nat) (k : Nat) (x : (Nat → Option Nat) × Nat) : (Nat → Option Nat) × Nat :=
  (tkStep I S ab k x.1, match tkStep I S ab k x.1 (dO S k) with
    | none => x.2
    | some p => clr x.2 p)
section
variable {M : Mem} {I : IS} {S : DS} {a : Nat}
theorem c_take (hI : ICn M I) (hk : IOk I) (hS : DC a M S) (hO : DOk I S) (ha : a ∈ [39, 51, 62]) {ab : Option Nat} (hab : ∀ h, ab = some h → h < 8) :
    ∃ M', fX3_takeShares a M (abE ab) = okV M' ∧ DC a M' (setH S (tkS I S ab)) ∧ Fr (scrA a) M M' := by
  have h8 := hk.1.1
  have h9 := hk.1.2.1
  obtain ⟨sa1, sa2, sa3, sa4⟩ := scrA_is ha
  obtain ⟨ma1, ma2, ma3⟩ := m_all (iP I) h9
  unfold fX3_takeShares fX3_allPlots
  rw [hI.1.2.1, ma1, bI_ok]
  obtain ⟨M', ⟨hF, hL, hb, hf, hs1, hs2⟩, e'⟩ := loopI (fun n M k (x : (Nat → Option Nat) × Nat) => fX3_takeShares_b8 a n M (abE ab) (nI x.2) (nI k))
    (fun k M' x => Fr (scrA a) M M' ∧ x.2 < 512 ∧ (∀ q, q < iP I → (bitN x.2 q = 1 ↔ freeP 8 x.1 q = true)) ∧ x.1 = foldN (tkStep I S ab) k 0 (fun _ => none) ∧ (∀ j, j < k → gi M' (a + 2) (dO S j) = shE (x.1 (dO S j))) ∧ ∀ h, h < 8 → (∀ j, j < k → dO S j ≠ h) → gi M' (a + 2) h = gi M (a + 2) h)
    (iH I) (tk2 I S ab) (fun M _ => okV M)
    (by
      intro n M1 k x ⟨hF, hL, hb, hf, hs1, hs2⟩ hkk
      obtain ⟨f, L⟩ := x
      dsimp only at hL hb hf hs1 ⊢
      have I1 := hI.fr hF sa1
      have S1 := hS.1.fr hF sa2
      have hok := hO.2.1.1 k (by omega)
      have hoi := hO.2.1.2.2.1 k hkk
      have P1 : fX8_houseAt a M1 (nI k) = okI M1 (nI (dO S k)) := c_houseAt (fun k hk => by rw [hF.i sa3]; exact hS.2.1 (hO.z (by omega)) k hk) hO (by omega)
      rw [fX3_takeShares_b8]
      dsimp only
      rw [I1.1.1, if_pos (nI_lt hkk (by omega)), P1, bI_ok, if_neg (nI_nem1 (by omega))]
      -- the new share
      have fin : ∀ M2, Fr (scrA a) M M2 → (∀ j, j < k → gi M2 (a + 2) (dO S j) = shE (f (dO S j))) → (∀ h, h < 8 → (∀ j, j < k → dO S j ≠ h) → gi M2 (a + 2) h = gi M (a + 2) h) →
          ∃ M', (Fr (scrA a) M M' ∧ (tk2 I S ab k (f, L)).2 < 512 ∧ (∀ q, q < iP I → (bitN (tk2 I S ab k (f, L)).2 q = 1 ↔ freeP 8 (tk2 I S ab k (f, L)).1 q = true)) ∧ (tk2 I S ab k (f, L)).1 = foldN (tkStep I S ab) (k + 1) 0 (fun _ => none) ∧ (∀ j, j < k + 1 → gi M' (a + 2) (dO S j) = shE ((tk2 I S ab k (f, L)).1 (dO S j))) ∧ ∀ h, h < 8 → (∀ j, j < k + 1 → dO S j ≠ h) → gi M' (a + 2) h = gi M (a + 2) h) ∧
            fX3_takeShares_b61 a (fX3_takeShares_b8 a n) M2 (abE ab) (nI L) (nI k) (nI (dO S k)) (shE (tkStep I S ab k f (dO S k))) (nI (dO S k)) = fX3_takeShares_b8 a n M' (abE ab) (nI (tk2 I S ab k (f, L)).2) (nI (k + 1)) := by
        intro M2 hF2 h1 h2
        have hfn : f (dO S k) = none := by
          rw [hf]
          exact (tk_facts hk hO ab k (by omega)).2 _ (fun j hj e => by have := hO.2.1.2.1 j k (by omega) (by omega) e; omega)
        have hsn : tkStep I S ab k f = foldN (tkStep I S ab) (k + 1) 0 (fun _ => none) := by
          rw [foldN_snoc, Nat.zero_add, ← hf]
        have hoth : ∀ h, h ≠ dO S k → tkStep I S ab k f h = f h := fun h hh => by
          unfold tkStep ups
          rw [if_neg hh]
        have hsh : ∀ v, shE (tkStep I S ab k f (dO S k)) = v → (∀ j, j < k + 1 → gi (si M2 (a + 2) (dO S k) v) (a + 2) (dO S j) = shE (tkStep I S ab k f (dO S j))) ∧ ∀ h, h < 8 → (∀ j, j < k + 1 → dO S j ≠ h) → gi (si M2 (a + 2) (dO S k) v) (a + 2) h = gi M (a + 2) h := by
          intro v hv
          refine ⟨fun j hj => ?_, fun h hh hj => ?_⟩
          · by_cases hjk : j = k
            · subst hjk; rw [gi_si_s, hv]
            · have hne : dO S j ≠ dO S k := fun e => hjk (hO.2.1.2.1 j k (by omega) (by omega) e)
              rw [gi_si_k hne, hoth _ hne]
              exact h1 j (by omega)
          · rw [gi_si_k (fun e => hj k (by omega) e.symm)]
            exact h2 h hh (fun j hj2 => hj j (by omega))
        unfold fX3_takeShares_b61
        rw [chk_in hok (by decide), ix_nI (by omega), wr_eq, chk_in hok (by decide), gi_si_s]
        unfold fX3_takeShares_b87 tk2
        dsimp only
        have hfr : ∀ q, (tkStep I S ab k f (dO S k) ≠ some q) → (freeP 8 (tkStep I S ab k f) q = true ↔ freeP 8 f q = true) := by
          intro q hq
          rw [freeP_iff, freeP_iff]
          constructor
          · intro z h hh
            by_cases e : h = dO S k
            · rw [e, hfn]; intro c; cases c
            · rw [← hoth h e]; exact z h hh
          · intro z h hh
            by_cases e : h = dO S k
            · rw [e]; exact hq
            · rw [hoth h e]; exact z h hh
        cases ht : tkStep I S ab k f (dO S k) with
        | none =>
          obtain ⟨g1, g2⟩ := hsh (-1) (by rw [ht]; rfl)
          rw [if_pos (show shE none = -1 from rfl), nI_p1]
          refine ⟨si M2 (a + 2) (dO S k) (-1), ⟨hF2.wi (by unfold scrA; simp), hL, fun q hq => ?_, hsn, g1, g2⟩, rfl⟩
          rw [hfr q (by rw [ht]; intro c; cases c)]
          exact hb q hq
        | some p =>
          obtain ⟨g1, g2⟩ := hsh (nI p) (by rw [ht]; rfl)
          have hp : p < iP I := by
            have := (tk_facts hk hO ab (k + 1) (by omega)).1 (dO S k) p
            rw [← hsn] at this
            exact this ht
          rw [if_neg (show ¬ shE (some p) = -1 from nI_nem1 (by omega)), chk_in hok (by decide), nI_p1]
          rw [show shE (some p) = nI p from rfl, m_clr L hL p (by omega)]
          refine ⟨si M2 (a + 2) (dO S k) (nI p), ⟨hF2.wi (by unfold scrA; simp), Nat.lt_of_le_of_lt (clr_le L p) hL, fun q hq => ?_, hsn, g1, g2⟩, rfl⟩
          rw [m_clrb L hL p (by omega) q (by omega)]
          by_cases hqp : q = p
          · subst hqp
            rw [if_pos rfl]
            constructor
            · intro c; cases c
            · intro c; exact absurd ht (freeP_iff.mp c _ hok)
          · rw [if_neg hqp, hfr q (by rw [ht]; intro c; cases c; exact hqp rfl)]
            exact hb q hq
      by_cases hz : ab = some (dO S k)
      · rw [if_pos (by rw [hz]; rfl)]
        have e0 : shE (tkStep I S ab k f (dO S k)) = -1 := by
          unfold tkStep ups
          rw [if_pos rfl, if_pos hz]
          rfl
        have := fin M1 hF hs1 hs2
        rw [e0] at this
        exact this
      · rw [if_neg (fun e => hz ?_)]
        · obtain ⟨M2, e2, F2⟩ := c_dear (L := L) (left := freeP 8 f) I1 hk S1 hO.1.1 ha hoi hL hb
          rw [e2, bI_ok]
          have e0 : shE (tkStep I S ab k f (dO S k)) = shE (dear I (wrt I S (dO S k)) (freeP 8 f)) := by
            unfold tkStep ups
            rw [if_pos rfl, if_neg hz]
          have hn : a + 2 ∉ scrC := by
            simp only [List.mem_cons, List.not_mem_nil, or_false] at ha
            rcases ha with rfl | rfl | rfl <;> decide
          have := fin M2 (hF.tr (scrA_c F2)) (fun j hj => by rw [F2.i hn]; exact hs1 j hj) (fun h hh hj => by rw [F2.i hn]; exact hs2 h hh hj)
          rw [e0] at this
          exact this
        · cases hab9 : ab with
          | none => rw [hab9] at e; exact absurd e (nI_nem1 (by omega))
          | some h =>
            rw [hab9] at e
            have e : nI (dO S k) = nI h := e
            have := hab h hab9
            rw [(nI_eq (by omega) (by omega)).mp e])
    (by
      intro n M1 x ⟨hF, _⟩
      have I1 := hI.fr hF sa1
      rw [fX3_takeShares_b8]
      dsimp only
      rw [I1.1.1, if_neg (nI_nlt (Nat.le_refl _) (by omega))])
    (iH I) 0 (by omega) FU (FU_gt (by omega)) M (fun _ => none, 2 ^ iP I - 1) ⟨Fr.rf, ma2, fun q hq => by
      dsimp only
      rw [ma3 q (by omega), if_pos hq]
      exact ⟨fun _ => freeP_iff.mpr (fun h _ e => by cases e), fun _ => rfl⟩, rfl, fun j hj => by omega, fun h _ _ => rfl⟩
  refine ⟨M', e', ⟨?_, ?_, ?_, ?_⟩, hF⟩
  · exact hS.1.fr hF sa2
  · intro z k hk8; rw [hF.i sa3]; exact hS.2.1 z k hk8
  · intro z h hh
    show gi M' (a + 2) h = shE (tkS I S ab h)
    have ht : tkS I S ab = foldN (tkStep I S ab) (iH I) 0 (fun _ => none) := rfl
    by_cases hhi : h < iH I
    · obtain ⟨j, hj, rfl⟩ := inj_surj (iH I) (dO S) hO.2.1.2.2.1 (fun i j hi hj e => hO.2.1.2.1 i j (by omega) (by omega) e) h hhi
      rw [hs1 j hj, hf, ht]
    · have hne : ∀ j, j < iH I → dO S j ≠ h := fun j hj e => by have := hO.2.1.2.2.1 j hj; omega
      rw [hs2 h hh hne, hS.2.2.1 z h hh, hO.2.2.2.1 h (by omega) hh, ht, (tk_facts hk hO ab (iH I) (Nat.le_refl _)).2 h hne]
  · intro h hh; rw [hF.i sa4]; exact hS.2.2.2 h hh
end

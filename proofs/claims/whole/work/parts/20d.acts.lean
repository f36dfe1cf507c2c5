-- ===== acts: the state anew, shares taken =====
def setLC (S : DS) (l : Nat) (c : Int32) : DS := (l, dG S, dX S, dY S, dN S, dT S, c, dO S, dH S, dR S)
def setXY (S : DS) (x y : Int32) : DS := (dL S, dG S, x, y, dN S, dT S, dC S, dO S, dH S, dR S)
theorem tk_ok {I : IS} {S : DS} (hk : IOk I) (hO : DOk I S) (ab : Option Nat) : DOk I (setH S (tkS I S ab)) := by
  have tf := tk_facts hk hO ab (iH I) (Nat.le_refl _)
  obtain ⟨a, b, c1, c2, c3⟩ := hO
  exact ⟨a, b, fun h p _ e => tf.1 h p e, fun h h1 h2 => tf.2 h (fun j hj e => by have := b.2.2.1 j hj; omega), c3⟩
theorem LC_ok {I : IS} {S : DS} {l : Nat} {c : Int32} (hO : DOk I S) (hl : l < 256) : DOk I (setLC S l c) := ⟨⟨hl, hO.1.2⟩, hO.2⟩
theorem XY_ok {I : IS} {S : DS} {x y : Int32} (hO : DOk I S) : DOk I (setXY S x y) := ⟨hO.1, hO.2⟩
theorem WOk.l {X : WX} {L : LV} (h : WOk X) (hL : LOk (xI X) L) : WOk (setL X L) := ⟨h.1, h.2.1, hL, h.2.2.2⟩
section
variable {M M' : Mem} {I : IS} {L : LV} {S : DS}
theorem CCc.s (h : CCc 39 43 45 49 M L) (hS : DC 39 M' S) (e : ∀ x ∈ [43, 44, 45, 46, 47, 48, 49], ∀ k, gi M' x k = gi M x k) : CCc 39 43 45 49 M' (setS L S) := by
  obtain ⟨_, g3, g4, g5⟩ := h
  exact ⟨hS, g3.eq (e 43 (by decide)) (e 44 (by decide)), g4.eq (e 45 (by decide)) (e 46 (by decide)) (e 47 (by decide)) (e 48 (by decide)), fun k hk => (e 49 (by decide) k).trans (g5 k hk)⟩
theorem CRr.s (h : CRr M L) (hS : DRf M' S) (e : ∀ x ∈ [100, 105, 112, 113, 114], ∀ k, gi M' x k = gi M x k) (e8 : gi M' 87 38 = gi M 87 38) (e9 : gi M' 87 39 = gi M 87 39) : CRr M' (setS L S) := by
  obtain ⟨_, ⟨h3, h4⟩, ⟨h5, h6⟩, h7⟩ := h
  exact ⟨hS, ⟨e8.trans h3, h4.eq (e 105 (by decide))⟩, ⟨e9.trans h5, h6.eq (e 112 (by decide)) (e 113 (by decide)) (e 114 (by decide))⟩, fun k hk => (e 100 (by decide) k).trans (h7 k hk)⟩
/-- shares are taken anew in the class -/
theorem c_retake (h : CCc 39 43 45 49 M L) (hI : ICn M' I) (hk : IOk I) (hS : DC 39 M' S) (hO : DOk I S) (e : ∀ x ∈ [43, 44, 45, 46, 47, 48, 49], ∀ k, gi M' x k = gi M x k) :
    ∃ M2, fX3_takeShares 39 M' (-1) = okV M2 ∧ CCc 39 43 45 49 M2 (setS L (setH S (tkS I S none))) ∧ Fr (scrA 39) M' M2 := by
  obtain ⟨M2, e2, D2, F2⟩ := c_take (ab := none) hI hk hS hO (by decide) (fun h c => by cases c)
  exact ⟨M2, e2, h.s D2 (fun x hx k => (F2.i (by revert x; decide) k).trans (e x hx k)), F2⟩
/-- shares are taken anew in the reference -/
theorem r_retake (h : CRr M L) (hI : IR M' I) (hk : IOk I) (h0 : DR0 M' S) (ho : dO S 8 = 8 → ∀ k, k < 8 → gi M' 104 k = nI (dO S k)) (hr : ∀ h, h < 8 → gi M' 102 h = nI (dR S h)) (hO : DOk I S) (hn : gi M' 87 42 = -1) (e : ∀ x ∈ [100, 105, 112, 113, 114], ∀ k, gi M' x k = gi M x k) (e8 : gi M' 87 38 = gi M 87 38) (e9 : gi M' 87 39 = gi M 87 39) :
    ∃ M2, fX12_takeShares M' = okV M2 ∧ CRr M2 (setS L (setH S (tkS I S none))) ∧ Fr scrT M' M2 := by
  obtain ⟨M2, e2, D2, F2⟩ := r_take (ab := none) hI hk h0 ho hr hO (fun h c => by cases c) hn
  exact ⟨M2, e2, h.s D2 (fun x hx k => (F2.i (by revert x; decide) k).trans (e x hx k)) ((F2.i (by decide) _).trans e8) ((F2.i (by decide) _).trans e9), F2⟩
end
-- draws
def drJ (w : Int32) : Nat := (w >>> ((16 : Int32) &&& 31)).toBitVec.toNat % 2 ^ 15 % 2
theorem dr_is (w : Int32) : ((w >>> ((16 : Int32) &&& 31)) &&& 32767) - ((w >>> ((16 : Int32) &&& 31)) &&& 32767) / 2 * 2 = nI (drJ w) := by
  rw [pk_and (w >>> ((16 : Int32) &&& 31)) (m := 32767) 15 (by decide)]
  exact pk_rem (d := 2) (by omega) (by decide) (by decide)
theorem dr_sh {j h : Nat} (hj : j < 2) (hh : h < 8) : nI j <<< (nI h &&& 31) = nI (j * 2 ^ h) := by
  have : ∀ j, j < 2 → ∀ h, h < 8 → nI j <<< (nI h &&& 31) = nI (j * 2 ^ h) := by decide
  exact this j hj h hh
def drStep (h : Nat) (p : Int32 × Nat) : Int32 × Nat := (p.1 * 1103515245 + 12345, p.2 ||| drJ (p.1 * 1103515245 + 12345) * 2 ^ h)
def drS (n : Nat) (w : Int32) : Int32 × Nat := foldN drStep n 0 (w, 0)
theorem dr_lt {h l : Nat} {w : Int32} (hh : h < 8) (hl : l < 256) : l ||| drJ w * 2 ^ h < 256 := by
  refine Nat.or_lt_two_pow (n := 8) hl ?_
  have h2 : drJ w ≤ 1 := by unfold drJ; omega
  have h3 : 2 ^ h ≤ 2 ^ 7 := Nat.pow_le_pow_right (by decide) (by omega)
  calc drJ w * 2 ^ h ≤ 1 * 2 ^ 7 := Nat.mul_le_mul h2 h3
    _ < 2 ^ 8 := by decide
theorem drS_lt {n : Nat} (hn : n ≤ 8) (w : Int32) : (drS n w).2 < 256 := by
  have := foldN_inv (f := drStep) (fun _ (p : Int32 × Nat) => p.2 < 256) n 0 (w, 0) (by decide : (0 : Nat) < 256) (fun j p _ hj h => dr_lt (by omega) h)
  exact this
section
variable {M : Mem} {I : IS} {a : Nat}
theorem c_draw (hI : ICn M I) (hk : IOk I) (w : Int32) : fX3_drawLots a M w = okI (si M a 0 (nI (drS (iH I) w).2)) (drS (iH I) w).1 := by
  have h8 := hk.1.1
  unfold fX3_drawLots
  obtain ⟨M', ⟨hM, hl⟩, e'⟩ := loopI (fun n M k (p : Int32 × Nat) => fX3_drawLots_b8 a n M p.1 (nI p.2) (nI k)) (fun k M' p => M' = M ∧ p.2 < 256) (iH I) drStep (fun M p => okI (si M a 0 (nI p.2)) p.1)
    (by
      intro n M1 k p ⟨hM, hl⟩ hkk
      subst hM
      rw [fX3_drawLots_b8]
      dsimp only
      rw [hI.1.1, if_pos (nI_lt hkk (by omega)), dr_is, dr_sh (by unfold drJ; omega) (by omega), nI_or, nI_p1]
      exact ⟨M1, ⟨rfl, dr_lt (by omega) hl⟩, rfl⟩)
    (by
      intro n M1 p ⟨hM, hl⟩
      subst hM
      rw [fX3_drawLots_b8]
      dsimp only
      rw [hI.1.1, if_neg (nI_nlt (Nat.le_refl _) (by omega)), wr_eq])
    (iH I) 0 (by omega) FU (FU_gt (by omega)) M (w, 0) ⟨rfl, (by decide : (0 : Nat) < 256)⟩
  subst hM
  exact e'
theorem r_draw (hI : IR M I) (hk : IOk I) {w : Int32} (hw : gi M 87 43 = w) :
    ∃ M1, fX12_drawLots M = bV (fX12_takeShares M1) (fun M2 => some (M2, .inr none)) ∧ Fr [87] M M1 ∧ gi M1 87 35 = nI (drS (iH I) w).2 ∧ gi M1 87 43 = (drS (iH I) w).1 ∧ ∀ k, k ≠ 35 → k ≠ 43 → gi M1 87 k = gi M 87 k := by
  have h8 := hk.1.1
  unfold fX12_drawLots
  rw [wr_eq]
  obtain ⟨M', ⟨hF, h1, h2, h3, hl⟩, e'⟩ := loopI (fun n M k (_ : Int32 × Nat) => fX12_drawLots_b7 n M (nI k)) (fun k M' p => Fr [87] M M' ∧ gi M' 87 35 = nI p.2 ∧ gi M' 87 43 = p.1 ∧ (∀ k, k ≠ 35 → k ≠ 43 → gi M' 87 k = gi M 87 k) ∧ p.2 < 256) (iH I) drStep (fun M _ => bV (fX12_takeShares M) (fun M2 => some (M2, .inr none)))
    (by
      intro n M1 k p ⟨hF, h1, h2, h3, hl⟩ hkk
      have I1 := hI.fr hF (by unfold apart; decide)
      rw [fX12_drawLots_b7]
      dsimp only
      rw [I1.1.1, if_pos (nI_lt hkk (by omega))]
      unfold fX12_drawOf
      rw [wr_eq, chk_tt (by decide), bI_ok, wr_eq, gi_si_s, h1, h2, dr_is, dr_sh (by unfold drJ; omega) (by omega), nI_or, nI_p1]
      refine ⟨_, ⟨(hF.wi (by decide)).wi (by decide), gi_si_s, ?_, fun k a b => ?_, dr_lt (by omega) hl⟩, rfl⟩
      · rw [gi_si_k (by decide), gi_si_s]; rfl
      · rw [gi_si_k a, gi_si_k b]; exact h3 k a b)
    (by
      intro n M1 p ⟨hF, _⟩
      have I1 := hI.fr hF (by unfold apart; decide)
      rw [fX12_drawLots_b7]
      dsimp only
      rw [I1.1.1, if_neg (nI_nlt (Nat.le_refl _) (by omega))])
    (iH I) 0 (by omega) FU (FU_gt (by omega)) (si M 87 35 0) (w, 0) ⟨Fr.rf.wi (by decide), gi_si_s, by rw [gi_si_k (by decide)]; exact hw, fun k a _ => gi_si_k a, (by decide : (0 : Nat) < 256)⟩
  exact ⟨M', e', hF, h1, h2, h3⟩
end

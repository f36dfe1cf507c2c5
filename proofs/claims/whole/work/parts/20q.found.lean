/-- what is reckoned: state, seed, gone, most, how often nobody -/
abbrev FA : Type := (DS × Int32) × Nat × Nat × Nat
def fdT (e : Nat) (I : IS) (_ : Nat) (a : FA) : FA :=
  ((fdS e I a.1.1 a.1.2, (drS (iH I) a.1.2).1), a.2.1 + pcn 10 (dG (fdS e I a.1.1 a.1.2)), mxS (fdS e I a.1.1 a.1.2) 8 a.2.2.1, a.2.2.2 + if dG (fdS e I a.1.1 a.1.2) = 0 then 1 else 0)
def fdV (y : Int32) (a : FA) : Int32 := if y = 0 then nI a.2.1 else if y = 1 then nI a.2.2.1 else nI a.2.2.2
section
variable {X : WX}
theorem fd_c (hX : WOk X) (w : Int32) {n yn : Nat} (hn : n ≤ 30) (hyn : yn ≤ 2) {M : Mem} (hM : CI M X) : ∃ M1, fX11_founders M w (nI n) (nI yn) = okI M1 (fdV (nI yn) (foldN (fdT (xE X) (xI X)) n 0 ((lS (xL X), w), 0, 0, 0))) ∧ Fr scrQ M M1 := by
  have hk := hX.1
  have h8 := hk.1.1
  have hO := hX.2.2.1.1.1
  have cw : ∀ M, fX11_needWhat M (nI yn) 3 = okV M := fun M => c_what (nI_pos (by omega)) (ltL 3 (by omega) (by decide))
  obtain ⟨M1, e1, D1, F1⟩ := c_try hM hO
  obtain ⟨M2, ⟨F2, _⟩, e2⟩ := loopI (fun f M k (a : FA) => fX11_founders_b43 f M (nI n) (nI yn) (nI a.2.1) (nI a.2.2.1) (nI a.2.2.2) a.1.2 (nI k)) (fun k M' a => Fr scrQ M M' ∧ DC 62 M' a.1.1 ∧ DOk (xI X) a.1.1 ∧ a.2.2.1 ≤ 999) n (fdT (xE X) (xI X)) (fun M a => okI M (fdV (nI yn) a))
    (by
      intro f M2 k a ⟨F2, D2, O2, hm⟩ hkk
      obtain ⟨⟨S, v⟩, g, m, u⟩ := a
      dsimp only at D2 O2 hm ⊢
      obtain ⟨M3, e3, D3, F3⟩ := c_begin62 D2
      have F13 : Fr scrQ M M3 := F2.tr (F3.mono (by unfold scrQ; decide))
      have e4 := c_draw (a := 62) (hM.1.1.fr F13 apQ) hk v
      have D4 : DC 62 (si M3 62 0 (nI (drS (iH (xI X)) v).2)) (setLC (bgS S) (drS (iH (xI X)) v).2 (dC S)) := LC_DC D3 gi_si_s ((gi_si_k (by decide)).trans D3.1.2.2.2.2.2.2) (fun k a _ => gi_si_k a) (fun _ => gi_si_a (by decide)) (fun _ => gi_si_a (by decide)) (fun _ => gi_si_a (by decide))
      have F14 : Fr scrQ M (si M3 62 0 (nI (drS (iH (xI X)) v).2)) := F13.wi (by unfold scrQ; decide)
      have O4 : DOk (xI X) (setLC (bgS S) (drS (iH (xI X)) v).2 (dC S)) := LC_ok (bg_ok O2) (drS_lt h8 v)
      have hN5 : dN (setH (setLC (bgS S) (drS (iH (xI X)) v).2 (dC S)) (tkS (xI X) (setLC (bgS S) (drS (iH (xI X)) v).2 (dC S)) none)) + 5 < 2000 := by
        show (0 : Nat) + 5 < 2000
        decide
      obtain ⟨M5, e5, D5, F5⟩ := c_retry hM hX F14 D4 O4
      obtain ⟨M6, e6, D6, F6⟩ := c_pass hM hX F5 D5 (tk_ok hk O4 none) (n := 5) hN5
      have e6 : fX3_passYears 62 M5 5 = okV M6 := e6
      have D6 : DC 62 M6 (fdS (xE X) (xI X) S v) := D6
      have O6 := fd_ok hk O2 (xE X) v
      have g6 := O6.1.2.1
      have m6 := mx_le O6 (n := 8) (a := 0) (by decide) (by decide)
      have m7 := mx_le O6 (n := 8) (a := m) (by decide) hm
      rw [fX11_founders_b43]
      dsimp only
      unfold fX11_founders_b141
      rw [if_pos (nI_lt hkk (by omega)), e3, bV_ok, e4, bI_ok, e5, bV_ok, e6, bV_ok, D6.1.2.1, c_bits (show dG (fdS (xE X) (xI X) S v) < 512 by omega), bI_ok, c_most O6 (fun h hh => D6.2.2.2 h hh), bI_ok, D6.1.2.1, nI_p1 k, nadd]
      have em : (if nI m < nI (mxS (fdS (xE X) (xI X) S v) 8 0) then nI (mxS (fdS (xE X) (xI X) S v) 8 0) else nI m) = nI (mxS (fdS (xE X) (xI X) S v) 8 m) := by
        rw [mx_from 8 m]
        by_cases c : m < mxS (fdS (xE X) (xI X) S v) 8 0
        · rw [if_pos (nI_lt c (by omega)), if_pos c]
        · rw [if_neg (nI_nlt (by omega) (by omega)), if_neg c]
      rw [em]
      refine ⟨M6, ⟨F6, D6, O6, m7⟩, ?_⟩
      unfold fdT
      dsimp only
      by_cases c : dG (fdS (xE X) (xI X) S v) = 0
      · rw [if_pos (show nI (dG (fdS (xE X) (xI X) S v)) = 0 by rw [c]; rfl), if_pos c, nI_p1]
      · rw [if_neg (show ¬ nI (dG (fdS (xE X) (xI X) S v)) = 0 from c_lit (b := 0) (by omega) (by decide) c), if_neg c, Int32.add_zero] <;> rfl)
    (by
      intro f M2 a _
      rw [fX11_founders_b43]
      dsimp only
      rw [if_neg (nI_nlt (Nat.le_refl _) (by omega))]
      unfold fdV
      split
      · rfl
      · split <;> rfl)
    n 0 (by omega) FU (FU_gt (by omega)) M1 ((lS (xL X), w), 0, 0, 0) ⟨F1, D1, hO, Nat.zero_le _⟩
  refine ⟨M2, ?_, F2⟩
  show fX11_founders M w (nI n) (nI yn) = _
  unfold fX11_founders
  rw [cw, bV_ok, c_with (nI_pos (by omega)) (ngtL 30 hn (by decide)), bV_ok, e1, bV_ok]
  exact e2
end

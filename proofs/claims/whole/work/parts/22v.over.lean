-- ===== the new island is taken over =====
section
variable {M : Mem}
theorem r_half {a h : Nat} (hk : (kd a).2 = 2 * h) (hd : Int32.ofNat ((kd a).2) / 2 = nI h) (h7 : h ≤ 700) : ∃ M', fX12_takeHalf a M = okV M' ∧ Fr [a] M M' ∧ ∀ i, i < h → gi M' a i = gi M a (h + i) := by
  unfold fX12_takeHalf
  obtain ⟨M1, ⟨F1, l1, _⟩, e1⟩ := loopI (fun f M k (_ : Nat) => fX12_takeHalf_b2 a f M (nI k)) (fun k M' _ => Fr [a] M M' ∧ (∀ i, i < k → gi M' a i = gi M a (h + i)) ∧ ∀ i, k ≤ i → gi M' a i = gi M a i) h (fun _ a => a) (fun M _ => okV M)
    (by
      intro f M1 k _ ⟨F1, l1, u1⟩ hkk
      rw [fX12_takeHalf_b2]
      dsimp only
      rw [hd, if_pos (nI_lt hkk (by omega)), nadd, hk, chk_in (by omega) (by omega), chk_in (by omega) (by omega), ix_nI (by omega), ix_nI (by omega), wr_eq, nI_p1, u1 (h + k) (by omega)]
      refine ⟨_, ⟨F1.wi List.mem_cons_self, fun i hi => ?_, fun i hi => by rw [gi_si_k (by omega)]; exact u1 i (by omega)⟩, rfl⟩
      by_cases e : i = k
      · rw [e, gi_si_s]
      · rw [gi_si_k e]; exact l1 i (by omega))
    (by
      intro f M1 _ _
      rw [fX12_takeHalf_b2]
      dsimp only
      rw [hd, if_neg (nI_nlt (Nat.le_refl _) (by omega))])
    h 0 (by omega) FU (FU_gt (by omega)) M 0 ⟨Fr.rf, fun i hi => by omega, fun _ _ => rfl⟩
  exact ⟨M1, e1, F1, l1⟩
def S00 (mx my : Nat) : DS := (0, 0, nI mx, nI my, 0, 0, 0, fun k => k, fun _ => none, fun _ => 0)
theorem S00_ok {J : IS} {mx my : Nat} (h8 : iH J ≤ 8) : DOk J (S00 mx my) := ⟨⟨show (0 : Nat) < 256 by decide, show (0 : Nat) < 256 by decide, show (0 : Nat) < 2000 by decide⟩, ⟨fun k hk => hk, fun i j _ _ h => h, fun k hk => hk, fun k _ _ => rfl, Or.inl rfl⟩, fun _ _ _ e => (by cases e), fun _ _ _ => rfl, fun _ _ => Nat.zero_le _, fun _ _ _ => rfl⟩
theorem r_over {T : Nat → Nat} {n : Nat} {R0 : Mem} {J : IS} {mx my j : Nat} (hr : RLn T n R0 M j J mx my) (hJ : JOk J) (h42 : gi M 87 42 = -1) :
    ∃ M', fX12_takeOver M = okV M' ∧ IR M' J ∧ DRf M' (setH (S00 mx my) (tkS J (S00 mx my) none)) ∧ (gi M' 87 38 = 0 ∧ gi M' 87 39 = 0 ∧ gi M' 87 51 = 0) ∧ (∀ k, k < 31 ∨ (39 < k ∧ k ≠ 51) → gi M' 87 k = gi M 87 k) ∧ Fr [87, 90, 91, 92, 93, 94, 95, 96, 97, 98, 99, 102, 103, 104, 106, 107] M M' := by
  have hk := hJ.1
  have h8 := hk.1.1
  have h9 := hk.1.2.1
  have h10 := hk.1.2.2
  obtain ⟨⟨s1, s2, s3, s4, s5, s6, s7, s8⟩, t1, t2, t3, t4, t5⟩ := hr.2.2
  obtain ⟨M1, e1, F1, l1⟩ := r_half (M := M) (a := 90) (h := 8) rfl rfl (by decide)
  obtain ⟨M2, e2, F2, l2⟩ := r_half (M := M1) (a := 91) (h := 8) rfl rfl (by decide)
  obtain ⟨M3, e3, F3, l3⟩ := r_half (M := M2) (a := 92) (h := 8) rfl rfl (by decide)
  obtain ⟨M4, e4, F4, l4⟩ := r_half (M := M3) (a := 93) (h := 8) rfl rfl (by decide)
  obtain ⟨M5, e5, F5, l5⟩ := r_half (M := M4) (a := 94) (h := 9) rfl rfl (by decide)
  obtain ⟨M6, e6, F6, l6⟩ := r_half (M := M5) (a := 95) (h := 9) rfl rfl (by decide)
  obtain ⟨M7, e7, F7, l7⟩ := r_half (M := M6) (a := 96) (h := 9) rfl rfl (by decide)
  obtain ⟨M8, e8, F8, l8⟩ := r_half (M := M7) (a := 97) (h := 10) rfl rfl (by decide)
  obtain ⟨M9, e9, F9, l9⟩ := r_half (M := M8) (a := 98) (h := 700) rfl rfl (by decide)
  obtain ⟨N0, e10, F10, l10⟩ := r_half (M := M9) (a := 99) (h := 700) rfl rfl (by decide)
  have g90 : ∀ i, i < 8 → gi N0 90 i = gi M 90 (8 + i) := fun i hi => by rw [F10.i (by decide), F9.i (by decide), F8.i (by decide), F7.i (by decide), F6.i (by decide), F5.i (by decide), F4.i (by decide), F3.i (by decide), F2.i (by decide), l1 i hi]
  have g91 : ∀ i, i < 8 → gi N0 91 i = gi M 91 (8 + i) := fun i hi => by rw [F10.i (by decide), F9.i (by decide), F8.i (by decide), F7.i (by decide), F6.i (by decide), F5.i (by decide), F4.i (by decide), F3.i (by decide), l2 i hi, F1.i (by decide)]
  have g92 : ∀ i, i < 8 → gi N0 92 i = gi M 92 (8 + i) := fun i hi => by rw [F10.i (by decide), F9.i (by decide), F8.i (by decide), F7.i (by decide), F6.i (by decide), F5.i (by decide), F4.i (by decide), l3 i hi, F2.i (by decide), F1.i (by decide)]
  have g93 : ∀ i, i < 8 → gi N0 93 i = gi M 93 (8 + i) := fun i hi => by rw [F10.i (by decide), F9.i (by decide), F8.i (by decide), F7.i (by decide), F6.i (by decide), F5.i (by decide), l4 i hi, F3.i (by decide), F2.i (by decide), F1.i (by decide)]
  have g94 : ∀ i, i < 9 → gi N0 94 i = gi M 94 (9 + i) := fun i hi => by rw [F10.i (by decide), F9.i (by decide), F8.i (by decide), F7.i (by decide), F6.i (by decide), l5 i hi, F4.i (by decide), F3.i (by decide), F2.i (by decide), F1.i (by decide)]
  have g95 : ∀ i, i < 9 → gi N0 95 i = gi M 95 (9 + i) := fun i hi => by rw [F10.i (by decide), F9.i (by decide), F8.i (by decide), F7.i (by decide), l6 i hi, F5.i (by decide), F4.i (by decide), F3.i (by decide), F2.i (by decide), F1.i (by decide)]
  have g96 : ∀ i, i < 9 → gi N0 96 i = gi M 96 (9 + i) := fun i hi => by rw [F10.i (by decide), F9.i (by decide), F8.i (by decide), l7 i hi, F6.i (by decide), F5.i (by decide), F4.i (by decide), F3.i (by decide), F2.i (by decide), F1.i (by decide)]
  have g97 : ∀ i, i < 10 → gi N0 97 i = gi M 97 (10 + i) := fun i hi => by rw [F10.i (by decide), F9.i (by decide), l8 i hi, F7.i (by decide), F6.i (by decide), F5.i (by decide), F4.i (by decide), F3.i (by decide), F2.i (by decide), F1.i (by decide)]
  have g98 : ∀ i, i < 700 → gi N0 98 i = gi M 98 (700 + i) := fun i hi => by rw [F10.i (by decide), l9 i hi, F8.i (by decide), F7.i (by decide), F6.i (by decide), F5.i (by decide), F4.i (by decide), F3.i (by decide), F2.i (by decide), F1.i (by decide)]
  have g99 : ∀ i, i < 700 → gi N0 99 i = gi M 99 (700 + i) := fun i hi => by rw [l10 i hi, F9.i (by decide), F8.i (by decide), F7.i (by decide), F6.i (by decide), F5.i (by decide), F4.i (by decide), F3.i (by decide), F2.i (by decide), F1.i (by decide)]
  have FA : Fr [90, 91, 92, 93, 94, 95, 96, 97, 98, 99] M N0 := (((((((((F1.mono (by decide)).tr (F2.mono (by decide))).tr (F3.mono (by decide))).tr (F4.mono (by decide))).tr (F5.mono (by decide))).tr (F6.mono (by decide))).tr (F7.mono (by decide))).tr (F8.mono (by decide))).tr (F9.mono (by decide))).tr (F10.mono (by decide))
  have IR0 : IR N0 J := by
    refine ⟨⟨?_, ?_, ?_, ?_, ?_, ?_⟩, fun k hkk => ?_, fun k hkk => ?_, fun k hkk => ?_, fun k hkk => ?_, fun k hkk => ?_⟩
    · exact (g90 0 (by decide)).trans s1
    · exact (g90 1 (by decide)).trans s2
    · exact (g90 2 (by decide)).trans s3
    · exact (g90 3 (by decide)).trans s4
    · exact (g90 6 (by decide)).trans s7
    · exact (g90 7 (by decide)).trans s8
    · rw [g91 k (by omega), g92 k (by omega), g93 k (by omega)]; exact t1 k hkk
    · rw [g94 k (by omega), g95 k (by omega), g96 k (by omega)]; exact t2 k hkk
    · rw [g97 k (by omega)]; exact t3 k hkk
    · rw [g98 k (by have := hk.2.1.1; omega)]; exact t4 k hkk
    · rw [g99 k (by have := hk.2.1.2; omega)]; exact t5 k hkk
  have m4 : gi N0 90 4 = nI mx := (g90 4 (by decide)).trans s5
  have m5 : gi N0 90 5 = nI my := (g90 5 (by decide)).trans s6
  unfold fX12_takeOver
  rw [e1, bV_ok, e2, bV_ok, e3, bV_ok, e4, bV_ok, e5, bV_ok, e6, bV_ok, e7, bV_ok, e8, bV_ok, e9, bV_ok, e10, bV_ok, wr_eq, wr_eq, wr_eq, wr_eq, wr_eq, wr_eq, wr_eq]
  obtain ⟨N1, hN1⟩ : ∃ N1, N1 = si (si (si (si (si (si (si N0 87 31 0) 87 32 0) 87 33 0) 87 34 0) 87 35 0) 87 36 (nI mx)) 87 37 (nI my) := ⟨_, rfl⟩
  have eg4 : gi (si (si (si (si (si N0 87 31 0) 87 32 0) 87 33 0) 87 34 0) 87 35 0) 90 4 = nI mx := by rw [gi_si_a (by decide), gi_si_a (by decide), gi_si_a (by decide), gi_si_a (by decide), gi_si_a (by decide)]; exact m4
  rw [eg4]
  have eg5 : gi (si (si (si (si (si (si N0 87 31 0) 87 32 0) 87 33 0) 87 34 0) 87 35 0) 87 36 (nI mx)) 90 5 = nI my := by rw [gi_si_a (by decide), gi_si_a (by decide), gi_si_a (by decide), gi_si_a (by decide), gi_si_a (by decide), gi_si_a (by decide)]; exact m5
  rw [eg5, ← hN1]
  have FB : Fr [87] N0 N1 := by rw [hN1]; exact ((((((Fr.rf.wi (by decide)).wi (by decide)).wi (by decide)).wi (by decide)).wi (by decide)).wi (by decide)).wi (by decide)
  have D1 : DR0 N1 (S00 mx my) := by
    rw [hN1]
    refine ⟨?_, ?_, ?_, gi_si_s, ?_, ?_, ?_⟩
    · rw [gi_si_k (by decide), gi_si_k (by decide), gi_si_s]; rfl
    · rw [gi_si_k (by decide), gi_si_k (by decide), gi_si_k (by decide), gi_si_k (by decide), gi_si_k (by decide), gi_si_s]; rfl
    · rw [gi_si_k (by decide), gi_si_s]; rfl
    · rw [gi_si_k (by decide), gi_si_k (by decide), gi_si_k (by decide), gi_si_k (by decide), gi_si_k (by decide), gi_si_k (by decide), gi_si_s]; rfl
    · rw [gi_si_k (by decide), gi_si_k (by decide), gi_si_k (by decide), gi_si_k (by decide), gi_si_s]; rfl
    · rw [gi_si_k (by decide), gi_si_k (by decide), gi_si_k (by decide), gi_si_s]; rfl
  have k1 : ∀ k, k < 31 ∨ 37 < k → gi N1 87 k = gi M 87 k := fun k hkk => by
    rw [hN1, gi_si_k (by omega), gi_si_k (by omega), gi_si_k (by omega), gi_si_k (by omega), gi_si_k (by omega), gi_si_k (by omega), gi_si_k (by omega)]
    exact FA.i (by decide) k
  obtain ⟨N2, ⟨F2', a2, b2⟩, e2'⟩ := loopI (fun f M k (_ : Nat) => fX12_takeOver_b117 f M (nI k)) (fun k M' _ => Fr [102, 104] N1 M' ∧ (∀ i, i < k → gi M' 102 i = nI 0) ∧ ∀ i, i < k → gi M' 104 i = nI i) 8 (fun _ a => a) (fun M _ => bV (fX12_takeShares M) (fun M28 => wr (si M28 87 38 0) (fun M30 => wr (si M30 87 39 0) (fun M31 => wr (si M31 87 51 0) (fun M32 => some (M32, .inr none))))))
    (by
      intro f M1 k _ ⟨G1, p1, p2⟩ hkk
      rw [fX12_takeOver_b117]
      dsimp only
      rw [if_pos (ltL 8 hkk (by decide)), chk_in hkk (by decide), ix_nI (by omega), wr_eq, chk_in hkk (by decide), wr_eq, nI_p1]
      refine ⟨_, ⟨(G1.wi (by decide)).wi (by decide), fun i hi => ?_, fun i hi => ?_⟩, rfl⟩
      · rw [gi_si_a (by decide)]
        by_cases e : i = k
        · rw [e, gi_si_s]; rfl
        · rw [gi_si_k e]; exact p1 i (by omega)
      · by_cases e : i = k
        · rw [e, gi_si_s]
        · rw [gi_si_k e, gi_si_a (by decide)]; exact p2 i (by omega))
    (by
      intro f M1 _ _
      rw [fX12_takeOver_b117]
      dsimp only
      rw [if_neg (show ¬ nI 8 < 8 by decide)])
    8 0 (by omega) FU (FU_gt (by omega)) N1 0 ⟨Fr.rf, fun i hi => by omega, fun i hi => by omega⟩
  have e2' : fX12_takeOver_b117 FU N1 0 = bV (fX12_takeShares N2) (fun M28 => wr (si M28 87 38 0) (fun M30 => wr (si M30 87 39 0) (fun M31 => wr (si M31 87 51 0) (fun M32 => some (M32, .inr none))))) := e2'
  have IR2 : IR N2 J := (IR0.fr FB (by unfold apart; decide)).fr F2' (by unfold apart; decide)
  have D2 : DR0 N2 (S00 mx my) := D1.fr F2' (by decide)
  obtain ⟨N3, e3', D3, F3'⟩ := r_take (I := J) (S := S00 mx my) (ab := none) IR2 hk D2 (fun _ k hkk => b2 k hkk) (fun h hh => a2 h hh) (S00_ok h8) (fun _ c => by cases c) (by rw [F2'.i (by decide), k1 42 (by omega)]; exact h42)
  rw [e2', e3', bV_ok, wr_eq, wr_eq, wr_eq]
  refine ⟨_, rfl, ((IR2.fr F3' apT).fr (M' := si (si (si N3 87 38 0) 87 39 0) 87 51 0) (l := [87]) (((Fr.rf.wi (by decide)).wi (by decide)).wi (by decide)) (by unfold apart; decide)), D3.eq (fun k h1 h2 => ?_) (fun k => ?_) (fun k => ?_) (fun k => ?_), ⟨?_, ?_, gi_si_s⟩, fun k hkk => ?_, ?_⟩
  · rw [gi_si_k (by omega), gi_si_k (by omega), gi_si_k (by omega)]
  · rw [gi_si_a (by decide), gi_si_a (by decide), gi_si_a (by decide)]
  · rw [gi_si_a (by decide), gi_si_a (by decide), gi_si_a (by decide)]
  · rw [gi_si_a (by decide), gi_si_a (by decide), gi_si_a (by decide)]
  · rw [gi_si_k (by decide), gi_si_k (by decide), gi_si_s]
  · rw [gi_si_k (by decide), gi_si_s]
  · rw [gi_si_k (by omega), gi_si_k (by omega), gi_si_k (by omega), F3'.i (by decide), F2'.i (by decide)]
    exact k1 k (by omega)
  · exact ((((((FA.mono (by decide)).tr (FB.mono (by decide))).tr (F2'.mono (by decide))).tr (F3'.mono (by unfold scrT; decide))).wi (by decide)).wi (by decide)).wi (by decide)
end

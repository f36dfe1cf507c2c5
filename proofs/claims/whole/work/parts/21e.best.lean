-- ===== the reference's table is filled =====
theorem r_isOf9 {M : Mem} {g p : Nat} (hg : g < 512) (hp : p < 9) : fX12_isOf M (nI g) (nI p) = okI M (nI (bitN g p)) := by
  unfold fX12_isOf
  rw [m_bit hg hp]
  rcases bitN_2 g p with e | e
  · rw [e, if_neg (show ¬ nI 0 = 1 by decide)]; rfl
  · rw [e, if_pos (show nI 1 = 1 from rfl)]; rfl
theorem or_bitP : ∀ h, h < 10 → (1 : Int32) <<< (nI h &&& 31) = nI (2 ^ h) := by decide
def scrB : List Nat := [106, 107, 108, 109]
section
variable {M : Mem} {X : WX}
theorem r_tell (hM : RI M X) (hX : WOk X) : ∃ M', fX12_tellBest M = okV M' ∧ Fr scrB M M' ∧ WTr M' X ∧ BTr M' X 0 := by
  have hk := hX.1
  have h8 := hk.1.1
  have h9 := hk.1.2.1
  have hP5 : 2 ^ iP (xI X) ≤ 512 := Nat.pow_le_pow_right (n := 2) (by decide) h9
  have apB : apart scrB irCells := by unfold apart; decide
  obtain ⟨M1, e1, F1, w1⟩ := r_worths hM hX
  have F1' : Fr scrB M M1 := F1.mono (by unfold scrWt scrB; decide)
  -- only 108 changes from here on
  have wt : ∀ M2, Fr [108] M1 M2 → WTr M2 X := fun M2 F h p hh hp => by rw [F.i (by decide)]; exact w1 h p hh hp
  have ir : ∀ M2, Fr [108] M1 M2 → IR M2 (xI X) := fun M2 F => (hM.1.fr F1' apB).fr F (by unfold apart; decide)
  have qe : (if nI (iP (xI X)) < nI (iH (xI X)) then nI (iP (xI X)) else nI (iH (xI X))) = nI (bq X) := by
    unfold bq
    by_cases c : iP (xI X) < iH (xI X)
    · rw [if_pos (nI_lt c (by omega)), if_pos c]
    · rw [if_neg (nI_nlt (by omega) (by omega)), if_neg c]
  have hq : bq X < 2 ^ 31 := by unfold bq; split <;> omega
  -- nobody is left
  obtain ⟨M2, ⟨F2, b2⟩, e2⟩ := loopI (fun f M g (_ : Nat) => fX12_tellBest_b22 f M (nI (bq X)) (nI g)) (fun g M' _ => Fr [108] M1 M' ∧ ∀ g', g' < g → gl M' 108 (512 * iH (xI X) + g') = eLo (BW X (iH (xI X)) g')) (2 ^ iP (xI X)) (fun _ a => a) (fun M _ => fX12_tellBest_b80 FU M (nI (iH (xI X)) - 1))
    (by
      intro f M2 g a ⟨F2, b2⟩ hg
      have hpc := (pce_is g (by omega)).2
      have ev : eLo (BW X (iH (xI X)) g) = if pcn 10 g = bq X then 0 else -1152921504606846976 := by
        unfold BW
        rw [Nat.sub_self]
        unfold bWs
        split <;> rfl
      rw [fX12_tellBest_b22]
      dsimp only
      unfold fX12_tellBest_b64
      rw [(ir M2 F2).1.2.1, or_bitP _ (by omega), if_pos (nI_lt hg (by omega)), r_bits (by omega), bI_ok, (ir M2 F2).1.1, sh9 (by omega), nadd, chk_in (by omega) (by decide), chk_in (by omega) (by decide), ix_nI (by omega), wr_eq, wr_eq, nI_p1]
      have fin : ∀ v, v = eLo (BW X (iH (xI X)) g) → (Fr [108] M1 (sl M2 108 (512 * iH (xI X) + g) v) ∧ ∀ g', g' < g + 1 → gl (sl M2 108 (512 * iH (xI X) + g) v) 108 (512 * iH (xI X) + g') = eLo (BW X (iH (xI X)) g')) := by
        intro v hv
        refine ⟨F2.wl (by decide), fun g' hg' => ?_⟩
        rw [gl_sl]
        by_cases e : g' = g
        · rw [e, if_pos ⟨rfl, rfl⟩]; exact hv
        · rw [if_neg (fun z => e (by omega))]; exact b2 g' (by omega)
      by_cases c : pcn 10 g = bq X
      · rw [if_pos (by rw [c])]
        exact ⟨_, fin 0 (by rw [ev, if_pos c]), rfl⟩
      · rw [if_neg (c_lit (by omega) hq c)]
        exact ⟨_, fin (-1152921504606846976) (by rw [ev, if_neg c]), rfl⟩)
    (by
      intro f M2 a ⟨F2, _⟩
      rw [fX12_tellBest_b22]
      dsimp only
      rw [(ir M2 F2).1.2.1, or_bitP _ (by omega), if_neg (nI_nlt (Nat.le_refl _) (by omega)), (ir M2 F2).1.1])
    (2 ^ iP (xI X)) 0 (by omega) FU (FU_gt (by omega)) M1 0 ⟨Fr.rf, fun g' hg' => by omega⟩
  -- from the last one down
  have down : ∀ k, k ≤ iH (xI X) → ∀ f, k < f → ∀ M3, Fr [108] M1 M3 → BTr M3 X k → ∃ M4, fX12_tellBest_b80 f M3 (nI k - 1) = okV M4 ∧ Fr [108] M1 M4 ∧ BTr M4 X 0 := by
    intro k
    induction k with
    | zero =>
      intro _ f hf M3 F3 b3
      obtain ⟨m, rfl⟩ : ∃ m, f = m + 1 := ⟨f - 1, by omega⟩
      rw [fX12_tellBest_b80]
      dsimp only
      rw [if_pos (show nI 0 - 1 < 0 by decide)]
      exact ⟨M3, rfl, F3, b3⟩
    | succ h ih =>
      intro hki f hf M3 F3 b3
      obtain ⟨m, rfl⟩ : ∃ m, f = m + 1 := ⟨f - 1, by omega⟩
      obtain ⟨M4, ⟨F4, b4, c4⟩, e4⟩ := loopI (fun d M g (_ : Nat) => fX12_tellBest_b86 (fX12_tellBest_b80 m) d M (nI h) (nI g)) (fun g M' _ => Fr [108] M1 M' ∧ BTr M' X (h + 1) ∧ ∀ g', g' < g → gl M' 108 (512 * h + g') = eLo (BW X h g')) (2 ^ iP (xI X)) (fun _ a => a) (fun M _ => fX12_tellBest_b80 m M (nI h - 1))
        (by
          intro d M4 g a ⟨F4, b4, c4⟩ hg
          obtain ⟨M5, ⟨hM5, _⟩, e5⟩ := loopI (fun d' M p (a : Option Int) => fX12_tellBest_b110 (fX12_tellBest_b80 m) (fX12_tellBest_b86 (fX12_tellBest_b80 m) d) d' M (nI h) (nI g) (eLo a) (nI p)) (fun p M' a => M' = M4 ∧ okO a) (iP (xI X)) (BWt X h g) (fun M a => chk (inb ((nI h <<< ((9 : Int32) &&& 31)) + nI g) 4608) (wr (sl M 108 (ix ((nI h <<< ((9 : Int32) &&& 31)) + nI g)) (eLo a)) (fun M10 => fX12_tellBest_b86 (fX12_tellBest_b80 m) d M10 (nI h) (nI g + 1))))
            (by
              intro d' M5 p b ⟨hM5, hb⟩ hp
              subst hM5
              rw [fX12_tellBest_b110]
              dsimp only
              unfold fX12_tellBest_b145
              rw [(ir M5 F4).1.2.1, if_pos (nI_lt hp (by omega)), r_isOf9 (show g < 512 by omega) (by omega), bI_ok, r_by hX (wt M5 F4) b4 (by omega) hg hp, bL_ok, nI_p1]
              have hmx := eLo_max hb (BW_ok1 hX h (g ||| 2 ^ p) (wrt (xI X) (lS (xL X)) h p))
              refine ⟨M5, ⟨rfl, BWt_ok hX hb⟩, ?_⟩
              unfold BWt bWt
              rcases bitN_2 g p with e | e
              · rw [e, if_pos (show nI 0 = 0 from rfl), if_pos rfl]
                exact congrArg (fun v => fX12_tellBest_b110 (fX12_tellBest_b80 m) (fX12_tellBest_b86 (fX12_tellBest_b80 m) d) d' M5 (nI h) (nI g) v (nI (p + 1))) hmx
              · rw [e, if_neg (show ¬ nI 1 = 0 by decide), if_neg (by decide)])
            (by
              intro d' M5 b ⟨hM5, _⟩
              subst hM5
              rw [fX12_tellBest_b110]
              dsimp only
              rw [(ir M5 F4).1.2.1, if_neg (nI_nlt (Nat.le_refl _) (by omega))])
            (iP (xI X)) 0 (by omega) FU (FU_gt (by omega)) M4 (BW X (h + 1) g) ⟨rfl, BW_ok hX (h + 1) g⟩
          subst hM5
          have e5 : fX12_tellBest_b110 (fX12_tellBest_b80 m) (fX12_tellBest_b86 (fX12_tellBest_b80 m) d) FU M5 (nI h) (nI g) (eLo (BW X (h + 1) g)) 0 = _ := e5
          rw [fX12_tellBest_b86]
          dsimp only
          rw [(ir M5 F4).1.2.1, or_bitP _ (by omega), if_pos (nI_lt hg (by omega)), r_by0 hX b4 (by omega) hg, bL_ok, e5, ← BW_step (show h < iH (xI X) by omega), sh9 (by omega), nadd, chk_in (by omega) (by decide), ix_nI (by omega), wr_eq, nI_p1]
          refine ⟨_, ⟨F4.wl (by decide), fun h' g' h1 h2 h3 => ?_, fun g' hg' => ?_⟩, rfl⟩
          · rw [gl_sl, if_neg (fun z => by omega)]; exact b4 h' g' h1 h2 h3
          · rw [gl_sl]
            by_cases e : g' = g
            · rw [e, if_pos ⟨rfl, rfl⟩]
            · rw [if_neg (fun z => e (by omega))]; exact c4 g' (by omega))
        (by
          intro d M4 a ⟨F4, _⟩
          rw [fX12_tellBest_b86]
          dsimp only
          rw [(ir M4 F4).1.2.1, or_bitP _ (by omega), if_neg (nI_nlt (Nat.le_refl _) (by omega)), show nI h + (-1) = nI h - 1 from (Int32.sub_eq_add_neg _ _).symm])
        (2 ^ iP (xI X)) 0 (by omega) FU (FU_gt (by omega)) M3 0 ⟨F3, b3, fun g' hg' => by omega⟩
      have e4 : fX12_tellBest_b86 (fX12_tellBest_b80 m) FU M3 (nI h) 0 = fX12_tellBest_b80 m M4 (nI h - 1) := e4
      rw [fX12_tellBest_b80]
      dsimp only
      rw [nI_m1 (by omega), show h + 1 - 1 = h by omega, if_neg (nI_pos (by omega)), e4]
      refine ih (by omega) m (by omega) M4 F4 (fun h' g' h1 h2 h3 => ?_)
      by_cases e : h' = h
      · rw [e]; exact c4 g' h3
      · exact b4 h' g' (by omega) h2 h3
  obtain ⟨M4, e4, F4, b4⟩ := down (iH (xI X)) (Nat.le_refl _) FU (FU_gt (by omega)) M2 F2 (fun h g h1 h2 h3 => by rw [show h = iH (xI X) by omega]; exact b2 g h3)
  refine ⟨M4, ?_, F1'.tr (F4.mono (by unfold scrB; decide)), wt M4 F4, b4⟩
  unfold fX12_tellBest
  rw [e1, bV_ok, (ir M1 Fr.rf).1.2.1, (ir M1 Fr.rf).1.1, qe]
  exact e2.trans e4
end

-- ===== a place of the class's table =====
section
variable {M : Mem} {X : WX}
def BTc (M : Mem) (X : WX) (h0 : Nat) : Prop := ∀ h g, h0 ≤ h → h ≤ iH (xI X) → g < 2 ^ iP (xI X) → gl M (77 + h) g = eMi (cBW X h g)
theorem omx_r (a : Option Int) : omx a none = a := by cases a <;> rfl
theorem c_from (hX : WOk X) (hw : WTc M X) {h g : Nat} (hb : BTc M X (h + 1)) (hh : h < iH (xI X)) (hg : g < 2 ^ iP (xI X)) : fX4_mostFrom M (nI h) (nI g) 0 = okL M (eMi (cBW X h g)) := by
  have h8 := hX.1.1.1
  have h9 := hX.1.1.2.1
  have hP5 : 2 ^ iP (xI X) ≤ 512 := Nat.pow_le_pow_right (n := 2) (by decide) h9
  have cc := c_can hX hw (h := h) (g := g) (by omega) (by omega)
  unfold fX4_mostFrom
  by_cases hc : canG X h g
  · have ec : cBW X h g = BW X h g := by unfold cBW; exact if_pos (Or.inr hc)
    rw [cc.1 hc, bI_ok, if_neg n10, nI_p1, chk_in (by omega) (by decide), chk_in (by omega) (by decide), ix_nI (by omega), ix_nI (by omega), hb (h + 1) g (Nat.le_refl _) (by omega) hg, cBW_next hX hh hg hc, ec, BW_step hh]
    obtain ⟨M', ⟨hM', _⟩, e'⟩ := loopI (fun f M p (a : Option Int) => fX4_mostFrom_b28 f M (nI h) (nI g) 0 (eMi a) (nI p)) (fun _ M' a => M' = M ∧ okO a) (iP (xI X)) (BWt X h g) (fun M a => okL M (eMi a))
      (by
        intro f M1 p a ⟨hM1, ha⟩ hp
        subst hM1
        refine ⟨M1, ⟨rfl, BWt_ok hX ha⟩, ?_⟩
        rw [fX4_mostFrom_b28]
        dsimp only
        unfold fX4_mostFrom_b108 fX4_mostFrom_b113
        rw [hw.2.1, if_pos (nI_lt hp (by omega)), m_bit (show g < 512 by omega) (by omega), nI_p1, nI_p1]
        unfold BWt bWt
        dsimp only
        rcases bitN_2 g p with e | e
        · have hP := or_P hg hp
          have hgv := cBW_give hX hh hg hp e hc
          rw [e, if_pos (show nI 0 = 0 from rfl), if_pos (show (0 : Nat) = 0 from rfl), or_bit9 p (by omega), nI_or, chk_in (by omega) (by decide), chk_in (by omega) (by decide), ix_nI (by omega), ix_nI (by omega), hb (h + 1) (g ||| 2 ^ p) (Nat.le_refl _) (by omega) hP, hgv.1]
          cases hv : BW X (h + 1) (g ||| 2 ^ p) with
          | none =>
            rw [if_pos ((eMi_none (o := none) (fun v z => by cases z)).mpr rfl)]
            show _ = fX4_mostFrom_b28 f M1 (nI h) (nI g) 0 (eMi (omx a none)) (nI (p + 1))
            rw [omx_r]
          | some v =>
            have hok := BW_ok hX (h + 1) (g ||| 2 ^ p)
            rw [hv] at hok
            have ok1 := BW_ok1 hX h (g ||| 2 ^ p) (wrt (xI X) (lS (xL X)) h p)
            rw [hv] at ok1
            have hvw := ok1 (v + (wrt (xI X) (lS (xL X)) h p).toInt) rfl
            rw [if_neg (fun z => by have := (eMi_none hok).mp z; cases this), chk_in (by omega) (by decide), chk_in (by omega) (by decide), if_pos (show (0 : Int32) = 0 from rfl), ix_nI (by omega), ix_nI (by omega), hw.2.2 h p hh hp]
            have es : (wrt (xI X) (lS (xL X)) h p).toInt64 + eMi (some v) = Int64.ofInt (v + (wrt (xI X) (lS (xL X)) h p).toInt) := by
              show (wrt (xI X) (lS (xL X)) h p).toInt64 + Int64.ofInt v = _
              rw [Int64.ofInt_add, Int64.ofInt_int32ToInt, Int64.add_comm]
            rw [es, eMi_max ha hvw]
            rfl
        · rw [e, if_neg (show ¬ nI 1 = 0 by decide), if_neg (by decide)])
      (by
        intro f M1 a ⟨hM1, _⟩
        subst hM1
        rw [fX4_mostFrom_b28]
        dsimp only
        rw [hw.2.1, if_neg (nI_nlt (Nat.le_refl _) (by omega))])
      (iP (xI X)) 0 (by omega) FU (FU_gt (by omega)) M (BW X (h + 1) g) ⟨rfl, BW_ok hX (h + 1) g⟩
    subst hM'
    exact e'
  · have ec : cBW X h g = none := by unfold cBW; exact if_neg (fun z => z.elim (fun y => by omega) (fun y => hc y))
    rw [cc.2 hc, bI_ok, if_pos rfl, ec]
    rfl
end

-- ===== whose share is best: the class; best =====
theorem seek_none {Q : Nat → Bool} : ∀ d k, seek Q d k = none → ∀ p, k ≤ p → p < k + d → ¬ Q p = true := by
  intro d
  induction d with
  | zero => intro k _ p h1 h2; omega
  | succ d ih =>
    intro k e p h1 h2
    unfold seek at e
    by_cases c : Q k = true
    · rw [if_pos c] at e; cases e
    · rw [if_neg c] at e
      by_cases e2 : p = k
      · rw [e2]; exact c
      · exact ih (k + 1) e p (by omega) (by omega)
section
variable {M : Mem} {X : WX}
/-- what is found is the next row's own, or some plot's -/
theorem BW_from {h g : Nat} (hh : h < iH (xI X)) : BW X h g = BW X (h + 1) g ∨ ∃ p, p < iP (xI X) ∧ bQ X h g p = true := by
  have key := foldN_inv (f := BWt X h g) (fun _ (a : Option Int) => a = BW X (h + 1) g ∨ ∃ p, p < iP (xI X) ∧ bitN g p = 0 ∧ (BW X (h + 1) (g ||| 2 ^ p)).map (fun v => v + bw X h p) = a) (iP (xI X)) 0 (BW X (h + 1) g) (Or.inl rfl) (by
    intro p a _ hp ha
    unfold BWt bWt
    by_cases c : bitN g p = 0
    · rw [if_pos c]
      dsimp only
      cases hm : (BW X (h + 1) (g ||| 2 ^ p)).map (fun v => v + bw X h p) with
      | none => rw [omx_r]; exact ha
      | some y =>
        cases a with
        | none => exact Or.inr ⟨p, by omega, c, hm⟩
        | some z =>
          by_cases c2 : z < y
          · rw [show omx (some z) (some y) = some y from congrArg some (if_pos c2)]
            exact Or.inr ⟨p, by omega, c, hm⟩
          · rw [show omx (some z) (some y) = some z from congrArg some (if_neg c2)]
            exact ha
    · rw [if_neg c]; exact ha)
  rw [← BW_step hh] at key
  rcases key with e | ⟨p, hp, hb, e⟩
  · exact Or.inl e
  · exact Or.inr ⟨p, hp, decide_eq_true ⟨hb, e⟩⟩
/-- along the path -/
def onP (X : WX) (h : Nat) (g : Nat) : Prop := g < 2 ^ iP (xI X) ∧ BW X h g ≠ none ∧ (h < iH (xI X) → canG X h g)
theorem onP_step (hX : WOk X) {h : Nat} {a : Nat × Option Nat} (hh : h < iH (xI X)) (ha : onP X h a.1) : onP X (h + 1) (bPt X h a).1 := by
  obtain ⟨a1, a2, a3⟩ := ha
  refine ⟨bPt_lt a1, ?_⟩
  unfold bPt
  dsimp only
  cases hs : seek (bQ X h a.1) (iP (xI X)) 0 with
  | none =>
    show BW X (h + 1) a.1 ≠ none ∧ (h + 1 < iH (xI X) → canG X (h + 1) a.1)
    have e : BW X h a.1 = BW X (h + 1) a.1 := by
      rcases BW_from (g := a.1) hh with e | ⟨p, hp, e⟩
      · exact e
      · exact absurd e (seek_none _ _ hs p (by omega) (by omega))
    have ne : BW X (h + 1) a.1 ≠ none := fun z => a2 (e.trans z)
    refine ⟨ne, fun hl => ?_⟩
    obtain ⟨b1, b2, b3⟩ := bq_is X
    have c1 := (a3 hh).1
    refine ⟨by omega, ?_⟩
    have nf : ¬ pcn 10 a.1 + (iH (xI X) - (h + 1)) < bq X := fun z => ne (bW_few (w := bw X) hX.1.1.2.1 (iH (xI X) - (h + 1)) (h + 1) a.1 a1 z)
    omega
  | some p =>
    show BW X (h + 1) (a.1 ||| 2 ^ p) ≠ none ∧ (h + 1 < iH (xI X) → canG X (h + 1) (a.1 ||| 2 ^ p))
    obtain ⟨_, s2, s3⟩ := seek_lt _ _ _ hs
    obtain ⟨q1, q2⟩ := of_decide_eq_true s3
    refine ⟨fun z => a2 ?_, (cBW_give hX hh a1 (by omega) q1 (a3 hh)).2⟩
    rw [← q2, z]
    rfl
theorem c_first (hX : WOk X) (hw : WTc M X) (hb : BTc M X 0) {h g : Nat} (hh : h < iH (xI X)) (hg : onP X h g) : fX4_firstPlot M (nI h) (nI g) = okI M (shE (seek (bQ X h g) (iP (xI X)) 0)) := by
  have h8 := hX.1.1.1
  have h9 := hX.1.1.2.1
  have hP5 : 2 ^ iP (xI X) ≤ 512 := Nat.pow_le_pow_right (n := 2) (by decide) h9
  obtain ⟨g1, g2, g3⟩ := hg
  have hc := g3 hh
  have ec : cBW X h g = BW X h g := by unfold cBW; exact if_pos (Or.inr hc)
  unfold fX4_firstPlot
  have key : ∀ d p, p + d = iP (xI X) → ∀ f, d < f → fX4_firstPlot_b2 f M (nI h) (nI g) (nI p) = okI M (shE (seek (bQ X h g) d p)) := by
    intro d
    induction d with
    | zero =>
      intro p hp f hf
      obtain ⟨m, rfl⟩ : ∃ m, f = m + 1 := ⟨f - 1, by omega⟩
      rw [fX4_firstPlot_b2]
      dsimp only
      rw [hw.2.1, if_neg (nI_nlt (by omega) (by omega))]
      rfl
    | succ d ih =>
      intro p hp f hf
      obtain ⟨m, rfl⟩ : ∃ m, f = m + 1 := ⟨f - 1, by omega⟩
      have ihk := ih (p + 1) (by omega) m (by omega)
      rw [fX4_firstPlot_b2]
      dsimp only
      unfold fX4_firstPlot_b72 seek
      rw [hw.2.1, if_pos (nI_lt (by omega) (by omega)), m_bit (show g < 512 by omega) (by omega), nI_p1, nI_p1]
      rcases bitN_2 g p with e | e
      · have hP := or_P g1 (show p < iP (xI X) by omega)
        have hgv := cBW_give hX hh g1 (show p < iP (xI X) by omega) e hc
        rw [e, if_pos (show nI 0 = 0 from rfl), or_bit9 p (by omega), nI_or, chk_in (by omega) (by decide), chk_in (by omega) (by decide), ix_nI (by omega), ix_nI (by omega), hb (h + 1) (g ||| 2 ^ p) (by omega) (by omega) hP, hgv.1]
        cases hv : BW X (h + 1) (g ||| 2 ^ p) with
        | none =>
          rw [if_pos ((eMi_none (o := none) (fun v z => by cases z)).mpr rfl), if_neg (show ¬ bQ X h g p = true from fun z => g2 (by
            have := (of_decide_eq_true z).2
            rw [hv] at this
            exact this.symm))]
          exact ihk
        | some v =>
          have hok := BW_ok hX (h + 1) (g ||| 2 ^ p)
          rw [hv] at hok
          have ok1 := BW_ok1 hX h (g ||| 2 ^ p) (wrt (xI X) (lS (xL X)) h p)
          rw [hv] at ok1
          have hvw := ok1 (v + (wrt (xI X) (lS (xL X)) h p).toInt) rfl
          have okh := BW_ok hX h g
          rw [if_neg (fun z => by have := (eMi_none hok).mp z; cases this), chk_in (by omega) (by decide), chk_in (by omega) (by decide), chk_in (by omega) (by decide), chk_in (by omega) (by decide), ix_nI (by omega), ix_nI (by omega), ix_nI (by omega), hw.2.2 h p hh (by omega), hb h g (by omega) (by omega) g1, ec]
          have es : (wrt (xI X) (lS (xL X)) h p).toInt64 + eMi (some v) = Int64.ofInt (v + (wrt (xI X) (lS (xL X)) h p).toInt) := by
            show (wrt (xI X) (lS (xL X)) h p).toInt64 + Int64.ofInt v = _
            rw [Int64.ofInt_add, Int64.ofInt_int32ToInt, Int64.add_comm]
          rw [es]
          have hj : lg_cmp (Int64.ofInt (v + (wrt (xI X) (lS (xL X)) h p).toInt)) (eMi (BW X h g)) = 0 ↔ bQ X h g p = true := by
            rw [lg_cmp_eq]
            have e3 : bQ X h g p = true ↔ some (v + bw X h p) = BW X h g := by
              unfold bQ
              rw [decide_eq_true_iff, hv]
              exact ⟨fun z => z.2, fun z => ⟨e, z⟩⟩
            rw [e3]
            cases hr : BW X h g with
            | none => exact absurd hr g2
            | some r =>
              have hro := okh r hr
              constructor
              · intro z
                have z := congrArg Int64.toInt z
                have z : (Int64.ofInt (v + (wrt (xI X) (lS (xL X)) h p).toInt)).toInt = (Int64.ofInt r).toInt := z
                rw [ofI hvw, ofI hro] at z
                exact congrArg some z
              · intro z
                have z : v + (wrt (xI X) (lS (xL X)) h p).toInt = r := Option.some.inj z
                rw [z]
                rfl
          by_cases c : bQ X h g p = true
          · rw [if_pos (hj.mpr c), if_pos c]
            rfl
          · rw [if_neg (fun z => c (hj.mp z)), if_neg c]
            exact ihk
      · rw [e, if_neg (show ¬ nI 1 = 0 by decide), if_neg (show ¬ bQ X h g p = true from fun z => by have := (of_decide_eq_true z).1; omega)]
        exact ihk
  exact key (iP (xI X)) 0 (by omega) FU (FU_gt (by omega))
theorem pc_0 : pcn 10 0 = 0 := by decide
theorem onP_0 (hX : WOk X) : onP X 0 0 := by
  obtain ⟨b1, b2, b3⟩ := bq_is X
  refine ⟨Nat.two_pow_pos _, bW_some hX.1.1.2.1 b2 _ 0 0 (Nat.two_pow_pos _) (by rw [pc_0]; omega) (by rw [pc_0]; omega), fun _ => ⟨by rw [pc_0]; omega, by omega⟩⟩
theorem c_plotFor (hX : WOk X) (hw : WTc M X) (hb : BTc M X 0) {n : Nat} (hn : n < iH (xI X)) : fX4_plotFor M (nI n) = okI M (shE (foldN (bPt X) (n + 1) 0 (0, none)).2) := by
  have h8 := hX.1.1.1
  have h9 := hX.1.1.2.1
  unfold fX4_plotFor
  obtain ⟨M', ⟨hM', _⟩, e'⟩ := loopI (fun f M h (a : Nat × Option Nat) => fX4_plotFor_b7 f M (nI n) (nI a.1) (shE a.2) (nI h)) (fun h M' a => M' = M ∧ onP X h a.1) (n + 1) (bPt X) (fun M a => okI M (shE a.2))
    (by
      intro f M1 h a ⟨hM1, ha⟩ hh
      subst hM1
      refine ⟨M1, ⟨rfl, onP_step hX (by omega) ha⟩, ?_⟩
      rw [fX4_plotFor_b7]
      dsimp only
      unfold fX4_plotFor_b41
      rw [if_neg (nI_nlt (by omega) (by omega)), hw.1, if_pos (nI_lt (by omega) (by omega)), c_first hX hw hb (by omega) ha, bI_ok, nI_p1]
      unfold bPt
      dsimp only
      cases hs : seek (bQ X h a.1) (iP (xI X)) 0 with
      | none => rw [if_pos (show shE none = -1 from rfl)]; rfl
      | some p =>
        obtain ⟨_, s2, _⟩ := seek_lt _ _ _ hs
        rw [if_neg (sh_m1 (show p < 1000 by omega)), show shE (some p) = nI p from rfl, or_bit9 p (by omega), nI_or]
        rfl)
    (by
      intro f M1 a _
      rw [fX4_plotFor_b7]
      dsimp only
      rw [if_pos (nI_lt (by omega) (by omega))])
    (n + 1) 0 (by omega) FU (FU_gt (by omega)) M (0, none) ⟨rfl, onP_0 hX⟩
  subst hM'
  exact e'
/-- both sides, where a long is answered -/
def AgL (cf rf : Mem → RS) (kx : Nat → Int32) (X : WX) : Prop := ∃ X', WOk X' ∧
  ((∃ v, (∀ M, CI M X → ∃ M1, cf M = okL M1 v ∧ CI M1 X' ∧ FrC M M1) ∧ ∀ M, RI M X → ∃ M2, rf M = okL M2 v ∧ gi M2 87 3 = 0 ∧ RI M2 X' ∧ FrR M M2) ∨
   ∃ x, ((x = 1 ∨ x = 2) ∧ kx x ≠ 0) ∧ (∀ M, CI M X → ∃ M1, cf M = some (M1, .inl x) ∧ CI M1 X' ∧ FrC M M1) ∧ ∀ M, RI M X → ∃ M2 w, rf M = okL M2 w ∧ gi M2 87 3 = kx x ∧ RI M2 X' ∧ FrR M M2)
theorem AgL.p {cf rf : Mem → RS} {kx : Nat → Int32} (hX : WOk X) (v : Int64) (hc : ∀ M, CI M X → ∃ M1, cf M = okL M1 v ∧ Fr scrQ M M1)
    (hr : ∀ M, RI M X → ∃ M2, rf M = okL M2 v ∧ Fr scrP (si M 87 3 0) M2) : AgL cf rf kx X := by
  refine ⟨X, hX, Or.inl ⟨v, fun M h => ?_, fun M h => ?_⟩⟩
  · obtain ⟨M1, e1, F1⟩ := hc M h
    exact ⟨M1, e1, h.q F1, F1.C (by unfold scrQ; decide)⟩
  · obtain ⟨M2, e2, F2⟩ := hr M h
    have F2' : Fr scrU (si M 87 3 0) M2 := F2.mono (by unfold scrP scrU; decide)
    exact ⟨M2, e2, (F2.i (by decide) _).trans gi_si_s, h.z0.q F2' (fun k _ _ _ => F2.i (by decide) k) (h.z0.2.1.1.fr F2 (by unfold apart; decide)), FrR.rf.z.tr (F2'.R (by unfold scrU; decide))⟩
theorem AgL.x {cf rf : Mem → RS} {kx : Nat → Int32} (hX : WOk X) (x : Nat) (hx : x = 1 ∨ x = 2) (hc : ∀ M, CI M X → cf M = some (M, .inl x)) (hr : ∀ M, RI M X → ∃ w, rf M = okL (si (si M 87 3 0) 87 3 (kx x)) w) (hz : kx x ≠ 0 := by decide) : AgL cf rf kx X := by
  refine ⟨X, hX, Or.inr ⟨x, ⟨hx, hz⟩, fun M h => ⟨M, hc M h, h, FrC.rf⟩, fun M h => ?_⟩⟩
  obtain ⟨w, e⟩ := hr M h
  exact ⟨_, w, e, gi_si_s, h.z.z, FrR.rf.z.z⟩
theorem c_together (hM : CI M X) (hX : WOk X) : ∃ M1 M2, fX4_weigh M = okV M1 ∧ fX4_mostTogether M1 = okL M2 (eMi (BW X 0 0)) ∧ Fr scrQ M M2 ∧ WTc M2 X ∧ BTc M2 X 0 := by
  obtain ⟨M1, e1, F1, w1⟩ := c_weigh hM hX
  obtain ⟨M2, e2, F2, b2⟩ := c_fill hX w1
  refine ⟨M1, M2, e1, ?_, F1.tr (F2.mono (by unfold scrG scrQ; decide)), w1.g F2 hX, b2⟩
  have e0 : gl M2 77 0 = eMi (BW X 0 0) := by
    have := b2 0 0 (by omega) (by omega) (Nat.two_pow_pos _)
    have ec : cBW X 0 0 = BW X 0 0 := by
      unfold cBW
      by_cases c : (0 : Nat) = iH (xI X)
      · rw [if_pos (Or.inl c)]
      · exact if_pos (Or.inr ((onP_0 hX).2.2 (by omega)))
    rw [ec] at this
    exact this
  unfold fX4_mostTogether
  rw [e2, bV_ok, chk_tt (by decide)]
  exact congrArg (fun v => okL M2 v) e0
theorem a_best (hX : WOk X) (x : Int32) : AgL (fun M => fX11_best M x) (fun M => fX12_best M x) kA X := by
  have hk := hX.1
  have h8 := hk.1.1
  have e0 : eLo (BW X 0 0) = eMi (BW X 0 0) := by
    cases hb : BW X 0 0 with
    | none => exact absurd hb (onP_0 hX).2.1
    | some v => rfl
  by_cases cm : x = -1
  · subst cm
    refine AgL.p hX (eMi (BW X 0 0)) (fun M h => ?_) (fun M h => ?_)
    · obtain ⟨M1, M2, e1, e2, F2, _, _⟩ := c_together h hX
      refine ⟨M2, ?_, F2⟩
      show fX11_best M (-1) = _
      unfold fX11_best fX11_best_b10
      rw [if_pos rfl, e1, bV_ok, e2, bL_ok, if_pos rfl]
    · obtain ⟨M2, e2, F2, w2, b2⟩ := r_tell h.z0 hX
      refine ⟨M2, ?_, F2.mono (by unfold scrB scrP; decide)⟩
      show fX12_best M (-1) = _
      unfold fX12_best
      have ei : fX12_isIn (si M 87 3 0) (Int32.toInt64 (-1)) (-1) (nI (iH (xI X)) - 1).toInt64 = okI (si M 87 3 0) 1 := r_is2 (a := -1) (by decide) rfl (by decide) (fun c => by
        rw [Int32.lt_iff_toInt_lt, show nI (iH (xI X)) - 1 = nI (iH (xI X)) - nI 1 from rfl, pk_sub_toInt (by omega) (by decide)] at c
        have h1 : (-1 : Int32).toInt = -1 := by decide
        omega)
      have eg : gl M2 108 0 = eLo (BW X 0 0) := b2 0 0 (by omega) (by omega) (Nat.two_pow_pos _)
      rw [wr_eq, h.z0.1.1.1, ei, bI_ok, if_neg n10, e2, bV_ok, if_pos rfl, eg, e0]
  · rcases h_cases x (iH (xI X)) (by omega) with ⟨n, hn, rfl⟩ | hx
    · refine AgL.p hX (shE (foldN (bPt X) (n + 1) 0 (0, none)).2).toInt64 (fun M h => ?_) (fun M h => ?_)
      · obtain ⟨M1, M2, e1, e2, F2, w2, b2⟩ := c_together h hX
        refine ⟨M2, ?_, F2⟩
        show fX11_best M (nI n) = _
        unfold fX11_best fX11_best_b10
        rw [if_neg cm, c_needH h.1.1 hk hn, bV_ok, e1, bV_ok, e2, bL_ok, if_neg cm, c_plotFor hX w2 b2 hn, bI_ok]
      · obtain ⟨M2, e2, F2, w2, b2⟩ := r_tell h.z0 hX
        refine ⟨M2, ?_, F2.mono (by unfold scrB scrP; decide)⟩
        show fX12_best M (nI n) = _
        unfold fX12_best
        rw [wr_eq, h.z0.1.1.1, r_is2 (a := -1) (by decide) rfl (h_m1 (show n < 1000 by omega)) (m1_ok (by omega) hn).2, bI_ok, if_neg n10, e2, bV_ok, if_neg cm]
        exact r_path (h.z0.1.fr F2 (by unfold apart; decide)) hX w2 b2 hn
    · exact AgL.x hX 1 (Or.inl rfl) (fun M h => by
        unfold fX11_best
        rw [if_neg cm, c_needHx h.1.1 hx, bV_x]) (fun M h => ⟨0, by
        unfold fX12_best
        rw [wr_eq, h.z0.1.1.1, r_is2x (a := -1) (by decide) rfl (m1_cases (by omega) cm hx), bI_ok, if_pos rfl]
        rfl⟩)
end

-- ===== the fairest shares: the reference; fairest =====
section
variable {M : Mem} {X : WX}
theorem r_canAll (hI : IR M (xI X)) (hX : WOk X) (hw : WTr M X) (l : Int32) : ∀ d h g, iH (xI X) = h + d → g < 2 ^ iP (xI X) → ∀ r, d < r →
    (atL l.toInt (FW X h g) → fX12_canAll r M (nI h) (nI g) l = okI M 1) ∧ (¬ atL l.toInt (FW X h g) → fX12_canAll r M (nI h) (nI g) l = okI M 0) := by
  have h8 := hX.1.1.1
  have h9 := hX.1.1.2.1
  have hP5 : 2 ^ iP (xI X) ≤ 512 := Nat.pow_le_pow_right (n := 2) (by decide) h9
  intro d
  induction d with
  | zero =>
    intro h g hd hg r hr
    obtain ⟨m, rfl⟩ : ∃ m, r = m + 1 := ⟨r - 1, by omega⟩
    have e : fX12_canAll (m + 1) M (nI h) (nI g) l = okI M 1 := by
      rw [fX12_canAll]
      unfold fX12_canAllF
      dsimp only
      rw [hI.1.1, if_pos (by rw [hd]; rfl)]
    refine ⟨fun _ => e, fun z => absurd ?_ z⟩
    rw [FW_d hd]
    refine ⟨_, rfl, ?_⟩
    have := Int32.toInt_lt l
    omega
  | succ d ih =>
    intro h g hd hg r hr
    obtain ⟨m, rfl⟩ : ∃ m, r = m + 1 := ⟨r - 1, by omega⟩
    rw [FW_d hd, fF_at]
    have key : ∀ c p, p + c = iP (xI X) → ∀ f, c < f → ((∃ q, p ≤ q ∧ q < iP (xI X) ∧ bitN g q = 0 ∧ l.toInt ≤ bw X h q ∧ atL l.toInt (FW X (h + 1) (g ||| 2 ^ q))) → fX12_canAll_b15 (fX12_canAll m) f M (nI h) (nI g) l (nI p) = okI M 1) ∧ ((¬ ∃ q, p ≤ q ∧ q < iP (xI X) ∧ bitN g q = 0 ∧ l.toInt ≤ bw X h q ∧ atL l.toInt (FW X (h + 1) (g ||| 2 ^ q))) → fX12_canAll_b15 (fX12_canAll m) f M (nI h) (nI g) l (nI p) = okI M 0) := by
      intro c
      induction c with
      | zero =>
        intro p hp f hf
        obtain ⟨k, rfl⟩ : ∃ k, f = k + 1 := ⟨f - 1, by omega⟩
        refine ⟨fun ⟨q, h1, h2, _⟩ => by omega, fun _ => ?_⟩
        rw [fX12_canAll_b15]
        dsimp only
        rw [hI.1.2.1, if_neg (nI_nlt (by omega) (by omega))]
      | succ c ihc =>
        intro p hp f hf
        obtain ⟨k, rfl⟩ : ∃ k, f = k + 1 := ⟨f - 1, by omega⟩
        have ihk := ihc (p + 1) (by omega) k (by omega)
        have e9 : 9 * nI h + nI p = nI (9 * h + p) := by rw [show 9 * nI h = nI (9 * h) from pk_mul 9 h, nadd]
        have stp : ∀ (r : RS), (¬ (bitN g p = 0 ∧ l.toInt ≤ bw X h p ∧ atL l.toInt (FW X (h + 1) (g ||| 2 ^ p)))) → r = fX12_canAll_b15 (fX12_canAll m) k M (nI h) (nI g) l (nI (p + 1)) → ((∃ q, p ≤ q ∧ q < iP (xI X) ∧ bitN g q = 0 ∧ l.toInt ≤ bw X h q ∧ atL l.toInt (FW X (h + 1) (g ||| 2 ^ q))) → r = okI M 1) ∧ ((¬ ∃ q, p ≤ q ∧ q < iP (xI X) ∧ bitN g q = 0 ∧ l.toInt ≤ bw X h q ∧ atL l.toInt (FW X (h + 1) (g ||| 2 ^ q))) → r = okI M 0) := by
          intro r hn e
          subst e
          refine ⟨fun ⟨q, h1, h2, h3⟩ => ihk.1 ⟨q, ?_, h2, h3⟩, fun z => ihk.2 (fun ⟨q, h1, h2⟩ => z ⟨q, by omega, h2⟩)⟩
          by_cases e : q = p
          · subst e; exact absurd h3 hn
          · omega
        rw [fX12_canAll_b15]
        dsimp only
        unfold fX12_canAll_b70
        rw [hI.1.2.1, if_pos (nI_lt (by omega) (by omega)), r_isOf9 (show g < 512 by omega) (by omega), bI_ok, nI_p1, nI_p1]
        rcases bitN_2 g p with e | e
        · rw [e, if_pos (show nI 0 = 0 from rfl), e9, chk_in (by omega) (by decide), ix_nI (by omega), hw h p (by omega) (by omega)]
          by_cases c1 : wrt (xI X) (lS (xL X)) h p < l
          · rw [if_pos c1]
            refine stp _ (fun z => ?_) rfl
            have := Int32.lt_iff_toInt_lt.mp c1
            have z2 : l.toInt ≤ (wrt (xI X) (lS (xL X)) h p).toInt := z.2.1
            omega
          · have hP := or_P hg (show p < iP (xI X) by omega)
            have ihd := ih (h + 1) (g ||| 2 ^ p) (by omega) hP m (by omega)
            have hl : l.toInt ≤ bw X h p := by
              show l.toInt ≤ (wrt (xI X) (lS (xL X)) h p).toInt
              rw [Int32.lt_iff_toInt_lt] at c1
              omega
            rw [if_neg c1, or_bit9 p (by omega), nI_or]
            by_cases c2 : atL l.toInt (FW X (h + 1) (g ||| 2 ^ p))
            · rw [ihd.1 c2, bI_ok, if_neg n10]
              exact ⟨fun _ => rfl, fun z => absurd ⟨p, Nat.le_refl _, by omega, e, hl, c2⟩ z⟩
            · rw [ihd.2 c2, bI_ok, if_pos rfl]
              exact stp _ (fun z => c2 z.2.2) rfl
        · rw [e, if_neg (show ¬ nI 1 = 0 by decide)]
          exact stp _ (fun z => by omega) rfl
    have kk := key (iP (xI X)) 0 (by omega) FU (FU_gt (by omega))
    have hd1 : iH (xI X) = h + 1 + d := by omega
    have eqv : (∃ p, p < iP (xI X) ∧ bitN g p = 0 ∧ l.toInt ≤ bw X h p ∧ atL l.toInt (fF (bw X) (iP (xI X)) d (h + 1) (g ||| 2 ^ p))) ↔ ∃ q, 0 ≤ q ∧ q < iP (xI X) ∧ bitN g q = 0 ∧ l.toInt ≤ bw X h q ∧ atL l.toInt (FW X (h + 1) (g ||| 2 ^ q)) :=
      ⟨fun ⟨p, h1, h2, h3, h4⟩ => ⟨p, Nat.zero_le _, h1, h2, h3, by rw [FW_d hd1]; exact h4⟩, fun ⟨p, _, h1, h2, h3, h4⟩ => ⟨p, h1, h2, h3, by rw [FW_d hd1] at h4; exact h4⟩⟩
    have e0 : fX12_canAll (m + 1) M (nI h) (nI g) l = fX12_canAll_b15 (fX12_canAll m) FU M (nI h) (nI g) l 0 := by
      rw [fX12_canAll]
      unfold fX12_canAllF
      dsimp only
      rw [hI.1.1, if_neg (c_lit (by omega) (by omega) (by omega))]
    rw [e0, eqv]
    exact kk
theorem mod9 : ∀ k, k < 72 → nI k - nI k / 9 * 9 = nI (k % 9) := by decide
theorem r_fair (hI : IR M (xI X)) (hX : WOk X) (hw : WTr M X) (hH : 0 < iH (xI X)) {V : Int32} (hV : FW X 0 0 = some V.toInt) (hin : ∃ h p, h < iH (xI X) ∧ p < iP (xI X) ∧ bw X h p = V.toInt) : fX12_fairest_b62 FU M (-2147483648) 0 = okI M V := by
  have h8 := hX.1.1.1
  have h9 := hX.1.1.2.1
  have wk : ∀ k, k < 9 * iH (xI X) → k % 9 < iP (xI X) → gi M 109 k = wrt (xI X) (lS (xL X)) (k / 9) (k % 9) := fun k hk hm => by
    have := hw (k / 9) (k % 9) (by omega) hm
    rw [show 9 * (k / 9) + k % 9 = k by omega] at this
    exact this
  have at_le : ∀ l : Int32, atL l.toInt (FW X 0 0) ↔ l.toInt ≤ V.toInt := fun l => by
    rw [hV]
    exact ⟨fun ⟨v, e, h⟩ => by have := Option.some.inj e; omega, fun h => ⟨_, rfl, h⟩⟩
  have key : ∀ d k, k + d = 9 * iH (xI X) → ∀ f, d < f → ∀ b : Int32, b.toInt ≤ V.toInt → (∀ j, j < k → j % 9 < iP (xI X) → bw X (j / 9) (j % 9) ≤ V.toInt → bw X (j / 9) (j % 9) ≤ b.toInt) → fX12_fairest_b62 f M b (nI k) = okI M V := by
    intro d
    induction d with
    | zero =>
      intro k hk f hf b hb hj
      obtain ⟨m, rfl⟩ : ∃ m, f = m + 1 := ⟨f - 1, by omega⟩
      rw [fX12_fairest_b62]
      dsimp only
      rw [hI.1.1, show 9 * nI (iH (xI X)) = nI (9 * iH (xI X)) from pk_mul 9 _, if_neg (nI_nlt (by omega) (by omega))]
      obtain ⟨h, p, h1, h2, h3⟩ := hin
      have := hj (9 * h + p) (by omega) (by omega) (by rw [show (9 * h + p) / 9 = h by omega, show (9 * h + p) % 9 = p by omega]; omega)
      rw [show (9 * h + p) / 9 = h by omega, show (9 * h + p) % 9 = p by omega] at this
      rw [show b = V from Int32.toInt_inj.mp (by omega)]
    | succ d ih =>
      intro k hk f hf b hb hj
      obtain ⟨m, rfl⟩ : ∃ m, f = m + 1 := ⟨f - 1, by omega⟩
      rw [fX12_fairest_b62]
      dsimp only
      unfold fX12_fairest_b120
      rw [hI.1.1, show 9 * nI (iH (xI X)) = nI (9 * iH (xI X)) from pk_mul 9 _, if_pos (nI_lt (by omega) (by omega)), mod9 k (by omega), hI.1.2.1, nI_p1]
      by_cases c : k % 9 < iP (xI X)
      · have ew := wk k (by omega) c
        rw [if_pos (nI_lt c (by omega)), chk_in (by omega) (by decide), chk_in (by omega) (by decide), ix_nI (by omega), ew]
        by_cases c2 : b < wrt (xI X) (lS (xL X)) (k / 9) (k % 9)
        · have hc2 := Int32.lt_iff_toInt_lt.mp c2
          have ca := r_canAll hI hX hw (wrt (xI X) (lS (xL X)) (k / 9) (k % 9)) (iH (xI X)) 0 0 (by omega) (Nat.two_pow_pos _) FR (by show iH (xI X) < 10; omega)
          rw [if_pos c2]
          by_cases c3 : (wrt (xI X) (lS (xL X)) (k / 9) (k % 9)).toInt ≤ V.toInt
          · have ca1 : fX12_canAll FR M 0 0 (wrt (xI X) (lS (xL X)) (k / 9) (k % 9)) = okI M 1 := ca.1 ((at_le _).mpr c3)
            rw [ca1, bI_ok, if_neg n10, ew, chk_in (by omega) (by decide)]
            refine ih (k + 1) (by omega) m (by omega) _ c3 (fun j h1 h2 h3 => ?_)
            by_cases e : j = k
            · subst e; exact Int.le_refl _
            · have := hj j (by omega) h2 h3
              omega
          · have ca0 : fX12_canAll FR M 0 0 (wrt (xI X) (lS (xL X)) (k / 9) (k % 9)) = okI M 0 := ca.2 (fun z => c3 ((at_le _).mp z))
            rw [ca0, bI_ok, if_pos rfl]
            refine ih (k + 1) (by omega) m (by omega) _ hb (fun j h1 h2 h3 => ?_)
            by_cases e : j = k
            · subst e; exact absurd h3 c3
            · exact hj j (by omega) h2 h3
        · rw [if_neg c2]
          refine ih (k + 1) (by omega) m (by omega) _ hb (fun j h1 h2 h3 => ?_)
          by_cases e : j = k
          · subst e
            rw [Int32.lt_iff_toInt_lt] at c2
            show (wrt (xI X) (lS (xL X)) (j / 9) (j % 9)).toInt ≤ b.toInt
            omega
          · exact hj j (by omega) h2 h3
      · rw [if_neg (nI_nlt (by omega) (by omega))]
        refine ih (k + 1) (by omega) m (by omega) _ hb (fun j h1 h2 h3 => ?_)
        by_cases e : j = k
        · subst e; exact absurd h2 c
        · exact hj j (by omega) h2 h3
  refine key (9 * iH (xI X)) 0 (by omega) FU (FU_gt (by omega)) (-2147483648) ?_ (fun j h1 => by omega)
  have h1 : (-2147483648 : Int32).toInt = -2147483648 := by decide
  have h2 := Int32.le_toInt V
  omega
theorem FW_is (hX : WOk X) (hPH : iH (xI X) ≤ iP (xI X)) (hH : 0 < iH (xI X)) : ∃ V : Int32, FW X 0 0 = some V.toInt ∧ ∃ h p, h < iH (xI X) ∧ p < iP (xI X) ∧ bw X h p = V.toInt := by
  obtain ⟨d, hd⟩ : ∃ d, iH (xI X) = 0 + (d + 1) := ⟨iH (xI X) - 1, by omega⟩
  obtain ⟨v, e, _⟩ := fF_some (w := bw X) (bw_in X) hX.1.1.2.1 (d + 1) 0 0 (Nat.two_pow_pos _) (by rw [pc_0]; omega)
  obtain ⟨h, p, h1, h2, h3⟩ := fF_is (bw_in X) d 0 0 v e
  refine ⟨wrt (xI X) (lS (xL X)) h p, ?_, h, p, by omega, h2, rfl⟩
  rw [FW_d hd, e, ← h3]
  rfl
theorem a_fairest (hX : WOk X) (x : Int32) : Ag (fun M => fX11_fairest M x) (fun M => fX12_fairest M x) kA X := by
  have hk := hX.1
  have h8 := hk.1.1
  have h9 := hk.1.2.1
  rcases w_cases x 0 1 (by decide) (by decide) with ⟨n, _, hn, rfl⟩ | hx
  · have c0 : ∀ M, CI M X → fX11_needWhat M (nI n) 2 = okV M := fun M h => c_what (nI_pos (by omega)) (by show nI n < nI 2; exact nI_lt (by omega) (by decide))
    have r0 : ¬ nI n < 0 := nI_pos (by omega)
    have r1 : ¬ 1 < nI n := ngtL 1 hn (by decide)
    by_cases cH : iH (xI X) = 0
    · refine Ag.p hX 0 (fun M h => ⟨M, ?_, Fr.rf⟩) (fun M h => ⟨si M 87 3 0, ?_, Fr.rf⟩)
      · show fX11_fairest M (nI n) = _
        unfold fX11_fairest
        rw [c0 M h, bV_ok, h.1.1.1.1, if_pos (by rw [cH]; rfl)]
      · show fX12_fairest M (nI n) = _
        unfold fX12_fairest
        rw [wr_eq, if_neg r0, if_neg r1, h.z0.1.1.1, if_pos (by rw [cH]; rfl)]
    · have nH : ¬ nI (iH (xI X)) = 0 := c_lit (b := 0) (by omega) (by decide) cH
      by_cases cP : iP (xI X) < iH (xI X)
      · refine Ag.p hX 0 (fun M h => ⟨M, ?_, Fr.rf⟩) (fun M h => ⟨si M 87 3 0, ?_, Fr.rf⟩)
        · show fX11_fairest M (nI n) = _
          unfold fX11_fairest
          rw [c0 M h, bV_ok, h.1.1.1.1, if_neg nH, h.1.1.1.2.1, if_pos (nI_lt cP (by omega))]
        · show fX12_fairest M (nI n) = _
          unfold fX12_fairest
          rw [wr_eq, if_neg r0, if_neg r1, h.z0.1.1.1, if_neg nH, h.z0.1.1.2.1, if_pos (nI_lt cP (by omega))]
      · have nP : ¬ nI (iP (xI X)) < nI (iH (xI X)) := nI_nlt (by omega) (by omega)
        by_cases cn : n = 0
        · subst cn
          refine Ag.p hX 1 (fun M h => ⟨M, ?_, Fr.rf⟩) (fun M h => ⟨si M 87 3 0, ?_, Fr.rf⟩)
          · show fX11_fairest M (nI 0) = _
            unfold fX11_fairest
            rw [c0 M h, bV_ok, h.1.1.1.1, if_neg nH, h.1.1.1.2.1, if_neg nP, if_pos (show nI 0 = 0 from rfl)]
          · show fX12_fairest M (nI 0) = _
            unfold fX12_fairest
            rw [wr_eq, if_neg r0, if_neg r1, h.z0.1.1.1, if_neg nH, h.z0.1.1.2.1, if_neg nP, if_pos (show nI 0 = 0 from rfl)]
        · have n1 : n = 1 := by omega
          subst n1
          obtain ⟨V, hV, hin⟩ := FW_is hX (by omega) (by omega)
          refine Ag.p hX V (fun M h => ?_) (fun M h => ?_)
          · obtain ⟨M1, e1, F1, w1⟩ := c_weigh h hX
            obtain ⟨M2, e2, F2, b2⟩ := c_fillF hX (by omega) w1
            refine ⟨M2, ?_, F1.tr (F2.mono (by unfold scrG scrQ; decide))⟩
            have e3 : gl M2 77 0 = V.toInt64 := by
              have := b2 0 0 (by omega) (by omega) (Nat.two_pow_pos _)
              have ef : fBW X 0 0 = FW X 0 0 := by unfold fBW; exact if_pos pc_0
              rw [ef, hV] at this
              rw [w64]
              exact this
            have e4 : fX4_mostForTheLeast M1 = okI M2 V := by
              unfold fX4_mostForTheLeast
              rw [e2, bV_ok, chk_tt (by decide)]
              have : gl M2 (77 + ix 0) 0 = V.toInt64 := e3
              rw [this, Int32.toInt32_toInt64]
            show fX11_fairest M (nI 1) = _
            unfold fX11_fairest
            rw [c0 M h, bV_ok, h.1.1.1.1, if_neg nH, h.1.1.1.2.1, if_neg nP, if_neg (show ¬ nI 1 = 0 by decide), e1, bV_ok, e4, bI_ok]
          · obtain ⟨M2, e2, F2, w2⟩ := r_worths h.z0 hX
            refine ⟨M2, ?_, F2.mono (by unfold scrWt scrP; decide)⟩
            show fX12_fairest M (nI 1) = _
            unfold fX12_fairest
            rw [wr_eq, if_neg r0, if_neg r1, h.z0.1.1.1, if_neg nH, h.z0.1.1.2.1, if_neg nP, if_neg (show ¬ nI 1 = 0 by decide), e2, bV_ok]
            exact r_fair (h.z0.1.fr F2 (by unfold apart; decide)) hX w2 (by omega) hV hin
  · have hx2 : x < 0 ∨ 1 < x := hx
    refine Ag.x hX 1 (Or.inl rfl) (fun M h => ?_) (fun M h => ⟨0, ?_⟩)
    · unfold fX11_fairest
      rw [c_whatx (a := 2) (hx2.elim Or.inl (fun z => Or.inr (fun z2 => by
        have z := Int32.lt_iff_toInt_lt.mp z
        have z2 := Int32.lt_iff_toInt_lt.mp z2
        have h1 : (1 : Int32).toInt = 1 := by decide
        have h2 : (2 : Int32).toInt = 2 := by decide
        omega))), bV_x]
    · unfold fX12_fairest fX12_fairest_b14
      rw [wr_eq]
      by_cases c : x < 0
      · rw [if_pos c, x1x]
        rfl
      · rw [if_neg c, if_pos (hx2.resolve_left c), x1x]
        rfl
end

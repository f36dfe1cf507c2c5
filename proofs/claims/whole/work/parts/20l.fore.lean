-- ===== who starves, who holds out, bushels, the richest, a change =====
def seek (P : Nat → Bool) : Nat → Nat → Option Nat
  | 0, _ => none
  | d + 1, k => if P k = true then some k else seek P d (k + 1)
theorem yrs_succ (e : Nat) (I : IS) (k : Nat) (S : DS) : yrsS e I (k + 1) S = yearS e I (yrsS e I k S) := by
  unfold yrsS
  rw [foldN_snoc]
theorem bit_tb {x h : Nat} : bitN x h = 1 ↔ x.testBit h = true := by
  unfold bitN
  rw [Nat.testBit_eq_decide_div_mod_eq]
  simp
theorem bit_or {x y h : Nat} (hx : bitN x h = 1) : bitN (x ||| y) h = 1 := by
  rw [bit_tb] at hx ⊢
  rw [Nat.testBit_or, hx, Bool.true_or]
theorem gone_year {e : Nat} {I : IS} {S : DS} {h : Nat} (hg : bitN (dG S) h = 1) : bitN (dG (yearS e I S)) h = 1 := by
  have := foldN_inv (f := livH e I) (fun _ (S' : DS) => bitN (dG S') h = 1) (iH I) 0 S hg (by
    intro j S' _ _ hb
    unfold livH
    by_cases c : bitN (dG S') j = 0
    · rw [if_pos c]
      show bitN (if got I S' j < e then dG S' ||| 2 ^ j else dG S') h = 1
      by_cases c2 : got I S' j < e
      · rw [if_pos c2]; exact bit_or hb
      · rw [if_neg c2]; exact hb
    · rw [if_neg c]; exact hb)
  exact this
theorem bit0 {x h : Nat} (c : ¬ bitN x h = 0) : bitN x h = 1 := (bitN_2 x h).resolve_left c
section
variable {X : WX}
theorem a_starves (hX : WOk X) (x : Int32) : Ag (fun M => fX11_starves M x) (fun M => fX12_starves M x) kA X := by
  have hk := hX.1
  have h8 := hk.1.1
  have hO := hX.2.2.1.1
  have st : ∀ k, k ≤ 51 → DOk (xI X) (yrsS (xE X) (xI X) k (lS (xL X))) ∧ dN (yrsS (xE X) (xI X) k (lS (xL X))) = dN (lS (xL X)) + k := fun k hk5 => yrs_ok hk hO.1 (by omega) _
  rcases h_cases x (iH (xI X)) (by omega) with ⟨h, hh, rfl⟩ | hx
  · obtain ⟨P, hP⟩ : ∃ P : Nat → Bool, P = fun k => decide (bitN (dG (yrsS (xE X) (xI X) k (lS (xL X)))) h = 1) := ⟨_, rfl⟩
    refine Ag.t hX (shE (seek P 51 0)) (fun M hM => ?_) (fun M hM => ?_)
    · have key : ∀ d k, k + d = 51 → ∀ n, d < n → ∀ M1, Fr scrQ M M1 → DC 62 M1 (yrsS (xE X) (xI X) k (lS (xL X))) → ∃ M2, fX11_starves_b21 n M1 (nI h) (nI k) = okI M2 (shE (seek P d k)) ∧ Fr scrQ M M2 := by
        intro d
        induction d with
        | zero =>
          intro k hkd n hn M1 F1 D1
          obtain ⟨m, rfl⟩ : ∃ m, n = m + 1 := ⟨n - 1, by omega⟩
          rw [fX11_starves_b21]
          dsimp only
          rw [if_pos (gtL 50 (by omega) (by omega))]
          exact ⟨M1, rfl, F1⟩
        | succ d ih =>
          intro k hkd n hn M1 F1 D1
          obtain ⟨m, rfl⟩ : ∃ m, n = m + 1 := ⟨n - 1, by omega⟩
          obtain ⟨O1, N1⟩ := st k (by omega)
          rw [fX11_starves_b21]
          dsimp only
          rw [if_neg (ngtL 50 (by omega) (by decide)), c_gone D1.1 O1.1.2.1 (by omega), bI_ok]
          unfold seek
          by_cases c : bitN (dG (yrsS (xE X) (xI X) k (lS (xL X)))) h = 0
          · obtain ⟨M2, e2, D2, F2⟩ := c_pass hM hX F1 D1 O1 (n := 1) (by omega)
            have e2 : fX3_passYears 62 M1 1 = okV M2 := e2
            rw [c, if_pos (show nI 0 = 0 from rfl), e2, bV_ok, nI_p1, if_neg (show ¬ P k = true by rw [hP]; simp [c])]
            exact ih (k + 1) (by omega) m (by omega) M2 F2 (by rw [yrs_succ]; exact D2)
          · have c1 := bit0 c
            rw [c1, if_neg (show ¬ nI 1 = 0 by decide), if_pos (show P k = true by rw [hP]; simp [c1])]
            exact ⟨M1, rfl, F1⟩
      obtain ⟨M1, e1, D1, F1⟩ := c_try hM hO.1
      obtain ⟨M2, e2, F2⟩ := key 51 0 (by omega) FU (FU_gt (by decide)) M1 F1 D1
      refine ⟨M2, ?_, F2⟩
      show fX11_starves M (nI h) = _
      unfold fX11_starves
      rw [c_needH hM.1.1 hk hh, bV_ok, e1, bV_ok]
      exact e2
    · have key : ∀ d k, k + d = 51 → ∀ n, d + 1 < n → ∀ M1, RT (si M 87 3 0) (lS (xL X)) M1 (yrsS (xE X) (xI X) k (lS (xL X))) → ∃ M2, fX12_starves_b32 n M1 (nI h) (-1) (nI k) = okI M2 (shE (seek P d k)) ∧ RT (si M 87 3 0) (lS (xL X)) M2 (lS (xL X)) := by
        intro d
        induction d with
        | zero =>
          intro k hkd n hn M1 R1
          obtain ⟨m, rfl⟩ : ∃ m, n = m + 1 := ⟨n - 1, by omega⟩
          obtain ⟨M2, e2, R2⟩ := R1.un
          rw [fX12_starves_b32]
          dsimp only
          unfold fX12_starves_b66
          rw [if_pos (gtL 50 (by omega) (by omega)), e2, bV_ok]
          exact ⟨M2, rfl, R2⟩
        | succ d ih =>
          intro k hkd n hn M1 R1
          obtain ⟨m, rfl⟩ : ∃ m, n = m + 1 := ⟨n - 1, by omega⟩
          obtain ⟨O1, N1⟩ := st k (by omega)
          obtain ⟨M2, e2, R2⟩ := R1.year hM.z0.1 hk O1 hX.2.1.1 hX.2.1.2
          rw [← yrs_succ] at R2
          rw [fX12_starves_b32]
          dsimp only
          unfold fX12_starves_b56
          rw [if_neg (ngtL 50 (by omega) (by decide)), if_pos rfl, R1.2.2.2.1.2.1, r_isOf O1.1.2.1 (by omega), bI_ok, e2, bV_ok, bV_ok, nI_p1]
          unfold seek
          by_cases c : bitN (dG (yrsS (xE X) (xI X) k (lS (xL X)))) h = 0
          · rw [c, if_pos (show nI 0 = 0 from rfl), if_neg (show ¬ P k = true by rw [hP]; simp [c])]
            exact ih (k + 1) (by omega) m (by omega) M2 R2
          · have c1 := bit0 c
            rw [c1, if_neg (show ¬ nI 1 = 0 by decide), if_pos (show P k = true by rw [hP]; simp [c1])]
            obtain ⟨m', rfl⟩ : ∃ m', m = m' + 1 := ⟨m - 1, by omega⟩
            obtain ⟨M3, e3, R3⟩ := R2.un
            rw [fX12_starves_b32]
            dsimp only
            unfold fX12_starves_b66
            rw [if_neg (nI_nem1 (show k < 2 ^ 31 by omega)), e3, bV_ok]
            refine ⟨M3, ?_, R3⟩
            split <;> rfl
      obtain ⟨M1, e1, R1⟩ := RT.pack hM.z0.2.1.1
      obtain ⟨M2, e2, R2⟩ := key 51 0 (by omega) FU (FU_gt (by decide)) M1 R1
      refine ⟨M2, ?_, R2⟩
      show fX12_starves M (nI h) = _
      unfold fX12_starves
      rw [wr_eq, r_isH hM.z0.1 hk hh, bI_ok, if_neg n10, e1, bV_ok]
      exact e2
  · exact Ag.x hX 1 (Or.inl rfl) (fun M h => by unfold fX11_starves; rw [c_needHx h.1.1 hx, bV_x]) (fun M h => ⟨0, by
      unfold fX12_starves
      rw [wr_eq, r_isHx h.z0.1 hk hx, bI_ok, if_pos rfl, x1x]
      rfl⟩)
theorem a_holdsOut (hX : WOk X) : Ag (fun M => fX11_holdsOut M) (fun M => fX12_holdsOut M) k0 X := by
  have hk := hX.1
  have h8 := hk.1.1
  have hO := hX.2.2.1.1
  have st : ∀ k, k ≤ 51 → DOk (xI X) (yrsS (xE X) (xI X) k (lS (xL X))) ∧ dN (yrsS (xE X) (xI X) k (lS (xL X))) = dN (lS (xL X)) + k := fun k hk5 => yrs_ok hk hO.1 (by omega) _
  obtain ⟨P, hP⟩ : ∃ P : Nat → Bool, P = fun k => decide (dG (yrsS (xE X) (xI X) k (lS (xL X))) ≠ dG (lS (xL X))) := ⟨_, rfl⟩
  have gg := hO.1.1.2.1
  refine Ag.t hX (shE (seek P 50 1)) (fun M hM => ?_) (fun M hM => ?_)
  · have key : ∀ d k, k + d = 50 → ∀ n, d < n → ∀ M1, Fr scrQ M M1 → DC 62 M1 (yrsS (xE X) (xI X) k (lS (xL X))) → ∃ M2, fX11_holdsOut_b16 n M1 (nI (k + 1)) = okI M2 (shE (seek P d (k + 1))) ∧ Fr scrQ M M2 := by
      intro d
      induction d with
      | zero =>
        intro k hkd n hn M1 F1 D1
        obtain ⟨m, rfl⟩ : ∃ m, n = m + 1 := ⟨n - 1, by omega⟩
        rw [fX11_holdsOut_b16]
        dsimp only
        rw [if_pos (gtL 50 (by omega) (by omega))]
        exact ⟨M1, rfl, F1⟩
      | succ d ih =>
        intro k hkd n hn M1 F1 D1
        obtain ⟨m, rfl⟩ : ∃ m, n = m + 1 := ⟨n - 1, by omega⟩
        obtain ⟨O1, N1⟩ := st k (by omega)
        obtain ⟨O2, N2⟩ := st (k + 1) (by omega)
        obtain ⟨M2, e2, D2, F2⟩ := c_pass hM hX F1 D1 O1 (n := 1) (by omega)
        have e2 : fX3_passYears 62 M1 1 = okV M2 := e2
        have D2 : DC 62 M2 (yrsS (xE X) (xI X) (k + 1) (lS (xL X))) := by rw [yrs_succ]; exact D2
        have g2 := O2.1.2.1
        rw [fX11_holdsOut_b16]
        dsimp only
        rw [if_neg (ngtL 50 (by omega) (by decide)), e2, bV_ok, D2.1.2.1, F2.i (by decide), hM.2.1.1.1.2.1, nI_p1]
        unfold seek
        by_cases c : dG (yrsS (xE X) (xI X) (k + 1) (lS (xL X))) = dG (lS (xL X))
        · rw [if_pos (by rw [c]), if_neg (show ¬ P (k + 1) = true by rw [hP]; simp [c])]
          exact ih (k + 1) (by omega) m (by omega) M2 F2 D2
        · rw [if_neg (c_lit (by omega) (by omega) c), if_pos (show P (k + 1) = true by rw [hP]; simpa using c)]
          exact ⟨M2, rfl, F2⟩
    obtain ⟨M1, e1, D1, F1⟩ := c_try hM hO.1
    obtain ⟨M2, e2, F2⟩ := key 50 0 (by omega) FU (FU_gt (by decide)) M1 F1 D1
    refine ⟨M2, ?_, F2⟩
    show fX11_holdsOut M = _
    unfold fX11_holdsOut
    rw [e1, bV_ok]
    exact e2
  · have key : ∀ d k, k + d = 50 → ∀ n, d + 1 < n → ∀ M1, RT (si M 87 3 0) (lS (xL X)) M1 (yrsS (xE X) (xI X) k (lS (xL X))) → ∃ M2, fX12_holdsOut_b23 n M1 (nI (dG (lS (xL X)))) (-1) (nI (k + 1)) = okI M2 (shE (seek P d (k + 1))) ∧ RT (si M 87 3 0) (lS (xL X)) M2 (lS (xL X)) := by
      intro d
      induction d with
      | zero =>
        intro k hkd n hn M1 R1
        obtain ⟨m, rfl⟩ : ∃ m, n = m + 1 := ⟨n - 1, by omega⟩
        obtain ⟨M2, e2, R2⟩ := R1.un
        rw [fX12_holdsOut_b23]
        dsimp only
        unfold fX12_holdsOut_b54
        rw [if_pos (gtL 50 (by omega) (by omega)), e2, bV_ok]
        exact ⟨M2, rfl, R2⟩
      | succ d ih =>
        intro k hkd n hn M1 R1
        obtain ⟨m, rfl⟩ : ∃ m, n = m + 1 := ⟨n - 1, by omega⟩
        obtain ⟨O1, N1⟩ := st k (by omega)
        obtain ⟨O2, N2⟩ := st (k + 1) (by omega)
        have g2 := O2.1.2.1
        obtain ⟨M2, e2, R2⟩ := R1.year hM.z0.1 hk O1 hX.2.1.1 hX.2.1.2
        rw [← yrs_succ] at R2
        rw [fX12_holdsOut_b23]
        dsimp only
        unfold fX12_holdsOut_b48
        rw [if_neg (ngtL 50 (by omega) (by decide)), if_pos rfl, e2, bV_ok, R2.2.2.2.1.2.1, nI_p1]
        unfold seek
        by_cases c : dG (yrsS (xE X) (xI X) (k + 1) (lS (xL X))) = dG (lS (xL X))
        · rw [if_pos (by rw [c]), if_neg (show ¬ P (k + 1) = true by rw [hP]; simp [c])]
          exact ih (k + 1) (by omega) m (by omega) M2 R2
        · rw [if_neg (c_lit (by omega) (by omega) c), if_pos (show P (k + 1) = true by rw [hP]; simpa using c)]
          obtain ⟨m', rfl⟩ : ∃ m', m = m' + 1 := ⟨m - 1, by omega⟩
          obtain ⟨M3, e3, R3⟩ := R2.un
          rw [fX12_holdsOut_b23]
          dsimp only
          unfold fX12_holdsOut_b54
          rw [if_neg (nI_nem1 (show k + 1 < 2 ^ 31 by omega)), e3, bV_ok]
          refine ⟨M3, ?_, R3⟩
          split <;> rfl
    obtain ⟨M1, e1, R1⟩ := RT.pack hM.z0.2.1.1
    obtain ⟨M2, e2, R2⟩ := key 50 0 (by omega) FU (FU_gt (by decide)) M1 R1
    refine ⟨M2, ?_, R2⟩
    show fX12_holdsOut M = _
    unfold fX12_holdsOut
    rw [wr_eq, e1, bV_ok, R1.2.2.2.1.2.1]
    exact e2
theorem r_own {M : Mem} {I : IS} {S : DS} {h yr : Nat} (hI : IR M I) (hk : IOk I) (hS : DRf M S) (hO : DOk I S) (hh : h < iH I) (hy : yr < 2 ^ 31) :
    ∃ M', fX12_ownHarvest M (nI h) (nI yr) = okI M' (match dH S h with
      | none => 0
      | some p => crp I S (bitN (dL S) h) h p yr) ∧ Fr scrR M M' := by
  have h8 := hk.1.1
  have h9 := hk.1.2.1
  unfold fX12_ownHarvest
  rw [chk_in (by omega) (by decide), ix_nI (by omega), hS.2.2.1 (hO.z (by omega)) h (by omega)]
  cases hp : dH S h with
  | none =>
    rw [if_pos (show shE none = -1 from rfl)]
    exact ⟨M, rfl, Fr.rf⟩
  | some p =>
    have hpi := hO.2.2.1 h p (by omega) hp
    obtain ⟨M1, e1, F1⟩ := r_harv (yr := yr) hI hk hS.1 hO.1.1 hh hpi hy
    rw [if_neg (sh_m1 (by omega)), chk_in (by omega) (by decide), show shE (some p) = nI p from rfl, e1, bI_ok]
    exact ⟨M1, rfl, F1⟩
theorem reap_is (I : IS) (S : DS) (h : Nat) : (match dH S h with
      | none => 0
      | some p => crp I S (bitN (dL S) h) h p (dN S)) = nI (reap I S h) := by
  unfold reap
  cases dH S h with
  | none => rfl
  | some p => exact (crp_is I S _ h p _).2
theorem a_bushels (hX : WOk X) (x y : Int32) : Ag (fun M => fX11_bushels M x y) (fun M => fX12_bushels M x y) kN X := by
  have hk := hX.1
  have h8 := hk.1.1
  have hO := hX.2.2.1.1
  have st : ∀ k, k ≤ 51 → DOk (xI X) (yrsS (xE X) (xI X) k (lS (xL X))) ∧ dN (yrsS (xE X) (xI X) k (lS (xL X))) = dN (lS (xL X)) + k := fun k hk5 => yrs_ok hk hO.1 (by omega) _
  rcases h_cases x (iH (xI X)) (by omega) with ⟨h, hh, rfl⟩ | hx
  · rcases w_cases y 0 50 (by decide) (by decide) with ⟨n, _, hn, rfl⟩ | hy
    · obtain ⟨w, hw⟩ : ∃ w : Nat → Int32, w = fun i => if bitN (dG (yrsS (xE X) (xI X) i (lS (xL X)))) h = 0 then nI (reap (xI X) (yrsS (xE X) (xI X) i (lS (xL X))) h) else 0 := ⟨_, rfl⟩
      have tail : ∀ d k a, bitN (dG (yrsS (xE X) (xI X) k (lS (xL X)))) h = 1 → foldN (fun i a => a + w i) d k a = a := by
        intro d
        induction d with
        | zero => intro k a _; rfl
        | succ d ih =>
          intro k a hb
          unfold foldN
          have : w k = 0 := by rw [hw]; simp [hb]
          rw [this, Int32.add_zero]
          exact ih (k + 1) a (by rw [yrs_succ]; exact gone_year hb)
      refine Ag.t hX (foldN (fun i a => a + w i) n 0 0) (fun M hM => ?_) (fun M hM => ?_)
      · have key : ∀ d k, k + d = n → ∀ f, d < f → ∀ M1 a, Fr scrQ M M1 → DC 62 M1 (yrsS (xE X) (xI X) k (lS (xL X))) → ∃ M2, fX11_bushels_b32 f M1 (nI h) (nI n) a (nI k) = okI M2 (foldN (fun i a => a + w i) d k a) ∧ Fr scrQ M M2 := by
          intro d
          induction d with
          | zero =>
            intro k hkd f hf M1 a F1 D1
            obtain ⟨m, rfl⟩ : ∃ m, f = m + 1 := ⟨f - 1, by omega⟩
            rw [fX11_bushels_b32]
            dsimp only
            rw [if_neg (nI_nlt (by omega) (by omega))]
            exact ⟨M1, rfl, F1⟩
          | succ d ih =>
            intro k hkd f hf M1 a F1 D1
            obtain ⟨m, rfl⟩ : ∃ m, f = m + 1 := ⟨f - 1, by omega⟩
            obtain ⟨O1, N1⟩ := st k (by omega)
            rw [fX11_bushels_b32]
            dsimp only
            rw [if_pos (nI_lt (by omega) (by omega)), c_gone D1.1 O1.1.2.1 (by omega), bI_ok]
            by_cases c : bitN (dG (yrsS (xE X) (xI X) k (lS (xL X)))) h = 0
            · obtain ⟨M2, e2, F2⟩ := c_cropOn (a := 62) (hM.1.1.fr F1 apQ) hk D1 O1 (by decide) hh
              have D2 := D1.fr F2 (apSa (by decide))
              obtain ⟨M3, e3, D3, F3⟩ := c_pass hM hX (F1.tr (scrQ_c F2)) D2 O1 (n := 1) (by omega)
              have e3 : fX3_passYears 62 M2 1 = okV M3 := e3
              rw [c, if_pos (show nI 0 = 0 from rfl), e2, bI_ok, e3, bV_ok, nI_p1]
              obtain ⟨M4, e4, F4⟩ := ih (k + 1) (by omega) m (by omega) M3 (a + nI (reap (xI X) (yrsS (xE X) (xI X) k (lS (xL X))) h)) F3 (by rw [yrs_succ]; exact D3)
              refine ⟨M4, e4.trans ?_, F4⟩
              have : w k = nI (reap (xI X) (yrsS (xE X) (xI X) k (lS (xL X))) h) := by rw [hw]; simp [c]
              rw [← this]
              rfl
            · have c1 := bit0 c
              rw [c1, if_neg (show ¬ nI 1 = 0 by decide), tail _ _ _ c1]
              exact ⟨M1, rfl, F1⟩
        obtain ⟨M1, e1, D1, F1⟩ := c_try hM hO.1
        obtain ⟨M2, e2, F2⟩ := key n 0 (by omega) FU (FU_gt (by omega)) M1 0 F1 D1
        refine ⟨M2, ?_, F2⟩
        show fX11_bushels M (nI h) (nI n) = _
        unfold fX11_bushels
        rw [c_needH hM.1.1 hk hh, bV_ok, c_with (nI_pos (by omega)) (ngtL 50 hn (by decide)), bV_ok, e1, bV_ok]
        exact e2
      · have key : ∀ d k, k + d = n → ∀ f, d < f → ∀ M1 a, RT (si M 87 3 0) (lS (xL X)) M1 (yrsS (xE X) (xI X) k (lS (xL X))) → ∃ M2, fX12_bushels_b51 f M1 (nI h) (nI n) a (nI k) = okI M2 (foldN (fun i a => a + w i) d k a) ∧ RT (si M 87 3 0) (lS (xL X)) M2 (lS (xL X)) := by
          intro d
          induction d with
          | zero =>
            intro k hkd f hf M1 a R1
            obtain ⟨m, rfl⟩ : ∃ m, f = m + 1 := ⟨f - 1, by omega⟩
            obtain ⟨M2, e2, R2⟩ := R1.un
            rw [fX12_bushels_b51]
            dsimp only
            rw [if_neg (nI_nlt (by omega) (by omega)), e2, bV_ok]
            exact ⟨M2, rfl, R2⟩
          | succ d ih =>
            intro k hkd f hf M1 a R1
            obtain ⟨m, rfl⟩ : ∃ m, f = m + 1 := ⟨f - 1, by omega⟩
            obtain ⟨O1, N1⟩ := st k (by omega)
            rw [fX12_bushels_b51]
            dsimp only
            unfold fX12_bushels_b82
            rw [if_pos (nI_lt (by omega) (by omega)), R1.2.2.2.1.2.1, r_isOf O1.1.2.1 (by omega), bI_ok]
            by_cases c : bitN (dG (yrsS (xE X) (xI X) k (lS (xL X)))) h = 0
            · obtain ⟨M2, e2, F2⟩ := r_own (yr := dN (yrsS (xE X) (xI X) k (lS (xL X)))) (R1.i hM.z0.1) hk R1.2.2.2 O1 hh (by omega)
              rw [reap_is] at e2
              have R2 := R1.go F2 (by unfold scrR; decide) (fun k _ _ => F2.i (by decide) k) (R1.2.2.2.fr F2 apRd)
              obtain ⟨M3, e3, R3⟩ := R2.year hM.z0.1 hk O1 hX.2.1.1 hX.2.1.2
              rw [← yrs_succ] at R3
              rw [c, if_pos (show nI 0 = 0 from rfl), R1.2.2.2.1.2.2.2.2.1, e2, bI_ok, e3, bV_ok, nI_p1]
              obtain ⟨M4, e4, R4⟩ := ih (k + 1) (by omega) m (by omega) M3 (a + nI (reap (xI X) (yrsS (xE X) (xI X) k (lS (xL X))) h)) R3
              refine ⟨M4, e4.trans ?_, R4⟩
              have : w k = nI (reap (xI X) (yrsS (xE X) (xI X) k (lS (xL X))) h) := by rw [hw]; simp [c]
              rw [← this]
              rfl
            · have c1 := bit0 c
              obtain ⟨M3, e3, R3⟩ := R1.year hM.z0.1 hk O1 hX.2.1.1 hX.2.1.2
              rw [← yrs_succ] at R3
              rw [c1, if_neg (show ¬ nI 1 = 0 by decide), e3, bV_ok, nI_p1]
              obtain ⟨M4, e4, R4⟩ := ih (k + 1) (by omega) m (by omega) M3 (a + 0) R3
              refine ⟨M4, e4.trans ?_, R4⟩
              have : w k = 0 := by rw [hw]; simp [c1]
              rw [← this]
              rfl
        obtain ⟨M1, e1, R1⟩ := RT.pack hM.z0.2.1.1
        obtain ⟨M2, e2, R2⟩ := key n 0 (by omega) FU (FU_gt (by omega)) M1 0 R1
        refine ⟨M2, ?_, R2⟩
        show fX12_bushels M (nI h) (nI n) = _
        unfold fX12_bushels
        rw [wr_eq, r_isH hM.z0.1 hk hh, bI_ok, if_neg n10, r_inN (lo := 0) (hi := 50) (by decide) (by decide) (by omega) hn (by decide), bI_ok, if_neg n10, e1, bV_ok]
        exact e2
    · exact Ag.x hX 2 (Or.inr rfl) (fun M h0 => by unfold fX11_bushels; rw [c_needH h0.1.1 hk hh, bV_ok, c_withx (a := 0) (b := 50) hy, bV_x]) (fun M h0 => ⟨0, by
        unfold fX12_bushels
        rw [wr_eq, r_isH h0.z0.1 hk hh, bI_ok, if_neg n10, r_inX (lo := 0) (hi := 50) (by decide) (by decide) hy, bI_ok, if_pos rfl, x2x]
        rfl⟩)
  · exact Ag.x hX 1 (Or.inl rfl) (fun M h => by unfold fX11_bushels; rw [c_needHx h.1.1 hx, bV_x]) (fun M h => ⟨0, by
      unfold fX12_bushels
      rw [wr_eq, r_isHx h.z0.1 hk hx, bI_ok, if_pos rfl, x1x]
      rfl⟩)
end

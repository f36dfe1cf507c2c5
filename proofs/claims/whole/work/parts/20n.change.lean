-- ===== a change; lots that would do =====
section
variable {M0 M : Mem} {I : IS} {B S : DS}
theorem RT.lc (h : RT M0 B M S) {l : Nat} {M' : Mem} (F : Fr [87] M M') (e0 : gi M' 87 35 = nI l) (hm : ∀ k, k ≠ 35 → k ≠ 43 → gi M' 87 k = gi M 87 k) : RT M0 B M' (setLC S l (dC S)) := by
  refine h.go F (by decide) (fun k a b => hm k (by omega) b) ?_
  obtain ⟨h1, h2, h3, h4⟩ := h.2.2.2
  exact ⟨LC_DR h1 e0 ((hm 34 (by decide) (by decide)).trans h1.2.2.2.2.2.2) (fun k _ _ a _ => hm k a (by omega)), fun z k hk => by rw [F.i (by decide)]; exact h2 z k hk, fun z k hk => by rw [F.i (by decide)]; exact h3 z k hk, fun k hk => by rw [F.i (by decide)]; exact h4 k hk⟩
theorem RT.take (h : RT M0 B M S) (hI : IR M0 I) (hk : IOk I) (hO : DOk I S) (hn : gi M0 87 42 = -1) : ∃ M1, fX12_takeShares M = okV M1 ∧ RT M0 B M1 (setH S (tkS I S none)) := by
  obtain ⟨h1, h2, h3, h4⟩ := h.2.2.2
  obtain ⟨M1, e1, D1, F1⟩ := r_take (ab := none) (h.i hI) hk h1 h2 h4 hO (fun _ c => by cases c) ((h.2.1 42 (by decide) (by decide)).trans hn)
  exact ⟨M1, e1, h.go F1 (by unfold scrT; decide) (fun k _ _ => F1.i (by decide) k) D1⟩
theorem c_retry {X : WX} {M1 : Mem} (h : CI M X) (hX : WOk X) (F : Fr scrQ M M1) (hS : DC 62 M1 S) (hO : DOk (xI X) S) : ∃ M2, fX3_takeShares 62 M1 (-1) = okV M2 ∧ DC 62 M2 (setH S (tkS (xI X) S none)) ∧ Fr scrQ M M2 := by
  obtain ⟨M2, e2, D2, F2⟩ := c_take (ab := none) (h.1.1.fr F apQ) hX.1 hS hO (by decide) (fun _ c => by cases c)
  exact ⟨M2, e2, D2, F.tr (F2.mono (by unfold scrA scrQ; decide))⟩
theorem c_turn62 {h : Nat} (hS : DC 62 M S) (hh : h < 8) : fX8_turnLot 62 M (nI h) = okV (si M 62 0 (nI (dL S ^^^ 2 ^ h))) ∧ DC 62 (si M 62 0 (nI (dL S ^^^ 2 ^ h))) (setLC S (dL S ^^^ 2 ^ h) (dC S)) := by
  unfold fX8_turnLot
  rw [wr_eq, hS.1.1, or_bit h hh, nx_xor]
  exact ⟨rfl, LC_DC hS gi_si_s ((gi_si_k (by decide)).trans hS.1.2.2.2.2.2.2) (fun k a _ => gi_si_k a) (fun _ => gi_si_a (by decide)) (fun _ => gi_si_a (by decide)) (fun _ => gi_si_a (by decide))⟩
end
section
variable {X : WX}
/-- the state, were household h's lot turned, in n years -/
def chS (X : WX) (n h : Nat) : DS := yrsS (xE X) (xI X) n (setH (setLC (lS (xL X)) (dL (lS (xL X)) ^^^ 2 ^ h) (dC (lS (xL X)))) (tkS (xI X) (setLC (lS (xL X)) (dL (lS (xL X)) ^^^ 2 ^ h) (dC (lS (xL X)))) none))
def chT (X : WX) (n h : Nat) (a : Nat × Option Nat) : Nat × Option Nat := if a.1 < alS (chS X n h) then (alS (chS X n h), some h) else a
theorem a_change (hX : WOk X) (y : Int32) : Ag (fun M => fX11_change M y) (fun M => fX12_change M y) kB X := by
  have hk := hX.1
  have h8 := hk.1.1
  have hO := hX.2.2.1.1
  rcases w_cases y 1 20 (by decide) (by decide) with ⟨n, hn1, hn, rfl⟩ | hy
  · have Oh : ∀ h, h < 8 → DOk (xI X) (setLC (lS (xL X)) (dL (lS (xL X)) ^^^ 2 ^ h) (dC (lS (xL X)))) := fun h hh => LC_ok hO.1 (xor_lt hO.1.1.1 hh)
    have Oc : ∀ h, h < 8 → DOk (xI X) (chS X n h) := fun h hh => (yrs_ok hk (tk_ok hk (Oh h hh) none) (show dN (lS (xL X)) + n < 2000 by omega) _).1
    have O0 : DOk (xI X) (yrsS (xE X) (xI X) n (lS (xL X))) := (yrs_ok hk hO.1 (by omega) _).1
    refine Ag.t hX (shE (foldN (chT X n) (iH (xI X)) 0 (alS (yrsS (xE X) (xI X) n (lS (xL X))), none)).2) (fun M hM => ?_) (fun M hM => ?_)
    · obtain ⟨M1, e1, D1, F1⟩ := c_fore hM hX (show n ≤ 50 by omega)
      obtain ⟨M2, ⟨F2, _⟩, e2⟩ := loopI (fun f M k (a : Nat × Option Nat) => fX11_change_b26 f M (nI n) (nI a.1) (shE a.2) (nI k)) (fun k M' a => Fr scrQ M M' ∧ a.1 < 2 ^ 31) (iH (xI X)) (chT X n) (fun M a => okI M (shE a.2))
        (by
          intro f M2 k a ⟨F2, ha⟩ hkk
          have hM2 := hM.q F2
          obtain ⟨M3, e3, D3, F3⟩ := c_try hM2 hO.1
          obtain ⟨e4, D4⟩ := c_turn62 (h := k) D3 (by omega)
          have F4 : Fr scrQ M (si M3 62 0 (nI (dL (lS (xL X)) ^^^ 2 ^ k))) := (F2.tr F3).wi (by unfold scrQ; decide)
          obtain ⟨M5, e5, D5, F5⟩ := c_retry hM hX F4 D4 (Oh k (by omega))
          obtain ⟨M6, e6, D6, F6⟩ := c_pass hM hX F5 D5 (tk_ok hk (Oh k (by omega)) none) (n := n) (show dN (lS (xL X)) + n < 2000 by omega)
          have e7 := c_stores (M := M6) (S := chS X n k) (fun h hh => D6.2.2.2 h hh)
          rw [fX11_change_b26]
          dsimp only
          unfold fX11_change_b110
          rw [hM2.1.1.1.1, if_pos (nI_lt hkk (by omega)), e3, bV_ok, e4, bV_ok, e5, bV_ok, e6, bV_ok, e7, bI_ok, e7, bI_ok, nI_p1]
          have hlt := alS_lt (Oc k (by omega))
          unfold chT
          by_cases c : a.1 < alS (chS X n k)
          · rw [if_pos (nI_lt c hlt), if_pos c]
            exact ⟨M6, ⟨F6, hlt⟩, rfl⟩
          · rw [if_neg (nI_nlt (by omega) ha), if_neg c]
            exact ⟨M6, ⟨F6, ha⟩, rfl⟩)
        (by
          intro f M2 a ⟨F2, _⟩
          rw [fX11_change_b26]
          dsimp only
          rw [(hM.q F2).1.1.1.1, if_neg (nI_nlt (Nat.le_refl _) (by omega))])
        (iH (xI X)) 0 (by omega) FU (FU_gt (by omega)) M1 (alS (yrsS (xE X) (xI X) n (lS (xL X))), none) ⟨F1, alS_lt O0⟩
      refine ⟨M2, ?_, F2⟩
      show fX11_change M (nI n) = _
      unfold fX11_change
      rw [c_with (a := 1) (b := 20) (nltL 1 hn1 (by omega)) (ngtL 20 hn (by decide)), bV_ok, e1, bV_ok, c_stores (M := M1) (S := yrsS (xE X) (xI X) n (lS (xL X))) (fun h hh => D1.2.2.2 h hh), bI_ok]
      exact e2
    · have R0 := hM.z0
      obtain ⟨M1, M2, e1, e2, R1, R2⟩ := r_fore hM hX (show n ≤ 50 by omega)
      obtain ⟨M3, e3, R3⟩ := R2.un
      obtain ⟨M4, ⟨R4, _⟩, e4⟩ := loopI (fun f M k (a : Nat × Option Nat) => fX12_change_b56 f M (nI n) (nI a.1) (shE a.2) (nI k)) (fun k M' a => RT (si M 87 3 0) (lS (xL X)) M' (lS (xL X)) ∧ a.1 < 2 ^ 31) (iH (xI X)) (chT X n) (fun M a => okI M (shE a.2))
        (by
          intro f M2 k a ⟨R2, ha⟩ hkk
          have I2 := R2.i R0.1
          have R3 := R2.lc (l := dL (lS (xL X)) ^^^ 2 ^ k) (M' := si M2 87 35 (nI (dL (lS (xL X)) ^^^ 2 ^ k))) (Fr.rf.wi (by decide)) gi_si_s (fun k a _ => gi_si_k a)
          obtain ⟨M4, e4, R4⟩ := R3.take R0.1 hk (Oh k (by omega)) R0.2.2.2.2.2
          obtain ⟨M5, e5, R5⟩ := R4.years (n := n) R0.1 hk (tk_ok hk (Oh k (by omega)) none) hX.2.1.1 hX.2.1.2 (show dN (lS (xL X)) + n < 2000 by omega)
          have e6 := r_stores (M := M5) (S := chS X n k) (R5.i R0.1) hk (Oc k (by omega)) (fun h hh => R5.2.2.2.2.2.2 h hh)
          obtain ⟨M7, e7, R7⟩ := R5.un
          rw [fX12_change_b56]
          dsimp only
          unfold fX12_change_b119
          rw [I2.1.1, if_pos (nI_lt hkk (by omega)), wr_eq, R2.2.2.2.1.1, or_bit k (by omega), nx_xor, e4, bV_ok, e5, bV_ok, e6, bI_ok, e7, bV_ok, nI_p1]
          have hlt := alS_lt (Oc k (by omega))
          unfold chT
          by_cases c : a.1 < alS (chS X n k)
          · rw [if_pos (nI_lt c hlt), if_pos c]
            exact ⟨M7, ⟨R7, hlt⟩, rfl⟩
          · rw [if_neg (nI_nlt (by omega) ha), if_neg c]
            exact ⟨M7, ⟨R7, ha⟩, rfl⟩)
        (by
          intro f M2 a ⟨R2, _⟩
          rw [fX12_change_b56]
          dsimp only
          rw [(R2.i R0.1).1.1, if_neg (nI_nlt (Nat.le_refl _) (by omega))])
        (iH (xI X)) 0 (by omega) FU (FU_gt (by omega)) M3 (alS (yrsS (xE X) (xI X) n (lS (xL X))), none) ⟨R3, alS_lt O0⟩
      refine ⟨M4, ?_, R4⟩
      show fX12_change M (nI n) = _
      unfold fX12_change
      rw [wr_eq, r_inN (lo := 1) (hi := 20) (by decide) (by decide) hn1 hn (by decide), bI_ok, if_neg n10, e1, bV_ok, e2, bV_ok, r_stores (S := yrsS (xE X) (xI X) n (lS (xL X))) (R2.i R0.1) hk O0 (fun h hh => R2.2.2.2.2.2.2 h hh), bI_ok, e3, bV_ok]
      exact e4
  · exact Ag.x hX 2 (Or.inr rfl) (fun M h => by unfold fX11_change; rw [c_withx (a := 1) (b := 20) hy, bV_x]) (fun M h => ⟨0, by
      unfold fX12_change
      rw [wr_eq, r_inX (lo := 1) (hi := 20) (by decide) (by decide) hy, bI_ok, if_pos rfl, x1x]
      rfl⟩)
end
section
variable {M : Mem} {I : IS} {S : DS}
def smS (I : IS) (l : Nat) : Int32 := foldN (fun h a => a + strO I (bitN l h) h) (iH I) 0 0
theorem c_lot0 {a l h : Nat} (hS : gi M a 0 = nI l) (hL : l < 256) (hh : h < 8) : fX8_lotOf a M (nI h) = okI M (nI (bitN l h)) := by
  unfold fX8_lotOf
  rw [hS, lot_bit hL hh]
theorem c_str0 {a l h : Nat} (hI : ICn M I) (hk : IOk I) (hS : gi M a 0 = nI l) (hL : l < 256) (hh : h < iH I) : fX3_strengthOf a M (nI h) = okI M (strO I (bitN l h) h) := by
  have := hk.1.1
  unfold fX3_strengthOf
  rw [c_hasH hI hk hh, bI_ok, if_neg (by decide), c_lot0 hS hL (by omega), bI_ok, chk_in (by omega) (by decide), chk_in (by omega) (by decide), ix_nI (by omega), (hI.2.1 h hh).1, (hI.2.1 h hh).2.1]
  unfold strO
  rcases bitN_2 l h with e | e
  · rw [e, if_pos (by decide), if_pos rfl]
  · rw [e, if_neg (by decide), if_neg (by decide)]
theorem c_allStr {l : Nat} (hI : ICn M I) (hk : IOk I) (hS : gi M 62 0 = nI l) (hL : l < 256) : fX3_allStrength M = okI M (smS I l) := by
  have h8 := hk.1.1
  unfold fX3_allStrength
  obtain ⟨M', hM, e'⟩ := loopI (fun n M k (a : Int32) => fX3_allStrength_b4 n M a (nI k)) (fun _ M' _ => M' = M) (iH I) (fun h a => a + strO I (bitN l h) h) (fun M a => okI M a)
    (by
      intro n M1 k a hM hkk
      subst hM
      rw [fX3_allStrength_b4]
      dsimp only
      rw [hI.1.1, if_pos (nI_lt hkk (by omega)), c_str0 hI hk hS hL hkk, bI_ok, nI_p1]
      exact ⟨M1, rfl, rfl⟩)
    (by
      intro n M1 a hM
      subst hM
      rw [fX3_allStrength_b4]
      dsimp only
      rw [hI.1.1, if_neg (nI_nlt (Nat.le_refl _) (by omega))])
    (iH I) 0 (by omega) FU (FU_gt (by omega)) M 0 rfl
  subst hM
  exact e'
theorem r_strBy (hI : IR M I) (hk : IOk I) {l : Nat} (hL : l < 256) : fX12_strengthBy M (nI l) = okI M (smS I l) := by
  have h8 := hk.1.1
  unfold fX12_strengthBy
  obtain ⟨M', hM, e'⟩ := loopI (fun n M k (a : Int32) => fX12_strengthBy_b4 n M (nI l) a (nI k)) (fun _ M' _ => M' = M) (iH I) (fun h a => a + strO I (bitN l h) h) (fun M a => okI M a)
    (by
      intro n M1 k a hM hkk
      subst hM
      rw [fX12_strengthBy_b4]
      dsimp only
      unfold fX12_strengthBy_b38
      rw [hI.1.1, if_pos (nI_lt hkk (by omega)), r_isOf hL (by omega), bI_ok, chk_in (by omega) (by decide), chk_in (by omega) (by decide), ix_nI (by omega), (hI.2.1 k hkk).1, (hI.2.1 k hkk).2.1, nI_p1]
      unfold strO
      rcases bitN_2 l k with e | e
      · rw [e, if_pos (show nI 0 = 0 from rfl), if_pos rfl]
        exact ⟨M1, rfl, rfl⟩
      · rw [e, if_neg (show ¬ nI 1 = 0 by decide), if_neg (by decide)]
        exact ⟨M1, rfl, rfl⟩)
    (by
      intro n M1 a hM
      subst hM
      rw [fX12_strengthBy_b4]
      dsimp only
      rw [hI.1.1, if_neg (nI_nlt (Nat.le_refl _) (by omega))])
    (iH I) 0 (by omega) FU (FU_gt (by omega)) M 0 rfl
  subst hM
  exact e'
end
section
variable {X : WX}
def inQ (q : Option Nat) (l : Nat) : Bool := match q with
  | none => true
  | some h => decide (bitN l h = 1)
def cntT (I : IS) (q : Option Nat) (s : Int32) (l : Nat) (a : Int32) : Int32 := if inQ q l = true ∧ ¬ smS I l < s then a + 1 else a
theorem lotsFor_core (hX : WOk X) (q : Option Nat) (hq : ∀ h, q = some h → h < iH (xI X)) (s : Int32) : (∀ M, CI M X → ∃ M1, fX11_lotsFor_b23 FU M s (shE q) 0 0 = okI M1 (foldN (cntT (xI X) q s) (2 ^ iH (xI X)) 0 0) ∧ Fr scrQ M M1) ∧
    ∀ M, RI M X → fX12_lotsFor_b54 FU (si M 87 3 0) s (shE q) 0 0 = okI (si M 87 3 0) (foldN (cntT (xI X) q s) (2 ^ iH (xI X)) 0 0) := by
  have hk := hX.1
  have h8 := hk.1.1
  have hO := hX.2.2.1.1.1
  have h2 : 2 ^ iH (xI X) ≤ 256 := Nat.pow_le_pow_right (n := 2) (by decide) h8
  constructor
  · intro M hM
    obtain ⟨M2, F2, e2⟩ := loopI (fun f M k (a : Int32) => fX11_lotsFor_b23 f M s (shE q) a (nI k)) (fun k M' a => Fr scrQ M M') (2 ^ iH (xI X)) (cntT (xI X) q s) (fun M a => okI M a)
      (by
        intro f M2 k a F2 hkk
        have hM2 := hM.q F2
        have D3 : gi (si M2 62 0 (nI k)) 62 0 = nI k := gi_si_s
        have F3 : Fr scrQ M (si M2 62 0 (nI k)) := F2.wi (by unfold scrQ; decide)
        have I3 := hM.1.1.fr F3 apQ
        have e4 : fX3_allStrength (si M2 62 0 (nI k)) = okI (si M2 62 0 (nI k)) (smS (xI X) k) := c_allStr I3 hk D3 (show k < 256 by omega)
        rw [fX11_lotsFor_b23]
        dsimp only
        unfold fX11_lotsFor_b66 fX11_lotsFor_b71 fX11_lotsFor_b96
        rw [hM2.1.1.1.1, or_bit9 _ (by omega), if_pos (nI_lt hkk (by omega)), wr_eq, nI_p1]
        unfold cntT
        refine ⟨si M2 62 0 (nI k), F3, ?_⟩
        cases q with
        | none =>
          rw [if_pos (show shE none = -1 from rfl), if_neg n10, e4, bI_ok]
          by_cases c : smS (xI X) k < s
          · rw [if_pos c, if_neg (show ¬ (inQ none k = true ∧ ¬ smS (xI X) k < s) from fun z => z.2 c)]
          · rw [if_neg c, if_pos (show inQ none k = true ∧ ¬ smS (xI X) k < s from ⟨rfl, c⟩)]
        | some h =>
          have hh := hq h rfl
          have e5 : fX8_lotOf 62 (si M2 62 0 (nI k)) (nI h) = okI (si M2 62 0 (nI k)) (nI (bitN k h)) := c_lot0 D3 (show k < 256 by omega) (by omega)
          rw [if_neg (sh_m1 (show h < 1000 by omega)), show shE (some h) = nI h from rfl, e5, bI_ok]
          rcases bitN_2 k h with e | e
          · rw [e, if_neg (show ¬ nI 0 = 1 by decide), if_pos rfl, if_neg (show ¬ (inQ (some h) k = true ∧ ¬ smS (xI X) k < s) from fun z => absurd z.1 (by unfold inQ; simp [e]))]
          · rw [e, if_pos (show nI 1 = 1 from rfl), if_neg n10, e4, bI_ok]
            by_cases c : smS (xI X) k < s
            · rw [if_pos c, if_neg (show ¬ (inQ (some h) k = true ∧ ¬ smS (xI X) k < s) from fun z => z.2 c)]
            · rw [if_neg c, if_pos (show inQ (some h) k = true ∧ ¬ smS (xI X) k < s from ⟨by unfold inQ; simp [e], c⟩)])
      (by
        intro f M2 a F2
        rw [fX11_lotsFor_b23]
        dsimp only
        rw [(hM.q F2).1.1.1.1, or_bit9 _ (by omega), if_neg (nI_nlt (Nat.le_refl _) (by omega))])
      (2 ^ iH (xI X)) 0 (by omega) FU (FU_gt (by omega)) M 0 Fr.rf
    exact ⟨M2, e2, F2⟩
  · intro M hM
    have R0 := hM.z0
    obtain ⟨M2, hM2, e2⟩ := loopI (fun f M k (a : Int32) => fX12_lotsFor_b54 f M s (shE q) a (nI k)) (fun k M' a => M' = si M 87 3 0) (2 ^ iH (xI X)) (cntT (xI X) q s) (fun M a => okI M a)
      (by
        intro f M2 k a hM2 hkk
        subst hM2
        rw [fX12_lotsFor_b54]
        dsimp only
        unfold fX12_lotsFor_b96 fX12_lotsFor_b92 fX12_lotsFor_b97
        rw [R0.1.1.1, or_bit9 _ (by omega), if_pos (nI_lt hkk (by omega)), r_strBy R0.1 hk (show k < 256 by omega), bI_ok, nI_p1, Int32.add_zero]
        unfold cntT
        refine ⟨_, rfl, ?_⟩
        by_cases c : smS (xI X) k < s
        · rw [if_pos c, if_neg (show ¬ (inQ q k = true ∧ ¬ smS (xI X) k < s) from fun z => z.2 c)]
        · rw [if_neg c]
          cases q with
          | none =>
            rw [if_pos (show shE none = -1 from rfl), if_pos (show inQ none k = true ∧ ¬ smS (xI X) k < s from ⟨rfl, c⟩)]
          | some h =>
            have hh := hq h rfl
            rw [if_neg (sh_m1 (show h < 1000 by omega)), show shE (some h) = nI h from rfl, r_isOf (show k < 256 by omega) (show h < 8 by omega), bI_ok]
            rcases bitN_2 k h with e | e
            · rw [e, if_pos (show nI 0 = 0 from rfl), if_neg (show ¬ (inQ (some h) k = true ∧ ¬ smS (xI X) k < s) from fun z => absurd z.1 (by unfold inQ; simp [e]))]
            · rw [e, if_neg (show ¬ nI 1 = 0 by decide), if_pos (show inQ (some h) k = true ∧ ¬ smS (xI X) k < s from ⟨by unfold inQ; simp [e], c⟩)])
      (by
        intro f M2 a hM2
        subst hM2
        rw [fX12_lotsFor_b54]
        dsimp only
        rw [R0.1.1.1, or_bit9 _ (by omega), if_neg (nI_nlt (Nat.le_refl _) (by omega))])
      (2 ^ iH (xI X)) 0 (by omega) FU (FU_gt (by omega)) (si M 87 3 0) 0 rfl
    subst hM2
    exact e2
theorem m1_cases {x : Int32} {n : Nat} (hn : n < 1000) (c : ¬ x = -1) (hx : x < 0 ∨ nI n ≤ x) : x < -1 ∨ nI n - 1 < x := by
  rcases m1_lt hn hx with a | a
  · refine Or.inl ?_
    rw [Int32.lt_iff_toInt_lt] at a ⊢
    have h1 : (-1 : Int32).toInt = -1 := by decide
    have h0 : (0 : Int32).toInt = 0 := by decide
    have : x.toInt ≠ -1 := fun z => c (Int32.toInt_inj.mp (by rw [z, h1]))
    omega
  · exact Or.inr a
theorem h_m1 {h : Nat} (hh : h < 1000) : ¬ nI h < -1 := fun c => by
  rw [Int32.lt_iff_toInt_lt, nI_toInt (by omega)] at c
  have h1 : (-1 : Int32).toInt = -1 := by decide
  omega
theorem a_lotsFor (hX : WOk X) (s x : Int32) : Ag (fun M => fX11_lotsFor M s x) (fun M => fX12_lotsFor M s x) kN X := by
  have hk := hX.1
  have h8 := hk.1.1
  have core : ∀ (q : Option Nat), (∀ h, q = some h → h < iH (xI X)) → x = shE q → Ag (fun M => fX11_lotsFor M s x) (fun M => fX12_lotsFor M s x) kN X := by
    intro q hq ex
    subst ex
    have cl : ∀ M, CI M X → fX11_lotsFor M s (shE q) = fX11_lotsFor_b10 M s (shE q) := by
      intro M hM
      unfold fX11_lotsFor
      cases q with
      | none => rw [if_pos (show shE none = -1 from rfl)]
      | some h =>
        rw [if_neg (sh_m1 (show h < 1000 by have := hq h rfl; omega)), show shE (some h) = nI h from rfl, c_needH hM.1.1 hk (hq h rfl), bV_ok]
    have rf : ∀ M, RI M X → fX12_isIn (si M 87 3 0) (shE q).toInt64 (-1) (nI (iH (xI X)) - 1).toInt64 = okI (si M 87 3 0) 1 := by
      intro M hM
      cases q with
      | none =>
        refine r_is2 (a := -1) (by decide) rfl (show ¬ shE none < -1 by decide) (fun c => ?_)
        rw [Int32.lt_iff_toInt_lt, show nI (iH (xI X)) - 1 = nI (iH (xI X)) - nI 1 from rfl, pk_sub_toInt (by omega) (by decide)] at c
        have h1 : (shE none).toInt = -1 := by decide
        omega
      | some h => exact r_is2 (a := -1) (by decide) rfl (h_m1 (show h < 1000 by have := hq h rfl; omega)) (m1_ok (by omega) (hq h rfl)).2
    rcases w_cases s 0 99 (by decide) (by decide) with ⟨n, _, hn, rfl⟩ | hs
    · obtain ⟨c1, c2⟩ := lotsFor_core hX q hq (nI n)
      refine Ag.p hX (foldN (cntT (xI X) q (nI n)) (2 ^ iH (xI X)) 0 0) (fun M h => ?_) (fun M h => ⟨si M 87 3 0, ?_, Fr.rf⟩)
      · obtain ⟨M1, e1, F1⟩ := c1 M h
        refine ⟨M1, ?_, F1⟩
        show fX11_lotsFor M (nI n) (shE q) = _
        rw [cl M h]
        unfold fX11_lotsFor_b10
        rw [c_with (nI_pos (by omega)) (ngtL 99 hn (by decide)), bV_ok, e1]
      · show fX12_lotsFor M (nI n) (shE q) = _
        unfold fX12_lotsFor
        rw [wr_eq, h.z0.1.1.1, rf M h, bI_ok, if_neg n10, r_inN (lo := 0) (hi := 99) (by decide) (by decide) (by omega) hn (by decide), bI_ok, if_neg n10]
        exact c2 M h
    · exact Ag.x hX 2 (Or.inr rfl) (fun M h => by
        show fX11_lotsFor M s (shE q) = _
        rw [cl M h]
        unfold fX11_lotsFor_b10
        rw [c_withx (a := 0) (b := 99) hs, bV_x]) (fun M h => ⟨0, by
        unfold fX12_lotsFor
        rw [wr_eq, h.z0.1.1.1, rf M h, bI_ok, if_neg n10, r_inX (lo := 0) (hi := 99) (by decide) (by decide) hs, bI_ok, if_pos rfl, x2x]
        rfl⟩)
  by_cases c : x = -1
  · exact core none (fun h e => by cases e) c
  · rcases h_cases x (iH (xI X)) (by omega) with ⟨h, hh, rfl⟩ | hx
    · exact core (some h) (fun h' e => by cases e; exact hh) rfl
    · exact Ag.x hX 1 (Or.inl rfl) (fun M h => by unfold fX11_lotsFor; rw [if_neg c, c_needHx h.1.1 hx, bV_x]) (fun M h => ⟨0, by
        unfold fX12_lotsFor
        rw [wr_eq, h.z0.1.1.1, r_is2x (a := -1) (b := nI (iH (xI X)) - 1) (by decide) rfl (m1_cases (by omega) c hx), bI_ok, if_pos rfl, x1x]
        rfl⟩)
end

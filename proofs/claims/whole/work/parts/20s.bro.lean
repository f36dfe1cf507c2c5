-- ===== brothers, whom to look at next =====
/-- what a brother of household h would harvest on its share -/
def cpB (I : IS) (S : DS) (lot h yr : Nat) : Int32 := match dH S h with
  | none => 0
  | some p => crp I S lot h p yr
theorem cpB_is (I : IS) (S : DS) (lot h yr : Nat) : ∃ n, n ≤ 99 ∧ cpB I S lot h yr = nI n := by
  unfold cpB
  cases dH S h with
  | none => exact ⟨0, by decide, rfl⟩
  | some p => exact ⟨_, (crp_is I S lot h p yr).1, (crp_is I S lot h p yr).2⟩
section
variable {M : Mem} {I : IS} {S : DS} {h lot yr : Nat}
theorem c_cropB (hI : ICn M I) (hk : IOk I) (hS : DC 39 M S) (hO : DOk I S) (hh : h < iH I) (hl : lot = 0 ∨ lot = 1) (hy : yr < 2 ^ 31) : ∃ M', fX11_cropOfBrother M (nI h) (nI lot) (nI yr) = okI M' (cpB I S lot h yr) ∧ Fr scrC M M' := by
  have h8 := hk.1.1
  unfold fX11_cropOfBrother cpB
  rw [chk_in (by omega) (by decide), ix_nI (by omega), show gi M 41 h = shE (dH S h) from hS.2.2.1 (hO.z (by omega)) h (by omega)]
  cases hp : dH S h with
  | none =>
    unfold fX3_cropOf fX2_hasPlot
    rw [if_pos (show shE none < 0 by decide), bI_ok, if_pos rfl, bI_ok]
    exact ⟨M, rfl, Fr.rf⟩
  | some p =>
    have hpi := hO.2.2.1 h p (by omega) hp
    obtain ⟨M1, e1, F1⟩ := c_crop (lot := lot) (yr := yr) hI hk hS.1 (by decide) hh hpi hl hy
    rw [show shE (some p) = nI p from rfl, e1, bI_ok]
    exact ⟨M1, rfl, F1⟩
theorem r_ownB (hI : IR M I) (hk : IOk I) (hS : DRf M S) (hO : DOk I S) (hh : h < iH I) (hy : yr < 2 ^ 31) : ∃ M', fX12_ownHarvest M (nI h) (nI yr) = okI M' (cpB I S (bitN (dL S) h) h yr) ∧ Fr scrR M M' := r_own hI hk hS hO hh hy
end
/-- all that is seen of h from k on is so -/
def agF (Q : Nat → Nat × Nat × Nat) (h : Nat) (f : Nat → Int32) : Nat → Nat → Bool
  | 0, _ => true
  | d + 1, k => if (Q k).1 = h ∧ f (Q k).2.1 ≠ nI (Q k).2.2 then false else agF Q h f d (k + 1)
def bI32 (b : Bool) : Int32 := if b = true then 1 else 0
section
variable {M : Mem} {X : WX} {h lot : Nat}
theorem c_agrees (hM : CI M X) (hX : WOk X) (hh : h < iH (xI X)) (hl : lot = 0 ∨ lot = 1) : ∃ M', fX11_agrees M (nI h) (nI lot) = okI M' (bI32 (agF (lQ (xL X)) h (cpB (xI X) (lS (xL X)) lot h) (lM (xL X)) 0)) ∧ Fr scrC M M' := by
  have hk := hX.1
  have h8 := hk.1.1
  have hL := hX.2.2.1
  have hO := hL.1.1
  have hm := hL.2.2.1
  have key : ∀ d k, k + d = lM (xL X) → ∀ n, d < n → ∀ M1, Fr scrC M M1 → ∃ M', fX11_agrees_b11 n M1 (nI h) (nI lot) (nI k) = okI M' (bI32 (agF (lQ (xL X)) h (cpB (xI X) (lS (xL X)) lot h) d k)) ∧ Fr scrC M M' := by
    intro d
    induction d with
    | zero =>
      intro k hkd n hn M1 F1
      obtain ⟨m, rfl⟩ : ∃ m, n = m + 1 := ⟨n - 1, by omega⟩
      rw [fX11_agrees_b11]
      dsimp only
      rw [show gi M1 45 3 = nI (lM (xL X)) by rw [F1.i (by decide)]; exact hM.2.1.2.2.1.1, if_neg (nI_nlt (by omega) (by omega))]
      exact ⟨M1, rfl, F1⟩
    | succ d ih =>
      intro k hkd n hn M1 F1
      obtain ⟨m, rfl⟩ : ∃ m, n = m + 1 := ⟨n - 1, by omega⟩
      have qs := hM.2.1.2.2.1.2 k (by omega)
      have qo := hL.2.2.2 k (by omega)
      have q1 : gi M1 46 k = nI (lQ (xL X) k).1 := by rw [F1.i (by decide)]; exact qs.1
      have q2 : gi M1 47 k = nI (lQ (xL X) k).2.1 := by rw [F1.i (by decide)]; exact qs.2.1
      rw [fX11_agrees_b11]
      dsimp only
      unfold fX11_agrees_b63
      rw [show gi M1 45 3 = nI (lM (xL X)) by rw [F1.i (by decide)]; exact hM.2.1.2.2.1.1, if_pos (nI_lt (by omega) (by omega)), if_pos (ltL 8 (by omega) (by decide)), chk_in (by omega) (by decide), ix_nI (by omega), q1, q2, chk_in (by omega) (by decide), nI_p1]
      unfold agF
      by_cases c : (lQ (xL X) k).1 = h
      · obtain ⟨M2, e2, F2⟩ := c_cropB (yr := (lQ (xL X) k).2.1) (hM.1.1.fr F1 apS) hk (hM.2.1.1.fr F1 (apSa (by decide))) hO hh hl (by omega)
        have q3 : gi M2 48 k = nI (lQ (xL X) k).2.2 := by rw [F2.i (by decide), F1.i (by decide)]; exact qs.2.2
        rw [if_pos (by rw [c]), e2, bI_ok, chk_in (by omega) (by decide), q3]
        by_cases c2 : cpB (xI X) (lS (xL X)) lot h (lQ (xL X) k).2.1 = nI (lQ (xL X) k).2.2
        · rw [if_pos c2, if_neg (fun z => z.2 c2)]
          exact ih (k + 1) (by omega) m (by omega) M2 (F1.tr F2)
        · rw [if_neg c2, if_pos ⟨c, c2⟩]
          exact ⟨M2, rfl, F1.tr F2⟩
      · rw [if_neg (c_lit (by omega) (by omega) c), if_neg (fun z => c z.1)]
        exact ih (k + 1) (by omega) m (by omega) M1 F1
  exact key (lM (xL X)) 0 (by omega) FU (FU_gt (by omega)) M Fr.rf
/-- the reference: M holds the world but for the lots; S is the state with them -/
theorem r_asSeen {S : DS} {M0 : Mem} (hM : RI M0 X) (hX : WOk X) (F0 : Fr [87, 106, 107] M0 M) (k0 : gi M 87 39 = gi M0 87 39) (hS : DRf M S) (hO : DOk (xI X) S) (hh : h < iH (xI X)) : ∃ M', fX12_isAsSeen M (nI h) = okI M' (bI32 (agF (lQ (xL X)) h (cpB (xI X) S (bitN (dL S) h) h) (lM (xL X)) 0)) ∧ Fr scrR M M' := by
  have hk := hX.1
  have h8 := hk.1.1
  have hL := hX.2.2.1
  have hm := hL.2.2.1
  have qm : gi M 87 39 = nI (lM (xL X)) := k0.trans hM.2.1.2.2.1.1
  have stop : ∀ d k, k + d = lM (xL X) → ∀ n, d < n → ∀ M1, Fr scrR M M1 → fX12_isAsSeen_b4 n M1 (nI h) 0 (nI k) = okI M1 0 := by
    intro d
    induction d with
    | zero =>
      intro k hkd n hn M1 F1
      obtain ⟨m, rfl⟩ : ∃ m, n = m + 1 := ⟨n - 1, by omega⟩
      rw [fX12_isAsSeen_b4]
      dsimp only
      rw [F1.i (by decide), qm, if_neg (nI_nlt (by omega) (by omega)), chk_tt (by decide)]
    | succ d ih =>
      intro k hkd n hn M1 F1
      obtain ⟨m, rfl⟩ : ∃ m, n = m + 1 := ⟨n - 1, by omega⟩
      rw [fX12_isAsSeen_b4]
      dsimp only
      unfold fX12_isAsSeen_b50 fX12_isAsSeen_b51
      rw [F1.i (by decide), qm, if_pos (nI_lt (by omega) (by omega)), if_pos rfl, nI_p1]
      exact ih (k + 1) (by omega) m (by omega) M1 F1
  have key : ∀ d k, k + d = lM (xL X) → ∀ n, d < n → ∀ M1, Fr scrR M M1 → ∃ M', fX12_isAsSeen_b4 n M1 (nI h) 1 (nI k) = okI M' (bI32 (agF (lQ (xL X)) h (cpB (xI X) S (bitN (dL S) h) h) d k)) ∧ Fr scrR M M' := by
    intro d
    induction d with
    | zero =>
      intro k hkd n hn M1 F1
      obtain ⟨m, rfl⟩ : ∃ m, n = m + 1 := ⟨n - 1, by omega⟩
      rw [fX12_isAsSeen_b4]
      dsimp only
      rw [F1.i (by decide), qm, if_neg (nI_nlt (by omega) (by omega)), chk_tt (by decide)]
      exact ⟨M1, rfl, F1⟩
    | succ d ih =>
      intro k hkd n hn M1 F1
      obtain ⟨m, rfl⟩ : ∃ m, n = m + 1 := ⟨n - 1, by omega⟩
      have qs := hM.2.1.2.2.1.2 k (by omega)
      have qo := hL.2.2.2 k (by omega)
      have q1 : gi M1 112 k = nI (lQ (xL X) k).1 := by rw [F1.i (by decide), F0.i (by decide)]; exact qs.1
      have q2 : gi M1 113 k = nI (lQ (xL X) k).2.1 := by rw [F1.i (by decide), F0.i (by decide)]; exact qs.2.1
      rw [fX12_isAsSeen_b4]
      dsimp only
      unfold fX12_isAsSeen_b46 fX12_isAsSeen_b50 fX12_isAsSeen_b51
      rw [F1.i (by decide), qm, if_pos (nI_lt (by omega) (by omega)), if_neg n10, chk_in (by omega) (by decide), ix_nI (by omega), q1, q2, chk_in (by omega) (by decide), nI_p1]
      unfold agF
      by_cases c : (lQ (xL X) k).1 = h
      · obtain ⟨M2, e2, F2⟩ := r_ownB (yr := (lQ (xL X) k).2.1) ((hM.1.fr F0 (by unfold apart; decide)).fr F1 apR) hk (hS.fr F1 apRd) hO hh (by omega)
        have q3 : gi M2 114 k = nI (lQ (xL X) k).2.2 := by rw [F2.i (by decide), F1.i (by decide), F0.i (by decide)]; exact qs.2.2
        rw [if_pos (by rw [c]), e2, bI_ok, chk_in (by omega) (by decide), q3]
        by_cases c2 : cpB (xI X) S (bitN (dL S) h) h (lQ (xL X) k).2.1 = nI (lQ (xL X) k).2.2
        · rw [if_pos c2, if_neg (fun z => z.2 c2)]
          exact ih (k + 1) (by omega) m (by omega) M2 (F1.tr F2)
        · rw [if_neg c2, if_pos ⟨c, c2⟩, stop d (k + 1) (by omega) m (by omega) M2 (F1.tr F2)]
          exact ⟨M2, rfl, F1.tr F2⟩
      · rw [if_neg (c_lit (by omega) (by omega) c), if_neg (fun z => c z.1)]
        exact ih (k + 1) (by omega) m (by omega) M1 F1
  exact key (lM (xL X)) 0 (by omega) FU (FU_gt (by omega)) M Fr.rf
end
theorem bit_x {l h : Nat} (hl : l < 256) (hh : h < 8) : bitN (l ^^^ 2 ^ h) h = 1 - bitN l h := by
  have : ∀ l, l < 256 → ∀ h, h < 8 → bitN (l ^^^ 2 ^ h) h = 1 - bitN l h := by decide +kernel
  exact this l hl h hh
section
variable {X : WX}
def brA (X : WX) (lot h : Nat) : Bool := agF (lQ (xL X)) h (cpB (xI X) (lS (xL X)) lot h) (lM (xL X)) 0
def brT (X : WX) (h : Nat) (a : Nat × Nat) : Nat × Nat := (if brA X (1 - bitN (dL (lS (xL X))) h) h = true then a.1 ||| 2 ^ h else a.1, if brA X (bitN (dL (lS (xL X))) h) h = true then a.2 ||| 2 ^ h else a.2)
theorem sh8 {s : Nat} (hs : s < 256) : nI s <<< ((8 : Int32) &&& 31) = nI (s <<< 8) := by
  rw [pk_shlN (n := s) _ 8 (by decide) (by omega), Nat.shiftLeft_eq]
theorem sh8h : ∀ h, h < 8 → (1 : Int32) <<< ((8 + nI h) &&& 31) = nI (2 ^ h <<< 8) := by decide
theorem a_brothers (hX : WOk X) : Ag (fun M => fX11_brothers M) (fun M => fX12_brothers M) k0 X := by
  have hk := hX.1
  have h8 := hk.1.1
  have hL := hX.2.2.1
  have hO := hL.1.1
  have blt : ∀ h, h < 8 → ∀ a : Nat × Nat, a.1 < 256 → a.2 < 256 → (brT X h a).1 < 256 ∧ (brT X h a).2 < 256 := by
    intro h hh a h1 h2
    unfold brT
    constructor
    · dsimp only
      split
      · exact or_lt h1 hh
      · exact h1
    · dsimp only
      split
      · exact or_lt h2 hh
      · exact h2
  refine Ag.u hX (nI ((foldN (brT X) (iH (xI X)) 0 (0, 0)).2 <<< 8 ||| (foldN (brT X) (iH (xI X)) 0 (0, 0)).1)) (fun M hM => ?_) (fun M hM => ?_)
  · obtain ⟨M', ⟨F', _⟩, e'⟩ := loopI (fun n M k (a : Nat × Nat) => fX11_brothers_b6 n M (nI a.1) (nI a.2) (nI k)) (fun k M' a => Fr scrC M M' ∧ a.1 < 256 ∧ a.2 < 256) (iH (xI X)) (brT X) (fun M a => okI M (nI (a.2 <<< 8 ||| a.1)))
      (by
        intro n M1 k a ⟨F1, h1, h2⟩ hkk
        obtain ⟨b1, b2⟩ := blt k (by omega) a h1 h2
        have hM1 := hM.q (scrQ_c F1)
        have hb := bitN_2 (dL (lS (xL X))) k
        obtain ⟨M2, e2, F2⟩ := c_agrees (lot := 1 - bitN (dL (lS (xL X))) k) hM1 hX hkk (by omega)
        obtain ⟨M3, e3, F3⟩ := c_agrees (lot := bitN (dL (lS (xL X))) k) (hM1.q (scrQ_c F2)) hX hkk hb
        rw [fX11_brothers_b6]
        dsimp only
        unfold fX11_brothers_b51 fX11_brothers_b67
        rw [hM1.1.1.1.1, if_pos (nI_lt hkk (by omega)), c_lot hM1.2.1.1.1 hO.1.1 (by omega), bI_ok, show (1 : Int32) - nI (bitN (dL (lS (xL X))) k) = nI (1 - bitN (dL (lS (xL X))) k) from pk_sub (a := 1) (by omega), e2, bI_ok, e3, bI_ok, bI_ok, or_bit k (by omega), nI_or, nI_or, nI_p1]
        refine ⟨M3, ⟨(F1.tr F2).tr F3, b1, b2⟩, ?_⟩
        unfold brT brA bI32
        dsimp only
        cases agF (lQ (xL X)) k (cpB (xI X) (lS (xL X)) (1 - bitN (dL (lS (xL X))) k) k) (lM (xL X)) 0 <;> cases agF (lQ (xL X)) k (cpB (xI X) (lS (xL X)) (bitN (dL (lS (xL X))) k) k) (lM (xL X)) 0 <;> rfl)
      (by
        intro n M1 a ⟨F1, h1, h2⟩
        rw [fX11_brothers_b6]
        dsimp only
        rw [(hM.q (scrQ_c F1)).1.1.1.1, if_neg (nI_nlt (Nat.le_refl _) (by omega)), sh8 h2, nI_or])
      (iH (xI X)) 0 (by omega) FU (FU_gt (by omega)) M (0, 0) ⟨Fr.rf, (by decide : (0 : Nat) < 256), (by decide : (0 : Nat) < 256)⟩
    exact ⟨M', e', scrQ_c F'⟩
  · have R0 := hM.z0
    have D0 := R0.2.1.1
    obtain ⟨M', ⟨F', m', D', _⟩, e'⟩ := loopI (fun n M k (a : Nat × Nat) => fX12_brothers_b14 n M (nI (a.2 <<< 8 ||| a.1)) (nI (dL (lS (xL X)))) (nI k)) (fun k M' a => Fr [87, 106, 107] (si M 87 3 0) M' ∧ (∀ j, j ≠ 35 → gi M' 87 j = gi (si M 87 3 0) 87 j) ∧ DRf M' (lS (xL X)) ∧ a.1 < 256 ∧ a.2 < 256) (iH (xI X)) (brT X) (fun M a => okI M (nI (a.2 <<< 8 ||| a.1)))
      (by
        intro n M1 k a ⟨F1, m1, D1, h1, h2⟩ hkk
        obtain ⟨b1, b2⟩ := blt k (by omega) a h1 h2
        have hb := bitN_2 (dL (lS (xL X))) k
        obtain ⟨M2, e2, F2⟩ := r_asSeen R0 hX F1 (m1 39 (by decide)) D1 hO hkk
        obtain ⟨M3, hM3⟩ : ∃ M3, M3 = si M2 87 35 (nI (dL (lS (xL X)) ^^^ 2 ^ k)) := ⟨_, rfl⟩
        have F3 : Fr [87, 106, 107] (si M 87 3 0) M3 := by rw [hM3]; exact (F1.tr (F2.mono (by unfold scrR; decide))).wi (by decide)
        have m3 : ∀ j, j ≠ 35 → gi M3 87 j = gi (si M 87 3 0) 87 j := fun j hj => by rw [hM3, gi_si_k hj, F2.i (by decide)]; exact m1 j hj
        have D2 := D1.fr F2 apRd
        have D3 : DRf M3 (setLC (lS (xL X)) (dL (lS (xL X)) ^^^ 2 ^ k) (dC (lS (xL X)))) := by
          rw [hM3]
          exact ⟨LC_DR D2.1 gi_si_s ((gi_si_k (by decide)).trans D2.1.2.2.2.2.2.2) (fun j _ _ a _ => gi_si_k a), fun z j hj => by rw [gi_si_a (by decide)]; exact D2.2.1 z j hj, fun z j hj => by rw [gi_si_a (by decide)]; exact D2.2.2.1 z j hj, fun j hj => by rw [gi_si_a (by decide)]; exact D2.2.2.2 j hj⟩
        have O3 : DOk (xI X) (setLC (lS (xL X)) (dL (lS (xL X)) ^^^ 2 ^ k) (dC (lS (xL X)))) := LC_ok hO (xor_lt hO.1.1 (by omega))
        obtain ⟨M4, e4, F4⟩ := r_asSeen R0 hX F3 (m3 39 (by decide)) D3 O3 hkk
        have ex : agF (lQ (xL X)) k (cpB (xI X) (setLC (lS (xL X)) (dL (lS (xL X)) ^^^ 2 ^ k) (dC (lS (xL X)))) (bitN (dL (setLC (lS (xL X)) (dL (lS (xL X)) ^^^ 2 ^ k) (dC (lS (xL X))))) k) k) (lM (xL X)) 0 = brA X (1 - bitN (dL (lS (xL X))) k) k := by
          rw [show dL (setLC (lS (xL X)) (dL (lS (xL X)) ^^^ 2 ^ k) (dC (lS (xL X)))) = dL (lS (xL X)) ^^^ 2 ^ k from rfl, bit_x hO.1.1 (by omega)]
          rfl
        rw [ex] at e4
        have D4 := D3.fr F4 apRd
        rw [fX12_brothers_b14]
        dsimp only
        unfold fX12_brothers_b43 fX12_brothers_b70
        rw [(R0.1.fr F1 (by unfold apart; decide)).1.1, if_pos (nI_lt hkk (by omega)), e2, bI_ok]
        simp only [wr_eq, or_bit k (show k < 8 by omega), nx_xor, ← hM3, e4, bI_ok, sh8h k (show k < 8 by omega), nI_or, nI_p1, Int32.or_zero]
        refine ⟨si M4 87 35 (nI (dL (lS (xL X)))), ⟨(F3.tr (F4.mono (by unfold scrR; decide))).wi (by decide), fun j hj => by rw [gi_si_k hj, F4.i (by decide)]; exact m3 j hj, ?_, b1, b2⟩, ?_⟩
        · exact ⟨⟨gi_si_s, (gi_si_k (by decide)).trans D4.1.2.1, (gi_si_k (by decide)).trans D4.1.2.2.1, (gi_si_k (by decide)).trans D4.1.2.2.2.1, (gi_si_k (by decide)).trans D4.1.2.2.2.2.1, (gi_si_k (by decide)).trans D4.1.2.2.2.2.2.1, (gi_si_k (by decide)).trans D4.1.2.2.2.2.2.2⟩, fun z j hj => by rw [gi_si_a (by decide)]; exact D4.2.1 z j hj, fun z j hj => by rw [gi_si_a (by decide)]; exact D4.2.2.1 z j hj, fun j hj => by rw [gi_si_a (by decide)]; exact D4.2.2.2 j hj⟩
        · have es : agF (lQ (xL X)) k (cpB (xI X) (lS (xL X)) (bitN (dL (lS (xL X))) k) k) (lM (xL X)) 0 = brA X (bitN (dL (lS (xL X))) k) k := rfl
          rw [es]
          unfold brT bI32
          dsimp only
          have r1 : ∀ s o x : Nat, s <<< 8 ||| o ||| x <<< 8 = (s ||| x) <<< 8 ||| o := fun s o x => by rw [Nat.shiftLeft_or_distrib, Nat.or_assoc, Nat.or_comm o, ← Nat.or_assoc]
          cases brA X (bitN (dL (lS (xL X))) k) k <;> cases brA X (1 - bitN (dL (lS (xL X))) k) k <;> simp [r1, Nat.or_assoc])
      (by
        intro n M1 a ⟨F1, _⟩
        rw [fX12_brothers_b14]
        dsimp only
        rw [(R0.1.fr F1 (by unfold apart; decide)).1.1, if_neg (nI_nlt (Nat.le_refl _) (by omega))])
      (iH (xI X)) 0 (by omega) FU (FU_gt (by omega)) (si M 87 3 0) (0, 0) ⟨Fr.rf, fun _ _ => rfl, D0, (by decide : (0 : Nat) < 256), (by decide : (0 : Nat) < 256)⟩
    refine ⟨M', ?_, F'.mono (by unfold scrU; decide), fun k _ b _ => m' k (by omega), D', (m' 3 (by decide)).trans gi_si_s⟩
    show fX12_brothers M = _
    unfold fX12_brothers
    rw [wr_eq, D0.1.1]
    exact e'
end

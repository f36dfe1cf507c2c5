-- ===== the richest, a change, lots that would do =====
/-- the first of the greatest below n -/
def Rich (R : Nat → Nat) (n : Nat) : Option Nat → Prop
  | none => n = 0
  | some r => r < n ∧ (∀ j, j < n → R j ≤ R r) ∧ ∀ j, j < r → R j < R r
theorem Rich.uniq {R : Nat → Nat} {n : Nat} {a b : Option Nat} (ha : Rich R n a) (hb : Rich R n b) : a = b := by
  cases a with
  | none => cases b with
    | none => rfl
    | some r => have h1 : n = 0 := ha; have := hb.1; omega
  | some r => cases b with
    | none => have h1 : n = 0 := hb; have := ha.1; omega
    | some s =>
      obtain ⟨a1, a2, a3⟩ := ha
      obtain ⟨b1, b2, b3⟩ := hb
      by_cases c : r < s
      · have := b3 r c; have := a2 s b1; omega
      · by_cases c2 : s < r
        · have := a3 s c2; have := b2 r a1; omega
        · rw [show r = s by omega]
theorem foldN_add {α : Type} {f : Nat → α → α} : ∀ (m n k : Nat) (a : α), foldN f (m + n) k a = foldN f n (k + m) (foldN f m k a) := by
  intro m
  induction m with
  | zero => intro n k a; rw [Nat.zero_add]; rfl
  | succ m ih =>
    intro n k a
    rw [show m + 1 + n = (m + n) + 1 by omega]
    show foldN f (m + n) (k + 1) (f k a) = foldN f n (k + (m + 1)) (foldN f m (k + 1) (f k a))
    rw [ih, show k + 1 + m = k + (m + 1) by omega]
def alS (S : DS) : Nat := foldN (fun h a => a + dR S h) 8 0 0
theorem alS_i {I : IS} {S : DS} (hk : IOk I) (hO : DOk I S) : alS S = foldN (fun h a => a + dR S h) (iH I) 0 0 := by
  have h8 := hk.1.1
  unfold alS
  obtain ⟨m, hm⟩ : ∃ m, 8 = iH I + m := ⟨8 - iH I, by omega⟩
  rw [hm, foldN_add]
  have := foldN_inv (f := fun h a => a + dR S h) (fun _ a => a = foldN (fun h a => a + dR S h) (iH I) 0 0) m (0 + iH I) (foldN (fun h a => a + dR S h) (iH I) 0 0) rfl (by
    intro j a hj hj2 ha
    rw [hO.2.2.2.2.2 j (by omega) (by omega), Nat.add_zero]
    exact ha)
  exact this
theorem sum_le {S : DS} {I : IS} (hO : DOk I S) (n : Nat) (hn : n ≤ 8) : foldN (fun h a => a + dR S h) n 0 0 ≤ 999 * n := by
  have := foldN_inv (f := fun h a => a + dR S h) (fun k a => a ≤ 999 * k) n 0 0 (Nat.le_refl _) (by
    intro j a _ hj ha
    have := hO.2.2.2.2.1 j (by omega)
    show a + dR S j ≤ 999 * (j + 1)
    omega)
  rw [Nat.zero_add] at this
  exact this
section
variable {M : Mem} {I : IS} {S : DS}
theorem c_stores (hS : ∀ h, h < 8 → gi M 65 h = nI (dR S h)) : fX8_allStores M = okI M (nI (alS S)) := by
  unfold fX8_allStores
  obtain ⟨M', hM, e'⟩ := loopI (fun n M k (a : Nat) => fX8_allStores_b4 n M (nI a) (nI k)) (fun _ M' _ => M' = M) 8 (fun h a => a + dR S h) (fun M a => okI M (nI a))
    (by
      intro n M1 k a hM hk
      subst hM
      rw [fX8_allStores_b4]
      dsimp only
      rw [if_pos (ltL 8 hk (by decide)), chk_in hk (by decide), ix_nI (by omega), hS k hk, nadd, nI_p1]
      exact ⟨M1, rfl, rfl⟩)
    (by
      intro n M1 a hM
      rw [fX8_allStores_b4]
      dsimp only
      rw [if_neg (nltL 8 (Nat.le_refl _) (by decide))])
    8 0 (by omega) FU (FU_gt (by omega)) M 0 rfl
  subst hM
  exact e'
theorem r_stores (hI : IR M I) (hk : IOk I) (hO : DOk I S) (hS : ∀ h, h < 8 → gi M 102 h = nI (dR S h)) : fX12_allStored M = okI M (nI (alS S)) := by
  have h8 := hk.1.1
  rw [alS_i hk hO]
  unfold fX12_allStored
  obtain ⟨M', hM, e'⟩ := loopI (fun n M k (a : Nat) => fX12_allStored_b4 n M (nI a) (nI k)) (fun _ M' _ => M' = M) (iH I) (fun h a => a + dR S h) (fun M a => okI M (nI a))
    (by
      intro n M1 k a hM hkk
      subst hM
      rw [fX12_allStored_b4]
      dsimp only
      rw [hI.1.1, if_pos (nI_lt hkk (by omega)), chk_in (by omega) (by decide), ix_nI (by omega), hS k (by omega), nadd, nI_p1]
      exact ⟨M1, rfl, rfl⟩)
    (by
      intro n M1 a hM
      subst hM
      rw [fX12_allStored_b4]
      dsimp only
      rw [hI.1.1, if_neg (nI_nlt (Nat.le_refl _) (by omega))])
    (iH I) 0 (by omega) FU (FU_gt (by omega)) M 0 rfl
  subst hM
  exact e'
end
theorem alS_lt {I : IS} {S : DS} (hO : DOk I S) : alS S < 2 ^ 31 := by
  have := sum_le hO 8 (by decide)
  unfold alS
  omega
section
variable {X : WX}
theorem a_richest (hX : WOk X) (y : Int32) : Ag (fun M => fX11_richest M y) (fun M => fX12_richest M y) kB X := by
  have hk := hX.1
  have h8 := hk.1.1
  have hO := hX.2.2.1.1
  rcases w_cases y 0 50 (by decide) (by decide) with ⟨n, _, hn, rfl⟩ | hy
  · obtain ⟨S', hS'⟩ : ∃ S', S' = yrsS (xE X) (xI X) n (lS (xL X)) := ⟨_, rfl⟩
    have O' : DOk (xI X) S' := by rw [hS']; exact (yrs_ok hk hO.1 (by omega) _).1
    have le9 : ∀ h, h < 8 → dR S' h ≤ 999 := O'.2.2.2.2.1
    -- the class's way finds the first of the richest
    have up : ∃ r, Rich (dR S') (iH (xI X)) r ∧ ∀ M, CI M X → ∃ M1, fX11_richest M (nI n) = okI M1 (shE r) ∧ Fr scrQ M M1 := by
      obtain ⟨stp, hstp⟩ : ∃ stp : Nat → Option Nat → Option Nat, stp = fun k a => match a with
        | none => some k
        | some r => if dR S' r < dR S' k then some k else some r := ⟨_, rfl⟩
      have inv : ∀ k, k ≤ iH (xI X) → Rich (dR S') k (foldN stp k 0 none) := by
        intro k hki
        have := foldN_inv (f := stp) (fun k a => Rich (dR S') k a) k 0 none rfl (by
          intro j a _ hj ha
          rw [hstp]
          cases a with
          | none =>
            have ha : j = 0 := ha
            subst ha
            exact ⟨by omega, fun i hi => by rw [show i = 0 by omega]; exact Nat.le_refl _, fun i hi => by omega⟩
          | some r =>
            obtain ⟨a1, a2, a3⟩ := ha
            show Rich (dR S') (j + 1) (if dR S' r < dR S' j then some j else some r)
            by_cases c : dR S' r < dR S' j
            · rw [if_pos c]
              exact ⟨by omega, fun i hi => by
                by_cases e : i = j
                · rw [e]; exact Nat.le_refl _
                · have := a2 i (by omega); omega, fun i hi => by have := a2 i hi; omega⟩
            · rw [if_neg c]
              exact ⟨by omega, fun i hi => by
                by_cases e : i = j
                · rw [e]; omega
                · exact a2 i (by omega), a3⟩)
        rw [Nat.zero_add] at this
        exact this
      refine ⟨foldN stp (iH (xI X)) 0 none, inv _ (Nat.le_refl _), fun M hM => ?_⟩
      obtain ⟨M1, e1, D1, F1⟩ := c_fore hM hX hn
      rw [← hS'] at D1
      have I1 := hM.1.1.fr F1 apQ
      obtain ⟨M2, ⟨hM2, _⟩, e2⟩ := loopI (fun f M k (a : Option Nat) => fX11_richest_b20 f M (shE a) (match a with
          | none => -1
          | some r => nI (dR S' r)) (nI k)) (fun k M' a => M' = M1 ∧ Rich (dR S') k a) (iH (xI X)) stp (fun M a => okI M (shE a))
        (by
          intro f M2 k a ⟨hM2, ha⟩ hkk
          subst hM2
          have q : gi M2 65 k = nI (dR S' k) := D1.2.2.2 k (by omega)
          have hlk := le9 k (by omega)
          have nx : Rich (dR S') (k + 1) (stp k a) := by
            rw [hstp]
            cases a with
            | none =>
              have ha : k = 0 := ha
              subst ha
              exact ⟨by omega, fun i hi => by rw [show i = 0 by omega]; exact Nat.le_refl _, fun i hi => by omega⟩
            | some r =>
              obtain ⟨a1, a2, a3⟩ := ha
              show Rich (dR S') (k + 1) (if dR S' r < dR S' k then some k else some r)
              by_cases c : dR S' r < dR S' k
              · rw [if_pos c]
                exact ⟨by omega, fun i hi => by
                  by_cases e : i = k
                  · rw [e]; exact Nat.le_refl _
                  · have := a2 i (by omega); omega, fun i hi => by have := a2 i hi; omega⟩
              · rw [if_neg c]
                exact ⟨by omega, fun i hi => by
                  by_cases e : i = k
                  · rw [e]; omega
                  · exact a2 i (by omega), a3⟩
          rw [fX11_richest_b20]
          dsimp only
          unfold fX11_richest_b63
          rw [I1.1.1, if_pos (nI_lt hkk (by omega)), chk_in (by omega) (by decide), ix_nI (by omega), q, chk_in (by omega) (by decide), nI_p1]
          refine ⟨M2, ⟨rfl, nx⟩, ?_⟩
          rw [hstp]
          cases a with
          | none =>
            have : (-1 : Int32) < nI (dR S' k) := by
              rw [Int32.lt_iff_toInt_lt, nI_toInt (by omega)]
              have : (-1 : Int32).toInt = -1 := by decide
              omega
            dsimp only
            rw [if_pos this]
            rfl
          | some r =>
            obtain ⟨a1, _⟩ := ha
            have hlr := le9 r (by omega)
            dsimp only
            by_cases c : dR S' r < dR S' k
            · rw [if_pos (nI_lt c (by omega)), if_pos c]
              rfl
            · rw [if_neg (nI_nlt (by omega) (by omega)), if_neg c])
        (by
          intro f M2 a ⟨hM2, _⟩
          subst hM2
          rw [fX11_richest_b20]
          dsimp only
          rw [I1.1.1, if_neg (nI_nlt (Nat.le_refl _) (by omega))])
        (iH (xI X)) 0 (by omega) FU (FU_gt (by omega)) M1 none ⟨rfl, rfl⟩
      subst hM2
      refine ⟨M2, ?_, F1⟩
      unfold fX11_richest
      rw [c_with (nI_pos (by omega)) (ngtL 50 hn (by decide)), bV_ok, e1, bV_ok]
      exact e2
    obtain ⟨r, hr, hc⟩ := up
    refine Ag.t hX (shE r) hc (fun M hM => ?_)
    obtain ⟨M1, M2, e1, e2, R1, R2⟩ := r_fore hM hX hn
    rw [← hS'] at R2
    have I2 := R2.i hM.z0.1
    obtain ⟨M3, e3, R3⟩ := R2.un
    -- from the last one down
    have dn : ∀ k, k ≤ iH (xI X) → ∀ f, k < f → ∀ a : Option Nat, (match a with
        | none => k = iH (xI X)
        | some r => k ≤ r ∧ r < iH (xI X) ∧ (∀ j, k ≤ j → j < iH (xI X) → dR S' j ≤ dR S' r) ∧ ∀ j, k ≤ j → j < r → dR S' j < dR S' r) →
        ∃ b, Rich (dR S') (iH (xI X)) b ∧ fX12_richest_b48 f M2 (shE a) (nI k - 1) = okI M3 (shE b) := by
      intro k
      induction k with
      | zero =>
        intro _ f hf a ha
        obtain ⟨m, rfl⟩ : ∃ m, f = m + 1 := ⟨f - 1, by omega⟩
        refine ⟨a, ?_, ?_⟩
        · cases a with
          | none => exact (show 0 = iH (xI X) from ha).symm
          | some r =>
            obtain ⟨_, a1, a2, a3⟩ := ha
            exact ⟨a1, fun j hj => a2 j (Nat.zero_le _) hj, fun j hj => a3 j (Nat.zero_le _) hj⟩
        · rw [fX12_richest_b48]
          dsimp only
          rw [if_pos (show nI 0 - 1 < 0 by decide), e3, bV_ok]
      | succ k ih =>
        intro hki f hf a ha
        obtain ⟨m, rfl⟩ : ∃ m, f = m + 1 := ⟨f - 1, by omega⟩
        have q : gi M2 102 k = nI (dR S' k) := R2.2.2.2.2.2.2 k (by omega)
        have hlk := le9 k (by omega)
        rw [fX12_richest_b48]
        dsimp only
        unfold fX12_richest_b72 fX12_richest_b74
        rw [nI_m1 (by omega), show k + 1 - 1 = k by omega, if_neg (nI_pos (by omega)), show nI k + (-1) = nI k - 1 from (Int32.sub_eq_add_neg _ _).symm]
        cases a with
        | none =>
          have ha : k + 1 = iH (xI X) := ha
          rw [if_pos (show shE none = -1 from rfl)]
          exact ih (by omega) m (by omega) (some k) ⟨Nat.le_refl _, by omega, fun j h1 h2 => by rw [show j = k by omega]; exact Nat.le_refl _, fun j h1 h2 => by omega⟩
        | some r =>
          obtain ⟨a0, a1, a2, a3⟩ := ha
          have q2 : gi M2 102 r = nI (dR S' r) := R2.2.2.2.2.2.2 r (by omega)
          have hlr := le9 r (by omega)
          rw [if_neg (show ¬ shE (some r) = -1 from sh_m1 (by omega)), chk_in (by omega) (by decide), show shE (some r) = nI r from rfl, chk_in (by omega) (by decide), ix_nI (by omega), ix_nI (by omega), q, q2]
          by_cases c : dR S' k < dR S' r
          · rw [if_pos (nI_lt c (by omega))]
            exact ih (by omega) m (by omega) (some r) ⟨by omega, a1, fun j h1 h2 => by
              by_cases e : j = k
              · rw [e]; omega
              · exact a2 j (by omega) h2, fun j h1 h2 => by
              by_cases e : j = k
              · rw [e]; exact c
              · exact a3 j (by omega) h2⟩
          · rw [if_neg (nI_nlt (by omega) (by omega))]
            exact ih (by omega) m (by omega) (some k) ⟨Nat.le_refl _, by omega, fun j h1 h2 => by
              by_cases e : j = k
              · rw [e]; exact Nat.le_refl _
              · have := a2 j (by omega) h2; omega, fun j h1 h2 => by omega⟩
    obtain ⟨b, hb, eb⟩ := dn (iH (xI X)) (Nat.le_refl _) FU (FU_gt (by omega)) none rfl
    rw [hb.uniq hr] at eb
    refine ⟨M3, ?_, R3⟩
    show fX12_richest M (nI n) = _
    unfold fX12_richest
    rw [wr_eq, r_inN (lo := 0) (hi := 50) (by decide) (by decide) (by omega) hn (by decide), bI_ok, if_neg n10, e1, bV_ok, e2, bV_ok, I2.1.1]
    exact eb
  · exact Ag.x hX 2 (Or.inr rfl) (fun M h => by unfold fX11_richest; rw [c_withx (a := 0) (b := 50) hy, bV_x]) (fun M h => ⟨0, by
      unfold fX12_richest
      rw [wr_eq, r_inX (lo := 0) (hi := 50) (by decide) (by decide) hy, bI_ok, if_pos rfl, x1x]
      rfl⟩)
end

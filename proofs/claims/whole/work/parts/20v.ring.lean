-- ===== rings of exchange, the envied =====
def nxE (I : IS) (S : DS) (m : Nat) : Nat := foldN (fun h t => if bitN m h = 1 then t ||| envS I S h else t) (iH I) 0 0
def itE (I : IS) (S : DS) : Nat → Nat → Nat
  | 0, m => m
  | n + 1, m => itE I S n (nxE I S m)
theorem nxE_lt {I : IS} {S : DS} {m : Nat} (hk : IOk I) : nxE I S m < 256 := by
  have := foldN_inv (f := fun h t => if bitN m h = 1 then t ||| envS I S h else t) (fun _ t => t < 256) (iH I) 0 0 (by decide) (fun j t _ _ ht => by
    split
    · exact Nat.or_lt_two_pow (n := 8) ht (envS_lt hk)
    · exact ht)
  exact this
theorem itE_lt {I : IS} {S : DS} (hk : IOk I) : ∀ n m, m < 256 → itE I S n m < 256 := by
  intro n
  induction n with
  | zero => intro m hm; exact hm
  | succ n ih => intro m _; exact ih _ (nxE_lt hk)
section
variable {M : Mem} {X : WX}
theorem c_find (hM : CI M X) (hX : WOk X) : ∃ M', fX11_findEnvy M = okV M' ∧ Fr scrQ M M' ∧ ∀ h, h < iH (xI X) → gi M' 86 h = nI (envS (xI X) (lS (xL X)) h) := by
  have hk := hX.1
  have h8 := hk.1.1
  have hO := hX.2.2.1.1.1
  unfold fX11_findEnvy
  obtain ⟨M', ⟨F', q'⟩, e'⟩ := loopI (fun n M k (_ : Nat) => fX11_findEnvy_b2 n M (nI k)) (fun k M' _ => Fr scrQ M M' ∧ ∀ h, h < k → gi M' 86 h = nI (envS (xI X) (lS (xL X)) h)) (iH (xI X)) (fun _ a => a) (fun M _ => okV M)
    (by
      intro n M1 k a ⟨F1, q1⟩ hkk
      have hM1 := hM.q F1
      obtain ⟨M2, e2, F2⟩ := c_envy hM1.1.1 hk hM1.2.1.1 hO hkk
      rw [fX11_findEnvy_b2]
      dsimp only
      rw [hM1.1.1.1.1, if_pos (nI_lt hkk (by omega)), e2, bI_ok, chk_in (by omega) (by decide), ix_nI (by omega), wr_eq, nI_p1]
      refine ⟨_, ⟨(F1.tr (scrQ_c F2)).wi (by unfold scrQ; decide), fun h hh => ?_⟩, rfl⟩
      by_cases e : h = k
      · rw [e]; exact gi_si_s
      · rw [gi_si_k e, F2.i (by decide)]; exact q1 h (by omega))
    (by
      intro n M1 a ⟨F1, _⟩
      rw [fX11_findEnvy_b2]
      dsimp only
      rw [(hM.q F1).1.1.1.1, if_neg (nI_nlt (Nat.le_refl _) (by omega))])
    (iH (xI X)) 0 (by omega) FU (FU_gt (by omega)) M 0 ⟨Fr.rf, fun h hh => by omega⟩
  exact ⟨M', e', F', q'⟩
theorem c_comes (hI : ICn M (xI X)) (hk : IOk (xI X)) (hq : ∀ h, h < iH (xI X) → gi M 86 h = nI (envS (xI X) (lS (xL X)) h)) {f n : Nat} (hf : f < 8) (hn : n < 100) : fX11_comesBack M (nI f) (nI n) = okI M (nI (bitN (itE (xI X) (lS (xL X)) n (2 ^ f)) f)) := by
  have h8 := hk.1.1
  have inner : ∀ (rec7 : Mem → Int32 → Int32 → Int32 → Int32 → RS) (x1 x2 x4 : Int32) (m : Nat), m < 256 → fX11_comesBack_b19 rec7 FU M x1 x2 (nI m) x4 0 0 = rec7 M x1 x2 (nI (nxE (xI X) (lS (xL X)) m)) (x4 + 1) := by
    intro rec7 x1 x2 x4 m hm
    obtain ⟨M', ⟨hM', _⟩, e'⟩ := loopI (fun n M k (t : Nat) => fX11_comesBack_b19 rec7 n M x1 x2 (nI m) x4 (nI t) (nI k)) (fun k M' t => M' = M ∧ t < 256) (iH (xI X)) (fun h t => if bitN m h = 1 then t ||| envS (xI X) (lS (xL X)) h else t) (fun M t => rec7 M x1 x2 (nI t) (x4 + 1))
      (by
        intro d M1 k t ⟨hM1, ht⟩ hkk
        subst hM1
        rw [fX11_comesBack_b19]
        dsimp only
        unfold fX11_comesBack_b55
        rw [hI.1.1, if_pos (nI_lt hkk (by omega)), lot_bit hm (by omega), chk_in (by omega) (by decide), ix_nI (by omega), hq k hkk, nI_or, nI_p1]
        rcases bitN_2 m k with e | e
        · rw [e, if_pos (show nI 0 = 0 from rfl), if_neg (by decide)]
          exact ⟨M1, ⟨rfl, ht⟩, rfl⟩
        · rw [e, if_neg (show ¬ nI 1 = 0 by decide), if_pos rfl]
          exact ⟨M1, ⟨rfl, Nat.or_lt_two_pow (n := 8) ht (envS_lt hk)⟩, rfl⟩)
      (by
        intro d M1 t ⟨hM1, _⟩
        subst hM1
        rw [fX11_comesBack_b19]
        dsimp only
        rw [hI.1.1, if_neg (nI_nlt (Nat.le_refl _) (by omega))])
      (iH (xI X)) 0 (by omega) FU (FU_gt (by omega)) M 0 ⟨rfl, by decide⟩
    subst hM'
    exact e'
  have outer : ∀ d k, k + d = n → ∀ g, d < g → ∀ m, m < 256 → fX11_comesBack_b7 g M (nI f) (nI n) (nI m) (nI k) = okI M (nI (bitN (itE (xI X) (lS (xL X)) d m) f)) := by
    intro d
    induction d with
    | zero =>
      intro k hkd g hg m hm
      obtain ⟨g', rfl⟩ : ∃ g', g = g' + 1 := ⟨g - 1, by omega⟩
      rw [fX11_comesBack_b7]
      dsimp only
      rw [if_neg (nI_nlt (by omega) (by omega)), lot_bit hm hf]
      show _ = okI M (nI (bitN m f))
      rcases bitN_2 m f with e | e
      · rw [e, if_pos (show nI 0 = 0 from rfl)]; rfl
      · rw [e, if_neg (show ¬ nI 1 = 0 by decide)]; rfl
    | succ d ih =>
      intro k hkd g hg m hm
      obtain ⟨g', rfl⟩ : ∃ g', g = g' + 1 := ⟨g - 1, by omega⟩
      rw [fX11_comesBack_b7]
      dsimp only
      rw [if_pos (nI_lt (by omega) (by omega)), inner _ _ _ _ m hm, nI_p1]
      exact ih (k + 1) (by omega) g' (by omega) _ (nxE_lt hk)
  unfold fX11_comesBack
  rw [or_bit f hf]
  exact outer n 0 (by omega) FU (FU_gt (by omega)) (2 ^ f) (Nat.pow_lt_pow_right (n := 8) (a := 2) (by decide) hf)
theorem r_round (hI : IR M (xI X)) (hX : WOk X) (hS : DRf M (lS (xL X))) {f n : Nat} (hf : f < 8) (hn : n < 100) : ∃ M', fX12_isRound M (nI f) (nI n) = okI M' (nI (bitN (itE (xI X) (lS (xL X)) n (2 ^ f)) f)) ∧ Fr scrR M M' := by
  have hk := hX.1
  have h8 := hk.1.1
  have hO := hX.2.2.1.1.1
  have inner : ∀ (rec7 : Mem → Int32 → Int32 → Int32 → Int32 → RS) (x1 x2 x4 : Int32) (m : Nat) (M1 : Mem), m < 256 → Fr scrR M M1 → ∃ M2, fX12_isRound_b19 rec7 FU M1 x1 x2 (nI m) x4 0 0 = rec7 M2 x1 x2 (nI (nxE (xI X) (lS (xL X)) m)) (x4 + 1) ∧ Fr scrR M M2 := by
    intro rec7 x1 x2 x4 m M1 hm F1
    obtain ⟨M', ⟨F', _⟩, e'⟩ := loopI (fun n M k (t : Nat) => fX12_isRound_b19 rec7 n M x1 x2 (nI m) x4 (nI t) (nI k)) (fun k M' t => Fr scrR M M' ∧ t < 256) (iH (xI X)) (fun h t => if bitN m h = 1 then t ||| envS (xI X) (lS (xL X)) h else t) (fun M t => rec7 M x1 x2 (nI t) (x4 + 1))
      (by
        intro d M2 k t ⟨F2, ht⟩ hkk
        obtain ⟨M3, e3, F3⟩ := r_envy (hI.fr F2 apR) hk (hS.fr F2 apRd) hO hkk
        rw [fX12_isRound_b19]
        dsimp only
        unfold fX12_isRound_b51
        rw [(hI.fr F2 apR).1.1, if_pos (nI_lt hkk (by omega)), r_isOf hm (by omega), bI_ok, e3, bI_ok, nI_or, nI_p1, Int32.or_zero]
        rcases bitN_2 m k with e | e
        · rw [e, if_pos (show nI 0 = 0 from rfl), if_neg (by decide)]
          exact ⟨M2, ⟨F2, ht⟩, rfl⟩
        · rw [e, if_neg (show ¬ nI 1 = 0 by decide), if_pos rfl]
          exact ⟨M3, ⟨F2.tr F3, Nat.or_lt_two_pow (n := 8) ht (envS_lt hk)⟩, rfl⟩)
      (by
        intro d M2 t ⟨F2, _⟩
        rw [fX12_isRound_b19]
        dsimp only
        rw [(hI.fr F2 apR).1.1, if_neg (nI_nlt (Nat.le_refl _) (by omega))])
      (iH (xI X)) 0 (by omega) FU (FU_gt (by omega)) M1 0 ⟨F1, by decide⟩
    exact ⟨M', e', F'⟩
  have outer : ∀ d k, k + d = n → ∀ g, d < g → ∀ m, m < 256 → ∀ M1, Fr scrR M M1 → ∃ M2, fX12_isRound_b7 g M1 (nI f) (nI n) (nI m) (nI k) = okI M2 (nI (bitN (itE (xI X) (lS (xL X)) d m) f)) ∧ Fr scrR M M2 := by
    intro d
    induction d with
    | zero =>
      intro k hkd g hg m hm M1 F1
      obtain ⟨g', rfl⟩ : ∃ g', g = g' + 1 := ⟨g - 1, by omega⟩
      rw [fX12_isRound_b7]
      dsimp only
      rw [if_neg (nI_nlt (by omega) (by omega)), r_isOf hm hf, bI_ok, chk_tt (by rcases bitN_2 m f with e | e <;> rw [e] <;> decide)]
      exact ⟨M1, rfl, F1⟩
    | succ d ih =>
      intro k hkd g hg m hm M1 F1
      obtain ⟨g', rfl⟩ : ∃ g', g = g' + 1 := ⟨g - 1, by omega⟩
      obtain ⟨M2, e2, F2⟩ := inner (fX12_isRound_b7 g') (nI f) (nI n) (nI k) m M1 hm F1
      rw [fX12_isRound_b7]
      dsimp only
      rw [if_pos (nI_lt (by omega) (by omega)), e2, nI_p1]
      exact ih (k + 1) (by omega) g' (by omega) _ (nxE_lt hk) M2 F2
  unfold fX12_isRound
  rw [or_bit f hf]
  exact outer n 0 (by omega) FU (FU_gt (by omega)) (2 ^ f) (Nat.pow_lt_pow_right (n := 8) (a := 2) (by decide) hf) M Fr.rf
end
def anyF (P : Nat → Bool) : Nat → Nat → Bool
  | 0, _ => false
  | d + 1, k => if P k = true then true else anyF P d (k + 1)
section
variable {X : WX}
theorem a_ring (hX : WOk X) : Ag (fun M => fX11_ring M) (fun M => fX12_ring M) k0 X := by
  have hk := hX.1
  have h8 := hk.1.1
  have hO := hX.2.2.1.1.1
  obtain ⟨B, hB⟩ : ∃ B : Nat → Nat → Bool, B = fun n f => decide (bitN (itE (xI X) (lS (xL X)) n (2 ^ f)) f = 1) := ⟨_, rfl⟩
  refine Ag.p hX (shE (seek (fun n => anyF (B n) (iH (xI X)) 0) (iH (xI X) - 1) 2)) (fun M hM => ?_) (fun M hM => ?_)
  · obtain ⟨M1, e1, F1, q1⟩ := c_find hM hX
    have I1 := hM.1.1.fr F1 apQ
    have inner : ∀ n, n < 100 → ∀ (rec17 : Mem → Int32 → Int32 → RS) d k, k + d = iH (xI X) → ∀ g, d < g → fX11_ring_b24 rec17 g M1 (nI (iH (xI X))) (nI n) (nI k) = if anyF (B n) d k = true then okI M1 (nI n) else rec17 M1 (nI (iH (xI X))) (nI (n + 1)) := by
      intro n hn rec17 d
      induction d with
      | zero =>
        intro k hkd g hg
        obtain ⟨g', rfl⟩ : ∃ g', g = g' + 1 := ⟨g - 1, by omega⟩
        rw [fX11_ring_b24]
        dsimp only
        rw [if_neg (nI_nlt (by omega) (by omega)), nI_p1]
        rfl
      | succ d ih =>
        intro k hkd g hg
        obtain ⟨g', rfl⟩ : ∃ g', g = g' + 1 := ⟨g - 1, by omega⟩
        rw [fX11_ring_b24]
        dsimp only
        rw [if_pos (nI_lt (by omega) (by omega)), c_comes I1 hk q1 (by omega) hn, bI_ok, nI_p1]
        unfold anyF
        rcases bitN_2 (itE (xI X) (lS (xL X)) n (2 ^ k)) k with e | e
        · rw [e, if_pos (show nI 0 = 0 from rfl), if_neg (show ¬ B n k = true by rw [hB]; simp [e])]
          exact ih (k + 1) (by omega) g' (by omega)
        · rw [e, if_neg (show ¬ nI 1 = 0 by decide), if_pos (show B n k = true by rw [hB]; simp [e]), if_pos rfl]
    have outer : ∀ d k, (k + d = iH (xI X) + 1 ∨ (d = 0 ∧ iH (xI X) < k)) → k < 100 → ∀ g, d < g → fX11_ring_b17 g M1 (nI (iH (xI X))) (nI k) = okI M1 (shE (seek (fun n => anyF (B n) (iH (xI X)) 0) d k)) := by
      intro d
      induction d with
      | zero =>
        intro k hkd hk1 g hg
        obtain ⟨g', rfl⟩ : ∃ g', g = g' + 1 := ⟨g - 1, by omega⟩
        rw [fX11_ring_b17]
        dsimp only
        rw [if_pos (nI_lt (by omega) (by omega))]
        rfl
      | succ d ih =>
        intro k hkd hk1 g hg
        obtain ⟨g', rfl⟩ : ∃ g', g = g' + 1 := ⟨g - 1, by omega⟩
        rw [fX11_ring_b17]
        dsimp only
        rw [if_neg (nI_nlt (by omega) (by omega))]
        refine (inner k hk1 (fX11_ring_b17 g') (iH (xI X)) 0 (by omega) FU (FU_gt (by omega))).trans ?_
        unfold seek
        by_cases c : anyF (B k) (iH (xI X)) 0 = true
        · rw [if_pos c, if_pos c]
          rfl
        · rw [if_neg c, if_neg c]
          exact ih (k + 1) (by omega) (by omega) g' (by omega)
    refine ⟨M1, ?_, F1⟩
    show fX11_ring M = _
    unfold fX11_ring
    rw [e1, bV_ok, I1.1.1]
    exact outer (iH (xI X) - 1) 2 (by omega) (by decide) FU (FU_gt (by omega))
  · have R0 := hM.z0
    have inner : ∀ n, n < 100 → ∀ (rec7 : Mem → Int32 → RS) d k, k + d = iH (xI X) → ∀ g, d < g → ∀ M1, Fr scrR (si M 87 3 0) M1 → ∃ M2, fX12_ring_b19 rec7 g M1 (nI n) (nI k) = (if anyF (B n) d k = true then okI M2 (nI n) else rec7 M2 (nI (n + 1))) ∧ Fr scrR (si M 87 3 0) M2 := by
      intro n hn rec7 d
      induction d with
      | zero =>
        intro k hkd g hg M1 F1
        obtain ⟨g', rfl⟩ : ∃ g', g = g' + 1 := ⟨g - 1, by omega⟩
        rw [fX12_ring_b19]
        dsimp only
        rw [(R0.1.fr F1 apR).1.1, if_neg (nI_nlt (by omega) (by omega)), nI_p1]
        exact ⟨M1, rfl, F1⟩
      | succ d ih =>
        intro k hkd g hg M1 F1
        obtain ⟨g', rfl⟩ : ∃ g', g = g' + 1 := ⟨g - 1, by omega⟩
        obtain ⟨M2, e2, F2⟩ := r_round (f := k) (n := n) (R0.1.fr F1 apR) hX (R0.2.1.1.fr F1 apRd) (by omega) hn
        rw [fX12_ring_b19]
        dsimp only
        rw [(R0.1.fr F1 apR).1.1, if_pos (nI_lt (by omega) (by omega)), e2, bI_ok, nI_p1]
        unfold anyF
        rcases bitN_2 (itE (xI X) (lS (xL X)) n (2 ^ k)) k with e | e
        · rw [e, if_pos (show nI 0 = 0 from rfl), if_neg (show ¬ B n k = true by rw [hB]; simp [e])]
          exact ih (k + 1) (by omega) g' (by omega) M2 (F1.tr F2)
        · rw [e, if_neg (show ¬ nI 1 = 0 by decide), if_pos (show B n k = true by rw [hB]; simp [e])]
          exact ⟨M2, (if_pos rfl).symm, F1.tr F2⟩
    have outer : ∀ d k, (k + d = iH (xI X) + 1 ∨ (d = 0 ∧ iH (xI X) < k)) → k < 100 → ∀ g, d < g → ∀ M1, Fr scrR (si M 87 3 0) M1 → ∃ M2, fX12_ring_b7 g M1 (nI k) = okI M2 (shE (seek (fun n => anyF (B n) (iH (xI X)) 0) d k)) ∧ Fr scrR (si M 87 3 0) M2 := by
      intro d
      induction d with
      | zero =>
        intro k hkd hk1 g hg M1 F1
        obtain ⟨g', rfl⟩ : ∃ g', g = g' + 1 := ⟨g - 1, by omega⟩
        rw [fX12_ring_b7]
        dsimp only
        rw [(R0.1.fr F1 apR).1.1, if_pos (nI_lt (by omega) (by omega))]
        exact ⟨M1, rfl, F1⟩
      | succ d ih =>
        intro k hkd hk1 g hg M1 F1
        obtain ⟨g', rfl⟩ : ∃ g', g = g' + 1 := ⟨g - 1, by omega⟩
        obtain ⟨M2, e2, F2⟩ := inner k hk1 (fX12_ring_b7 g') (iH (xI X)) 0 (by omega) FU (FU_gt (by omega)) M1 F1
        have e2 : fX12_ring_b19 (fX12_ring_b7 g') FU M1 (nI k) 0 = _ := e2
        rw [fX12_ring_b7]
        dsimp only
        rw [(R0.1.fr F1 apR).1.1, if_neg (nI_nlt (by omega) (by omega)), e2]
        unfold seek
        by_cases c : anyF (B k) (iH (xI X)) 0 = true
        · rw [if_pos c, if_pos c]
          exact ⟨M2, rfl, F2⟩
        · rw [if_neg c, if_neg c]
          exact ih (k + 1) (by omega) (by omega) g' (by omega) M2 F2
    obtain ⟨M2, e2, F2⟩ := outer (iH (xI X) - 1) 2 (by omega) (by decide) FU (FU_gt (by omega)) (si M 87 3 0) Fr.rf
    refine ⟨M2, ?_, scrP_r F2⟩
    show fX12_ring M = _
    unfold fX12_ring
    rw [wr_eq]
    exact e2
def hmE (I : IS) (S : DS) (h : Nat) : Nat := foldN (fun k a => a + bitN (envS I S k) h) (iH I) 0 0
theorem hmE_le {I : IS} {S : DS} {h : Nat} (hk : IOk I) : hmE I S h < 1000 := by
  have := foldN_inv (f := fun k a => a + bitN (envS I S k) h) (fun k a => a ≤ k) (iH I) 0 0 (Nat.le_refl _) (fun j a _ _ ha => by
    have := bitN_2 (envS I S j) h
    show a + bitN (envS I S j) h ≤ j + 1
    omega)
  have h8 := hk.1.1
  unfold hmE
  omega
def evT (I : IS) (S : DS) (h : Nat) (a : Option Nat × Nat) : Option Nat × Nat := if a.2 < hmE I S h then (some h, hmE I S h) else a
theorem a_envied (hX : WOk X) (y : Int32) : Ag (fun M => fX11_envied M y) (fun M => fX12_envied M y) kA X := by
  have hk := hX.1
  have h8 := hk.1.1
  have hO := hX.2.2.1.1.1
  by_cases cy : y < 0 ∨ 1 < y
  · exact Ag.x hX 1 (Or.inl rfl) (fun M h0 => by unfold fX11_envied; rw [c_whatx (what_c cy), bV_x]) (fun M h0 => ⟨0, by
      unfold fX12_envied fX12_envied_b14
      rw [wr_eq, x1x]
      by_cases c : y < 0
      · rw [if_pos c]; rfl
      · rw [if_neg c, if_pos (cy.resolve_left c)]; rfl⟩)
  · obtain ⟨cy1, cy2⟩ := not_or.mp cy
    refine Ag.p hX (if y = 0 then shE (foldN (evT (xI X) (lS (xL X))) (iH (xI X)) 0 (none, 0)).1 else nI (foldN (evT (xI X) (lS (xL X))) (iH (xI X)) 0 (none, 0)).2) (fun M hM => ?_) (fun M hM => ?_)
    · obtain ⟨M1, e1, F1, q1⟩ := c_find hM hX
      have I1 := hM.1.1.fr F1 apQ
      have many : ∀ h, h < 8 → fX11_howManyEnvy M1 (nI h) = okI M1 (nI (hmE (xI X) (lS (xL X)) h)) := by
        intro h hh
        unfold fX11_howManyEnvy
        obtain ⟨M', hM', e'⟩ := loopI (fun n M k (a : Nat) => fX11_howManyEnvy_b4 n M (nI h) (nI a) (nI k)) (fun _ M' _ => M' = M1) (iH (xI X)) (fun k a => a + bitN (envS (xI X) (lS (xL X)) k) h) (fun M a => okI M (nI a))
          (by
            intro n M2 k a hM2 hkk
            subst hM2
            rw [fX11_howManyEnvy_b4]
            dsimp only
            rw [I1.1.1, if_pos (nI_lt hkk (by omega)), chk_in (by omega) (by decide), ix_nI (by omega), q1 k hkk, lot_bit (envS_lt hk) hh, nadd, nI_p1]
            exact ⟨M2, rfl, rfl⟩)
          (by
            intro n M2 a hM2
            subst hM2
            rw [fX11_howManyEnvy_b4]
            dsimp only
            rw [I1.1.1, if_neg (nI_nlt (Nat.le_refl _) (by omega))])
          (iH (xI X)) 0 (by omega) FU (FU_gt (by omega)) M1 0 rfl
        subst hM'
        exact e'
      obtain ⟨M2, ⟨hM2, _⟩, e2⟩ := loopI (fun n M k (a : Option Nat × Nat) => fX11_envied_b17 n M y (shE a.1) (nI a.2) (nI k)) (fun _ M' a => M' = M1 ∧ a.2 < 1000) (iH (xI X)) (evT (xI X) (lS (xL X))) (fun M a => okI M (if y = 0 then shE a.1 else nI a.2))
        (by
          intro n M2 k a ⟨hM2, ha⟩ hkk
          subst hM2
          have hl := hmE_le (S := lS (xL X)) (h := k) hk
          rw [fX11_envied_b17]
          dsimp only
          unfold fX11_envied_b52
          rw [I1.1.1, if_pos (nI_lt hkk (by omega)), many k (by omega), bI_ok, nI_p1]
          unfold evT
          by_cases c : a.2 < hmE (xI X) (lS (xL X)) k
          · rw [if_pos (nI_lt c (by omega)), if_pos c]
            exact ⟨M2, ⟨rfl, hl⟩, rfl⟩
          · rw [if_neg (nI_nlt (by omega) (by omega)), if_neg c]
            exact ⟨M2, ⟨rfl, ha⟩, rfl⟩)
        (by
          intro n M2 a ⟨hM2, _⟩
          subst hM2
          rw [fX11_envied_b17]
          dsimp only
          rw [I1.1.1, if_neg (nI_nlt (Nat.le_refl _) (by omega))]
          split <;> rfl)
        (iH (xI X)) 0 (by omega) FU (FU_gt (by omega)) M1 (none, 0) ⟨rfl, (by decide : (0 : Nat) < 1000)⟩
      subst hM2
      refine ⟨M2, ?_, F1⟩
      show fX11_envied M y = _
      unfold fX11_envied
      rw [c_what cy1 (what_lt cy2), bV_ok, e1, bV_ok]
      exact e2
    · have R0 := hM.z0
      obtain ⟨M2, ⟨F2, _⟩, e2⟩ := loopI (fun n M k (a : Option Nat × Nat) => fX12_envied_b27 n M y (shE a.1) (nI a.2) (nI k)) (fun _ M' a => Fr scrR (si M 87 3 0) M' ∧ a.2 < 1000) (iH (xI X)) (evT (xI X) (lS (xL X))) (fun M a => okI M (if y = 0 then shE a.1 else nI a.2))
        (by
          intro n M2 k a ⟨F2, ha⟩ hkk
          have hl := hmE_le (S := lS (xL X)) (h := k) hk
          obtain ⟨M3, F3, e3⟩ := loopI (fun d M j (s : Nat) => fX12_envied_b44 (fX12_envied_b27 n) d M y (shE a.1) (nI a.2) (nI k) (nI s) (nI j)) (fun _ M' _ => Fr scrR (si M 87 3 0) M') (iH (xI X)) (fun j s => s + bitN (envS (xI X) (lS (xL X)) j) k) (fun M s => if nI a.2 < nI s then fX12_envied_b92 (fX12_envied_b27 n) M y (nI k) (nI s) (nI k) else fX12_envied_b92 (fX12_envied_b27 n) M y (shE a.1) (nI a.2) (nI k))
            (by
              intro d M3 j s F3 hj
              obtain ⟨M4, e4, F4⟩ := r_envy (R0.1.fr F3 apR) hk (R0.2.1.1.fr F3 apRd) hO hj
              rw [fX12_envied_b44]
              dsimp only
              rw [(R0.1.fr F3 apR).1.1, if_pos (nI_lt hj (by omega)), e4, bI_ok, lot_bit (envS_lt hk) (by omega), nadd, nI_p1]
              exact ⟨M4, F3.tr F4, rfl⟩)
            (by
              intro d M3 s F3
              rw [fX12_envied_b44]
              dsimp only
              rw [(R0.1.fr F3 apR).1.1, if_neg (nI_nlt (Nat.le_refl _) (by omega))])
            (iH (xI X)) 0 (by omega) FU (FU_gt (by omega)) M2 0 F2
          have e3 : fX12_envied_b44 (fX12_envied_b27 n) FU M2 y (shE a.1) (nI a.2) (nI k) 0 0 = if nI a.2 < nI (hmE (xI X) (lS (xL X)) k) then fX12_envied_b92 (fX12_envied_b27 n) M3 y (nI k) (nI (hmE (xI X) (lS (xL X)) k)) (nI k) else fX12_envied_b92 (fX12_envied_b27 n) M3 y (shE a.1) (nI a.2) (nI k) := e3
          rw [fX12_envied_b27]
          dsimp only
          rw [(R0.1.fr F2 apR).1.1, if_pos (nI_lt hkk (by omega)), e3]
          unfold fX12_envied_b92
          rw [nI_p1]
          unfold evT
          by_cases c : a.2 < hmE (xI X) (lS (xL X)) k
          · rw [if_pos (nI_lt c (by omega)), if_pos c]
            exact ⟨M3, ⟨F3, hl⟩, rfl⟩
          · rw [if_neg (nI_nlt (by omega) (by omega)), if_neg c]
            exact ⟨M3, ⟨F3, ha⟩, rfl⟩)
        (by
          intro n M2 a ⟨F2, _⟩
          rw [fX12_envied_b27]
          dsimp only
          rw [(R0.1.fr F2 apR).1.1, if_neg (nI_nlt (Nat.le_refl _) (by omega))]
          split <;> rfl)
        (iH (xI X)) 0 (by omega) FU (FU_gt (by omega)) (si M 87 3 0) (none, 0) ⟨Fr.rf, (by decide : (0 : Nat) < 1000)⟩
      refine ⟨M2, ?_, scrP_r F2⟩
      show fX12_envied M y = _
      unfold fX12_envied
      rw [wr_eq, if_neg cy1, if_neg cy2]
      exact e2
end
